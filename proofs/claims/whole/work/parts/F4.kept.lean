/-! THE PAIR kept -/
def R_stale : Nat → jx_F → jx_F
  | 0, f => f
  | n + 1, f => if f.1 64 0 ≤ f.1 1 0 then R_stale n (R_oldest f (n + 1)) else f
theorem nar_s {x : Int32} {n : Nat} (h : x.toInt = (n : Int)) (hn : n < 128) : vp_nar .byte x = x := by
  have key : ∀ y, y < 128 → vp_nar .byte (Int32.ofNat y) = Int32.ofNat y := by decide +kernel
  rw [i32_eq (x := x) (n := n) h (by omega)]
  exact key n hn
theorem nar_8 (x : Int8) : vp_nar .byte x.toInt32 = x.toInt32 := by
  simp [vp_nar, narrow]
section JxKept
variable {th : Nat → Nat} {B b m d k n : Nat} {xl : List Int32} {σ σ' σ0 : jx_S} {f f' : jx_F} {A A' : Nat → Nat → Nat} {G : Nat → Nat → Int32} {T : Nat → Nat}
theorem R_oldest_o {q j : Nat} (h : ¬ (59 ≤ q ∧ q ≤ 64)) : (R_oldest f n).1 q j = f.1 q j := by
  unfold R_oldest
  rw [rf_ui_ne (by omega), R_olds_o (by omega)]
theorem R_oldest_59 : (R_oldest f n).1 59 0 = f.1 59 0 - 1 := by
  unfold R_oldest
  rw [rf_ui_eq]
theorem R_oldest_l : (R_oldest f n).2 = f.2 := by
  unfold R_oldest
  exact R_olds_l _ _ _
theorem R_oldest_60 {j : Nat} (h : j < 320 * (n - 1)) : (R_oldest f n).1 60 j = vp_nar .byte (f.1 60 (j + 320)) := by
  unfold R_oldest
  rw [rf_ui_ne (by omega), R_olds_60, if_pos (by omega)]
theorem R_oldest_62 {j : Nat} (h : j < 41 * (n - 1)) : (R_oldest f n).1 62 j = vp_nar .byte (f.1 62 (j + 41)) := by
  unfold R_oldest
  rw [rf_ui_ne (by omega), R_olds_62, if_pos (by omega)]
theorem R_oldest_6 {q j : Nat} (hq : q = 61 ∨ q = 63 ∨ q = 64) (h : j < n - 1) : (R_oldest f n).1 q j = f.1 q (j + 1) := by
  unfold R_oldest
  rw [rf_ui_ne (by omega), R_olds_6 hq, if_pos (by omega)]
theorem R_stale_o {q j : Nat} (h : ¬ (59 ≤ q ∧ q ≤ 64)) : ∀ (n : Nat) (f : jx_F), (R_stale n f).1 q j = f.1 q j
  | 0, _ => rfl
  | n + 1, f => by
    unfold R_stale
    split
    · rw [R_stale_o h n, R_oldest_o h]
    · rfl
theorem R_stale_l : ∀ (n : Nat) (f : jx_F), (R_stale n f).2 = f.2
  | 0, _ => rfl
  | n + 1, f => by
    unfold R_stale
    split
    · rw [R_stale_l n, R_oldest_l]
    · rfl
theorem i32_59 {x : Int32} {n : Nat} (h : x.toInt = ((n + 1 : Nat) : Int)) : (x - 1).toInt = (n : Int) := by
  have := Int32.toInt_lt x
  rw [i32_sub (c := 1) h (by decide) (by omega) (by omega)]
  omega
theorem r_stale_l {Q : Option Value → jx_F → Prop} : ∀ (n : Nat) (f : jx_F), (f.1 59 0).toInt = (n : Int) → n ≤ 32 → Q none (R_stale n f) → jx_fj th (rf_g m) (rf σ0 m) (d + 2) 243 0 [(0, .ref 0)] [] f Q
  | 0, f, hn, h32, h => by
    refine rf_at dt_243 40 [] dt_243_k (by decide +kernel) ?_
    intro C J hC hJ
    conv => whnf
    refine jx_yes (show f.1 59 0 ≤ 0 by rw [Int32.le_iff_toInt_le, hn]; decide) ?_
    conv => whnf
    exact h
  | n + 1, f, hn, h32, h => by
    refine rf_at dt_243 40 [(0, [0])] dt_243_k (by decide +kernel) ?_
    intro C J hC hJ
    conv => whnf
    refine jx_no (show ¬ f.1 59 0 ≤ 0 by rw [Int32.le_iff_toInt_le, hn, show (0 : Int32).toInt = 0 by decide]; omega) ?_
    conv => whnf
    refine ⟨jx_in_nat (k := 0) (by decide) (by decide), ?_⟩
    conv => whnf
    refine ⟨fun (h1 : f.1 1 0 < f.1 64 0) => ?_, fun (h1 : ¬ f.1 1 0 < f.1 64 0) => ?_⟩
    · conv => whnf
      have e : R_stale (n + 1) f = f := if_neg (Int32.not_le.mpr h1)
      rw [e] at h
      exact h
    · conv => whnf
      have e : R_stale (n + 1) f = R_stale n (R_oldest f (n + 1)) := if_pos (Int32.not_lt.mp h1)
      rw [e] at h
      refine hC _ _ _ _ ((r_oldest (d := d) hn (by omega) (by omega)).mp ?_)
      rintro r f1 ⟨rfl, hf1⟩
      conv => whnf
      refine hJ _ _ _ _ (r_stale_l n f1 ?_ (by omega) (by rw [hf1]; exact h))
      rw [hf1, R_oldest_59]
      exact i32_59 hn
theorem r_stale (hn : (f.1 59 0).toInt = (n : Int)) (h32 : n ≤ 32) : rfc th σ0 m (d + 3) 243 [.ref 0] f (fun r f' => r = none ∧ f' = R_stale n f) := by
  refine jx_fc_of (Nat.le_of_ble_eq_true rfl) ?_
  exact r_stale_l n f hn h32 ⟨rfl, rfl⟩
theorem r_kept (hn : (f.1 59 0).toInt = (n : Int)) (h32 : n ≤ 32) : rfc th σ0 m (d + 4) 280 [.ref 0] f (fun r f' => r = some (.int ((R_stale n (rf_ui f 0 0 0)).1 59 0)) ∧ f' = R_stale n (rf_ui f 0 0 0)) := by
  refine rf_go dt_280 20 [] dt_280_k (by decide +kernel) rfl ?_
  intro C J hC hJ
  conv => whnf
  refine hC _ _ _ _ ((r_stale (d := d) (f := rf_ui f 0 0 0) (n := n) (by rw [rf_ui_ne (by omega)]; exact hn) h32).mp ?_)
  rintro r f1 ⟨rfl, hf1⟩
  conv => whnf
  rw [hf1]
  exact ⟨rfl, rfl⟩
/-- the KEPT ANSWERS and their list -/
theorem RelC.kept {W : Nat → Prop} {T' : Nat → Nat} (hR : RelC th B b xl σ f A G T) (hch : chg W σ σ' T T') (hW : ∀ a, W a → a = B + 5 ∨ ∃ t, dy B σ T a t ∧ (t = 72 ∨ t = 92)) (hf : ∀ q j, ¬ (59 ≤ q ∧ q ≤ 64) → q < 65 → q ≠ 0 → q ≠ 2 → f'.1 q j = f.1 q j) (hl : ∀ q j, 36 ≤ q → q ≤ 53 → f'.2 q j = f.2 q j) (hA : ∀ q i, ¬ (q = 9 ∨ q = 91 ∨ q = 92 ∨ (q = 70 ∧ i = 2)) → A' q i = A q i) (hk : rl_k th B σ' f' A' T') : RelC th B b xl σ' f' A' G T' := by
  have hB := hR.1.2.2.2.2.1
  have lo : ∀ a, a < B + 102 → a ≠ B + 5 → ¬ W a := fun a h1 h2 h => by
    rcases hW a h with e | ⟨t, e, -⟩
    · exact h2 e
    · have := e.1; omega
  have hd : ∀ a t, dy B σ T a t → t ≠ 72 → t ≠ 92 → ¬ W a := fun a t h1 h2 h3 h => by
    rcases hW a h with e | ⟨t', e, e2⟩
    · have := h1.1; omega
    · have e1 := e.2.2
      rw [h1.2.2] at e1
      omega
  have k0 : ∀ q j, q < 65 → q ≠ 0 → q ≠ 2 → ¬ (59 ≤ q ∧ q ≤ 64) → f'.1 q j = f.1 q j := fun q j z1 z2 z3 z4 => hf q j z4 z1 z2 z3
  obtain ⟨hx, hd', hC, hP, hQ, -, ha, hs⟩ := hR
  refine ⟨hx.mv hch (fun a h => lo a (by omega) (by omega)) ⟨lo _ (by omega) (by omega), lo _ (by omega) (by omega), lo _ (by omega) (by omega), lo _ (by omega) (by omega)⟩ (fun a h => hd a _ h (by omega) (by omega)) ?_ (fun q j q1 q2 => k0 q j (by omega) (by omega) (by omega) (by omega)) (hA 0 0 (by omega)), hd'.mv hch hB ⟨lo _ (by omega) (by omega), lo _ (by omega) (by omega), lo _ (by omega) (by omega)⟩ (fun a h => hd a _ h (by omega) (by omega)) (fun q j hq => k0 q j (by omega) (by omega) (by omega) (by omega)) (hA 4 0 (by omega)), fun c hc => (hC c hc).mv hc hch hB ⟨lo _ (by omega) (by omega), lo _ (by omega) (by omega), lo _ (by omega) (by omega)⟩ (fun a t h ht => hd a t h (by omega) (by omega)) (fun q hq => k0 q _ (by simp only [List.mem_cons, List.not_mem_nil, or_false] at hq; omega) (by simp only [List.mem_cons, List.not_mem_nil, or_false] at hq; omega) (by simp only [List.mem_cons, List.not_mem_nil, or_false] at hq; omega) (by simp only [List.mem_cons, List.not_mem_nil, or_false] at hq; omega)) (fun j _ => k0 29 _ (by omega) (by omega) (by omega) (by omega)) (fun j _ => k0 31 _ (by omega) (by omega) (by omega) (by omega)) ⟨hA 51 c (by omega), hA 52 c (by omega), fun i => hA 6 i (by omega)⟩ rfl, hP.mv hch hB (lo _ (by omega) (by omega)) (fun a t h ht => hd a t h (by omega) (by omega)) (fun q j q1 q2 => k0 q j (by omega) (by omega) (by omega) (by omega)) (fun q i hq => hA q i (by omega)) (fun _ => rfl), hQ.mv hch hB (lo _ (by omega) (by omega)) (fun a t h ht => hd a t h (by omega) (by omega)) (fun q j hq => k0 q j (by simp only [List.mem_cons, List.not_mem_nil, or_false] at hq; omega) (by simp only [List.mem_cons, List.not_mem_nil, or_false] at hq; omega) (by simp only [List.mem_cons, List.not_mem_nil, or_false] at hq; omega) (by simp only [List.mem_cons, List.not_mem_nil, or_false] at hq; omega)) (fun j => hl 53 j (by omega) (by omega)) (fun q i hq => hA q i (by omega)), hk, ha.mv hch hB (lo _ (by omega) (by omega)) (fun a t h ht => hd a t h (by omega) (by omega)) (k0 35 0 (by omega) (by omega) (by omega) (by omega)) (fun q j q1 q2 => hl q j (by omega) (by omega)) (fun q i hq => hA q i (by omega)), hs.mv hch hB (lo _ (by omega) (by omega)) (fun a t h ht => hd a t h (by omega) (by omega)) (fun q j q1 q2 => k0 q j (by omega) (by omega) (by omega) (by omega)) (fun q j hq => hl q j (by omega) (by omega)) (by rw [k0 7 0 (by omega) (by omega) (by omega) (by omega)]; exact Int.le_refl _) (by rw [k0 35 0 (by omega) (by omega) (by omega) (by omega)]; exact Int.le_refl _) (fun q i hq => hA q i (by omega)) (fun i _ => hA 10 i (by omega)) (fun i _ => hA 6 i (by omega))⟩
  rw [hch.1 B (by omega) (lo _ (by omega) (by omega)), hA 0 0 (by omega)]
  have := hx.2.2.2.2.2.1
  rw [this]
  unfold cx_e
  rw [k0 4 0 (by omega) (by omega) (by omega) (by omega), k0 1 0 (by omega) (by omega) (by omega) (by omega), k0 34 0 (by omega) (by omega) (by omega) (by omega)]
/-- the oldest one is removed -/
theorem k_oldest {i : Int32} (hR : RelC th B b xl σ f A G T) (hn : (f.1 59 0).toInt = ((n + 1 : Nat) : Int)) (hi : i.toInt = ((0 : Nat) : Int)) : jc th (d + 3) 115 [.ref (B + 5), .int i] σ (fun r σ' => (∃ x, r = some (.ref x)) ∧ ∃ A', RelC th B b xl σ' (R_oldest f (n + 1)) A' G T ∧ (∀ q i, ¬ (q = 9 ∨ q = 91 ∨ q = 92) → A' q i = A q i) ∧ kp B σ σ' ∧ ∀ q, q ≠ B + 5 → q ≠ A 70 2 → σ'.1 q = σ.1 q) := by
  obtain ⟨n0, m1, m2, hal, hinj, hke⟩ := id hR.2.2.2.2.2.1
  have en : n0 = n + 1 := by omega
  subst en
  have hB := hR.1.2.2.2.2.1
  refine (k_remove (d := d) (k := 0) (x := A 9 0) hal (by omega) hi (by simp) (fun j y hy => ?_)).mp ?_
  · obtain ⟨hj, e⟩ := List.getElem?_eq_some_iff.mp hy
    rw [List.length_map, List.length_range] at hj
    have e2 : A 9 j = y := by simpa using e
    obtain ⟨q1, q2, q3, -⟩ := hke j hj
    rw [e2] at q1 q3
    exact ⟨by have := q1.1; omega, _, _, q3, by decide⟩
  · rintro r σ1 ⟨rfl, h1, h2, h3⟩
    obtain ⟨A', hA'⟩ : ∃ A' : Nat → Nat → Nat, A' = fun q i => if q = 9 ∨ q = 91 ∨ q = 92 then A q (i + 1) else A q i := ⟨_, rfl⟩
    have a9 : ∀ q i, (q = 9 ∨ q = 91 ∨ q = 92) → A' q i = A q (i + 1) := fun q i h => by rw [hA']; exact if_pos h
    have aO : ∀ q i, ¬ (q = 9 ∨ q = 91 ∨ q = 92) → A' q i = A q i := fun q i h => by rw [hA']; exact if_neg h
    have hE : ∀ a, a = A 70 2 → B + 102 ≤ a → dy B σ T a 72 := fun a e hb => by
      rcases hal.2 with ⟨e1, -⟩ | ⟨e1, -⟩
      · have := hR.1.2.2.2.1 1 (by omega)
        omega
      · rw [e]; exact e1
    have hch : chg (fun a => a = B + 5 ∨ (a = A 70 2 ∧ B + 102 ≤ a)) σ σ1 T T := by
      refine ⟨fun a ha hw => ?_, by rw [h3]; exact Nat.le_refl _, fun _ _ => rfl⟩
      by_cases e : a = A 70 2
      · rcases hal.2 with ⟨-, e1⟩ | ⟨e1, -⟩
        · simp at e1
        · exact absurd (Or.inr ⟨e, by rw [e]; exact e1.1⟩) hw
      · exact h2 a (fun z => hw (Or.inl z)) e
    refine ⟨⟨_, rfl⟩, A', hR.kept (A' := A') hch (fun a h => ?_) (fun q j h _ _ _ => R_oldest_o h) (fun _ _ _ _ => by rw [R_oldest_l]) (fun q i h => aO q i (by omega)) ?_, aO, ⟨h3, fun a q1 q2 => h2 a (by omega) (fun z => by have := hE a z; rcases hal.2 with ⟨e1, -⟩ | ⟨e1, -⟩; (have := hR.1.2.2.2.1 1 (by omega); omega); (have := e1.1; omega))⟩, h2⟩
    · rcases h with e | ⟨e1, e2⟩
      · exact Or.inl e
      · exact Or.inr ⟨72, hE a e1 e2, Or.inl rfl⟩
    · refine ⟨n, by rw [R_oldest_59]; exact i32_59 hn, by omega, ?_, fun k k' q1 q2 q3 => ?_, fun k hk => ?_⟩
      · have e : ((List.range (n + 1)).map (A 9)).eraseIdx 0 = (List.range n).map (A' 9) := by
          rw [List.range_succ_eq_map]
          simp only [List.map_cons, List.map_map, List.eraseIdx_cons_zero]
          exact List.map_congr_left (fun i _ => (a9 9 i (by omega)).symm)
        rw [← e, aO 70 2 (by omega)]
        exact h1
      · rw [a9 92 k (by omega), a9 92 k' (by omega)] at q3
        have := hinj (k + 1) (k' + 1) (by omega) (by omega) q3
        omega
      · obtain ⟨q1, q2, q3, ⟨n4, q4, q5, q6⟩, n3, w, q7, q8, q9, q10, q11, q12, q13⟩ := hke (k + 1) (by omega)
        have hdn : ∀ a t, dy B σ T a t → t ≠ 72 → σ1.1 a = σ.1 a := fun a t hd ht => hch.eqv hd (fun z => by
          have h1 := hd.1
          rcases z with z | ⟨z1, z2⟩
          · omega
          · have := (hE a z1 z2).2.2
            rw [hd.2.2] at this
            exact ht this)
        have e62 : ∀ j, j < 41 → (R_oldest f (n + 1)).1 62 (41 * k + j) = vp_nar .byte (f.1 62 (41 * (k + 1) + j)) := fun j hj => by rw [R_oldest_62 (by omega), show 41 * k + j + 41 = 41 * (k + 1) + j by omega]
        have e60 : ∀ j, j < 320 → (R_oldest f (n + 1)).1 60 (320 * k + j) = vp_nar .byte (f.1 60 (320 * (k + 1) + j)) := fun j hj => by rw [R_oldest_60 (by omega), show 320 * k + j + 320 = 320 * (k + 1) + j by omega]
        have e620 : (R_oldest f (n + 1)).1 62 (41 * k) = f.1 62 (41 * (k + 1)) := by
          have := e62 0 (by omega)
          simp only [Nat.add_zero] at this
          rw [this, nar_s q4 (by omega)]
        refine ⟨by rw [a9 9 k (by omega)]; exact hch.mv q1, by rw [a9 92 k (by omega)]; exact hch.mv q2, ?_, ⟨n4, by rw [e620]; exact q4, q5, ?_⟩, n3, w, ?_, q8, q9, by rw [R_oldest_6 (by omega) (by omega)]; exact q10, q11, ?_, fun j j1 j2 j3 => ?_⟩
        · rw [a9 9 k (by omega), hdn _ _ q1 (by omega), q3]
          unfold ck_e
          rw [a9 91 k (by omega), a9 92 k (by omega), R_oldest_6 (by omega) (by omega), R_oldest_6 (by omega) (by omega)]
        · rw [a9 91 k (by omega)]
          obtain ⟨r1, hh, r2, r3⟩ := q6
          refine ⟨hch.mv r1, hh, by rw [hdn _ _ r1 (by omega)]; exact r2, fun j hj => ⟨?_, (r3 j hj).2⟩⟩
          have e1 := e62 (1 + j) (by omega)
          rw [← Nat.add_assoc, ← Nat.add_assoc] at e1
          have e2 : hh j = f.1 62 (41 * (k + 1) + 1 + j) := (r3 j hj).1
          show hh j = (R_oldest f (n + 1)).1 62 (41 * k + 1 + j)
          rw [e1, ← e2]
          exact ((r3 j hj).2).symm
        · rw [a9 92 k (by omega), hdn _ _ q2 (by omega)]
          exact q7
        · have := e60 0 (by omega)
          simp only [Nat.add_zero] at this
          rw [this, q12]
          decide
        · rw [e60 j (by omega), ← q13 j j1 j2 j3, nar_8]
end JxKept
