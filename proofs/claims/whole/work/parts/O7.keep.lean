/-! AN ANSWER IS KEPT: the frames -/
/-- two states that send alike -/
def ag (N : Nat) (g g' : jx_F) : Prop := (∀ q j, (q = 65 → j < N) → ¬ (59 ≤ q ∧ q ≤ 64) → g'.1 q j = g.1 q j) ∧ g'.2 = g.2
section JxKeep
variable {th : Nat → Nat} {B b d n n1 k nw N X Hh : Nat} {xl : List Int32} {σ σ' : jx_S} {f f' f1 g g' F : jx_F} {A A' : Nat → Nat → Nat} {G : Nat → Nat → Int32} {T T' : Nat → Nat} {W : Nat → Prop} {o : Nat → Int32} {c x ev tv hv : Int32} {w : Nat → Int32} {u0 u1 u2 u3 : Value}
theorem ag.ui {q j : Nat} (h : ag N g g') : ag N (rf_ui g q j x) (rf_ui g' q j x) := by
  refine ⟨fun a i h1 h2 => ?_, h.2⟩
  show (if _ then x else g'.1 a i) = (if _ then x else g.1 a i)
  rw [h.1 a i h1 h2]
theorem cp_ag : ∀ (r j : Nat) (k : Int32) (g g' : jx_F), k.toInt = (j : Int) → j + r ≤ N → N ≤ 700 → ag N g g' → ag N (R_cp c r k g) (R_cp c r k g')
  | 0, _, _, _, _, _, _, _, h => h
  | r + 1, j, k, g, g', hk, hj, hN, h => by
    refine cp_ag r (j + 1) (k + 1) _ _ (by rw [i32_add (c := 1) hk (by decide) (by omega) (by omega)]; omega) (by omega) hN ?_
    unfold R_c1
    have e65 : g'.1 65 k.toNatClampNeg = g.1 65 k.toNatClampNeg := h.1 _ _ (fun _ => by rw [i32_nat hk]; omega) (by omega)
    have e32 : g'.1 32 c.toNatClampNeg = g.1 32 c.toNatClampNeg := h.1 _ _ (by omega) (by omega)
    have e33 : g'.1 33 c.toNatClampNeg = g.1 33 c.toNatClampNeg := h.1 _ _ (by omega) (by omega)
    have eix : R_ix g' c = R_ix g c := by unfold R_ix; rw [e32, e33]
    rw [e65, e32, eix]
    exact h.ui.ui
theorem go_ag (h : ag N g g') (hN : (g.1 66 0).toInt = (N : Int)) (hN7 : N ≤ 700) : ag N (R_go g c) (R_go g' c) := by
  have e66 : g'.1 66 0 = g.1 66 0 := h.1 _ _ (by omega) (by omega)
  have h3 : ag N (R_go3 g) (R_go3 g') := by
    unfold R_go3
    rw [e66]
    exact h.ui.ui.ui
  unfold R_go
  rw [h3.1 32 _ (by omega) (by omega), h3.1 66 _ (by omega) (by omega), e66]
  split
  · exact cp_ag _ 0 0 _ _ (by decide) (by rw [i32_nat hN]; omega) hN7 h3
  · rw [h3.1 2 0 (by omega) (by omega)]
    exact h3.ui
theorem RW.eqf (h : RW th B b xl σ f A T) (hf : ∀ q j, q < 65 → f'.1 q j = f.1 q j) (hl : f'.2 = f.2) : RW th B b xl σ f' A T := by
  obtain ⟨G, hR, hs⟩ := h
  exact ⟨G, hR.eqf (fun q j z1 _ _ => hf q j z1) (fun q j _ _ => by rw [hl]), by rw [hf 2 0 (by omega)]; exact hs⟩
/-- what is KEPT -/
theorem kp0_v (hn : n ≤ 32) (hN : (f.1 66 0).toInt = (N : Int)) (hN3 : N ≤ 320) (hl : (f.1 78 1).toNatClampNeg ≤ 40) : (R_kp0 f n).1 61 n = f.1 66 0 ∧ (R_kp0 f n).1 62 (41 * n) = vp_nar .byte (f.1 78 1) ∧ (∀ j, j < (f.1 78 1).toNatClampNeg → (R_kp0 f n).1 62 (41 * n + 1 + j) = vp_nar .byte (f.1 29 (R_hSk f 1 + j))) ∧ (R_kp0 f n).1 63 n = f.1 73 0 ∧ (R_kp0 f n).1 64 n = f.1 1 0 + 240 ∧ (∀ j, j < N → (R_kp0 f n).1 60 (320 * n + j) = vp_nar .byte (f.1 65 j)) ∧ (R_kp0 f n).1 59 0 = f.1 59 0 + 1 ∧ (∀ j, j < 320 * n → (R_kp0 f n).1 60 j = f.1 60 j) ∧ (∀ j, j < 41 * n → (R_kp0 f n).1 62 j = f.1 62 j) ∧ ∀ q k, q = 61 ∨ q = 63 ∨ q = 64 → k < n → (R_kp0 f n).1 q k = f.1 q k := by
  obtain ⟨g, hg⟩ : ∃ g, g = rf_ui (R_cy f 65 0 60 (320 * n) (f.1 66 0).toNatClampNeg) 61 n (f.1 66 0) := ⟨_, rfl⟩
  have og : ∀ q j, q ≠ 60 → q ≠ 61 → g.1 q j = f.1 q j := fun q j z1 z2 => by rw [hg, rf_ui_ne (by omega), R_cy_o (by omega)]
  obtain ⟨c1, c2⟩ := cpT_v (f := g) (k := 1) (S := R_hSk f 1) (q := 62) (at' := 41 * n) (N := (f.1 78 1).toNatClampNeg) (by omega)
  rw [og 78 1 (by omega) (by omega)] at c1
  have e62 : ∀ j, (R_kp0 f n).1 62 j = (R_cpT g 1 (R_hSk f 1) 62 (41 * n) (f.1 78 1).toNatClampNeg).1 62 j := fun j => by
    unfold R_kp0
    rw [rf_ui_ne (by omega), rf_ui_ne (by omega), rf_ui_ne (by omega), ← hg]
  have e60 : ∀ j, (R_kp0 f n).1 60 j = (R_cy f 65 0 60 (320 * n) (f.1 66 0).toNatClampNeg).1 60 j := fun j => by
    unfold R_kp0 R_cpT
    rw [rf_ui_ne (by omega), rf_ui_ne (by omega), rf_ui_ne (by omega), R_cy_o (by omega), rf_ui_ne (by omega), rf_ui_ne (by omega)]
  have e61 : ∀ j, (R_kp0 f n).1 61 j = g.1 61 j := fun j => by
    unfold R_kp0 R_cpT
    rw [rf_ui_ne (by omega), rf_ui_ne (by omega), rf_ui_ne (by omega), R_cy_o (by omega), rf_ui_ne (by omega), ← hg]
  have e63 : ∀ j, (R_kp0 f n).1 63 j = (rf_ui (R_cpT g 1 (R_hSk f 1) 62 (41 * n) (f.1 78 1).toNatClampNeg) 63 n (f.1 73 0)).1 63 j := fun j => by
    unfold R_kp0
    rw [rf_ui_ne (by omega), rf_ui_ne (by omega), ← hg]
  have e64 : ∀ j, (R_kp0 f n).1 64 j = (rf_ui (rf_ui (R_cpT g 1 (R_hSk f 1) 62 (41 * n) (f.1 78 1).toNatClampNeg) 63 n (f.1 73 0)) 64 n (f.1 1 0 + 240)).1 64 j := fun j => by
    unfold R_kp0
    rw [rf_ui_ne (by omega), ← hg]
  refine ⟨by rw [e61, hg, rf_ui_eq], by rw [e62, c1], fun j hj => ?_, by rw [e63, rf_ui_eq], by rw [e64, rf_ui_eq], fun j hj => ?_, ?_, fun j hj => by rw [e60, R_cy_o (by omega)], fun j hj => ?_, fun q k hq hk => ?_⟩
  · have := c2 j hj
    rw [og 29 _ (by omega) (by omega)] at this
    rw [e62, this]
  · rw [e60, R_cy_v (by omega) (by rw [i32_nat hN]; omega), show 0 + (320 * n + j - 320 * n) = j by omega]
  · unfold R_kp0
    rw [rf_ui_eq]
  · rw [e62]
    unfold R_cpT
    rw [R_cy_o (by omega), rf_ui_ne (by omega), og 62 _ (by omega) (by omega)]
  · rcases hq with rfl | rfl | rfl
    · rw [e61, hg, rf_ui_ne (by omega), R_cy_o (by omega)]
    · rw [e63, rf_ui_ne (by omega)]
      unfold R_cpT
      rw [R_cy_o (by omega), rf_ui_ne (by omega), og 63 _ (by omega) (by omega)]
    · rw [e64, rf_ui_ne (by omega), rf_ui_ne (by omega)]
      unfold R_cpT
      rw [R_cy_o (by omega), rf_ui_ne (by omega), og 64 _ (by omega) (by omega)]
theorem k_keptInit (hX : σ.1 X = some (.inr (9, [u0, u1, u2, u3]))) {Wd : Nat} : jc th (d + 1) 148 [.ref X, .ref Hh, .int ev, .int tv, .ref Wd] σ (fun r σ' => r = none ∧ σ'.1 X = some (.inr (9, [.ref Hh, .int ev, .int tv, .ref Wd])) ∧ (∀ a, a ≠ X → σ'.1 a = σ.1 a) ∧ σ'.2 = σ.2) := by
  refine cl_go dt_148 60 [] dt_148_k rfl ?_
  intro C J hC hJ
  conv => whnf
  refine putK hX rfl (fit_a _ rfl) (fun s1 p1 o1 n1 => ?_)
  conv => whnf
  refine putK p1 rfl (fit_i _) (fun s2 p2 o2 n2 => ?_)
  conv => whnf
  refine putK p2 rfl (fit_i _) (fun s3 p3 o3 n3 => ?_)
  conv => whnf
  refine putK p3 rfl (fit_a _ rfl) (fun s4 p4 o4 n4 => ?_)
  conv => whnf
  exact ⟨rfl, p4, fun a h => (o4 a h).trans ((o3 a h).trans ((o2 a h).trans (o1 a h))), by rw [n4, n3, n2, n1]⟩
theorem k_setHop {Wd : Nat} (hX : σ.1 X = some (.inr (9, [u0, u1, u2, .ref Wd]))) (hw : σ.1 Wd = some (.inl (1, nw, .inl w))) (h5 : 5 ≤ nw) (h64 : nw ≤ 64) : jc th (d + 1) 117 [.ref X, .int hv] σ (fun r σ' => r = none ∧ σ'.1 Wd = some (.inl (1, nw, .inl (upd w 3 hv))) ∧ (∀ a, a ≠ Wd → σ'.1 a = σ.1 a) ∧ σ'.2 = σ.2) := by
  refine cl_go dt_117 60 [] dt_117_k rfl ?_
  intro C J hC hJ
  conv => whnf
  refine ⟨_, jx_getF_of (hX) rfl, ?_⟩
  conv => whnf
  refine ⟨_, jx_al_of (hw), ?_⟩
  conv => whnf
  refine jx_no (show ¬ Int32.ofNat nw < 4 by rw [Int32.lt_iff_toInt_lt, i32_ofNat (by omega), show (4 : Int32).toInt = 4 by decide]; omega) ?_
  conv => whnf
  refine ⟨_, jx_getF_of (hX) rfl, ?_⟩
  conv => whnf
  refine istK hw (show (3 : Int32).toInt = ((3 : Nat) : Int) by decide) (by omega) (fun s1 p1 o1 n1 => ?_)
  conv => whnf
  exact ⟨rfl, p1, o1, n1⟩
/-- one more is KEPT -/
theorem RelC.kadd {E' Wd Ht : Nat} (hR : RelC th B b xl σ f1 A G T) (hn : (f1.1 59 0).toInt = (n1 : Int)) (hn31 : n1 ≤ 31) (hch : chg W σ σ' T T') (hW : ∀ a, W a → a = B + 5 ∨ (a = A 70 2 ∧ B + 102 ≤ a)) (hX : dy B σ' T' X 9) (hWd : dy B σ' T' Wd 92) (hWn : ∀ k, k < n1 → A 92 k ≠ Wd)
    (hf : ∀ q j, ¬ (59 ≤ q ∧ q ≤ 64) → q < 65 → q ≠ 0 → q ≠ 2 → f'.1 q j = f1.1 q j) (hl : ∀ q j, 36 ≤ q → q ≤ 53 → f'.2 q j = f1.2 q j) (h59 : (f'.1 59 0).toInt = ((n1 + 1 : Nat) : Int)) (h6 : ∀ q k, q = 61 ∨ q = 63 ∨ q = 64 → k < n1 → f'.1 q k = f1.1 q k) (h62 : ∀ j, j < 41 * n1 → f'.1 62 j = f1.1 62 j) (h60 : ∀ j, j < 320 * n1 → f'.1 60 j = f1.1 60 j)
    (hal : al_at th B σ' T' (B + 5) E' 72 ((List.range n1).map (A 9) ++ [X])) (hXe : σ'.1 X = some (.inr (9, [.ref Ht, .int (f'.1 63 n1), .int (f'.1 64 n1 - 240), .ref Wd]))) (hH : ∃ n : Nat, (f'.1 62 (41 * n1)).toInt = (n : Int) ∧ n ≤ 40 ∧ ro_at B σ' T' Ht n (fun j => f'.1 62 (41 * n1 + 1 + j))) (hwd : σ'.1 Wd = some (.inl (1, nw, .inl w))) (h5 : 5 ≤ nw) (h64 : nw ≤ 64) (h61 : (f'.1 61 n1).toInt = ((4 * nw : Nat) : Int)) (hw0 : w 0 = 16777216 ||| Int32.ofNat (4 * nw)) (h600 : f'.1 60 (320 * n1) = 1) (hoc : ∀ j, 4 ≤ j → j < 4 * nw → (cn_pk w j).toInt32 = f'.1 60 (320 * n1 + j)) :
    RelC th B b xl σ' f' (fun q j => if q = 9 ∧ j = n1 then X else if q = 91 ∧ j = n1 then Ht else if q = 92 ∧ j = n1 then Wd else if q = 70 ∧ j = 2 then E' else A q j) G T' := by
  have hB := hR.1.2.2.2.2.1
  obtain ⟨n0, m1, m2, hal0, hinj, hke⟩ := id hR.2.2.2.2.2.1
  have en0 : n0 = n1 := by omega
  rw [en0] at hal0 hinj hke
  have hE : ∀ a, a = A 70 2 → B + 102 ≤ a → dy B σ T a 72 := fun a e hb => by
    rcases hal0.2 with ⟨e1, -⟩ | ⟨e1, -⟩
    · have := hR.1.2.2.2.1 1 (by omega)
      omega
    · rw [e]; exact e1
  have hdn : ∀ a t, dy B σ T a t → t ≠ 72 → ¬ W a := fun a t hd ht z => by
    have h1 := hd.1
    rcases hW a z with z | ⟨z1, z2⟩
    · omega
    · have := (hE a z1 z2).2.2
      rw [hd.2.2] at this
      exact ht this
  obtain ⟨A'', hA''⟩ : ∃ A'' : Nat → Nat → Nat, A'' = (fun q j => if q = 9 ∧ j = n1 then X else if q = 91 ∧ j = n1 then Ht else if q = 92 ∧ j = n1 then Wd else if q = 70 ∧ j = 2 then E' else A q j) := ⟨_, rfl⟩
  have c9 : A'' 9 n1 = X := by rw [hA'']; exact if_pos ⟨rfl, rfl⟩
  have c91 : A'' 91 n1 = Ht := by rw [hA'']; exact (if_neg (by omega)).trans (if_pos ⟨rfl, rfl⟩)
  have c92 : A'' 92 n1 = Wd := by rw [hA'']; exact (if_neg (by omega)).trans ((if_neg (by omega)).trans (if_pos ⟨rfl, rfl⟩))
  have c70 : A'' 70 2 = E' := by rw [hA'']; exact (if_neg (by omega)).trans ((if_neg (by omega)).trans ((if_neg (by omega)).trans (if_pos ⟨rfl, rfl⟩)))
  have co : ∀ q j, ¬ ((q = 9 ∨ q = 91 ∨ q = 92) ∧ j = n1) → ¬ (q = 70 ∧ j = 2) → A'' q j = A q j := fun q j z1 z2 => by rw [hA'']; exact (if_neg (by omega)).trans ((if_neg (by omega)).trans ((if_neg (by omega)).trans (if_neg (by omega))))
  rw [← hA'']
  refine hR.kept (A' := A'') hch (fun a h => ?_) hf hl (fun q i h => co q i (by omega) (by omega)) ⟨n1 + 1, h59, by omega, ?_, fun k k' q1 q2 q3 => ?_, fun k hk => ?_⟩
  · rcases hW a h with e | ⟨e1, e2⟩
    · exact Or.inl e
    · exact Or.inr ⟨72, hE a e1 e2, Or.inl rfl⟩
  · rw [c70, show (List.range (n1 + 1)).map (A'' 9) = (List.range n1).map (A 9) ++ [X] from ?_]
    · exact hal
    · rw [List.range_succ, List.map_append]
      congr 1
      · exact List.map_congr_left (fun j hj => co 9 j (by have := List.mem_range.mp hj; omega) (by omega))
      · show [A'' 9 n1] = [X]
        rw [c9]
  · by_cases z : k = n1
    · by_cases z' : k' = n1
      · omega
      · rw [z, c92, co 92 k' (by omega) (by omega)] at q3
        exact absurd q3.symm (hWn k' (by omega))
    · by_cases z' : k' = n1
      · rw [z', c92, co 92 k (by omega) (by omega)] at q3
        exact absurd q3 (hWn k (by omega))
      · rw [co 92 k (by omega) (by omega), co 92 k' (by omega) (by omega)] at q3
        exact hinj k k' (by omega) (by omega) q3
  · by_cases z : k = n1
    · rw [z]
      refine ⟨by rw [c9]; exact hX, by rw [c92]; exact hWd, ?_, by rw [c91]; exact hH, nw, w, by rw [c92]; exact hwd, h5, h64, h61, hw0, h600, fun j j1 j2 _ => hoc j j1 j2⟩
      rw [c9, hXe]
      unfold ck_e
      rw [c91, c92]
    · obtain ⟨q1, q2, q3, ⟨n4, q4, q5, q6⟩, n3, w3, q7, q8, q9, q10, q11, q12, q13⟩ := hke k (by omega)
      refine ⟨by rw [co 9 k (by omega) (by omega)]; exact hch.mv q1, by rw [co 92 k (by omega) (by omega)]; exact hch.mv q2, ?_, ⟨n4, by rw [h62 _ (by omega)]; exact q4, q5, ?_⟩, n3, w3, ?_, q8, q9, by rw [h6 61 k (by omega) (by omega)]; exact q10, q11, by rw [h60 _ (by omega)]; exact q12, fun j j1 j2 j3 => by rw [h60 _ (by omega)]; exact q13 j j1 j2 j3⟩
      · rw [co 9 k (by omega) (by omega), hch.eqv q1 (hdn _ _ q1 (by omega)), q3]
        unfold ck_e
        rw [co 91 k (by omega) (by omega), co 92 k (by omega) (by omega), h6 63 k (by omega) (by omega), h6 64 k (by omega) (by omega)]
      · rw [co 91 k (by omega) (by omega)]
        refine ro_eqv (hch.ro (fun a hd => hdn a 81 hd (by omega)) q6) (fun j hj => ?_)
        exact h62 _ (by omega)
      · rw [co 92 k (by omega) (by omega), hch.eqv q2 (hdn _ _ q2 (by omega))]
        exact q7
end JxKeep
