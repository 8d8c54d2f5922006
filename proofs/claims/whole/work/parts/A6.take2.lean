/-! THE PAIR take, together -/
section JxTake2
variable {th : Nat → Nat} {B b : Nat} {xl : List Int32} {σ σ' : jx_S} {f f' : jx_F} {A : Nat → Nat → Nat} {G G' : Nat → Nat → Int32} {T : Nat → Nat} {P : jx_S → Prop} {k : Nat}
theorem rf_keep {m : Nat} (hσ : σ = rf σ m f) (h : ∀ a, m ≤ a → a < m + 63 → σ'.1 a = σ.1 a) : σ' = rf σ' m f := by
  refine rf_ext rfl (fun u => ?_)
  have hu : σ.1 u = (rf σ m f).1 u := congrArg (fun s : jx_S => s.1 u) hσ
  by_cases u1 : u = m
  · rw [h u (by omega) (by omega), hu, u1, rf_obj, rf_obj]
  · by_cases u2 : m < u ∧ u < m + 63
    · rw [h u (by omega) (by omega), hu]
      show (if _ then _ else if _ then _ else _) = (if _ then _ else if _ then _ else _)
      rw [if_neg u1, if_pos u2, if_neg u1, if_pos u2]
    · show _ = (if _ then _ else if _ then _ else _)
      rw [if_neg u1, if_neg u2]
theorem msum_eq {i : Nat} : ∀ {m : Nat}, (∀ s, s < m → f'.1 44 s = f.1 44 s) → (∀ s, s < m → f'.2 45 s = f.2 45 s) → msum f' i m = msum f i m
  | 0, _, _ => rfl
  | m + 1, h1, h2 => by
    unfold msum
    rw [msum_eq (fun s hs => h1 s (by omega)) (fun s hs => h2 s (by omega)), h1 m (by omega), h2 m (by omega)]
theorem PJ_m.of (h : PJ_m f) (h35 : f'.1 35 0 = f.1 35 0) (h40 : f'.1 40 0 = f.1 40 0) (h44 : ∀ s : Nat, (s : Int) < (f.1 40 0).toInt → f'.1 44 s = f.1 44 s) (h45 : ∀ s : Nat, (s : Int) < (f.1 40 0).toInt → f'.2 45 s = f.2 45 s) (h37 : ∀ i : Nat, (i : Int) < (f.1 35 0).toInt → f'.2 37 i = f.2 37 i ∧ f'.2 38 i = f.2 38 i) : PJ_m f' := by
  obtain ⟨x, m, e1, e2, e3, e4⟩ := h
  refine ⟨x, m, by rw [h35]; exact e1, by rw [h40]; exact e2, fun s hs => ?_, fun i hi => ?_⟩
  · rw [h44 s (by omega), h45 s (by omega)]; exact e3 s hs
  · rw [(h37 i (by omega)).1, (h37 i (by omega)).2, msum_eq (fun s hs => h44 s (by omega)) (fun s hs => h45 s (by omega))]
    exact e4 i hi
theorem PI.of' (h : PI f G k) (ho : R_ok f') (hk : ∀ q j, q ∈ [1, 2, 7, 10, 11, 13, 14, 15, 16, 18, 19, 20, 21, 22, 23, 24, 25, 26, 27, 28, 29, 30, 34, 49, 50, 51, 52, 54, 55, 58, 59, 64] → f'.1 q j = f.1 q j) (hl : ∀ j, f'.2 53 j = f.2 53 j) (hx : ∃ x : Nat, (f'.1 35 0).toInt = (x : Int) ∧ ∀ i, x ≤ i → i < 16 → f'.2 38 i = 0 ∧ f'.2 39 i = 0) (hm : PJ_m f') : PI f' G k := by
  obtain ⟨n, a, h1, h2, h3, h4, h5, h6, h7, h8, h9, -, j1, j2, j3, j4, -⟩ := h
  refine ⟨n, a, h1.of ho (fun q j hq => hk q j (by simp only [List.mem_cons, List.not_mem_nil, or_false] at hq ⊢; omega)), fun c c1 c2 => ?_, fun p hp => ?_, fun p p1 p2 q hq => ?_, fun i hi => ?_, fun i i1 i2 => ?_, by rw [hk 2 0 (by decide)]; exact h7, by rw [hk 1 0 (by decide)]; exact h8, by rw [hk 34 0 (by decide)]; exact h9, hx, fun p hp => ?_, fun c c1 c2 => ?_, fun i hi => by rw [hk 55 i (by decide), hk 34 0 (by decide)]; exact j3 i hi, fun i hi => ?_, hm⟩
  · have := h2 c c1 c2
    unfold PI_c1 at this ⊢
    rw [hk 26 c (by decide), hk 27 c (by decide), hk 28 c (by decide), hk 30 c (by decide)]
    obtain ⟨s, q, r, t1, t2, t3, t4, t5, t6, t7, t8⟩ := this
    exact ⟨s, q, r, t1, t2, t3, t4, t5, t6, fun e => by rw [hk 13 _ (by decide)]; exact t7 e, fun e => by rw [hk 14 _ (by decide)]; exact t8 e⟩
  · have := h3 p hp
    unfold PI_p1 at this ⊢
    rw [hk 11 p (by decide), hk 13 p (by decide), hk 14 p (by decide), hk 15 p (by decide), hk 16 p (by decide), hk 10 p (by decide)]
    obtain ⟨st, o, c, u, t1, t2, t3, t4, t5, t6, t7, t8, t9, t10, t11, t12, t13, t14, t15⟩ := this
    exact ⟨st, o, c, u, t1, t2, t3, t4, fun e => by rw [hk 27 _ (by decide), hk 28 _ (by decide)]; exact t5 e, fun e => by rw [hk 27 _ (by decide), hk 28 _ (by decide)]; exact t6 e, t7, fun e => by rw [hk 26 _ (by decide)]; exact t8 e, fun e => by rw [hk 26 _ (by decide)]; exact t9 e, fun e => by rw [hk 26 _ (by decide)]; exact t10 e, fun e => by rw [hk 26 _ (by decide)]; exact t11 e, t12, fun e => by rw [hk 26 _ (by decide)]; exact t13 e, fun e => by rw [hk 26 _ (by decide)]; exact t14 e, t15⟩
  · rw [hk q p (by simp only [List.mem_cons, List.not_mem_nil, or_false] at hq ⊢; omega)]
    exact h4 p p1 p2 q hq
  · obtain ⟨p, t, t1, t2, t3, t4⟩ := h5 i hi
    refine ⟨p, t, by rw [hk 54 i (by decide)]; exact t1, by rw [hk 55 i (by decide)]; exact t2, by rw [hl i]; exact t3, fun e => ?_⟩
    rw [hl i] at e
    rw [hk 11 p (by decide), hk 58 i (by decide), R_conn_eq (f := f) (hk 11 p (by decide)) (hk 13 p (by decide)) (hk 14 p (by decide))]
    exact t4 e
  · rw [hk 55 i (by decide), hl i]
    exact h6 i i1 i2
  · have := j1 p hp
    unfold PJ_p at this ⊢
    rw [hk 22 p (by decide), hk 15 p (by decide), hk 19 p (by decide)]
    exact this
  · have := j2 c c1 c2
    unfold PJ_i R_len at this ⊢
    rw [hk 30 c (by decide), hk 29 _ (by decide), hk 29 _ (by decide), hk 29 _ (by decide)]
    exact this
  · rw [hk 59 0 (by decide)] at hi
    have := j4 i hi
    unfold PJ_k at this ⊢
    rw [hk 64 i (by decide), hk 1 0 (by decide)]
    exact this
theorem PI.of (h : PI f G k) (ho : R_ok f') (hk : ∀ q j, q ∈ [1, 2, 7, 10, 11, 13, 14, 15, 16, 18, 19, 20, 21, 22, 23, 24, 25, 26, 27, 28, 29, 30, 34, 35, 40, 44, 49, 50, 51, 52, 54, 55, 58, 59, 64] → f'.1 q j = f.1 q j) (hl : ∀ q j, q = 53 ∨ q = 37 ∨ q = 38 ∨ q = 39 ∨ q = 45 → f'.2 q j = f.2 q j) : PI f' G k := by
  have h0 := h
  obtain ⟨n, a, h1, h2, h3, h4, h5, h6, h7, h8, h9, ⟨x, h10, h11⟩, j1, j2, j3, j4, j5⟩ := h
  refine h0.of' ho (fun q j hq => hk q j (by simp only [List.mem_cons, List.not_mem_nil, or_false] at hq ⊢; omega)) (fun j => hl 53 j (by omega)) ⟨x, by rw [hk 35 0 (by decide)]; exact h10, fun i i1 i2 => by rw [hl 38 i (by omega), hl 39 i (by omega)]; exact h11 i i1 i2⟩ ?_
  exact j5.of (hk 35 0 (by decide)) (hk 40 0 (by decide)) (fun s _ => hk 44 s (by decide)) (fun s _ => hl 45 s (by omega)) (fun i _ => ⟨hl 37 i (by omega), hl 38 i (by omega)⟩)
/-- a connection's object alone has changed -/
theorem RelC.conn {c : Nat} (hR : RelC th B b xl σ f A G T) (hc : c < 8) (h1 : ∀ q, q ≠ B + 14 + 3 * c → σ'.1 q = σ.1 q) (h2 : σ'.2 = σ.2) (hf : ∀ q j, ¬ (q ∈ [26, 27, 28, 30, 32, 33] ∧ j = c + 1) → f'.1 q j = f.1 q j) (hl : f'.2 = f.2) (hG : ∀ q j, ¬ (q = 1 ∧ j = c) → G' q j = G q j) (hc1 : rl_c1 B σ' f' A G' T c) : RelC th B b xl σ' f' A G' T := by
  have hch : chg (fun a => a = B + 14 + 3 * c) σ σ' T T := ⟨fun a _ hw => h1 a hw, by rw [h2]; exact Nat.le_refl _, fun _ _ => rfl⟩
  have hdy : ∀ a t, dy B σ T a t → ¬ a = B + 14 + 3 * c := fun a t hd e => by have := hd.1; omega
  have hB := hR.1.2.2.2.2.1
  have hk : ∀ q j, q ∉ [26, 27, 28, 30, 32, 33] → f'.1 q j = f.1 q j := fun q j hq => hf q j (fun e => hq e.1)
  have no : ∀ q : Nat, ¬ (26 ≤ q ∧ q ≤ 33) → q ∉ [26, 27, 28, 30, 32, 33] := by
    intro q hq hm
    simp only [List.mem_cons, List.not_mem_nil, or_false] at hm
    omega
  have hX : σ'.1 B = some (cx_e B f' (A 0 0) (G' 0 0)) := by
    rw [h1 B (by omega), hR.1.2.2.2.2.2.1]
    unfold cx_e
    rw [hk 4 0 (by decide), hk 1 0 (by decide), hk 34 0 (by decide), hG 0 0 (by simp)]
  refine ⟨hR.1.mv hch (fun a ha e => by omega) ⟨by omega, by omega, by omega, by omega⟩ (fun a hd => hdy a _ hd) hX (fun q j q1 q2 => hk q j (no q (by omega))) rfl, hR.2.1.mv hch hB ⟨by omega, by omega, by omega⟩ (fun a hd => hdy a _ hd) (fun q j hq => hk q j (no q (by omega))) rfl, fun c' hc' => ?_, hR.2.2.2.1.mv hch hB (by omega) (fun a t hd _ => hdy a t hd) (fun q j q1 q2 => hk q j (no q (by omega))) (fun _ _ _ => rfl) (fun p => hG 2 p (by simp)), hR.2.2.2.2.1.mv hch hB (by omega) (fun a t hd _ => hdy a t hd) (fun q j hq => hk q j (no q (by simp only [List.mem_cons, List.not_mem_nil, or_false] at hq; omega))) (fun j => by rw [hl]) (fun _ _ _ => rfl), hR.2.2.2.2.2.1.mv hch hB (by omega) (fun a t hd _ => hdy a t hd) (fun q j q1 q2 => hk q j (no q (by omega))) (fun _ _ _ => rfl), hR.2.2.2.2.2.2.1.mv hch hB (by omega) (fun a t hd _ => hdy a t hd) (hk 35 0 (no 35 (by omega))) (fun q j _ _ => by rw [hl]) (fun _ _ _ => rfl), hR.2.2.2.2.2.2.2.mv hch hB (by omega) (fun a t hd _ => hdy a t hd) (fun q j q1 q2 => hk q j (no q (by omega))) (fun q j _ => by rw [hl]) (by rw [hk 7 0 (no 7 (by omega))]; exact Int.le_refl _) (by rw [hk 35 0 (no 35 (by omega))]; exact Int.le_refl _) (fun _ _ _ => rfl) (fun _ _ => rfl) (fun _ _ => rfl)⟩
  by_cases e : c' = c
  · subst e; exact hc1
  · exact (hR.2.2.1 c' hc').mv hc' hch hB ⟨by omega, by omega, by omega⟩ (fun a t hd _ => hdy a t hd) (fun q hq => hf q _ (fun z => e (by omega))) (fun j hj => hk 29 _ (by decide)) (fun j hj => hk 31 _ (by decide)) ⟨rfl, rfl, fun _ => rfl⟩ (hG 1 c' (fun z => e z.2))
theorem pair_take (hR : Rel th B b xl σ f A G T) (hI : PI (fN f) G k) (h1 : σ.2.1 + 2 * ngr A B 8 ≤ B + 118 + 100 * k) (h2 : σ.2.2 + 2600 * ngr A B 8 ≤ 81000 + 13000 * k) (hQ : KQ f) : lawp_11 th b B (B + 39) xl σ (Inv th B b xl (k + 1)) := by
  intro c
  have hX := hR.2.1.2.2.2.2.2.1
  have hCA := hR.2.1.2.2.2.2.2.2.2.2.1
  by_cases hc : 1 ≤ c ∧ c ≤ 8
  · obtain ⟨q, hq, hcq⟩ := i32_18 hc
    have hc1 := hR.2.2.2.1 q hq
    have hI0 := hI
    obtain ⟨n, a, hg, -⟩ := hI
    obtain ⟨⟨aN, ha, ha2⟩, z, hz, hz2⟩ := hg.1.2 (q + 1) (by omega)
    have ha : (f.1 33 (q + 1)).toInt = (aN : Int) := ha
    have hz : (f.1 32 (q + 1)).toInt = (z : Int) := hz
    have hr := fun σ0 => r_take (th := th) (σ0 := σ0) (m := B + 39) (d := 28) hcq (by omega) (by omega) ha ha2 hz hz2
    by_cases hz0 : z = 0
    · refine pair_look (w := -2) rfl hR (inv_look hR hI0 h1 h2 hQ) ?_ (fun σ0 => (hr σ0).mp ?_)
      · refine cl_go dt_163 40 [] dt_163_k rfl ?_
        intro C J hC hJ
        conv => whnf
        refine ⟨jx_isC_of hX, hC _ _ _ _ (((k_connAt (d := 28) hX hCA).up (by omega)).mp ?_)⟩
        rintro r σ1 ⟨hcs, hs1⟩
        rw [hs1]
        rcases hcs with ⟨q', hq', hcq', rfl⟩ | ⟨hn, -⟩
        · have eq : q' = q := by omega
          subst eq
          conv => whnf
          refine ⟨jx_isC_of hc1.1, hC _ _ _ _ (((k_take0 (d := 28) hc1.1 ((i32_z hz).mpr hz0)).up (by omega)).mp ?_)⟩
          rintro r σ2 ⟨rfl, rfl⟩
          conv => whnf
          exact ⟨rfl, rfl⟩
        · exact absurd hc hn
      · rintro r f1 h
        rcases h with ⟨-, h3, h4⟩ | ⟨h3, -⟩
        · exact ⟨h3, h4⟩
        · exact absurd hz0 h3
    · have hgv := hc1.2
      rcases hgv with ⟨-, -, -, -, -, -, e0, -⟩ | ⟨d1, d2, hin, y, a', z', hO, ea, ea2, ez, ez2, hw⟩
      · exact absurd ((i32_z hz).mp e0) hz0
      · have ea : (f.1 33 (q + 1)).toInt = (a' : Int) := ea
        have ez : (f.1 32 (q + 1)).toInt = (z' : Int) := ez
        have eaa : a' = aN := by omega
        have ezz : z' = z := by omega
        subst eaa ezz
        have e33 : f.1 33 (q + 1) + 1 - (f.1 33 (q + 1) + 1) / 2000 * 2000 = if a' + 1 = 2000 then 0 else f.1 33 (q + 1) + 1 := by
          have hp1 : (f.1 33 (q + 1) + 1).toInt = ((a' + 1 : Nat) : Int) := by rw [i32_add (c := 1) ha (by decide) (by omega) (by omega)]; omega
          have hp2 := i32_rem (q := 2000) (c := 2000) hp1 (by decide) (by omega)
          refine Int32.toInt_inj.mp ?_
          rw [hp2]
          split
          · rename_i e
            rw [e]; decide
          · rw [hp1, Nat.mod_eq_of_lt (by omega)]
        obtain ⟨f', hf'⟩ : ∃ f', f' = R_take f (q + 1) := ⟨_, rfl⟩
        have o' : ∀ u j, ¬ (u = 0 ∨ (u = 32 ∧ j = q + 1) ∨ (u = 33 ∧ j = q + 1)) → f'.1 u j = f.1 u j := by
          intro u j hu
          rw [hf']
          unfold R_take
          rw [rf_ui_ne (fun e => hu (by omega)), rf_ui_ne (fun e => hu (by omega)), rf_ui_ne (fun e => hu (by omega))]
        have n32 : f'.1 32 (q + 1) = f.1 32 (q + 1) - 1 := by rw [hf']; exact rf_ui_eq
        have n33 : f'.1 33 (q + 1) = if a' + 1 = 2000 then 0 else f.1 33 (q + 1) + 1 := by
          rw [← e33, hf']
          unfold R_take
          rw [rf_ui_ne (by simp), rf_ui_eq]
        have oN : ∀ u j, ¬ ((u = 32 ∧ j = q + 1) ∨ (u = 33 ∧ j = q + 1)) → (fN f').1 u j = (fN f).1 u j := by
          intro u j hu
          show (if _ then _ else _) = (if _ then _ else _)
          split
          · rfl
          · rename_i hs
            refine o' u j (fun e => ?_)
            rcases e with e | e
            · rw [e] at hs; exact hs rfl
            · exact hu e
        have lN : (fN f').2 = (fN f).2 := by rw [hf']; rfl
        have i32' : ((fN f').1 32 (q + 1)).toInt = ((z' - 1 : Nat) : Int) := by
          rw [fN_i rfl, n32, i32_sub (c := 1) hz (by decide) (by omega) (by omega)]
          omega
        have i33' : ((fN f').1 33 (q + 1)).toInt = (((a' + 1) % 2000 : Nat) : Int) := by
          rw [fN_i rfl, n33]
          split
          · rename_i e
            rw [e]; decide
          · rw [i32_add (c := 1) ha (by decide) (by omega) (by omega), Nat.mod_eq_of_lt (by omega)]
            omega
        have hPI : PI (fN f') G (k + 1) := by
          refine hI0.up.of ⟨?_, fun c' hc' => ?_⟩ (fun u j hu => oN u j (fun e => by simp only [List.mem_cons, List.not_mem_nil, or_false] at hu; omega)) (fun u j _ => by rw [lN])
          · rw [oN 6 0 (by omega)]; exact hg.1.1
          · by_cases e : c' = q + 1
            · rw [e]
              exact ⟨⟨_, i33', Nat.mod_lt _ (by omega)⟩, _, i32', by omega⟩
            · rw [oN 33 c' (by omega), oN 32 c' (by omega)]
              exact hg.1.2 c' hc'
        have ecc : cc_e (fN f') A G q = .inr (5, [.int (Int32.ofNat (q + 1)), .int ((fN f).1 26 (q + 1)), va_rf (cp_ref A ((fN f).1 27 (q + 1))), .int ((fN f).1 28 (q + 1)), .int ((fN f).1 30 (q + 1)), .int ((fN f).1 32 (q + 1) - 1), .int (G 1 q), .int (if a' + 1 = 2000 then 0 else (fN f).1 33 (q + 1) + 1), .ref (A 51 q), .ref (A 52 q)]) := by
          unfold cc_e
          rw [oN 26 _ (by omega), oN 27 _ (by omega), oN 28 _ (by omega), oN 30 _ (by omega), fN_i (k := 32) rfl, n32, fN_i (k := 33) rfl, n33]
          rfl
        have hv : y a' = f.1 31 (2000 * (q + 1) + a') := by
          have := hw 0 (by omega)
          rw [Nat.add_zero, Nat.mod_eq_of_lt ha2] at this
          exact this
        refine pair_i (w := f.1 31 (2000 * (q + 1) + a') &&& 255) (f := f) (f' := f') rfl ?_ (fun σ0 => (hr σ0).mp ?_)
        · refine cl_go dt_163 40 [] dt_163_k rfl ?_
          intro C J hC hJ
          conv => whnf
          refine ⟨jx_isC_of hX, hC _ _ _ _ (((k_connAt (d := 28) hX hCA).up (by omega)).mp ?_)⟩
          rintro r σ1 ⟨hcs, hs1⟩
          rw [hs1]
          rcases hcs with ⟨q', hq', hcq', rfl⟩ | ⟨hn, -⟩
          · have eq : q' = q := by omega
            subst eq
            conv => whnf
            refine ⟨jx_isC_of hc1.1, hC _ _ _ _ (((k_take1 (d := 28) (g := fN f') hc1.1 hO ea ha2 ez hz0 ecc).up (by omega)).mp ?_)⟩
            rintro r σ2 ⟨rfl, s1, s2, s3⟩
            conv => whnf
            have hrl : rl_c1 B σ2 (fN f') A G T q' := by
              refine ⟨s1, Or.inr ⟨⟨d1.1, by rw [s3]; exact d1.2.1, d1.2.2⟩, ⟨d2.1, by rw [s3]; exact d2.2.1, d2.2.2⟩, ?_, y, _, _, by rw [s2 _ (by have := d2.1; omega)]; exact hO, i33', Nat.mod_lt _ (by omega), i32', by omega, fun i hi => ?_⟩⟩
              · obtain ⟨yi, ni, g1, g2, g3, g4⟩ := hin
                exact ⟨yi, ni, by rw [s2 _ (by have := d1.1; omega)]; exact g1, by rw [oN 30 _ (by omega)]; exact g2, g3, fun j hj => by rw [oN 29 _ (by omega)]; exact g4 j hj⟩
              · have := hw (i + 1) (by omega)
                rw [oN 31 _ (by omega), show ((a' + 1) % 2000 + i) % 2000 = (a' + (i + 1)) % 2000 by omega]
                exact this
            have hRC : RelC th B b xl σ2 (fN f') A G T := hR.2.conn hq s2 s3 (fun u j hu => oN u j (fun e => hu (by rcases e with e | e <;> exact ⟨by rw [e.1]; decide, e.2⟩))) lN (fun _ _ _ => rfl) hrl
            have hrf : σ2 = rf σ2 (B + 39) f := rf_keep hR.1 (fun u u1 u2 => s2 u (by omega))
            refine ⟨by rw [hv], hrf, (show σ.2.1 ≤ σ2.2.1 by rw [s3]; exact Nat.le_refl _), A, G, T, hRC, ?_⟩
            refine ⟨f', A, G, T, ⟨rf_rf.symm, hRC.rf⟩, hPI, ?_, ?_, hQ.of (fun q j hq => by rw [hf']; unfold R_take; rw [rf_ui_ne (by omega), rf_ui_ne (by omega), rf_ui_ne (by omega)])⟩
            · show σ2.2.1 + 2 * ngr A B 8 ≤ _; rw [s3]; omega
            · show σ2.2.2 + 2600 * ngr A B 8 ≤ _; rw [s3]; omega
          · exact absurd hc hn
        · rintro r f1 h
          rcases h with ⟨h3, -⟩ | ⟨-, h3, h4⟩
          · exact absurd h3 hz0
          · exact ⟨h3, by rw [h4, hf']⟩
  · refine pair_look (w := -1) rfl hR (inv_look hR hI h1 h2 hQ) ?_ (fun σ0 => ?_)
    · refine cl_go dt_163 40 [] dt_163_k rfl ?_
      intro C J hC hJ
      conv => whnf
      refine ⟨jx_isC_of hX, hC _ _ _ _ (((k_connAt (d := 28) hX hCA).up (by omega)).mp ?_)⟩
      rintro r σ1 ⟨hcs, hs1⟩
      rw [hs1]
      rcases hcs with ⟨q, hq, hcq, rfl⟩ | ⟨hn, rfl⟩
      · refine absurd ⟨?_, ?_⟩ hc
        · rw [Int32.le_iff_toInt_le, hcq]; simp; omega
        · rw [Int32.le_iff_toInt_le, hcq]; simp; omega
      · conv => whnf
        exact ⟨rfl, rfl⟩
    · refine rf_go dt_269 40 [] dt_269_k (by decide +kernel) rfl ?_
      intro C J hC hJ
      conv => whnf
      refine hC _ _ _ _ (((r_in (d := 28)).up (by omega)).mp ?_)
      rintro r f1 ⟨hcs, hf1⟩
      rw [hf1]
      rcases hcs with ⟨rfl, hyes⟩ | ⟨rfl, hno⟩
      · exact absurd hyes hc
      · conv => whnf
        refine jx_no (show ¬ ¬ (0 : Int32) = 0 by decide) ?_
        conv => whnf
        exact ⟨rfl, rfl⟩
end JxTake2
