/-! AN ANSWER IS KEPT: the class -/
section JxOldx
variable {th : Nat → Nat} {B b m d k n : Nat} {xl : List Int32} {σ σ' σ0 : jx_S} {f f' : jx_F} {A A' : Nat → Nat → Nat} {G : Nat → Nat → Int32} {T : Nat → Nat}
theorem k_oldestX {i : Int32} (hR : RelC th B b xl σ f A G T) (hn : (f.1 59 0).toInt = ((n + 1 : Nat) : Int)) (hi : i.toInt = ((0 : Nat) : Int)) : jc th (d + 3) 115 [.ref (B + 5), .int i] σ (fun r σ' => (∃ x, r = some (.ref x)) ∧ ∃ A', RelC th B b xl σ' (R_oldest f (n + 1)) A' G T ∧ (∀ q i, ¬ (q = 9 ∨ q = 91 ∨ q = 92) → A' q i = A q i) ∧ (∀ q i, q = 9 ∨ q = 91 ∨ q = 92 → A' q i = A q (i + 1)) ∧ kp B σ σ' ∧ ∀ q, q ≠ B + 5 → q ≠ A 70 2 → σ'.1 q = σ.1 q) := by
  obtain ⟨n0, m1, m2, hal, hinj, hke⟩ := id hR.2.2.2.2.2.1
  have en : n0 = n + 1 := by omega
  subst en
  have hB := hR.1.2.2.2.2.1
  refine (k_remove (d := d) (k := 0) (x := A 9 0) hal (by omega) hi (by simp) (fun j y hy => ?_)).mp ?_
  · obtain ⟨hj, e⟩ := List.getElem?_eq_some_iff.mp hy
    rw [List.length_map, List.length_range] at hj
    have e2 : A 9 j = y := by simpa using e
    obtain ⟨q1, q2, q3, -⟩ := hke j hj
    rw [e2] at q1 q3
    exact ⟨by have := q1.1; omega, _, _, q3, by decide⟩
  · rintro r σ1 ⟨rfl, h1, h2, h3⟩
    obtain ⟨A', hA'⟩ : ∃ A' : Nat → Nat → Nat, A' = fun q i => if q = 9 ∨ q = 91 ∨ q = 92 then A q (i + 1) else A q i := ⟨_, rfl⟩
    have a9 : ∀ q i, (q = 9 ∨ q = 91 ∨ q = 92) → A' q i = A q (i + 1) := fun q i h => by rw [hA']; exact if_pos h
    have aO : ∀ q i, ¬ (q = 9 ∨ q = 91 ∨ q = 92) → A' q i = A q i := fun q i h => by rw [hA']; exact if_neg h
    have hE : ∀ a, a = A 70 2 → B + 102 ≤ a → dy B σ T a 72 := fun a e hb => by
      rcases hal.2 with ⟨e1, -⟩ | ⟨e1, -⟩
      · have := hR.1.2.2.2.1 1 (by omega)
        omega
      · rw [e]; exact e1
    have hch : chg (fun a => a = B + 5 ∨ (a = A 70 2 ∧ B + 102 ≤ a)) σ σ1 T T := by
      refine ⟨fun a ha hw => ?_, by rw [h3]; exact Nat.le_refl _, fun _ _ => rfl⟩
      by_cases e : a = A 70 2
      · rcases hal.2 with ⟨-, e1⟩ | ⟨e1, -⟩
        · simp at e1
        · exact absurd (Or.inr ⟨e, by rw [e]; exact e1.1⟩) hw
      · exact h2 a (fun z => hw (Or.inl z)) e
    refine ⟨⟨_, rfl⟩, A', hR.kept (A' := A') hch (fun a h => ?_) (fun q j h _ _ _ => R_oldest_o h) (fun _ _ _ _ => by rw [R_oldest_l]) (fun q i h => aO q i (by omega)) ?_, aO, a9, ⟨h3, fun a q1 q2 => h2 a (by omega) (fun z => by have := hE a z; rcases hal.2 with ⟨e1, -⟩ | ⟨e1, -⟩; (have := hR.1.2.2.2.1 1 (by omega); omega); (have := e1.1; omega))⟩, h2⟩
    · rcases h with e | ⟨e1, e2⟩
      · exact Or.inl e
      · exact Or.inr ⟨72, hE a e1 e2, Or.inl rfl⟩
    · refine ⟨n, by rw [R_oldest_59]; exact i32_59 hn, by omega, ?_, fun k k' q1 q2 q3 => ?_, fun k hk => ?_⟩
      · have e : ((List.range (n + 1)).map (A 9)).eraseIdx 0 = (List.range n).map (A' 9) := by
          rw [List.range_succ_eq_map]
          simp only [List.map_cons, List.map_map, List.eraseIdx_cons_zero]
          exact List.map_congr_left (fun i _ => (a9 9 i (by omega)).symm)
        rw [← e, aO 70 2 (by omega)]
        exact h1
      · rw [a9 92 k (by omega), a9 92 k' (by omega)] at q3
        have := hinj (k + 1) (k' + 1) (by omega) (by omega) q3
        omega
      · obtain ⟨q1, q2, q3, ⟨n4, q4, q5, q6⟩, n3, w, q7, q8, q9, q10, q11, q12, q13⟩ := hke (k + 1) (by omega)
        have hdn : ∀ a t, dy B σ T a t → t ≠ 72 → σ1.1 a = σ.1 a := fun a t hd ht => hch.eqv hd (fun z => by
          have h1 := hd.1
          rcases z with z | ⟨z1, z2⟩
          · omega
          · have := (hE a z1 z2).2.2
            rw [hd.2.2] at this
            exact ht this)
        have e62 : ∀ j, j < 41 → (R_oldest f (n + 1)).1 62 (41 * k + j) = vp_nar .byte (f.1 62 (41 * (k + 1) + j)) := fun j hj => by rw [R_oldest_62 (by omega), show 41 * k + j + 41 = 41 * (k + 1) + j by omega]
        have e60 : ∀ j, j < 320 → (R_oldest f (n + 1)).1 60 (320 * k + j) = vp_nar .byte (f.1 60 (320 * (k + 1) + j)) := fun j hj => by rw [R_oldest_60 (by omega), show 320 * k + j + 320 = 320 * (k + 1) + j by omega]
        have e620 : (R_oldest f (n + 1)).1 62 (41 * k) = f.1 62 (41 * (k + 1)) := by
          have := e62 0 (by omega)
          simp only [Nat.add_zero] at this
          rw [this, nar_s q4 (by omega)]
        refine ⟨by rw [a9 9 k (by omega)]; exact hch.mv q1, by rw [a9 92 k (by omega)]; exact hch.mv q2, ?_, ⟨n4, by rw [e620]; exact q4, q5, ?_⟩, n3, w, ?_, q8, q9, by rw [R_oldest_6 (by omega) (by omega)]; exact q10, q11, ?_, fun j j1 j2 j3 => ?_⟩
        · rw [a9 9 k (by omega), hdn _ _ q1 (by omega), q3]
          unfold ck_e
          rw [a9 91 k (by omega), a9 92 k (by omega), R_oldest_6 (by omega) (by omega), R_oldest_6 (by omega) (by omega)]
        · rw [a9 91 k (by omega)]
          obtain ⟨r1, hh, r2, r3⟩ := q6
          refine ⟨hch.mv r1, hh, by rw [hdn _ _ r1 (by omega)]; exact r2, fun j hj => ⟨?_, (r3 j hj).2⟩⟩
          have e1 := e62 (1 + j) (by omega)
          rw [← Nat.add_assoc, ← Nat.add_assoc] at e1
          have e2 : hh j = f.1 62 (41 * (k + 1) + 1 + j) := (r3 j hj).1
          show hh j = (R_oldest f (n + 1)).1 62 (41 * k + 1 + j)
          rw [e1, ← e2]
          exact ((r3 j hj).2).symm
        · rw [a9 92 k (by omega), hdn _ _ q2 (by omega)]
          exact q7
        · have := e60 0 (by omega)
          simp only [Nat.add_zero] at this
          rw [this, q12]
          decide
        · rw [e60 j (by omega), ← q13 j j1 j2 j3, nar_8]
end JxOldx
section JxKeepm
variable {th : Nat → Nat} {B b d n n1 k nw N X S H Z R L bb p : Nat} {xl : List Int32} {σ σ' : jx_S} {f f' h g F : jx_F} {A A' : Nat → Nat → Nat} {G : Nat → Nat → Int32} {T T' : Nat → Nat} {o : Nat → Int32} {c cv w z ev t : Int32} {gr en : Int64} {bs : List Int32} {pe : Value}
/-- what the reference KEEPS, row by row -/
theorem keep_v (hn : n ≤ 32) (h59 : (g.1 59 0).toInt = (n : Int)) (hN : (g.1 66 0).toInt = (N : Int)) (hN3 : N ≤ 320) (hl : (g.1 78 1).toNatClampNeg ≤ 40) (hh : ∀ q j, 59 ≤ q → q ≤ 64 → h.1 q j = g.1 q j) (hn1 : n1 = if n = 32 then 31 else n) (hf : f = if n = 32 then R_oldest h 32 else h) :
    ((R_keep g n).1 59 0).toInt = ((n1 + 1 : Nat) : Int) ∧ (∀ q k, q = 61 ∨ q = 63 ∨ q = 64 → k < n1 → (R_keep g n).1 q k = f.1 q k) ∧ (∀ j, j < 41 * n1 → (R_keep g n).1 62 j = f.1 62 j) ∧ (∀ j, j < 320 * n1 → (R_keep g n).1 60 j = f.1 60 j) ∧ (R_keep g n).1 61 n1 = g.1 66 0 ∧ (R_keep g n).1 62 (41 * n1) = vp_nar .byte (g.1 78 1) ∧ (∀ j, j < (g.1 78 1).toNatClampNeg → (R_keep g n).1 62 (41 * n1 + 1 + j) = vp_nar .byte (g.1 29 (R_hSk g 1 + j))) ∧ (R_keep g n).1 63 n1 = g.1 73 0 ∧ (R_keep g n).1 64 n1 = g.1 1 0 + 240 ∧ ∀ j, j < N → (R_keep g n).1 60 (320 * n1 + j) = vp_nar .byte (g.1 65 j) := by
  obtain ⟨v1, v2, v3, v4, v5, v6, v7, v8, v9, v10⟩ := kp0_v (f := g) (n := n) hn hN hN3 hl
  unfold R_keep
  by_cases e : n = 32
  · rw [if_pos e] at hn1 hf ⊢
    rw [hn1, hf]
    rw [e] at v1 v2 v3 v4 v5 v6 v7 v8 v9 v10 ⊢
    rw [e] at h59
    obtain ⟨K, hK⟩ : ∃ K, K = R_kp0 g 32 := ⟨_, rfl⟩
    rw [← hK] at v1 v2 v3 v4 v5 v6 v7 v8 v9 v10 ⊢
    refine ⟨?_, fun q k hq hk => ?_, fun j hj => ?_, fun j hj => ?_, ?_, ?_, fun j hj => ?_, ?_, ?_, fun j hj => ?_⟩
    · rw [R_oldest_59]
      exact i32_59 (n := 31 + 1) (by rw [v7, i32_add (c := 1) h59 (by decide) (by omega) (by omega)]; omega)
    · rw [R_oldest_6 hq (by omega), R_oldest_6 hq (by omega), v10 q (k + 1) hq (by omega), hh q _ (by omega) (by omega)]
    · rw [R_oldest_62 (by omega), R_oldest_62 (by omega), v9 _ (by omega), hh 62 _ (by omega) (by omega)]
    · rw [R_oldest_60 (by omega), R_oldest_60 (by omega), v8 _ (by omega), hh 60 _ (by omega) (by omega)]
    · rw [R_oldest_6 (Or.inl rfl) (by omega)]; exact v1
    · rw [R_oldest_62 (by omega), show 41 * 31 + 41 = 41 * 32 by omega, v2, nar_nar]
    · rw [R_oldest_62 (by omega), show 41 * 31 + 1 + j + 41 = 41 * 32 + 1 + j by omega, v3 j hj, nar_nar]
    · rw [R_oldest_6 (Or.inr (Or.inl rfl)) (by omega)]; exact v4
    · rw [R_oldest_6 (Or.inr (Or.inr rfl)) (by omega)]; exact v5
    · rw [R_oldest_60 (by omega), show 320 * 31 + j + 320 = 320 * 32 + j by omega, v6 j hj, nar_nar]
  · rw [if_neg e] at hn1 hf ⊢
    rw [hn1, hf]
    refine ⟨?_, fun q k hq hk => by rw [v10 q k hq hk, hh q k (by omega) (by omega)], fun j hj => by rw [v9 j hj, hh 62 _ (by omega) (by omega)], fun j hj => by rw [v8 j hj, hh 60 _ (by omega) (by omega)], v1, v2, v3, v4, v5, v6⟩
    rw [v7, i32_add (c := 1) h59 (by decide) (by omega) (by omega)]
    omega
/-- the class KEEPS it: what it has behind the sending -/
theorem k_keepQ {Y Wd : Nat} {w : Nat → Int32} (hR : RelC th B b xl σ h A G T) (hn : (h.1 59 0).toInt = (n : Int)) (hn32 : n ≤ 32) (hY : dy B σ T Y 9) (hWd : dy B σ T Wd 92) (hYn : ∀ k, k < n → A 9 k ≠ Y ∧ A 92 k ≠ Wd) (hYe : σ.1 Y = some (.inr (9, [.ref H, .int (w4 o 16), .int t, .ref Wd]))) (hwd : σ.1 Wd = some (.inl (1, nw, .inl w))) (hrow : ro_at B σ T H (c_len o L 264) (c_row o L 264)) (hE : CRE o L bb g) (hl1 : c_len o L 264 ≤ 40) (h5 : 5 ≤ nw) (h64 : nw ≤ 64) (hN : (g.1 66 0).toInt = ((4 * nw : Nat) : Int)) (hw0 : w 0 = 16777216 ||| Int32.ofNat (4 * nw)) (h650 : g.1 65 0 = 1) (hoc : ∀ j, 4 ≤ j → j < 4 * nw → (cn_pk w j).toInt32 = g.1 65 j) (h73 : g.1 73 0 = w4 o 16) (h1 : g.1 1 0 = t)
    (hh : ∀ q j, 59 ≤ q → q ≤ 64 → h.1 q j = g.1 q j) (hf : ∀ q j, ¬ (59 ≤ q ∧ q ≤ 64) → q < 65 → f'.1 q j = h.1 q j) (hfk : ∀ q j, 59 ≤ q → q ≤ 64 → f'.1 q j = (R_keep g n).1 q j) (hfl : f'.2 = h.2) : jc th (d + 7) 149 [.ref B, .ref Y] σ (fun r σ' => r = none ∧ ∃ A' T', RelC th B b xl σ' f' A' G T' ∧ (∀ q i, ¬ (q = 9 ∨ q = 91 ∨ q = 92 ∨ (q = 70 ∧ i = 2)) → A' q i = A q i) ∧ σ.2.1 ≤ σ'.2.1 ∧ σ'.2.1 ≤ σ.2.1 + 1 ∧ σ'.2.2 ≤ σ.2.2 + 200 ∧ ∀ a, a < B + 102 → a ≠ B + 5 → σ'.1 a = σ.1 a) := by
  have hB := hR.1.2.2.2.2.1
  have hth := hR.1.2.2.2.1 1 (by omega)
  have hS1 := hR.1.2.2.1.2.1
  have e78 : (g.1 78 1).toNatClampNeg ≤ 40 := by rw [(hE.2 1 (by omega)).2.1, i32_nat (n := c_len o L (kc 1)) (i32_ofNat (by have : c_len o L (kc 1) = c_len o L 264 := rfl; omega))]; exact hl1
  have isb65 : ∀ j, 4 ≤ j → j < 4 * nw → vp_nar .byte (g.1 65 j) = g.1 65 j := fun j j1 j2 => by rw [← hoc j j1 j2, nar_8]
  obtain ⟨n1, hn1⟩ : ∃ n1, n1 = if n = 32 then 31 else n := ⟨_, rfl⟩
  have hn31 : n1 ≤ 31 := by rw [hn1]; split <;> omega
  obtain ⟨f1, hf1⟩ : ∃ f1, f1 = if n = 32 then R_oldest h 32 else h := ⟨_, rfl⟩
  obtain ⟨u1, u2, u3, u4, u5, u6, u7, u8, u9, u10⟩ := keep_v (g := g) (h := h) (f := f1) (N := 4 * nw) hn32 (by rw [← hh 59 0 (by omega) (by omega)]; exact hn) hN (by omega) e78 hh hn1 hf1
  have f1o : ∀ q j, ¬ (59 ≤ q ∧ q ≤ 64) → f1.1 q j = h.1 q j := fun q j z => by
    rw [hf1]
    split
    · exact R_oldest_o z
    · rfl
  have f1l : f1.2 = h.2 := by
    rw [hf1]
    split
    · exact R_oldest_l
    · rfl
  have f159 : (f1.1 59 0).toInt = (n1 : Int) := by
    rw [hf1, hn1]
    by_cases e : n = 32
    · rw [if_pos e, if_pos e, R_oldest_59]
      exact i32_59 (n := 31) (by rw [hn, e])
    · rw [if_neg e, if_neg e]; exact hn
  obtain ⟨n0, m1, m2, hal, hinj, hke⟩ := id hR.2.2.2.2.2.1
  have en0 : n0 = n := by omega
  rw [en0] at hal hke hinj
  obtain ⟨⟨mc, hlp⟩, hEc⟩ := id hal
  rw [List.length_map, List.length_range] at hlp
  have Y1 := hY.1
  have Y2 := hY.2.1
  -- the second part: it is added
  have t25 : ∀ (σ1 : jx_S) (A1 : Nat → Nat → Nat), RelC th B b xl σ1 f1 A1 G T → (∀ q i, ¬ (q = 9 ∨ q = 91 ∨ q = 92) → A1 q i = A q i) → σ1.2 = σ.2 → (∀ q, q ≠ B + 5 → q ≠ A 70 2 → σ1.1 q = σ.1 q) → (∀ q, q < B + 102 → q ≠ B + 5 → σ1.1 q = σ.1 q) → (∀ k, k < n1 → A1 92 k ≠ Wd) → cl_fj th (d + 6) 149 25 [(0, .ref B), (1, .ref Y)] [] σ1 (fun r σ' => r = none ∧ ∃ A' T', RelC th B b xl σ' f' A' G T' ∧ (∀ q i, ¬ (q = 9 ∨ q = 91 ∨ q = 92 ∨ (q = 70 ∧ i = 2)) → A' q i = A q i) ∧ σ.2.1 ≤ σ'.2.1 ∧ σ'.2.1 ≤ σ.2.1 + 1 ∧ σ'.2.2 ≤ σ.2.2 + 200 ∧ ∀ a, a < B + 102 → a ≠ B + 5 → σ'.1 a = σ.1 a) := by
    intro σ1 A1 R1 oA N1 o1 o1' nWd
    have e70 : A1 70 2 = A 70 2 := oA 70 2 (by omega)
    have nY : Y ≠ A 70 2 := fun z' => by
      rcases hEc with ⟨e, -⟩ | ⟨e, -⟩
      · omega
      · have h1 := e.2.2
        rw [← z', hY.2.2] at h1
        omega
    have nW : Wd ≠ A 70 2 := fun z' => by
      have := hWd.1
      rcases hEc with ⟨e, -⟩ | ⟨e, -⟩
      · omega
      · have h1 := e.2.2
        rw [← z', hWd.2.2] at h1
        omega
    have nH : H ≠ A 70 2 := fun z' => by
      have := hrow.1.1
      rcases hEc with ⟨e, -⟩ | ⟨e, -⟩
      · omega
      · have h1 := e.2.2
        rw [← z', hrow.1.2.2] at h1
        omega
    have YY := (o1 Y (by omega) nY).trans hYe
    have WW := (o1 Wd (by have := hWd.1; omega) nW).trans hwd
    obtain ⟨n0', q1, q2, hal1, hinj1, hke1⟩ := id R1.2.2.2.2.2.1
    have en1 : n0' = n1 := by omega
    rw [en1] at hal1 hke1
    have hS1' : σ1.1 (th 1) = some jx_co := R1.1.2.2.1.2.1
    obtain ⟨⟨mc1, hl1'⟩, hEc1⟩ := id hal1
    have hadd := k_add (th := th) (d := d) (x := Y) hal1 (by rw [N1]; exact hB) (by omega) (by omega) hth hS1' YY (by rw [N1]; exact Y2) (by decide) (by omega) (by rw [List.length_map, List.length_range]; omega) (fun i y hy => by
      obtain ⟨hi, e⟩ := List.getElem?_eq_some_iff.mp hy
      rw [List.length_map, List.length_range] at hi
      have e2 : A1 9 i = y := by simpa using e
      obtain ⟨e3, -, e5, -⟩ := hke1 i hi
      rw [e2] at e3 e5
      exact ⟨by have := e3.1; omega, e3.2.1, _, _, e5, by decide⟩)
    refine cl_at dt_149 40 [] dt_149_k ?_
    intro C J hC hJ
    conv => whnf
    refine ⟨_, jx_getF_of (R1.X) rfl, ?_⟩
    conv => whnf
    refine ⟨jx_isC_of hl1', hC _ _ _ _ (hadd.mp ?_)⟩
    rintro r s2 ⟨rfl, E', T', b1, b2, b3, b4, b5, b6⟩
    rw [N1] at b3 b4
    conv => whnf
    have n21 : σ.2.1 ≤ s2.2.1 := by have := b2.2.1; rw [N1] at this; exact this
    have dm : ∀ a t, dy B σ T a t → dy B s2 T' a t := fun a t hd => b2.mv (show dy B σ1 T a t from ⟨hd.1, by rw [N1]; exact hd.2.1, hd.2.2⟩)
    have k2 : ∀ a, a < σ.2.1 → a ≠ B + 5 → a ≠ A 70 2 → s2.1 a = σ.1 a := fun a z1 z2 z3 => by
      rw [b2.1 a (by rw [N1]; exact z1) (fun z => z.elim z2 (fun z => z3 (by rw [← e70]; exact z.1))), o1 a z2 z3]
    have rH : ro_at B s2 T' H (c_len o L 264) (c_row o L 264) := by
      obtain ⟨r1, hh', r2, r3⟩ := hrow
      exact ⟨dm _ _ r1, hh', by rw [k2 H r1.2.1 (by have := r1.1; omega) nH]; exact r2, r3⟩
    have RR := R1.kadd (X := Y) (Wd := Wd) (Ht := H) (f' := f') (nw := nw) (w := w) (E' := E') f159 hn31 b2 (fun a h => by rcases h with h | h; exact Or.inl h; exact Or.inr h) (dm _ _ hY) (dm _ _ hWd) nWd (fun q j z1 z2 z3 z4 => by rw [hf q j z1 z2, f1o q j z1]) (fun q j z1 z2 => by rw [hfl, f1l]) (by rw [hfk 59 0 (by omega) (by omega)]; exact u1) (fun q k hq hk => by rw [hfk q k (by omega) (by omega)]; exact u2 q k hq hk) (fun j hj => by rw [hfk 62 j (by omega) (by omega)]; exact u3 j hj) (fun j hj => by rw [hfk 60 j (by omega) (by omega)]; exact u4 j hj) b1 (by
      rw [k2 Y Y2 (by omega) nY, hYe, hfk 63 n1 (by omega) (by omega), hfk 64 n1 (by omega) (by omega), u8, u9, h73, h1, Int32.add_sub_cancel]) (row_v (k := 1) (q := 62) (s := n1) (F := f') hE (by omega) hl1 rH (by rw [hfk 62 _ (by omega) (by omega)]; exact u6) (fun j hj => by rw [hfk 62 _ (by omega) (by omega)]; exact u7 j hj)) (by rw [k2 Wd hWd.2.1 (by have := hWd.1; omega) nW]; exact hwd) h5 h64 (by rw [hfk 61 n1 (by omega) (by omega), u5]; exact hN) hw0 (by
      rw [hfk 60 _ (by omega) (by omega)]
      have := u10 0 (by omega)
      rw [Nat.add_zero] at this
      rw [this, h650]
      decide) (fun j j1 j2 => by rw [hfk 60 _ (by omega) (by omega), u10 j j2, isb65 j j1 j2]; exact hoc j j1 j2)
    refine ⟨rfl, _, T', RR, fun q i hq => ?_, n21, b3, b4, fun a z1 z2 => ?_⟩
    · show (if _ then _ else if _ then _ else if _ then _ else if _ then _ else _) = _
      rw [if_neg (by omega), if_neg (by omega), if_neg (by omega), if_neg (by omega)]
      exact oA q i (by omega)
    · rw [b2.1 a (by rw [N1]; omega) (fun z => z.elim z2 (fun z => by have := z.2; omega)), o1' a z1 z2]
  refine cl_go dt_149 60 [(25, [0, 1])] dt_149_k rfl ?_
  intro C J hC hJ
  conv => whnf
  refine ⟨_, jx_getF_of (hR.X) rfl, ?_⟩
  conv => whnf
  refine ⟨jx_isC_of hlp, hC _ _ _ _ (((k_size (d := d) hlp).up (by omega)).mp ?_)⟩
  rintro r s1 ⟨rfl, hs1⟩
  rw [hs1]
  conv => whnf
  refine ⟨fun (e : Int32.ofNat n < 32) => ?_, fun (e : ¬ Int32.ofNat n < 32) => ?_⟩
  · have hne : ¬ n = 32 := fun z => by
      rw [z] at e
      exact absurd e (by decide)
    conv => whnf
    rw [if_neg hne] at hf1
    exact hJ _ _ _ _ (t25 σ A (by rw [hf1]; exact hR) (fun _ _ _ => rfl) rfl (fun _ _ _ => rfl) (fun _ _ _ => rfl) (fun k hk => (hYn k (by rw [hn1, if_neg hne] at hk; exact hk)).2))
  · have he : n = 32 := by
      rw [Int32.lt_iff_toInt_lt, i32_ofNat (by omega), show (32 : Int32).toInt = 32 by decide] at e
      omega
    rw [if_pos he] at hf1
    conv => whnf
    refine ⟨_, jx_getF_of (hR.X) rfl, ?_⟩
    conv => whnf
    refine ⟨jx_isC_of hlp, hC _ _ _ _ (((k_oldestX (d := d) (n := 31) hR (by rw [hn, he]) (by decide)).up (by omega)).mp ?_)⟩
    rintro r s2 ⟨⟨xr, rfl⟩, A1, R1, oA, oA2, k1, o1⟩
    conv => whnf
    refine hJ _ _ _ _ (t25 s2 A1 (by rw [hf1]; exact R1) oA k1.1 o1 (fun q z1 z2 => o1 q z2 (fun z3 => ?_)) (fun k hk => ?_))
    · rcases hEc with ⟨-, e2⟩ | ⟨e2, -⟩
      · have := congrArg List.length e2
        rw [List.length_map, List.length_range, he] at this
        exact absurd this (by decide)
      · have := e2.1
        omega
    · rw [oA2 92 k (by omega)]
      exact (hYn (k + 1) (by rw [hn1, if_pos he] at hk; omega)).2
end JxKeepm
