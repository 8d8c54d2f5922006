/-! THE CLASS: a text in a message, a copy of the message -/
section JxDraft3
variable {th : Nat → Nat} {d B O n R len ty S N : Nat} {σ σ' : jx_S} {w h : Nat → Int32} {bs : List Int32} {c v sv : Int32} {f : jx_F}
theorem ro_get {f : jx_F} {q : Nat} : ∀ (N F j : Nat), j < N → (R_ro f q F N)[j]? = some (f.1 q (F + j) >>> 0) := by
  intro N
  induction N with
  | zero => intro F j hj; omega
  | succ N ih =>
    intro F j hj
    unfold R_ro
    match j, hj with
    | 0, _ => rfl
    | j + 1, hj =>
      rw [List.getElem?_cons_succ, ih (F + 1) j (by omega), show F + 1 + j = F + (j + 1) by omega]
/-- two rows with the same octets -/
theorem ro_same {f f' : jx_F} {q q' : Nat} : ∀ (N F F' : Nat), (∀ j, j < N → f'.1 q' (F' + j) = f.1 q (F + j)) → R_ro f' q' F' N = R_ro f q F N
  | 0, _, _, _ => rfl
  | N + 1, F, F', h => by
    unfold R_ro
    rw [show f'.1 q' F' = f.1 q F from h 0 (by omega), ro_same N (F + 1) (F' + 1) (fun j hj => by
      have := h (j + 1) (by omega)
      rwa [show F' + (j + 1) = F' + 1 + j by omega, show F + (j + 1) = F + 1 + j by omega] at this)]
theorem tx_same {f f' : jx_F} {c n n' : Int32} {q q' N F F' s s' : Nat} (hn : n' = n) (h : ∀ j, j < N → f'.1 q' (F' + j) = f.1 q (F + j)) (hs : s' % 4 = s % 4) : R_tx f' c n' q' F' N s' = R_tx f c n q F N s := by
  unfold R_tx R_pd
  rw [hn, ro_same N F F' h, show (s' + 8 + N) % 4 = (s + 8 + N) % 4 by omega]
theorem k_textD {q F t : Nat} (hM : DM B σ O bs) (hR : R ≠ B + 11 ∧ R ≠ B + 12) (hty : ty ∈ [0, 3, 100]) (hr : σ.1 R = some (.inl (ty, len, .inl h))) (hsv : sv.toInt = (S : Int)) (hN : N ≤ 40) (hSN : S + N ≤ len) (hlen : len ≤ 600) (hf : ∀ j, j < N → (h (S + j)).toInt8 = (f.1 q (F + j)).toInt8) (ht : t % 4 = 0) (hl : bs.length + (8 + 4 * ((N + 3) / 4)) ≤ 256) : jc th (d + 1) 10 [.ref (B + 11), .int c, .ref R, .int sv, .int (Int32.ofNat N)] σ (fun r σ' => r = none ∧ dch B σ σ' ∧ DM B σ' O (bs ++ R_tx f c (Int32.ofNat N) q F N t)) := by
  obtain ⟨w, n, hD, hn, hq⟩ := hM
  have hbl : bs.length = 4 * n := by have := hq.1; unfold om at this; rw [List.length_map] at this; exact this
  refine (k_textW (d := d) (n := n) (S := S) (N := N) (len := len) hD hR hty hr hsv hN hSN hlen (by omega)).mp ?_
  rintro r s1 ⟨rfl, c1, w1, d1, e0, e1, e2, e3⟩
  refine ⟨rfl, c1, w1, _, d1, by omega, ?_⟩
  have z1 := (hq.of (w' := w1) (fun i _ hi => e0 i hi)).w.w
  rw [e1, e2] at z1
  have ehd : ow c ++ ow (1073741824 ||| (8 + Int32.ofNat N)) = om (R_at c (Int32.ofNat N)) := by
    have key : ∀ x, x < 41 → ow (1073741824 ||| (8 + Int32.ofNat x)) = om (R_p1 64 ++ R_p3 (8 + Int32.ofNat x)) := by decide +kernel
    rw [key N (by omega)]
    rfl
  have elen : (om (R_ro f q F N ++ R_pd (t + 8 + N))).length = 4 * ((N + 3) / 4) := by
    unfold om
    rw [List.length_map, List.length_append, R_ro_len, R_pd_len]
    omega
  have z2 := z1.app (cs := om (R_ro f q F N ++ R_pd (t + 8 + N))) elen (fun j x hx => by
    have hj := (List.getElem?_eq_some_iff.mp hx).1
    rw [elen] at hj
    rw [show 4 * (n + 1 + 1) + j = 4 * (n + 2) + j by omega, e3 j hj]
    unfold om at hx
    rw [List.getElem?_map] at hx
    obtain ⟨y, hy1, hy2⟩ := Option.map_eq_some_iff.mp hx
    rw [← hy2]
    by_cases ej : j < N
    · rw [if_pos ej, hf j ej]
      rw [List.getElem?_append_left (by rw [R_ro_len]; exact ej), ro_get N F j ej] at hy1
      have : f.1 q (F + j) >>> 0 = y := by simpa using hy1
      rw [← this, Int32.shiftRight_zero]
    · rw [if_neg ej]
      rw [List.getElem?_append_right (by rw [R_ro_len]; omega), R_ro_len] at hy1
      unfold R_pd at hy1
      have := List.eq_of_mem_replicate (List.mem_of_getElem? hy1)
      rw [this]
      decide)
  have e : om (bs ++ R_tx f c (Int32.ofNat N) q F N t) = om bs ++ ow c ++ ow (1073741824 ||| (8 + Int32.ofNat N)) ++ om (R_ro f q F N ++ R_pd (t + 8 + N)) := by
    unfold R_tx
    rw [om_app, om_app, ← ehd]
    simp only [List.append_assoc]
  rw [e, show n + (2 + (N + 3) / 4) = n + 1 + 1 + (N + 3) / 4 by omega]
  exact z2
/-- a word by its octets -/
theorem ow_inj {x y : Int32} (h : ow x = ow y) : x = y := by
  have h0 : (x >>> 24).toInt8 = (y >>> 24).toInt8 := (List.cons.inj h).1
  have h1 : (x >>> 16).toInt8 = (y >>> 16).toInt8 := (List.cons.inj (List.cons.inj h).2).1
  have h2 : (x >>> 8).toInt8 = (y >>> 8).toInt8 := (List.cons.inj (List.cons.inj (List.cons.inj h).2).2).1
  have h3 : (x >>> 0).toInt8 = (y >>> 0).toInt8 := (List.cons.inj (List.cons.inj (List.cons.inj (List.cons.inj h).2).2).2).1
  have key : ∀ (x y : Int32) (s : Nat), s ≤ 24 → ∀ x' y' : Int32, x'.toBitVec = x.toBitVec.sshiftRight s → y'.toBitVec = y.toBitVec.sshiftRight s → x'.toInt8 = y'.toInt8 → ∀ i, i < 8 → x.toBitVec.getLsbD (s + i) = y.toBitVec.getLsbD (s + i) := by
    intro x y s hs x' y' e1 e2 h i hi
    have := congrArg (fun z : Int8 => z.toBitVec.getLsbD i) h
    simp only [Int32.toBitVec_toInt8, e1, e2, BitVec.getLsbD_signExtend, BitVec.getLsbD_sshiftRight] at this
    have h1 : i < 32 := by omega
    have h2 : s + i < 32 := by omega
    have h3 : ¬ 32 ≤ i := by omega
    simpa [hi, h1, h2, h3] using this
  apply Int32.toBitVec_inj.mp
  apply BitVec.eq_of_getLsbD_eq
  intro i hi
  rcases Nat.lt_or_ge i 8 with z | z
  · have := key x y 0 (by omega) _ _ rfl rfl h3 i z
    rwa [Nat.zero_add] at this
  · rcases Nat.lt_or_ge i 16 with z2 | z2
    · have := key x y 8 (by omega) _ _ rfl rfl h2 (i - 8) (by omega)
      rwa [show 8 + (i - 8) = i by omega] at this
    · rcases Nat.lt_or_ge i 24 with z3 | z3
      · have := key x y 16 (by omega) _ _ rfl rfl h1 (i - 16) (by omega)
        rwa [show 16 + (i - 16) = i by omega] at this
      · have := key x y 24 (by omega) _ _ rfl rfl h0 (i - 24) (by omega)
        rwa [show 24 + (i - 24) = i by omega] at this
theorem dq_word {os : List Int8} {k : Nat} {y : Int32} (hq : dq w n os) (hk : 1 ≤ k) (hy : ∀ i, i < 4 → os[4 * k + i]? = (ow y)[i]?) : w k = y := by
  have g : ∀ i x, i < 4 → (ow y)[i]? = some x → cn_pk w (4 * k + i) = x := fun i x hi hx => hq.2 _ x (by omega) (by rw [hy i hi]; exact hx)
  apply ow_inj
  have e0 := g 0 _ (by omega) rfl
  have e1 := g 1 _ (by omega) rfl
  have e2 := g 2 _ (by omega) rfl
  have e3 := g 3 _ (by omega) rfl
  rw [Nat.add_zero, cn_pk_0] at e0
  rw [cn_pk_1] at e1
  rw [cn_pk_2] at e2
  rw [cn_pk_3] at e3
  unfold ow
  rw [e0, e1, e2, e3]
/-- the message, copied -/
theorem k_copy (hM : DM B σ O bs) (h5 : 20 ≤ bs.length) (hB : B + 12 < σ.2.1) : jc th (d + 2) 147 [.ref (B + 11)] σ (fun r σ' => r = some (.ref σ.2.1) ∧ (∃ n w, σ'.1 σ.2.1 = some (.inl (1, n, .inl w)) ∧ bs.length = 4 * n ∧ n ≤ 64 ∧ dq w n (om bs) ∧ w 0 = 16777216 ||| Int32.ofNat (4 * n)) ∧ (∃ c, σ'.1 (B + 11) = some (.inr (4, [.ref (B + 12), .int c, .ref O]))) ∧ (∃ w, σ'.1 (B + 12) = some (.inl (1, 64, .inl w))) ∧ (∀ a, a ≠ B + 11 → a ≠ B + 12 → a ≠ σ.2.1 → σ'.1 a = σ.1 a) ∧ σ'.2.1 = σ.2.1 + 1 ∧ σ'.2.2 ≤ σ.2.2 + 64) := by
  obtain ⟨w, n, ⟨h11, h12⟩, hn, hq⟩ := hM
  have hbl : bs.length = 4 * n := by have := hq.1; unfold om at this; rw [List.length_map] at this; exact this
  have e4 : (4 : Int32) * Int32.ofNat n = Int32.ofNat (4 * n) := Int32.toInt_inj.mp (by rw [i32_mul (a := 4) (by decide) (i32_ofNat (by omega)) (by omega) (by omega), i32_ofNat (by omega)]; omega)
  refine cl_go dt_147 80 [] dt_147_k rfl ?_
  intro C J hC hJ
  conv => whnf
  refine ⟨_, jx_getF_of (h11) rfl, ?_⟩
  conv => whnf
  refine ⟨_, jx_getF_of (h11) rfl, ?_⟩
  conv => whnf
  refine istK h12 (k := 0) (by decide) (by decide) (fun s1 p1 o1 n1 => ?_)
  conv => whnf
  have q1 := (o1 (B + 11) (by omega)).trans h11
  refine ⟨_, jx_getF_of (q1) rfl, ?_⟩
  conv => whnf
  refine ⟨_, jx_getF_of (q1) rfl, ?_⟩
  conv => whnf
  refine ⟨_, jx_getF_of (q1) rfl, ?_⟩
  conv => whnf
  refine ⟨_, jx_al_of (p1), ?_⟩
  conv => whnf
  have e64 : (Int32.ofNat 64).toInt = 64 := by decide
  have hm : (if 5 < (if Int32.ofNat 64 < Int32.ofNat n then Int32.ofNat 64 else Int32.ofNat n) then (if Int32.ofNat 64 < Int32.ofNat n then Int32.ofNat 64 else Int32.ofNat n) else (5 : Int32)).toInt = (n : Int) := by
    rw [if_neg (show ¬ Int32.ofNat 64 < Int32.ofNat n by rw [nlt (by omega) (by omega)]; omega)]
    split
    · exact i32_ofNat (by omega)
    · rename_i z
      rw [Int32.lt_iff_toInt_lt, i32_ofNat (by omega), show (5 : Int32).toInt = 5 by decide] at z
      rw [show (5 : Int32).toInt = 5 by decide]
      omega
  refine hC _ _ _ _ ((k_copyOf1 (d := d) (m := n) p1 (by rw [n1]; exact hB) hm hn (by omega)).mp ?_)
  rintro r s2 ⟨rfl, ⟨g, g1, g2⟩, g3, g4, g5⟩
  rw [n1] at g1 g3 g4 g5
  conv => whnf
  refine ⟨by rw [n1], ⟨n, g, g1, hbl, hn, hq.of (fun i i1 i2 => by rw [g2 i i2, upd_ne (by omega)]), by rw [g2 0 (by omega), upd_eq]; show 16777216 ||| 4 * Int32.ofNat n = _; rw [e4]⟩, ⟨_, (g3 _ (by omega)).trans q1⟩, ⟨_, (g3 _ (by omega)).trans p1⟩, fun a a1 a2 a3 => by rw [g3 a a3, o1 a a2], g4, by rw [g5]; omega⟩
end JxDraft3
