/-! THE PAIR own -/
/-- n words of w show these octets, all of them -/
def dz (w : Nat → Int32) (n : Nat) (os : List Int8) : Prop := os.length = 4 * n ∧ ∀ (j : Nat) (x : Int8), os[j]? = some x → cn_pk w j = x
def R_ownF0 (f : jx_F) (N : Nat) : jx_F := rf_ui (rf_ui (R_cy f 3 0 5 0 N) 6 0 (f.1 4 0)) 4 0 0
def R_ownF (f : jx_F) : Int32 × jx_F := if f.1 4 0 = 0 then (-2, f) else if 0 < f.1 7 0 then (-3, f) else (f.1 4 0, R_ownF0 f (f.1 4 0).toNatClampNeg)
section JxOwn
variable {th : Nat → Nat} {B b m d k n N O : Nat} {xl : List Int32} {σ σ' σ0 : jx_S} {f f' : jx_F} {A : Nat → Nat → Nat} {G : Nat → Nat → Int32} {T : Nat → Nat} {w : Nat → Int32} {c v : Int32}
theorem dz.app {n k : Nat} {os cs : List Int8} (h : dz w n os) (hc : cs.length = 4 * k) (hcs : ∀ (j : Nat) (x : Int8), cs[j]? = some x → cn_pk w (4 * n + j) = x) : dz w (n + k) (os ++ cs) := by
  refine ⟨by rw [List.length_append, h.1, hc]; omega, fun j x hx => ?_⟩
  by_cases hl : j < 4 * n
  · rw [List.getElem?_append_left (by rw [h.1]; exact hl)] at hx
    exact h.2 j x hx
  · rw [List.getElem?_append_right (by rw [h.1]; omega), h.1] at hx
    have := hcs _ x hx
    rwa [show 4 * n + (j - 4 * n) = j by omega] at this
theorem dz.st {n : Nat} {os : List Int8} (h : dz w n os) : dz w (n + 1) (os ++ ow (w n)) := h.app (k := 1) rfl (fun _ _ hx => ow_get hx)
theorem r_own_l {Q : Option Value → jx_F → Prop} (hN : (f.1 4 0).toInt = (N : Int)) (hN4 : N ≤ 40) : ∀ (r i : Nat) (iv : Int32), iv.toInt = (i : Int) → i + r = N → Q (some (.int (f.1 4 0))) (R_ownF0 f N) → jx_fj th (rf_g m) (rf σ0 m) d 183 27 [(0, .ref 0), (1, .int iv)] [] (R_cy f 3 0 5 0 i) Q
  | 0, i, iv, hv, hi, h => by
    have ei : i = N := by omega
    rw [ei]
    have e4 : (R_cy f 3 0 5 0 N).1 4 0 = f.1 4 0 := R_cy_o (by omega)
    refine rf_at dt_183 40 [] dt_183_k (by decide +kernel) ?_
    intro C J hC hJ
    conv => whnf
    refine jx_yes (show (R_cy f 3 0 5 0 N).1 4 0 ≤ iv by rw [e4, Int32.le_iff_toInt_le, hN, hv]; omega) ?_
    conv => whnf
    have e : (rf_ui (rf_ui (R_cy f 3 0 5 0 N) 6 0 ((R_cy f 3 0 5 0 N).1 4 0)) 4 0 0) = R_ownF0 f N := by rw [e4]; rfl
    have e6 : (R_ownF0 f N).1 6 0 = f.1 4 0 := by unfold R_ownF0; rw [rf_ui_ne (by omega), rf_ui_eq]
    rw [show some (Value.int ((rf_ui (rf_ui (R_cy f 3 0 5 0 N) 6 0 ((R_cy f 3 0 5 0 N).1 4 0)) 4 0 0).1 6 0)) = some (.int (f.1 4 0)) by rw [e, e6], e]
    exact h
  | r + 1, i, iv, hv, hi, h => by
    have e4 : (R_cy f 3 0 5 0 i).1 4 0 = f.1 4 0 := R_cy_o (by omega)
    have hvi : jx_in iv 40 := jx_in_nat hv (by omega)
    refine rf_at dt_183 40 [(27, [0, 1])] dt_183_k (by decide +kernel) ?_
    intro C J hC hJ
    conv => whnf
    refine jx_no (show ¬ (R_cy f 3 0 5 0 i).1 4 0 ≤ iv by rw [e4, Int32.le_iff_toInt_le, hN, hv]; omega) ?_
    conv => whnf
    refine ⟨hvi, ?_⟩
    conv => whnf
    refine ⟨hvi, ?_⟩
    conv => whnf
    have er : (R_cy f 3 0 5 0 i).1 3 i = f.1 3 (0 + i) := by rw [Nat.zero_add]; exact R_cy_o (by omega)
    have es := R_cy_s (f := f) (q1 := 3) (s := 0) (q2 := 5) (e := 0) (k := i)
    rw [Nat.zero_add] at es
    rw [i32_nat hv, er, Nat.zero_add, es]
    refine hJ _ _ _ _ (r_own_l hN hN4 r (i + 1) _ ?_ (by omega) h)
    rw [i32_add (c := 1) hv (by decide) (by omega) (by omega)]; omega
theorem r_own (hN : (f.1 4 0).toInt = (N : Int)) (hN4 : N ≤ 40) : rfc th σ0 m (d + 1) 183 [.ref 0] f (fun r f' => r = some (.int (R_ownF (rf_ui f 0 0 0)).1) ∧ f' = (R_ownF (rf_ui f 0 0 0)).2) := by
  obtain ⟨g, hgd⟩ : ∃ g, g = rf_ui f 0 0 0 := ⟨_, rfl⟩
  have hN' : (g.1 4 0).toInt = (N : Int) := by rw [hgd, rf_ui_ne (by omega)]; exact hN
  rw [← hgd]
  refine rf_go dt_183 40 [(27, [0, 1])] dt_183_k (by decide +kernel) rfl ?_
  intro C J hC hJ
  conv => whnf
  rw [show rf_ui f 0 0 0 = g from hgd.symm]
  refine ⟨fun (h0 : ¬ g.1 4 0 = 0) => ?_, fun (h0 : ¬ ¬ g.1 4 0 = 0) => ?_⟩
  · conv => whnf
    refine ⟨fun (h7 : g.1 7 0 ≤ 0) => ?_, fun (h7 : ¬ g.1 7 0 ≤ 0) => ?_⟩
    · conv => whnf
      refine hJ _ _ _ _ ?_
      have := r_own_l (th := th) (σ0 := σ0) (m := m) (d := d) (f := g) (Q := fun r f' => r = some (.int (R_ownF g).1) ∧ f' = (R_ownF g).2) hN' hN4 N 0 0 (by decide) (by omega) (by
        unfold R_ownF
        rw [if_neg h0, if_neg (Int32.not_lt.mpr h7), i32_nat hN']
        exact ⟨rfl, rfl⟩)
      rw [R_cy_0] at this
      exact this
    · conv => whnf
      unfold R_ownF
      rw [if_neg h0, if_pos (Int32.not_le.mp h7)]
      exact ⟨rfl, rfl⟩
  · conv => whnf
    unfold R_ownF
    rw [if_pos (Decidable.not_not.mp h0)]
    exact ⟨rfl, rfl⟩
/-- the hand is taken -/
theorem k_takeHand {h : Nat → Int32} {v2 v3 v4 v5 v6 v7 v8 v9 v10 v11 v12 : Value} (hX : σ.1 B = some (.inr (0, [.ref (B + 1), .int v, v2, v3, v4, v5, v6, v7, v8, v9, v10, v11, v12]))) (hv : v.toInt = (N : Int)) (hN : N ≤ 40) (hH : σ.1 (B + 1) = some (.inl (0, 40, .inl h))) (hB : B + 1 < σ.2.1) : jc th (d + 2) 19 [.ref B] σ (fun r σ' => r = some (.ref σ.2.1) ∧ (∃ g : Nat → Int32, σ'.1 σ.2.1 = some (.inl (0, N, .inl g)) ∧ ∀ j, j < N → g j = h j) ∧ σ'.1 B = some (.inr (0, [.ref (B + 1), .int 0, v2, v3, v4, v5, v6, v7, v8, v9, v10, v11, v12])) ∧ (∀ a, a ≠ σ.2.1 → a ≠ B → σ'.1 a = σ.1 a) ∧ σ'.2.1 = σ.2.1 + 1 ∧ σ'.2.2 = σ.2.2 + N) := by
  have e40 : (Int32.ofNat 40).toInt = 40 := by decide
  have hm : (if Int32.ofNat 40 < (if v < 0 then 0 else v) then Int32.ofNat 40 else (if v < 0 then 0 else v)).toInt = (N : Int) := by
    have e1 : (if v < 0 then 0 else v) = v := if_neg (by rw [Int32.lt_iff_toInt_lt, hv]; simp)
    rw [e1]
    split
    · rename_i z
      rw [Int32.lt_iff_toInt_lt, hv, e40] at z
      omega
    · exact hv
  refine cl_go dt_19 60 [] dt_19_k rfl ?_
  intro C J hC hJ
  conv => whnf
  refine ⟨_, jx_getF_of (hX) rfl, ?_⟩
  conv => whnf
  refine ⟨_, jx_getF_of (hX) rfl, ?_⟩
  conv => whnf
  refine ⟨_, jx_al_of (hH), ?_⟩
  conv => whnf
  refine putK hX rfl (fit_i _) (fun s1 p1 o1 n1 => ?_)
  conv => whnf
  refine ⟨_, jx_getF_of (p1) rfl, ?_⟩
  conv => whnf
  have hH1 := (o1 (B + 1) (by omega)).trans hH
  refine hC _ _ _ _ ((k_copyOf0 (d := d) (m := N) hH1 (by rw [n1]; exact hB) hm hN (by omega)).mp ?_)
  rintro r s2 ⟨rfl, ⟨g, g1, g2⟩, g3, g4, g5⟩
  rw [n1] at g1 g3 g4 g5
  conv => whnf
  refine ⟨by rw [n1], ⟨g, g1, g2⟩, (g3 B (by omega)).trans p1, fun a a1 a2 => (g3 a a1).trans (o1 a a2), g4, g5⟩
theorem k_numberW (hD : DR B σ O w n) (hn : n + 3 ≤ 64) : jc th (d + 1) 12 [.ref (B + 11), .int c, .int v] σ (fun r σ' => r = none ∧ dch B σ σ' ∧ ∃ w', DR B σ' O w' (n + 3) ∧ (∀ q, q < n → w' q = w q) ∧ w' n = c ∧ w' (n + 1) = 1073741836 ∧ w' (n + 2) = v) := by
  obtain ⟨h11, h12⟩ := hD
  refine cl_go dt_12 80 [] dt_12_k rfl ?_
  intro C J hC hJ
  conv => whnf
  refine ⟨_, jx_getF_of (h11) rfl, ?_⟩
  conv => whnf
  refine jx_no (nneg (a := n) (by omega)) ?_
  conv => whnf
  refine ⟨_, jx_getF_of (h11) rfl, ?_⟩
  conv => whnf
  refine ⟨_, jx_getF_of (h11) rfl, ?_⟩
  conv => whnf
  refine ⟨_, jx_al_of (h12), ?_⟩
  conv => whnf
  refine jx_no (show ¬ Int32.ofNat 64 < Int32.ofNat n + 3 by rw [nadd (c := 3) (q := 3) rfl (by omega), nlt (by omega) (by omega)]; omega) ?_
  conv => whnf
  refine ⟨_, jx_getF_of (h11) rfl, ?_⟩
  conv => whnf
  refine ⟨_, jx_getF_of (h11) rfl, ?_⟩
  conv => whnf
  refine istK h12 (k := n) (i32_ofNat (by omega)) (by omega) (fun s1 p1 o1 n1 => ?_)
  conv => whnf
  have q1 := (o1 (B + 11) (by omega)).trans h11
  refine ⟨_, jx_getF_of (q1) rfl, ?_⟩
  conv => whnf
  refine ⟨_, jx_getF_of (q1) rfl, ?_⟩
  conv => whnf
  refine istK p1 (k := n + 1) (nadd_i (c := 1) rfl (by omega)) (by omega) (fun s2 p2 o2 n2 => ?_)
  conv => whnf
  have q2 := (o2 (B + 11) (by omega)).trans q1
  refine ⟨_, jx_getF_of (q2) rfl, ?_⟩
  conv => whnf
  refine ⟨_, jx_getF_of (q2) rfl, ?_⟩
  conv => whnf
  refine istK p2 (k := n + 2) (nadd_i (c := 2) rfl (by omega)) (by omega) (fun s3 p3 o3 n3 => ?_)
  conv => whnf
  have q3 := (o3 (B + 11) (by omega)).trans q2
  refine ⟨_, jx_getF_of (q3) rfl, ?_⟩
  conv => whnf
  refine putK q3 rfl (fit_i _) (fun s4 p4 o4 n4 => ?_)
  conv => whnf
  refine ⟨rfl, ⟨n4.trans (n3.trans (n2.trans n1)), fun a h1 h2 => by rw [o4 a h1, o3 a h2, o2 a h2, o1 a h2]⟩, _, ⟨?_, (o4 (B + 12) (by omega)).trans p3⟩, fun q hq => by rw [upd_ne (by omega), upd_ne (by omega), upd_ne (by omega)], by rw [upd_ne (by omega), upd_ne (by omega), upd_eq], by rw [upd_ne (by omega), upd_eq], upd_eq⟩
  rw [← nadd (a := n) (c := 3) (q := 3) rfl (by omega)]
  exact p4
theorem k_setOrigin {X : Nat} {cn : Int32} {h : Nat → Int32} (h11 : σ.1 (B + 11) = some (.inr (4, [.ref (B + 12), .int cn, .ref O]))) (h12 : σ.1 (B + 12) = some (.inl (1, 64, .inl w))) (hX : σ.1 X = some (.inl (0, N, .inl h))) (hXn : X ≠ B + 11 ∧ X ≠ B + 12) (hN : N ≤ 40) (hB : B + 12 < σ.2.1) (hf : ∀ j, j < N → h j = f.1 5 j) (h6 : f.1 6 0 = Int32.ofNat N) : jc th (d + 2) 9 [.ref (B + 11), .ref X] σ (fun r σ' => r = none ∧ (∃ n g, σ'.1 σ.2.1 = some (.inl (1, n, .inl g)) ∧ n ≤ 64 ∧ (R_me f N 20).length = 4 * n ∧ ∀ (i : Nat) (x : Int32), (R_me f N 20)[i]? = some x → cn_pk g i = x.toInt8) ∧ (∃ c, σ'.1 (B + 11) = some (.inr (4, [.ref (B + 12), .int c, .ref σ.2.1]))) ∧ (∃ w', σ'.1 (B + 12) = some (.inl (1, 64, .inl w'))) ∧ (∀ a, a ≠ B + 11 → a ≠ B + 12 → a ≠ σ.2.1 → σ'.1 a = σ.1 a) ∧ σ'.2.1 = σ.2.1 + 1 ∧ σ'.2.2 ≤ σ.2.2 + 64) := by
  refine cl_go dt_9 60 [] dt_9_k rfl ?_
  intro C J hC hJ
  conv => whnf
  refine putK h11 rfl (fit_i _) (fun s1 p1 o1 n1 => ?_)
  conv => whnf
  have hX1 := (o1 X hXn.1).trans hX
  have h121 := (o1 (B + 12) (by omega)).trans h12
  refine ⟨_, jx_al_of (hX1), ?_⟩
  conv => whnf
  refine ⟨jx_isC_of p1, hC _ _ _ _ ((k_textW (d := d) (n := 0) (S := 0) (N := N) (len := N) ⟨p1, h121⟩ hXn (by decide) hX1 (by decide) hN (by omega) (by omega) (by omega)).mp ?_)⟩
  rintro r s2 ⟨rfl, c1, w2, d2, -, e0, e1, e2⟩
  conv => whnf
  refine ⟨jx_isC_of d2.1, hC _ _ _ _ ((k_numberW (d := d) d2 (by omega)).mp ?_)⟩
  rintro r s3 ⟨rfl, c3, w3, d3, f0, f1, f2, f3⟩
  obtain ⟨n, hn⟩ : ∃ n, n = 0 + (2 + (N + 3) / 4) + 3 := ⟨_, rfl⟩
  rw [← hn] at d3
  have hn64 : n ≤ 64 := by omega
  have e64 : (Int32.ofNat 64).toInt = 64 := by decide
  have hm : (if 0 < (if Int32.ofNat 64 < Int32.ofNat n then Int32.ofNat 64 else Int32.ofNat n) then (if Int32.ofNat 64 < Int32.ofNat n then Int32.ofNat 64 else Int32.ofNat n) else (0 : Int32)).toInt = (n : Int) := by
    rw [if_neg (show ¬ Int32.ofNat 64 < Int32.ofNat n by rw [nlt (by omega) (by omega)]; omega)]
    split
    · exact i32_ofNat (by omega)
    · rename_i z
      rw [Int32.lt_iff_toInt_lt, i32_ofNat (by omega), show (0 : Int32).toInt = 0 by decide] at z
      omega
  conv => whnf
  refine ⟨_, jx_getF_of (d3.1) rfl, ?_⟩
  conv => whnf
  refine ⟨_, jx_getF_of (d3.1) rfl, ?_⟩
  conv => whnf
  refine ⟨_, jx_getF_of (d3.1) rfl, ?_⟩
  conv => whnf
  refine ⟨_, jx_al_of (d3.2), ?_⟩
  conv => whnf
  have hs3 : s3.2 = σ.2 := by rw [c3.1, c1.1, n1]
  refine hC _ _ _ _ (((k_copyOf1 (d := d) (m := n) d3.2 (by rw [hs3]; exact hB) hm hn64 (by omega))).mp ?_)
  rintro r s4 ⟨rfl, ⟨g, g1, g2⟩, g3, g4, g5⟩
  rw [hs3] at g1 g3 g4 g5
  have d4 := (g3 (B + 11) (by omega)).trans d3.1
  conv => whnf
  rw [show s3.2.1 = σ.2.1 by rw [hs3]]
  refine putK d4 rfl (fit_a _ rfl) (fun s5 p5 o5 n5 => ?_)
  conv => whnf
  have hoct : dz w3 n (om (R_me f N 20)) := by
    have z0 : dz w3 0 [] := ⟨rfl, fun j x hx => by simp at hx⟩
    have z1 := z0.st.st
    rw [f0 0 (by omega), f0 (0 + 1) (by omega), e0, e1] at z1
    have ehd : ow 264 ++ ow (1073741824 ||| (8 + Int32.ofNat N)) = om (R_at 264 (Int32.ofNat N)) := by
      have key : ∀ x, x < 41 → ow (1073741824 ||| (8 + Int32.ofNat x)) = om (R_p1 64 ++ R_p3 (8 + Int32.ofNat x)) := by decide +kernel
      rw [key N (by omega)]
      rfl
    have elen : (om (R_ro f 5 0 N ++ R_pd (20 + 8 + N))).length = 4 * ((N + 3) / 4) := by
      unfold om
      rw [List.length_map, List.length_append, R_ro_len, R_pd_len]
      omega
    have hro : ∀ (N F j : Nat), j < N → (R_ro f 5 F N)[j]? = some (f.1 5 (F + j) >>> 0) := by
      intro N
      induction N with
      | zero => intro F j hj; omega
      | succ N ih =>
        intro F j hj
        unfold R_ro
        match j, hj with
        | 0, _ => rfl
        | j + 1, hj =>
          rw [List.getElem?_cons_succ, ih (F + 1) j (by omega), show F + 1 + j = F + (j + 1) by omega]
    have z2 := z1.app (cs := om (R_ro f 5 0 N ++ R_pd (20 + 8 + N))) elen (fun j x hx => by
      have hj := (List.getElem?_eq_some_iff.mp hx).1
      rw [elen] at hj
      have ec : cn_pk w3 (4 * (0 + 1 + 1) + j) = cn_pk w2 (4 * (0 + 2) + j) := cn_pk_eq (f0 _ (by omega))
      rw [ec, e2 j hj]
      unfold om at hx
      rw [List.getElem?_map] at hx
      obtain ⟨y, hy1, hy2⟩ := Option.map_eq_some_iff.mp hx
      rw [← hy2]
      by_cases ej : j < N
      · rw [if_pos ej, Nat.zero_add, hf j ej]
        rw [List.getElem?_append_left (by rw [R_ro_len]; exact ej), hro N 0 j ej, Nat.zero_add] at hy1
        have : f.1 5 j >>> 0 = y := by simpa using hy1
        rw [← this, Int32.shiftRight_zero]
      · rw [if_neg ej]
        rw [List.getElem?_append_right (by rw [R_ro_len]; omega), R_ro_len] at hy1
        unfold R_pd at hy1
        have := List.eq_of_mem_replicate (List.mem_of_getElem? hy1)
        rw [this]
        decide)
    have z3 := z2.st.st.st
    have k1 : 0 + 1 + 1 + (N + 3) / 4 = 0 + (2 + (N + 3) / 4) := by omega
    rw [k1, f1, f2, f3] at z3
    have e : om (R_me f N 20) = [] ++ ow 264 ++ ow (1073741824 ||| (8 + Int32.ofNat N)) ++ om (R_ro f 5 0 N ++ R_pd (20 + 8 + N)) ++ ow 296 ++ ow 1073741836 ++ ow 1752132965 := by
      unfold R_me R_tx
      rw [h6, om_app, om_app, ← ehd]
      have e3 : om (R_at 296 4 ++ R_p4 1752132965) = ow 296 ++ (ow 1073741836 ++ ow 1752132965) := rfl
      rw [e3]
      simp only [List.append_assoc, List.nil_append]
    rw [e, hn, show 0 + (2 + (N + 3) / 4) + 3 = 0 + (2 + (N + 3) / 4) + 1 + 1 + 1 by omega]
    exact z3
  have hlen : (R_me f N 20).length = 4 * n := by
    have := hoct.1
    unfold om at this
    rw [List.length_map] at this
    exact this
  refine ⟨rfl, ⟨n, g, (o5 _ (by omega)).trans g1, hn64, hlen, fun i x hx => ?_⟩, ⟨_, p5⟩, ⟨w3, (o5 _ (by omega)).trans ((g3 _ (by omega)).trans d3.2)⟩, fun a a1 a2 a3 => ?_, by rw [n5, g4], by rw [n5, g5]; omega⟩
  · have hi := (List.getElem?_eq_some_iff.mp hx).1
    rw [cn_pk_eq (w := w3) (g2 (i / 4) (by omega))]
    refine hoct.2 i _ ?_
    unfold om
    rw [List.getElem?_map, hx]
    rfl
  · rw [o5 a a1, g3 a a3, c3.2 a a1 a2, c1.2 a a1 a2, o1 a a1]
end JxOwn
