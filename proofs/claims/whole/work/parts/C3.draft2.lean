/-! THE CLASS: its draft, its beginning, its end -/
section JxDraft2
variable {th : Nat → Nat} {d B O n k s : Nat} {σ σ' σ'' : jx_S} {w : Nat → Int32} {bs : List Int32} {c v : Int32} {f : jx_F}
theorem k_origin_l {o : Nat → Int32} {m : Nat} {Q : Option Value → jx_S → Prop} (hO : O ≠ B + 11 ∧ O ≠ B + 12) (hm : m ≤ 64) : ∀ (r i n : Nat) (iv : Int32) (w : Nat → Int32) (σ : jx_S), i + r = m → n + r ≤ 64 → iv.toInt = (i : Int) → DR B σ O w n → σ.1 O = some (.inl (1, m, .inl o)) → (∀ σ' w', dch B σ σ' → DR B σ' O w' (n + r) → (∀ j, j < n → w' j = w j) → (∀ j, j < r → w' (n + j) = o (i + j)) → Q none σ') → cl_fj th d 51 2 [(0, .ref (B + 11)), (1, .int iv)] [] σ Q
  | 0, i, n, iv, w, σ, hi, hn, hv, ⟨h11, h12⟩, ho, h => by
    refine cl_at dt_51 60 [] dt_51_k ?_
    intro C J hC hJ
    conv => whnf
    refine ⟨_, jx_getF_of (h11) rfl, ?_⟩
    conv => whnf
    refine ⟨_, jx_al_of (ho), ?_⟩
    conv => whnf
    refine jx_yes (show Int32.ofNat m ≤ iv by rw [Int32.le_iff_toInt_le, hv, i32_ofNat (by omega)]; omega) ?_
    conv => whnf
    exact h σ w ⟨rfl, fun _ _ _ => rfl⟩ ⟨h11, h12⟩ (fun _ _ => rfl) (fun j hj => by omega)
  | r + 1, i, n, iv, w, σ, hi, hn, hv, ⟨h11, h12⟩, ho, h => by
    refine cl_at dt_51 60 [(2, [0, 1])] dt_51_k ?_
    intro C J hC hJ
    conv => whnf
    refine ⟨_, jx_getF_of (h11) rfl, ?_⟩
    conv => whnf
    refine ⟨_, jx_al_of (ho), ?_⟩
    conv => whnf
    refine jx_no (show ¬ Int32.ofNat m ≤ iv by rw [Int32.le_iff_toInt_le, hv, i32_ofNat (by omega)]; omega) ?_
    conv => whnf
    refine ⟨_, jx_getF_of (h11) rfl, ?_⟩
    conv => whnf
    refine jx_no (nneg (a := n) (by omega)) ?_
    conv => whnf
    refine ⟨_, jx_getF_of (h11) rfl, ?_⟩
    conv => whnf
    refine ⟨_, jx_getF_of (h11) rfl, ?_⟩
    conv => whnf
    refine ⟨_, jx_al_of (h12), ?_⟩
    conv => whnf
    refine jx_no (show ¬ Int32.ofNat 64 ≤ Int32.ofNat n by rw [nle (by omega) (by omega)]; omega) ?_
    conv => whnf
    refine ⟨_, jx_getF_of (h11) rfl, ?_⟩
    conv => whnf
    refine ⟨_, jx_getF_of (h11) rfl, ?_⟩
    conv => whnf
    refine ⟨_, jx_getF_of (h11) rfl, ?_⟩
    conv => whnf
    refine ⟨_, jx_ild_of ho (by decide) hv (by omega), ?_⟩
    conv => whnf
    refine istK h12 (k := n) (i32_ofNat (by omega)) (by omega) (fun s1 p1 o1 n1 => ?_)
    conv => whnf
    have q1 := (o1 (B + 11) (by omega)).trans h11
    refine ⟨_, jx_getF_of (q1) rfl, ?_⟩
    conv => whnf
    refine putK q1 rfl (fit_i _) (fun s2 p2 o2 n2 => ?_)
    conv => whnf
    have hv1 : (iv + Int32.ofInt 1).toInt = ((i + 1 : Nat) : Int) := by rw [i32_add (c := 1) hv (by decide) (by omega) (by omega)]; omega
    have e1 : Int32.ofNat n + 1 = Int32.ofNat (n + 1) := nadd (c := 1) rfl (by omega)
    refine hJ _ _ _ _ (k_origin_l hO hm r (i + 1) (n + 1) _ (upd w n (o i)) s2 (by omega) (by omega) hv1 ⟨by rw [← e1]; exact p2, (o2 (B + 12) (by omega)).trans p1⟩ ((o2 O hO.1).trans ((o1 O hO.2).trans ho)) (fun σ' w' c1 c2 c3 c4 => ?_))
    refine h σ' w' ((show dch B σ s2 from ⟨n2.trans n1, fun a h1 h2 => (o2 a h1).trans (o1 a h2)⟩).tr c1) (by rw [show n + (r + 1) = n + 1 + r by omega]; exact c2) (fun j hj => by rw [c3 j (by omega), upd_ne (by omega)]) (fun j hj => ?_)
    match j, hj with
    | 0, _ => rw [Nat.add_zero, Nat.add_zero, c3 n (by omega), upd_eq]
    | j + 1, hj => rw [show n + (j + 1) = n + 1 + j by omega, c4 j (by omega), show i + (j + 1) = i + 1 + j by omega]
theorem k_origin {o : Nat → Int32} {m : Nat} {os : List Int32} (hM : DM B σ O bs) (hO : O ≠ B + 11 ∧ O ≠ B + 12) (ho : σ.1 O = some (.inl (1, m, .inl o))) (hos : os.length = 4 * m) (hoc : ∀ i x, os[i]? = some x → cn_pk o i = x.toInt8) (hl : bs.length + os.length ≤ 256) : jc th (d + 1) 51 [.ref (B + 11)] σ (fun r σ' => r = none ∧ dch B σ σ' ∧ DM B σ' O (bs ++ os)) := by
  obtain ⟨w, n, hD, hn, hq⟩ := hM
  have hbl : bs.length = 4 * n := by have := hq.1; unfold om at this; rw [List.length_map] at this; exact this
  refine cl_go dt_51 20 [(2, [0, 1])] dt_51_k rfl ?_
  intro C J hC hJ
  conv => whnf
  refine hJ _ _ _ _ (k_origin_l hO (by omega) m 0 n 0 w σ (by omega) (by omega) (by decide) hD ho (fun σ' w' c1 c2 c3 c4 => ⟨rfl, c1, w', n + m, c2, by omega, ?_⟩))
  rw [om_app]
  refine (hq.of (fun i _ hi => c3 i hi)).app (by unfold om; rw [List.length_map]; exact hos) (fun j x hx => ?_)
  have hj : j < 4 * m := by
    have := (List.getElem?_eq_some_iff.mp hx).1
    unfold om at this
    rw [List.length_map] at this
    omega
  unfold om at hx
  rw [List.getElem?_map] at hx
  obtain ⟨y, hy1, hy2⟩ := Option.map_eq_some_iff.mp hx
  rw [← hy2, ← hoc j y hy1]
  unfold cn_pk
  rw [show (4 * n + j) / 4 = n + j / 4 by omega, show (4 * n + j) % 4 = j % 4 by omega, c4 (j / 4) (by omega), Nat.zero_add]
theorem k_intro {t : Nat} (hM : DM B σ O bs) (hl : bs.length + 52 ≤ 256) (ht : t % 4 = 0) : jc th (d + 2) 52 [.ref (B + 11)] σ (fun r σ' => r = none ∧ dch B σ σ' ∧ DM B σ' O (bs ++ R_ad t)) := by
  have hR : R_ad t = R_at 257 6 ++ (R_p2 1 ++ (R_p4 2130706433 ++ ([(0 : Int32) >>> 0, (0 : Int32) >>> 0] ++ (R_nm 266 0 ++ (R_nm 269 1885693298 ++ R_nm 258 4))))) := by
    unfold R_ad R_pd
    rw [show (4 - (t + 8 + 2 + 4) % 4) % 4 = 2 by omega]
    rfl
  obtain ⟨w, n, ⟨h11, h12⟩, hn, hq⟩ := hM
  have hbl : bs.length = 4 * n := by have := hq.1; unfold om at this; rw [List.length_map] at this; exact this
  refine cl_go dt_52 80 [] dt_52_k rfl ?_
  intro C J hC hJ
  conv => whnf
  refine ⟨_, jx_getF_of (h11) rfl, ?_⟩
  conv => whnf
  refine jx_no (nneg (a := n) (by omega)) ?_
  conv => whnf
  refine ⟨_, jx_getF_of (h11) rfl, ?_⟩
  conv => whnf
  refine ⟨_, jx_getF_of (h11) rfl, ?_⟩
  conv => whnf
  refine ⟨_, jx_al_of (h12), ?_⟩
  conv => whnf
  refine jx_no (show ¬ Int32.ofNat 64 < Int32.ofNat n + 4 by rw [nadd (c := 4) (q := 4) rfl (by omega), nlt (by omega) (by omega)]; omega) ?_
  conv => whnf
  refine ⟨_, jx_getF_of (h11) rfl, ?_⟩
  conv => whnf
  refine ⟨_, jx_getF_of (h11) rfl, ?_⟩
  conv => whnf
  refine istK h12 (k := n) (i32_ofNat (by omega)) (by omega) (fun s1 p1 o1 n1 => ?_)
  conv => whnf
  have q1 := (o1 (B + 11) (by omega)).trans h11
  refine ⟨_, jx_getF_of (q1) rfl, ?_⟩
  conv => whnf
  refine ⟨_, jx_getF_of (q1) rfl, ?_⟩
  conv => whnf
  refine istK p1 (k := n + 1) (nadd_i (c := 1) rfl (by omega)) (by omega) (fun s2 p2 o2 n2 => ?_)
  conv => whnf
  have q2 := (o2 (B + 11) (by omega)).trans q1
  refine ⟨_, jx_getF_of (q2) rfl, ?_⟩
  conv => whnf
  refine ⟨_, jx_getF_of (q2) rfl, ?_⟩
  conv => whnf
  refine istK p2 (k := n + 2) (nadd_i (c := 2) rfl (by omega)) (by omega) (fun s3 p3 o3 n3 => ?_)
  conv => whnf
  have q3 := (o3 (B + 11) (by omega)).trans q2
  refine ⟨_, jx_getF_of (q3) rfl, ?_⟩
  conv => whnf
  refine ⟨_, jx_getF_of (q3) rfl, ?_⟩
  conv => whnf
  refine istK p3 (k := n + 3) (nadd_i (c := 3) rfl (by omega)) (by omega) (fun s4 p4 o4 n4 => ?_)
  conv => whnf
  have q4 := (o4 (B + 11) (by omega)).trans q3
  refine ⟨_, jx_getF_of (q4) rfl, ?_⟩
  conv => whnf
  refine putK q4 rfl (fit_i _) (fun s5 p5 o5 n5 => ?_)
  conv => whnf
  have hd5 : dch B σ s5 := ⟨n5.trans (n4.trans (n3.trans (n2.trans n1))), fun a h1 h2 => by rw [o5 a h1, o4 a h2, o3 a h2, o2 a h2, o1 a h2]⟩
  have hM5 : DM B s5 O (bs ++ (R_at 257 6 ++ (R_p2 1 ++ (R_p4 2130706433 ++ [(0 : Int32) >>> 0, (0 : Int32) >>> 0])))) := by
    refine ⟨_, n + 4, ⟨?_, (o5 (B + 12) (by omega)).trans p4⟩, by omega, ?_⟩
    · rw [← nadd (a := n) (c := 4) (q := 4) rfl (by omega)]
      exact p5
    · have hq3 : dq (upd (upd (upd (upd w n 257) (n + 1) 1073741838) (n + 2) 98048) (n + 3) 65536) n (om bs) := hq.of (fun i _ hi => by rw [upd_ne (by omega), upd_ne (by omega), upd_ne (by omega), upd_ne (by omega)])
      have := hq3.w.w.w.w
      rw [upd_ne (show n ≠ n + 3 by omega), upd_ne (show n ≠ n + 2 by omega), upd_ne (show n ≠ n + 1 by omega), upd_eq, upd_ne (show n + 1 ≠ n + 3 by omega), upd_ne (show n + 1 ≠ n + 2 by omega), upd_eq, show n + 1 + 1 = n + 2 by omega, upd_ne (show n + 2 ≠ n + 3 by omega), upd_eq, show n + 2 + 1 = n + 3 by omega, upd_eq] at this
      rw [om_app]
      have e : om (R_at 257 6 ++ (R_p2 1 ++ (R_p4 2130706433 ++ [(0 : Int32) >>> 0, (0 : Int32) >>> 0]))) = ow 257 ++ (ow 1073741838 ++ (ow 98048 ++ ow 65536)) := by decide +kernel
      rw [e, ← List.append_assoc, ← List.append_assoc, ← List.append_assoc]
      exact this
  have l5 : (bs ++ (R_at 257 6 ++ (R_p2 1 ++ (R_p4 2130706433 ++ [(0 : Int32) >>> 0, (0 : Int32) >>> 0])))).length = bs.length + 16 := by rw [List.length_append]; rfl
  obtain ⟨c5, r5⟩ := hM5.c11
  refine ⟨jx_isC_of r5, hC _ _ _ _ ((k_number (d := d) hM5 (by omega)).mp ?_)⟩
  rintro r σ6 ⟨rfl, hd6, hM6⟩
  obtain ⟨c6, r6⟩ := hM6.c11
  conv => whnf
  refine ⟨jx_isC_of r6, hC _ _ _ _ ((k_number (d := d) hM6 (by rw [List.length_append, l5]; show _ + 12 + 12 ≤ 256; omega)).mp ?_)⟩
  rintro r σ7 ⟨rfl, hd7, hM7⟩
  obtain ⟨c7, r7⟩ := hM7.c11
  conv => whnf
  refine ⟨jx_isC_of r7, hC _ _ _ _ ((k_number (d := d) hM7 (by rw [List.length_append, List.length_append, l5]; show _ + 12 + 12 + 12 ≤ 256; omega)).mp ?_)⟩
  rintro r σ8 ⟨rfl, hd8, hM8⟩
  conv => whnf
  refine ⟨rfl, ((hd5.tr hd6).tr hd7).tr hd8, ?_⟩
  rw [hR]
  simp only [List.append_assoc] at hM8 ⊢
  exact hM8
theorem fo_w (hn : n ≤ 64) (hq : dq w n (om bs)) (h0 : bs[0]? = some ((1 : Int32) >>> 0)) (hw0 : w 0 = 16777216 ||| Int32.ofNat (4 * n)) : ∀ j, j < bs.length → (cn_pk w j).toInt32 = R_fo bs j := by
  intro j hj
  have hbl : bs.length = 4 * n := by have := hq.1; unfold om at this; rw [List.length_map] at this; exact this
  by_cases h4 : 4 ≤ j
  · have hx : (om bs)[j]? = some (bs[j]'hj).toInt8 := by unfold om; rw [List.getElem?_map, List.getElem?_eq_getElem hj]; rfl
    rw [hq.2 j _ h4 hx]
    unfold R_fo
    rw [if_neg (by omega), if_neg (by omega), if_neg (by omega), List.getD_eq_getElem?_getD, List.getElem?_eq_getElem hj]
    rfl
  · have key : ∀ m, m < 65 → ((ow (16777216 ||| Int32.ofNat (4 * m))).map Int8.toInt32) = [(1 : Int32), 0, (Int32.ofNat (4 * m) >>> 8).toInt8.toInt32, (Int32.ofNat (4 * m)).toInt8.toInt32] := by decide +kernel
    have k4 := key n (by omega)
    have hj4 : j = 0 ∨ j = 1 ∨ j = 2 ∨ j = 3 := by omega
    unfold R_fo
    rw [hbl]
    rcases hj4 with rfl | rfl | rfl | rfl
    · have e := cn_pk_0 w 0
      rw [hw0] at e
      have k5 := congrArg (fun l => l[0]?) k4
      simp only [ow, List.map_cons, List.getElem?_cons_zero, Option.some.injEq] at k5
      rw [show 4 * 0 = 0 from rfl] at e
      rw [e, k5, if_neg (by omega), if_neg (by omega), if_neg (by omega), List.getD_eq_getElem?_getD, h0]
      decide
    · have e := cn_pk_1 w 0
      rw [hw0] at e
      have k5 := congrArg (fun l => l[1]?) k4
      simp only [ow, List.map_cons, List.getElem?_cons_zero, List.getElem?_cons_succ, Option.some.injEq] at k5
      rw [show 4 * 0 + 1 = 1 from rfl] at e
      rw [e, k5, if_pos rfl]
    · have e := cn_pk_2 w 0
      rw [hw0] at e
      have k5 := congrArg (fun l => l[2]?) k4
      simp only [ow, List.map_cons, List.getElem?_cons_zero, List.getElem?_cons_succ, Option.some.injEq] at k5
      rw [show 4 * 0 + 2 = 2 from rfl] at e
      rw [e, k5, if_neg (by omega), if_pos rfl]
    · have e := cn_pk_3 w 0
      rw [hw0] at e
      have k5 := congrArg (fun l => l[3]?) k4
      simp only [ow, List.map_cons, List.getElem?_cons_zero, List.getElem?_cons_succ, Option.some.injEq] at k5
      rw [show 4 * 0 + 3 = 3 from rfl] at e
      rw [e, k5, if_neg (by omega), if_neg (by omega), if_pos rfl]
theorem k_finish (hM : DM B σ O bs) (h0 : bs[0]? = some ((1 : Int32) >>> 0)) : jc th (d + 1) 53 [.ref (B + 11)] σ (fun r σ' => r = some (.int (Int32.ofNat (bs.length / 4))) ∧ dch B σ σ' ∧ (∃ c, σ'.1 (B + 11) = some (.inr (4, [.ref (B + 12), .int c, .ref O]))) ∧ ∃ w, σ'.1 (B + 12) = some (.inl (1, 64, .inl w)) ∧ ∀ j, j < bs.length → (cn_pk w j).toInt32 = R_fo bs j) := by
  obtain ⟨w, n, ⟨h11, h12⟩, hn, hq⟩ := hM
  have hbl : bs.length = 4 * n := by have := hq.1; unfold om at this; rw [List.length_map] at this; exact this
  refine cl_go dt_53 80 [] dt_53_k rfl ?_
  intro C J hC hJ
  conv => whnf
  refine ⟨_, jx_getF_of (h11) rfl, ?_⟩
  conv => whnf
  refine ⟨_, jx_getF_of (h11) rfl, ?_⟩
  conv => whnf
  refine istK h12 (k := 0) (by decide) (by decide) (fun s1 p1 o1 n1 => ?_)
  conv => whnf
  have q1 := (o1 (B + 11) (by omega)).trans h11
  refine ⟨_, jx_getF_of (q1) rfl, ?_⟩
  conv => whnf
  have e4 : (4 : Int32) * Int32.ofNat n = Int32.ofNat (4 * n) := Int32.toInt_inj.mp (by rw [i32_mul (a := 4) (by decide) (i32_ofNat (by omega)) (by omega) (by omega), i32_ofNat (by omega)]; omega)
  refine ⟨by rw [show bs.length / 4 = n by omega], ⟨n1, fun a h1 h2 => o1 a h2⟩, ⟨_, q1⟩, _, p1, fo_w hn (hq.of (fun i h1 _ => upd_ne (by omega))) h0 (by rw [upd_eq]; show 16777216 ||| 4 * Int32.ofNat n = _; rw [e4])⟩
end JxDraft2
