/-! THE CLASS: a GRANT in the draft -/
section JxGrant
variable {th : Nat → Nat} {d B O n : Nat} {σ σ' : jx_S} {bs : List Int32} {c : Int32} {u : Int64}
theorem hi32 {y z : Int64} (e1 : y.toBitVec = u.toBitVec >>> 32) (e2 : z.toBitVec = u.toBitVec.sshiftRight 32) : y.toInt32 = z.toInt32 := by
  apply Int32.toBitVec_inj.mp
  apply BitVec.eq_of_getLsbD_eq
  intro i hi
  rw [Int64.toBitVec_toInt32, Int64.toBitVec_toInt32, BitVec.getLsbD_signExtend, BitVec.getLsbD_signExtend, e1, e2]
  simp only [BitVec.getLsbD_sshiftRight, BitVec.getLsbD_ushiftRight]
  simp [hi, show i < 64 by omega, show 32 + i < 64 by omega, show ¬ 64 ≤ i by omega]
theorem k_grant (hM : DM B σ O bs) (hl : bs.length + 36 ≤ 256) : jc th (d + 2) 146 [.ref (B + 11), .long u] σ (fun r σ' => r = none ∧ dch B σ σ' ∧ DM B σ' O (bs ++ R_grT u)) := by
  obtain ⟨w, n, ⟨h11, h12⟩, hn, hq⟩ := hM
  have hbl : bs.length = 4 * n := by have := hq.1; unfold om at this; rw [List.length_map] at this; exact this
  refine cl_go dt_146 80 [] dt_146_k rfl ?_
  intro C J hC hJ
  conv => whnf
  refine ⟨_, jx_getF_of (h11) rfl, ?_⟩
  conv => whnf
  refine jx_no (nneg (a := n) (by omega)) ?_
  conv => whnf
  refine ⟨_, jx_getF_of (h11) rfl, ?_⟩
  conv => whnf
  refine ⟨_, jx_getF_of (h11) rfl, ?_⟩
  conv => whnf
  refine ⟨_, jx_al_of (h12), ?_⟩
  conv => whnf
  refine jx_no (show ¬ Int32.ofNat 64 < Int32.ofNat n + 6 by rw [nadd (c := 6) (q := 6) rfl (by omega), nlt (by omega) (by omega)]; omega) ?_
  conv => whnf
  refine ⟨_, jx_getF_of (h11) rfl, ?_⟩
  conv => whnf
  refine ⟨_, jx_getF_of (h11) rfl, ?_⟩
  conv => whnf
  refine istK h12 (k := n) (i32_ofNat (by omega)) (by omega) (fun s1 p1 o1 n1 => ?_)
  conv => whnf
  have q1 := (o1 (B + 11) (by omega)).trans h11
  refine ⟨_, jx_getF_of (q1) rfl, ?_⟩
  conv => whnf
  refine ⟨_, jx_getF_of (q1) rfl, ?_⟩
  conv => whnf
  refine istK p1 (k := n + 1) (nadd_i (c := 1) rfl (by omega)) (by omega) (fun s2 p2 o2 n2 => ?_)
  conv => whnf
  have q2 := (o2 (B + 11) (by omega)).trans q1
  refine ⟨_, jx_getF_of (q2) rfl, ?_⟩
  conv => whnf
  refine ⟨_, jx_getF_of (q2) rfl, ?_⟩
  conv => whnf
  refine istK p2 (k := n + 2) (nadd_i (c := 2) rfl (by omega)) (by omega) (fun s3 p3 o3 n3 => ?_)
  conv => whnf
  have q3 := (o3 (B + 11) (by omega)).trans q2
  refine ⟨_, jx_getF_of (q3) rfl, ?_⟩
  conv => whnf
  refine ⟨_, jx_getF_of (q3) rfl, ?_⟩
  conv => whnf
  refine istK p3 (k := n + 3) (nadd_i (c := 3) rfl (by omega)) (by omega) (fun s4 p4 o4 n4 => ?_)
  conv => whnf
  have q4 := (o4 (B + 11) (by omega)).trans q3
  refine ⟨_, jx_getF_of (q4) rfl, ?_⟩
  conv => whnf
  refine ⟨_, jx_getF_of (q4) rfl, ?_⟩
  conv => whnf
  refine istK p4 (k := n + 4) (nadd_i (c := 4) rfl (by omega)) (by omega) (fun s5 p5 o5 n5 => ?_)
  conv => whnf
  have q5 := (o5 (B + 11) (by omega)).trans q4
  refine ⟨_, jx_getF_of (q5) rfl, ?_⟩
  conv => whnf
  refine ⟨_, jx_getF_of (q5) rfl, ?_⟩
  conv => whnf
  refine istK p5 (k := n + 5) (nadd_i (c := 5) rfl (by omega)) (by omega) (fun s6 p6 o6 n6 => ?_)
  conv => whnf
  have q6 := (o6 (B + 11) (by omega)).trans q5
  refine ⟨_, jx_getF_of (q6) rfl, ?_⟩
  conv => whnf
  refine putK q6 rfl (fit_i _) (fun s7 p7 o7 n7 => ?_)
  conv => whnf
  obtain ⟨X, hX⟩ : ∃ X : Int32, X = ((fun x y => (x.toUInt64 >>> (y.toInt64.toUInt64 &&& Int64.toUInt64 63)).toInt64) u (32 : Int32)).toInt32 := ⟨_, rfl⟩
  have eX : X = (u >>> 32).toInt32 := by rw [hX]; exact hi32 rfl rfl
  rw [← hX] at p6
  have m7 : DM B s7 O (bs ++ (R_at 431 16 ++ (R_at 421 8 ++ (R_p4 X ++ R_p4 u.toInt32)))) := by
    refine ⟨_, n + 6, ⟨?_, (o7 (B + 12) (by omega)).trans p6⟩, by omega, ?_⟩
    · rw [← nadd (a := n) (c := 6) (q := 6) rfl (by omega)]
      exact p7
    · have hq3 : dq (upd (upd (upd (upd (upd (upd w n 431) (n + 1) 1073741848) (n + 2) 421) (n + 3) 1073741840) (n + 4) X) (n + 5) u.toInt32) n (om bs) := hq.of (fun i _ hi => by rw [upd_ne (by omega), upd_ne (by omega), upd_ne (by omega), upd_ne (by omega), upd_ne (by omega), upd_ne (by omega)])
      obtain ⟨W, hW⟩ : ∃ W, W = upd (upd (upd (upd (upd (upd w n 431) (n + 1) 1073741848) (n + 2) 421) (n + 3) 1073741840) (n + 4) X) (n + 5) u.toInt32 := ⟨_, rfl⟩
      rw [← hW] at hq3 ⊢
      have w0 : W n = 431 := by rw [hW, upd_ne (by omega), upd_ne (by omega), upd_ne (by omega), upd_ne (by omega), upd_ne (by omega), upd_eq]
      have w1 : W (n + 1) = 1073741848 := by rw [hW, upd_ne (by omega), upd_ne (by omega), upd_ne (by omega), upd_ne (by omega), upd_eq]
      have w2 : W (n + 2) = 421 := by rw [hW, upd_ne (by omega), upd_ne (by omega), upd_ne (by omega), upd_eq]
      have w3 : W (n + 3) = 1073741840 := by rw [hW, upd_ne (by omega), upd_ne (by omega), upd_eq]
      have w4 : W (n + 4) = X := by rw [hW, upd_ne (by omega), upd_eq]
      have w5 : W (n + 5) = u.toInt32 := by rw [hW, upd_eq]
      have := hq3.w.w.w.w.w.w
      rw [show n + 1 + 1 = n + 2 by omega, show n + 2 + 1 = n + 3 by omega, show n + 3 + 1 = n + 4 by omega, show n + 4 + 1 = n + 5 by omega, show n + 5 + 1 = n + 6 by omega, w0, w1, w2, w3, w4, w5] at this
      rw [om_app]
      have e : om (R_at 431 16 ++ (R_at 421 8 ++ (R_p4 X ++ R_p4 u.toInt32))) = ow 431 ++ (ow 1073741848 ++ (ow 421 ++ (ow 1073741840 ++ (ow X ++ ow u.toInt32)))) := rfl
      rw [e, ← List.append_assoc, ← List.append_assoc, ← List.append_assoc, ← List.append_assoc, ← List.append_assoc]
      exact this
  have c7 : dch B σ s7 := ⟨n7.trans (n6.trans (n5.trans (n4.trans (n3.trans (n2.trans n1))))), fun a h1 h2 => by rw [o7 a h1, o6 a h2, o5 a h2, o4 a h2, o3 a h2, o2 a h2, o1 a h2]⟩
  obtain ⟨cn, e11⟩ := m7.c11
  refine ⟨jx_isC_of e11, hC _ _ _ _ ((k_number (d := d) (c := 448) (v := 600) m7 (by rw [List.length_append]; show bs.length + 24 + 12 ≤ 256; omega)).mp ?_)⟩
  rintro r s8 ⟨rfl, c8, m8⟩
  conv => whnf
  refine ⟨rfl, c7.tr c8, ?_⟩
  rw [eX, List.append_assoc, List.append_assoc, List.append_assoc, List.append_assoc] at m8
  exact m8
end JxGrant
