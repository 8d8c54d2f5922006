/-! THE CLASS: a message is sent on a connection -/
theorem ush_g (x : Int32) (s : Nat) (hs : s ≤ 24) (y z : Int32) (e1 : y.toBitVec = x.toBitVec >>> s) (e2 : z.toBitVec = x.toBitVec.sshiftRight s) : y.toInt8 = z.toInt8 := by
  apply Int8.toBitVec_inj.mp
  apply BitVec.eq_of_getLsbD_eq
  intro i hi
  simp only [Int32.toBitVec_toInt8, e1, e2, BitVec.getLsbD_signExtend, BitVec.getLsbD_ushiftRight, BitVec.getLsbD_sshiftRight]
  have h8 : i < 8 := hi
  have h1 : i < 32 := by omega
  have h2 : s + i < 32 := by omega
  simp [h8, h1, h2]
  try omega
theorem ush_oct (x : Int32) : ∀ t, t < 4 → ((x.toUInt32 >>> ((24 - 8 * Int32.ofNat t).toUInt32 &&& Int32.toUInt32 31)).toInt32).toInt8 = (x >>> (24 - 8 * Int32.ofNat t)).toInt8
  | 0, _ => ush_g x 24 (by omega) _ _ rfl rfl
  | 1, _ => ush_g x 16 (by omega) _ _ rfl rfl
  | 2, _ => ush_g x 8 (by omega) _ _ rfl rfl
  | 3, _ => ush_g x 0 (by omega) _ _ rfl rfl
  | t + 4, h => by omega
theorem i32_shr2 {iv : Int32} {i : Nat} (h : iv.toInt = (i : Int)) : (iv >>> ((2 : Int32) &&& 31)).toInt = ((i / 4 : Nat) : Int) := by
  have e : (iv >>> ((2 : Int32) &&& 31)).toBitVec = iv.toBitVec.sshiftRight 2 := rfl
  have : (iv >>> ((2 : Int32) &&& 31)).toInt = iv.toBitVec.toInt >>> 2 := by
    show (iv >>> ((2 : Int32) &&& 31)).toBitVec.toInt = _
    rw [e, BitVec.toInt_sshiftRight]
  rw [this]
  show iv.toInt >>> 2 = _
  rw [h, Int.shiftRight_eq_div_pow]
  omega
theorem i32_and3 {iv : Int32} {i : Nat} (h : iv.toInt = (i : Int)) : iv &&& 3 = Int32.ofNat (i % 4) := by
  apply Int32.toBitVec_inj.mp
  apply BitVec.eq_of_toNat_eq
  have hn : iv.toBitVec.toNat = i := by
    have h1 : iv.toBitVec.toInt = (i : Int) := h
    have h2 := BitVec.toInt_eq_toNat_cond iv.toBitVec
    rw [h1] at h2
    have h3 := iv.toBitVec.isLt
    split at h2 <;> omega
  have e1 : (iv &&& 3).toBitVec = iv.toBitVec &&& 3#32 := rfl
  have e2 : (Int32.ofNat (i % 4)).toBitVec = BitVec.ofNat 32 (i % 4) := rfl
  rw [e1, e2, BitVec.toNat_and, hn, BitVec.toNat_ofNat, BitVec.toNat_ofNat]
  have : i &&& 3 = i % 4 := Nat.and_two_pow_sub_one_eq_mod i 2
  rw [show 3 % 2^32 = 3 from rfl, this]
  omega
theorem upd_o {f : Nat → Int32} {k j : Nat} {x : Int32} : upd f k x j = if j = k then x else f j := rfl
section JxSend
variable {th : Nat → Nat} {d B b Cn Ou Wd len n a z : Nat} {xl : List Int32} {σ σ' : jx_S} {w h : Nat → Int32} {nv oc ofs nr : Int32} {v0 v1 v2 v3 v4 v8 : Value} {Q : Option Value → jx_S → Prop} {f f' : jx_F} {A : Nat → Nat → Nat} {G : Nat → Nat → Int32} {T : Nat → Nat}
theorem k_send_m {t i : Nat} {tv iv : Int32} (hO : σ.1 Cn = some (.inr (5, [v0, v1, v2, v3, v4, .int oc, .int nr, .int ofs, v8, .ref Ou]))) (hh : σ.1 Ou = some (.inl (0, 2000, .inl h))) (hw : σ.1 Wd = some (.inl (1, len, .inl w))) (ht : tv.toInt = (t : Int)) (ht2 : t < 2000) (hi : iv.toInt = (i : Int)) (hi4 : i / 4 < len) (hK : ∀ σ', σ'.1 Ou = some (.inl (0, 2000, .inl (upd h t (cn_pk w i).toInt32))) → (∀ q, q ≠ Ou → σ'.1 q = σ.1 q) → σ'.2 = σ.2 → cl_fj th d 54 46 [(0, .ref Cn), (1, .ref Wd), (2, .int nv), (3, .int (tv + Int32.ofInt 1)), (4, .int (iv + Int32.ofInt 1))] [] σ' Q) : cl_fj th d 54 75 [(0, .ref Cn), (1, .ref Wd), (2, .int nv), (3, .int tv), (4, .int iv)] [] σ Q := by
  refine cl_at dt_54 60 [(46, [0, 1, 2, 3, 4])] dt_54_k ?_
  intro C J hC hJ
  conv => whnf
  refine jx_no (show ¬ tv < 0 by rw [Int32.lt_iff_toInt_lt, ht]; simp) ?_
  conv => whnf
  refine ⟨_, jx_getF_of (hO) rfl, ?_⟩
  conv => whnf
  refine ⟨_, jx_al_of (hh), ?_⟩
  conv => whnf
  refine jx_no (show ¬ Int32.ofNat 2000 ≤ tv by rw [Int32.le_iff_toInt_le, ht, i32_ofNat (by omega)]; omega) ?_
  conv => whnf
  refine ⟨_, jx_getF_of (hO) rfl, ?_⟩
  conv => whnf
  refine ⟨_, jx_ild_of hw (by decide) (i32_shr2 hi) hi4, ?_⟩
  conv => whnf
  refine bstK hh ht ht2 (fun s1 p1 o1 n1 => ?_)
  conv => whnf
  refine hJ _ _ _ _ (hK s1 ?_ o1 n1)
  have e : ((w (i / 4)).toUInt32 >>> ((24 - 8 * (iv &&& 3)).toUInt32 &&& Int32.toUInt32 31)).toInt32.toInt8 = cn_pk w i := by
    rw [i32_and3 hi, ush_oct _ _ (Nat.mod_lt _ (by omega))]
    rfl
  rw [p1, nar_b]
  show (some (.inl (0, 2000, .inl (upd h t (((w (i / 4)).toUInt32 >>> ((24 - 8 * (iv &&& 3)).toUInt32 &&& Int32.toUInt32 31)).toInt32.toInt8).toInt32))) : Option jx_E) = _
  rw [e]
theorem k_send_l (hne : Cn ≠ Ou ∧ Wd ≠ Ou) (hn : n ≤ len) (hnv : nv.toInt = (n : Int)) (hn5 : 4 * n ≤ 2000) : ∀ (r i t : Nat) (iv tv : Int32) (h : Nat → Int32) (σ : jx_S), i + r = 4 * n → iv.toInt = (i : Int) → tv.toInt = (t : Int) → t < 4000 → σ.1 Cn = some (.inr (5, [v0, v1, v2, v3, v4, .int oc, .int nr, .int ofs, v8, .ref Ou])) → σ.1 Ou = some (.inl (0, 2000, .inl h)) → σ.1 Wd = some (.inl (1, len, .inl w)) → (∀ σ' h', σ'.1 Cn = some (.inr (5, [v0, v1, v2, v3, v4, .int (oc + 4 * nv), .int nr, .int ofs, v8, .ref Ou])) → σ'.1 Ou = some (.inl (0, 2000, .inl h')) → (∀ q, q ≠ Cn → q ≠ Ou → σ'.1 q = σ.1 q) → σ'.2 = σ.2 → (∀ j, j < r → h' ((t + j) % 2000) = (cn_pk w (i + j)).toInt32) → (∀ q, (∀ j, j < r → q ≠ (t + j) % 2000) → h' q = h q) → Q none σ') → cl_fj th d 54 46 [(0, .ref Cn), (1, .ref Wd), (2, .int nv), (3, .int tv), (4, .int iv)] [] σ Q
  | 0, i, t, iv, tv, h, σ, hi, hv, ht, ht4, hO, hh, hw, hK => by
    have h4 : (4 * nv).toInt = ((4 * n : Nat) : Int) := by rw [i32_mul (a := 4) (by decide) hnv (by omega) (by omega)]; omega
    refine cl_at dt_54 60 [] dt_54_k ?_
    intro C J hC hJ
    conv => whnf
    refine jx_yes (show 4 * nv ≤ iv by rw [Int32.le_iff_toInt_le, h4, hv]; omega) ?_
    conv => whnf
    refine ⟨_, jx_getF_of (hO) rfl, ?_⟩
    conv => whnf
    refine putK hO rfl (fit_i _) (fun s1 p1 o1 n1 => ?_)
    conv => whnf
    exact hK s1 h p1 ((o1 Ou (Ne.symm hne.1)).trans hh) (fun q q1 q2 => o1 q q1) n1 (fun j hj => by omega) (fun _ _ => rfl)
  | r + 1, i, t, iv, tv, h, σ, hi, hv, ht, ht4, hO, hh, hw, hK => by
    have h4 : (4 * nv).toInt = ((4 * n : Nat) : Int) := by rw [i32_mul (a := 4) (by decide) hnv (by omega) (by omega)]; omega
    have hv1 : (iv + Int32.ofInt 1).toInt = ((i + 1 : Nat) : Int) := by rw [i32_add (c := 1) hv (by decide) (by omega) (by omega)]; omega
    have step : ∀ (t' : Nat) (tv' : Int32), tv'.toInt = (t' : Int) → t' = t % 2000 → cl_fj th d 54 75 [(0, .ref Cn), (1, .ref Wd), (2, .int nv), (3, .int tv'), (4, .int iv)] [] σ Q := by
      intro t' tv' ht' e'
      have hlt : t' < 2000 := by omega
      refine k_send_m hO hh hw ht' hlt hv (by omega) (fun σ' g1 g2 g3 => ?_)
      have ht1 : (tv' + Int32.ofInt 1).toInt = ((t' + 1 : Nat) : Int) := by rw [i32_add (c := 1) ht' (by decide) (by omega) (by omega)]; omega
      refine k_send_l hne hn hnv hn5 r (i + 1) (t' + 1) _ _ _ σ' (by omega) hv1 ht1 (by omega) ((g2 Cn hne.1).trans hO) g1 ((g2 Wd hne.2).trans hw) (fun σ2 h' k1 k2 k3 k4 k5 k6 => ?_)
      refine hK σ2 h' k1 k2 (fun q q1 q2 => (k3 q q1 q2).trans (g2 q q2)) (k4.trans g3) (fun j hj => ?_) (fun q hq => ?_)
      · match j, hj with
        | 0, _ =>
          rw [Nat.add_zero, Nat.add_zero, k6 (t % 2000) (fun j hj e => by omega), e', upd_eq]
        | j + 1, hj =>
          have := k5 j (by omega)
          rw [show (t' + 1 + j) % 2000 = (t + (j + 1)) % 2000 by omega, show i + 1 + j = i + (j + 1) by omega] at this
          exact this
      · rw [k6 q (fun j hj e => hq (j + 1) (by omega) (by omega)), upd_ne (fun e => hq 0 (by omega) (by omega))]
    refine cl_at dt_54 60 [(75, [0, 1, 2, 3, 4])] dt_54_k ?_
    intro C J hC hJ
    conv => whnf
    refine jx_no (show ¬ 4 * nv ≤ iv by rw [Int32.le_iff_toInt_le, h4, hv]; omega) ?_
    conv => whnf
    refine ⟨_, jx_getF_of (hO) rfl, ?_⟩
    conv => whnf
    refine ⟨_, jx_al_of (hh), ?_⟩
    conv => whnf
    refine ⟨fun (h1 : tv < Int32.ofNat 2000) => ?_, fun (h1 : ¬ tv < Int32.ofNat 2000) => ?_⟩
    · conv => whnf
      rw [Int32.lt_iff_toInt_lt, ht, i32_ofNat (by omega)] at h1
      exact hJ _ _ _ _ (step t tv ht (by omega))
    · conv => whnf
      rw [Int32.lt_iff_toInt_lt, ht, i32_ofNat (by omega)] at h1
      refine ⟨_, jx_getF_of (hO) rfl, ?_⟩
      conv => whnf
      refine ⟨_, jx_al_of (hh), ?_⟩
      conv => whnf
      exact hJ _ _ _ _ (step (t - 2000) _ (by rw [i32_sub ht (i32_ofNat (n := 2000) (by omega)) (by omega) (by omega)]; omega) (by omega))
/-- there is room -/
theorem k_send1 (hne : Cn ≠ Ou ∧ Wd ≠ Ou) (hn : n ≤ len) (hl : len ≤ 64) (hnv : nv.toInt = (n : Int)) (hO : σ.1 Cn = some (.inr (5, [v0, v1, v2, v3, v4, .int oc, .int nr, .int ofs, v8, .ref Ou]))) (hh : σ.1 Ou = some (.inl (0, 2000, .inl h))) (hw : σ.1 Wd = some (.inl (1, len, .inl w))) (hz : oc.toInt = (z : Int)) (ha : ofs.toInt = (a : Int)) (ha2 : a < 2000) (hzn : z + 4 * n ≤ 2000) : jc th (d + 1) 54 [.ref Cn, .ref Wd, .int nv] σ (fun r σ' => r = none ∧ ∃ h', σ'.1 Cn = some (.inr (5, [v0, v1, v2, v3, v4, .int (oc + 4 * nv), .int nr, .int ofs, v8, .ref Ou])) ∧ σ'.1 Ou = some (.inl (0, 2000, .inl h')) ∧ (∀ q, q ≠ Cn → q ≠ Ou → σ'.1 q = σ.1 q) ∧ σ'.2 = σ.2 ∧ (∀ j, j < 4 * n → h' ((a + z + j) % 2000) = (cn_pk w j).toInt32) ∧ ∀ q, (∀ j, j < 4 * n → q ≠ (a + z + j) % 2000) → h' q = h q) := by
  have h4 : (4 * nv).toInt = ((4 * n : Nat) : Int) := by rw [i32_mul (a := 4) (by decide) hnv (by omega) (by omega)]; omega
  have hs : (oc + 4 * nv).toInt = ((z + 4 * n : Nat) : Int) := by rw [i32_add hz h4 (by omega) (by omega)]; omega
  refine cl_go dt_54 60 [(46, [0, 1, 2, 3, 4])] dt_54_k rfl ?_
  intro C J hC hJ
  conv => whnf
  refine ⟨_, jx_al_of (hw), ?_⟩
  conv => whnf
  refine jx_no (show ¬ Int32.ofNat len < nv by rw [Int32.lt_iff_toInt_lt, hnv, i32_ofNat (by omega)]; omega) ?_
  conv => whnf
  refine ⟨_, jx_getF_of (hO) rfl, ?_⟩
  conv => whnf
  refine ⟨_, jx_getF_of (hO) rfl, ?_⟩
  conv => whnf
  refine ⟨_, jx_al_of (hh), ?_⟩
  conv => whnf
  refine jx_yes (show oc + 4 * nv ≤ Int32.ofNat 2000 by rw [Int32.le_iff_toInt_le, hs, i32_ofNat (by omega)]; omega) ?_
  conv => whnf
  refine ⟨_, jx_getF_of (hO) rfl, ?_⟩
  conv => whnf
  refine ⟨_, jx_getF_of (hO) rfl, ?_⟩
  conv => whnf
  refine hJ _ _ _ _ (k_send_l hne hn hnv (by omega) (4 * n) 0 (a + z) 0 _ h σ (by omega) (by decide) (by rw [i32_add ha hz (by omega) (by omega)]; omega) (by omega) hO hh hw (fun σ' h' k1 k2 k3 k4 k5 k6 => ⟨rfl, h', k1, k2, k3, k4, fun j hj => ?_, k6⟩))
  have := k5 j hj
  rw [Nat.zero_add] at this
  exact this
/-- there is none -/
theorem k_send0 (hn : n ≤ len) (hl : len ≤ 64) (hnv : nv.toInt = (n : Int)) (hO : σ.1 Cn = some (.inr (5, [v0, v1, v2, v3, v4, .int oc, .int nr, .int ofs, v8, .ref Ou]))) (hh : σ.1 Ou = some (.inl (0, 2000, .inl h))) (hw : σ.1 Wd = some (.inl (1, len, .inl w))) (hz : oc.toInt = (z : Int)) (hz2 : z ≤ 2000) (hzn : ¬ z + 4 * n ≤ 2000) : jc th (d + 1) 54 [.ref Cn, .ref Wd, .int nv] σ (fun r σ' => r = none ∧ σ'.1 Cn = some (.inr (5, [v0, v1, v2, v3, v4, .int oc, .int (nr + 1), .int ofs, v8, .ref Ou])) ∧ (∀ q, q ≠ Cn → σ'.1 q = σ.1 q) ∧ σ'.2 = σ.2) := by
  have h4 : (4 * nv).toInt = ((4 * n : Nat) : Int) := by rw [i32_mul (a := 4) (by decide) hnv (by omega) (by omega)]; omega
  have hs : (oc + 4 * nv).toInt = ((z + 4 * n : Nat) : Int) := by rw [i32_add hz h4 (by omega) (by omega)]; omega
  refine cl_go dt_54 60 [] dt_54_k rfl ?_
  intro C J hC hJ
  conv => whnf
  refine ⟨_, jx_al_of (hw), ?_⟩
  conv => whnf
  refine jx_no (show ¬ Int32.ofNat len < nv by rw [Int32.lt_iff_toInt_lt, hnv, i32_ofNat (by omega)]; omega) ?_
  conv => whnf
  refine ⟨_, jx_getF_of (hO) rfl, ?_⟩
  conv => whnf
  refine ⟨_, jx_getF_of (hO) rfl, ?_⟩
  conv => whnf
  refine ⟨_, jx_al_of (hh), ?_⟩
  conv => whnf
  refine jx_no (show ¬ oc + 4 * nv ≤ Int32.ofNat 2000 by rw [Int32.le_iff_toInt_le, hs, i32_ofNat (by omega)]; omega) ?_
  conv => whnf
  refine ⟨_, jx_getF_of (hO) rfl, ?_⟩
  conv => whnf
  refine putK hO rfl (fit_i _) (fun s1 p1 o1 n1 => ?_)
  conv => whnf
  exact ⟨rfl, p1, o1, n1⟩
end JxSend
