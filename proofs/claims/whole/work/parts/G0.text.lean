/-! THE CLASS: a text is laid into the draft -/
theorem oct_g (x v y z : Int32) (s t : Nat) (hs : s ≤ 24) (ht : t ≤ 24) (e1 : y.toBitVec = (x.toBitVec ||| ((v.toBitVec &&& 255#32) <<< s)).sshiftRight t) (e2 : z.toBitVec = x.toBitVec.sshiftRight t) :
    (∀ a b : Nat, s = 8 * a → t = 8 * b → s ≠ t → y.toInt8 = z.toInt8) ∧ (s = t → y.toInt8 = z.toInt8 ||| v.toInt8) := by
  have key : ∀ i, i < 8 → y.toInt8.toBitVec.getLsbD i = (x.toBitVec.getLsbD (t + i) || (decide (s ≤ t + i) && (v.toBitVec.getLsbD (t + i - s) && decide (t + i - s < 8)))) := by
    intro i hi
    have h2 : t + i < 32 := by omega
    have h3 : i < 32 := by omega
    rw [Int32.toBitVec_toInt8, e1, BitVec.getLsbD_signExtend]
    simp only [BitVec.getLsbD_sshiftRight, BitVec.getLsbD_or, BitVec.getLsbD_shiftLeft, BitVec.getLsbD_and]
    have e255 : (255#32 : BitVec 32).getLsbD (t + i - s) = decide (t + i - s < 8) := by
      have e : (255#32 : BitVec 32) = BitVec.ofNat 32 (2^8 - 1) := rfl
      rw [e]
      simp only [BitVec.getLsbD_ofNat, Nat.testBit_two_pow_sub_one]
      by_cases h : t + i - s < 8
      · simp [h]; omega
      · simp [h]
    rw [e255]
    by_cases hst : s ≤ t + i
    · simp [hi, h2, h3, hst, show ¬ 32 ≤ i by omega, show ¬ t + i < s by omega]
    · simp [hi, h2, h3, hst, show ¬ 32 ≤ i by omega, show t + i < s by omega]
  have kz : ∀ i, i < 8 → z.toInt8.toBitVec.getLsbD i = x.toBitVec.getLsbD (t + i) := by
    intro i hi
    have h2 : t + i < 32 := by omega
    have h3 : i < 32 := by omega
    rw [Int32.toBitVec_toInt8, e2, BitVec.getLsbD_signExtend]
    simp only [BitVec.getLsbD_sshiftRight]
    simp [hi, h2, h3, show ¬ 32 ≤ i by omega]
  refine ⟨fun a b ha hb hne => ?_, fun h => ?_⟩
  · apply Int8.toBitVec_inj.mp
    apply BitVec.eq_of_getLsbD_eq
    intro i hi
    rw [key i hi, kz i hi]
    by_cases hst : s ≤ t + i
    · have : ¬ t + i - s < 8 := by omega
      simp [this]
    · simp [hst]
  · apply Int8.toBitVec_inj.mp
    apply BitVec.eq_of_getLsbD_eq
    intro i hi
    have ev : v.toInt8.toBitVec.getLsbD i = v.toBitVec.getLsbD i := by
      have h3 : i < 32 := by omega
      rw [Int32.toBitVec_toInt8, BitVec.getLsbD_signExtend]
      simp [hi, h3]
    rw [key i hi]
    show _ = (z.toInt8.toBitVec ||| v.toInt8.toBitVec).getLsbD i
    rw [BitVec.getLsbD_or, kz i hi, ev, h]
    have : t + i - t = i := by omega
    simp [this, hi]
/-- one octet is laid into a word -/
theorem oct_or (x v : Int32) : ∀ a b, a < 4 → b < 4 → ((x ||| ((v &&& 255) <<< ((24 - 8 * Int32.ofNat a) &&& 31))) >>> (24 - 8 * Int32.ofNat b)).toInt8 = if a = b then (x >>> (24 - 8 * Int32.ofNat b)).toInt8 ||| v.toInt8 else (x >>> (24 - 8 * Int32.ofNat b)).toInt8 := by
  intro a b ha hb
  have hA : a = 0 ∨ a = 1 ∨ a = 2 ∨ a = 3 := by omega
  have hB : b = 0 ∨ b = 1 ∨ b = 2 ∨ b = 3 := by omega
  by_cases h : a = b
  · rw [if_pos h]
    subst h
    rcases hA with rfl | rfl | rfl | rfl
    · exact (oct_g x v _ _ 24 24 (by omega) (by omega) rfl rfl).2 rfl
    · exact (oct_g x v _ _ 16 16 (by omega) (by omega) rfl rfl).2 rfl
    · exact (oct_g x v _ _ 8 8 (by omega) (by omega) rfl rfl).2 rfl
    · exact (oct_g x v _ _ 0 0 (by omega) (by omega) rfl rfl).2 rfl
  · rw [if_neg h]
    rcases hA with rfl | rfl | rfl | rfl <;> rcases hB with rfl | rfl | rfl | rfl
    · exact absurd rfl h
    · exact (oct_g x v _ _ 24 16 (by omega) (by omega) rfl rfl).1 3 2 rfl rfl (by omega)
    · exact (oct_g x v _ _ 24 8 (by omega) (by omega) rfl rfl).1 3 1 rfl rfl (by omega)
    · exact (oct_g x v _ _ 24 0 (by omega) (by omega) rfl rfl).1 3 0 rfl rfl (by omega)
    · exact (oct_g x v _ _ 16 24 (by omega) (by omega) rfl rfl).1 2 3 rfl rfl (by omega)
    · exact absurd rfl h
    · exact (oct_g x v _ _ 16 8 (by omega) (by omega) rfl rfl).1 2 1 rfl rfl (by omega)
    · exact (oct_g x v _ _ 16 0 (by omega) (by omega) rfl rfl).1 2 0 rfl rfl (by omega)
    · exact (oct_g x v _ _ 8 24 (by omega) (by omega) rfl rfl).1 1 3 rfl rfl (by omega)
    · exact (oct_g x v _ _ 8 16 (by omega) (by omega) rfl rfl).1 1 2 rfl rfl (by omega)
    · exact absurd rfl h
    · exact (oct_g x v _ _ 8 0 (by omega) (by omega) rfl rfl).1 1 0 rfl rfl (by omega)
    · exact (oct_g x v _ _ 0 24 (by omega) (by omega) rfl rfl).1 0 3 rfl rfl (by omega)
    · exact (oct_g x v _ _ 0 16 (by omega) (by omega) rfl rfl).1 0 2 rfl rfl (by omega)
    · exact (oct_g x v _ _ 0 8 (by omega) (by omega) rfl rfl).1 0 1 rfl rfl (by omega)
    · exact absurd rfl h
section JxText
variable {th : Nat → Nat} {d B O n N S M R len ty : Nat} {σ σ' : jx_S} {w h : Nat → Int32} {c sv nv mv : Int32} {Q : Option Value → jx_S → Prop}
theorem cn_pk_upd {x v : Int32} {q i : Nat} (j : Nat) (hi : i < 4) (hx : w q = x) : cn_pk (upd w q (x ||| ((v &&& 255) <<< ((24 - 8 * Int32.ofNat i) &&& 31)))) j = if j / 4 = q ∧ j % 4 = i then cn_pk w j ||| v.toInt8 else cn_pk w j := by
  unfold cn_pk
  by_cases e : j / 4 = q
  · rw [e, upd_eq, hx, oct_or x v i (j % 4) hi (Nat.mod_lt _ (by omega))]
    by_cases e2 : i = j % 4
    · rw [if_pos e2, if_pos ⟨rfl, e2.symm⟩]
    · rw [if_neg e2, if_neg (fun z => e2 z.2.symm)]
  · rw [upd_ne e, if_neg (fun z => e z.1)]
theorem k_text_2 (hR : R ≠ B + 11 ∧ R ≠ B + 12) (hty : ty ∈ [0, 3, 100]) (hsv : sv.toInt = (S : Int)) (hnv : nv.toInt = (N : Int)) (hmv : mv.toInt = (M : Int)) (hM : M = 2 + (N + 3) / 4) (hN : N ≤ 40) (hSN : S + N ≤ len) (hlen : len ≤ 600) (hnM : n + M ≤ 64) : ∀ (r i : Nat) (iv : Int32) (w : Nat → Int32) (σ : jx_S), iv.toInt = (i : Int) → i + r = N → DR B σ O w n → σ.1 R = some (.inl (ty, len, .inl h)) → (∀ σ' w', dch B σ σ' → DR B σ' O w' (n + M) → (∀ j, cn_pk w' j = if 4 * (n + 2) + i ≤ j ∧ j < 4 * (n + 2) + N then cn_pk w j ||| (h (S + (j - 4 * (n + 2)))).toInt8 else cn_pk w j) → (∀ q, q < n + 2 → w' q = w q) → Q none σ') → cl_fj th d 10 116 [(0, .ref (B + 11)), (2, .ref R), (3, .int sv), (4, .int nv), (5, .int mv), (6, .int iv)] [] σ Q
  | 0, i, iv, w, σ, hv, hi, ⟨h11, h12⟩, hr, hK => by
    refine cl_at dt_10 60 [] dt_10_k ?_
    intro C J hC hJ
    conv => whnf
    refine jx_yes (show nv ≤ iv by rw [Int32.le_iff_toInt_le, hnv, hv]; omega) ?_
    conv => whnf
    refine ⟨_, jx_getF_of (h11) rfl, ?_⟩
    conv => whnf
    refine putK h11 rfl (fit_i _) (fun s1 p1 o1 n1 => ?_)
    conv => whnf
    have e : Int32.ofNat n + mv = Int32.ofNat (n + M) := Int32.toInt_inj.mp (by rw [i32_add (i32_ofNat (by omega)) hmv (by omega) (by omega), i32_ofNat (by omega)]; omega)
    exact hK s1 w ⟨n1, fun a q1 _ => o1 a q1⟩ ⟨by rw [← e]; exact p1, (o1 (B + 12) (by omega)).trans h12⟩ (fun j => (if_neg (by omega)).symm) (fun _ _ => rfl)
  | r + 1, i, iv, w, σ, hv, hi, ⟨h11, h12⟩, hr, hK => by
    have hq : (Int32.ofNat n + 2 + iv >>> ((2 : Int32) &&& 31)).toInt = ((n + 2 + i / 4 : Nat) : Int) := by
      have e1 : (Int32.ofNat n + 2).toInt = ((n + 2 : Nat) : Int) := nadd_i (c := 2) rfl (by omega)
      rw [i32_add e1 (i32_shr2 hv) (by omega) (by omega)]
      omega
    have hs : (sv + iv).toInt = ((S + i : Nat) : Int) := by rw [i32_add hsv hv (by omega) (by omega)]; omega
    refine cl_at dt_10 60 [(116, [0, 2, 3, 4, 5, 6])] dt_10_k ?_
    intro C J hC hJ
    conv => whnf
    refine jx_no (show ¬ nv ≤ iv by rw [Int32.le_iff_toInt_le, hnv, hv]; omega) ?_
    conv => whnf
    refine ⟨_, jx_getF_of (h11) rfl, ?_⟩
    conv => whnf
    refine ⟨_, jx_getF_of (h11) rfl, ?_⟩
    conv => whnf
    refine ⟨_, jx_ild_of h12 (by decide) hq (show n + 2 + i / 4 < 64 by omega), ?_⟩
    conv => whnf
    refine ⟨_, jx_ild_of hr hty hs (by omega), ?_⟩
    conv => whnf
    refine istK h12 hq (by omega) (fun s1 p1 o1 n1 => ?_)
    conv => whnf
    have q1 := (o1 (B + 11) (by omega)).trans h11
    have hv1 : (iv + Int32.ofInt 1).toInt = ((i + 1 : Nat) : Int) := by rw [i32_add (c := 1) hv (by decide) (by omega) (by omega)]; omega
    obtain ⟨w1, hw1⟩ : ∃ w1, w1 = upd w (n + 2 + i / 4) (w (n + 2 + i / 4) ||| ((h (S + i) &&& 255) <<< ((24 - 8 * Int32.ofNat (i % 4)) &&& 31))) := ⟨_, rfl⟩
    have p1' : s1.1 (B + 12) = some (.inl (1, 64, .inl w1)) := by
      rw [hw1, ← i32_and3 hv]
      exact p1
    refine hJ _ _ _ _ (k_text_2 hR hty hsv hnv hmv hM hN hSN hlen hnM r (i + 1) _ w1 s1 hv1 (by omega) ⟨q1, p1'⟩ ((o1 R hR.2).trans hr) (fun σ' w' c1 c2 c3 c4 => ?_))
    refine hK σ' w' ((show dch B σ s1 from ⟨n1, fun a _ q2 => o1 a q2⟩).tr c1) c2 (fun j => ?_) (fun q hq' => by rw [c4 q hq', hw1, upd_ne (by omega)])
    have eu : cn_pk w1 j = if j / 4 = n + 2 + i / 4 ∧ j % 4 = i % 4 then cn_pk w j ||| (h (S + i)).toInt8 else cn_pk w j := by
      rw [hw1]
      exact cn_pk_upd j (Nat.mod_lt _ (by omega)) rfl
    rw [c3 j, eu]
    by_cases ej : j = 4 * (n + 2) + i
    · rw [if_neg (by omega), if_pos (by omega), if_pos (by omega), show j - 4 * (n + 2) = i by omega]
    · rw [if_neg (show ¬ (j / 4 = n + 2 + i / 4 ∧ j % 4 = i % 4) by omega)]
      by_cases e2 : 4 * (n + 2) + (i + 1) ≤ j ∧ j < 4 * (n + 2) + N
      · rw [if_pos e2, if_pos (by omega)]
      · rw [if_neg e2, if_neg (by omega)]
theorem k_text_1 (hR : R ≠ B + 11 ∧ R ≠ B + 12) (hmv : mv.toInt = (M : Int)) (hnM : n + M ≤ 64) : ∀ (r i : Nat) (iv : Int32) (w : Nat → Int32) (σ : jx_S), iv.toInt = (i : Int) → i + r = M → 2 ≤ i → DR B σ O w n → (∀ σ' w', dch B σ σ' → DR B σ' O w' n → (∀ q, w' q = if n + i ≤ q ∧ q < n + M then 0 else w q) → cl_fj th d 10 116 [(0, .ref (B + 11)), (2, .ref R), (3, .int sv), (4, .int nv), (5, .int mv), (6, .int 0)] [] σ' Q) → cl_fj th d 10 87 [(0, .ref (B + 11)), (2, .ref R), (3, .int sv), (4, .int nv), (5, .int mv), (6, .int iv)] [] σ Q
  | 0, i, iv, w, σ, hv, hi, h2, ⟨h11, h12⟩, hK => by
    refine cl_at dt_10 60 [(116, [0, 2, 3, 4, 5, 6])] dt_10_k ?_
    intro C J hC hJ
    conv => whnf
    refine jx_yes (show mv ≤ iv by rw [Int32.le_iff_toInt_le, hmv, hv]; omega) ?_
    conv => whnf
    exact hJ _ _ _ _ (hK σ w ⟨rfl, fun _ _ _ => rfl⟩ ⟨h11, h12⟩ (fun q => (if_neg (by omega)).symm))
  | r + 1, i, iv, w, σ, hv, hi, h2, ⟨h11, h12⟩, hK => by
    have hq : (Int32.ofNat n + iv).toInt = ((n + i : Nat) : Int) := by rw [i32_add (i32_ofNat (by omega)) hv (by omega) (by omega)]; omega
    refine cl_at dt_10 60 [(87, [0, 2, 3, 4, 5, 6])] dt_10_k ?_
    intro C J hC hJ
    conv => whnf
    refine jx_no (show ¬ mv ≤ iv by rw [Int32.le_iff_toInt_le, hmv, hv]; omega) ?_
    conv => whnf
    refine ⟨_, jx_getF_of (h11) rfl, ?_⟩
    conv => whnf
    refine ⟨_, jx_getF_of (h11) rfl, ?_⟩
    conv => whnf
    refine istK h12 hq (by omega) (fun s1 p1 o1 n1 => ?_)
    conv => whnf
    have q1 := (o1 (B + 11) (by omega)).trans h11
    have hv1 : (iv + Int32.ofInt 1).toInt = ((i + 1 : Nat) : Int) := by rw [i32_add (c := 1) hv (by decide) (by omega) (by omega)]; omega
    refine hJ _ _ _ _ (k_text_1 hR hmv hnM r (i + 1) _ (upd w (n + i) 0) s1 hv1 (by omega) (by omega) ⟨q1, p1⟩ (fun σ' w' c1 c2 c3 => hK σ' w' ((show dch B σ s1 from ⟨n1, fun a _ q2 => o1 a q2⟩).tr c1) c2 (fun q => ?_)))
    rw [c3 q, upd_o]
    by_cases e : q = n + i
    · rw [if_neg (by omega), if_pos e, if_pos (by omega)]
    · rw [if_neg e]
      by_cases e2 : n + (i + 1) ≤ q ∧ q < n + M
      · rw [if_pos e2, if_pos (by omega)]
      · rw [if_neg e2, if_neg (by omega)]
theorem k_textW (hD : DR B σ O w n) (hR : R ≠ B + 11 ∧ R ≠ B + 12) (hty : ty ∈ [0, 3, 100]) (hr : σ.1 R = some (.inl (ty, len, .inl h))) (hsv : sv.toInt = (S : Int)) (hN : N ≤ 40) (hSN : S + N ≤ len) (hlen : len ≤ 600) (hnM : n + (2 + (N + 3) / 4) ≤ 64) : jc th (d + 1) 10 [.ref (B + 11), .int c, .ref R, .int sv, .int (Int32.ofNat N)] σ (fun r σ' => r = none ∧ dch B σ σ' ∧ ∃ w', DR B σ' O w' (n + (2 + (N + 3) / 4)) ∧ (∀ q, q < n → w' q = w q) ∧ w' n = c ∧ w' (n + 1) = 1073741824 ||| (8 + Int32.ofNat N) ∧ ∀ j, j < 4 * ((N + 3) / 4) → cn_pk w' (4 * (n + 2) + j) = if j < N then (h (S + j)).toInt8 else 0) := by
  obtain ⟨h11, h12⟩ := hD
  obtain ⟨M, hM⟩ : ∃ M, M = 2 + (N + 3) / 4 := ⟨_, rfl⟩
  rw [← hM] at hnM ⊢
  have hnv : (Int32.ofNat N).toInt = (N : Int) := i32_ofNat (by omega)
  have emax : (if (0 : Int32) < Int32.ofNat N then Int32.ofNat N else 0) = Int32.ofNat N := by
    split
    · rfl
    · rename_i z
      rw [Int32.lt_iff_toInt_lt, hnv, show (0 : Int32).toInt = 0 by decide] at z
      rw [show N = 0 by omega]
      rfl
  have hmv : (2 + (Int32.ofNat N + 3) / 4).toInt = (M : Int) := by
    have e1 : (Int32.ofNat N + 3).toInt = ((N + 3 : Nat) : Int) := nadd_i (c := 3) rfl (by omega)
    have e2 := i32_divn (q := 4) (c := 4) e1 (by decide) (by omega)
    rw [i32_add (show (2 : Int32).toInt = 2 by decide) e2 (by omega) (by omega)]
    omega
  refine cl_go dt_10 80 [(87, [0, 2, 3, 4, 5, 6])] dt_10_k rfl ?_
  intro C J hC hJ
  conv => whnf
  obtain ⟨mv, hmvE⟩ : ∃ mv : Int32, mv = 2 + ((if (0 : Int32) < Int32.ofNat N then Int32.ofNat N else 0) + 3) / 4 := ⟨_, rfl⟩
  have hmv' : mv.toInt = (M : Int) := by rw [hmvE, emax]; exact hmv
  refine jx_no (nneg (a := N) (by omega)) ?_
  conv => whnf
  refine jx_no (show ¬ sv < 0 by rw [Int32.lt_iff_toInt_lt, hsv]; simp) ?_
  conv => whnf
  refine ⟨_, jx_al_of (hr), ?_⟩
  conv => whnf
  refine jx_no (show ¬ Int32.ofNat len - Int32.ofNat N < sv by rw [Int32.lt_iff_toInt_lt, hsv, i32_sub (i32_ofNat (n := len) (by omega)) hnv (by omega) (by omega)]; omega) ?_
  conv => whnf
  refine ⟨_, jx_getF_of (h11) rfl, ?_⟩
  conv => whnf
  refine jx_no (nneg (a := n) (by omega)) ?_
  conv => whnf
  refine ⟨_, jx_getF_of (h11) rfl, ?_⟩
  conv => whnf
  refine ⟨_, jx_getF_of (h11) rfl, ?_⟩
  conv => whnf
  refine ⟨_, jx_al_of (h12), ?_⟩
  conv => whnf
  refine jx_yes (show Int32.ofNat n ≤ Int32.ofNat 64 - (2 + ((if (0 : Int32) < Int32.ofNat N then Int32.ofNat N else 0) + 3) / 4) by rw [← hmvE, Int32.le_iff_toInt_le, i32_sub (i32_ofNat (n := 64) (by omega)) hmv' (by omega) (by omega), i32_ofNat (by omega)]; omega) ?_
  conv => whnf
  refine ⟨_, jx_getF_of (h11) rfl, ?_⟩
  conv => whnf
  refine ⟨_, jx_getF_of (h11) rfl, ?_⟩
  conv => whnf
  refine istK h12 (k := n) (i32_ofNat (by omega)) (by omega) (fun s1 p1 o1 n1 => ?_)
  conv => whnf
  have q1 := (o1 (B + 11) (by omega)).trans h11
  refine ⟨_, jx_getF_of (q1) rfl, ?_⟩
  conv => whnf
  refine ⟨_, jx_getF_of (q1) rfl, ?_⟩
  conv => whnf
  refine istK p1 (k := n + 1) (nadd_i (c := 1) rfl (by omega)) (by omega) (fun s2 p2 o2 n2 => ?_)
  conv => whnf
  have q2 := (o2 (B + 11) (by omega)).trans q1
  obtain ⟨w2, hw2⟩ : ∃ w2, w2 = upd (upd w n c) (n + 1) (1073741824 ||| (8 + Int32.ofNat N)) := ⟨_, rfl⟩
  have p2' : s2.1 (B + 12) = some (.inl (1, 64, .inl w2)) := by rw [hw2]; exact p2
  have hd2 : dch B σ s2 := ⟨n2.trans n1, fun a _ z2 => (o2 a z2).trans (o1 a z2)⟩
  have hr2 : s2.1 R = some (.inl (ty, len, .inl h)) := (o2 R hR.2).trans ((o1 R hR.2).trans hr)
  have hbody : cl_fj th d 10 87 [(0, .ref (B + 11)), (2, .ref R), (3, .int sv), (4, .int (Int32.ofNat N)), (5, .int mv), (6, .int 2)] [] s2 (fun r σ' => r = none ∧ dch B σ σ' ∧ ∃ w', DR B σ' O w' (n + M) ∧ (∀ q, q < n → w' q = w q) ∧ w' n = c ∧ w' (n + 1) = 1073741824 ||| (8 + Int32.ofNat N) ∧ ∀ j, j < 4 * ((N + 3) / 4) → cn_pk w' (4 * (n + 2) + j) = if j < N then (h (S + j)).toInt8 else 0) := by
    refine k_text_1 hR hmv' hnM (M - 2) 2 2 w2 s2 (by decide) (by omega) (by omega) ⟨q2, p2'⟩ (fun s3 w3 c1 c2 c3 => ?_)
    refine k_text_2 (h := h) hR hty hsv hnv hmv' hM hN hSN hlen hnM N 0 0 w3 s3 (by decide) (by omega) c2 ?_ (fun s4 w4 g1 g2 g3 g4 => ⟨rfl, (hd2.tr c1).tr g1, w4, g2, fun q hq => ?_, ?_, ?_, fun j hj => ?_⟩)
    · exact (c1.2 R hR.1 hR.2).trans hr2
    · rw [g4 q (by omega), c3 q, if_neg (by omega), hw2, upd_ne (by omega), upd_ne (by omega)]
    · rw [g4 n (by omega), c3 n, if_neg (by omega), hw2, upd_ne (by omega), upd_eq]
    · rw [g4 (n + 1) (by omega), c3 (n + 1), if_neg (by omega), hw2, upd_eq]
    · have z : cn_pk w3 (4 * (n + 2) + j) = 0 := by
        unfold cn_pk
        rw [c3, if_pos (by omega)]
        have hm : (4 * (n + 2) + j) % 4 < 4 := Nat.mod_lt _ (by omega)
        generalize (4 * (n + 2) + j) % 4 = t at hm
        have ht : t = 0 ∨ t = 1 ∨ t = 2 ∨ t = 3 := by omega
        rcases ht with rfl | rfl | rfl | rfl <;> decide
      rw [g3, z]
      by_cases e : j < N
      · rw [if_pos (by omega), if_pos e, show 4 * (n + 2) + j - 4 * (n + 2) = j by omega, Int8.zero_or]
      · rw [if_neg (by omega), if_neg e]
  rw [hmvE] at hbody
  exact hJ _ _ _ _ hbody
/-- a text behind what the draft shows -/
theorem k_textM {f : jx_F} {bs : List Int32} {k F s : Nat} (hM : DM B σ O bs) (hR : R ≠ B + 11 ∧ R ≠ B + 12) (hty : ty ∈ [0, 3, 100]) (hr : σ.1 R = some (.inl (ty, len, .inl h))) (hsv : sv.toInt = (S : Int)) (hN : N ≤ 40) (hSN : S + N ≤ len) (hlen : len ≤ 600) (hl : bs.length + 51 ≤ 256) (hb : 1 ≤ bs.length) (hs : s % 4 = 0) (ho : ∀ j, j < N → (h (S + j)).toInt8 = (f.1 k (F + j)).toInt8) : jc th (d + 1) 10 [.ref (B + 11), .int c, .ref R, .int sv, .int (Int32.ofNat N)] σ (fun r σ' => r = none ∧ dch B σ σ' ∧ DM B σ' O (bs ++ R_tx f c (Int32.ofNat N) k F N s)) := by
  obtain ⟨w, n, hD, hn, hq⟩ := hM
  have hbl : bs.length = 4 * n := by have := hq.1; unfold om at this; rw [List.length_map] at this; exact this
  refine (k_textW (d := d) (c := c) hD hR hty hr hsv hN hSN hlen (by omega)).mp ?_
  rintro r σ' ⟨rfl, c1, w', c2, c3, c4, c5, c6⟩
  refine ⟨rfl, c1, w', n + (2 + (N + 3) / 4), c2, by omega, ?_⟩
  have hq1 : dq w' n (om bs) := hq.of (fun i _ hi => c3 i hi)
  have hq2 := hq1.w.w
  rw [c4, show n + 1 = n + 1 from rfl, c5] at hq2
  have ehd : ow c ++ ow (1073741824 ||| (8 + Int32.ofNat N)) = om (R_at c (Int32.ofNat N)) := by
    have key : ∀ x, x < 41 → ow (1073741824 ||| (8 + Int32.ofNat x)) = om (R_p1 64 ++ R_p3 (8 + Int32.ofNat x)) := by decide +kernel
    rw [key N (by omega)]
    rfl
  have elen : (om (R_ro f k F N ++ R_pd (s + 8 + N))).length = 4 * ((N + 3) / 4) := by
    unfold om
    rw [List.length_map, List.length_append, R_ro_len, R_pd_len]
    omega
  have e : om (bs ++ R_tx f c (Int32.ofNat N) k F N s) = (om bs ++ ow c ++ ow (1073741824 ||| (8 + Int32.ofNat N))) ++ om (R_ro f k F N ++ R_pd (s + 8 + N)) := by
    unfold R_tx
    rw [om_app, om_app, ← ehd]
    simp only [List.append_assoc]
  rw [e, show n + (2 + (N + 3) / 4) = n + 1 + 1 + (N + 3) / 4 by omega]
  refine hq2.app elen (fun j x hx => ?_)
  have hj := (List.getElem?_eq_some_iff.mp hx).1
  rw [elen] at hj
  rw [show 4 * (n + 1 + 1) + j = 4 * (n + 2) + j by omega, c6 j hj]
  unfold om at hx
  rw [List.getElem?_map] at hx
  obtain ⟨y, hy1, hy2⟩ := Option.map_eq_some_iff.mp hx
  rw [← hy2]
  have hro : ∀ (N F j : Nat), j < N → (R_ro f k F N)[j]? = some (f.1 k (F + j) >>> 0) := by
    intro N
    induction N with
    | zero => intro F j hj; omega
    | succ N ih =>
      intro F j hj
      unfold R_ro
      match j, hj with
      | 0, _ => rfl
      | j + 1, hj =>
        rw [List.getElem?_cons_succ, ih (F + 1) j (by omega), show F + 1 + j = F + (j + 1) by omega]
  by_cases ej : j < N
  · rw [if_pos ej, ho j ej]
    rw [List.getElem?_append_left (by rw [R_ro_len]; exact ej), hro N F j ej] at hy1
    have : f.1 k (F + j) >>> 0 = y := by simpa using hy1
    rw [← this, Int32.shiftRight_zero]
  · rw [if_neg ej]
    rw [List.getElem?_append_right (by rw [R_ro_len]; omega), R_ro_len] at hy1
    unfold R_pd at hy1
    have := List.eq_of_mem_replicate (List.mem_of_getElem? hy1)
    rw [this]
    decide
end JxText
