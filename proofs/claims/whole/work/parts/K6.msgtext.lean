/-! THE CLASS looks up what the message tells -/
/-- a number in digits -/
def dig (o : Nat → Int32) (p : Nat) : Nat → Nat → Int64 → Option Int64
  | 0, _, v => some v
  | r + 1, i, v => if ¬ ob o (p + i) - 48 < 0 ∧ ob o (p + i) - 48 ≤ 9 then dig o p r (i + 1) (v * 10 + (ob o (p + i) - 48).toInt64) else none
def acc (o : Nat → Int32) (p : Nat) : Option Int64 := if p = 0 ∨ 17 < sz o p - 8 then none else dig o (p + 8) (sz o p - 8) 0 0
section JxMsgtext
variable {th : Nat → Nat} {d dd X R L k n p s a N t ty : Nat} {σ σ' σ2 : jx_S} {o h g : Nat → Int32} {w z c kv x y rq : Int32} {Q : Option Value → jx_S → Prop} {e : Nat} {ev : Int32} {l : List Int32} {av : Int64}
theorem isb_eq (hx : isb x) (hy : isb y) : x &&& 255 = y &&& 255 ↔ x = y := by
  refine ⟨fun h => ?_, fun h => by rw [h]⟩
  unfold isb at hx hy
  rw [vp_nar_byte] at hx hy
  have key : ∀ v : Int32, v.toInt8.toBitVec.toNat = v.toBitVec.toNat % 256 := fun v => by
    rw [Int32.toBitVec_toInt8, BitVec.signExtend_eq_setWidth_of_le _ (by decide), BitVec.toNat_setWidth]
  have e : x.toInt8 = y.toInt8 := by
    apply Int8.toBitVec_inj.mp
    apply BitVec.eq_of_toNat_eq
    rw [key, key, ← and255, ← and255, h]
  rw [← hx, ← hy, e]
theorem k_wordY (hM : MB σ X R L o w z c ev) (hk : kv.toInt = (k : Int)) : jc th (d + 1) 82 [.ref X, .int kv] σ (fun r σ' => (∃ v, r = some (.int v) ∧ (k + 4 ≤ L → v = w4 o k)) ∧ σ' = σ) := by
  by_cases h : k + 4 ≤ L
  · refine (k_word hM hk h).mp ?_
    rintro r s1 ⟨rfl, hs⟩
    exact ⟨⟨_, rfl, fun _ => rfl⟩, hs⟩
  · refine (k_wordX hM hk).mp ?_
    rintro r s1 ⟨⟨v, rfl⟩, hs⟩
    exact ⟨⟨v, rfl, fun z => absurd z h⟩, hs⟩
theorem k_isText_l (hM : MB σ X R L o w z c ev) (hb : ∀ j, j < L → isb (o j)) (hpL : p + 8 + N ≤ L) (hT : σ.1 t = some (.inl (ty, N, .inl g))) (hty : ty ∈ [0, 3, 100]) (hg : ∀ j, j < N → isb (g j)) : ∀ (r i : Nat), i + r = N → ((∀ j, i ≤ j → j < N → o (p + 8 + j) = g j) → Q (some (.int 1)) σ) → (¬ (∀ j, i ≤ j → j < N → o (p + 8 + j) = g j) → Q (some (.int 0)) σ) → cl_fj th (dd + 2) 103 18 [(0, .ref X), (1, .int (Int32.ofNat p)), (2, .ref t), (3, .int (Int32.ofNat i))] [] σ Q
  | 0, i, hi, h1, h0 => by
    have h6 := hM.2.1
    refine cl_at dt_103 40 [] dt_103_k ?_
    intro C J hC hJ
    conv => whnf
    refine ⟨_, jx_al_of (hT), ?_⟩
    conv => whnf
    refine jx_yes (show Int32.ofNat N ≤ Int32.ofNat i by rw [nle (by omega) (by omega)]; omega) ?_
    conv => whnf
    exact ⟨by decide, h1 (fun j j1 j2 => by omega)⟩
  | r + 1, i, hi, h1, h0 => by
    have h6 := hM.2.1
    have hpi : (Int32.ofNat p).toInt = (p : Int) := i32_ofNat (by omega)
    have hii : (Int32.ofNat i).toInt = (i : Int) := i32_ofNat (by omega)
    refine cl_at dt_103 40 [(18, [0, 1, 2, 3])] dt_103_k ?_
    intro C J hC hJ
    conv => whnf
    refine ⟨_, jx_al_of (hT), ?_⟩
    conv => whnf
    refine jx_no (show ¬ Int32.ofNat N ≤ Int32.ofNat i by rw [nle (by omega) (by omega)]; omega) ?_
    conv => whnf
    refine ⟨jx_isC_of hM.1, hC _ _ _ _ (((k_octet (d := 0) (k := p + 8 + i) hM (i32_k1 (i32_k1 (j := 8) hpi (by decide) (by omega)) hii (by omega)) (by omega)).up (by omega)).mp ?_)⟩
    rintro r' s1 ⟨rfl, hs1⟩
    rw [hs1]
    conv => whnf
    refine ⟨_, jx_ild_of hT hty hii (by omega), ?_⟩
    conv => whnf
    refine ⟨fun (e : o (p + 8 + i) &&& 255 = g i &&& 255) => ?_, fun (e : ¬ o (p + 8 + i) &&& 255 = g i &&& 255) => ?_⟩
    · rw [isb_eq (hb _ (by omega)) (hg i (by omega))] at e
      conv => whnf
      have i1 : Int32.ofNat i + Int32.ofInt 1 = Int32.ofNat (i + 1) := nadd rfl (by omega)
      have ih := k_isText_l hM hb hpL hT hty hg r (i + 1) (by omega) (fun z => h1 (fun j j1 j2 => by
        by_cases ej : j = i
        · rw [ej]; exact e
        · exact z j (by omega) j2)) (fun z => h0 (fun w => z (fun j j1 j2 => w j (by omega) j2)))
      rw [← i1] at ih
      exact hJ _ _ _ _ ih
    · rw [isb_eq (hb _ (by omega)) (hg i (by omega))] at e
      conv => whnf
      exact ⟨by decide, h0 (fun z => e (z i (Nat.le_refl _) (by omega)))⟩
theorem k_isText (hM : MB σ X R L o w z c ev) (hb : ∀ j, j < L → isb (o j)) (hp : p ≠ 0 → p + 8 ≤ L ∧ 8 ≤ sz o p ∧ p + sz o p ≤ L) (hT : σ.1 t = some (.inl (ty, N, .inl g))) (hty : ty ∈ [0, 3, 100]) (hg : ∀ j, j < N → isb (g j)) (hN : N ≤ 600) : jc th (dd + 3) 103 [.ref X, .int (Int32.ofNat p), .ref t] σ (fun r σ' => ((r = some (.int 1) ∧ p ≠ 0 ∧ sz o p - 8 = N ∧ ∀ j, j < N → o (p + 8 + j) = g j) ∨ (r = some (.int 0) ∧ ¬ (p ≠ 0 ∧ sz o p - 8 = N ∧ ∀ j, j < N → o (p + 8 + j) = g j))) ∧ σ' = σ) := by
  have h6 := hM.2.1
  refine cl_go dt_103 40 [(18, [0, 1, 2, 3])] dt_103_k rfl ?_
  intro C J hC hJ
  conv => whnf
  by_cases p0 : p = 0
  · refine jx_yes (show Int32.ofNat p = 0 by rw [p0]; rfl) ?_
    conv => whnf
    exact ⟨by decide, Or.inr ⟨rfl, fun w => w.1 p0⟩, rfl⟩
  obtain ⟨q1, q2, q3⟩ := hp p0
  have hpi : (Int32.ofNat p).toInt = (p : Int) := i32_ofNat (by omega)
  refine jx_no (show ¬ Int32.ofNat p = 0 from ofN_ne p0 (by omega)) ?_
  conv => whnf
  refine ⟨jx_isC_of hM.1, hC _ _ _ _ (((k_dataSize (d := 0) (k := p) hM hpi q1 q2).up (by omega)).mp ?_)⟩
  rintro r s1 ⟨rfl, hs1⟩
  rw [hs1]
  conv => whnf
  refine ⟨_, jx_al_of (hT), ?_⟩
  conv => whnf
  refine ⟨fun (e : Int32.ofNat (sz o p - 8) = Int32.ofNat N) => ?_, fun (e : ¬ Int32.ofNat (sz o p - 8) = Int32.ofNat N) => ?_⟩
  · have e : sz o p - 8 = N := ofN_inj (by omega) (by omega) e
    conv => whnf
    exact hJ _ _ _ _ (k_isText_l (dd := dd) hM hb (by omega) hT hty hg N 0 (by omega) (fun z => ⟨Or.inl ⟨rfl, p0, e, fun j hj => z j (by omega) hj⟩, rfl⟩) (fun z => ⟨Or.inr ⟨rfl, fun w => z (fun j _ j2 => w.2.2 j j2)⟩, rfl⟩))
  · conv => whnf
    exact ⟨by decide, Or.inr ⟨rfl, fun w => e (by rw [w.2.1])⟩, rfl⟩
theorem k_numberOf (hM : MB σ X R L o w z c ev) (hw : wf o 700 20 L) (h12 : fst o x (top o L) ≠ 0 → fst o x (top o L) + 12 ≤ L) : jc th (dd + 3) 111 [.ref X, .int x] σ (fun r σ' => r = some (.int (if fst o x (top o L) = 0 then 0 else w4 o (fst o x (top o L) + 8))) ∧ σ' = σ) := by
  have h6 := hM.2.1
  refine cl_go dt_111 40 [] dt_111_k rfl ?_
  intro C J hC hJ
  conv => whnf
  refine ⟨_, jx_getF_of (hM.1) rfl, ?_⟩
  conv => whnf
  refine ⟨jx_isC_of hM.1, hC _ _ _ _ ((k_find (dd := dd) (k := 700) (p := 20) (x := x) hM (Nat.le_refl L) hw (by omega) (by omega)).mp ?_)⟩
  rintro r s1 ⟨rfl, hs1⟩
  rw [hs1]
  unfold top at h12 ⊢
  obtain ⟨q, hq⟩ : ∃ q, q = fst o x (tps o 700 20 L) := ⟨_, rfl⟩
  rw [← hq] at h12 ⊢
  conv => whnf
  by_cases q0 : q = 0
  · refine jx_no (show ¬ ¬ Int32.ofNat q = 0 by rw [q0]; decide) ?_
    conv => whnf
    rw [if_pos q0]
    exact ⟨rfl, rfl⟩
  · have := h12 q0
    have hqi : (Int32.ofNat q).toInt = (q : Int) := i32_ofNat (by omega)
    refine jx_yes (show ¬ Int32.ofNat q = 0 from ofN_ne q0 (by omega)) ?_
    conv => whnf
    refine ⟨jx_isC_of hM.1, hC _ _ _ _ (((k_word (d := 0) (k := q + 8) hM (i32_k1 (j := 8) hqi (by decide) (by omega)) (by omega)).up (by omega)).mp ?_)⟩
    rintro r s2 ⟨rfl, hs2⟩
    conv => whnf
    rw [if_neg q0]
    exact ⟨rfl, hs2⟩
theorem k_longOf (hM : MB σ X R L o w z c ev) (hw : wf o 700 20 L) (h12 : fst o x (top o L) ≠ 0 → fst o x (top o L) + 12 ≤ L) : jc th (dd + 3) 123 [.ref X, .int x, .long av] σ (fun r σ' => r = some (.long (if fst o x (top o L) = 0 then av else (w4 o (fst o x (top o L) + 8)).toInt64 &&& 4294967295)) ∧ σ' = σ) := by
  have h6 := hM.2.1
  refine cl_go dt_123 40 [] dt_123_k rfl ?_
  intro C J hC hJ
  conv => whnf
  refine ⟨_, jx_getF_of (hM.1) rfl, ?_⟩
  conv => whnf
  refine ⟨jx_isC_of hM.1, hC _ _ _ _ ((k_find (dd := dd) (k := 700) (p := 20) (x := x) hM (Nat.le_refl L) hw (by omega) (by omega)).mp ?_)⟩
  rintro r s1 ⟨rfl, hs1⟩
  rw [hs1]
  unfold top at h12 ⊢
  obtain ⟨q, hq⟩ : ∃ q, q = fst o x (tps o 700 20 L) := ⟨_, rfl⟩
  rw [← hq] at h12 ⊢
  conv => whnf
  by_cases q0 : q = 0
  · refine jx_no (show ¬ ¬ Int32.ofNat q = 0 by rw [q0]; decide) ?_
    conv => whnf
    rw [if_pos q0]
    exact ⟨rfl, rfl⟩
  · have := h12 q0
    have hqi : (Int32.ofNat q).toInt = (q : Int) := i32_ofNat (by omega)
    refine jx_yes (show ¬ Int32.ofNat q = 0 from ofN_ne q0 (by omega)) ?_
    conv => whnf
    refine ⟨jx_isC_of hM.1, hC _ _ _ _ (((k_word (d := 0) (k := q + 8) hM (i32_k1 (j := 8) hqi (by decide) (by omega)) (by omega)).up (by omega)).mp ?_)⟩
    rintro r s2 ⟨rfl, hs2⟩
    conv => whnf
    rw [if_neg q0]
    exact ⟨rfl, hs2⟩
theorem k_unitsAt (hM : MB σ X R L o w z c ev) (h16 : p ≠ 0 → p + 16 ≤ L) : jc th (dd + 2) 126 [.ref X, .int (Int32.ofNat p), .long av] σ (fun r σ' => r = some (.long (if p = 0 then av else w8 o (p + 8))) ∧ σ' = σ) := by
  have h6 := hM.2.1
  refine cl_go dt_126 40 [] dt_126_k rfl ?_
  intro C J hC hJ
  conv => whnf
  by_cases q0 : p = 0
  · refine jx_no (show ¬ ¬ Int32.ofNat p = 0 by rw [q0]; decide) ?_
    conv => whnf
    rw [if_pos q0]
    exact ⟨rfl, rfl⟩
  · have := h16 q0
    have hqi : (Int32.ofNat p).toInt = (p : Int) := i32_ofNat (by omega)
    refine jx_yes (show ¬ Int32.ofNat p = 0 from ofN_ne q0 (by omega)) ?_
    conv => whnf
    refine ⟨jx_isC_of hM.1, hC _ _ _ _ ((k_word (d := dd) (k := p + 8) hM (i32_k1 (j := 8) hqi (by decide) (by omega)) (by omega)).mp ?_)⟩
    rintro r s2 ⟨rfl, hs2⟩
    rw [hs2]
    conv => whnf
    refine ⟨jx_isC_of hM.1, hC _ _ _ _ ((k_word (d := dd) (k := p + 8 + 4) hM (i32_k1 (j := 4) (i32_k1 (j := 8) hqi (by decide) (by omega)) (by decide) (by omega)) (by omega)).mp ?_)⟩
    rintro r s3 ⟨rfl, hs3⟩
    conv => whnf
    rw [if_neg q0]
    exact ⟨rfl, hs3⟩
theorem k_findIn (hM : MB σ X R L o w z c ev) (hw : wf o 700 20 L) (hg : fst o x (top o L) ≠ 0 → wf o (sz o (fst o x (top o L))) (fst o x (top o L) + 8) (fst o x (top o L) + sz o (fst o x (top o L)))) : jc th (dd + 3) 124 [.ref X, .int x, .int y] σ (fun r σ' => r = some (.int (Int32.ofNat (if fst o x (top o L) = 0 then 0 else fst o y (inr o (fst o x (top o L)))))) ∧ σ' = σ) := by
  have h6 := hM.2.1
  refine cl_go dt_124 40 [] dt_124_k rfl ?_
  intro C J hC hJ
  conv => whnf
  refine ⟨_, jx_getF_of (hM.1) rfl, ?_⟩
  conv => whnf
  refine ⟨jx_isC_of hM.1, hC _ _ _ _ ((k_find (dd := dd) (k := 700) (p := 20) (x := x) hM (Nat.le_refl L) hw (by omega) (by omega)).mp ?_)⟩
  rintro r s1 ⟨rfl, hs1⟩
  rw [hs1]
  have hin := fun z : fst o x (tps o 700 20 L) ≠ 0 => tps_in 700 20 L hw _ (fst_mem _ z).1
  unfold top at hg ⊢
  obtain ⟨q, hq⟩ : ∃ q, q = fst o x (tps o 700 20 L) := ⟨_, rfl⟩
  rw [← hq] at hg hin ⊢
  conv => whnf
  by_cases q0 : q = 0
  · refine jx_no (show ¬ ¬ Int32.ofNat q = 0 by rw [q0]; decide) ?_
    conv => whnf
    rw [if_pos q0]
    exact ⟨rfl, rfl⟩
  · obtain ⟨b1, b2, b3, b4⟩ := hin q0
    have hqi : (Int32.ofNat q).toInt = (q : Int) := i32_ofNat (by omega)
    refine jx_yes (show ¬ Int32.ofNat q = 0 from ofN_ne q0 (by omega)) ?_
    conv => whnf
    refine ⟨jx_isC_of hM.1, hC _ _ _ _ (((k_word (d := 0) (k := q + 4) hM (i32_k1 (j := 4) hqi (by decide) (by omega)) (by omega)).up (by omega)).mp ?_)⟩
    rintro r s2 ⟨rfl, hs2⟩
    rw [hs2]
    conv => whnf
    have ea : Int32.ofNat q + Int32.ofInt 8 = Int32.ofNat (q + 8) := nadd rfl (by omega)
    have eb : Int32.ofNat q + (w4 o (q + 4) &&& 16777215) = Int32.ofNat (q + sz o q) := by rw [w4_sz]; exact nadd rfl (by omega)
    have kf := k_find (th := th) (dd := dd) (x := y) hM (show q + sz o q ≤ L by omega) (hg q0) (by omega) (by omega)
    rw [← ea, ← eb] at kf
    refine ⟨jx_isC_of hM.1, hC _ _ _ _ (kf.mp ?_)⟩
    rintro r s3 ⟨rfl, hs3⟩
    conv => whnf
    rw [if_neg q0]
    exact ⟨rfl, hs3⟩
end JxMsgtext
