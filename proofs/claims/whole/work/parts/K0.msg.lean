/-! THE CLASS reads the message that came -/
/-- the message: its octets, what is known of it -/
def MB (σ : jx_S) (X R L : Nat) (o : Nat → Int32) (w z c e : Int32) : Prop := σ.1 X = some (.inr (3, [.ref R, .int (Int32.ofNat L), .int w, .int z, .int c, .int e])) ∧ L ≤ 600 ∧ X ≠ R ∧ ∃ h : Nat → Int32, σ.1 R = some (.inl (0, 600, .inl h)) ∧ ∀ j, j < L → h j = o j
section JxMsg
variable {th : Nat → Nat} {d X R L k n : Nat} {σ σ' : jx_S} {o h : Nat → Int32} {w z c e kv x y : Int32} {Q : Option Value → jx_S → Prop}
theorem MB.same (h : MB σ X R L o w z c e) (e1 : σ'.1 X = σ.1 X) (e2 : σ'.1 R = σ.1 R) : MB σ' X R L o w z c e := by
  unfold MB
  rw [e1, e2]
  exact h
theorem k_octet (hM : MB σ X R L o w z c e) (hk : kv.toInt = (k : Int)) (hl : k < L) : jc th (d + 1) 79 [.ref X, .int kv] σ (fun r σ' => r = some (.int (ob o k)) ∧ σ' = σ) := by
  obtain ⟨hX, hL, hXR, h, hR, hj⟩ := hM
  have hv : kv = Int32.ofNat k := i32_eq hk (by omega)
  refine cl_go dt_79 40 [] dt_79_k rfl ?_
  intro C J hC hJ
  conv => whnf
  refine jx_no (show ¬ kv < 0 by rw [Int32.lt_iff_toInt_lt, hk]; simp) ?_
  conv => whnf
  refine ⟨_, jx_getF_of (hX) rfl, ?_⟩
  conv => whnf
  refine ⟨_, jx_al_of (hR), ?_⟩
  conv => whnf
  refine jx_yes (show kv < Int32.ofNat 600 by rw [hv, nlt (by omega) (by omega)]; omega) ?_
  conv => whnf
  refine ⟨_, jx_getF_of (hX) rfl, ?_⟩
  conv => whnf
  refine ⟨_, jx_ild_of hR (by decide) hk (by omega), ?_⟩
  conv => whnf
  exact ⟨by rw [show ob o k = h k &&& 255 by unfold ob; rw [hj k hl]], rfl⟩
theorem k_word (hM : MB σ X R L o w z c e) (hk : kv.toInt = (k : Int)) (hl : k + 4 ≤ L) : jc th (d + 1) 82 [.ref X, .int kv] σ (fun r σ' => r = some (.int (w4 o k)) ∧ σ' = σ) := by
  obtain ⟨hX, hL, hXR, h, hR, hj⟩ := hM
  have hv : kv = Int32.ofNat k := i32_eq hk (by omega)
  refine cl_go dt_82 80 [] dt_82_k rfl ?_
  intro C J hC hJ
  conv => whnf
  refine jx_no (show ¬ kv < 0 by rw [Int32.lt_iff_toInt_lt, hk]; simp) ?_
  conv => whnf
  refine ⟨_, jx_getF_of (hX) rfl, ?_⟩
  conv => whnf
  refine ⟨_, jx_al_of (hR), ?_⟩
  conv => whnf
  refine jx_yes (show kv ≤ Int32.ofNat 600 - Int32.ofInt 4 by rw [show Int32.ofNat 600 - Int32.ofInt 4 = Int32.ofNat 596 by decide, hv, nle (by omega) (by omega)]; omega) ?_
  conv => whnf
  refine ⟨_, jx_getF_of (hX) rfl, ?_⟩
  conv => whnf
  refine ⟨_, jx_ild_of hR (by decide) hk (by omega), ?_⟩
  conv => whnf
  refine ⟨_, jx_getF_of (hX) rfl, ?_⟩
  conv => whnf
  refine ⟨_, jx_ild_of hR (by decide) (i32_k1 (j := 1) hk (by decide) (by omega)) (by omega), ?_⟩
  conv => whnf
  refine ⟨_, jx_getF_of (hX) rfl, ?_⟩
  conv => whnf
  refine ⟨_, jx_ild_of hR (by decide) (i32_k1 (j := 2) hk (by decide) (by omega)) (by omega), ?_⟩
  conv => whnf
  refine ⟨_, jx_getF_of (hX) rfl, ?_⟩
  conv => whnf
  refine ⟨_, jx_ild_of hR (by decide) (i32_k1 (j := 3) hk (by decide) (by omega)) (by omega), ?_⟩
  conv => whnf
  refine ⟨?_, rfl⟩
  have e : w4 o k = w4 h k := w4_eq (fun j j1 j2 => (hj j (by omega)).symm)
  rw [e]
  rfl
/-- a word wherever it is looked for -/
theorem k_wordX (hM : MB σ X R L o w z c e) (hk : kv.toInt = (k : Int)) : jc th (d + 1) 82 [.ref X, .int kv] σ (fun r σ' => (∃ v, r = some (.int v)) ∧ σ' = σ) := by
  obtain ⟨hX, hL, hXR, h, hR, hj⟩ := hM
  refine cl_go dt_82 80 [] dt_82_k rfl ?_
  intro C J hC hJ
  conv => whnf
  refine jx_no (show ¬ kv < 0 by rw [Int32.lt_iff_toInt_lt, hk]; simp) ?_
  conv => whnf
  refine ⟨_, jx_getF_of (hX) rfl, ?_⟩
  conv => whnf
  refine ⟨_, jx_al_of (hR), ?_⟩
  conv => whnf
  refine ⟨fun (hz : kv ≤ Int32.ofNat 600 - Int32.ofInt 4) => ?_, fun (hz : ¬ kv ≤ Int32.ofNat 600 - Int32.ofInt 4) => ?_⟩
  · have hkl : k ≤ 596 := by
      rw [show Int32.ofNat 600 - Int32.ofInt 4 = Int32.ofNat 596 by decide, Int32.le_iff_toInt_le, hk, i32_ofNat (by omega)] at hz
      omega
    conv => whnf
    refine ⟨_, jx_getF_of (hX) rfl, ?_⟩
    conv => whnf
    refine ⟨_, jx_ild_of hR (by decide) hk (by omega), ?_⟩
    conv => whnf
    refine ⟨_, jx_getF_of (hX) rfl, ?_⟩
    conv => whnf
    refine ⟨_, jx_ild_of hR (by decide) (i32_k1 (j := 1) hk (by decide) (by omega)) (by omega), ?_⟩
    conv => whnf
    refine ⟨_, jx_getF_of (hX) rfl, ?_⟩
    conv => whnf
    refine ⟨_, jx_ild_of hR (by decide) (i32_k1 (j := 2) hk (by decide) (by omega)) (by omega), ?_⟩
    conv => whnf
    refine ⟨_, jx_getF_of (hX) rfl, ?_⟩
    conv => whnf
    refine ⟨_, jx_ild_of hR (by decide) (i32_k1 (j := 3) hk (by decide) (by omega)) (by omega), ?_⟩
    conv => whnf
    exact ⟨⟨_, rfl⟩, rfl⟩
  · conv => whnf
    exact ⟨⟨_, rfl⟩, rfl⟩
theorem k_flags (hM : MB σ X R L o w z c e) (hl : 20 ≤ L) : jc th (d + 2) 85 [.ref X] σ (fun r σ' => r = some (.int (ob o 4)) ∧ σ' = σ) := by
  refine cl_go dt_85 20 [] dt_85_k rfl ?_
  intro C J hC hJ
  conv => whnf
  refine ⟨jx_isC_of hM.1, hC _ _ _ _ ((k_octet (d := d) (k := 4) hM (by decide) (by omega)).mp ?_)⟩
  rintro r s1 ⟨rfl, hs⟩
  conv => whnf
  exact ⟨rfl, hs⟩
theorem k_command (hM : MB σ X R L o w z c e) (hl : 20 ≤ L) : jc th (d + 2) 81 [.ref X] σ (fun r σ' => r = some (.int (w3 o 5)) ∧ σ' = σ) := by
  refine cl_go dt_81 20 [] dt_81_k rfl ?_
  intro C J hC hJ
  conv => whnf
  refine ⟨jx_isC_of hM.1, hC _ _ _ _ ((k_word (d := d) (k := 4) hM (by decide) (by omega)).mp ?_)⟩
  rintro r s1 ⟨rfl, hs⟩
  conv => whnf
  exact ⟨by rw [← w4_c], hs⟩
theorem k_application (hM : MB σ X R L o w z c e) (hl : 20 ≤ L) : jc th (d + 2) 84 [.ref X] σ (fun r σ' => r = some (.int (w4 o 8)) ∧ σ' = σ) := by
  refine cl_go dt_84 20 [] dt_84_k rfl ?_
  intro C J hC hJ
  conv => whnf
  refine ⟨jx_isC_of hM.1, hC _ _ _ _ ((k_word (d := d) (k := 8) hM (by decide) (by omega)).mp ?_)⟩
  rintro r s1 ⟨rfl, hs⟩
  conv => whnf
  exact ⟨rfl, hs⟩
theorem k_hop (hM : MB σ X R L o w z c e) (hl : 20 ≤ L) : jc th (d + 2) 98 [.ref X] σ (fun r σ' => r = some (.int (w4 o 12)) ∧ σ' = σ) := by
  refine cl_go dt_98 20 [] dt_98_k rfl ?_
  intro C J hC hJ
  conv => whnf
  refine ⟨jx_isC_of hM.1, hC _ _ _ _ ((k_word (d := d) (k := 12) hM (by decide) (by omega)).mp ?_)⟩
  rintro r s1 ⟨rfl, hs⟩
  conv => whnf
  exact ⟨rfl, hs⟩
theorem k_end (hM : MB σ X R L o w z c e) (hl : 20 ≤ L) : jc th (d + 2) 99 [.ref X] σ (fun r σ' => r = some (.int (w4 o 16)) ∧ σ' = σ) := by
  refine cl_go dt_99 20 [] dt_99_k rfl ?_
  intro C J hC hJ
  conv => whnf
  refine ⟨jx_isC_of hM.1, hC _ _ _ _ ((k_word (d := d) (k := 16) hM (by decide) (by omega)).mp ?_)⟩
  rintro r s1 ⟨rfl, hs⟩
  conv => whnf
  exact ⟨rfl, hs⟩
theorem k_isReq (hM : MB σ X R L o w z c e) (hl : 20 ≤ L) : jc th (d + 2) 80 [.ref X] σ (fun r σ' => ((r = some (.int 0) ∧ ob o 4 &&& 128 = 0) ∨ (r = some (.int 1) ∧ ¬ ob o 4 &&& 128 = 0)) ∧ σ' = σ) := by
  refine cl_go dt_80 20 [] dt_80_k rfl ?_
  intro C J hC hJ
  conv => whnf
  refine ⟨jx_isC_of hM.1, hC _ _ _ _ ((k_octet (d := d) (k := 4) hM (by decide) (by omega)).mp ?_)⟩
  rintro r s1 ⟨rfl, hs⟩
  conv => whnf
  refine ⟨fun (h : ob o 4 &&& 128 = 0) => ?_, fun (h : ¬ ob o 4 &&& 128 = 0) => ?_⟩
  · conv => whnf
    exact ⟨by decide, Or.inl ⟨rfl, h⟩, hs⟩
  · conv => whnf
    exact ⟨by decide, Or.inr ⟨rfl, h⟩, hs⟩
theorem k_padded (hn : n < 16777216) : jc th (d + 1) 91 [.int (Int32.ofNat n)] σ (fun r σ' => r = some (.int (Int32.ofNat (if n < 8 then 8 else pad n))) ∧ σ' = σ) := by
  refine cl_go dt_91 20 [] dt_91_k rfl ?_
  intro C J hC hJ
  conv => whnf
  refine ⟨fun (h : Int32.ofNat 8 ≤ Int32.ofNat n) => ?_, fun (h : ¬ Int32.ofNat 8 ≤ Int32.ofNat n) => ?_⟩
  · rw [nle (by omega) (by omega)] at h
    conv => whnf
    rw [if_neg (by omega), ← pad_v hn]
    exact ⟨rfl, rfl⟩
  · rw [nle (by omega) (by omega)] at h
    conv => whnf
    rw [if_pos (by omega)]
    exact ⟨rfl, rfl⟩
theorem k_dataSize (hM : MB σ X R L o w z c e) (hk : kv.toInt = (k : Int)) (hl : k + 8 ≤ L) (h8 : 8 ≤ sz o k) : jc th (d + 2) 100 [.ref X, .int kv] σ (fun r σ' => r = some (.int (Int32.ofNat (sz o k - 8))) ∧ σ' = σ) := by
  have hs4 := sz_lt (o := o) (k := k)
  have hL := hM.2.1
  refine cl_go dt_100 20 [] dt_100_k rfl ?_
  intro C J hC hJ
  conv => whnf
  refine ⟨jx_isC_of hM.1, hC _ _ _ _ ((k_word (d := d) (k := k + 4) hM (i32_k1 (j := 4) hk (by decide) (by omega)) (by omega)).mp ?_)⟩
  rintro r s1 ⟨rfl, hs⟩
  conv => whnf
  refine ⟨?_, hs⟩
  show some (Value.int ((w4 o (k + 4) &&& 16777215) - 8)) = _
  rw [w4_sz]
  have : Int32.ofNat (sz o k) - 8 = Int32.ofNat (sz o k - 8) := i32_eq (by rw [i32_sub (i32_ofNat (by omega)) (by decide : (8 : Int32).toInt = 8) (by omega) (by omega)]; omega) (by omega)
  rw [this]
theorem k_nameWrong (hM : MB σ X R L o w z c e) : jc th (d + 1) 88 [.ref X, .int x, .int y] σ (fun r σ' => r = none ∧ MB σ' X R L o x 1 y e ∧ (∀ q, q ≠ X → σ'.1 q = σ.1 q) ∧ σ'.2 = σ.2) := by
  obtain ⟨hX, hL, hXR, h, hR, hj⟩ := hM
  refine cl_go dt_88 20 [] dt_88_k rfl ?_
  intro C J hC hJ
  conv => whnf
  refine putK hX rfl (fit_i _) (fun s1 p1 o1 n1 => ?_)
  conv => whnf
  refine putK p1 rfl (fit_z (by decide)) (fun s2 p2 o2 n2 => ?_)
  conv => whnf
  refine putK p2 rfl (fit_i _) (fun s3 p3 o3 n3 => ?_)
  conv => whnf
  exact ⟨rfl, ⟨p3, hL, hXR, h, by rw [o3 R (fun z => hXR z.symm), o2 R (fun z => hXR z.symm), o1 R (fun z => hXR z.symm)]; exact hR, hj⟩, fun q hq => by rw [o3 q hq, o2 q hq, o1 q hq], by rw [n3, n2, n1]⟩
theorem k_kindOf : jc th (d + 1) 89 [.int c] σ (fun r σ' => r = some (.int (Int32.ofNat (kdc c))) ∧ σ' = σ) := by
  refine cl_go dt_89 20 [] dt_89_k rfl ?_
  intro C J hC hJ
  conv => whnf
  refine ⟨jx_swx_of (List.forall_mem_cons.mpr ⟨?_, List.forall_mem_cons.mpr ⟨?_, List.forall_mem_cons.mpr ⟨?_, List.forall_mem_cons.mpr ⟨?_, List.forall_mem_cons.mpr ⟨?_, List.forall_mem_cons.mpr ⟨?_, List.forall_mem_cons.mpr ⟨?_, List.forall_mem_cons.mpr ⟨?_, List.forall_mem_cons.mpr ⟨?_, List.forall_mem_cons.mpr ⟨?_, List.forall_mem_cons.mpr ⟨?_, List.forall_mem_cons.mpr ⟨?_, List.forall_mem_cons.mpr ⟨?_, List.forall_mem_cons.mpr ⟨?_, List.forall_mem_cons.mpr ⟨?_, List.forall_mem_cons.mpr ⟨?_, List.forall_mem_cons.mpr ⟨?_, List.forall_mem_cons.mpr ⟨?_, List.forall_mem_cons.mpr ⟨?_, List.forall_mem_cons.mpr ⟨?_, List.forall_mem_cons.mpr ⟨?_, List.forall_mem_cons.mpr ⟨?_, List.forall_mem_cons.mpr ⟨?_, List.forall_mem_cons.mpr ⟨?_, List.forall_mem_cons.mpr ⟨?_, List.forall_mem_cons.mpr ⟨?_, (fun q hq => absurd hq List.not_mem_nil)⟩⟩⟩⟩⟩⟩⟩⟩⟩⟩⟩⟩⟩⟩⟩⟩⟩⟩⟩⟩⟩⟩⟩⟩⟩⟩), ?_⟩
  · intro (hw : c = 257)
    conv => whnf
    rw [hw]
    exact ⟨rfl, rfl⟩
  · intro (hw : c = 258)
    conv => whnf
    rw [hw]
    exact ⟨rfl, rfl⟩
  · intro (hw : c = 263)
    conv => whnf
    rw [hw]
    exact ⟨rfl, rfl⟩
  · intro (hw : c = 264)
    conv => whnf
    rw [hw]
    exact ⟨rfl, rfl⟩
  · intro (hw : c = 266)
    conv => whnf
    rw [hw]
    exact ⟨rfl, rfl⟩
  · intro (hw : c = 268)
    conv => whnf
    rw [hw]
    exact ⟨rfl, rfl⟩
  · intro (hw : c = 269)
    conv => whnf
    rw [hw]
    exact ⟨rfl, rfl⟩
  · intro (hw : c = 273)
    conv => whnf
    rw [hw]
    exact ⟨rfl, rfl⟩
  · intro (hw : c = 278)
    conv => whnf
    rw [hw]
    exact ⟨rfl, rfl⟩
  · intro (hw : c = 279)
    conv => whnf
    rw [hw]
    exact ⟨rfl, rfl⟩
  · intro (hw : c = 283)
    conv => whnf
    rw [hw]
    exact ⟨rfl, rfl⟩
  · intro (hw : c = 285)
    conv => whnf
    rw [hw]
    exact ⟨rfl, rfl⟩
  · intro (hw : c = 293)
    conv => whnf
    rw [hw]
    exact ⟨rfl, rfl⟩
  · intro (hw : c = 296)
    conv => whnf
    rw [hw]
    exact ⟨rfl, rfl⟩
  · intro (hw : c = 415)
    conv => whnf
    rw [hw]
    exact ⟨rfl, rfl⟩
  · intro (hw : c = 416)
    conv => whnf
    rw [hw]
    exact ⟨rfl, rfl⟩
  · intro (hw : c = 421)
    conv => whnf
    rw [hw]
    exact ⟨rfl, rfl⟩
  · intro (hw : c = 422)
    conv => whnf
    rw [hw]
    exact ⟨rfl, rfl⟩
  · intro (hw : c = 431)
    conv => whnf
    rw [hw]
    exact ⟨rfl, rfl⟩
  · intro (hw : c = 436)
    conv => whnf
    rw [hw]
    exact ⟨rfl, rfl⟩
  · intro (hw : c = 437)
    conv => whnf
    rw [hw]
    exact ⟨rfl, rfl⟩
  · intro (hw : c = 443)
    conv => whnf
    rw [hw]
    exact ⟨rfl, rfl⟩
  · intro (hw : c = 444)
    conv => whnf
    rw [hw]
    exact ⟨rfl, rfl⟩
  · intro (hw : c = 446)
    conv => whnf
    rw [hw]
    exact ⟨rfl, rfl⟩
  · intro (hw : c = 448)
    conv => whnf
    rw [hw]
    exact ⟨rfl, rfl⟩
  · intro (hw : c = 450)
    conv => whnf
    rw [hw]
    exact ⟨rfl, rfl⟩
  · refine jx_swd_i (fun hno => ?_)
    conv => whnf
    have n257 : ¬ c = 257 := fun e => hno _ (List.mem_of_getElem? (i := 0) rfl) e
    have n258 : ¬ c = 258 := fun e => hno _ (List.mem_of_getElem? (i := 1) rfl) e
    have n263 : ¬ c = 263 := fun e => hno _ (List.mem_of_getElem? (i := 2) rfl) e
    have n264 : ¬ c = 264 := fun e => hno _ (List.mem_of_getElem? (i := 3) rfl) e
    have n266 : ¬ c = 266 := fun e => hno _ (List.mem_of_getElem? (i := 4) rfl) e
    have n268 : ¬ c = 268 := fun e => hno _ (List.mem_of_getElem? (i := 5) rfl) e
    have n269 : ¬ c = 269 := fun e => hno _ (List.mem_of_getElem? (i := 6) rfl) e
    have n273 : ¬ c = 273 := fun e => hno _ (List.mem_of_getElem? (i := 7) rfl) e
    have n278 : ¬ c = 278 := fun e => hno _ (List.mem_of_getElem? (i := 8) rfl) e
    have n279 : ¬ c = 279 := fun e => hno _ (List.mem_of_getElem? (i := 9) rfl) e
    have n283 : ¬ c = 283 := fun e => hno _ (List.mem_of_getElem? (i := 10) rfl) e
    have n285 : ¬ c = 285 := fun e => hno _ (List.mem_of_getElem? (i := 11) rfl) e
    have n293 : ¬ c = 293 := fun e => hno _ (List.mem_of_getElem? (i := 12) rfl) e
    have n296 : ¬ c = 296 := fun e => hno _ (List.mem_of_getElem? (i := 13) rfl) e
    have n415 : ¬ c = 415 := fun e => hno _ (List.mem_of_getElem? (i := 14) rfl) e
    have n416 : ¬ c = 416 := fun e => hno _ (List.mem_of_getElem? (i := 15) rfl) e
    have n421 : ¬ c = 421 := fun e => hno _ (List.mem_of_getElem? (i := 16) rfl) e
    have n422 : ¬ c = 422 := fun e => hno _ (List.mem_of_getElem? (i := 17) rfl) e
    have n431 : ¬ c = 431 := fun e => hno _ (List.mem_of_getElem? (i := 18) rfl) e
    have n436 : ¬ c = 436 := fun e => hno _ (List.mem_of_getElem? (i := 19) rfl) e
    have n437 : ¬ c = 437 := fun e => hno _ (List.mem_of_getElem? (i := 20) rfl) e
    have n443 : ¬ c = 443 := fun e => hno _ (List.mem_of_getElem? (i := 21) rfl) e
    have n444 : ¬ c = 444 := fun e => hno _ (List.mem_of_getElem? (i := 22) rfl) e
    have n446 : ¬ c = 446 := fun e => hno _ (List.mem_of_getElem? (i := 23) rfl) e
    have n448 : ¬ c = 448 := fun e => hno _ (List.mem_of_getElem? (i := 24) rfl) e
    have n450 : ¬ c = 450 := fun e => hno _ (List.mem_of_getElem? (i := 25) rfl) e
    have e : kdc c = 0 := by
      unfold kdc
      rw [if_neg (by simp only [not_or]; exact ⟨n263, n264, n296, n283, n293, n269, n444⟩), if_neg (by simp only [not_or]; exact ⟨n268, n258, n266, n278, n273, n285, n416, n415, n436, n450, n448, n422⟩), if_neg n421, if_neg n257, if_neg (by simp only [not_or]; exact ⟨n443, n437, n431, n446, n279⟩)]
    rw [e]
    exact ⟨rfl, rfl⟩
theorem k_fits {s : Nat} (hs : s ≤ 5) (hn : n < 2147483648) : jc th (d + 1) 90 [.int (Int32.ofNat s), .int (Int32.ofNat n)] σ (fun r σ' => r = some (.int (if okz s n = true then 1 else 0)) ∧ σ' = σ) := by
  have en : ∀ y : Nat, y < 2147483648 → (Int32.ofNat n = Int32.ofNat y ↔ n = y) := fun y hy => ⟨fun e => ofN_inj hn hy e, fun e => by rw [e]⟩
  refine cl_go dt_90 40 [] dt_90_k rfl ?_
  intro C J hC hJ
  conv => whnf
  refine ⟨jx_swx_of (List.forall_mem_cons.mpr ⟨?_, List.forall_mem_cons.mpr ⟨?_, List.forall_mem_cons.mpr ⟨?_, List.forall_mem_cons.mpr ⟨?_, (fun q hq => absurd hq List.not_mem_nil)⟩⟩⟩⟩), ?_⟩
  · intro (hw : Int32.ofNat s = Int32.ofNat 1)
    have e1 : s = 1 := ofN_inj (by omega) (by omega) hw
    subst e1
    conv => whnf
    refine ⟨fun (h1 : Int32.ofNat n < Int32.ofNat 1) => ?_, fun (h1 : ¬ Int32.ofNat n < Int32.ofNat 1) => ?_⟩
    · rw [nlt hn (by omega)] at h1
      conv => whnf
      rw [show okz 1 n = false from decide_eq_false (by omega)]
      exact ⟨by decide, rfl, rfl⟩
    · rw [nlt hn (by omega)] at h1
      conv => whnf
      refine ⟨fun (h2 : Int32.ofNat 40 < Int32.ofNat n) => ?_, fun (h2 : ¬ Int32.ofNat 40 < Int32.ofNat n) => ?_⟩
      · rw [nlt (by omega) hn] at h2
        conv => whnf
        rw [show okz 1 n = false from decide_eq_false (by omega)]
        exact ⟨by decide, rfl, rfl⟩
      · rw [nlt (by omega) hn] at h2
        conv => whnf
        rw [show okz 1 n = true from decide_eq_true (by omega)]
        exact ⟨by decide, rfl, rfl⟩
  · intro (hw : Int32.ofNat s = Int32.ofNat 2)
    have e1 : s = 2 := ofN_inj (by omega) (by omega) hw
    subst e1
    conv => whnf
    refine ⟨fun (h1 : ¬ Int32.ofNat n = Int32.ofNat 4) => ?_, fun (h1 : ¬ ¬ Int32.ofNat n = Int32.ofNat 4) => ?_⟩
    · rw [en 4 (by omega)] at h1
      conv => whnf
      rw [show okz 2 n = false from decide_eq_false h1]
      exact ⟨by decide, rfl, rfl⟩
    · rw [en 4 (by omega)] at h1
      conv => whnf
      rw [show okz 2 n = true from decide_eq_true (Decidable.not_not.mp h1)]
      exact ⟨by decide, rfl, rfl⟩
  · intro (hw : Int32.ofNat s = Int32.ofNat 3)
    have e1 : s = 3 := ofN_inj (by omega) (by omega) hw
    subst e1
    conv => whnf
    refine ⟨fun (h1 : ¬ Int32.ofNat n = Int32.ofNat 8) => ?_, fun (h1 : ¬ ¬ Int32.ofNat n = Int32.ofNat 8) => ?_⟩
    · rw [en 8 (by omega)] at h1
      conv => whnf
      rw [show okz 3 n = false from decide_eq_false h1]
      exact ⟨by decide, rfl, rfl⟩
    · rw [en 8 (by omega)] at h1
      conv => whnf
      rw [show okz 3 n = true from decide_eq_true (Decidable.not_not.mp h1)]
      exact ⟨by decide, rfl, rfl⟩
  · intro (hw : Int32.ofNat s = Int32.ofNat 4)
    have e1 : s = 4 := ofN_inj (by omega) (by omega) hw
    subst e1
    conv => whnf
    refine ⟨fun (h1 : ¬ Int32.ofNat n = Int32.ofNat 6) => ?_, fun (h1 : ¬ ¬ Int32.ofNat n = Int32.ofNat 6) => ?_⟩
    · rw [en 6 (by omega)] at h1
      conv => whnf
      rw [show okz 4 n = false from decide_eq_false h1]
      exact ⟨by decide, rfl, rfl⟩
    · rw [en 6 (by omega)] at h1
      conv => whnf
      rw [show okz 4 n = true from decide_eq_true (Decidable.not_not.mp h1)]
      exact ⟨by decide, rfl, rfl⟩
  · refine jx_swd_i (fun hno => ?_)
    have m1 : ¬ s = 1 := fun e => hno _ (List.mem_of_getElem? (i := 0) rfl) (by rw [e]; rfl)
    have m2 : ¬ s = 2 := fun e => hno _ (List.mem_of_getElem? (i := 1) rfl) (by rw [e]; rfl)
    have m3 : ¬ s = 3 := fun e => hno _ (List.mem_of_getElem? (i := 2) rfl) (by rw [e]; rfl)
    have m4 : ¬ s = 4 := fun e => hno _ (List.mem_of_getElem? (i := 3) rfl) (by rw [e]; rfl)
    conv => whnf
    have e : okz s n = true := by
      unfold okz
      rw [if_neg m1, if_neg m2, if_neg m3, if_neg m4]
    rw [e]
    exact ⟨by decide, rfl, rfl⟩
theorem k_isAns {hv : Int32} (hM : MB σ X R L o w z c e) (hl : 20 ≤ L) : jc th (d + 3) 108 [.ref X, .int x, .int hv] σ (fun r σ' => ((r = some (.int 1) ∧ w = 0 ∧ ob o 4 &&& 128 = 0 ∧ w3 o 5 = x ∧ w4 o 12 = hv) ∨ (r = some (.int 0) ∧ ¬ (w = 0 ∧ ob o 4 &&& 128 = 0 ∧ w3 o 5 = x ∧ w4 o 12 = hv))) ∧ σ' = σ) := by
  refine cl_go dt_108 20 [] dt_108_k rfl ?_
  intro C J hC hJ
  conv => whnf
  refine ⟨_, jx_getF_of (hM.1) rfl, ?_⟩
  conv => whnf
  refine ⟨fun (h1 : ¬ w = 0) => ?_, fun (h1 : ¬ ¬ w = 0) => ?_⟩
  · conv => whnf
    exact ⟨by decide, Or.inr ⟨rfl, fun y => h1 y.1⟩, rfl⟩
  have h1 := Decidable.not_not.mp h1
  conv => whnf
  refine ⟨jx_isC_of hM.1, hC _ _ _ _ ((k_isReq (d := d) hM hl).mp ?_)⟩
  rintro r s1 ⟨hr, hs⟩
  rw [hs]
  rcases hr with ⟨rfl, h2⟩ | ⟨rfl, h2⟩
  · conv => whnf
    refine jx_no (show ¬ ¬ (0 : Int32) = 0 by decide) ?_
    conv => whnf
    refine ⟨jx_isC_of hM.1, hC _ _ _ _ ((k_command (d := d) hM hl).mp ?_)⟩
    rintro r s2 ⟨rfl, hs2⟩
    rw [hs2]
    conv => whnf
    refine ⟨fun (h3 : ¬ w3 o 5 = x) => ?_, fun (h3 : ¬ ¬ w3 o 5 = x) => ?_⟩
    · conv => whnf
      exact ⟨by decide, Or.inr ⟨rfl, fun y => h3 y.2.2.1⟩, rfl⟩
    have h3 := Decidable.not_not.mp h3
    conv => whnf
    refine ⟨jx_isC_of hM.1, hC _ _ _ _ ((k_hop (d := d) hM hl).mp ?_)⟩
    rintro r s3 ⟨rfl, hs3⟩
    rw [hs3]
    conv => whnf
    refine ⟨fun (h4 : ¬ w4 o 12 = hv) => ?_, fun (h4 : ¬ ¬ w4 o 12 = hv) => ?_⟩
    · conv => whnf
      exact ⟨by decide, Or.inr ⟨rfl, fun y => h4 y.2.2.2⟩, rfl⟩
    have h4 := Decidable.not_not.mp h4
    conv => whnf
    exact ⟨by decide, Or.inl ⟨rfl, h1, h2, h3, h4⟩, rfl⟩
  · conv => whnf
    refine jx_yes (show ¬ (1 : Int32) = 0 by decide) ?_
    conv => whnf
    exact ⟨by decide, Or.inr ⟨rfl, fun y => h2 y.2.1⟩, rfl⟩
end JxMsg
