/-! THE CLASS: octets come -/
/-- the word that holds an octet, the octet in it -/
def R_wd (u1 u2 u3 u4 : Int64) (j : Nat) : Int64 := if j < 8 then u1 else if j < 16 then u2 else if j < 24 then u3 else u4
def R_oc (w : Int64) (kv : Int32) : Int32 := (w.toUInt64 >>> ((56 - 8 * (kv &&& 7)).toInt64.toUInt64 &&& Int64.toUInt64 63)).toInt64.toInt32.toInt8.toInt32
noncomputable def R_fl (n a c : Nat) (cv : Int32) (w : Nat → Int32) : Nat → Nat → Int32 → jx_F → Int32 × jx_F
  | 0, _, t, f => (t, f)
  | r + 1, j, t, f => if f.1 26 c = 2 then R_fl n a c cv w r (j + 1) (R_fs (R_o1 f c (w j)) n a c cv t).1 (R_fs (R_o1 f c (w j)) n a c cv t).2 else (t, f)
noncomputable def R_feedF (f : jx_F) (n a : Nat) (cv : Int32) (u1 u2 u3 u4 : Int64) (nv : Int32) : Int32 × jx_F := if (1 ≤ cv ∧ cv ≤ 8) ∧ f.1 26 cv.toNatClampNeg = 2 then (if 1 ≤ nv ∧ nv ≤ 32 then R_fl n a cv.toNatClampNeg cv (fun j => R_oc (R_wd u1 u2 u3 u4 j) (Int32.ofNat j)) nv.toNatClampNeg 0 0 f else (-2, f)) else (-1, f)
/-- a message, and how many may come -/
def R_ms (g : jx_F) (c : Nat) : Nat := if ¬ R_brk g c ∧ R_whl g c then 1 else 0
def R_mm (f : jx_F) (c r : Nat) : Nat := (min (f.1 30 c).toNatClampNeg 20 + r) / 20
theorem oc_b (w : BitVec 64) (s : Nat) (hs : s ≤ 56) : ((w.sshiftRight s).signExtend 32).signExtend 8 = ((w >>> s).signExtend 32).signExtend 8 := by
  apply BitVec.eq_of_getLsbD_eq
  intro i hi
  rw [BitVec.getLsbD_signExtend, BitVec.getLsbD_signExtend, BitVec.getLsbD_signExtend, BitVec.getLsbD_signExtend, if_pos (show i < 32 by omega), if_pos (show i < 32 by omega), if_pos (show i < 64 by omega), if_pos (show i < 64 by omega), BitVec.getLsbD_sshiftRight, BitVec.getLsbD_ushiftRight, if_pos (show s + i < 64 by omega)]
  simp [show ¬ 64 ≤ i by omega]
theorem oc_sh (w : Int64) {s : Nat} (hs : s = 0 ∨ s = 8 ∨ s = 16 ∨ s = 24 ∨ s = 32 ∨ s = 40 ∨ s = 48 ∨ s = 56) : (w >>> Int64.ofNat s).toInt32.toInt8 = (w.toUInt64 >>> UInt64.ofNat s).toInt64.toInt32.toInt8 := by
  rcases hs with rfl | rfl | rfl | rfl | rfl | rfl | rfl | rfl
  · exact congrArg (fun b => Int8.ofBitVec b) (oc_b w.toBitVec 0 (by omega))
  · exact congrArg (fun b => Int8.ofBitVec b) (oc_b w.toBitVec 8 (by omega))
  · exact congrArg (fun b => Int8.ofBitVec b) (oc_b w.toBitVec 16 (by omega))
  · exact congrArg (fun b => Int8.ofBitVec b) (oc_b w.toBitVec 24 (by omega))
  · exact congrArg (fun b => Int8.ofBitVec b) (oc_b w.toBitVec 32 (by omega))
  · exact congrArg (fun b => Int8.ofBitVec b) (oc_b w.toBitVec 40 (by omega))
  · exact congrArg (fun b => Int8.ofBitVec b) (oc_b w.toBitVec 48 (by omega))
  · exact congrArg (fun b => Int8.ofBitVec b) (oc_b w.toBitVec 56 (by omega))
theorem oc_1 : ∀ k : Nat, k < 32 → (56 - 8 * (Int32.ofNat k - Int32.ofNat k / 8 * 8)).toInt64 &&& 63 = Int64.ofNat (56 - 8 * (k % 8)) := by decide +kernel
theorem oc_2 : ∀ k : Nat, k < 32 → ((56 - 8 * (Int32.ofNat k &&& 7)).toInt64.toUInt64 &&& Int64.toUInt64 63) = UInt64.ofNat (56 - 8 * (k % 8)) := by decide +kernel
theorem oc_eq {kv : Int32} {k : Nat} {w : Int64} (hk : kv.toInt = (k : Int)) (h32 : k < 32) : (w >>> ((56 - 8 * (kv - kv / 8 * 8)).toInt64 &&& 63)).toInt32.toInt8.toInt32 = R_oc w (Int32.ofNat k) := by
  unfold R_oc
  rw [i32_eq hk (by omega), oc_1 k h32, oc_2 k h32, oc_sh w (by omega)]
section JxClsfeed
variable {th : Nat → Nat} {B b d n a x h p q c z m : Nat} {xl : List Int32} {σ σ' σ0 : jx_S} {f g F f0 : jx_F} {A A' : Nat → Nat → Nat} {G : Nat → Nat → Int32} {T T' : Nat → Nat} {cv t v kv nv : Int32} {u1 u2 u3 u4 w : Int64} {Q : Option Value → jx_S → Prop} {Q' : Option Value → jx_F → Prop}
theorem RW.scr (hW : RW th B b xl σ f A T) {s : Int32} : RW th B b xl σ (rf_ui f 67 0 s) A T := by
  obtain ⟨G, hR, hls⟩ := hW
  exact ⟨G, hR.eqf (fun q j h1 h2 h3 => rf_ui_ne (by omega)) (fun _ _ _ _ => rfl), by rw [rf_ui_ne (by omega)]; exact hls⟩
/-- a connection is closed, whatever it had got -/
theorem k_closeBad (hW : RW th B b xl σ f A T) (hf0 : f0 = rf_ui f 30 (c + 1) 0) (hS : PS f0 n a) (h34 : (f0.1 34 0).toInt = (h : Int)) (hh : h < 2147482000) (hc : c < 8) : jc th (d + 7) 63 [.ref B, .ref (B + 14 + 3 * c)] σ (fun r σ' => r = none ∧ RW th B b xl σ' (R_drop f n a (c + 1)) A T ∧ kp B σ σ') := by
  have e : ∀ u j, u ≠ 30 → f.1 u j = f0.1 u j := fun u j z => by rw [hf0, rf_ui_ne (by omega)]
  have l : f.2 = f0.2 := by rw [hf0]; rfl
  have hn4 := hS.1.2.2.1
  by_cases h27 : f.1 27 (c + 1) = 0
  · exact (k_gone0 (d := d) hW hc h27).up (by omega)
  · rw [e _ _ (by omega)] at h27
    obtain ⟨p, hp, h27p⟩ := hS.peerOf (c := c + 1) (by omega) (by omega) h27
    have cof := hS.cof hp (by omega) (by omega) h27p
    refine k_gone1 (d := d) hW hc (by rw [e 7 0 (by omega)]; exact hS.1.2.1) hn4 hp (by rw [e 27 _ (by omega)]; exact h27p) (by rw [e 28 _ (by omega), e 13 _ (by omega), e 14 _ (by omega)]; exact cof.elim (fun z => Or.inl z) (fun z => Or.inr ⟨z.1, z.2.1⟩)) (by rw [e 49 0 (by omega)]; exact hS.1.2.2.2.1) hS.1.2.2.2.2.1 (fun i i1 i2 => by rw [e 54 i (by omega), e 55 i (by omega), l]; exact hS.gq h34 (by omega) i i1 i2) (fun q _ q2 q3 => (hS.gl q2 (by have := q3.1; rw [e 11 q (by omega)] at this; exact this)).of (fun u j hu => e u j (by simp only [List.mem_cons, List.not_mem_nil, or_false] at hu; omega))) (fun q q1 q2 => ?_) (fun hst h28 => ?_)
    · rw [e 13 q (by omega), e 14 q (by omega)]
      obtain ⟨st, o, kk, u, t1, t2, t3, t4, q5, q6, -⟩ := hS.2.2.1 q q2
      have ne : ¬ Int32.ofNat (p + 1) = Int32.ofNat (q + 1) := fun z => by have := ofN_inj (by omega) (by omega) z; omega
      refine ⟨⟨o, t2.1, t2.2, fun z => ?_⟩, kk, t3.1, t3.2, fun z => ?_⟩
      · have := (q5 (by omega)).1
        rw [z, h27p] at this
        exact ne this
      · have := (q6 (by omega)).1
        rw [z, h27p] at this
        exact ne this
    · rw [e 11 p (by omega)] at hst
      rw [e 28 _ (by omega)] at h28
      obtain ⟨st, o, kk, u, ⟨t1, t1'⟩, ⟨t2, t2'⟩, ⟨t3, t3'⟩, t4, q5, q6, q7, q8, q9, q10, q11, -⟩ := hS.2.2.1 p hp
      have k0 : kk ≠ 0 := by
        rcases hst with e | e
        · refine (q10 ?_).2.1
          rw [e] at t1
          have : (3 : Int32).toInt = 3 := by decide
          omega
        · refine (q11 ?_).2.1
          rw [e] at t1
          have : (4 : Int32).toInt = 4 := by decide
          omega
      obtain ⟨y1, y2⟩ := q6 k0
      obtain ⟨x, q, r, ⟨z1, z1'⟩, ⟨z2, -⟩, ⟨z3, -⟩, z4, z5, z6, z7, z8⟩ := hS.2.1 kk (by omega) t3'
      have r2 : r = 2 := by
        rw [y2] at z3
        have : (2 : Int32).toInt = 2 := by decide
        omega
      refine ⟨kk - 1, by omega, fun z => ?_, by rw [e 14 p (by omega), t3]; omega, fun z => ?_⟩
      · rw [show kk = c + 1 by omega, h28] at y2
        exact absurd y2 (by decide)
      · rw [show kk - 1 + 1 = kk by omega, e 26 kk (by omega)] at z
        rw [z] at z1
        have : (0 : Int32).toInt = 0 := by decide
        have := (z8 r2).2
        omega
theorem r_dropBad {cN : Nat} (hf0 : f0 = rf_ui f 30 cN 0) (hS : PS f0 n a) (hc : cv.toInt = (cN : Int)) (c1 : 1 ≤ cN) (c2 : cN ≤ 8) : rfc th σ0 m (d + 9) 208 [.ref 0, .int cv] f (fun r f' => r = none ∧ f' = R_drop f n a cN) := by
  have e : ∀ u j, u ≠ 30 → f.1 u j = f0.1 u j := fun u j z => by rw [hf0, rf_ui_ne (by omega)]
  have hn4 := hS.1.2.2.1
  obtain ⟨x, q, r, -, ⟨t2, t2'⟩, -⟩ := hS.2.1 cN c1 c2
  refine r_drop hc c2 (hS.1.of (hS.1.1.of (e _ _ (by omega)) (fun c => e _ _ (by omega)) (fun c => e _ _ (by omega))) (fun k j hk => e k j (by simp only [List.mem_cons, List.not_mem_nil, or_false] at hk; omega))) (by rw [e 27 _ (by omega)]; exact t2) (by omega) (fun hq => ?_)
  have h27 : ¬ f0.1 27 cN = 0 := fun z => hq ((i32_z t2).mp z)
  obtain ⟨p, hp, h27p⟩ := hS.peerOf c1 c2 h27
  have : q - 1 = p := by
    rw [h27p, i32_ofNat (by omega)] at t2
    omega
  rw [this, e 11 p (by omega)]
  exact hS.stOf hp c1 c2 h27p
theorem kpm.tr {A'' : Nat → Nat → Nat} {n1 n2 s1 s2 : Nat} {σ'' : jx_S} (h : kpm B A A' n1 s1 σ σ') (h' : kpm B A' A'' n2 s2 σ' σ'') : kpm B A A'' (n1 + n2) (s1 + s2) σ σ'' := ⟨fun v z1 z2 => (h'.1 v z1 z2).trans (h.1 v z1 z2), Nat.le_trans h.2.1 h'.2.1, by have := h.2.2.1; have := h'.2.2.1; omega, by have := h.2.2.2.1; have := h'.2.2.2.1; omega, fun q i hq => (h'.2.2.2.2 q i hq).trans (h.2.2.2.2 q i hq)⟩
theorem kpm.le {n1 n2 s1 s2 : Nat} (h : kpm B A A' n1 s1 σ σ') (hn : n1 ≤ n2) (hs : s1 ≤ s2) : kpm B A A' n2 s2 σ σ' := ⟨h.1, h.2.1, Nat.le_trans h.2.2.1 (by omega), Nat.le_trans h.2.2.2.1 (by omega), h.2.2.2.2⟩
theorem RW.z30 (hW : RW th B b xl σ f A T) (hq : q < 8) (h26 : f.1 26 (q + 1) = 2) : ∃ z : Nat, (f.1 30 (q + 1)).toInt = (z : Int) := by
  obtain ⟨G, hR, -⟩ := hW
  rcases (hR.2.2.1 q hq).2 with e | ⟨d1, d2, ⟨y, ny, y1, y2, y3, y4⟩, hout⟩
  · rw [h26] at e; exact absurd e.2.2.2.2.1 (by decide)
  · exact ⟨ny, y2⟩
/-- one octet, from where it is known -/
theorem k_fd_b {k : Nat} (hW : RW th B b xl σ f A T) (hV : MV n a x f) (hq : q < 8) (hcv : cv.toInt = ((q + 1 : Nat) : Int)) (h26 : f.1 26 (q + 1) = 2) (h34 : (f.1 34 0).toInt = (h : Int)) (hh : h < 2147480000) (hk : kv.toInt = (k : Int)) (hk2 : k < 32) (hg : g = R_o1 f (q + 1) (R_oc w (Int32.ofNat k)))
    (hL : ∀ σ' A' T', RW th B b xl σ' (R_fs g n a (q + 1) cv t).2 A' T' → kpm B A A' (9 * R_ms g (q + 1)) (610 * R_ms g (q + 1)) σ σ' → cl_fj th (d + 12) 71 45 [(0, .ref B), (2, .long u1), (4, .long u2), (6, .long u3), (8, .long u4), (10, .int nv), (11, .ref (B + 14 + 3 * q)), (12, .int (R_fs g n a (q + 1) cv t).1), (13, .int (kv + Int32.ofInt 1))] [] σ' Q) :
    cl_fj th (d + 12) 71 100 [(0, .ref B), (2, .long u1), (4, .long u2), (6, .long u3), (8, .long u4), (10, .int nv), (11, .ref (B + 14 + 3 * q)), (12, .int t), (13, .int kv), (14, .long w)] [] σ Q := by
  obtain ⟨z, hz⟩ := hW.z30 hq h26
  obtain ⟨z6, h30, ⟨V0, M0⟩, key, -⟩ := hV.o1 (by omega) (by omega) h26 hz hg
  have og : ∀ u j, ¬ (u = 29 ∧ j = 600 * (q + 1) + z) → ¬ (u = 30 ∧ j = q + 1) → u ≠ 67 → g.1 u j = f.1 u j := fun u j z1 z2 z3 => by rw [hg]; exact o1_o hz z1 z2 z3
  have g26 : g.1 26 (q + 1) = 2 := by rw [og 26 _ (by omega) (by omega) (by omega)]; exact h26
  have g26' : ¬ g.1 26 (q + 1) = 0 := by rw [g26]; decide
  have h342 : ((rf_ui g 30 (q + 1) 0).1 34 0).toInt = (h : Int) := by rw [rf_ui_ne (by omega), og 34 0 (by omega) (by omega) (by omega)]; exact h34
  have ekv : kv = Int32.ofNat k := i32_eq hk (by omega)
  obtain ⟨G, hR, -⟩ := id hW
  have hce := (hR.2.2.1 q hq).1
  refine cl_at dt_71 90 [(45, [0, 2, 4, 6, 8, 10, 11, 12, 13])] dt_71_k ?_
  intro C J hC hJ
  conv => whnf
  refine ⟨jx_isC_of hce, hC _ _ _ _ (((k_addO (d := d) (x := R_oc w kv) hW hq (by rw [h26]; decide) hz z6 (nar_b _)).up (by omega)).mp ?_)⟩
  rintro r s1 ⟨rfl, W1, k1⟩
  have W1' : RW th B b xl s1 g A T := by
    rw [hg]
    unfold R_o1
    rw [i32_nat hz, ← ekv]
    exact W1.scr
  obtain ⟨G1, R1, -⟩ := id W1'
  have hce1 := (R1.2.2.1 q hq).1
  conv => whnf
  refine ⟨jx_isC_of hce1, hC _ _ _ _ (((k_breaksOff (d := d) W1' hq g26' h30).up (by omega)).mp ?_)⟩
  rintro r s2 ⟨hcs, hs2⟩
  rw [hs2]
  rcases hcs with ⟨rfl, e4, hb⟩ | ⟨rfl, hb⟩
  · have hbk : R_brk g (q + 1) := ⟨Int32.toInt_inj.mp (by rw [h30, e4]; decide), hb⟩
    have e1 : R_fs g n a (q + 1) cv t = (t, R_drop g n a (q + 1)) := if_pos hbk
    rw [e1] at hL
    conv => whnf
    refine jx_no (show ¬ (1 : Int32) = 0 by decide) ?_
    conv => whnf
    refine ⟨jx_isC_of R1.X, hC _ _ _ _ (((k_closeBad (d := d) W1' rfl V0.1 h342 (by omega) hq).up (by omega)).mp ?_)⟩
    rintro r s3 ⟨rfl, W3, k3⟩
    conv => whnf
    exact hJ _ _ _ _ (hL s3 A T W3 (kpm.of_kp (k1.tr k3)))
  · have hbk : ¬ R_brk g (q + 1) := fun y => hb ⟨by
      have := y.1
      rw [this, show (4 : Int32).toInt = 4 by decide] at h30
      omega, y.2⟩
    conv => whnf
    refine jx_yes (show (0 : Int32) = 0 from rfl) ?_
    conv => whnf
    refine ⟨jx_isC_of hce1, hC _ _ _ _ (((k_isWhole (d := d) W1' hq g26' h30).up (by omega)).mp ?_)⟩
    rintro r s3 ⟨hcs, hs3⟩
    rw [hs3]
    rcases hcs with ⟨rfl, h20, hw⟩ | ⟨rfl, hw⟩
    · have hwh : R_whl g (q + 1) := ⟨by rw [Int32.le_iff_toInt_le, h30, show (4 : Int32).toInt = 4 by decide]; omega, hw⟩
      have e1 : R_fs g n a (q + 1) cv t = (t + 1, R_hdl (R_look (rf_ui g 30 (q + 1) 0) (600 * (q + 1)) (z + 1)) n a (q + 1) cv) := by
        unfold R_fs
        rw [if_neg hbk, if_pos hwh, i32_nat h30]
      have e2 : R_ms g (q + 1) = 1 := if_pos ⟨hbk, hwh⟩
      rw [e1, e2] at hL
      conv => whnf
      refine jx_no (show ¬ (1 : Int32) = 0 by decide) ?_
      conv => whnf
      refine ⟨jx_isC_of R1.X, hC _ _ _ _ (((k_doMessage (d := d) W1' hq hcv g26 h30 h20 (by omega) rfl rfl V0 h342 hh).up (by omega)).mp ?_)⟩
      rintro r s4 ⟨rfl, A', T', W4, k4⟩
      conv => whnf
      exact hJ _ _ _ _ (hL s4 A' T' W4 (((kpm.of_kp (n := 0) (s := 0) k1).tr k4).le (by omega) (by omega)))
    · have hwh : ¬ R_whl g (q + 1) := fun y => by
        have y1 := y.1
        rw [Int32.le_iff_toInt_le, h30, show (4 : Int32).toInt = 4 by decide] at y1
        obtain ⟨u, k1, k2, k3, k4⟩ := key hbk (by omega)
        have y2 := y.2
        rw [k1] at y2
        rw [y2, i32_ofNat (by omega)] at h30
        exact hw ⟨by omega, y.2⟩
      have e1 : R_fs g n a (q + 1) cv t = (t, g) := by
        unfold R_fs
        rw [if_neg hbk, if_neg hwh]
      rw [e1] at hL
      conv => whnf
      refine jx_yes (show (0 : Int32) = 0 from rfl) ?_
      conv => whnf
      exact hJ _ _ _ _ (hL s1 A T W1' (kpm.of_kp k1))
end JxClsfeed
