/-! THE CLASS sends an answer -/
def C_nmT (z c : Int32) : List Int32 := if z = 0 then [] else R_at 279 8 ++ R_at c 0
section JxClsans2
variable {th : Nat → Nat} {d B b O n R L s bb q : Nat} {xl : List Int32} {σ σ' : jx_S} {f f0 g : jx_F} {A : Nat → Nat → Nat} {G : Nat → Nat → Int32} {T : Nat → Nat} {o : Nat → Int32} {bs : List Int32} {c w z res cv : Int32}
theorem RelC.ok (hR : RelC th B b xl σ f A G T) : R_hs f ≤ 40 ∧ R_ok f → R_ok f := fun h => h.2
theorem R_stT_l : (R_stT g res).length ≤ 12 ∧ (R_stT g res).length % 4 = 0 := by
  unfold R_stT
  split
  · exact ⟨by decide, rfl⟩
  · exact ⟨by decide, rfl⟩
theorem C_nmT_l : (C_nmT z c).length ≤ 16 ∧ (C_nmT z c).length % 4 = 0 := by
  unfold C_nmT
  split
  · exact ⟨by decide, rfl⟩
  · have e : (R_at 279 8 ++ R_at c 0).length = 16 := rfl
    rw [e]
    exact ⟨Nat.le_refl 16, by decide⟩
set_option maxHeartbeats 4000000 in
theorem k_answer (hW : RW th B b xl σ g A T) (hok : R_ok g) (hM : MB σ (B + 9) R L o w z c (Int32.ofNat (sat o L))) (hl : 20 ≤ L) (hL : LK o L bb f0 g) (hb : bb ≤ 4800) (ho : o = oct f0 bb) (hq : q < 8) (hcv : cv.toInt = ((q + 1 : Nat) : Int)) (h26 : ¬ g.1 26 (q + 1) = 0) : jc th (d + 5) 96 [.ref B, .ref (B + 14 + 3 * q), .int res] σ (fun r σ' => r = none ∧ RW th B b xl σ' (R_msg g (R_ans g res ++ (R_stT g res ++ C_nmT z c)) cv) A T ∧ kp B σ σ') := by
  obtain ⟨G, hR, hls⟩ := hW
  have hX := hR.X
  obtain ⟨sk1, -, -⟩ := SE.sok hL hb
  obtain ⟨al, al4⟩ := R_ans_l (res := res) hok sk1
  obtain ⟨sl, sl4⟩ := R_stT_l (g := g) (res := res)
  obtain ⟨nl, nl4⟩ := C_nmT_l (z := z) (c := c)
  have mbk : ∀ s1, dch B σ s1 → MB s1 (B + 9) R L o w z c (Int32.ofNat (sat o L)) := fun s1 c1 => by
    obtain ⟨⟨cn, d1⟩, ⟨wd, d2⟩, -⟩ := hR.2.1
    refine hM.same (c1.2 _ (by omega) (by omega)) (c1.2 _ (fun y => ?_) (fun y => ?_))
    · obtain ⟨-, -, -, h, hr, -⟩ := hM
      rw [y, d1] at hr
      cases hr
    · obtain ⟨-, -, -, h, hr, -⟩ := hM
      rw [y, d2] at hr
      cases hr
  have hd0 : ∀ ys, (R_ans g res ++ ys)[0]? = some ((1 : Int32) >>> 0) := fun ys => rfl
  have t60 : ∀ s1, dch B σ s1 → DM B s1 (A 4 0) (R_ans g res ++ (R_stT g res ++ C_nmT z c)) → cl_fj th (d + 4) 96 60 [(0, .ref B), (1, .ref (B + 14 + 3 * q))] [] s1 (fun r σ' => r = none ∧ RW th B b xl σ' (R_msg g (R_ans g res ++ (R_stT g res ++ C_nmT z c)) cv) A T ∧ kp B σ σ') := by
    intro s1 c1 m1
    have hX1 := (c1.2 B (by omega) (by omega)).trans hX
    obtain ⟨cn1, e1⟩ := m1.c11
    refine cl_at dt_96 40 [] dt_96_k ?_
    intro C J hC hJ
    conv => whnf
    refine ⟨_, jx_getF_of (hX1) rfl, ?_⟩
    conv => whnf
    refine ⟨_, jx_getF_of (e1) rfl, ?_⟩
    conv => whnf
    refine ⟨_, jx_getF_of (hX1) rfl, ?_⟩
    conv => whnf
    refine ⟨jx_isC_of e1, hC _ _ _ _ (((k_finish (d := d) m1 (hd0 _)).up (by omega)).mp ?_)⟩
    rintro r s9 ⟨rfl, c9, d9, w9, e9, f9⟩
    obtain ⟨hR9, hk9⟩ := hR.dch (c1.tr c9) d9 ⟨w9, e9⟩
    have hlen : (R_ans g res ++ (R_stT g res ++ C_nmT z c)).length ≤ 200 ∧ (R_ans g res ++ (R_stT g res ++ C_nmT z c)).length % 4 = 0 := by
      rw [List.length_append, List.length_append]
      omega
    conv => whnf
    have hce := (hR9.2.2.1 q hq).1
    refine ⟨jx_isC_of hce, hC _ _ _ _ (((k_sendR (d := d) (cv := cv) ⟨G, hR9, hls⟩ hq hcv h26 e9 (n := (R_ans g res ++ (R_stT g res ++ C_nmT z c)).length / 4) (by omega) (by omega) (i32_ofNat (by omega)) (by omega) f9).up (by omega)).mp ?_)⟩
    rintro r s10 ⟨rfl, hW10, hk10⟩
    conv => whnf
    exact ⟨rfl, hW10, hk9.tr hk10⟩
  have t36 : ∀ s1, dch B σ s1 → DM B s1 (A 4 0) (R_ans g res ++ R_stT g res) → cl_fj th (d + 4) 96 36 [(0, .ref B), (1, .ref (B + 14 + 3 * q))] [] s1 (fun r σ' => r = none ∧ RW th B b xl σ' (R_msg g (R_ans g res ++ (R_stT g res ++ C_nmT z c)) cv) A T ∧ kp B σ σ') := by
    intro s1 c1 m1
    have hX1 := (c1.2 B (by omega) (by omega)).trans hX
    have hM1 := mbk s1 c1
    obtain ⟨cn1, e1⟩ := m1.c11
    refine cl_at dt_96 40 [(60, [0, 1])] dt_96_k ?_
    intro C J hC hJ
    conv => whnf
    refine ⟨_, jx_getF_of (hX1) rfl, ?_⟩
    conv => whnf
    refine ⟨_, jx_getF_of (hM1.1) rfl, ?_⟩
    conv => whnf
    refine ⟨fun (h1 : z = 0) => ?_, fun (h1 : ¬ z = 0) => ?_⟩
    · conv => whnf
      exact hJ _ _ _ _ (t60 s1 c1 (by unfold C_nmT; rw [if_pos h1, List.append_nil]; exact m1))
    · conv => whnf
      refine ⟨_, jx_getF_of (hX1) rfl, ?_⟩
      conv => whnf
      refine ⟨_, jx_getF_of (hX1) rfl, ?_⟩
      conv => whnf
      refine ⟨_, jx_getF_of (hM1.1) rfl, ?_⟩
      conv => whnf
      refine ⟨jx_isC_of e1, hC _ _ _ _ (((k_failed (d := d) (c := c) m1 (by rw [List.length_append]; omega)).up (by omega)).mp ?_)⟩
      rintro r s2 ⟨rfl, c2, m2⟩
      conv => whnf
      refine hJ _ _ _ _ (t60 s2 (c1.tr c2) ?_)
      unfold C_nmT
      rw [if_neg h1, ← List.append_assoc]
      exact m2
  refine cl_go dt_96 40 [(36, [0, 1])] dt_96_k rfl ?_
  intro C J hC hJ
  conv => whnf
  refine ⟨jx_isC_of hX, hC _ _ _ _ ((k_beginAnswer (d := d) (res := res) hR hM hl hL hb ho).mp ?_)⟩
  rintro r s1 ⟨rfl, c1, m1⟩
  have hX1 := (c1.2 B (by omega) (by omega)).trans hX
  have hM1 := mbk s1 c1
  obtain ⟨cn1, e1⟩ := m1.c11
  conv => whnf
  refine ⟨_, jx_getF_of (hX1) rfl, ?_⟩
  conv => whnf
  refine ⟨jx_isC_of hM1.1, hC _ _ _ _ (((k_command (d := d) hM1 hl).up (by omega)).mp ?_)⟩
  rintro r s2 ⟨rfl, hs2⟩
  rw [hs2, ← hL.h70]
  conv => whnf
  refine ⟨fun (h1 : ¬ g.1 70 0 = 280) => ?_, fun (h1 : ¬ ¬ g.1 70 0 = 280) => ?_⟩
  · conv => whnf
    exact hJ _ _ _ _ (t36 s1 c1 (by unfold R_stT; rw [if_neg (fun y => h1 y.2), List.append_nil]; exact m1))
  have h1 := Decidable.not_not.mp h1
  conv => whnf
  refine ⟨fun (h2 : ¬ res = 2001) => ?_, fun (h2 : ¬ ¬ res = 2001) => ?_⟩
  · conv => whnf
    exact hJ _ _ _ _ (t36 s1 c1 (by unfold R_stT; rw [if_neg (fun y => h2 y.1), List.append_nil]; exact m1))
  have h2 := Decidable.not_not.mp h2
  conv => whnf
  refine ⟨_, jx_getF_of (hX1) rfl, ?_⟩
  conv => whnf
  refine ⟨jx_isC_of e1, hC _ _ _ _ (((k_number (d := d) (c := 278) (v := 1) m1 (by omega)).up (by omega)).mp ?_)⟩
  rintro r s3 ⟨rfl, c3, m3⟩
  conv => whnf
  exact hJ _ _ _ _ (t36 s3 (c1.tr c3) (by unfold R_stT; rw [if_pos ⟨h2, h1⟩]; exact m3))
/-- a refusal -/
theorem ref_eq (hL : LK o L bb f0 g) (hr : ¬ ob o 4 &&& 128 = 0) : R_msg g (R_ans g (wr o L) ++ (R_stT g (wr o L) ++ C_nmT (nmb o L) (wcd o L))) cv = R_refuse g cv := by
  obtain ⟨e1, e2⟩ := hL.wq hr
  unfold R_refuse
  rw [e1]
  have e3 : R_stT g (wr o L) = [] := by
    unfold R_stT
    refine if_neg (fun y => ?_)
    have := y.1
    unfold wr at this
    split at this
    · cases hw : wra o L with
      | none => rw [hw] at this; exact absurd this (by decide)
      | some x =>
        rw [hw] at this
        have : x.1 = 2001 := this
        rcases wra_x hw with v | v | v | v | v <;> rw [v] at this <;> exact absurd this (by decide)
    · rcases hdw_in (o := o) with v | v | v | v | v <;> rw [v] at this <;> exact absurd this (by decide)
  have e4 : C_nmT (nmb o L) (wcd o L) = R_nmT g := by
    unfold C_nmT R_nmT nmb wcd
    have nm := wr_nm (o := o) (L := L)
    rw [e1]
    cases hw : wrn o L with
    | none =>
      rw [if_pos (by decide), if_neg (fun y => ?_)]
      obtain ⟨c, hc⟩ := nm.mpr y
      rw [hw] at hc
      cases hc
    | some x =>
      rw [if_pos (nm.mp ⟨x, hw⟩), e2 x hw]
      exact if_neg (fun y => absurd (show (1 : Int32) = 0 from y) (by decide))
  rw [e3, List.nil_append, e4]
theorem ans_eq (h0 : wr o L = 0) : R_msg g (R_ans g res ++ (R_stT g res ++ C_nmT (nmb o L) (wcd o L))) cv = R_ansW g cv res := by
  have e4 : C_nmT (nmb o L) (wcd o L) = [] := by
    unfold C_nmT nmb
    cases hw : wrn o L with
    | none => rfl
    | some x =>
      rcases wr_nm.mp ⟨x, hw⟩ with v | v | v | v | v <;> rw [h0] at v <;> exact absurd v (by decide)
  rw [e4, List.append_nil]
  rfl
end JxClsans2
