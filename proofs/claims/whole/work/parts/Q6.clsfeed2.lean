/-! THE CLASS: the call feed -/
section JxClsfeed2
variable {th : Nat → Nat} {B b d n a x h p q c z m N : Nat} {xl : List Int32} {σ σ' σ0 : jx_S} {f g F f0 : jx_F} {A A' : Nat → Nat → Nat} {G : Nat → Nat → Int32} {T T' : Nat → Nat} {cv t v kv nv : Int32} {u1 u2 u3 u4 : Int64} {ws : Nat → Int32} {Q : Option Value → jx_S → Prop}
theorem fs_mm {r : Nat} (hV : MV n a x f) (c1 : 1 ≤ c) (c2 : c ≤ 8) (h26 : f.1 26 c = 2) (hz : (f.1 30 c).toInt = (z : Int)) (hg : g = R_o1 f c v) : R_ms g c + R_mm (R_fs g n a c cv t).2 c r ≤ R_mm f c (r + 1) := by
  obtain ⟨z6, h30, ⟨V0, M0⟩, key, -⟩ := hV.o1 c1 c2 h26 hz hg
  have z0 : ∀ F : jx_F, F.1 30 c = 0 → R_mm F c r = r / 20 := fun F hF => by
    unfold R_mm
    rw [hF, show (0 : Int32).toNatClampNeg = 0 from rfl, Nat.zero_min, Nat.zero_add]
  have e0 : R_mm f c (r + 1) = (min z 20 + (r + 1)) / 20 := by unfold R_mm; rw [i32_nat hz]
  rw [e0]
  by_cases hb : R_brk g c
  · have e1 : R_ms g c = 0 := if_neg (fun y => y.1 hb)
    have e2 : (R_fs g n a c cv t).2 = R_drop g n a c := by unfold R_fs; rw [if_pos hb]
    rw [e1, z0 _ (by rw [e2, ← drop_30 (v := 0)]; exact Z0.drop c rf_ui_eq)]
    omega
  · by_cases hw : R_whl g c
    · have e1 : R_ms g c = 1 := if_pos ⟨hb, hw⟩
      have y1 := hw.1
      rw [Int32.le_iff_toInt_le, h30, show (4 : Int32).toInt = 4 by decide] at y1
      obtain ⟨u, k1, k2, k3, k4⟩ := key hb (by omega)
      have y2 := hw.2
      rw [k1] at y2
      have h30' := h30
      rw [y2, i32_ofNat (by omega)] at h30'
      rw [e1, z0 _ (fs_30 hb hw V0 h30 (by omega))]
      omega
    · have e1 : R_ms g c = 0 := if_neg (fun y => hw y.2)
      have e2 : (R_fs g n a c cv t).2 = g := by unfold R_fs; rw [if_neg hb, if_neg hw]
      rw [e1, e2]
      unfold R_mm
      rw [i32_nat h30]
      omega
/-- octets, one behind the other -/
theorem k_fd_l (hq : q < 8) (hcv : cv.toInt = ((q + 1 : Nat) : Int)) (hn : nv.toInt = (N : Int)) (hN : N ≤ 32) (hws : ws = fun j => R_oc (R_wd u1 u2 u3 u4 j) (Int32.ofNat j)) : ∀ (r j : Nat) (kv t : Int32) (σ : jx_S) (f : jx_F) (A : Nat → Nat → Nat) (T : Nat → Nat) (h : Nat), RW th B b xl σ f A T → MV n a x f → (f.1 34 0).toInt = (h : Int) → h + 70 * r < 2147480000 → kv.toInt = (j : Int) → j + r = N → (∀ σ' A' T', RW th B b xl σ' (R_fl n a (q + 1) cv ws r j t f).2 A' T' → kpm B A A' (9 * R_mm f (q + 1) r) (610 * R_mm f (q + 1) r) σ σ' → Q (some (.int (R_fl n a (q + 1) cv ws r j t f).1)) σ') → cl_fj th (d + 12) 71 45 [(0, .ref B), (2, .long u1), (4, .long u2), (6, .long u3), (8, .long u4), (10, .int nv), (11, .ref (B + 14 + 3 * q)), (12, .int t), (13, .int kv)] [] σ Q
  | 0, j, kv, t, σ, f, A, T, h, hW, hV, h34, hh, hkv, hj, hQ => by
    refine cl_at dt_71 90 [] dt_71_k ?_
    intro C J hC hJ
    conv => whnf
    refine jx_yes (show nv ≤ kv by rw [Int32.le_iff_toInt_le, hn, hkv]; omega) ?_
    conv => whnf
    exact hQ σ A T hW (kpm.of_kp kp.rf)
  | r + 1, j, kv, t, σ, f, A, T, h, hW, hV, h34, hh, hkv, hj, hQ => by
    obtain ⟨G, hR, -⟩ := id hW
    have hce := (hR.2.2.1 q hq).1
    have eR : R_fl n a (q + 1) cv ws (r + 1) j t f = if f.1 26 (q + 1) = 2 then R_fl n a (q + 1) cv ws r (j + 1) (R_fs (R_o1 f (q + 1) (ws j)) n a (q + 1) cv t).1 (R_fs (R_o1 f (q + 1) (ws j)) n a (q + 1) cv t).2 else (t, f) := rfl
    rw [eR] at hQ
    refine cl_at dt_71 90 [(100, [0, 2, 4, 6, 8, 10, 11, 12, 13, 14])] dt_71_k ?_
    intro C J hC hJ
    conv => whnf
    refine jx_no (show ¬ nv ≤ kv by rw [Int32.le_iff_toInt_le, hn, hkv]; omega) ?_
    conv => whnf
    refine ⟨_, jx_getF_of (hce) rfl, ?_⟩
    conv => whnf
    refine ⟨fun (e : ¬ f.1 26 (q + 1) = 2) => ?_, fun (e : ¬ ¬ f.1 26 (q + 1) = 2) => ?_⟩
    · rw [if_neg e] at hQ
      conv => whnf
      exact hQ σ A T hW (kpm.of_kp kp.rf)
    · have h26 := Decidable.not_not.mp e
      rw [if_pos h26] at hQ
      have body : ∀ w' : Int64, w' = R_wd u1 u2 u3 u4 j → cl_fj th (d + 12) 71 100 [(0, .ref B), (2, .long u1), (4, .long u2), (6, .long u3), (8, .long u4), (10, .int nv), (11, .ref (B + 14 + 3 * q)), (12, .int t), (13, .int kv), (14, .long w')] [] σ Q := fun w' hw' => by
        refine k_fd_b (k := j) (g := R_o1 f (q + 1) (ws j)) hW hV hq hcv h26 h34 (by omega) hkv (by omega) (by rw [hws, hw']) (fun σ' A' T' W' K' => ?_)
        obtain ⟨z, hz⟩ := hW.z30 hq h26
        obtain ⟨V', -, l1, l2⟩ := hV.fs (v := ws j) (t := t) hR.ro hq hcv h26 hz h34 (by omega) rfl
        have hm := fs_mm (r := r) (cv := cv) (t := t) (v := ws j) hV (by omega) (by omega) h26 hz rfl
        obtain ⟨F, hF⟩ : ∃ F, F = (R_fs (R_o1 f (q + 1) (ws j)) n a (q + 1) cv t).2 := ⟨_, rfl⟩
        rw [← hF] at V' l1 l2 W' hm hQ
        obtain ⟨h', e'⟩ : ∃ h' : Nat, (F.1 34 0).toInt = (h' : Int) := ⟨(F.1 34 0).toInt.toNat, by omega⟩
        exact k_fd_l hq hcv hn hN hws r (j + 1) _ _ σ' F A' T' h' W' V' e' (by omega) (by rw [i32_add (c := 1) hkv (by decide) (by omega) (by omega)]; omega) (by omega) (fun σ'' A'' T'' W'' K'' => hQ σ'' A'' T'' W'' ((K'.tr K'').le (by omega) (by omega)))
      have k8 : ∀ y : Nat, y < 100 → (Int32.ofNat y ≤ kv ↔ y ≤ j) := fun y hy => by rw [Int32.le_iff_toInt_le, hkv, i32_ofNat (by omega)]; omega
      conv => whnf
      refine ⟨fun (c1 : Int32.ofNat 8 ≤ kv) => ?_, fun (c1 : ¬ Int32.ofNat 8 ≤ kv) => ?_⟩
      · rw [k8 8 (by omega)] at c1
        conv => whnf
        refine ⟨fun (c2 : Int32.ofNat 16 ≤ kv) => ?_, fun (c2 : ¬ Int32.ofNat 16 ≤ kv) => ?_⟩
        · rw [k8 16 (by omega)] at c2
          conv => whnf
          refine ⟨fun (c3 : Int32.ofNat 24 ≤ kv) => ?_, fun (c3 : ¬ Int32.ofNat 24 ≤ kv) => ?_⟩
          · rw [k8 24 (by omega)] at c3
            conv => whnf
            exact hJ _ _ _ _ (body _ (by unfold R_wd; rw [if_neg (by omega), if_neg (by omega), if_neg (by omega)]))
          · rw [k8 24 (by omega)] at c3
            conv => whnf
            exact hJ _ _ _ _ (body _ (by unfold R_wd; rw [if_neg (by omega), if_neg (by omega), if_pos (by omega)]))
        · rw [k8 16 (by omega)] at c2
          conv => whnf
          exact hJ _ _ _ _ (body _ (by unfold R_wd; rw [if_neg (by omega), if_pos (by omega)]))
      · rw [k8 8 (by omega)] at c1
        conv => whnf
        exact hJ _ _ _ _ (body _ (by unfold R_wd; rw [if_pos (by omega)]))
theorem k_feed (hW : RW th B b xl σ f A T) (hV : MV n a x f) (h34 : (f.1 34 0).toInt = (h : Int)) (hh : h + 2240 < 2147480000) : jc th (d + 13) 71 [.ref B, .int cv, .long u1, .long u2, .long u3, .long u4, .int nv] σ (fun r σ' => r = some (.int (R_feedF f n a cv u1 u2 u3 u4 nv).1) ∧ ∃ A' T', RW th B b xl σ' (R_feedF f n a cv u1 u2 u3 u4 nv).2 A' T' ∧ kpm B A A' 18 1220 σ σ') := by
  obtain ⟨G, hR, hls⟩ := id hW
  have hCA := hR.1.2.2.2.2.2.2.2.2.1
  refine cl_go dt_71 90 [(45, [0, 2, 4, 6, 8, 10, 11, 12, 13])] dt_71_k rfl ?_
  intro C J hC hJ
  conv => whnf
  refine ⟨jx_isC_of hR.X, hC _ _ _ _ (((k_connAt (d := d) hR.X hCA).up (by omega)).mp ?_)⟩
  rintro r s1 ⟨hcs, hs1⟩
  rw [hs1]
  rcases hcs with ⟨q, hq, hvq, rfl⟩ | ⟨hv, rfl⟩
  · have hce := (hR.2.2.1 q hq).1
    have hvn := i32_nat hvq
    have hv : 1 ≤ cv ∧ cv ≤ 8 := by
      refine ⟨?_, ?_⟩
      · rw [Int32.le_iff_toInt_le, hvq]; have : (1 : Int32).toInt = 1 := by decide
        omega
      · rw [Int32.le_iff_toInt_le, hvq]; have : (8 : Int32).toInt = 8 := by decide
        omega
    conv => whnf
    refine ⟨_, jx_getF_of (hce) rfl, ?_⟩
    conv => whnf
    refine ⟨fun (e : f.1 26 (q + 1) = 2) => ?_, fun (e : ¬ f.1 26 (q + 1) = 2) => ?_⟩
    · conv => whnf
      refine ⟨fun (c1 : nv < 1) => ?_, fun (c1 : ¬ nv < 1) => ?_⟩
      · have eF : R_feedF f n a cv u1 u2 u3 u4 nv = (-2, f) := by
          unfold R_feedF
          rw [hvn, if_pos ⟨hv, e⟩, if_neg (fun y => Int32.not_lt.mpr y.1 c1)]
        rw [eF]
        conv => whnf
        exact ⟨rfl, A, T, hW, kpm.of_kp kp.rf⟩
      · conv => whnf
        refine ⟨fun (c2 : nv ≤ 32) => ?_, fun (c2 : ¬ nv ≤ 32) => ?_⟩
        · have n1 := Int32.not_lt.mp c1
          have n1' := n1
          have n2' := c2
          rw [Int32.le_iff_toInt_le, show (1 : Int32).toInt = 1 by decide] at n1'
          rw [Int32.le_iff_toInt_le, show (32 : Int32).toInt = 32 by decide] at n2'
          obtain ⟨N, hn⟩ : ∃ N : Nat, nv.toInt = (N : Int) := ⟨nv.toInt.toNat, by omega⟩
          have eF : R_feedF f n a cv u1 u2 u3 u4 nv = R_fl n a (q + 1) cv (fun j => R_oc (R_wd u1 u2 u3 u4 j) (Int32.ofNat j)) N 0 0 f := by
            unfold R_feedF
            rw [hvn, if_pos ⟨hv, e⟩, if_pos ⟨n1, c2⟩, i32_nat hn]
          rw [eF] at hJ
          conv => whnf
          refine hJ _ _ _ _ (k_fd_l hq hvq hn (by omega) rfl N 0 0 0 σ f A T h hW hV h34 (by omega) (by decide) (by omega) (fun σ' A' T' W' K' => ⟨rfl, A', T', W', K'.le ?_ ?_⟩))
          · unfold R_mm; omega
          · unfold R_mm; omega
        · have eF : R_feedF f n a cv u1 u2 u3 u4 nv = (-2, f) := by
            unfold R_feedF
            rw [hvn, if_pos ⟨hv, e⟩, if_neg (fun y => c2 y.2)]
          rw [eF]
          conv => whnf
          exact ⟨rfl, A, T, hW, kpm.of_kp kp.rf⟩
    · have eF : R_feedF f n a cv u1 u2 u3 u4 nv = (-1, f) := by
        unfold R_feedF
        rw [hvn, if_neg (fun y => e y.2)]
      rw [eF]
      conv => whnf
      exact ⟨rfl, A, T, hW, kpm.of_kp kp.rf⟩
  · have eF : R_feedF f n a cv u1 u2 u3 u4 nv = (-1, f) := by
      unfold R_feedF
      rw [if_neg (fun y => hv y.1)]
    rw [eF]
    conv => whnf
    exact ⟨rfl, A, T, hW, kpm.of_kp kp.rf⟩
end JxClsfeed2
