/-! THE CLASS reads the message -/
def nmb (o : Nat → Int32) (L : Nat) : Int32 := if (wrn o L).isSome = true then 1 else 0
def wcd (o : Nat → Int32) (L : Nat) : Int32 := (wrn o L).getD 0
/-- the message as it was read -/
def MR (σ : jx_S) (X R L : Nat) (o : Nat → Int32) : Prop := MB σ X R L o (wr o L) (nmb o L) (wcd o L) (Int32.ofNat (sat o L))
section JxMsgall
variable {th : Nat → Nat} {d dd X R L k n p s a : Nat} {σ σ' σ2 : jx_S} {o h : Nat → Int32} {w z c kv x y rq : Int32} {Q : Option Value → jx_S → Prop} {e : Nat} {ev : Int32} {l : List Int32}
theorem k_lm_go (hA : σ.1 a = some (.inl (101, l.length, .inl (fun j => l.getD j 0)))) (hln : l.length ≤ 5) (hM : MB σ X R L o 0 0 0 (Int32.ofNat s)) (hw : wf o 700 20 L) (hl : l = mus o) (hrq : rq = 0 ↔ ob o 4 &&& 128 = 0) : cl_fj th (dd + 3) 92 32 [(0, .ref X), (1, .int rq), (2, .ref a), (3, .ref a), (4, .int (Int32.ofNat l.length)), (5, .int (Int32.ofNat 0))] [] σ (fun r σ' => r = none ∧ RS X R L o σ (lck o (top o L), s) σ') := by
  refine k_lm_1 hA hln hM hw l 0 rfl (by omega) (fun h1 => ?_) (fun c' h1 σ' m1 m2 m3 => ⟨rfl, ?_⟩)
  · have e1 : lck o (top o L) = if ob o 4 &&& 128 = 0 then none else (twc o (top o L) l).map (fun c => (5009, c)) := by
      unfold lck
      rw [← hl, h1]
    refine cl_at dt_92 20 [(85, [0, 1, 3, 4, 5])] dt_92_k ?_
    intro C J hC hJ
    conv => whnf
    refine ⟨_, jx_al_of (hA), ?_⟩
    conv => whnf
    refine hJ _ _ _ _ (k_lm_2 hA hln hM hw l 0 rfl (by omega) (fun y => ⟨rfl, ?_⟩) (fun y c' y2 σ' m1 m2 m3 => ⟨rfl, ?_⟩))
    · have : lck o (top o L) = none := by
        rw [e1]
        rcases y with y | y
        · rw [if_pos (hrq.mp y)]
        · rw [y]; split <;> rfl
      rw [this]
      exact RS.non hM (fun _ _ => rfl) rfl
    · have : lck o (top o L) = some (5009, c') := by
        rw [e1, if_neg (fun z => y (hrq.mpr z)), y2]
        rfl
      rw [this]
      exact RS.flt (x := (5009, c')) m1 m2 m3
  · have : lck o (top o L) = some (5005, c') := by
      unfold lck
      rw [← hl, h1]
    rw [this]
    exact RS.flt (x := (5005, c')) m1 m2 m3
theorem hdw_cmd (hd : hdw o = 0) (hr : ¬ ob o 4 &&& 128 = 0) : w3 o 5 = 257 ∨ w3 o 5 = 280 ∨ w3 o 5 = 282 ∨ w3 o 5 = 272 := by
  unfold hdw at hd
  split at hd
  · split at hd
    · rename_i z; exact z
    · exact absurd hd (by decide)
  · exact absurd hd (by decide)
theorem k_lookMusts (hM : MB σ X R L o 0 0 0 (Int32.ofNat s)) (hl : 20 ≤ L) (hK : bg_K th σ) (hd : hdw o = 0) (hw : wf o 700 20 L) : jc th (dd + 4) 92 [.ref X] σ (fun r σ' => r = none ∧ RS X R L o σ (lck o (top o L), s) σ') := by
  refine cl_go dt_92 40 [(32, [0, 1, 2, 3, 4, 5])] dt_92_k rfl ?_
  intro C J hC hJ
  conv => whnf
  refine ⟨jx_isC_of hM.1, hC _ _ _ _ (((k_isReq (d := 0) hM hl).up (by omega)).mp ?_)⟩
  rintro r s1 ⟨hr, hs1⟩
  rw [hs1]
  rcases hr with ⟨rfl, h1⟩ | ⟨rfl, h1⟩
  · conv => whnf
    refine jx_yes (show (0 : Int32) = 0 from rfl) ?_
    conv => whnf
    have hA : σ.1 (th 7) = some (.inl (101, (kl 7).length, .inl (fun j => (kl 7).getD j 0))) := hK.2.2 7 (by omega) (by omega)
    refine ⟨_, jx_al_of (hA), ?_⟩
    conv => whnf
    exact hJ _ _ _ _ (k_lm_go hA (by decide) hM hw (by unfold mus; rw [if_pos h1]; rfl) ⟨fun _ => h1, fun _ => rfl⟩)
  · conv => whnf
    refine jx_no (show ¬ (1 : Int32) = 0 by decide) ?_
    conv => whnf
    refine ⟨jx_isC_of hM.1, hC _ _ _ _ (((k_command (d := 0) hM hl).up (by omega)).mp ?_)⟩
    rintro r s2 ⟨rfl, hs2⟩
    rw [hs2]
    conv => whnf
    refine hC _ _ _ _ (((k_mustsOf (d := 0) (c := w3 o 5)).up (by omega)).mp ?_)
    rintro r s3 ⟨rfl, hs3⟩
    rw [hs3]
    conv => whnf
    obtain ⟨m1, m2⟩ := mz_in (c := w3 o 5)
    obtain ⟨q1, q2⟩ := kl_0' (c := w3 o 5)
    have hA : σ.1 (th (mz (w3 o 5))) = some (.inl (101, (kl (mz (w3 o 5))).length, .inl (fun j => (kl (mz (w3 o 5))).getD j 0))) := hK.2.2 _ m1 m2
    refine ⟨_, jx_al_of (hA), ?_⟩
    conv => whnf
    exact hJ _ _ _ _ (k_lm_go hA q2 hM hw (by unfold mus; rw [if_neg h1]; exact kl_ix (hdw_cmd hd h1)) ⟨fun z => absurd z (by decide), fun z => absurd z h1⟩)
theorem bg_K.of (h : bg_K th σ) (hX : ∀ j, j < 8 → th j ≠ X) (e : ∀ q, q ≠ X → σ'.1 q = σ.1 q) : bg_K th σ' := ⟨by rw [e _ (hX 0 (by omega))]; exact h.1, by rw [e _ (hX 1 (by omega))]; exact h.2.1, fun j j1 j2 => by rw [e _ (hX j j2)]; exact h.2.2 j j1 j2⟩
theorem k_msgread {r0 : Nat} {l0 w0 z0 c0 e0 : Int32} (hX0 : σ.1 X = some (.inr (3, [.ref r0, .int l0, .int w0, .int z0, .int c0, .int e0]))) (hXR : X ≠ R) (hR0 : σ.1 R = some (.inl (0, 600, .inl h))) (hj : ∀ j, j < L → h j = o j) (hl : 20 ≤ L) (hL : L ≤ 600) (hK : bg_K th σ) (hth : ∀ j, j < 8 → th j ≠ X) : jc th (dd + 10) 77 [.ref X, .ref R, .int (Int32.ofNat L)] σ (fun r σ' => r = none ∧ MR σ' X R L o ∧ (∀ q, q ≠ X → σ'.1 q = σ.1 q) ∧ σ'.2 = σ.2) := by
  have hRX : R ≠ X := fun z => hXR z.symm
  have t56 : ∀ (σ1 : jx_S) (w z c e : Int32), MB σ1 X R L o w z c e → (∀ q, q ≠ X → σ1.1 q = σ.1 q) → σ1.2 = σ.2 → ((w = 0 → MB σ1 X R L o 0 0 0 (Int32.ofNat (sat o L)) ∧ hdw o = 0 ∧ (scs o 700 0 20 L 0).1 = none) ∧ (¬ w = 0 → MR σ1 X R L o)) → cl_fj th (dd + 9) 77 56 [(0, .ref X)] [] σ1 (fun r σ' => r = none ∧ MR σ' X R L o ∧ (∀ q, q ≠ X → σ'.1 q = σ.1 q) ∧ σ'.2 = σ.2) := by
    intro σ1 w z c e hM1 f1 f2 hh
    refine cl_at dt_77 20 [] dt_77_k ?_
    intro C J hC hJ
    conv => whnf
    refine ⟨_, jx_getF_of (hM1.1) rfl, ?_⟩
    conv => whnf
    refine ⟨fun (h1 : ¬ w = 0) => ?_, fun (h1 : ¬ ¬ w = 0) => ?_⟩
    · conv => whnf
      exact ⟨rfl, hh.2 h1, f1, f2⟩
    obtain ⟨hM2, hd, hn⟩ := hh.1 (Decidable.not_not.mp h1)
    conv => whnf
    refine ⟨jx_isC_of hM1.1, hC _ _ _ _ (((k_lookMusts (dd := 0) hM2 hl (hK.of hth f1) hd (top_in hn)).up (by omega)).mp ?_)⟩
    rintro r s2 ⟨rfl, ⟨w', z', c', hr, hM3⟩, g1, g2⟩
    conv => whnf
    refine ⟨rfl, ?_, fun q hq => by rw [g1 q hq, f1 q hq], by rw [g2, f2]⟩
    have ew : wra o L = lck o (top o L) := by unfold wra; rw [hn]
    unfold MR nmb wcd wr wrn
    rw [if_pos hd, if_pos hd, ew]
    rcases hr with ⟨hr, rfl, rfl, rfl⟩ | ⟨x, hr, rfl, rfl, rfl⟩
    · rw [show lck o (top o L) = none from hr]
      exact hM3
    · rw [show lck o (top o L) = some x from hr]
      exact hM3
  refine cl_go dt_77 60 [(56, [0])] dt_77_k rfl ?_
  intro C J hC hJ
  conv => whnf
  refine putK hX0 rfl (fit_a _ rfl) (fun s1 p1 o1 n1 => ?_)
  conv => whnf
  have r1 : s1.1 R = some (.inl (0, 600, .inl h)) := by rw [o1 R hRX]; exact hR0
  refine ⟨_, jx_al_of (r1), ?_⟩
  conv => whnf
  have emin : (if Int32.ofNat 600 < Int32.ofNat L then Int32.ofNat 600 else Int32.ofNat L) = Int32.ofNat L := if_neg (by rw [nlt (by omega) (by omega)]; omega)
  rw [emin]
  refine putK p1 rfl (fit_i _) (fun s2 p2 o2 n2 => ?_)
  conv => whnf
  refine putK p2 rfl (fit_z (by decide)) (fun s3 p3 o3 n3 => ?_)
  conv => whnf
  refine putK p3 rfl (fit_i _) (fun s4 p4 o4 n4 => ?_)
  conv => whnf
  refine putK p4 rfl (fit_i _) (fun s5 p5 o5 n5 => ?_)
  conv => whnf
  have f5 : ∀ q, q ≠ X → s5.1 q = σ.1 q := fun q hq => by rw [o5 q hq, o4 q hq, o3 q hq, o2 q hq, o1 q hq]
  have g5 : s5.2 = σ.2 := by rw [n5, n4, n3, n2, n1]
  have hM5 : MB s5 X R L o w0 0 0 0 := ⟨p5, hL, hXR, h, by rw [f5 R hRX]; exact hR0, hj⟩
  refine ⟨jx_isC_of hM5.1, hC _ _ _ _ (((k_wrongInHead (dd := 0) hM5 hl (hK.of hth f5)).up (by omega)).mp ?_)⟩
  rintro r s6 ⟨rfl, hs6⟩
  rw [hs6]
  conv => whnf
  refine putK p5 rfl (fit_i _) (fun s7 p7 o7 n7 => ?_)
  conv => whnf
  have f7 : ∀ q, q ≠ X → s7.1 q = σ.1 q := fun q hq => by rw [o7 q hq, f5 q hq]
  have g7 : s7.2 = σ.2 := by rw [n7, g5]
  have hM7 : MB s7 X R L o (hdw o) 0 0 0 := ⟨p7, hL, hXR, h, by rw [f7 R hRX]; exact hR0, hj⟩
  refine ⟨_, jx_getF_of (hM7.1) rfl, ?_⟩
  conv => whnf
  refine ⟨fun (h1 : ¬ hdw o = 0) => ?_, fun (h1 : ¬ ¬ hdw o = 0) => ?_⟩
  · conv => whnf
    refine hJ _ _ _ _ (t56 s7 _ _ _ _ hM7 f7 g7 ⟨fun z => absurd z h1, fun _ => ?_⟩)
    unfold MR nmb wcd wr wrn sat
    rw [if_neg h1, if_neg h1, if_neg h1]
    exact hM7
  · have h1 := Decidable.not_not.mp h1
    conv => whnf
    refine ⟨_, jx_getF_of (hM7.1) rfl, ?_⟩
    conv => whnf
    rw [h1] at hM7
    refine ⟨jx_isC_of hM7.1, hC _ _ _ _ (((k_readAll (dd := 0) hM7 hl).up (by omega)).mp ?_)⟩
    rintro r s8 ⟨rfl, ⟨w', z', c', hr, hM8⟩, g1, g2⟩
    conv => whnf
    have es : sat o L = (scs o 700 0 20 L 0).2 := if_pos h1
    rw [← es] at hM8
    refine hJ _ _ _ _ (t56 s8 _ _ _ _ hM8 (fun q hq => by rw [g1 q hq, f7 q hq]) (by rw [g2, g7]) ?_)
    rcases hr with ⟨hr, rfl, rfl, rfl⟩ | ⟨x, hr, rfl, rfl, rfl⟩
    · exact ⟨fun _ => ⟨hM8, h1, hr⟩, fun z => absurd rfl z⟩
    · have n0 : ¬ x.1 = 0 := by rcases scs_x _ _ _ _ _ _ hr with z | z | z <;> rw [z] <;> decide
      refine ⟨fun z => absurd z n0, fun _ => ?_⟩
      have ew : wra o L = some x := by unfold wra; rw [hr]
      unfold MR nmb wcd wr wrn
      rw [if_pos h1, if_pos h1, ew]
      exact hM8
end JxMsgall
