/-! THE PAIR peer: the class looks and makes -/
section JxPeer2
variable {th : Nat → Nat} {B b d n N R len ty : Nat} {xl : List Int32} {σ σ' : jx_S} {f : jx_F} {A : Nat → Nat → Nat} {G : Nat → Nat → Int32} {T : Nat → Nat} {Q : Option Value → jx_S → Prop} {st v : Int32} {h h2 : Nat → Int32}
theorem k_isHand_l {v2 v3 v4 v5 v6 v7 v8 v9 v10 v11 v12 : Value} (hX : σ.1 B = some (.inr (0, [.ref (B + 1), .int v, v2, v3, v4, v5, v6, v7, v8, v9, v10, v11, v12]))) (hN : N ≤ 40) (hH : σ.1 (B + 1) = some (.inl (0, 40, .inl h))) (hty : ty ∈ [0, 3, 100]) (hR : σ.1 R = some (.inl (ty, N, .inl h2))) : ∀ (r k : Nat) (kv : Int32), kv.toInt = (k : Int) → k + r = N → ((∀ j, k ≤ j → j < N → h2 j = h j) → Q (some (.int 1)) σ) → (¬ (∀ j, k ≤ j → j < N → h2 j = h j) → Q (some (.int 0)) σ) → cl_fj th d 22 25 [(0, .ref B), (1, .ref R), (2, .int kv)] [] σ Q
  | 0, k, kv, hv, hk, h1, h0 => by
    refine cl_at dt_22 60 [] dt_22_k ?_
    intro C J hC hJ
    conv => whnf
    refine ⟨_, jx_al_of (hR), ?_⟩
    conv => whnf
    refine jx_yes (show Int32.ofNat N ≤ kv by rw [Int32.le_iff_toInt_le, hv, i32_ofNat (by omega)]; omega) ?_
    conv => whnf
    exact ⟨Or.inr rfl, h1 (fun j j1 j2 => by omega)⟩
  | r + 1, k, kv, hv, hk, h1, h0 => by
    refine cl_at dt_22 60 [(25, [0, 1, 2])] dt_22_k ?_
    intro C J hC hJ
    conv => whnf
    refine ⟨_, jx_al_of (hR), ?_⟩
    conv => whnf
    refine jx_no (show ¬ Int32.ofNat N ≤ kv by rw [Int32.le_iff_toInt_le, hv, i32_ofNat (by omega)]; omega) ?_
    conv => whnf
    refine ⟨_, jx_ild_of hR hty hv (by omega), ?_⟩
    conv => whnf
    refine ⟨_, jx_getF_of (hX) rfl, ?_⟩
    conv => whnf
    refine ⟨_, jx_ild_of hH (by decide) hv (by omega), ?_⟩
    conv => whnf
    refine ⟨fun (e : h2 k = h k) => ?_, fun (e : ¬ h2 k = h k) => ?_⟩
    · conv => whnf
      refine hJ _ _ _ _ (k_isHand_l hX hN hH hty hR r (k + 1) _ ?_ (by omega) (fun z => h1 (fun j j1 j2 => ?_)) (fun z => h0 (fun w => z (fun j j1 j2 => w j (by omega) j2))))
      · rw [i32_add (c := 1) hv (by decide) (by omega) (by omega)]; omega
      · by_cases ej : j = k
        · rw [ej]; exact e
        · exact z j (by omega) j2
    · conv => whnf
      exact ⟨Or.inl rfl, h0 (fun z => e (z k (Nat.le_refl _) (by omega)))⟩
theorem k_isHand {v2 v3 v4 v5 v6 v7 v8 v9 v10 v11 v12 : Value} (hX : σ.1 B = some (.inr (0, [.ref (B + 1), .int v, v2, v3, v4, v5, v6, v7, v8, v9, v10, v11, v12]))) (hv : v.toInt = (N : Int)) (hN : N ≤ 40) (hH : σ.1 (B + 1) = some (.inl (0, 40, .inl h))) (hty : ty ∈ [0, 3, 100]) (hR : σ.1 R = some (.inl (ty, len, .inl h2))) (hlen : len ≤ 40) : jc th (d + 1) 22 [.ref B, .ref R] σ (fun r σ' => ((r = some (.int 1) ∧ len = N ∧ ∀ j, j < N → h2 j = h j) ∨ (r = some (.int 0) ∧ ¬ (len = N ∧ ∀ j, j < N → h2 j = h j))) ∧ σ' = σ) := by
  have ev : v = Int32.ofNat N := i32_eq (x := v) (n := N) hv (by omega)
  refine cl_go dt_22 60 [(25, [0, 1, 2])] dt_22_k rfl ?_
  intro C J hC hJ
  conv => whnf
  refine ⟨_, jx_al_of (hR), ?_⟩
  conv => whnf
  refine ⟨_, jx_getF_of (hX) rfl, ?_⟩
  conv => whnf
  refine ⟨fun (e : ¬ Int32.ofNat len = v) => ?_, fun (e : ¬ ¬ Int32.ofNat len = v) => ?_⟩
  · conv => whnf
    exact ⟨Or.inl rfl, Or.inr ⟨rfl, fun z => e (by rw [z.1, ev])⟩, rfl⟩
  · have el : len = N := by
      have := Decidable.not_not.mp e
      rw [ev] at this
      exact ofN_inj (by omega) (by omega) this
    subst el
    conv => whnf
    refine ⟨_, jx_getF_of (hX) rfl, ?_⟩
    conv => whnf
    refine ⟨_, jx_getF_of (hX) rfl, ?_⟩
    conv => whnf
    refine ⟨_, jx_al_of (hH), ?_⟩
    conv => whnf
    refine jx_yes (show v ≤ Int32.ofNat 40 by rw [ev, nle (by omega) (by omega)]; exact hN) ?_
    conv => whnf
    exact hJ _ _ _ _ (k_isHand_l hX hN hH hty hR len 0 0 (by decide) (by omega) (fun z => ⟨Or.inl ⟨rfl, rfl, fun j hj => z j (by omega) hj⟩, rfl⟩) (fun z => ⟨Or.inr ⟨rfl, fun w => z (fun j _ j2 => w.2 j j2)⟩, rfl⟩))
theorem k_hp_l (hR : RelC th B b xl σ f A G T) (hn : (f.1 7 0).toInt = (n : Int)) (hn4 : n ≤ 4) (hN : (f.1 4 0).toInt = (N : Int)) (hN4 : N ≤ 40) : ∀ (r p : Nat) (pv : Int32), pv.toInt = (p : Int) → p + r = n → ((∃ p', p ≤ p' ∧ p' < n ∧ R_sm f p') → Q (some (.int 1)) σ) → (¬ (∃ p', p ≤ p' ∧ p' < n ∧ R_sm f p') → Q (some (.int 0)) σ) → cl_fj th (d + 3) 23 2 [(0, .ref B), (1, .int pv)] [] σ Q
  | 0, p, pv, hv, hp, h1, h0 => by
    obtain ⟨n', m1, m2, hal, -⟩ := hR.2.2.2.1
    have en : n = n' := by omega
    subst en
    obtain ⟨⟨mc, hl⟩, -⟩ := hal
    rw [List.length_map, List.length_range] at hl
    refine cl_at dt_23 60 [] dt_23_k ?_
    intro C J hC hJ
    conv => whnf
    refine ⟨_, jx_getF_of (hR.X) rfl, ?_⟩
    conv => whnf
    refine ⟨jx_isC_of hl, hC _ _ _ _ (((k_size (d := d) hl).up (by omega)).mp ?_)⟩
    rintro r σ1 ⟨rfl, hs1⟩
    rw [hs1]
    conv => whnf
    refine jx_yes (show Int32.ofNat n ≤ pv by rw [Int32.le_iff_toInt_le, hv, i32_ofNat (by omega)]; omega) ?_
    conv => whnf
    refine ⟨Or.inl rfl, h0 ?_⟩
    rintro ⟨p', z1, z2, -⟩
    omega
  | r + 1, p, pv, hv, hp, h1, h0 => by
    obtain ⟨n', m1, m2, hal, hpe⟩ := id hR.2.2.2.1
    have en : n = n' := by omega
    subst en
    have hal0 := hal
    obtain ⟨⟨mc, hl⟩, -⟩ := hal
    rw [List.length_map, List.length_range] at hl
    obtain ⟨-, a2, ⟨y, y1, y2, -, hh2, y3, y4⟩, -⟩ := hpe p (by omega)
    obtain ⟨N1, hN1, -, hh, hrow, hrv⟩ := hR.1.2.2.2.2.2.2.1
    have eN : N = N1 := by omega
    subst eN
    have hsm : (y = N ∧ ∀ j, j < N → hh2 j = hh j) ↔ R_sm f p := by
      unfold R_sm
      constructor
      · rintro ⟨z1, z2⟩
        refine ⟨Int32.toInt_inj.mp (by rw [y1, hN, z1]), fun j hj => ?_⟩
        have hj' : j < N := by omega
        have e1 : hh2 j = f.1 8 (40 * p + j) := (y4 j (by omega)).1
        rw [← e1, z2 j hj', (hrv j hj').1]
      · rintro ⟨z1, z2⟩
        have ey : y = N := by
          rw [z1, hN] at y1
          omega
        refine ⟨ey, fun j hj => ?_⟩
        have e1 : hh2 j = f.1 8 (40 * p + j) := (y4 j (by omega)).1
        rw [e1, z2 j (by omega), (hrv j hj).1]
    refine cl_at dt_23 60 [(2, [0, 1])] dt_23_k ?_
    intro C J hC hJ
    conv => whnf
    refine ⟨_, jx_getF_of (hR.X) rfl, ?_⟩
    conv => whnf
    refine ⟨jx_isC_of hl, hC _ _ _ _ (((k_size (d := d) hl).up (by omega)).mp ?_)⟩
    rintro r' σ1 ⟨rfl, hs1⟩
    rw [hs1]
    conv => whnf
    refine jx_no (show ¬ Int32.ofNat n ≤ pv by rw [Int32.le_iff_toInt_le, hv, i32_ofNat (by omega)]; omega) ?_
    conv => whnf
    refine ⟨_, jx_getF_of (hR.X) rfl, ?_⟩
    conv => whnf
    refine ⟨jx_isC_of hl, hC _ _ _ _ ((k_get (d := d) hal0 hv (by simp [show p < n by omega] : ((List.range n).map (A 6))[p]? = some (A 6 p))).mp ?_)⟩
    rintro r' σ2 ⟨rfl, hs2⟩
    rw [hs2]
    conv => whnf
    refine ⟨jx_cast_of a2 (by decide +kernel), ?_⟩
    conv => whnf
    refine ⟨_, jx_getF_of (a2) rfl, ?_⟩
    conv => whnf
    refine ⟨jx_isC_of hR.X, hC _ _ _ _ (((k_isHand (d := d) hR.X hN hN4 hrow (by decide) y3 y2).up (by omega)).mp ?_)⟩
    rintro r' σ3 ⟨hcs, hs3⟩
    rw [hs3]
    rcases hcs with ⟨rfl, z⟩ | ⟨rfl, z⟩
    · conv => whnf
      refine jx_no (show ¬ (1 : Int32) = 0 by decide) ?_
      conv => whnf
      exact ⟨Or.inr rfl, h1 ⟨p, Nat.le_refl _, by omega, hsm.mp z⟩⟩
    · conv => whnf
      refine jx_yes (show (0 : Int32) = 0 from rfl) ?_
      conv => whnf
      refine hJ _ _ _ _ (k_hp_l hR hn hn4 hN hN4 r (p + 1) _ ?_ (by omega) (fun w => h1 ?_) (fun w => h0 (fun u => w ?_)))
      · rw [i32_add (c := 1) hv (by decide) (by omega) (by omega)]; omega
      · obtain ⟨p', w1, w2, w3⟩ := w
        exact ⟨p', by omega, w2, w3⟩
      · obtain ⟨p', u1, u2, u3⟩ := u
        by_cases e : p' = p
        · rw [e] at u3; exact absurd (hsm.mpr u3) z
        · exact ⟨p', by omega, u2, u3⟩
theorem k_isHandOfPeer (hR : RelC th B b xl σ f A G T) (hn : (f.1 7 0).toInt = (n : Int)) (hn4 : n ≤ 4) (hN : (f.1 4 0).toInt = (N : Int)) (hN4 : N ≤ 40) : jc th (d + 4) 23 [.ref B] σ (fun r σ' => ((r = some (.int 1) ∧ ∃ p', p' < n ∧ R_sm f p') ∨ (r = some (.int 0) ∧ ¬ ∃ p', p' < n ∧ R_sm f p')) ∧ σ' = σ) := by
  refine cl_go dt_23 20 [(2, [0, 1])] dt_23_k rfl ?_
  intro C J hC hJ
  conv => whnf
  exact hJ _ _ _ _ (k_hp_l hR hn hn4 hN hN4 n 0 0 (by decide) (by omega) (fun z => ⟨Or.inl ⟨rfl, by obtain ⟨p', z1, z2, z3⟩ := z; exact ⟨p', z2, z3⟩⟩, rfl⟩) (fun z => ⟨Or.inr ⟨rfl, fun w => by obtain ⟨p', z2, z3⟩ := w; exact z ⟨p', by omega, z2, z3⟩⟩, rfl⟩))
theorem k_peerInit {P Y : Nat} {nv : Int32} {u0 u1 u2 u3 u4 u5 u6 u7 u8 u9 u10 u11 u12 u13 u14 u15 u16 u17 u18 : Value} (hst : st = 0 ∨ st = 1) (hP : σ.1 P = some (.inr (6, [u0, u1, u2, u3, u4, u5, u6, u7, u8, u9, u10, u11, u12, u13, u14, u15, u16, u17, u18]))) : jc th (d + 1) 29 [.ref P, .int nv, .ref Y, .int st] σ (fun r σ' => r = none ∧ σ'.1 P = some (.inr (6, [.int nv, .ref Y, .int st, .int 0, .int 2147483647, u5, u6, .int 0, u8, u9, u10, u11, u12, u13, u14, u15, u16, u17, u18])) ∧ (∀ a, a ≠ P → σ'.1 a = σ.1 a) ∧ σ'.2 = σ.2) := by
  refine cl_go dt_29 60 [] dt_29_k rfl ?_
  intro C J hC hJ
  conv => whnf
  refine putK hP rfl (fit_i _) (fun s1 p1 o1 n1 => ?_)
  conv => whnf
  refine putK p1 rfl (fit_i _) (fun s2 p2 o2 n2 => ?_)
  conv => whnf
  refine putK p2 rfl (fit_i _) (fun s3 p3 o3 n3 => ?_)
  conv => whnf
  refine putK p3 rfl (fit_i _) (fun s4 p4 o4 n4 => ?_)
  conv => whnf
  refine putK p4 rfl (fit_a _ rfl) (fun s5 p5 o5 n5 => ?_)
  conv => whnf
  refine putK p5 rfl (fit_z hst) (fun s6 p6 o6 n6 => ?_)
  conv => whnf
  exact ⟨rfl, p6, fun a ha => by rw [o6 a ha, o5 a ha, o4 a ha, o3 a ha, o2 a ha, o1 a ha], by rw [n6, n5, n4, n3, n2, n1]⟩
theorem k_setTimer0 {P : Nat} {tv : Int32} {w0 w1 w2 w4 w5 w6 w7 w8 w9 w10 w11 w12 : Value} {u0 u1 u2 u3 u4 u5 u6 u7 u8 u9 u10 u11 u12 u13 u14 u15 u16 u17 u18 : Value} (hX : σ.1 B = some (.inr (0, [w0, w1, w2, .int tv, w4, w5, w6, w7, w8, w9, w10, w11, w12]))) (hP : σ.1 P = some (.inr (6, [u0, u1, u2, u3, u4, u5, u6, u7, u8, u9, u10, u11, u12, u13, u14, u15, u16, u17, u18]))) : jc th (d + 1) 30 [.ref B, .ref P] σ (fun r σ' => r = none ∧ σ'.1 P = some (.inr (6, [u0, u1, u2, u3, u4, u5, u6, u7, u8, .int (tv + 30), u10, u11, u12, u13, u14, u15, u16, u17, u18])) ∧ (∀ a, a ≠ P → σ'.1 a = σ.1 a) ∧ σ'.2 = σ.2) := by
  refine cl_go dt_30 60 [] dt_30_k rfl ?_
  intro C J hC hJ
  conv => whnf
  refine ⟨_, jx_getF_of (hX) rfl, ?_⟩
  conv => whnf
  refine putK hP rfl (fit_i _) (fun s1 p1 o1 n1 => ?_)
  conv => whnf
  exact ⟨rfl, p1, o1, n1⟩
end JxPeer2
