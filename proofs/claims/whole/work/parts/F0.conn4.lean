/-! THE PAIR connected: the class, and both -/
section JxConn4
variable {th : Nat → Nat} {B b m d k n a p c : Nat} {xl : List Int32} {σ σ0 : jx_S} {f g F f' : jx_F} {A : Nat → Nat → Nat} {G G' : Nat → Nat → Int32} {T : Nat → Nat} {s : Int32}
theorem PS.c26 (hS : PS f n a) (hc : c < 8) (h0 : ¬ f.1 26 (c + 1) = 0) (h2 : ¬ f.1 26 (c + 1) = 2) : f.1 26 (c + 1) = 1 := by
  obtain ⟨x, q, r, ⟨t1, t1'⟩, -⟩ := hS.2.1 (c + 1) (by omega) (by omega)
  have x0 : x ≠ 0 := fun z => h0 ((i32_z t1).mpr z)
  have x2 : x ≠ 2 := fun z => h2 (Int32.toInt_inj.mp (by rw [t1, z]; decide))
  exact Int32.toInt_inj.mp (by rw [t1, show x = 1 by omega]; decide)
theorem k_connected {v on : Int32} {h : Nat} (hon : on = 0 ∨ on = 1) (hW : RW th B b xl σ f A T) (hS : PS f n a) (h34 : (f.1 34 0).toInt = (h : Int)) (hh : h < 2147482000) : jc th (d + 8) 46 [.ref B, .int v, .int on] σ (fun r σ' => r = some (.int (R_connF f n a v on).1) ∧ RW th B b xl σ' (R_connF f n a v on).2 A T ∧ kp B σ σ') := by
  obtain ⟨G, hR, hls⟩ := id hW
  have hn4 := hS.1.2.2.1
  have hCA := hR.1.2.2.2.2.2.2.2.2.1
  refine cl_go dt_46 60 [] dt_46_k rfl ?_
  intro C J hC hJ
  conv => whnf
  refine ⟨jx_isC_of hR.X, hC _ _ _ _ (((k_connAt (d := d) hR.X hCA).up (by omega)).mp ?_)⟩
  rintro r s1 ⟨hcs, hs1⟩
  rw [hs1]
  rcases hcs with ⟨c, hc, hvc, rfl⟩ | ⟨hv, rfl⟩
  · have hce := (hR.2.2.1 c hc).1
    have hvn := i32_nat hvc
    have hv : 1 ≤ v ∧ v ≤ 8 := by
      refine ⟨?_, ?_⟩
      · rw [Int32.le_iff_toInt_le, hvc]; have : (1 : Int32).toInt = 1 := by decide
        omega
      · rw [Int32.le_iff_toInt_le, hvc]; have : (8 : Int32).toInt = 8 := by decide
        omega
    conv => whnf
    refine ⟨_, jx_getF_of (hce) rfl, ?_⟩
    conv => whnf
    refine ⟨fun (h0 : ¬ f.1 26 (c + 1) = 0) => ?_, fun (h0 : ¬ ¬ f.1 26 (c + 1) = 0) => ?_⟩
    · conv => whnf
      refine ⟨_, jx_getF_of (hce) rfl, ?_⟩
      conv => whnf
      refine ⟨fun (h2 : ¬ f.1 26 (c + 1) = 2) => ?_, fun (h2 : ¬ ¬ f.1 26 (c + 1) = 2) => ?_⟩
      · have h26 := hS.c26 hc h0 h2
        conv => whnf
        rcases hon with rfl | rfl
        · refine jx_yes (show (0 : Int32) = 0 from rfl) ?_
          conv => whnf
          refine ⟨jx_isC_of hR.X, hC _ _ _ _ ((k_closeAsGone (d := d) hW hS h34 hh hc).mp ?_)⟩
          rintro r s2 ⟨rfl, hW2, hk2⟩
          conv => whnf
          unfold R_connF
          rw [hvn, if_pos ⟨hv, h0⟩, if_neg h2, if_pos rfl]
          exact ⟨rfl, hW2, hk2⟩
        · refine jx_no (show ¬ (1 : Int32) = 0 by decide) ?_
          conv => whnf
          obtain ⟨p, hp, g27, g28, g30, g13, hst⟩ := hS.asked hc h26
          have e27 : (f.1 27 (c + 1)).toNatClampNeg - 1 = p := by rw [g27, i32_nat (i32_ofNat (n := p + 1) (by omega))]; omega
          have hown : jc th (d + 7) 48 [.ref B, .ref (B + 14 + 3 * c)] σ (fun r σ' => r = none ∧ RW th B b xl σ' (R_own f n a (c + 1) p) A T ∧ kp B σ σ') := by
            rcases hst with ⟨w1, -⟩ | ⟨w1, cc, w2, w3, w4, w5, -⟩
            · exact k_ownIsOpen (d := d) (cc := 0) hW (by have := hS.1.2.1; omega) hc g27 g28 g13 h0 (Or.inl w1)
            · exact k_ownIsOpen (d := d) (cc := cc) hW (by have := hS.1.2.1; omega) hc g27 g28 g13 h0 (Or.inr ⟨w1, w2, w3, w4, by rw [w5]; decide⟩)
          refine ⟨jx_isC_of hR.X, hC _ _ _ _ (hown.mp ?_)⟩
          rintro r s2 ⟨rfl, hW2, hk2⟩
          conv => whnf
          unfold R_connF
          rw [hvn, if_pos ⟨hv, h0⟩, if_neg h2, if_neg (by decide), e27]
          exact ⟨rfl, hW2, hk2⟩
      · conv => whnf
        unfold R_connF
        rw [hvn, if_pos ⟨hv, h0⟩, if_pos (Decidable.not_not.mp h2)]
        exact ⟨rfl, hW, kp.rf⟩
    · conv => whnf
      unfold R_connF
      rw [hvn, if_neg (fun z => h0 z.2)]
      exact ⟨rfl, hW, kp.rf⟩
  · conv => whnf
    unfold R_connF
    rw [if_neg (fun z => hv z.1)]
    exact ⟨rfl, hW, kp.rf⟩
theorem pair_connected (hk : k ≤ 512) (hR : Rel th B b xl σ f A G T) (hI : PI (fN f) G k) (h1 : σ.2.1 + 2 * ngr A B 8 ≤ B + 118 + 100 * k) (h2 : σ.2.2 + 2600 * ngr A B 8 ≤ 81000 + 13000 * k) (hQ : KQ f) : lawp_5 th b B (B + 39) xl σ (Inv th B b xl (k + 1)) := by
  intro v on hon
  have hI0 := hI.un
  obtain ⟨n, a, hS, x, hx, hx1, hx2⟩ := hI0.ps
  obtain ⟨f0, hf0⟩ : ∃ f0, f0 = rf_ui f 0 0 0 := ⟨_, rfl⟩
  rw [← hf0] at hI0 hS hx
  have hn4 := hS.1.2.2.1
  have h9 : ∀ p, p < n → ∃ x : Nat, (f0.1 9 p).toInt = (x : Int) ∧ x ≤ 40 := fun p hp => by
    have hR0 := hR.2.un
    rw [← hf0] at hR0
    obtain ⟨-, -, ⟨y, y1, y2, -⟩, -⟩ := hR0.pe (p := p) (by have := hS.1.2.1; omega)
    exact ⟨y, y1, y2⟩
  refine pair_work (w := (R_connF f0 n a v on).1) (f' := (R_connF f0 n a v on).2) rfl hR hI h1 h2 hQ (fun hW => (k_connected (d := 22) hon (by rw [hf0]; exact hW) hS hx (by omega)).mp ?_) (fun σ0 => ?_) (fun G' hl => ?_) (fun hq => ?_)
  · rintro r s1 ⟨h3, h4, h5⟩
    exact ⟨h3, A, T, h4, h5.kr⟩
  · rw [hf0]
    exact r_connected (d := 20) hon (by rw [← hf0]; exact hS) (by rw [← hf0]; exact h9)
  · unfold R_connF at hl ⊢
    by_cases hv : (1 ≤ v ∧ v ≤ 8) ∧ ¬ f0.1 26 v.toNatClampNeg = 0
    · obtain ⟨c, hc, hvc⟩ := i32_18 hv.1
      have hvn := i32_nat hvc
      rw [if_pos hv, hvn] at hl ⊢
      rw [hvn] at hv
      by_cases h2' : f0.1 26 (c + 1) = 2
      · rw [if_pos h2'] at hl ⊢
        exact hI0.same hl
      · rw [if_neg h2'] at hl ⊢
        by_cases h0 : on = 0
        · rw [if_pos h0] at hl ⊢
          generalize hF : R_drop f0 n a (c + 1) = F at hl ⊢
          have hl : F.1 2 0 = lsum G' 8 := hl
          show PI F G' (k + 1)
          rw [← hF] at hl ⊢
          exact hI0.drop hS hk (by omega) (by omega) hl
        · rw [if_neg h0] at hl ⊢
          have h26 := hS.c26 hc hv.2 h2'
          obtain ⟨p, hp, g27, -⟩ := hS.asked hc h26
          have e27 : (f0.1 27 (c + 1)).toNatClampNeg - 1 = p := by rw [g27, i32_nat (i32_ofNat (n := p + 1) (by omega))]; omega
          rw [e27] at hl ⊢
          generalize hF : R_own f0 n a (c + 1) p = F at hl ⊢
          have hl : F.1 2 0 = lsum G' 8 := hl
          show PI F G' (k + 1)
          rw [← hF] at hl ⊢
          exact hI0.own hS hk hc h26 hp g27 hl
    · rw [if_neg hv] at hl ⊢
      exact hI0.same hl
  · rw [← hf0] at hq
    unfold R_connF
    by_cases hv : (1 ≤ v ∧ v ≤ 8) ∧ ¬ f0.1 26 v.toNatClampNeg = 0
    · obtain ⟨c, hc, hvc⟩ := i32_18 hv.1
      have hvn := i32_nat hvc
      rw [if_pos hv, hvn]
      rw [hvn] at hv
      by_cases h2' : f0.1 26 (c + 1) = 2
      · rw [if_pos h2']; exact hq
      · rw [if_neg h2']
        by_cases h0 : on = 0
        · rw [if_pos h0]
          generalize hF : R_drop f0 n a (c + 1) = F
          show KQ F
          rw [← hF]
          exact hq.of (fun q j hq' => R_drop_o hS (by omega) (by omega) (by rcases hq' with rfl | rfl | rfl | rfl <;> rfl) (by omega) (fun _ => by omega))
        · rw [if_neg h0]
          have h26 := hS.c26 hc hv.2 h2'
          obtain ⟨p, hp, g27, -⟩ := hS.asked hc h26
          have e27 : (f0.1 27 (c + 1)).toNatClampNeg - 1 = p := by rw [g27, i32_nat (i32_ofNat (n := p + 1) (by omega))]; omega
          rw [e27]
          obtain ⟨h', w1, w2, w3, w4, w5⟩ := own_cases hS hc h26 hx (by omega) hp g27
          have hh : KQ h' := hq.of (fun q j hq' => w4 q j (by rcases hq' with rfl | rfl | rfl | rfl <;> decide) (by omega) (by omega))
          generalize hF : R_own f0 n a (c + 1) p = F at w5 ⊢
          show KQ F
          rcases w5 with e | e
          · rw [e]; exact hh
          · rw [e]
            exact hh.of (fun q j hq' => R_drop_o w1 (by omega) (by omega) (by rcases hq' with rfl | rfl | rfl | rfl <;> rfl) (by omega) (fun _ => by omega))
    · rw [if_neg hv]; exact hq
end JxConn4
