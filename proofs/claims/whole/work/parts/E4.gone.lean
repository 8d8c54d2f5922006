/-! THE PAIR gone -/
noncomputable def R_goneF (f : jx_F) (n a : Nat) (v : Int32) : Int32 × jx_F := if (1 ≤ v ∧ v ≤ 8) ∧ ¬ f.1 26 v.toNatClampNeg = 0 then (1, R_drop f n a v.toNatClampNeg) else (-1, f)
section JxGone
variable {th : Nat → Nat} {B b m d k n a p c : Nat} {xl : List Int32} {σ σ0 : jx_S} {f g f' : jx_F} {A : Nat → Nat → Nat} {G G' : Nat → Nat → Int32} {T : Nat → Nat} {s : Int32}
theorem PS.peerOf (hS : PS f n a) (c1 : 1 ≤ c) (c2 : c ≤ 8) (h27 : ¬ f.1 27 c = 0) : ∃ p, p < n ∧ f.1 27 c = Int32.ofNat (p + 1) := by
  have hn4 := hS.1.2.2.1
  obtain ⟨x, q, r, -, ⟨t2, t2'⟩, -⟩ := hS.2.1 c c1 c2
  have hq0 : q ≠ 0 := fun z => h27 ((i32_z t2).mpr z)
  exact ⟨q - 1, by omega, i32_eq (x := f.1 27 c) (n := q - 1 + 1) (by rw [t2]; omega) (by omega)⟩
theorem k_closeAsGone {h : Nat} (hW : RW th B b xl σ f A T) (hS : PS f n a) (h34 : (f.1 34 0).toInt = (h : Int)) (hh : h < 2147482000) (hc : c < 8) : jc th (d + 7) 63 [.ref B, .ref (B + 14 + 3 * c)] σ (fun r σ' => r = none ∧ RW th B b xl σ' (R_drop f n a (c + 1)) A T ∧ kp B σ σ') := by
  have hn4 := hS.1.2.2.1
  by_cases h27 : f.1 27 (c + 1) = 0
  · exact (k_gone0 (d := d) hW hc h27).up (by omega)
  · obtain ⟨p, hp, h27p⟩ := hS.peerOf (c := c + 1) (by omega) (by omega) h27
    have cof := hS.cof hp (by omega) (by omega) h27p
    refine k_gone1 (d := d) hW hc hS.1.2.1 hn4 hp h27p (cof.elim (fun z => Or.inl z) (fun z => Or.inr ⟨z.1, z.2.1⟩)) hS.1.2.2.2.1 hS.1.2.2.2.2.1 (hS.gq h34 (by omega)) (fun q _ q2 q3 => hS.gl q2 q3.1) (fun q q1 q2 => ?_) (fun hst h28 => ?_)
    · obtain ⟨st, o, kk, u, t1, t2, t3, t4, q5, q6, -⟩ := hS.2.2.1 q q2
      have ne : ¬ Int32.ofNat (p + 1) = Int32.ofNat (q + 1) := fun z => by have := ofN_inj (by omega) (by omega) z; omega
      refine ⟨⟨o, t2.1, t2.2, fun z => ?_⟩, kk, t3.1, t3.2, fun z => ?_⟩
      · have := (q5 (by omega)).1
        rw [z, h27p] at this
        exact ne this
      · have := (q6 (by omega)).1
        rw [z, h27p] at this
        exact ne this
    · obtain ⟨st, o, kk, u, ⟨t1, t1'⟩, ⟨t2, t2'⟩, ⟨t3, t3'⟩, t4, q5, q6, q7, q8, q9, q10, q11, -⟩ := hS.2.2.1 p hp
      have k0 : kk ≠ 0 := by
        rcases hst with e | e
        · refine (q10 ?_).2.1
          rw [e] at t1
          have : (3 : Int32).toInt = 3 := by decide
          omega
        · refine (q11 ?_).2.1
          rw [e] at t1
          have : (4 : Int32).toInt = 4 := by decide
          omega
      obtain ⟨y1, y2⟩ := q6 k0
      obtain ⟨x, q, r, ⟨z1, z1'⟩, ⟨z2, -⟩, ⟨z3, -⟩, z4, z5, z6, z7, z8⟩ := hS.2.1 kk (by omega) t3'
      have r2 : r = 2 := by
        rw [y2] at z3
        have : (2 : Int32).toInt = 2 := by decide
        omega
      refine ⟨kk - 1, by omega, fun z => ?_, by rw [t3]; omega, fun z => ?_⟩
      · rw [show kk = c + 1 by omega, h28] at y2
        exact absurd y2 (by decide)
      · rw [show kk - 1 + 1 = kk by omega] at z
        rw [z] at z1
        have : (0 : Int32).toInt = 0 := by decide
        have := (z8 r2).2
        omega
theorem PS.stOf (hS : PS f n a) (hp : p < n) (c1 : 1 ≤ c) (c2 : c ≤ 8) (h27 : f.1 27 c = Int32.ofNat (p + 1)) : ∃ st : Nat, (f.1 11 p).toInt = (st : Int) ∧ 1 ≤ st ∧ st ≤ 7 := by
  obtain ⟨st, o, kk, u, ⟨t1, t1'⟩, ⟨t2, t2'⟩, ⟨t3, t3'⟩, t4, q5, q6, q7, -⟩ := hS.2.2.1 p hp
  refine ⟨st, t1, ?_, t1'⟩
  rcases Nat.lt_or_ge st 1 with e | e
  · exfalso
    obtain ⟨x1, x2⟩ := q7 (by omega)
    have f13 := i32_eq (x := f.1 13 p) (n := o) t2 (by omega)
    have f14 := i32_eq (x := f.1 14 p) (n := kk) t3 (by omega)
    rcases hS.cof hp c1 c2 h27 with z | z
    · have := z.2
      rw [f13] at this
      have := ofN_inj (by omega) (by omega) this
      omega
    · have := z.2.1
      rw [f14] at this
      have := ofN_inj (by omega) (by omega) this
      omega
  · exact e
theorem r_dropS {cv : Int32} {cN : Nat} (hS : PS f n a) (hc : cv.toInt = (cN : Int)) (c1 : 1 ≤ cN) (c2 : cN ≤ 8) : rfc th σ0 m (d + 9) 208 [.ref 0, .int cv] f (fun r f' => r = none ∧ f' = R_drop f n a cN) := by
  have hn4 := hS.1.2.2.1
  obtain ⟨x, q, r, -, ⟨t2, t2'⟩, -⟩ := hS.2.1 cN c1 c2
  refine r_drop hc c2 hS.1 t2 (by omega) (fun hq => ?_)
  have h27 : ¬ f.1 27 cN = 0 := fun z => hq ((i32_z t2).mp z)
  obtain ⟨p, hp, h27p⟩ := hS.peerOf c1 c2 h27
  have : q - 1 = p := by
    rw [h27p, i32_ofNat (by omega)] at t2
    omega
  rw [this]
  exact hS.stOf hp c1 c2 h27p
theorem r_gone {v : Int32} (hS : PS (rf_ui f 0 0 0) n a) : rfc th σ0 m (d + 10) 263 [.ref 0, .int v] f (fun r f' => r = some (.int (R_goneF (rf_ui f 0 0 0) n a v).1) ∧ f' = (R_goneF (rf_ui f 0 0 0) n a v).2) := by
  obtain ⟨g, hgd⟩ : ∃ g, g = rf_ui f 0 0 0 := ⟨_, rfl⟩
  rw [← hgd] at hS ⊢
  refine rf_go dt_263 60 [] dt_263_k (by decide +kernel) rfl ?_
  intro C J hC hJ
  conv => whnf
  rw [show rf_ui f 0 0 0 = g from hgd.symm]
  refine hC _ _ _ _ (((r_in (d := d)).up (by omega)).mp ?_)
  rintro r f1 ⟨hcs, hf1⟩
  rw [hf1]
  rcases hcs with ⟨rfl, hv⟩ | ⟨rfl, hv⟩
  · obtain ⟨q, hq, hvq⟩ := i32_18 hv
    have hvn := i32_nat hvq
    have hvi : jx_in v 9 := jx_in_nat hvq (by omega)
    conv => whnf
    refine jx_no (show ¬ (1 : Int32) = 0 by decide) ?_
    conv => whnf
    refine ⟨hvi, ?_⟩
    conv => whnf
    rw [hvn]
    refine ⟨fun (h : ¬ g.1 26 (q + 1) = 0) => ?_, fun (h : ¬ ¬ g.1 26 (q + 1) = 0) => ?_⟩
    · conv => whnf
      refine hC _ _ _ _ (((r_dropS (d := d) hS hvq (by omega) (by omega))).mp ?_)
      rintro r f2 ⟨rfl, hf2⟩
      conv => whnf
      unfold R_goneF
      rw [hvn, if_pos ⟨hv, h⟩]
      exact ⟨rfl, hf2⟩
    · conv => whnf
      unfold R_goneF
      rw [hvn, if_neg (fun z => h z.2)]
      exact ⟨rfl, rfl⟩
  · conv => whnf
    refine jx_yes (show (0 : Int32) = 0 from rfl) ?_
    conv => whnf
    unfold R_goneF
    rw [if_neg (fun z => hv z.1)]
    exact ⟨rfl, rfl⟩
theorem k_gone {v : Int32} {h : Nat} (hW : RW th B b xl σ f A T) (hS : PS f n a) (h34 : (f.1 34 0).toInt = (h : Int)) (hh : h < 2147482000) : jc th (d + 8) 153 [.ref B, .int v] σ (fun r σ' => r = some (.int (R_goneF f n a v).1) ∧ RW th B b xl σ' (R_goneF f n a v).2 A T ∧ kp B σ σ') := by
  obtain ⟨G, hR, hls⟩ := id hW
  have hCA := hR.1.2.2.2.2.2.2.2.2.1
  refine cl_go dt_153 60 [] dt_153_k rfl ?_
  intro C J hC hJ
  conv => whnf
  refine ⟨jx_isC_of hR.X, hC _ _ _ _ (((k_connAt (d := d) hR.X hCA).up (by omega)).mp ?_)⟩
  rintro r s1 ⟨hcs, hs1⟩
  rw [hs1]
  rcases hcs with ⟨q, hq, hvq, rfl⟩ | ⟨hv, rfl⟩
  · have hce := (hR.2.2.1 q hq).1
    have hvn := i32_nat hvq
    have hv : 1 ≤ v ∧ v ≤ 8 := by
      refine ⟨?_, ?_⟩
      · rw [Int32.le_iff_toInt_le, hvq]; have : (1 : Int32).toInt = 1 := by decide
        omega
      · rw [Int32.le_iff_toInt_le, hvq]; have : (8 : Int32).toInt = 8 := by decide
        omega
    conv => whnf
    refine ⟨_, jx_getF_of (hce) rfl, ?_⟩
    conv => whnf
    refine ⟨fun (h : ¬ f.1 26 (q + 1) = 0) => ?_, fun (h : ¬ ¬ f.1 26 (q + 1) = 0) => ?_⟩
    · conv => whnf
      refine ⟨jx_isC_of hR.X, hC _ _ _ _ ((k_closeAsGone (d := d) hW hS h34 hh hq).mp ?_)⟩
      rintro r s2 ⟨rfl, hW2, hk2⟩
      conv => whnf
      unfold R_goneF
      rw [hvn, if_pos ⟨hv, h⟩]
      exact ⟨rfl, hW2, hk2⟩
    · conv => whnf
      unfold R_goneF
      rw [hvn, if_neg (fun z => h z.2)]
      exact ⟨rfl, hW, kp.rf⟩
  · conv => whnf
    unfold R_goneF
    rw [if_neg (fun z => hv z.1)]
    exact ⟨rfl, hW, kp.rf⟩
/-- what a dropped connection leaves as it is -/
theorem R_drop_o (hS : PS f n a) (c1 : 1 ≤ c) (c2 : c ≤ 8) {q j : Nat} (hq : R_askK q = false) (h : ¬ ((q = 26 ∨ q = 27 ∨ q = 28 ∨ q = 30) ∧ j = c)) (h2 : j < n → ¬ (11 ≤ q ∧ q ≤ 25)) : (R_drop f n a c).1 q j = f.1 q j := by
  have hq' : q ∉ [2, 31, 32, 34, 65, 66] := fun z => by
    simp only [List.mem_cons, List.not_mem_nil, or_false] at z
    rcases z with rfl | rfl | rfl | rfl | rfl | rfl <;> exact absurd hq (by decide)
  have hq2 := hq'
  simp only [List.mem_cons, List.not_mem_nil, or_false] at hq2
  by_cases h27 : f.1 27 c = 0
  · unfold R_drop
    rw [if_pos h27, R_shut_no h27, R_shut0_o h]
  · have hn4 := hS.1.2.2.1
    obtain ⟨p, hp, h27p⟩ := hS.peerOf c1 c2 h27
    obtain ⟨i1, i2⟩ := i32_p1 (p := p) (by omega) h27p
    have hpn : (f.1 27 c).toInt = ((p + 1 : Nat) : Int) := by rw [h27p, i32_ofNat (by omega)]
    unfold R_drop
    rw [if_neg h27, i2]
    have eg : (R_shut f c).1 q j = f.1 q j := R_shut_o hpn h (fun z => h2 (by omega) (by omega))
    have hjp : 11 ≤ q ∧ q ≤ 25 → j ≠ p := fun z e => h2 (by omega) z
    have be : ∀ (g : jx_F) (s : Int32), (R_become g n a p s).1 q j = g.1 q j := by
      intro g s
      unfold R_become
      have e1 : (R_enter g p s).1 q j = g.1 q j := enter_o (by omega)
      split
      · split
        · exact e1
        · rw [R_bopen_o hq' (by omega)]; exact e1
      · split
        · rw [R_bshut_o hq (by omega)]; exact e1
        · exact e1
    have ac : ∀ g : jx_F, (R_accepts g n a p).1 q j = g.1 q j := fun g => by
      unfold R_accepts
      rw [be]
      exact R_answerCame_o (by omega) (by omega) (by omega) (by omega) (by omega)
    unfold R_drop1
    split
    · split
      · rw [ac]; exact eg
      · rw [be]; exact eg
    · split
      · split
        · rw [ac]; exact eg
        · rw [be]; exact eg
      · rw [be]; exact eg
theorem R_become_i {u j : Nat} {s : Int32} (hu : 54 ≤ u ∧ u ≤ 58) (hj : a ≤ j) : (R_become g n a p s).1 u j = g.1 u j := by
  unfold R_become
  have e1 : (R_enter g p s).1 u j = g.1 u j := enter_o (by omega)
  split
  · split
    · exact e1
    · rw [R_bopen_o (by simp only [List.mem_cons, List.not_mem_nil, or_false]; omega) (by omega)]; exact e1
  · split
    · rw [R_bshut_i hu hj]; exact e1
    · exact e1
theorem R_become_l {u j : Nat} {s : Int32} (h : ¬ (u = 53 ∧ j < a)) : (R_become g n a p s).2 u j = g.2 u j := by
  unfold R_become
  split
  · split
    · rfl
    · rw [R_bopen_l]; rfl
  · split
    · rw [R_bshut_l h]; rfl
    · rfl
theorem R_accepts_i {u j : Nat} (hu : 54 ≤ u ∧ u ≤ 58) (hj : a ≤ j) : (R_accepts g n a p).1 u j = g.1 u j := by
  unfold R_accepts
  rw [R_become_i hu hj]
  exact R_answerCame_o (by omega) (by omega) (by omega) (by omega) (by omega)
theorem R_accepts_l {u j : Nat} (h : ¬ (u = 53 ∧ j < a)) : (R_accepts g n a p).2 u j = g.2 u j := by
  unfold R_accepts
  rw [R_become_l h]
  unfold R_answerCame
  rw [R_msg_l]
theorem R_drop_i {u j : Nat} (hu : 54 ≤ u ∧ u ≤ 58) (hj : a ≤ j) : (R_drop f n a c).1 u j = f.1 u j := by
  have eg : (R_shut f c).1 u j = f.1 u j := by
    unfold R_shut
    rw [R_shut0_o (by omega)]
    split
    · rfl
    · unfold R_shutp
      rw [rf_ui_ne (by omega), rf_ui_ne (by omega)]
  unfold R_drop R_drop1
  split
  · exact eg
  · split
    · split
      · rw [R_accepts_i hu hj]; exact eg
      · rw [R_become_i hu hj]; exact eg
    · split
      · split
        · rw [R_accepts_i hu hj]; exact eg
        · rw [R_become_i hu hj]; exact eg
      · rw [R_become_i hu hj]; exact eg
theorem R_drop_l {u j : Nat} (h : ¬ (u = 53 ∧ j < a)) : (R_drop f n a c).2 u j = f.2 u j := by
  have eg : (R_shut f c).2 u j = f.2 u j := by rw [R_shut_l]
  unfold R_drop R_drop1
  split
  · exact eg
  · split
    · split
      · rw [R_accepts_l h]; exact eg
      · rw [R_become_l h]; exact eg
    · split
      · split
        · rw [R_accepts_l h]; exact eg
        · rw [R_become_l h]; exact eg
      · rw [R_become_l h]; exact eg
/-- the invariant behind a dropped connection -/
theorem PI.drop (hI : PI f G k) (hS : PS f n a) (hk : k ≤ 512) (c1 : 1 ≤ c) (c2 : c ≤ 8) (hl : (R_drop f n a c).1 2 0 = lsum G' 8) : PI (R_drop f n a c) G' (k + 1) := by
  obtain ⟨n', a', hS', x, hx, hx1, hx2⟩ := hI.ps
  obtain ⟨e1, e2⟩ := hS.uniq hS'
  subst e1 e2
  obtain ⟨r1, r2, r3⟩ := hS.drop c1 c2 ⟨x, hx, by omega⟩
  have h7 := hS.1.2.1
  have h49 := hS.1.2.2.2.1
  refine hI.fin (G' := G') (fun n2 a2 hS2 => ?_) (fun q u hu hq => R_drop_o hS c1 c2 ?_ ?_ (fun z => by omega)) (fun i hi => ⟨R_drop_i (by omega) (by omega), R_drop_l (by omega)⟩) hl (R_drop_o hS c1 c2 rfl (by omega) (fun _ => by omega)) ⟨r2, by omega⟩ (fun q j hq => R_drop_o hS c1 c2 ?_ ?_ (fun _ => ?_)) (fun q j hq => R_drop_l ?_)
  · obtain ⟨e1, e2⟩ := hS.uniq hS2
    rw [e1, e2]
    exact r1
  · simp only [List.mem_cons, List.not_mem_nil, or_false] at hq
    rcases hq with rfl | rfl | rfl | rfl | rfl | rfl | rfl | rfl | rfl | rfl | rfl | rfl | rfl <;> rfl
  · simp only [List.mem_cons, List.not_mem_nil, or_false] at hq
    omega
  · simp only [List.mem_cons, List.not_mem_nil, or_false] at hq
    rcases hq with rfl | rfl | rfl | rfl | rfl <;> rfl
  · simp only [List.mem_cons, List.not_mem_nil, or_false] at hq
    omega
  · simp only [List.mem_cons, List.not_mem_nil, or_false] at hq
    omega
  · simp only [List.mem_cons, List.not_mem_nil, or_false] at hq
    omega
theorem pair_gone (hk : k ≤ 512) (hR : Rel th B b xl σ f A G T) (hI : PI (fN f) G k) (h1 : σ.2.1 + 2 * ngr A B 8 ≤ B + 118 + 100 * k) (h2 : σ.2.2 + 2600 * ngr A B 8 ≤ 81000 + 13000 * k) (hQ : KQ f) : lawp_7 th b B (B + 39) xl σ (Inv th B b xl (k + 1)) := by
  intro v
  have hI0 := hI.un
  obtain ⟨n, a, hS, x, hx, hx1, hx2⟩ := hI0.ps
  obtain ⟨f0, hf0⟩ : ∃ f0, f0 = rf_ui f 0 0 0 := ⟨_, rfl⟩
  rw [← hf0] at hI0 hS hx
  refine pair_work (w := (R_goneF f0 n a v).1) (f' := (R_goneF f0 n a v).2) rfl hR hI h1 h2 hQ (fun hW => (k_gone (d := 22) (by rw [hf0]; exact hW) hS hx (by omega)).mp ?_) (fun σ0 => ?_) (fun G' hl => ?_) (fun hq => ?_)
  · rintro r s1 ⟨h3, h4, h5⟩
    exact ⟨h3, A, T, h4, h5.kr⟩
  · rw [hf0]
    exact r_gone (d := 20) (by rw [← hf0]; exact hS)
  · unfold R_goneF at hl ⊢
    by_cases hv : (1 ≤ v ∧ v ≤ 8) ∧ ¬ f0.1 26 v.toNatClampNeg = 0
    · obtain ⟨q, hq, hvq⟩ := i32_18 hv.1
      rw [if_pos hv, i32_nat hvq] at hl ⊢
      exact hI0.drop hS hk (by omega) (by omega) hl
    · rw [if_neg hv] at hl ⊢
      exact hI0.same hl
  · rw [← hf0] at hq
    unfold R_goneF
    by_cases hv : (1 ≤ v ∧ v ≤ 8) ∧ ¬ f0.1 26 v.toNatClampNeg = 0
    · obtain ⟨c, hc, hvc⟩ := i32_18 hv.1
      rw [if_pos hv, i32_nat hvc]
      exact hq.of (fun q j hq' => R_drop_o hS (by omega) (by omega) (by rcases hq' with rfl | rfl | rfl | rfl <;> rfl) (by omega) (fun _ => by omega))
    · rw [if_neg hv]; exact hq
end JxGone
