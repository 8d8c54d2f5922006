/-! THE REFERENCE: a message -/
section JxRefhdl
variable {th : Nat → Nat} {σ0 : jx_S} {m d n a x h L p q bb : Nat} {f2 g : jx_F} {o : Nat → Int32} {cv : Int32}
theorem nok7 (hL : LK o L bb f2 g) (ho : o = oct f2 bb) (hb : bb ≤ 4800) (hL6 : L ≤ 600) (h0 : g.1 74 0 = 0) : R_nok g 7 := by
  by_cases e : fst o 268 (top o L) = 0
  · obtain ⟨hS, -, hn, -⟩ := hL.si h0
    obtain ⟨-, s2, -⟩ := hS.1 7 (by omega)
    have hfa : fa o (kc 7) (top o L) = 0 := by unfold fa; exact if_pos e
    rw [hfa] at s2
    exact ⟨bb, 0, by rw [hL.h67]; exact i32_ofNat (by omega), by rw [s2]; decide, by omega⟩
  · exact (hL.n4 h0 hb hL6 ho (k := 7) (by omega) (by decide) rfl e).2.1
theorem host_ok (hL : LK o L bb f2 g) (ho : o = oct f2 bb) (hb : bb ≤ 4800) (hL6 : L ≤ 600) (h0 : g.1 74 0 = 0) : (g.1 67 0 + g.1 77 1).toInt = (R_hS g : Int) ∧ R_hS g + (g.1 78 1).toNatClampNeg ≤ 5400 := by
  have hp0 := hL.has h0 264 mus_h.1
  obtain ⟨t1, t2, t3, t4, t5, t6, t7, t8⟩ := hL.tx h0 hb hL6 ho (k := 1) (by omega) rfl hp0
  have e : R_hS g = bb + (fst o (kc 1) (top o L) + 8) := i32_nat t1
  rw [e, t2, i32_nat (n := sz o (fst o (kc 1) (top o L)) - 8) (i32_ofNat (by omega))]
  exact ⟨t1, by omega⟩
theorem r_handle (hq : q < 8) (hcv : cv.toInt = ((q + 1 : Nat) : Int)) (hw3 : w3 (oct f2 (600 * (q + 1))) 1 = Int32.ofNat L) (hL6 : L ≤ 600) (hg : g = R_look f2 (600 * (q + 1)) L) (hV2 : MV n a x f2) (hRO2 : RO f2) (h26 : f2.1 26 (q + 1) = 2) (h34 : (f2.1 34 0).toInt = (h : Int)) (hh : h < 2147480000) : rfc th σ0 m (d + 14) 219 [.ref 0, .int cv] f2 (fun r f' => r = none ∧ f' = R_hdl g n a (q + 1) cv) := by
  obtain ⟨o, ho⟩ : ∃ o, o = oct f2 (600 * (q + 1)) := ⟨_, rfl⟩
  have hL : LK o L (600 * (q + 1)) f2 g := by rw [hg]; exact lk_spec ho (fun k hk => hV2.2.2.1.1 k hk) hL6
  obtain ⟨hV, -, e34⟩ := hV2.look hL
  have hRO : RO g := hRO2.eq (fun u j hu => hL.fr u j (by omega))
  have bb8 : 600 * (q + 1) ≤ 4800 := by omega
  obtain ⟨hS, hMI, hKQ, h35, -, n0', h59', h32', hKT⟩ := id hV
  have hn4 := hS.1.2.2.1
  have h7 := hS.1.2.1
  have sk := (SE.sok hL bb8).1
  have g26 : g.1 26 (q + 1) = 2 := by rw [hL.fr 26 _ (by omega)]; exact h26
  have h9 : ∀ p, p < n → ∃ N : Nat, (g.1 9 p).toInt = (N : Int) ∧ N ≤ 40 := fun p hp => hRO.2.2.1 p (by omega)
  have hx := fun h0 => host_ok hL ho bb8 hL6 h0
  have h74 : ¬ g.1 69 0 &&& 128 = 0 → g.1 74 0 = 0 ∨ 0 < g.1 74 0 := fun z => by
    rw [hL.h69] at z
    rw [(hL.wq z).1]
    exact wr_in
  have c27 : ∀ y, 1 ≤ y → y ≤ 8 → ∃ pn : Nat, (g.1 27 y).toInt = (pn : Int) ∧ pn ≤ 4 := fun y y1 y2 => by
    obtain ⟨-, pn, -, -, ⟨t2, t2'⟩, -⟩ := hS.2.1 y y1 y2
    exact ⟨pn, t2, by omega⟩
  refine rf_go dt_219 90 [(67, [0, 1, 2])] dt_219_k (by decide +kernel) rfl ?_
  intro C J hC hJ
  conv => whnf
  refine hC _ _ _ _ (((r_look (d := d) hcv (by omega) hw3 hL6).up (by omega)).mp ?_)
  rintro r g1 ⟨rfl, hg1⟩
  rw [← hg] at hg1
  rw [hg1]
  conv => whnf
  refine ⟨jx_in_nat hcv (show q + 1 < 9 by omega), ?_⟩
  conv => whnf
  rw [i32_nat hcv]
  unfold R_hdl
  by_cases h27 : g.1 27 (q + 1) = 0
  · rw [if_pos h27, h27]
    refine jx_no (show ¬ (0 : Int32) ≤ 0 - 1 by decide) ?_
    conv => whnf
    refine hC _ _ _ _ (((r_strange (d := d) (c := q + 1) hS.1 sk hcv (by omega) (by omega) c27 (fun p hp h2 h0 h1 => ?_) hx h9 h74).up (by omega)).mp ?_)
    · obtain ⟨st, o', kk, u, ⟨t11, t11'⟩, ⟨t13, t13'⟩, -, -, -, -, -, -, q9, -⟩ := hS.2.2.1 p hp
      have f11 : g.1 11 p = Int32.ofNat st := i32_eq t11 (by omega)
      have st2 : st = 2 := by
        rw [f11, Int32.lt_iff_toInt_lt, i32_ofNat (by omega), show (2 : Int32).toInt = 2 by decide] at h2
        rcases (show st = 0 ∨ st = 1 ∨ st = 2 by omega) with z | z | z
        · exact absurd (by rw [f11, z]; rfl) h0
        · exact absurd (by rw [f11, z]; rfl) h1
        · exact z
      have := (q9 st2).1
      exact fun z => this ((i32_z t13).mp z)
    · rintro r g2 ⟨rfl, hg2⟩
      conv => whnf
      exact ⟨rfl, hg2⟩
  · rw [if_neg h27]
    obtain ⟨p, hp, h27p⟩ := hS.peerOf (c := q + 1) (by omega) (by omega) h27
    have ep : R_pp g (q + 1) = p := by
      unfold R_pp
      rw [h27p, i32_nat (n := p + 1) (i32_ofNat (by omega))]
      omega
    have e1 : (fun x y : Int32 => x - y) (g.1 27 (q + 1)) 1 = Int32.ofNat p := by
      show g.1 27 (q + 1) - 1 = Int32.ofNat p
      rw [h27p]
      exact Int32.toInt_inj.mp (by rw [i32_sub (i32_ofNat (n := p + 1) (by omega)) (c := 1) (by decide) (by omega) (by omega), i32_ofNat (by omega)]; omega)
    have hpi : (Int32.ofNat p).toInt = (p : Int) := i32_ofNat (by omega)
    rw [ep]
    refine ⟨fun _ => ?_, fun (z : ¬ 0 ≤ (fun x y : Int32 => x - y) (g.1 27 (q + 1)) 1) => absurd (by rw [e1, Int32.le_iff_toInt_le, hpi]; exact Int.natCast_nonneg p) z⟩
    conv => whnf
    rw [e1]
    refine ⟨jx_in_nat hpi (show p < 4 by omega), ?_⟩
    conv => whnf
    rw [i32_nat hpi]
    refine ⟨fun (e7 : ¬ g.1 11 p = 7) => ?_, fun (e7 : ¬ ¬ g.1 11 p = 7) => ?_⟩
    rotate_left
    · rw [if_pos (Decidable.not_not.mp e7)]
      conv => whnf
      refine hC _ _ _ _ (((r_ending (d := d) hS hp hpi).up (by omega)).mp ?_)
      rintro r g2 ⟨rfl, hg2⟩
      conv => whnf
      exact ⟨rfl, hg2⟩
    rw [if_neg e7]
    have work : R_open (g.1 11 p) → jx_fj th (rf_g m) (rf σ0 m) (d + 13) 219 67 [(0, .ref 0), (1, .int cv), (2, .int (Int32.ofNat p))] [] g (fun r f' => r = none ∧ f' = if (R_hm g p).1 = true then R_oo (R_hm g p).2 n a p cv (R_cf (R_hm g p).2 cv p) else (R_hm g p).2) := by
      intro hop
      have S4 := SM.hm hS hp hop
      obtain ⟨u, u1, u2, u3, -⟩ := hS.p1 hp
      have u3' := u3.mpr hop
      have h15 : g.1 15 p = 1 ∨ g.1 15 p = 2 ∨ g.1 15 p = 4 := by
        rw [i32_eq u1 (by omega)]
        rcases u3' with z | z | z <;> rw [z]
        · exact Or.inl rfl
        · exact Or.inr (Or.inl rfl)
        · exact Or.inr (Or.inr rfl)
      obtain ⟨g4, hg4⟩ : ∃ g4, g4 = (R_hm g p).2 := ⟨_, rfl⟩
      have o4 : ∀ u j, ¬ ((u = 15 ∨ u = 16 ∨ u = 17 ∨ u = 19) ∧ j = p) → u ≠ 2 → g4.1 u j = g.1 u j := fun u j z1 z2 => by rw [hg4]; exact hm_o z1 z2
      have sk4 : R_sok g4 := by
        unfold R_sok at sk ⊢
        rw [o4 79 0 (by omega) (by omega), o4 67 0 (by omega) (by omega), o4 77 0 (by omega) (by omega), o4 78 0 (by omega) (by omega)]
        exact sk
      have eA : R_atw g a p cv (R_req g4 n a p cv (R_cf g4 cv p)) = if (R_hm g p).1 = true then R_oo g4 n a p cv (R_cf g4 cv p) else g4 := by
        unfold R_atw R_oo
        rw [← hg4, o4 69 0 (by omega) (by omega)]
      rw [← hg4] at S4 ⊢
      refine rf_at dt_219 40 [] dt_219_k (by decide +kernel) ?_
      intro C J hC hJ
      conv => whnf
      refine hC _ _ _ _ ((r_atWork (d := d) (X := R_req g4 n a p cv (R_cf g4 cv p)) (by omega) rfl hS.1.2.2.2.1 hS.1.2.2.2.2.1 h15 (fun h0 => nok7 hL ho bb8 hL6 h0) (fun hm1 hr => ?_)).mp ?_)
      · rw [← hg4]
        refine (r_request (d := d) (c := q + 1) S4.1.1 sk4 (by omega) rfl hcv (by omega) (ansW_gok S4.1.1 sk4 hcv (by omega)) (fun h0 h272 => ?_)).up (by omega)
        have er' : ¬ ob o 4 &&& 128 = 0 := by rw [hL.h69] at hr; exact hr
        have w0 : g.1 74 0 = 0 := by
          have e := (hL.wq er').1
          rw [o4 74 0 (by omega) (by omega), e] at h0
          rw [e]
          rcases wr_in (o := o) (L := L) with y | y
          · exact y
          · exact absurd y h0
        have w3c : w3 o 5 = 272 := by rw [← hL.h70, ← o4 70 0 (by omega) (by omega)]; exact h272
        have hCm := hL.crm w0 bb8 hL6 ho er' w3c
        obtain ⟨⟨mm, m40, m16, m41⟩, ⟨n0, hkk⟩, -, x16⟩ := hRO
        obtain ⟨⟨x', mm', e1', e2', h44, -⟩, -, -⟩ := id hMI
        have ex : x' = x := by omega
        have em : mm' = mm := by omega
        rw [ex, em] at h44
        have hcf := hL.crf w0 bb8 hL6 ho hCm h35 (by omega) m40 m16 m41 (fun s hs => by obtain ⟨i, i1, i2, -⟩ := h44 s hs; exact ⟨i, i1, i2⟩)
        have kk4 : R_kok g4 n0 := ⟨by rw [o4 59 0 (by omega) (by omega)]; exact hkk.1, hkk.2.1, fun k hk => by rw [o4 61 k (by omega) (by omega), o4 62 _ (by omega) (by omega)]; exact hkk.2.2 k hk⟩
        obtain ⟨nk, hkk'⟩ := kok_stale n0 g4 kk4
        have eC : R_cf g4 cv p = R_crd g4 x mm n0 nk cv (Int32.ofNat p) := by
          unfold R_cf
          rw [i32_nat (n := x) (by rw [o4 35 0 (by omega) (by omega)]; exact h35), i32_nat (n := mm) (by rw [o4 40 0 (by omega) (by omega)]; exact m40), i32_nat kk4.1, i32_nat hkk'.1]
        rw [eC]
        have os : ∀ u j, ¬ (59 ≤ u ∧ u ≤ 64) → (R_stale n0 g4).1 u j = g4.1 u j := fun u j z => R_stale_o z n0 g4
        refine (r_credit (d := d) (c := q + 1) kk4.1 kk4.2.1 rfl hkk' (S4.1.1.1.of (os _ _ (by omega)) (fun c => os _ _ (by omega)) (fun c => os _ _ (by omega))) ?_ (hcf.1.eqx (fun u j hu => by rw [os u j (by omega), o4 u j (by omega) (by omega)])) hcv (by omega)).up (by omega)
        unfold R_sok at sk4 ⊢
        rw [os 79 0 (by omega), os 67 0 (by omega), os 77 0 (by omega), os 78 0 (by omega)]
        exact sk4
      · rintro r g2 ⟨rfl, hg2⟩
        conv => whnf
        exact ⟨rfl, by rw [hg2, eA]⟩
    by_cases hop : g.1 11 p = 5 ∨ g.1 11 p = 6
    · rw [if_pos hop]
      have eH : R_hdl g n a (q + 1) cv = if (R_hm g p).1 = true then R_oo (R_hm g p).2 n a p cv (R_cf (R_hm g p).2 cv p) else (R_hm g p).2 := by
        unfold R_hdl
        rw [if_neg h27, ep, if_neg e7, if_pos hop]
      rw [eH] at hJ
      have t := work hop
      conv => whnf
      refine ⟨jx_in_nat hpi (show p < 4 by omega), ?_⟩
      conv => whnf
      rw [i32_nat hpi]
      refine ⟨fun (e5 : g.1 11 p = 5) => ?_, fun (e5 : ¬ g.1 11 p = 5) => ?_⟩
      · conv => whnf
        exact hJ _ _ _ _ t
      · conv => whnf
        refine ⟨jx_in_nat hpi (show p < 4 by omega), ?_⟩
        conv => whnf
        rw [i32_nat hpi]
        refine jx_no (show ¬ ¬ g.1 11 p = 6 from fun z => by rcases hop with y | y; exact e5 y; exact z y) ?_
        conv => whnf
        exact hJ _ _ _ _ t
    · rw [if_neg hop]
      conv => whnf
      refine ⟨jx_in_nat hpi (show p < 4 by omega), ?_⟩
      conv => whnf
      rw [i32_nat hpi]
      refine jx_no (show ¬ g.1 11 p = 5 from fun z => hop (Or.inl z)) ?_
      conv => whnf
      refine ⟨jx_in_nat hpi (show p < 4 by omega), ?_⟩
      conv => whnf
      rw [i32_nat hpi]
      refine jx_yes (show ¬ g.1 11 p = 6 from fun z => hop (Or.inr z)) ?_
      conv => whnf
      refine ⟨jx_in_nat hcv (show q + 1 < 9 by omega), ?_⟩
      conv => whnf
      rw [i32_nat hcv]
      refine ⟨fun (e28 : ¬ g.1 28 (q + 1) = 2) => ?_, fun (e28 : ¬ ¬ g.1 28 (q + 1) = 2) => ?_⟩
      · rw [if_neg e28]
        conv => whnf
        refine hC _ _ _ _ (((r_opening (d := d) hS hp hpi hcv (by omega) h27p (fun z => ?_) (fun h0 => ⟨nok7 hL ho bb8 hL6 h0, hx h0⟩) (h9 p hp)).up (by omega)).mp ?_)
        · obtain ⟨st, y1, y2, -⟩ := hS.stOf hp (c := q + 1) (by omega) (by omega) h27p
          rw [z, show (0 : Int32).toInt = 0 by decide] at y1
          omega
        · rintro r g2 ⟨rfl, hg2⟩
          conv => whnf
          exact ⟨rfl, hg2⟩
      · rw [if_pos (Decidable.not_not.mp e28)]
        conv => whnf
        exact ⟨rfl, rfl⟩
end JxRefhdl
