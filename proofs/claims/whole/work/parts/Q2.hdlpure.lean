/-! WHAT A MESSAGE LEAVES, together -/
/-- the rows of SESSIONS, KEPT ANSWERS and PEERS -/
def RO (f : jx_F) : Prop := (∃ mm : Nat, (f.1 40 0).toInt = (mm : Int) ∧ mm ≤ 16 ∧ ∀ k, k < mm → ∃ N : Nat, (f.1 41 (41 * k)).toInt = (N : Int) ∧ N ≤ 40) ∧ (∃ n0 : Nat, R_kok f n0) ∧ (∀ p : Nat, (p : Int) < (f.1 7 0).toInt → ∃ N : Nat, (f.1 9 p).toInt = (N : Int) ∧ N ≤ 40) ∧ (f.1 35 0).toInt ≤ 16
section JxHdlpure
variable {th : Nat → Nat} {B b n a x h L p q bb n0 nk : Nat} {xl : List Int32} {σ : jx_S} {f f2 g F : jx_F} {A : Nat → Nat → Nat} {G : Nat → Nat → Int32} {T : Nat → Nat} {o : Nat → Int32} {cv : Int32}
theorem RelC.ro (hR : RelC th B b xl σ f A G T) : RO f := by
  obtain ⟨mm, m1, m2, -, -, hse⟩ := id hR.2.2.2.2.2.2.2
  obtain ⟨kn, k1, k2, -, -, hke⟩ := id hR.2.2.2.2.2.1
  obtain ⟨np, p1, p2, -, hpe⟩ := id hR.2.2.2.1
  obtain ⟨x, x1, x2, -⟩ := id hR.2.2.2.2.2.2.1
  refine ⟨⟨mm, m1, m2, fun k hk => ?_⟩, ⟨kn, k1, k2, fun k hk => ?_⟩, fun p hp => ?_, by omega⟩
  · obtain ⟨-, -, -, -, ⟨N, hN, hN4, -⟩, -⟩ := hse k hk
    exact ⟨N, hN, hN4⟩
  · obtain ⟨-, -, -, ⟨N, hN, hN4, -⟩, nw, w, -, y1, y2, y3, -⟩ := hke k hk
    exact ⟨⟨4 * nw, y3, by omega⟩, N, hN, hN4⟩
  · obtain ⟨-, -, ⟨N, hN, hN4, -⟩, -⟩ := hpe p (by omega)
    exact ⟨N, hN, hN4⟩
theorem RO.eq (h : RO f) (o : ∀ u j, u = 40 ∨ u = 41 ∨ u = 59 ∨ u = 61 ∨ u = 62 ∨ u = 7 ∨ u = 9 ∨ u = 35 → F.1 u j = f.1 u j) : RO F := by
  obtain ⟨⟨mm, m1, m2, m3⟩, ⟨kn, k1, k2, k3⟩, h3, h4⟩ := h
  refine ⟨⟨mm, by rw [o 40 0 (by omega)]; exact m1, m2, fun k hk => by rw [o 41 _ (by omega)]; exact m3 k hk⟩, ⟨kn, by rw [o 59 0 (by omega)]; exact k1, k2, fun k hk => by rw [o 61 k (by omega), o 62 _ (by omega)]; exact k3 k hk⟩, fun p hp => by rw [o 9 p (by omega)]; exact h3 p (by rw [o 7 0 (by omega)] at hp; exact hp), by rw [o 35 0 (by omega)]; exact h4⟩
theorem kok_stale : ∀ (n0 : Nat) (f : jx_F), R_kok f n0 → ∃ nk, R_kok (R_stale n0 f) nk
  | 0, f, h => ⟨0, h⟩
  | n0 + 1, f, h => by
    unfold R_stale
    split
    · refine kok_stale n0 _ ⟨by rw [R_oldest_59]; exact i32_59 h.1, by have := h.2.1; omega, fun k hk => ?_⟩
      obtain ⟨⟨N, hN, hN3⟩, M, hM, hM4⟩ := h.2.2 (k + 1) (by omega)
      refine ⟨⟨N, by rw [R_oldest_6 (Or.inl rfl) (by omega)]; exact hN, hN3⟩, M, ?_, hM4⟩
      rw [R_oldest_62 (by omega), show 41 * k + 41 = 41 * (k + 1) by omega, nar_s hM (by omega)]
      exact hM
    · exact ⟨n0 + 1, h⟩
theorem R_cok.eqx {f' : jx_F} {mm : Nat} (h : R_cok f bb n mm) (ho : ∀ q j, q = 35 ∨ q = 40 ∨ q = 41 ∨ q = 44 ∨ (67 ≤ q ∧ q ≤ 84) → f'.1 q j = f.1 q j) : R_cok f' bb n mm := by
  obtain ⟨h1, h2, h3, h4, h5, h6, ⟨S, h7, h7'⟩, h8, t0, t1, t2, n5, n6, n8, u83, u84, h9⟩ := h
  refine ⟨by rw [ho _ _ (by omega)]; exact h1, fun z => ?_, by rw [ho _ _ (by omega)]; exact h3, h4, by rw [ho _ _ (by omega)]; exact h5, h6, ⟨S, by rw [ho _ _ (by omega), ho _ _ (by omega)]; exact h7, by rw [ho _ _ (by omega)]; exact h7'⟩, fun k hk => by rw [ho _ _ (by omega)]; exact h8 k hk, tok_eq t0 (ho _ _ (by omega)) (ho _ _ (by omega)) (ho _ _ (by omega)), tok_eq t1 (ho _ _ (by omega)) (ho _ _ (by omega)) (ho _ _ (by omega)), tok_eq t2 (ho _ _ (by omega)) (ho _ _ (by omega)) (ho _ _ (by omega)), nok_eq n5 (ho _ _ (by omega)) (ho _ _ (by omega)), nok_eq n6 (ho _ _ (by omega)) (ho _ _ (by omega)), fun z => nok_eq (n8 (by rw [ho _ _ (by omega)] at z; exact z)) (ho _ _ (by omega)) (ho _ _ (by omega)), uok_eq u83 (ho _ _ (by omega)) (ho _ _ (by omega)), uok_eq u84 (ho _ _ (by omega)) (ho _ _ (by omega)), fun s hs => by rw [ho _ _ (by omega)]; exact h9 s hs⟩
  rw [ho _ _ (by omega)] at z ⊢
  rw [ho _ _ (by omega)]
  exact h2 z
theorem MV.hdl (hV : MV n a x g) (hRO : RO g) (hL : LK o L bb f2 g) (ho : o = oct f2 bb) (hb : bb ≤ 4800) (hL6 : L ≤ 600) (hq : q < 8) (hcv : cv.toInt = ((q + 1 : Nat) : Int)) (h26 : g.1 26 (q + 1) = 2) (h34 : (g.1 34 0).toInt = (h : Int)) (hh : h < 2147480000) : MV n a x (R_hdl g n a (q + 1) cv) ∧ FM n a x g (R_hdl g n a (q + 1) cv) ∧ (g.1 34 0).toInt ≤ ((R_hdl g n a (q + 1) cv).1 34 0).toInt ∧ ((R_hdl g n a (q + 1) cv).1 34 0).toInt ≤ (g.1 34 0).toInt + 70 := by
  have fin : ∀ (e : Nat) (F : jx_F), e ≤ 70 → SM n a e g F → MV n a x F ∧ FM n a x g F ∧ (g.1 34 0).toInt ≤ (F.1 34 0).toInt ∧ (F.1 34 0).toInt ≤ (g.1 34 0).toInt + 70 := fun e F he hs => ⟨hV.sm hs, hs.2.1.fm, hs.2.2.1, by have := hs.2.2.2; omega⟩
  have hS := hV.1
  have hn4 := hS.1.2.2.1
  have sk := (SE.sok hL hb).1
  unfold R_hdl
  by_cases h27 : g.1 27 (q + 1) = 0
  · rw [if_pos h27]
    exact fin 65 _ (by omega) (SM.str hS sk (by omega) (by omega) hcv h27 h26 h34 (by omega))
  rw [if_neg h27]
  obtain ⟨p, hp, h27p⟩ := hS.peerOf (c := q + 1) (by omega) (by omega) h27
  have ep : R_pp g (q + 1) = p := by
    unfold R_pp
    rw [h27p, i32_nat (n := p + 1) (i32_ofNat (by omega))]
    omega
  rw [ep]
  by_cases e7 : g.1 11 p = 7
  · rw [if_pos e7]
    exact fin 64 _ (by omega) (SM.edg hS hp h34 (by omega))
  rw [if_neg e7]
  by_cases hop : g.1 11 p = 5 ∨ g.1 11 p = 6
  · rw [if_pos hop]
    have S4 := SM.hm hS hp hop
    have V4 := hV.sm S4
    by_cases hm1 : (R_hm g p).1 = true
    · rw [if_pos hm1]
      obtain ⟨g4, hg4⟩ : ∃ g4, g4 = (R_hm g p).2 := ⟨_, rfl⟩
      have o4 : ∀ u j, ¬ ((u = 15 ∨ u = 16 ∨ u = 17 ∨ u = 19) ∧ j = p) → u ≠ 2 → g4.1 u j = g.1 u j := fun u j z1 z2 => by rw [hg4]; exact hm_o z1 z2
      rw [← hg4] at S4 V4 ⊢
      have sk4 : R_sok g4 := by
        unfold R_sok at sk ⊢
        rw [o4 79 0 (by omega) (by omega), o4 67 0 (by omega) (by omega), o4 77 0 (by omega) (by omega), o4 78 0 (by omega) (by omega)]
        exact sk
      have h344 : (g4.1 34 0).toInt = (h : Int) := by rw [o4 34 0 (by omega) (by omega)]; exact h34
      have fin4 : ∀ (e : Nat) (F : jx_F), e ≤ 70 → SM n a e g4 F → MV n a x F ∧ FM n a x g F ∧ (g.1 34 0).toInt ≤ (F.1 34 0).toInt ∧ (F.1 34 0).toInt ≤ (g.1 34 0).toInt + 70 := fun e F he hs => fin (0 + e) F (by omega) (S4.tr hs)
      unfold R_oo
      by_cases er : g4.1 69 0 &&& 128 = 0
      · rw [if_pos er]
        exact fin4 0 _ (by omega) (SM.ta S4.1 a 0 (by omega))
      rw [if_neg er]
      have er' : ¬ ob o 4 &&& 128 = 0 := by rw [o4 69 0 (by omega) (by omega), hL.h69] at er; exact er
      unfold R_req
      by_cases e74 : 0 < g4.1 74 0
      · rw [if_pos e74]
        exact fin4 0 _ (by omega) (SM.refuse S4.1 sk4 hcv (by omega))
      rw [if_neg e74]
      by_cases c1 : g4.1 70 0 = 257
      · rw [if_pos c1]
        exact fin4 0 _ (by omega) (SM.ansW S4.1 sk4 hcv (by omega))
      rw [if_neg c1]
      by_cases c2 : g4.1 70 0 = 280
      · rw [if_pos c2]
        exact fin4 0 _ (by omega) (SM.ansW S4.1 sk4 hcv (by omega))
      rw [if_neg c2]
      by_cases c3 : g4.1 70 0 = 272
      · rw [if_pos c3]
        have w0 : g.1 74 0 = 0 := by
          have e := (hL.wq er').1
          rw [o4 74 0 (by omega) (by omega), e] at e74
          rw [e]
          rcases wr_in (o := o) (L := L) with y | y
          · exact y
          · exact absurd y e74
        have w3c : w3 o 5 = 272 := by rw [← hL.h70, ← o4 70 0 (by omega) (by omega)]; exact c3
        have hC := hL.crm w0 hb hL6 ho er' w3c
        obtain ⟨⟨mm, m40, m16, m41⟩, ⟨n0, hkk⟩, -, x16⟩ := hRO
        obtain ⟨-, hMI, -, h35, -⟩ := id hV
        obtain ⟨⟨x', mm', e1, e2, h44, -⟩, -, -⟩ := id hMI
        have ex : x' = x := by omega
        have em : mm' = mm := by omega
        rw [ex, em] at h44
        have hcf := hL.crf w0 hb hL6 ho hC h35 (by omega) m40 m16 m41 (fun s hs => by obtain ⟨i, i1, i2, -⟩ := h44 s hs; exact ⟨i, i1, i2⟩)
        have kk4 : R_kok g4 n0 := ⟨by rw [o4 59 0 (by omega) (by omega)]; exact hkk.1, hkk.2.1, fun k hk => by rw [o4 61 k (by omega) (by omega), o4 62 _ (by omega) (by omega)]; exact hkk.2.2 k hk⟩
        obtain ⟨nk, hkk'⟩ := kok_stale n0 g4 kk4
        have eC : R_cf g4 cv p = R_crd g4 x mm n0 nk cv (Int32.ofNat p) := by
          unfold R_cf
          rw [i32_nat (n := x) (by rw [o4 35 0 (by omega) (by omega)]; exact h35), i32_nat (n := mm) (by rw [o4 40 0 (by omega) (by omega)]; exact m40), i32_nat kk4.1, i32_nat hkk'.1]
        rw [eC]
        obtain ⟨y1, y2, y3⟩ := MV.crd (pv := Int32.ofNat p) (cv := cv) (c := q + 1) (k := bb) V4 (by rw [o4 40 0 (by omega) (by omega)]; exact m40) kk4.1 hkk'.1 (hcf.1.eqx (fun u j hu => by rw [R_stale_o (by omega) n0 g4, o4 u j (by omega) (by omega)])) hkk' sk4 hcv (by omega)
        exact ⟨y1, S4.2.1.fm.tr y2, by rw [y3, h344, h34]; exact Int.le_refl _, by rw [y3, h344, h34]; omega⟩
      · rw [if_neg c3]
        have S5 := SM.ansW (res := 2001) S4.1 sk4 hcv (show q + 1 ≤ 8 by omega)
        have S6 := SM.end7 (p := p) (h := h) S5.1 hp (by rw [show (R_ansW g4 cv 2001).1 11 p = g4.1 11 p from R_msg_o (by omega) (by omega) (by omega) (by omega) (by omega), o4 11 p (by omega) (by omega)]; exact hop) (by rw [show (R_ansW g4 cv 2001).1 34 0 = g4.1 34 0 from R_msg_ge]; exact h344) (by omega)
        exact fin4 _ _ (by omega) (S5.tr S6)
    · rw [if_neg hm1]
      exact fin 0 _ (by omega) S4
  rw [if_neg hop]
  by_cases e28 : g.1 28 (q + 1) = 2
  · rw [if_pos e28]
    exact fin 0 _ (by omega) (SM.u2 hS)
  · rw [if_neg e28]
    have e1 : g.1 28 (q + 1) = 1 := by
      rcases hS.cof hp (c := q + 1) (by omega) (by omega) h27p with z | z
      · exact z.1
      · exact absurd z.1 e28
    exact fin 65 _ (by omega) (SM.opn hS hp (by omega) (by omega) h27p e1 h26 hop e7 h34 (by omega))
end JxHdlpure
