/-! WHAT A CREDIT TELLS -/
def C_fin (o : Nat → Int32) (L : Nat) (x y : Int32) : Nat := if fst o x (top o L) = 0 then 0 else fst o y (inr o (fst o x (top o L)))
section JxCredspec
variable {L bb k p0 nA mm q : Nat} {f0 g : jx_F} {o : Nat → Int32} {x y : Int32} {v : Int64}
theorem LK.gw (hL : LK o L bb f0 g) (h0 : g.1 74 0 = 0) (hL6 : L ≤ 600) (hx : kdc x = 5) (hp : fst o x (top o L) ≠ 0) : ∃ k' s1 s2, scs o k' 1 (fst o x (top o L) + 8) (fst o x (top o L) + sz o (fst o x (top o L))) s1 = (none, s2) ∧ sz o (fst o x (top o L)) < k' + 8 ∧ 20 ≤ fst o x (top o L) ∧ 8 ≤ sz o (fst o x (top o L)) ∧ fst o x (top o L) + sz o (fst o x (top o L)) ≤ L := by
  obtain ⟨-, -, hn, -⟩ := hL.si h0
  have hm := fst_mem (o := o) (c := x) (top o L) hp
  obtain ⟨P, hP⟩ : ∃ P, P = fst o x (top o L) := ⟨_, rfl⟩
  rw [← hP] at hm ⊢
  obtain ⟨b1, b2, b3, b4⟩ := tps_in 700 20 L (top_in hn) P hm.1
  obtain ⟨k', s1, s2, e1, e2⟩ := scs_g (o := o) 700 0 20 L 0 (scs o 700 0 20 L 0).2 (Prod.ext hn rfl) (by omega) P hm.1 (by rw [hit_kn hm.2]; exact hx)
  exact ⟨k', s1, s2, e1, e2, b1, b3, b4⟩
theorem LK.gf (hL : LK o L bb f0 g) (h0 : g.1 74 0 = 0) (hL6 : L ≤ 600) (hx : kdc x = 5) (hp : fst o x (top o L) ≠ 0) : wf o (sz o (fst o x (top o L))) (fst o x (top o L) + 8) (fst o x (top o L) + sz o (fst o x (top o L))) := by
  obtain ⟨k', s1, s2, e1, e2, e3, e4, e5⟩ := hL.gw h0 hL6 hx hp
  exact wf_fuel k' _ _ _ (scs_wf k' 1 _ _ s1 s2 e1) (by omega) (by omega)
theorem LK.gq (hL : LK o L bb f0 g) (h0 : g.1 74 0 = 0) (hL6 : L ≤ 600) (hx : kdc x = 5) (hy : kdc y ≠ 0) (hq : q = C_fin o L x y) (hq0 : q ≠ 0) : 20 ≤ q ∧ q + 8 ≤ L ∧ 8 ≤ sz o q ∧ q + sz o q ≤ L ∧ okz (kdc y) (sz o q - 8) = true := by
  unfold C_fin at hq
  by_cases hp : fst o x (top o L) = 0
  · rw [if_pos hp] at hq; exact absurd hq hq0
  rw [if_neg hp] at hq
  have hwf := hL.gf h0 hL6 hx hp
  obtain ⟨k', s1, s2, e1, e2, e3, e4, e5⟩ := hL.gw h0 hL6 hx hp
  have hm := fst_mem (o := o) (c := y) (inr o (fst o x (top o L))) (by rw [← hq]; exact hq0)
  rw [← hq] at hm
  obtain ⟨P, hP⟩ : ∃ P, P = fst o x (top o L) := ⟨_, rfl⟩
  rw [← hP] at hm hwf e1 e2 e3 e4 e5
  obtain ⟨b1, b2, b3, b4⟩ := tps_in (sz o P) (P + 8) (P + sz o P) hwf q hm.1
  have hm2 : q ∈ tps o k' (P + 8) (P + sz o P) := by
    rw [← tps_fuel (sz o P) k' (P + 8) (P + sz o P) hwf (by omega) (by omega)]
    exact hm.1
  have := scs_k (o := o) k' 1 (P + 8) (P + sz o P) s1 s2 e1 (by omega) q hm2 (by rw [hit_kn hm.2]; exact hy)
  rw [hit_kn hm.2] at this
  exact ⟨by omega, by omega, b3, by omega, this⟩
theorem gp_fin : gp o x y (top o L) = if C_fin o L x y = 0 then 0 else C_fin o L x y + 8 := by
  unfold gp C_fin fa
  by_cases h : fst o x (top o L) = 0
  · rw [if_pos h, if_pos h, if_pos rfl]
  · rw [if_neg h, if_neg h]
theorem okz1 {n : Nat} (h : okz 1 n = true) : 1 ≤ n ∧ n ≤ 40 := by
  unfold okz at h
  rw [if_pos rfl] at h
  exact decide_eq_true_iff.mp h
theorem okz3 {n : Nat} (h : okz 3 n = true) : n = 8 := by
  unfold okz at h
  rw [if_neg (by decide), if_neg (by decide), if_pos rfl] at h
  exact decide_eq_true_iff.mp h
theorem LK.u16 (hL : LK o L bb f0 g) (h0 : g.1 74 0 = 0) (hL6 : L ≤ 600) (hx : kdc x = 5) (hq0 : C_fin o L x 421 ≠ 0) : C_fin o L x 421 + 16 ≤ L := by
  obtain ⟨a1, a2, a3, a4, a5⟩ := hL.gq (y := 421) h0 hL6 hx (by decide) rfl hq0
  have := okz3 a5
  omega
/-- what a CREDIT has -/
def CRM (o : Nat → Int32) (L : Nat) : Prop := (∀ x, x = 263 ∨ x = 264 ∨ x = 296 → fst o x (top o L) ≠ 0 ∧ 20 ≤ fst o x (top o L) ∧ 9 ≤ sz o (fst o x (top o L)) ∧ sz o (fst o x (top o L)) ≤ 48 ∧ fst o x (top o L) + sz o (fst o x (top o L)) ≤ L) ∧ (∀ x, x = 416 ∨ x = 415 → fst o x (top o L) ≠ 0 ∧ fst o x (top o L) + 12 ≤ L) ∧ (fst o 436 (top o L) ≠ 0 → fst o 436 (top o L) + 12 ≤ L)
theorem mus_cr (hr : ¬ ob o 4 &&& 128 = 0) (hc : w3 o 5 = 272) : ∀ x, x = 263 ∨ x = 264 ∨ x = 296 ∨ x = 416 ∨ x = 415 → x ∈ mus o := by
  unfold mus
  rw [if_neg hr, hc]
  rintro x (rfl | rfl | rfl | rfl | rfl) <;> decide
theorem LK.crm (hL : LK o L bb f0 g) (h0 : g.1 74 0 = 0) (hb : bb ≤ 4800) (hL6 : L ≤ 600) (ho : o = oct f0 bb) (hr : ¬ ob o 4 &&& 128 = 0) (hc : w3 o 5 = 272) : CRM o L := by
  have hm := mus_cr hr hc
  have tx : ∀ k, k < 12 → kdc (kc k) = 1 → kc k ∈ mus o → fst o (kc k) (top o L) ≠ 0 ∧ 20 ≤ fst o (kc k) (top o L) ∧ 9 ≤ sz o (fst o (kc k) (top o L)) ∧ sz o (fst o (kc k) (top o L)) ≤ 48 ∧ fst o (kc k) (top o L) + sz o (fst o (kc k) (top o L)) ≤ L := by
    intro k hk h1 hmu
    have hp0 := hL.has h0 _ hmu
    obtain ⟨t1, t2, t3, t4, t5, t6, t7, t8⟩ := hL.tx h0 hb hL6 ho hk rfl hp0
    rw [h1] at t8
    have := okz1 t8
    exact ⟨hp0, t3, by omega, by omega, t6⟩
  have nx : ∀ k, k < 12 → kdc (kc k) = 2 → fst o (kc k) (top o L) ≠ 0 → fst o (kc k) (top o L) + 12 ≤ L := fun k hk h1 hp0 => (hL.n4 h0 hb hL6 ho hk h1 rfl hp0).1
  refine ⟨?_, ?_, fun h => nx 8 (by omega) (by decide) h⟩
  · rintro x (rfl | rfl | rfl)
    · exact tx 0 (by omega) (by decide) (hm _ (by decide))
    · exact tx 1 (by omega) (by decide) (hm _ (by decide))
    · exact tx 2 (by omega) (by decide) (hm _ (by decide))
  · rintro x (rfl | rfl)
    · have := hL.has h0 _ (hm 416 (by decide))
      exact ⟨this, nx 5 (by omega) (by decide) this⟩
    · have := hL.has h0 _ (hm 415 (by decide))
      exact ⟨this, nx 6 (by omega) (by decide) this⟩
theorem LK.tok (hL : LK o L bb f0 g) (h0 : g.1 74 0 = 0) (hb : bb ≤ 4800) (hL6 : L ≤ 600) (ho : o = oct f0 bb) (hC : CRM o L) (hk : k < 3) : (g.1 67 0 + g.1 77 k).toInt = ((bb + (fst o (kc k) (top o L) + 8) : Nat) : Int) ∧ (g.1 78 k).toInt = ((sz o (fst o (kc k) (top o L)) - 8 : Nat) : Int) ∧ R_tok g k := by
  have h3 : kc k = 263 ∨ kc k = 264 ∨ kc k = 296 := by
    rcases (show k = 0 ∨ k = 1 ∨ k = 2 by omega) with rfl | rfl | rfl <;> decide
  obtain ⟨c1, c2, c3, c4, c5⟩ := hC.1 _ h3
  obtain ⟨t1, t2, t3, t4, t5, t6, t7, t8⟩ := hL.tx h0 hb hL6 ho (show k < 12 by omega) rfl c1
  have e2 : (g.1 78 k).toInt = ((sz o (fst o (kc k) (top o L)) - 8 : Nat) : Int) := by rw [t2]; exact i32_ofNat (by omega)
  exact ⟨t1, e2, bb + (fst o (kc k) (top o L) + 8), _, t1, e2, by omega, by omega⟩
theorem LK.uok (hL : LK o L bb f0 g) (h0 : g.1 74 0 = 0) (hb : bb ≤ 4800) (hL6 : L ≤ 600) (ho : o = oct f0 bb) (hx : kdc x = 5) (he : g.1 k 0 = Int32.ofNat (gp o x 421 (top o L))) : R_uok g k ∧ R_un g k v = if C_fin o L x 421 = 0 then v else w8 o (C_fin o L x 421 + 8) := by
  have e67 : (g.1 67 0).toInt = (bb : Int) := by rw [hL.h67]; exact i32_ofNat (by omega)
  rw [gp_fin] at he
  unfold R_uok R_un
  by_cases hq : C_fin o L x 421 = 0
  · rw [if_pos hq] at he
    have e0 : g.1 k 0 = 0 := he
    rw [if_pos hq, if_pos e0]
    exact ⟨fun z => absurd e0 z, rfl⟩
  · rw [if_neg hq] at he
    have := hL.u16 h0 hL6 hx hq
    have ek : (g.1 k 0).toInt = ((C_fin o L x 421 + 8 : Nat) : Int) := by rw [he]; exact i32_ofNat (by omega)
    have n0 : ¬ g.1 k 0 = 0 := by rw [he]; exact ofN_ne (by omega) (by omega)
    rw [if_neg hq, if_neg n0]
    refine ⟨fun _ => ⟨bb, _, e67, ek, by omega⟩, ?_⟩
    rw [i32_nat e67, i32_nat ek, hL.og ho]
theorem LK.who (hL : LK o L bb f0 g) (h0 : g.1 74 0 = 0) (hb : bb ≤ 4800) (hL6 : L ≤ 600) (ho : o = oct f0 bb) : (¬ g.1 81 0 = 0 → ∃ x N : Nat, (g.1 81 0).toInt = (x : Int) ∧ (g.1 82 0).toInt = (N : Int) ∧ bb + x + N ≤ 5400) ∧ R_who g = acc o (C_fin o L 443 444) := by
  have e67 : (g.1 67 0).toInt = (bb : Int) := by rw [hL.h67]; exact i32_ofNat (by omega)
  obtain ⟨hS, -, hn, -⟩ := hL.si h0
  obtain ⟨-, -, s81, s82, -, -⟩ := hS
  rw [gp_fin] at s81 s82
  unfold R_who acc
  by_cases hq : C_fin o L 443 444 = 0
  · rw [if_pos hq] at s81
    have e0 : g.1 81 0 = 0 := s81
    rw [if_pos (Or.inl e0), if_pos (Or.inl hq)]
    exact ⟨fun z => absurd e0 z, rfl⟩
  · rw [if_neg hq] at s81 s82
    obtain ⟨a1, a2, a3, a4, a5⟩ := hL.gq (x := 443) (y := 444) h0 hL6 (by decide) (by decide) rfl hq
    obtain ⟨Q, hQ⟩ : ∃ Q, Q = C_fin o L 443 444 := ⟨_, rfl⟩
    rw [← hQ] at hq s81 s82 a1 a2 a3 a4 a5 ⊢
    have s82 := s82 (by omega)
    rw [show Q + 8 - 8 = Q by omega] at s82
    have o1 := okz1 (show okz 1 (sz o Q - 8) = true from a5)
    have e81 : (g.1 81 0).toInt = ((Q + 8 : Nat) : Int) := by rw [s81]; exact i32_ofNat (by omega)
    have e82 : (g.1 82 0).toInt = ((sz o Q - 8 : Nat) : Int) := by rw [s82]; exact i32_ofNat (by omega)
    have n0 : ¬ g.1 81 0 = 0 := by rw [s81]; exact ofN_ne (by omega) (by omega)
    refine ⟨fun _ => ⟨_, _, e81, e82, by omega⟩, ?_⟩
    have e17 : (17 < g.1 82 0) ↔ 17 < sz o Q - 8 := by
      rw [Int32.lt_iff_toInt_lt, e82, show (17 : Int32).toInt = 17 by decide]
      omega
    by_cases h17 : 17 < sz o Q - 8
    · rw [if_pos (Or.inr (e17.mpr h17)), if_pos (Or.inr h17)]
    · rw [if_neg (fun z => z.elim n0 (fun w => h17 (e17.mp w))), if_neg (fun z => z.elim hq h17), i32_nat e67, i32_nat e81, i32_nat e82, hL.og ho]
/-- the reference's words -/
def CRF (o : Nat → Int32) (L : Nat) (g : jx_F) : Prop := (R_n4 g 5 = w4 o (fst o 416 (top o L) + 8)) ∧ (R_n4 g 6 = w4 o (fst o 415 (top o L) + 8)) ∧ (g.1 79 8 = 0 ↔ fst o 436 (top o L) = 0) ∧ (fst o 436 (top o L) ≠ 0 → R_n4 g 8 = w4 o (fst o 436 (top o L) + 8)) ∧ (∀ v, R_un g 83 v = if C_fin o L 437 421 = 0 then v else w8 o (C_fin o L 437 421 + 8)) ∧ (∀ v, R_un g 84 v = if C_fin o L 446 421 = 0 then v else w8 o (C_fin o L 446 421 + 8)) ∧ R_who g = acc o (C_fin o L 443 444)
theorem LK.crf (hL : LK o L bb f0 g) (h0 : g.1 74 0 = 0) (hb : bb ≤ 4800) (hL6 : L ≤ 600) (ho : o = oct f0 bb) (hC : CRM o L) (h35 : (g.1 35 0).toInt = (nA : Int)) (hA : nA ≤ 16) (h40 : (g.1 40 0).toInt = (mm : Int)) (hm : mm ≤ 16) (h41 : ∀ k, k < mm → ∃ N : Nat, (g.1 41 (41 * k)).toInt = (N : Int) ∧ N ≤ 40) (h44 : ∀ s, s < mm → ∃ i : Nat, (g.1 44 s).toInt = (i : Int) ∧ i < nA) : R_cok g bb nA mm ∧ CRF o L g := by
  have e67 : (g.1 67 0).toInt = (bb : Int) := by rw [hL.h67]; exact i32_ofNat (by omega)
  obtain ⟨hS, -, hn, -⟩ := hL.si h0
  obtain ⟨w1, w2⟩ := hL.who h0 hb hL6 ho
  obtain ⟨a0, b0, t0⟩ := hL.tok h0 hb hL6 ho hC (k := 0) (by omega)
  obtain ⟨-, -, t1⟩ := hL.tok h0 hb hL6 ho hC (k := 1) (by omega)
  obtain ⟨-, -, t2⟩ := hL.tok h0 hb hL6 ho hC (k := 2) (by omega)
  obtain ⟨c5, -⟩ := hC.2.1 416 (Or.inl rfl)
  obtain ⟨c6, -⟩ := hC.2.1 415 (Or.inr rfl)
  obtain ⟨-, n5, v5⟩ := hL.n4 h0 hb hL6 ho (k := 5) (by omega) (by decide) rfl c5
  obtain ⟨-, n6, v6⟩ := hL.n4 h0 hb hL6 ho (k := 6) (by omega) (by decide) rfl c6
  have hz := hS.z (k := 8) (top_0 hn) (top_n hn hL6) (by omega)
  have n8 : fst o 436 (top o L) ≠ 0 → R_nok g 8 ∧ R_n4 g 8 = w4 o (fst o 436 (top o L) + 8) := fun z => (hL.n4 h0 hb hL6 ho (k := 8) (by omega) (by decide) rfl z).2
  have u3 := fun v => hL.uok (k := 83) (x := 437) (v := v) h0 hb hL6 ho (by decide) hS.2.2.2.2.1
  have u4 := fun v => hL.uok (k := 84) (x := 446) (v := v) h0 hb hL6 ho (by decide) hS.2.2.2.2.2
  obtain ⟨d1, d2, d3, d4, d5⟩ := hC.1 263 (Or.inl rfl)
  refine ⟨⟨e67, w1, h35, hA, h40, hm, ⟨_, a0, ?_⟩, h41, t0, t1, t2, n5, n6, fun z => (n8 (fun y => z (hz.mpr y))).1, (u3 0).1, (u4 0).1, h44⟩, v5, v6, hz, fun z => (n8 z).2, fun v => (u3 v).2, fun v => (u4 v).2, w2⟩
  rw [i32_nat b0]
  show bb + (fst o 263 (top o L) + 8) + (sz o (fst o 263 (top o L)) - 8) ≤ 5400
  omega
end JxCredspec
