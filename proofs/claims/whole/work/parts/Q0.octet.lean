/-! THE CLASS: an octet comes -/
/-- an octet behind what came -/
def R_in (f : jx_F) (c z : Nat) (x : Int32) : jx_F := rf_ui (rf_ui f 29 (600 * c + z) x) 30 c (f.1 30 c + 1)
section JxOctet
variable {th : Nat → Nat} {B b : Nat} {xl : List Int32} {σ σ' σ'' : jx_S} {f f' : jx_F} {A A' : Nat → Nat → Nat} {G G' : Nat → Nat → Int32} {T T' : Nat → Nat} {W : Nat → Prop}
theorem RelC.inn {c : Nat} (hR : RelC th B b xl σ f A G T) (hc : c < 8) (h1 : ∀ q, q ≠ B + 14 + 3 * c → ¬ (q = A 51 c ∧ B + 102 ≤ q) → σ'.1 q = σ.1 q) (h2 : σ'.2 = σ.2) (hf : ∀ q j, ¬ (q ∈ [26, 27, 28, 30, 32, 33] ∧ j = c + 1) → ¬ (q = 29 ∧ 600 * (c + 1) ≤ j ∧ j < 600 * (c + 1) + 600) → q < 65 → q ≠ 0 → q ≠ 2 → f'.1 q j = f.1 q j) (hl : ∀ q j, 36 ≤ q → q ≤ 53 → f'.2 q j = f.2 q j) (hG : ∀ q j, ¬ (q = 1 ∧ j = c) → G' q j = G q j) (hc1 : rl_c1 B σ' f' A G' T c) : RelC th B b xl σ' f' A G' T := by
  have hch : chg (fun a => a = B + 14 + 3 * c ∨ (a = A 51 c ∧ B + 102 ≤ a)) σ σ' T T := ⟨fun a _ hw => h1 a (fun e => hw (Or.inl e)) (fun e => hw (Or.inr e)), by rw [h2]; exact Nat.le_refl _, fun _ _ => rfl⟩
  have hB := hR.1.2.2.2.2.1
  obtain ⟨hx, ⟨hd1, hd2, -⟩, hC, ⟨np, p1, p2, -, hP⟩, ⟨nq, q1, q2, -, hQ⟩, -⟩ := id hR
  have hrow : A 51 c = B + 15 + 3 * c ∨ dy B σ T (A 51 c) (510 + c) := by
    rcases (hC c hc).2 with e | e
    · exact Or.inl e.1
    · exact Or.inr e.1
  have hlo : ∀ a, a < B + 102 → a ≠ B + 14 + 3 * c → ¬ (a = B + 14 + 3 * c ∨ (a = A 51 c ∧ B + 102 ≤ a)) := fun a ha h e => by rcases e with e | e; exact h e; omega
  have hd : ∀ a t, dy B σ T a t → t ≠ 510 + c → ¬ (a = B + 14 + 3 * c ∨ (a = A 51 c ∧ B + 102 ≤ a)) := fun a t hd ht e => by
    have h0 := hd.1
    rcases e with e | ⟨e, e2⟩
    · omega
    · rcases hrow with h | h
      · omega
      · have h3 := hd.2.2
        rw [e, h.2.2] at h3
        exact ht h3.symm
  have hk : ∀ q j, q ∉ [26, 27, 28, 30, 32, 33, 29] → q < 65 → q ≠ 0 → q ≠ 2 → f'.1 q j = f.1 q j := fun q j hq => hf q j (fun e => hq (by have := e.1; simp only [List.mem_cons, List.not_mem_nil, or_false] at this ⊢; omega)) (fun e => hq (by rw [e.1]; decide))
  have no : ∀ q : Nat, ¬ (26 ≤ q ∧ q ≤ 33) → q ∉ [26, 27, 28, 30, 32, 33, 29] := by
    intro q hq hm
    simp only [List.mem_cons, List.not_mem_nil, or_false] at hm
    omega
  refine hR.fr hch (fun a e => ?_) (fun q j hq => hk q j (no q (fun e => hq (by unfold wfr; omega))) (by unfold wfr at hq; omega) (fun e => hq (by unfold wfr; omega)) (fun e => hq (by unfold wfr; omega))) (fun q j h1 h2 => hl q j h1 (by omega)) (fun _ _ _ _ => rfl) ?_ ⟨?_, ?_⟩ (fun c' hc' => ?_) (fun p hp => (hP p (by omega)).mv (by omega) hch (fun a t h ht => hd a t h (by omega)) (fun k k1 k2 => hk k p (no k (by omega)) (by omega) (by omega) (by omega)) (fun j _ => hk 8 _ (no 8 (by omega)) (by omega) (by omega) (by omega)) ⟨rfl, rfl⟩ (hG 2 p (by omega))) (fun i hi => (hQ i (by omega)).mv hch (fun a t h ht => hd a t h (by omega)) (fun k j hk' => ?_) (fun k hk' => ?_) (hl 53 i (by omega) (by omega)) ⟨rfl, rfl, fun _ => rfl⟩)
  · rcases e with e | ⟨e, e2⟩
    · exact Or.inr (Or.inr (Or.inr (Or.inl ⟨c, hc, e⟩)))
    · rcases hrow with h | h
      · omega
      · exact Or.inr (Or.inr (Or.inr (Or.inr ⟨510 + c, by rw [e]; exact h, by omega⟩)))
  · rw [h1 B (by omega) (by omega), hx.2.2.2.2.2.1]
    unfold cx_e
    rw [hk 4 0 (no 4 (by omega)) (by omega) (by omega) (by omega), hk 1 0 (no 1 (by omega)) (by omega) (by omega) (by omega), hk 34 0 (no 34 (by omega)) (by omega) (by omega) (by omega), hG 0 0 (by omega)]
  · obtain ⟨c, hc⟩ := hd1
    exact ⟨c, by rw [h1 _ (by omega) (by omega)]; exact hc⟩
  · obtain ⟨w, hw⟩ := hd2
    exact ⟨w, by rw [h1 _ (by omega) (by omega)]; exact hw⟩
  · by_cases e : c' = c
    · subst e; exact hc1
    · exact (hC c' hc').mv hc' hch hB ⟨hlo _ (by omega) (by omega), hlo _ (by omega) (by omega), hlo _ (by omega) (by omega)⟩ (fun a t h ht => hd a t h (by omega)) (fun q hq => hf q _ (by omega) (by simp only [List.mem_cons, List.not_mem_nil, or_false] at hq; omega) (by simp only [List.mem_cons, List.not_mem_nil, or_false] at hq; omega) (by simp only [List.mem_cons, List.not_mem_nil, or_false] at hq; omega) (by simp only [List.mem_cons, List.not_mem_nil, or_false] at hq; omega)) (fun j hj => hf 29 _ (fun e => by have := e.1; revert this; decide) (by omega) (by omega) (by omega) (by omega)) (fun j hj => hf 31 _ (fun e => by have := e.1; revert this; decide) (by omega) (by omega) (by omega) (by omega)) ⟨rfl, rfl, fun _ => rfl⟩ (hG 1 c' (fun z => e z.2))
  · simp only [List.mem_cons, List.not_mem_nil, or_false] at hk'
    exact hk k j (no k (by omega)) (by omega) (by omega) (by omega)
  · simp only [List.mem_cons, List.not_mem_nil, or_false] at hk'
    exact hk k i (no k (by omega)) (by omega) (by omega) (by omega)
end JxOctet
section JxOctet2
variable {th : Nat → Nat} {B b d q z L : Nat} {xl : List Int32} {σ σ' : jx_S} {f : jx_F} {A : Nat → Nat → Nat} {T : Nat → Nat} {x : Int32}
theorem k_addO (hW : RW th B b xl σ f A T) (hq : q < 8) (h26 : ¬ f.1 26 (q + 1) = 0) (hz : (f.1 30 (q + 1)).toInt = (z : Int)) (hz6 : z < 600) (hx : isb x) : jc th (d + 1) 72 [.ref (B + 14 + 3 * q), .int x] σ (fun r σ' => r = none ∧ RW th B b xl σ' (R_in f (q + 1) z x) A T ∧ kp B σ σ') := by
  obtain ⟨G, hR, hls⟩ := hW
  obtain ⟨hce, hrow⟩ := hR.2.2.1 q hq
  rcases hrow with e | ⟨d1, d2, ⟨y, ny, y1, y2, y3, y4⟩, hout⟩
  · exact absurd e.2.2.2.2.1 h26
  have eny : ny = z := by omega
  have hce' : σ.1 (B + 14 + 3 * q) = some (.inr (5, [.int (Int32.ofNat (q + 1)), .int (f.1 26 (q + 1)), va_rf (cp_ref A (f.1 27 (q + 1))), .int (f.1 28 (q + 1)), .int (f.1 30 (q + 1)), .int (f.1 32 (q + 1)), .int (G 1 q), .int (f.1 33 (q + 1)), .ref (A 51 q), .ref (A 52 q)])) := hce
  have e0 : (0 : Int32).toInt = 0 := by decide
  have hneq : B + 14 + 3 * q ≠ A 51 q := by have := d1.1; omega
  have hne5 : A 51 q ≠ A 52 q := fun e => by
    have h1 := d1.2.2
    rw [e, d2.2.2] at h1
    omega
  obtain ⟨F, hF⟩ : ∃ F, F = R_in f (q + 1) z x := ⟨_, rfl⟩
  rw [← hF]
  have oF : ∀ u j, ¬ (u = 29 ∧ j = 600 * (q + 1) + z) → ¬ (u = 30 ∧ j = q + 1) → F.1 u j = f.1 u j := fun u j z1 z2 => by rw [hF]; unfold R_in; rw [rf_ui_ne (by omega), rf_ui_ne (by omega)]
  have F29 : F.1 29 (600 * (q + 1) + z) = x := by rw [hF]; unfold R_in; rw [rf_ui_ne (by omega), rf_ui_eq]
  have F30 : F.1 30 (q + 1) = f.1 30 (q + 1) + 1 := by rw [hF]; unfold R_in; rw [rf_ui_eq]
  have lF : F.2 = f.2 := by rw [hF]; rfl
  refine cl_go dt_72 40 [] dt_72_k rfl ?_
  intro C J hC hJ
  conv => whnf
  refine ⟨_, jx_getF_of (hce') rfl, ?_⟩
  conv => whnf
  refine jx_no (show ¬ f.1 30 (q + 1) < 0 by rw [Int32.lt_iff_toInt_lt, hz, e0]; omega) ?_
  conv => whnf
  refine ⟨_, jx_getF_of (hce') rfl, ?_⟩
  conv => whnf
  refine ⟨_, jx_getF_of (hce') rfl, ?_⟩
  conv => whnf
  refine ⟨_, jx_al_of (y1), ?_⟩
  conv => whnf
  refine jx_no (show ¬ Int32.ofNat 600 ≤ f.1 30 (q + 1) by rw [Int32.le_iff_toInt_le, hz, i32_ofNat (by omega)]; omega) ?_
  conv => whnf
  refine ⟨_, jx_getF_of (hce') rfl, ?_⟩
  conv => whnf
  refine ⟨_, jx_getF_of (hce') rfl, ?_⟩
  conv => whnf
  refine bstK y1 hz hz6 (fun s1 p1 o1 n1 => ?_)
  conv => whnf
  have c1 := (o1 (B + 14 + 3 * q) hneq).trans hce'
  refine ⟨_, jx_getF_of (c1) rfl, ?_⟩
  conv => whnf
  refine putK c1 rfl (fit_i _) (fun s2 p2 o2 n2 => ?_)
  conv => whnf
  have hx' : vp_nar .byte x = x := hx
  refine ⟨rfl, ⟨G, hR.inn (c := q) hq (fun u u1 u2 => ?_) (by rw [n2, n1]) (fun u j z1 z2 z3 z4 z5 => oF u j (by omega) (fun y => z1 ⟨by rw [y.1]; decide, y.2⟩)) (fun u j _ _ => by rw [lF]) (fun _ _ _ => rfl) ⟨?_, Or.inr ⟨⟨d1.1, by rw [n2, n1]; exact d1.2.1, d1.2.2⟩, ⟨d2.1, by rw [n2, n1]; exact d2.2.1, d2.2.2⟩, ⟨upd y z x, z + 1, ?_, ?_, by omega, fun j hj => ?_⟩, ?_⟩⟩, by rw [oF 2 0 (by omega) (by omega)]; exact hls⟩, by rw [n2, n1], fun u u1 u2 => ?_⟩
  · rw [o2 u u1, o1 u (fun e => u2 ⟨e, by rw [e]; exact d1.1⟩)]
  · rw [p2]
    unfold cc_e
    rw [oF 26 _ (by omega) (by omega), oF 27 _ (by omega) (by omega), oF 28 _ (by omega) (by omega), F30, oF 32 _ (by omega) (by omega), oF 33 _ (by omega) (by omega)]
    rfl
  · rw [o2 _ (fun e => hneq e.symm), p1, hx']
  · rw [F30, i32_add (c := 1) hz (by decide) (by omega) (by omega)]; omega
  · by_cases e : j = z
    · rw [e, upd_eq, F29]; exact ⟨rfl, hx⟩
    · rw [upd_ne e, oF 29 _ (by omega) (by omega)]
      exact y4 j (by omega)
  · obtain ⟨hh, aa, zz, w1, w2, w3, w4, w5, w6⟩ := hout
    refine ⟨hh, aa, zz, ?_, by rw [oF 33 _ (by omega) (by omega)]; exact w2, w3, by rw [oF 32 _ (by omega) (by omega)]; exact w4, w5, fun i hi => by rw [oF 31 _ (by omega) (by omega)]; exact w6 i hi⟩
    rw [o2 _ (fun e => by have := d2.1; omega), o1 _ (fun e => hne5 e.symm)]
    exact w1
  · rw [o2 u (by omega), o1 u (by have := d1.1; omega)]
theorem k_msgLen (hW : RW th B b xl σ f A T) (hq : q < 8) (h26 : ¬ f.1 26 (q + 1) = 0) (hz : (f.1 30 (q + 1)).toInt = (z : Int)) : jc th (d + 1) 74 [.ref (B + 14 + 3 * q)] σ (fun r σ' => (∃ v, r = some (.int v) ∧ (4 ≤ z → v = w3 (oct f (600 * (q + 1))) 1)) ∧ σ' = σ) := by
  obtain ⟨G, hR, hls⟩ := hW
  obtain ⟨hce, hrow⟩ := hR.2.2.1 q hq
  rcases hrow with e | ⟨d1, d2, ⟨y, ny, y1, y2, y3, y4⟩, hout⟩
  · exact absurd e.2.2.2.2.1 h26
  have eny : ny = z := by omega
  have hce' : σ.1 (B + 14 + 3 * q) = some (.inr (5, [.int (Int32.ofNat (q + 1)), .int (f.1 26 (q + 1)), va_rf (cp_ref A (f.1 27 (q + 1))), .int (f.1 28 (q + 1)), .int (f.1 30 (q + 1)), .int (f.1 32 (q + 1)), .int (G 1 q), .int (f.1 33 (q + 1)), .ref (A 51 q), .ref (A 52 q)])) := hce
  refine cl_go dt_74 60 [] dt_74_k rfl ?_
  intro C J hC hJ
  conv => whnf
  refine ⟨_, jx_getF_of (hce') rfl, ?_⟩
  conv => whnf
  refine ⟨_, jx_al_of (y1), ?_⟩
  conv => whnf
  refine jx_yes (show (4 : Int32) ≤ Int32.ofNat 600 by decide) ?_
  conv => whnf
  refine ⟨_, jx_getF_of (hce') rfl, ?_⟩
  conv => whnf
  refine ⟨_, jx_ild_of y1 (by decide) (k := 1) (by decide) (by decide), ?_⟩
  conv => whnf
  refine ⟨_, jx_getF_of (hce') rfl, ?_⟩
  conv => whnf
  refine ⟨_, jx_ild_of y1 (by decide) (k := 2) (by decide) (by decide), ?_⟩
  conv => whnf
  refine ⟨_, jx_getF_of (hce') rfl, ?_⟩
  conv => whnf
  refine ⟨_, jx_ild_of y1 (by decide) (k := 3) (by decide) (by decide), ?_⟩
  conv => whnf
  refine ⟨⟨_, rfl, fun h4 => ?_⟩, rfl⟩
  unfold w3 ob oct
  rw [← (y4 1 (by omega)).1, ← (y4 2 (by omega)).1, ← (y4 3 (by omega)).1]
  rfl
theorem k_breaksOff (hW : RW th B b xl σ f A T) (hq : q < 8) (h26 : ¬ f.1 26 (q + 1) = 0) (hz : (f.1 30 (q + 1)).toInt = (z : Int)) : jc th (d + 2) 73 [.ref (B + 14 + 3 * q)] σ (fun r σ' => ((r = some (.int 1) ∧ z = 4 ∧ (w3 (oct f (600 * (q + 1))) 1 < 20 ∨ 600 < w3 (oct f (600 * (q + 1))) 1 ∨ ¬ w3 (oct f (600 * (q + 1))) 1 &&& 3 = 0)) ∨ (r = some (.int 0) ∧ ¬ (z = 4 ∧ (w3 (oct f (600 * (q + 1))) 1 < 20 ∨ 600 < w3 (oct f (600 * (q + 1))) 1 ∨ ¬ w3 (oct f (600 * (q + 1))) 1 &&& 3 = 0)))) ∧ σ' = σ) := by
  have hW' := hW
  obtain ⟨G, hR, hls⟩ := hW'
  obtain ⟨hce, -⟩ := hR.2.2.1 q hq
  have hce' : σ.1 (B + 14 + 3 * q) = some (.inr (5, [.int (Int32.ofNat (q + 1)), .int (f.1 26 (q + 1)), va_rf (cp_ref A (f.1 27 (q + 1))), .int (f.1 28 (q + 1)), .int (f.1 30 (q + 1)), .int (f.1 32 (q + 1)), .int (G 1 q), .int (f.1 33 (q + 1)), .ref (A 51 q), .ref (A 52 q)])) := hce
  refine cl_go dt_73 60 [] dt_73_k rfl ?_
  intro C J hC hJ
  conv => whnf
  refine ⟨jx_isC_of hce', hC _ _ _ _ (((k_msgLen (d := d) hW hq h26 hz).up (by omega)).mp ?_)⟩
  rintro r s1 ⟨⟨v, rfl, hv⟩, hs1⟩
  rw [hs1]
  conv => whnf
  refine ⟨_, jx_getF_of (hce') rfl, ?_⟩
  conv => whnf
  refine ⟨fun (e : ¬ f.1 30 (q + 1) = 4) => ?_, fun (e : ¬ ¬ f.1 30 (q + 1) = 4) => ?_⟩
  · have e4 : z ≠ 4 := fun y => e (Int32.toInt_inj.mp (by rw [hz, y]; decide))
    conv => whnf
    exact ⟨by decide, Or.inr ⟨rfl, fun y => e4 y.1⟩, rfl⟩
  · have e4 : z = 4 := by
      have := Decidable.not_not.mp e
      rw [this, show (4 : Int32).toInt = 4 by decide] at hz
      omega
    have ev := hv (by omega)
    rw [← ev]
    conv => whnf
    refine ⟨fun (c1 : v < 20) => ?_, fun (c1 : ¬ v < 20) => ?_⟩
    · conv => whnf
      exact ⟨by decide, Or.inl ⟨rfl, e4, Or.inl c1⟩, rfl⟩
    · conv => whnf
      refine ⟨fun (c2 : 600 < v) => ?_, fun (c2 : ¬ 600 < v) => ?_⟩
      · conv => whnf
        exact ⟨by decide, Or.inl ⟨rfl, e4, Or.inr (Or.inl c2)⟩, rfl⟩
      · conv => whnf
        refine ⟨fun (c3 : v &&& 3 = 0) => ?_, fun (c3 : ¬ v &&& 3 = 0) => ?_⟩
        · conv => whnf
          refine ⟨by decide, Or.inr ⟨rfl, fun y => ?_⟩, rfl⟩
          rcases y.2 with y | y | y
          · exact c1 y
          · exact c2 y
          · exact y c3
        · conv => whnf
          exact ⟨by decide, Or.inl ⟨rfl, e4, Or.inr (Or.inr c3)⟩, rfl⟩
theorem k_isWhole (hW : RW th B b xl σ f A T) (hq : q < 8) (h26 : ¬ f.1 26 (q + 1) = 0) (hz : (f.1 30 (q + 1)).toInt = (z : Int)) : jc th (d + 2) 75 [.ref (B + 14 + 3 * q)] σ (fun r σ' => ((r = some (.int 1) ∧ 20 ≤ z ∧ f.1 30 (q + 1) = w3 (oct f (600 * (q + 1))) 1) ∨ (r = some (.int 0) ∧ ¬ (20 ≤ z ∧ f.1 30 (q + 1) = w3 (oct f (600 * (q + 1))) 1))) ∧ σ' = σ) := by
  have hW' := hW
  obtain ⟨G, hR, hls⟩ := hW'
  obtain ⟨hce, -⟩ := hR.2.2.1 q hq
  have hce' : σ.1 (B + 14 + 3 * q) = some (.inr (5, [.int (Int32.ofNat (q + 1)), .int (f.1 26 (q + 1)), va_rf (cp_ref A (f.1 27 (q + 1))), .int (f.1 28 (q + 1)), .int (f.1 30 (q + 1)), .int (f.1 32 (q + 1)), .int (G 1 q), .int (f.1 33 (q + 1)), .ref (A 51 q), .ref (A 52 q)])) := hce
  refine cl_go dt_75 60 [] dt_75_k rfl ?_
  intro C J hC hJ
  conv => whnf
  refine ⟨_, jx_getF_of (hce') rfl, ?_⟩
  conv => whnf
  refine ⟨fun (e : f.1 30 (q + 1) < 20) => ?_, fun (e : ¬ f.1 30 (q + 1) < 20) => ?_⟩
  · rw [Int32.lt_iff_toInt_lt, hz, show (20 : Int32).toInt = 20 by decide] at e
    conv => whnf
    exact ⟨by decide, Or.inr ⟨rfl, fun y => by omega⟩, rfl⟩
  · rw [Int32.lt_iff_toInt_lt, hz, show (20 : Int32).toInt = 20 by decide] at e
    conv => whnf
    refine ⟨_, jx_getF_of (hce') rfl, ?_⟩
    conv => whnf
    refine ⟨jx_isC_of hce', hC _ _ _ _ (((k_msgLen (d := d) hW hq h26 hz).up (by omega)).mp ?_)⟩
    rintro r s1 ⟨⟨v, rfl, hv⟩, hs1⟩
    rw [hs1, hv (by omega)]
    conv => whnf
    refine ⟨fun (c : ¬ f.1 30 (q + 1) = w3 (oct f (600 * (q + 1))) 1) => ?_, fun (c : ¬ ¬ f.1 30 (q + 1) = w3 (oct f (600 * (q + 1))) 1) => ?_⟩
    · conv => whnf
      exact ⟨by decide, Or.inr ⟨rfl, fun y => c y.2⟩, rfl⟩
    · conv => whnf
      exact ⟨by decide, Or.inl ⟨rfl, by omega, Decidable.not_not.mp c⟩, rfl⟩
end JxOctet2
