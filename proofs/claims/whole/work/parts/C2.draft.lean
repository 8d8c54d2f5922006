/-! THE CLASS: its draft -/
theorem putK {σ : jx_S} {a ci k : Nat} {fs : List Value} {v : Value} {K : jx_S → Prop} (h : σ.1 a = some (.inr (ci, fs))) (hk : Nat.blt k fs.length = true) (hf : jx_fit (tb_tt ci k) v = true) (hK : ∀ σ' : jx_S, σ'.1 a = some (.inr (ci, fs.set k v)) → (∀ q, q ≠ a → σ'.1 q = σ.1 q) → σ'.2 = σ.2 → K σ') : ∃ σ', jx_putF σ a ci k v = some σ' ∧ K σ' :=
  ⟨_, jx_putB h hk hf, hK _ jx_up_eq (fun _ hq => jx_up_ne hq) rfl⟩
theorem istK {σ : jx_S} {a n k : Nat} {w : Nat → Int32} {j x : Int32} {K : jx_S → Prop} (h : σ.1 a = some (.inl (1, n, .inl w))) (hj : j.toInt = (k : Int)) (hk : k < n) (hK : ∀ σ' : jx_S, σ'.1 a = some (.inl (1, n, .inl (upd w k x))) → (∀ q, q ≠ a → σ'.1 q = σ.1 q) → σ'.2 = σ.2 → K σ') : ∃ σ', jx_ist σ a j x = some σ' ∧ K σ' := by
  have h0 : ¬ j < 0 := by rw [Int32.lt_iff_toInt_lt, hj]; simp
  refine ⟨jx_up σ a (.inl (1, n, .inl (upd w k x))), ?_, hK _ jx_up_eq (fun _ hq => jx_up_ne hq) rfl⟩
  unfold jx_ist
  rw [h]
  simp only
  rw [if_pos ⟨trivial, fun z => by rcases z with z | z; exact h0 z; rw [i32_nat hj] at z; omega⟩, i32_nat hj]
theorem bstK {σ : jx_S} {a n k : Nat} {w : Nat → Int32} {j x : Int32} {K : jx_S → Prop} (h : σ.1 a = some (.inl (0, n, .inl w))) (hj : j.toInt = (k : Int)) (hk : k < n) (hK : ∀ σ' : jx_S, σ'.1 a = some (.inl (0, n, .inl (upd w k (vp_nar .byte x)))) → (∀ q, q ≠ a → σ'.1 q = σ.1 q) → σ'.2 = σ.2 → K σ') : ∃ σ', jx_bst σ a j x = some σ' ∧ K σ' := by
  have h0 : ¬ j < 0 := by rw [Int32.lt_iff_toInt_lt, hj]; simp
  refine ⟨jx_up σ a (.inl (0, n, .inl (upd w k (vp_nar .byte x)))), ?_, hK _ jx_up_eq (fun _ hq => jx_up_ne hq) rfl⟩
  unfold jx_bst
  rw [h]
  simp only
  rw [if_pos ⟨trivial, fun z => by rcases z with z | z; exact h0 z; rw [i32_nat hj] at z; omega⟩, i32_nat hj]
theorem upd_eq {f : Nat → Int32} {k : Nat} {x : Int32} : upd f k x k = x := if_pos rfl
theorem upd_ne {f : Nat → Int32} {k j : Nat} {x : Int32} (h : j ≠ k) : upd f k x j = f j := if_neg h
/-- the draft: n words w, the beginning at O -/
def DR (B : Nat) (σ : jx_S) (O : Nat) (w : Nat → Int32) (n : Nat) : Prop := σ.1 (B + 11) = some (.inr (4, [.ref (B + 12), .int (Int32.ofNat n), .ref O])) ∧ σ.1 (B + 12) = some (.inl (1, 64, .inl w))
def dch (B : Nat) (σ σ' : jx_S) : Prop := σ'.2 = σ.2 ∧ ∀ a, a ≠ B + 11 → a ≠ B + 12 → σ'.1 a = σ.1 a
/-- the draft shows these octets -/
def DM (B : Nat) (σ : jx_S) (O : Nat) (bs : List Int32) : Prop := ∃ (w : Nat → Int32) (n : Nat), DR B σ O w n ∧ n ≤ 64 ∧ dq w n (om bs)
section JxDraft
variable {th : Nat → Nat} {d B O n k s : Nat} {σ σ' σ'' : jx_S} {w : Nat → Int32} {bs : List Int32} {c v : Int32} {f : jx_F}
theorem dch.tr (h : dch B σ σ') (h' : dch B σ' σ'') : dch B σ σ'' := ⟨h'.1.trans h.1, fun a h1 h2 => (h'.2 a h1 h2).trans (h.2 a h1 h2)⟩
theorem DM.len (h : DM B σ O bs) : bs.length % 4 = 0 ∧ bs.length ≤ 256 := by
  obtain ⟨w, n, -, h1, h2, -⟩ := h
  unfold om at h2
  rw [List.length_map] at h2
  omega
theorem DM.c11 (h : DM B σ O bs) : ∃ c, σ.1 (B + 11) = some (.inr (4, [.ref (B + 12), .int c, .ref O])) := by
  obtain ⟨w, n, h1, -⟩ := h
  exact ⟨_, h1.1⟩
theorem nadd {a c : Nat} {q : Int32} (hq : q = Int32.ofNat c) (h : a + c < 2147483648) : Int32.ofNat a + q = Int32.ofNat (a + c) := by
  subst hq
  exact Int32.toInt_inj.mp (by rw [i32_add (i32_ofNat (by omega)) (i32_ofNat (by omega)) (by omega) (by omega), i32_ofNat (by omega)]; omega)
theorem nadd_i {a c : Nat} {q : Int32} (hq : q = Int32.ofNat c) (h : a + c < 2147483648) : (Int32.ofNat a + q).toInt = ((a + c : Nat) : Int) := by
  rw [nadd hq h, i32_ofNat h]
theorem nneg {a : Nat} (h : a < 2147483648) : ¬ Int32.ofNat a < 0 := by
  rw [Int32.lt_iff_toInt_lt, i32_ofNat h]
  simp
theorem nle {a c : Nat} (ha : a < 2147483648) (hc : c < 2147483648) : Int32.ofNat a ≤ Int32.ofNat c ↔ a ≤ c := by
  rw [Int32.le_iff_toInt_le, i32_ofNat ha, i32_ofNat hc]
  omega
theorem nlt {a c : Nat} (ha : a < 2147483648) (hc : c < 2147483648) : Int32.ofNat a < Int32.ofNat c ↔ a < c := by
  rw [Int32.lt_iff_toInt_lt, i32_ofNat ha, i32_ofNat hc]
  omega
theorem hd_dq {fl a h e : Int32} (h1 : ow (w 1) = om (R_p1 fl ++ R_p3 c)) (h2 : w 2 = a) (h3 : w 3 = h) (h4 : w 4 = e) : dq w 5 (om (R_hd fl c a h e)) := by
  have b : dq w 1 (om (R_p1 1 ++ R_p3 0)) := ⟨rfl, fun j x hj hx => by
    have := (List.getElem?_eq_some_iff.mp hx).1
    have e4 : (om (R_p1 1 ++ R_p3 0)).length = 4 := rfl
    omega⟩
  have := b.w.w.w.w
  rw [h1, h2, h3, h4] at this
  have e5 : om (R_hd fl c a h e) = om (R_p1 1 ++ R_p3 0) ++ om (R_p1 fl ++ R_p3 c) ++ ow a ++ ow h ++ ow e := rfl
  rw [e5]
  exact this
theorem k_begin {fl a h e cn : Int32} (h11 : σ.1 (B + 11) = some (.inr (4, [.ref (B + 12), .int cn, .ref O]))) (h12 : σ.1 (B + 12) = some (.inl (1, 64, .inl w))) (ho : ow (fl <<< 24 ||| c) = om (R_p1 fl ++ R_p3 c)) : jc th (d + 1) 50 [.ref (B + 11), .int fl, .int c, .int a, .int h, .int e] σ (fun r σ' => r = none ∧ dch B σ σ' ∧ DM B σ' O (R_hd fl c a h e)) := by
  refine cl_go dt_50 80 [] dt_50_k rfl ?_
  intro C J hC hJ
  conv => whnf
  refine ⟨_, jx_getF_of (h11) rfl, ?_⟩
  conv => whnf
  refine istK h12 (k := 0) (by decide) (by decide) (fun s1 p1 o1 n1 => ?_)
  conv => whnf
  have q1 := (o1 (B + 11) (by omega)).trans h11
  refine ⟨_, jx_getF_of (q1) rfl, ?_⟩
  conv => whnf
  refine istK p1 (k := 1) (by decide) (by decide) (fun s2 p2 o2 n2 => ?_)
  conv => whnf
  have q2 := (o2 (B + 11) (by omega)).trans q1
  refine ⟨_, jx_getF_of (q2) rfl, ?_⟩
  conv => whnf
  refine istK p2 (k := 2) (by decide) (by decide) (fun s3 p3 o3 n3 => ?_)
  conv => whnf
  have q3 := (o3 (B + 11) (by omega)).trans q2
  refine ⟨_, jx_getF_of (q3) rfl, ?_⟩
  conv => whnf
  refine istK p3 (k := 3) (by decide) (by decide) (fun s4 p4 o4 n4 => ?_)
  conv => whnf
  have q4 := (o4 (B + 11) (by omega)).trans q3
  refine ⟨_, jx_getF_of (q4) rfl, ?_⟩
  conv => whnf
  refine istK p4 (k := 4) (by decide) (by decide) (fun s5 p5 o5 n5 => ?_)
  conv => whnf
  have q5 := (o5 (B + 11) (by omega)).trans q4
  refine putK q5 rfl (fit_i _) (fun s6 p6 o6 n6 => ?_)
  conv => whnf
  refine ⟨rfl, ⟨n6.trans (n5.trans (n4.trans (n3.trans (n2.trans n1)))), fun a h1 h2 => ?_⟩, _, 5, ⟨p6, (o6 (B + 12) (by omega)).trans p5⟩, by omega, hd_dq ?_ ?_ ?_ ?_⟩
  · rw [o6 a h1, o5 a h2, o4 a h2, o3 a h2, o2 a h2, o1 a h2]
  · rw [upd_ne (by omega), upd_ne (by omega), upd_ne (by omega), upd_eq]
    exact ho
  · rw [upd_ne (by omega), upd_ne (by omega), upd_eq]
  · rw [upd_ne (by omega), upd_eq]
  · rw [upd_eq]
theorem k_number (hM : DM B σ O bs) (hl : bs.length + 12 ≤ 256) : jc th (d + 1) 12 [.ref (B + 11), .int c, .int v] σ (fun r σ' => r = none ∧ dch B σ σ' ∧ DM B σ' O (bs ++ R_nm c v)) := by
  obtain ⟨w, n, ⟨h11, h12⟩, hn, hq⟩ := hM
  have hbl : bs.length = 4 * n := by have := hq.1; unfold om at this; rw [List.length_map] at this; exact this
  refine cl_go dt_12 80 [] dt_12_k rfl ?_
  intro C J hC hJ
  conv => whnf
  refine ⟨_, jx_getF_of (h11) rfl, ?_⟩
  conv => whnf
  refine jx_no (nneg (a := n) (by omega)) ?_
  conv => whnf
  refine ⟨_, jx_getF_of (h11) rfl, ?_⟩
  conv => whnf
  refine ⟨_, jx_getF_of (h11) rfl, ?_⟩
  conv => whnf
  refine ⟨_, jx_al_of (h12), ?_⟩
  conv => whnf
  refine jx_no (show ¬ Int32.ofNat 64 < Int32.ofNat n + 3 by rw [nadd (c := 3) (q := 3) rfl (by omega), nlt (by omega) (by omega)]; omega) ?_
  conv => whnf
  refine ⟨_, jx_getF_of (h11) rfl, ?_⟩
  conv => whnf
  refine ⟨_, jx_getF_of (h11) rfl, ?_⟩
  conv => whnf
  refine istK h12 (k := n) (i32_ofNat (by omega)) (by omega) (fun s1 p1 o1 n1 => ?_)
  conv => whnf
  have q1 := (o1 (B + 11) (by omega)).trans h11
  refine ⟨_, jx_getF_of (q1) rfl, ?_⟩
  conv => whnf
  refine ⟨_, jx_getF_of (q1) rfl, ?_⟩
  conv => whnf
  refine istK p1 (k := n + 1) (nadd_i (c := 1) rfl (by omega)) (by omega) (fun s2 p2 o2 n2 => ?_)
  conv => whnf
  have q2 := (o2 (B + 11) (by omega)).trans q1
  refine ⟨_, jx_getF_of (q2) rfl, ?_⟩
  conv => whnf
  refine ⟨_, jx_getF_of (q2) rfl, ?_⟩
  conv => whnf
  refine istK p2 (k := n + 2) (nadd_i (c := 2) rfl (by omega)) (by omega) (fun s3 p3 o3 n3 => ?_)
  conv => whnf
  have q3 := (o3 (B + 11) (by omega)).trans q2
  refine ⟨_, jx_getF_of (q3) rfl, ?_⟩
  conv => whnf
  refine putK q3 rfl (fit_i _) (fun s4 p4 o4 n4 => ?_)
  conv => whnf
  refine ⟨rfl, ⟨n4.trans (n3.trans (n2.trans n1)), fun a h1 h2 => by rw [o4 a h1, o3 a h2, o2 a h2, o1 a h2]⟩, _, n + 3, ⟨?_, (o4 (B + 12) (by omega)).trans p3⟩, by omega, ?_⟩
  · rw [← nadd (a := n) (c := 3) (q := 3) rfl (by omega)]
    exact p4
  · have hq3 : dq (upd (upd (upd w n c) (n + 1) 1073741836) (n + 2) v) n (om bs) := hq.of (fun i _ hi => by rw [upd_ne (by omega), upd_ne (by omega), upd_ne (by omega)])
    have := hq3.w.w.w
    rw [upd_ne (show n ≠ n + 2 by omega), upd_ne (show n ≠ n + 1 by omega), upd_eq, upd_ne (show n + 1 ≠ n + 2 by omega), upd_eq, show n + 1 + 1 = n + 2 by omega, upd_eq] at this
    rw [om_app]
    have e : om (R_nm c v) = ow c ++ (ow 1073741836 ++ ow v) := rfl
    rw [e, ← List.append_assoc, ← List.append_assoc]
    exact this
end JxDraft
