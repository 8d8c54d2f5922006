/-! THE CLASS: whose OPENING it is -/
section JxClsstr
variable {th : Nat → Nat} {d B b n R L bb k p0 : Nat} {xl : List Int32} {σ σ' : jx_S} {f f0 g : jx_F} {A : Nat → Nat → Nat} {G : Nat → Nat → Int32} {T : Nat → Nat} {o : Nat → Int32} {c w z ev : Int32} {Q : Option Value → jx_S → Prop}
theorem miss_n {l : List Nat} : ∀ (s : List Int32), miss o l s = none → ∀ c, c ∈ s → fst o c l ≠ 0
  | [], _, c, hc => absurd hc List.not_mem_nil
  | x :: s, h, c, hc => by
    unfold miss at h
    split at h
    · cases h
    · rename_i z
      rcases List.mem_cons.mp hc with rfl | hc
      · exact z
      · exact miss_n s h c hc
/-- what it must have it has -/
theorem LK.has (hL : LK o L bb f0 g) (h0 : g.1 74 0 = 0) : ∀ c, c ∈ mus o → fst o c (top o L) ≠ 0 := by
  obtain ⟨-, -, -, hk⟩ := hL.si h0
  unfold lck at hk
  split at hk
  · cases hk
  · rename_i hm
    exact miss_n _ hm
theorem mus_h : 264 ∈ mus o ∧ 296 ∈ mus o := by
  unfold mus ix
  repeat' split
  all_goals decide
/-- where the reference has an attribute's data -/
theorem LK.tx (hL : LK o L bb f0 g) (h0 : g.1 74 0 = 0) (hb : bb ≤ 4800) (hL6 : L ≤ 600) (ho : o = oct f0 bb) (hk : k < 12) (hp : p0 = fst o (kc k) (top o L)) (hp0 : p0 ≠ 0) : (g.1 67 0 + g.1 77 k).toInt = ((bb + (p0 + 8) : Nat) : Int) ∧ g.1 78 k = Int32.ofNat (sz o p0 - 8) ∧ 20 ≤ p0 ∧ p0 + 8 ≤ L ∧ 8 ≤ sz o p0 ∧ p0 + sz o p0 ≤ L ∧ (∀ j, g.1 29 (bb + (p0 + 8) + j) = o (p0 + 8 + j)) ∧ okz (kdc (kc k)) (sz o p0 - 8) = true := by
  obtain ⟨hS, -, hn, -⟩ := hL.si h0
  obtain ⟨-, s2, s3⟩ := hS.1 k hk
  have hm := fst_mem (o := o) (c := kc k) (top o L) (by rw [← hp]; exact hp0)
  rw [← hp] at hm
  obtain ⟨b1, b2, b3, b4⟩ := tps_in 700 20 L (top_in hn) p0 hm.1
  have hfa : fa o (kc k) (top o L) = p0 + 8 := by unfold fa; rw [← hp, if_neg hp0]
  refine ⟨?_, by rw [s3 (by rw [← hp]; exact hp0), ← hp], b1, b2, b3, b4, fun j => ?_, ?_⟩
  · rw [hL.h67, s2, hfa]
    exact i32_k1 (i32_ofNat (by omega)) (i32_ofNat (by omega)) (by omega)
  · rw [hL.fr 29 _ (by omega), ho]
    show _ = f0.1 29 _
    rw [Nat.add_assoc]
  · have := scs_k (o := o) 700 0 20 L 0 (scs o 700 0 20 L 0).2 (Prod.ext hn rfl) (by omega) p0 hm.1
    rw [hit_kn hm.2] at this
    exact this (kc_k k hk)
theorem k_pm_l (hR : RelC th B b xl σ g A G T) (hM : MB σ (B + 9) R L o w z c ev) (hbo : ∀ j, j < L → isb (o j)) (hL : LK o L bb f0 g) (h0 : g.1 74 0 = 0) (hb : bb ≤ 4800) (ho : o = oct f0 bb) (hn : (g.1 7 0).toInt = (n : Int)) (hn4 : n ≤ 4) (hp : p0 = fst o 264 (top o L)) (hp0 : p0 ≠ 0) : ∀ (r i : Nat), i + r = n → (∀ p, i ≤ p → p < n → R_pmt g p → (∀ q, i ≤ q → q < p → ¬ R_pmt g q) → Q (some (.ref (A 6 p))) σ) → ((∀ p, i ≤ p → p < n → ¬ R_pmt g p) → Q (some .null) σ) → cl_fj th (d + 4) 102 22 [(0, .ref B), (1, .int (Int32.ofNat p0)), (2, .int (Int32.ofNat i))] [] σ Q
  | 0, i, hi, h1, h2 => by
    obtain ⟨n', m1, m2, hal, -⟩ := id hR.2.2.2.1
    have en : n = n' := by omega
    subst en
    obtain ⟨⟨mc, hl⟩, -⟩ := hal
    rw [List.length_map, List.length_range] at hl
    refine cl_at dt_102 60 [] dt_102_k ?_
    intro C J hC hJ
    conv => whnf
    refine ⟨_, jx_getF_of (hR.X) rfl, ?_⟩
    conv => whnf
    refine ⟨jx_isC_of hl, hC _ _ _ _ (((k_size (d := d) hl).up (by omega)).mp ?_)⟩
    rintro r σ1 ⟨rfl, hs1⟩
    rw [hs1]
    conv => whnf
    refine jx_yes (show Int32.ofNat n ≤ Int32.ofNat i by rw [nle (by omega) (by omega)]; omega) ?_
    conv => whnf
    exact h2 (fun p p1 p2 => by omega)
  | r + 1, i, hi, h1, h2 => by
    have hL6 := hM.2.1
    obtain ⟨t1, t2, t3, t4, t5, t6, t7, -⟩ := hL.tx h0 hb hL6 ho (k := 1) (by omega) (by rw [show kc 1 = 264 by decide]; exact hp) hp0
    obtain ⟨n', m1, m2, hal, hpe⟩ := id hR.2.2.2.1
    have en : n = n' := by omega
    subst en
    have hal0 := hal
    obtain ⟨⟨mc, hl⟩, -⟩ := hal
    rw [List.length_map, List.length_range] at hl
    obtain ⟨-, a2, ⟨y, y1, y2, -, hh2, y3, y4⟩, -⟩ := hpe i (by omega)
    have hii : (Int32.ofNat i).toInt = (i : Int) := i32_ofNat (by omega)
    have i1 : Int32.ofNat i + Int32.ofInt 1 = Int32.ofNat (i + 1) := nadd rfl (by omega)
    have e9 : g.1 9 i = Int32.ofNat y := i32_eq y1 (by omega)
    have hS : R_hS g = bb + (p0 + 8) := i32_nat t1
    have hsm : (p0 ≠ 0 ∧ sz o p0 - 8 = y ∧ ∀ j, j < y → o (p0 + 8 + j) = hh2 j) ↔ R_pmt g i := by
      unfold R_pmt R_isT
      rw [hS, i32_nat y1, t2, e9]
      constructor
      · rintro ⟨-, z1, z2⟩
        exact ⟨by rw [z1], fun j hj => by rw [t7, z2 j hj]; exact (y4 j hj).1⟩
      · rintro ⟨z1, z2⟩
        exact ⟨hp0, ofN_inj (by omega) (by omega) z1, fun j hj => by rw [← t7, z2 j hj]; exact (y4 j hj).1.symm⟩
    refine cl_at dt_102 80 [(22, [0, 1, 2])] dt_102_k ?_
    intro C J hC hJ
    conv => whnf
    refine ⟨_, jx_getF_of (hR.X) rfl, ?_⟩
    conv => whnf
    refine ⟨jx_isC_of hl, hC _ _ _ _ (((k_size (d := d) hl).up (by omega)).mp ?_)⟩
    rintro r' σ1 ⟨rfl, hs1⟩
    rw [hs1]
    conv => whnf
    refine jx_no (show ¬ Int32.ofNat n ≤ Int32.ofNat i by rw [nle (by omega) (by omega)]; omega) ?_
    conv => whnf
    refine ⟨_, jx_getF_of (hR.X) rfl, ?_⟩
    conv => whnf
    refine ⟨_, jx_getF_of (hR.X) rfl, ?_⟩
    conv => whnf
    refine ⟨jx_isC_of hl, hC _ _ _ _ (((k_get (d := d) hal0 hii (by simp [show i < n by omega] : ((List.range n).map (A 6))[i]? = some (A 6 i))).up (by omega)).mp ?_)⟩
    rintro r' σ2 ⟨rfl, hs2⟩
    rw [hs2]
    conv => whnf
    refine ⟨jx_cast_of a2 (by decide +kernel), ?_⟩
    conv => whnf
    refine ⟨_, jx_getF_of (a2) rfl, ?_⟩
    conv => whnf
    refine ⟨jx_isC_of hM.1, hC _ _ _ _ (((k_isText (dd := d) (p := p0) hM hbo (fun _ => ⟨t4, t5, t6⟩) y3 (by decide) (fun j hj => (y4 j hj).2) (by omega)).up (by omega)).mp ?_)⟩
    rintro r' σ3 ⟨hcs, hs3⟩
    rw [hs3]
    rcases hcs with ⟨rfl, v⟩ | ⟨rfl, v⟩
    · conv => whnf
      refine jx_no (show ¬ (1 : Int32) = 0 by decide) ?_
      conv => whnf
      refine ⟨_, jx_getF_of (hR.X) rfl, ?_⟩
      conv => whnf
      refine ⟨jx_isC_of hl, hC _ _ _ _ (((k_get (d := d) hal0 hii (by simp [show i < n by omega] : ((List.range n).map (A 6))[i]? = some (A 6 i))).up (by omega)).mp ?_)⟩
      rintro r' σ4 ⟨rfl, hs4⟩
      rw [hs4]
      conv => whnf
      refine ⟨jx_cast_of a2 (by decide +kernel), ?_⟩
      conv => whnf
      exact h1 i (Nat.le_refl _) (by omega) (hsm.mp v) (fun q q1 q2 => by omega)
    · conv => whnf
      refine jx_yes (show (0 : Int32) = 0 from rfl) ?_
      conv => whnf
      have nm : ¬ R_pmt g i := fun u => v (hsm.mpr u)
      have ih := k_pm_l hR hM hbo hL h0 hb ho hn hn4 hp hp0 r (i + 1) (by omega) (fun p p1 p2 p3 p4 => h1 p (by omega) p2 p3 (fun q q1 q2 => by
        by_cases e : q = i
        · rw [e]; exact nm
        · exact p4 q (by omega) q2)) (fun u => h2 (fun p p1 p2 => by
        by_cases e : p = i
        · rw [e]; exact nm
        · exact u p (by omega) p2))
      rw [← i1] at ih
      exact hJ _ _ _ _ ih
/-- no two PEERS have one name, so there is one at most -/
theorem pmt_w (hK : KQ g) (hn : (g.1 7 0).toInt = (n : Int)) {p q : Nat} (hpq : p < q) (hq : q < n) (h1 : R_pmt g p) (h2 : R_pmt g q) : False := by
  refine hK.2 p q hpq (by omega) ⟨h1.1.symm.trans h2.1, fun j hj => ?_⟩
  have e9 : g.1 9 p = g.1 9 q := h1.1.symm.trans h2.1
  have hj1 : j < (g.1 9 p).toNatClampNeg := by
    show j < (g.1 9 p).toInt.toNat
    omega
  rw [← h1.2 j hj1, ← h2.2 j (by rw [← e9]; exact hj1)]
theorem pmt_u (hK : KQ g) (hn : (g.1 7 0).toInt = (n : Int)) {p q : Nat} (hp : p < n) (hq : q < n) (h1 : R_pmt g p) (h2 : R_pmt g q) : p = q := by
  rcases Nat.lt_trichotomy p q with h | h | h
  · exact (pmt_w hK hn h hq h1 h2).elim
  · exact h
  · exact (pmt_w hK hn h hp h2 h1).elim
theorem pm_of (hK : KQ g) (hn : (g.1 7 0).toInt = (n : Int)) {p : Nat} (hp : p < n) (h1 : R_pmt g p) : R_pm g n = some p := by
  cases hx : R_pm g n with
  | none => exact absurd h1 (R_pm_n n hx p hp)
  | some q =>
    obtain ⟨q1, q2⟩ := R_pm_s n q hx
    rw [pmt_u hK hn hp q1 h1 q2]
theorem pm_no (h : ∀ p, p < n → ¬ R_pmt g p) : R_pm g n = none := by
  cases hx : R_pm g n with
  | none => rfl
  | some q =>
    obtain ⟨q1, q2⟩ := R_pm_s n q hx
    exact absurd q2 (h q q1)
def pmr (A : Nat → Nat → Nat) (x : Option Nat) : Value := match x with
  | none => .null
  | some p => .ref (A 6 p)
theorem k_peerOfMessage (hR : RelC th B b xl σ g A G T) (hM : MB σ (B + 9) R L o w z c ev) (hbo : ∀ j, j < L → isb (o j)) (hL : LK o L bb f0 g) (h0 : g.1 74 0 = 0) (hb : bb ≤ 4800) (ho : o = oct f0 bb) (hK : KQ g) (hn : (g.1 7 0).toInt = (n : Int)) (hn4 : n ≤ 4) : jc th (d + 5) 102 [.ref B] σ (fun r σ' => r = some (pmr A (R_pm g n)) ∧ σ' = σ) := by
  have hL6 := hM.2.1
  have hw := top_in (hL.si h0).2.2.1
  have hp0 := hL.has h0 264 mus_h.1
  refine cl_go dt_102 60 [(22, [0, 1, 2])] dt_102_k rfl ?_
  intro C J hC hJ
  conv => whnf
  refine ⟨_, jx_getF_of (hR.X) rfl, ?_⟩
  conv => whnf
  refine ⟨_, jx_getF_of (hR.X) rfl, ?_⟩
  conv => whnf
  refine ⟨_, jx_getF_of (hM.1) rfl, ?_⟩
  conv => whnf
  refine ⟨jx_isC_of hM.1, hC _ _ _ _ (((k_find (dd := d) (k := 700) (p := 20) (x := 264) hM (Nat.le_refl L) hw (by omega) (by omega)).up (by omega)).mp ?_)⟩
  rintro r s1 ⟨rfl, hs1⟩
  rw [hs1]
  conv => whnf
  refine hJ _ _ _ _ (k_pm_l hR hM hbo hL h0 hb ho hn hn4 rfl hp0 n 0 (by omega) (fun p _ p2 p3 _ => ⟨?_, rfl⟩) (fun u => ⟨?_, rfl⟩))
  · rw [pm_of hK hn p2 p3]
    rfl
  · rw [pm_no (fun p hp => u p (by omega) hp)]
    rfl
theorem auth_12 (hn : (scs o 700 0 20 L 0).1 = none) (hL6 : L ≤ 600) : ∀ q, q ∈ top o L → hit o 258 q = true → q + 12 ≤ L := fun q hq hh => by
  obtain ⟨b1, b2, b3, b4⟩ := tps_in 700 20 L (top_in hn) q hq
  have := scs_k (o := o) 700 0 20 L 0 (scs o 700 0 20 L 0).2 (Prod.ext hn rfl) (by omega) q hq
  rw [hit_kn hh, show kdc 258 = 2 by decide] at this
  have h4 := this (by decide)
  have : sz o q - 8 = 4 := by
    unfold okz at h4
    rw [if_neg (by decide), if_pos rfl] at h4
    exact decide_eq_true_iff.mp h4
  omega
theorem k_refusal {x : Option Nat} (hR : RelC th B b xl σ g A G T) (hM : MB σ (B + 9) R L o w z c ev) (hL : LK o L bb f0 g) (h0 : g.1 74 0 = 0) (hx : ∀ p, x = some p → (p : Int) < (g.1 7 0).toInt) : jc th (d + 3) 104 [.ref B, pmr A x] σ (fun r σ' => r = some (.int (R_bad g x)) ∧ σ' = σ) := by
  have hL6 := hM.2.1
  obtain ⟨hS, -, hn, -⟩ := hL.si h0
  cases x with
  | none =>
    show jc th (d + 3) _ [.ref B, .null] σ _
    refine cl_go dt_104 40 [] dt_104_k rfl ?_
    intro C J hC hJ
    conv => whnf
    exact ⟨rfl, rfl⟩
  | some p =>
    obtain ⟨-, a2, -⟩ := hR.pe (hx p rfl)
    show jc th (d + 3) _ [.ref B, .ref (A 6 p)] σ _
    refine cl_go dt_104 40 [] dt_104_k rfl ?_
    intro C J hC hJ
    conv => whnf
    refine ⟨_, jx_getF_of (hR.X) rfl, ?_⟩
    conv => whnf
    refine ⟨jx_isC_of hM.1, hC _ _ _ _ ((k_hasRightAuth (dd := d) hM (top_in hn) (auth_12 hn hL6)).mp ?_)⟩
    rintro r s1 ⟨hr, hs1⟩
    rw [hs1]
    rcases hr with ⟨rfl, hr⟩ | ⟨rfl, hr⟩
    · have e8 : ¬ g.1 80 0 = 0 := by
        rcases hS.2.1 with v | v
        · rw [v.1]; decide
        · exact absurd hr v.2
      conv => whnf
      refine jx_yes (show ¬ (1 : Int32) = 0 by decide) ?_
      conv => whnf
      refine ⟨_, jx_getF_of (a2) rfl, ?_⟩
      conv => whnf
      refine ⟨fun (h2 : g.1 11 p ≤ 2) => ?_, fun (h2 : ¬ g.1 11 p ≤ 2) => ?_⟩
      · conv => whnf
        exact ⟨by show _ = some (Value.int (if g.1 80 0 = 0 then 5010 else if 2 < g.1 11 p then 3004 else 0)); rw [if_neg e8, if_neg (Int32.not_lt.mpr h2)], rfl⟩
      · conv => whnf
        exact ⟨by show _ = some (Value.int (if g.1 80 0 = 0 then 5010 else if 2 < g.1 11 p then 3004 else 0)); rw [if_neg e8, if_pos (Int32.not_le.mp h2)], rfl⟩
    · have e8 : g.1 80 0 = 0 := by
        rcases hS.2.1 with v | v
        · exact absurd v.2 hr
        · exact v.1
      conv => whnf
      refine jx_no (show ¬ ¬ (0 : Int32) = 0 by decide) ?_
      conv => whnf
      exact ⟨by show _ = some (Value.int (if g.1 80 0 = 0 then 5010 else if 2 < g.1 11 p then 3004 else 0)); rw [if_pos e8], rfl⟩
theorem k_holdOpening {p : Nat} (hR : RelC th B b xl σ g A G T) (hM : MB σ (B + 9) R L o w z c ev) (hl : 20 ≤ L) (hp : (p : Int) < (g.1 7 0).toInt) (hne : A 6 p ≠ B + 9) (hneR : A 6 p ≠ R) : jc th (d + 3) 106 [.ref (A 6 p), .ref (B + 9)] σ (fun r σ' => r = none ∧ RelC th B b xl σ' (rf_ui (rf_ui (rf_ui g 23 p (ob o 4)) 24 p (w4 o 12)) 25 p (w4 o 16)) A G T ∧ kp B σ σ') := by
  obtain ⟨-, a2, -⟩ := hR.pe hp
  refine cl_go dt_106 40 [] dt_106_k rfl ?_
  intro C J hC hJ
  conv => whnf
  refine ⟨jx_isC_of hM.1, hC _ _ _ _ ((k_flags (d := d) hM hl).mp ?_)⟩
  rintro r s0 ⟨rfl, hs0⟩
  rw [hs0]
  conv => whnf
  refine putK a2 rfl (fit_i _) (fun s1 p1 o1 n1 => ?_)
  conv => whnf
  have hM1 := hM.same (o1 _ (fun y => hne y.symm)) (o1 _ (fun y => hneR y.symm))
  refine ⟨jx_isC_of hM1.1, hC _ _ _ _ ((k_hop (d := d) hM1 hl).mp ?_)⟩
  rintro r s0' ⟨rfl, hs0'⟩
  rw [hs0']
  conv => whnf
  refine putK p1 rfl (fit_i _) (fun s2 p2 o2 n2 => ?_)
  conv => whnf
  have hM2 := hM1.same (o2 _ (fun y => hne y.symm)) (o2 _ (fun y => hneR y.symm))
  refine ⟨jx_isC_of hM2.1, hC _ _ _ _ ((k_end (d := d) hM2 hl).mp ?_)⟩
  rintro r s0'' ⟨rfl, hs0''⟩
  rw [hs0'']
  conv => whnf
  refine putK p2 rfl (fit_i _) (fun s3 p3 o3 n3 => ?_)
  conv => whnf
  refine ⟨rfl, hR.pe1 (σ' := s3) (f' := rf_ui (rf_ui (rf_ui g 23 p (ob o 4)) 24 p (w4 o 12)) 25 p (w4 o 16)) hp ?_ (fun q hq => (o3 q hq).trans ((o2 q hq).trans (o1 q hq))) (n3.trans (n2.trans n1)) (ui_pe ⟨by omega, by omega⟩ (ui_pe ⟨by omega, by omega⟩ (ui_pe ⟨by omega, by omega⟩ (fun _ _ _ => rfl)))) rfl (by rw [rf_ui_ne (by omega), rf_ui_ne (by omega), rf_ui_ne (by omega)])⟩
  rw [p3]
  simp [cp_e, lim, rf_ui]
end JxClsstr
