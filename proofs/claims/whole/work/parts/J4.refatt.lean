/-! THE REFERENCE goes through the attributes -/
def R_sw (f : jx_F) (o : Nat → Int32) (b d p : Nat) : jx_F := R_see f b d (p + 8) (w4 o p) (Int32.ofNat (sz o p - 8))
def R_grp (f : jx_F) (o : Nat → Int32) (b d p : Nat) : jx_F := rf_ui (rf_ui (rf_ui (R_sw f o b d p) 85 (d + 1) (Int32.ofNat (p + sz o p))) 86 (d + 1) (Int32.ofNat (p + pad (sz o p)))) 87 (d + 1) (R_gof (R_sw f o b d p) (w4 o p) d)
def R_sc (o : Nat → Int32) (b : Nat) : Nat → Nat → Nat → Nat → jx_F → Bool × jx_F
  | 0, _, _, _, f => (false, f)
  | k + 1, d, p, e, f => if e ≤ p then (false, f) else match ck1 o d p e with
    | some x => (true, rf_ui (rf_ui f 74 0 x.1) 75 0 x.2)
    | none => if knd o p = 0 then R_sc o b k d (p + pad (sz o p)) e f else if knd o p = 5 then (if (R_sc o b k (d + 1) (p + 8) (p + sz o p) (R_grp f o b d p)).1 = true then R_sc o b k (d + 1) (p + 8) (p + sz o p) (R_grp f o b d p) else R_sc o b k d (p + pad (sz o p)) e (R_sc o b k (d + 1) (p + 8) (p + sz o p) (R_grp f o b d p)).2) else R_sc o b k d (p + pad (sz o p)) e (R_sw f o b d p)
def R_att (f : jx_F) (b L : Nat) : jx_F := (R_sc (oct f b) b 700 0 20 L (rf_ui f 85 0 (Int32.ofNat L))).2
section JxRefatt
variable {th : Nat → Nat} {σ0 : jx_S} {m dd b k p d e L : Nat} {f g : jx_F} {o : Nat → Int32} {c n : Int32} {Q : Option Value → jx_F → Prop}
theorem R_see_o {q j : Nat} (h : ¬ (77 ≤ q ∧ q ≤ 84)) : (R_see f b d p c n).1 q j = f.1 q j := by
  unfold R_see
  split
  · unfold R_seA
    split
    · rw [rf_ui_ne (by omega), R_sek_o (by omega)]
    · rw [R_sek_o (by omega)]
  · split
    · unfold R_se84
      have e3 : ∀ g : jx_F, (R_se83 g c (Int32.ofNat p)).1 q j = g.1 q j := fun g => by
        unfold R_se83
        split
        · rw [rf_ui_ne (by omega)]
        · rfl
      have e1 : (R_se81 f c (Int32.ofNat p) n).1 q j = f.1 q j := by
        unfold R_se81
        split
        · rw [rf_ui_ne (by omega), rf_ui_ne (by omega)]
        · rfl
      split
      · rw [rf_ui_ne (by omega), e3, e1]
      · rw [e3, e1]
    · rfl
theorem R_see_l : (R_see f b d p c n).2 = f.2 := by
  unfold R_see
  split
  · unfold R_seA
    split
    · rw [rf_ui_l, R_sek_l]
    · rw [R_sek_l]
  · split
    · unfold R_se84 R_se83 R_se81
      repeat' split
      all_goals rfl
    · rfl
theorem R_grp_o {q j : Nat} (h : ¬ (77 ≤ q ∧ q ≤ 84)) (h2 : ¬ ((q = 85 ∨ q = 86 ∨ q = 87) ∧ j = d + 1)) : (R_grp f o b d p).1 q j = f.1 q j := by
  unfold R_grp R_sw
  rw [rf_ui_ne (by omega), rf_ui_ne (by omega), rf_ui_ne (by omega), R_see_o h]
theorem R_grp_l : (R_grp f o b d p).2 = f.2 := by
  show (R_sw f o b d p).2 = _
  exact R_see_l
theorem R_grp_v : (R_grp f o b d p).1 85 (d + 1) = Int32.ofNat (p + sz o p) ∧ (R_grp f o b d p).1 86 (d + 1) = Int32.ofNat (p + pad (sz o p)) ∧ (R_grp f o b d p).1 87 (d + 1) = R_gof (R_sw f o b d p) (w4 o p) d := by
  unfold R_grp
  exact ⟨by rw [rf_ui_ne (by omega), rf_ui_ne (by omega), rf_ui_eq], by rw [rf_ui_ne (by omega), rf_ui_eq], rf_ui_eq⟩
theorem sc_fr : ∀ (k d p e : Nat) (f : jx_F), (∀ q j, ¬ (74 ≤ q ∧ q ≤ 87) → (R_sc o b k d p e f).2.1 q j = f.1 q j) ∧ (R_sc o b k d p e f).2.2 = f.2 ∧ ((R_sc o b k d p e f).1 = false → (∀ q j, q = 74 ∨ q = 75 ∨ q = 76 → (R_sc o b k d p e f).2.1 q j = f.1 q j) ∧ ∀ q j, q = 85 ∨ q = 86 ∨ q = 87 → j ≤ d → (R_sc o b k d p e f).2.1 q j = f.1 q j)
  | 0, _, _, _, _ => ⟨fun _ _ _ => rfl, rfl, fun _ => ⟨fun _ _ _ => rfl, fun _ _ _ _ => rfl⟩⟩
  | k + 1, d, p, e, f => by
    unfold R_sc
    split
    · exact ⟨fun _ _ _ => rfl, rfl, fun _ => ⟨fun _ _ _ => rfl, fun _ _ _ _ => rfl⟩⟩
    · split
      · exact ⟨fun q j h => by show (rf_ui (rf_ui f 74 0 _) 75 0 _).1 q j = _; rw [rf_ui_ne (by omega), rf_ui_ne (by omega)], rfl, fun h => absurd h (by simp)⟩
      · split
        · exact sc_fr k d _ e f
        · split
          · obtain ⟨a1, a2, a3⟩ := sc_fr k (d + 1) (p + 8) (p + sz o p) (R_grp f o b d p)
            split
            · rename_i ht
              exact ⟨fun q j h => (a1 q j h).trans (R_grp_o (by omega) (by omega)), a2.trans R_grp_l, fun h => absurd (ht.symm.trans h) (by simp)⟩
            · rename_i ht
              have ht := Bool.eq_false_iff.mpr ht
              obtain ⟨b1, b2, b3⟩ := sc_fr k d (p + pad (sz o p)) e (R_sc o b k (d + 1) (p + 8) (p + sz o p) (R_grp f o b d p)).2
              obtain ⟨a4, a5⟩ := a3 ht
              exact ⟨fun q j h => (b1 q j h).trans ((a1 q j h).trans (R_grp_o (by omega) (by omega))), b2.trans (a2.trans R_grp_l), fun h => ⟨fun q j hq => ((b3 h).1 q j hq).trans ((a4 q j hq).trans (R_grp_o (by omega) (by omega))), fun q j hq hj => ((b3 h).2 q j hq hj).trans ((a5 q j hq (by omega)).trans (R_grp_o (by omega) (by omega)))⟩⟩
          · obtain ⟨b1, b2, b3⟩ := sc_fr k d (p + pad (sz o p)) e (R_sw f o b d p)
            exact ⟨fun q j h => (b1 q j h).trans (R_see_o (by omega)), b2.trans R_see_l, fun h => ⟨fun q j hq => ((b3 h).1 q j hq).trans (R_see_o (by omega)), fun q j hq hj => ((b3 h).2 q j hq hj).trans (R_see_o (by omega))⟩⟩
/-- the machine at the loop's head -/
def r_hd (th : Nat → Nat) (σ0 : jx_S) (m dd d p : Nat) (f : jx_F) (Q : Option Value → jx_F → Prop) : Prop := jx_fj th (rf_g m) (rf σ0 m) (dd + 4) 223 15 [(0, .ref 0), (1, .int (Int32.ofNat d)), (2, .int (Int32.ofNat p))] [] f Q
theorem r_at_x (hw : ¬ f.1 74 0 = 0) (h : Q none f) : r_hd th σ0 m dd d p f Q := by
  refine rf_at dt_223 20 [] dt_223_k (by decide +kernel) ?_
  intro C J hC hJ
  conv => whnf
  refine jx_yes hw ?_
  conv => whnf
  exact h
theorem r_at_0 (hw : f.1 74 0 = 0) (he : f.1 85 0 = Int32.ofNat e) (hep : e ≤ p) (hp : p < 2147483648) (h : Q none f) : r_hd th σ0 m dd 0 p f Q := by
  refine rf_at dt_223 20 [] dt_223_k (by decide +kernel) ?_
  intro C J hC hJ
  conv => whnf
  refine jx_no (show ¬ ¬ f.1 74 0 = 0 from fun z => z hw) ?_
  conv => whnf
  refine jx_no (show ¬ 0 < Int32.ofNat 0 by decide) ?_
  conv => whnf
  refine ⟨jx_in_nat (k := 0) (by decide) (by decide), ?_⟩
  conv => whnf
  refine jx_yes (show f.1 85 0 ≤ Int32.ofNat p by rw [he, nle (by omega) hp]; exact hep) ?_
  conv => whnf
  exact h
theorem r_at_b {pb : Nat} (hd : d + 1 < 5) (hw : f.1 74 0 = 0) (he : f.1 85 (d + 1) = Int32.ofNat e) (hep : e ≤ p) (hp : p < 2147483648) (hb : f.1 86 (d + 1) = Int32.ofNat pb) (h : r_hd th σ0 m dd d pb f Q) : r_hd th σ0 m dd (d + 1) p f Q := by
  have hdi : (Int32.ofNat (d + 1)).toInt = ((d + 1 : Nat) : Int) := i32_ofNat (by omega)
  refine rf_at dt_223 20 [(15, [0, 1, 2])] dt_223_k (by decide +kernel) ?_
  intro C J hC hJ
  conv => whnf
  refine jx_no (show ¬ ¬ f.1 74 0 = 0 from fun z => z hw) ?_
  conv => whnf
  refine jx_yes (show 0 < Int32.ofNat (d + 1) by rw [show (0 : Int32) = Int32.ofNat 0 from rfl, nlt (by omega) (by omega)]; omega) ?_
  conv => whnf
  refine ⟨jx_in_nat hdi hd, ?_⟩
  conv => whnf
  rw [i32_nat hdi]
  refine jx_no (show ¬ Int32.ofNat p < f.1 85 (d + 1) by rw [he, nlt hp (by omega)]; omega) ?_
  conv => whnf
  refine ⟨jx_in_nat hdi hd, ?_⟩
  conv => whnf
  rw [i32_nat hdi, hb]
  have e1 : Int32.ofNat (d + 1) + Int32.ofInt (-1) = Int32.ofNat d := by
    refine i32_eq ?_ (by omega)
    rw [i32_add (c := -1) hdi (by decide) (by omega) (by omega)]
    omega
  refine hJ _ _ _ _ ?_
  unfold r_hd at h
  rw [← e1] at h
  exact h
theorem r_seeR (hb : (f.1 67 0).toInt = (b : Int)) (hp : b + p + 3 < 5400 ∨ ¬ c = 258) (hp2 : p < 2147483648) (hd : d ≤ 3) : rfc th σ0 m (dd + 3) 227 [.ref 0, .int c, .int (Int32.ofNat p), .int n, .int (Int32.ofNat d)] f (fun r f' => r = none ∧ f' = R_see f b d p c n) := by
  have hc : d = 0 ∨ d = 1 ∨ 2 ≤ d := by omega
  rcases hc with rfl | rfl | h
  · exact r_see0 hb hp hp2
  · exact (r_see1 (d := dd)).up (by omega)
  · exact (r_see2 (d := dd) (i32_ofNat (by omega)) h).up (by omega)
set_option maxHeartbeats 6000000 in
theorem r_att_l (hb4 : b ≤ 4800) : ∀ (k d p e : Nat) (f : jx_F), e - p < k → d ≤ 3 → e ≤ 600 → (f.1 67 0).toInt = (b : Int) → oct f b = o → f.1 74 0 = 0 → f.1 85 d = Int32.ofNat e → p ≤ 1000 → (∀ g, R_sc o b k d p e f = (true, g) → Q none g) → (∀ g p', R_sc o b k d p e f = (false, g) → e ≤ p' → p' ≤ 1000 → r_hd th σ0 m dd d p' g Q) → r_hd th σ0 m dd d p f Q
  | 0, d, p, e, f, hk, hd, he6, hb, ho, hw, he, hp, h1, h0 => by omega
  | k + 1, d, p, e, f, hk, hd, he6, hb, ho, hw, he, hp, h1, h0 => by
    by_cases hep : e ≤ p
    · exact h0 f p (by unfold R_sc; rw [if_pos hep]) hep hp
    have hdi : (Int32.ofNat d).toInt = (d : Int) := i32_ofNat (by omega)
    have hdin : jx_in (Int32.ofNat d) 5 := jx_in_nat hdi (by omega)
    have hdn := i32_nat hdi
    have hpi : (Int32.ofNat p).toInt = (p : Int) := i32_ofNat (by omega)
    have hsub : Int32.ofNat e - Int32.ofNat p = Int32.ofNat (e - p) := i32_eq (by rw [i32_sub (i32_ofNat (n := e) (by omega)) hpi (by omega) (by omega)]; omega) (by omega)
    -- from the place behind the two tests
    have eSC : ∀ x, ck1 o d p e = some x → R_sc o b (k + 1) d p e f = (true, rf_ui (rf_ui f 74 0 x.1) 75 0 x.2) := fun x hx => by unfold R_sc; rw [if_neg hep, hx]
    have flt : ∀ x : Int32 × Int32, ck1 o d p e = some x → ¬ x.1 = 0 → ∀ (d' p' : Nat), r_hd th σ0 m dd d' p' (rf_ui (rf_ui f 74 0 x.1) 75 0 x.2) Q := fun x hx hx0 d' p' => r_at_x (by rw [rf_ui_ne (by omega), rf_ui_eq]; exact hx0) (h1 _ (eSC x hx))
    have t59 : jx_fj th (rf_g m) (rf σ0 m) (dd + 4) 223 59 [(0, .ref 0), (1, .int (Int32.ofNat d)), (2, .int (Int32.ofNat p))] [] f Q := by
      by_cases h8 : e < p + 8
      · have hx : ck1 o d p e = some (5014, 0) := by unfold ck1; rw [if_pos h8]
        refine rf_at dt_223 30 [] dt_223_k (by decide +kernel) ?_
        intro C J hC hJ
        conv => whnf
        refine ⟨hdin, ?_⟩
        conv => whnf
        rw [hdn, he]
        refine jx_no (show ¬ 8 ≤ Int32.ofNat e - Int32.ofNat p by rw [hsub, show (8 : Int32) = Int32.ofNat 8 from rfl, nle (by omega) (by omega)]; omega) ?_
        conv => whnf
        refine hC _ _ _ _ (((r_fault (d := dd)).up (by omega)).mp ?_)
        rintro r f1 ⟨rfl, hf1⟩
        conv => whnf
        rw [hf1]
        exact h1 _ (eSC _ hx)
      · have z3 := sz_lt (o := o) (k := p)
        have hpd := pad_le (n := sz o p)
        have esz : w3 o (p + 5) = Int32.ofNat (sz o p) := w3_szo
        have epd : Int32.ofNat p + (Int32.ofNat (sz o p) + 3) / 4 * 4 = Int32.ofNat (p + pad (sz o p)) := by
          have a1 : (Int32.ofNat (sz o p) + 3).toInt = ((sz o p + 3 : Nat) : Int) := nadd_i rfl (by omega)
          have a2 : ((Int32.ofNat (sz o p) + 3) / 4).toInt = (((sz o p + 3) / 4 : Nat) : Int) := i32_divn a1 (show (4 : Int32).toInt = ((4 : Nat) : Int) by decide) (by omega)
          have a3 : ((Int32.ofNat (sz o p) + 3) / 4 * 4).toInt = (((sz o p + 3) / 4 * 4 : Nat) : Int) := by rw [i32_mul a2 (show (4 : Int32).toInt = 4 by decide) (by omega) (by omega)]; omega
          refine i32_eq ?_ (by omega)
          rw [i32_add hpi a3 (by unfold pad at hpd; omega) (by unfold pad at hpd; omega)]
          unfold pad
          omega
        have next : ∀ g, R_sc o b (k + 1) d p e f = R_sc o b k d (p + pad (sz o p)) e g → p + sz o p ≤ e → 8 ≤ sz o p → (g.1 67 0 = f.1 67 0 ∧ (∀ j, g.1 29 j = f.1 29 j) ∧ g.1 74 0 = 0 ∧ g.1 85 d = f.1 85 d) → r_hd th σ0 m dd d (p + pad (sz o p)) g Q := fun g eg hle h88 ⟨g1, g2, g3, g4⟩ => by
          refine r_att_l hb4 k d (p + pad (sz o p)) e g (by omega) hd he6 (by rw [g1]; exact hb) (by rw [← ho]; funext j; exact g2 _) g3 (by rw [g4]; exact he) (by omega) (fun g' hg' => h1 g' (by rw [eg]; exact hg')) (fun g' p' hg' z1 z2 => h0 g' p' (by rw [eg]; exact hg') z1 z2)
        have t154 : ∀ T : Nat, T = (if ob o (p + 4) &&& 128 = 0 then 8 else 12) → jx_fj th (rf_g m) (rf σ0 m) (dd + 4) 223 154 [(0, .ref 0), (1, .int (Int32.ofNat d)), (2, .int (Int32.ofNat p)), (3, .int (w4 o p)), (4, .int (ob o (p + 4))), (5, .int (Int32.ofNat (sz o p))), (6, .int (Int32.ofNat T)), (7, .int (Int32.ofNat (knd o p))), (8, .int (Int32.ofNat (p + pad (sz o p))))] [] f Q := by
          intro T hT
          have hT2 : T ≤ 12 := by rw [hT]; split <;> omega
          have hk5 : knd o p ≤ 5 := by
            unfold knd kdc
            repeat' split
            all_goals omega
          have hx14 : (sz o p < T ∨ e < p + sz o p) → ck1 o d p e = some (5014, w4 o p) := fun z => by
            unfold ck1
            rw [if_neg h8, if_pos (by rw [← hT]; exact z)]
          refine rf_at dt_223 90 [(15, [0, 1, 2])] dt_223_k (by decide +kernel) ?_
          intro C J hC hJ
          conv => whnf
          refine ⟨fun (y1 : Int32.ofNat (sz o p) < Int32.ofNat T) => ?_, fun (y1 : ¬ Int32.ofNat (sz o p) < Int32.ofNat T) => ?_⟩
          · rw [nlt (by omega) (by omega)] at y1
            conv => whnf
            refine hC _ _ _ _ (((r_fault (d := dd)).up (by omega)).mp ?_)
            rintro r f1 ⟨rfl, hf1⟩
            conv => whnf
            rw [hf1]
            exact hJ _ _ _ _ (flt _ (hx14 (Or.inl y1)) (show ¬ (5014 : Int32) = 0 by decide) d p)
          rw [nlt (by omega) (by omega)] at y1
          conv => whnf
          refine ⟨hdin, ?_⟩
          conv => whnf
          rw [hdn, he]
          refine ⟨fun (y2 : Int32.ofNat (sz o p) ≤ Int32.ofNat e - Int32.ofNat p) => ?_, fun (y2 : ¬ Int32.ofNat (sz o p) ≤ Int32.ofNat e - Int32.ofNat p) => ?_⟩
          rotate_left
          · rw [hsub, nle (by omega) (by omega)] at y2
            conv => whnf
            refine hC _ _ _ _ (((r_fault (d := dd)).up (by omega)).mp ?_)
            rintro r f1 ⟨rfl, hf1⟩
            conv => whnf
            rw [hf1]
            exact hJ _ _ _ _ (flt _ (hx14 (Or.inr (by omega))) (show ¬ (5014 : Int32) = 0 by decide) d p)
          rw [hsub, nle (by omega) (by omega)] at y2
          have h88 : 8 ≤ sz o p := by
            have : 8 ≤ T := by rw [hT]; split <;> omega
            omega
          have hno : ¬ (sz o p < (if ob o (p + 4) &&& 128 = 0 then 8 else 12) ∨ e < p + sz o p) := by rw [← hT]; omega
          conv => whnf
          refine ⟨fun (y3 : ob o (p + 4) &&& 31 = 0) => ?_, fun (y3 : ¬ ob o (p + 4) &&& 31 = 0) => ?_⟩
          rotate_left
          · conv => whnf
            refine hC _ _ _ _ (((r_fault (d := dd)).up (by omega)).mp ?_)
            rintro r f1 ⟨rfl, hf1⟩
            conv => whnf
            rw [hf1]
            exact hJ _ _ _ _ (flt (3009, w4 o p) (by unfold ck1; rw [if_neg h8, if_neg hno, if_pos y3]) (show ¬ (3009 : Int32) = 0 by decide) d p)
          have ck : ck1 o d p e = (if knd o p = 0 then (if ob o (p + 4) &&& 64 = 0 then none else some (5001, w4 o p)) else if okz (knd o p) (sz o p - 8) = false ∨ (knd o p = 5 ∧ d = 3) then some (5014, w4 o p) else none) := by
            unfold ck1
            rw [if_neg h8, if_neg hno, if_neg (fun z => z y3)]
          conv => whnf
          refine ⟨fun (y4 : ¬ Int32.ofNat (knd o p) = 0) => ?_, fun (y4 : ¬ ¬ Int32.ofNat (knd o p) = 0) => ?_⟩
          rotate_left
          · have y4 : knd o p = 0 := ofN_inj (y := 0) (by omega) (by omega) (Decidable.not_not.mp y4)
            rw [if_pos y4] at ck
            conv => whnf
            refine ⟨fun (y5 : ob o (p + 4) &&& 64 = 0) => ?_, fun (y5 : ¬ ob o (p + 4) &&& 64 = 0) => ?_⟩
            · rw [if_pos y5] at ck
              conv => whnf
              exact hJ _ _ _ _ (next f (by rw [show R_sc o b (k + 1) d p e f = _ from by unfold R_sc; rw [if_neg hep, ck, if_pos y4]]) (by omega) h88 ⟨rfl, fun _ => rfl, hw, rfl⟩)
            · rw [if_neg y5] at ck
              conv => whnf
              refine hC _ _ _ _ (((r_fault (d := dd)).up (by omega)).mp ?_)
              rintro r f1 ⟨rfl, hf1⟩
              conv => whnf
              rw [hf1]
              exact hJ _ _ _ _ (flt _ ck (show ¬ (5001 : Int32) = 0 by decide) d (p + pad (sz o p)))
          have y4 : ¬ knd o p = 0 := fun z => y4 (by rw [z]; rfl)
          rw [if_neg y4] at ck
          have e8 : Int32.ofNat (sz o p) - 8 = Int32.ofNat (sz o p - 8) := i32_eq (by rw [i32_sub (i32_ofNat (n := sz o p) (by omega)) (show (8 : Int32).toInt = 8 by decide) (by omega) (by omega)]; omega) (by omega)
          have p8 : Int32.ofNat p + 8 = Int32.ofNat (p + 8) := nadd rfl (by omega)
          conv => whnf
          have kz := r_isSize (th := th) (σ0 := σ0) (m := m) (d := dd) (f := f) (s := knd o p) (n := sz o p - 8) hk5 (by omega)
          rw [← e8] at kz
          refine hC _ _ _ _ ((kz.up (by omega)).mp ?_)
          rintro r f1 ⟨rfl, hf1⟩
          rw [hf1]
          cases hz : okz (knd o p) (sz o p - 8) with
          | false =>
            rw [if_pos (Or.inl hz)] at ck
            rw [if_neg (by simp)]
            conv => whnf
            refine jx_yes (show (0 : Int32) = 0 from rfl) ?_
            conv => whnf
            refine hC _ _ _ _ (((r_fault (d := dd)).up (by omega)).mp ?_)
            rintro r f1 ⟨rfl, hf1⟩
            conv => whnf
            rw [hf1]
            exact hJ _ _ _ _ (flt _ ck (show ¬ (5014 : Int32) = 0 by decide) d p)
          | true =>
            rw [if_pos rfl]
            conv => whnf
            refine jx_no (show ¬ (1 : Int32) = 0 by decide) ?_
            conv => whnf
            have hsee := r_seeR (th := th) (σ0 := σ0) (m := m) (dd := dd) (f := f) (b := b) (p := p + 8) (c := w4 o p) (n := Int32.ofNat (sz o p - 8)) (d := d) hb (by
              by_cases z : w4 o p = 258
              · left
                have kn : knd o p = 2 ∨ knd o p = 0 := by
                  unfold knd
                  rw [z]
                  split
                  · exact Or.inl (by decide)
                  · exact Or.inr rfl
                rcases kn with kn | kn
                · rw [kn] at hz
                  have : sz o p - 8 = 4 := by simpa [okz] using hz
                  omega
                · exact absurd kn y4
              · exact Or.inr z) (by omega) hd
            rw [← e8, ← p8] at hsee
            have tail : (knd o p = 5 → d ≠ 3) → ck1 o d p e = none → ∀ f1, f1 = R_sw f o b d p → (∀ (X : Prop), (knd o p = 5 → X) → (knd o p ≠ 5 → X) → X) := fun _ _ _ _ X z1 z2 => by
              by_cases z : knd o p = 5
              · exact z1 z
              · exact z2 z
            by_cases y5 : knd o p = 5
            · rw [y5]
              refine jx_no (show ¬ ¬ Int32.ofNat 5 = 5 by decide) ?_
              conv => whnf
              by_cases y6 : d = 3
              · rw [if_pos (Or.inr ⟨y5, y6⟩)] at ck
                refine jx_no (show ¬ ¬ Int32.ofNat d = 3 from fun z => z (by rw [y6]; rfl)) ?_
                conv => whnf
                refine hC _ _ _ _ (((r_fault (d := dd)).up (by omega)).mp ?_)
                rintro r f1 ⟨rfl, hf1⟩
                conv => whnf
                rw [hf1]
                exact hJ _ _ _ _ (flt _ ck (show ¬ (5014 : Int32) = 0 by decide) d p)
              · rw [if_neg (fun z => by rcases z with z | z; exact absurd z (by rw [hz]; simp); exact y6 z.2)] at ck
                refine jx_yes (show ¬ Int32.ofNat d = 3 from fun z => y6 (ofN_inj (y := 3) (by omega) (by omega) z)) ?_
                conv => whnf
                refine hC _ _ _ _ ((hsee.up (by omega)).mp ?_)
                rintro r f1 ⟨rfl, hf1⟩
                have ef1 : f1 = R_sw f o b d p := by rw [hf1, e8]; rfl
                conv => whnf
                refine jx_no (show ¬ ¬ Int32.ofNat 5 = 5 by decide) ?_
                conv => whnf
                refine hC _ _ _ _ (((r_groupOf (d := dd) (dn := d) hdi).up (by omega)).mp ?_)
                rintro r f2 ⟨rfl, hf2⟩
                rw [hf2]
                have d1 : Int32.ofNat d + Int32.ofInt 1 = Int32.ofNat (d + 1) := nadd rfl (by omega)
                have hd1i : (Int32.ofNat d + Int32.ofInt 1).toInt = ((d + 1 : Nat) : Int) := by rw [d1]; exact i32_ofNat (by omega)
                have hd1n := i32_nat hd1i
                have hd1in : jx_in (Int32.ofNat d + Int32.ofInt 1) 5 := jx_in_nat hd1i (by omega)
                conv => whnf
                refine ⟨hd1in, ?_⟩
                conv => whnf
                refine ⟨hd1in, ?_⟩
                conv => whnf
                refine ⟨hd1in, ?_⟩
                conv => whnf
                rw [hd1n]
                have epn : Int32.ofNat p + Int32.ofNat (sz o p) = Int32.ofNat (p + sz o p) := nadd rfl (by omega)
                have eg : rf_ui (rf_ui (rf_ui f1 85 (d + 1) (Int32.ofNat p + Int32.ofNat (sz o p))) 86 (d + 1) (Int32.ofNat (p + pad (sz o p)))) 87 (d + 1) (R_gof f1 (w4 o p) d) = R_grp f o b d p := by
                  rw [epn, ef1]
                  rfl
                rw [eg]
                obtain ⟨v85, v86, v87⟩ := R_grp_v (f := f) (o := o) (b := b) (d := d) (p := p)
                have eR : R_sc o b (k + 1) d p e f = (if (R_sc o b k (d + 1) (p + 8) (p + sz o p) (R_grp f o b d p)).1 = true then R_sc o b k (d + 1) (p + 8) (p + sz o p) (R_grp f o b d p) else R_sc o b k d (p + pad (sz o p)) e (R_sc o b k (d + 1) (p + 8) (p + sz o p) (R_grp f o b d p)).2) := by
                  show (if _ then _ else _) = _
                  rw [if_neg hep, ck]
                  show (if _ then _ else _) = _
                  rw [if_neg y4, if_pos y5]
                have goal : r_hd th σ0 m dd (d + 1) (p + 8) (R_grp f o b d p) Q := by
                  refine r_att_l hb4 k (d + 1) (p + 8) (p + sz o p) (R_grp f o b d p) (by omega) (by omega) (by omega) (by rw [R_grp_o (by omega) (by omega)]; exact hb) (by rw [← ho]; funext j; exact R_grp_o (by omega) (by omega)) (by rw [R_grp_o (by omega) (by omega)]; exact hw) v85 (by omega) (fun g hg => h1 g (by rw [eR, hg, if_pos rfl])) (fun g p' hg z1 z2 => ?_)
                  obtain ⟨a1, a2, a3⟩ := sc_fr (o := o) (b := b) k (d + 1) (p + 8) (p + sz o p) (R_grp f o b d p)
                  rw [hg] at a1 a2 a3
                  obtain ⟨a4, a5⟩ := a3 rfl
                  have g74 : g.1 74 0 = 0 := by rw [a4 74 0 (by omega), R_grp_o (by omega) (by omega)]; exact hw
                  refine r_at_b (by omega) g74 (by rw [a5 85 (d + 1) (by omega) (by omega)]; exact v85) z1 (by omega) (by rw [a5 86 (d + 1) (by omega) (by omega)]; exact v86) ?_
                  refine next g (by rw [eR, hg, if_neg (by simp)]) (by omega) h88 ⟨by rw [a1 67 0 (by omega), R_grp_o (by omega) (by omega)], fun j => by rw [a1 29 j (by omega), R_grp_o (by omega) (by omega)], g74, by rw [a5 85 d (by omega) (by omega), R_grp_o (by omega) (by omega)]⟩
                unfold r_hd at goal
                rw [← d1, ← p8] at goal
                exact hJ _ _ _ _ goal
            · rw [if_neg (fun z => by rcases z with z | z; exact absurd z (by rw [hz]; simp); exact y5 z.1)] at ck
              refine jx_yes (show ¬ Int32.ofNat (knd o p) = 5 from fun z => y5 (ofN_inj (y := 5) (by omega) (by omega) z)) ?_
              conv => whnf
              refine hC _ _ _ _ ((hsee.up (by omega)).mp ?_)
              rintro r f1 ⟨rfl, hf1⟩
              have ef1 : f1 = R_sw f o b d p := by rw [hf1, e8]; rfl
              conv => whnf
              refine jx_yes (show ¬ Int32.ofNat (knd o p) = 5 from fun z => y5 (ofN_inj (y := 5) (by omega) (by omega) z)) ?_
              conv => whnf
              have eR : R_sc o b (k + 1) d p e f = R_sc o b k d (p + pad (sz o p)) e (R_sw f o b d p) := by
                show (if _ then _ else _) = _
                rw [if_neg hep, ck]
                show (if _ then _ else _) = _
                rw [if_neg y4, if_neg y5]
              rw [ef1]
              exact hJ _ _ _ _ (next _ eR (by omega) h88 ⟨R_see_o (by omega), fun j => R_see_o (by omega), by rw [show (R_sw f o b d p).1 74 0 = f.1 74 0 from R_see_o (by omega)]; exact hw, R_see_o (by omega)⟩)
        refine rf_at dt_223 60 [(154, [0, 1, 2, 3, 4, 5, 6, 7, 8])] dt_223_k (by decide +kernel) ?_
        intro C J hC hJ
        conv => whnf
        refine ⟨hdin, ?_⟩
        conv => whnf
        rw [hdn, he]
        refine jx_yes (show 8 ≤ Int32.ofNat e - Int32.ofNat p by rw [hsub, show (8 : Int32) = Int32.ofNat 8 from rfl, nle (by omega) (by omega)]; omega) ?_
        conv => whnf
        refine hC _ _ _ _ (((r_number4 (d := dd) hb hpi (by omega)).up (by omega)).mp ?_)
        rintro r f1 ⟨rfl, hf1⟩
        rw [hf1, ho]
        conv => whnf
        refine hC _ _ _ _ (((r_octet (d := dd) hb (i32_k1 (j := 4) hpi (by decide) (by omega)) (by omega)).up (by omega)).mp ?_)
        rintro r f2 ⟨rfl, hf2⟩
        rw [hf2, ho]
        conv => whnf
        refine hC _ _ _ _ (((r_number3 (d := dd) hb (i32_k1 (j := 5) hpi (by decide) (by omega)) (by omega)).up (by omega)).mp ?_)
        rintro r f3 ⟨rfl, hf3⟩
        rw [hf3, ho, esz]
        conv => whnf
        by_cases h128 : ob o (p + 4) &&& 128 = 0
        · refine jx_yes h128 ?_
          conv => whnf
          refine jx_yes h128 ?_
          conv => whnf
          refine hC _ _ _ _ (((r_sort (d := dd)).up (by omega)).mp ?_)
          rintro r f4 ⟨rfl, hf4⟩
          rw [hf4]
          conv => whnf
          have ek : knd o p = kdc (w4 o p) := by unfold knd; rw [if_pos h128]
          have := t154 8 (by rw [if_pos h128])
          rw [ek, ← epd] at this
          exact hJ _ _ _ _ this
        · refine jx_no h128 ?_
          conv => whnf
          refine jx_no h128 ?_
          conv => whnf
          have ek : knd o p = 0 := by unfold knd; rw [if_neg h128]
          have := t154 12 (by rw [if_neg h128])
          rw [ek, ← epd] at this
          exact hJ _ _ _ _ this
    unfold r_hd
    refine rf_at dt_223 30 [(59, [0, 1, 2])] dt_223_k (by decide +kernel) ?_
    intro C J hC hJ
    conv => whnf
    refine jx_no (show ¬ ¬ f.1 74 0 = 0 from fun z => z hw) ?_
    conv => whnf
    by_cases hd0 : d = 0
    · rw [hd0] at he
      refine jx_no (show ¬ 0 < Int32.ofNat d by rw [hd0]; decide) ?_
      conv => whnf
      refine ⟨jx_in_nat (k := 0) (by decide) (by decide), ?_⟩
      conv => whnf
      refine jx_no (show ¬ f.1 85 0 ≤ Int32.ofNat p by rw [he, nle (by omega) (by omega)]; exact hep) ?_
      conv => whnf
      refine ⟨hdin, ?_⟩
      conv => whnf
      rw [hdn, hd0]
      refine jx_yes (show Int32.ofNat p < f.1 85 0 by rw [he, nlt (by omega) (by omega)]; omega) ?_
      conv => whnf
      rw [hd0] at t59
      exact hJ _ _ _ _ t59
    · refine jx_yes (show 0 < Int32.ofNat d by rw [show (0 : Int32) = Int32.ofNat 0 from rfl, nlt (by omega) (by omega)]; omega) ?_
      conv => whnf
      refine ⟨hdin, ?_⟩
      conv => whnf
      rw [hdn]
      refine jx_yes (show Int32.ofNat p < f.1 85 d by rw [he, nlt (by omega) (by omega)]; omega) ?_
      conv => whnf
      exact hJ _ _ _ _ t59
theorem r_attributes (hb4 : b ≤ 4800) (hb : (f.1 67 0).toInt = (b : Int)) (hL : f.1 68 0 = Int32.ofNat L) (hL6 : L ≤ 600) (hw : f.1 74 0 = 0) : rfc th σ0 m (dd + 5) 223 [.ref 0] f (fun r f' => r = none ∧ f' = R_att f b L) := by
  refine rf_go dt_223 30 [(15, [0, 1, 2])] dt_223_k (by decide +kernel) rfl ?_
  intro C J hC hJ
  conv => whnf
  refine ⟨jx_in_nat (k := 0) (by decide) (by decide), ?_⟩
  conv => whnf
  rw [hL]
  obtain ⟨f1, hf1⟩ : ∃ f1, f1 = rf_ui f 85 0 (Int32.ofNat L) := ⟨_, rfl⟩
  have eo : oct f1 b = oct f b := by funext j; rw [hf1]; exact rf_ui_ne (by omega)
  have eA : R_att f b L = (R_sc (oct f b) b 700 0 20 L f1).2 := by unfold R_att; rw [← hf1]
  refine hJ _ _ _ _ ?_
  rw [eA]
  have goal : r_hd th σ0 m dd 0 20 f1 (fun r f' => r = none ∧ f' = (R_sc (oct f b) b 700 0 20 L f1).2) := by
    refine r_att_l (o := oct f b) hb4 700 0 20 L f1 (by omega) (by omega) hL6 (by rw [hf1, rf_ui_ne (by omega)]; exact hb) eo (by rw [hf1, rf_ui_ne (by omega)]; exact hw) (by rw [hf1, rf_ui_eq]) (by omega) (fun g hg => ⟨rfl, by rw [hg]⟩) (fun g p' hg z1 z2 => ?_)
    obtain ⟨a1, a2, a3⟩ := sc_fr (o := oct f b) (b := b) 700 0 20 L f1
    rw [hg] at a1 a2 a3
    obtain ⟨a4, a5⟩ := a3 rfl
    exact r_at_0 (e := L) (by rw [a4 74 0 (by omega), hf1, rf_ui_ne (by omega)]; exact hw) (by rw [a5 85 0 (by omega) (by omega), hf1, rf_ui_eq]) z1 (by omega) ⟨rfl, by rw [hg]⟩
  rw [show rf_ui f 85 (Int32.toNatClampNeg 0) (Int32.ofNat L) = f1 from hf1.symm]
  exact goal
end JxRefatt
