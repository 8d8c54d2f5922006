/-! AN OCTET that comes: what it leaves -/
/-- the octet is put behind what came -/
def R_o1 (f : jx_F) (c : Nat) (v : Int32) : jx_F := rf_ui (R_in f c (f.1 30 c).toNatClampNeg v) 67 0 (Int32.ofNat (600 * c))
/-- the length that came is none -/
abbrev R_brk (g : jx_F) (c : Nat) : Prop := g.1 30 c = 4 ∧ (w3 (oct g (600 * c)) 1 < 20 ∨ 600 < w3 (oct g (600 * c)) 1 ∨ ¬ w3 (oct g (600 * c)) 1 &&& 3 = 0)
/-- the message is whole -/
abbrev R_whl (g : jx_F) (c : Nat) : Prop := 4 ≤ g.1 30 c ∧ g.1 30 c = w3 (oct g (600 * c)) 1
noncomputable def R_fs (g : jx_F) (n a c : Nat) (cv t : Int32) : Int32 × jx_F := if R_brk g c then (t, R_drop g n a c) else if R_whl g c then (t + 1, R_hdl (R_look (rf_ui g 30 c 0) (600 * c) (g.1 30 c).toNatClampNeg) n a c cv) else (t, g)
/-- where nothing waits, nothing waits afterwards -/
def Z0 (f F : jx_F) : Prop := ∀ j, f.1 30 j = 0 → F.1 30 j = 0
section JxStep
variable {n a p c x z h q mm n0 nk nA : Nat} {f g F f0 : jx_F} {cv t v pv : Int32}
theorem Z0.eq (h : ∀ j, F.1 30 j = f.1 30 j) : Z0 f F := fun j z => by rw [h]; exact z
theorem Z0.tr (h : Z0 f g) (h' : Z0 g F) : Z0 f F := fun j z => h' j (h j z)
theorem Z0.shut : Z0 f (R_shut f c) := by
  intro j hj
  unfold R_shut
  by_cases e : j = c
  · rw [e]; unfold R_shut0; exact rf_ui_eq
  · rw [R_shut0_o (by omega)]
    split
    · exact hj
    · unfold R_shutp
      rw [rf_ui_ne (by omega), rf_ui_ne (by omega)]
      exact hj
theorem Z0.become {s : Int32} : Z0 f (R_become f n a p s) := by
  refine Z0.eq (fun j => ?_)
  unfold R_become
  have e1 : (R_enter f p s).1 30 j = f.1 30 j := enter_o (by omega)
  split
  · split
    · exact e1
    · rw [R_bopen_o (by decide) (by omega)]; exact e1
  · split
    · rw [R_bshut_o rfl (by omega)]; exact e1
    · exact e1
theorem Z0.came : Z0 f (R_answerCame f p) := Z0.eq (fun j => R_answerCame_o (by omega) (by omega) (by omega) (by omega) (by omega))
theorem Z0.msg {bs : List Int32} : Z0 f (R_msg f bs cv) := Z0.eq (fun j => R_msg_o (by omega) (by omega) (by omega) (by omega) (by omega))
theorem Z0.accepts : Z0 f (R_accepts f n a p) := by
  unfold R_accepts
  exact Z0.came.tr Z0.become
theorem Z0.drop : Z0 f (R_drop f n a c) := by
  unfold R_drop
  split
  · exact Z0.shut
  · refine Z0.shut.tr (g := R_shut f c) ?_
    unfold R_drop1
    split
    · split
      · exact Z0.accepts
      · exact Z0.become
    · split
      · split
        · exact Z0.accepts
        · exact Z0.become
      · exact Z0.become
theorem Z0.u {k i : Nat} {s : Int32} (h : k ≠ 30) : Z0 f (rf_ui f k i s) := Z0.eq (fun j => rf_ui_ne (by omega))
theorem Z0.dropAll : Z0 f (R_dropAll f n a p) := by
  unfold R_dropAll
  have d1 : Z0 f (R_da1 f p) := by
    unfold R_da1
    split
    · exact fun _ z => z
    · exact Z0.shut
  have d2 : Z0 (R_da1 f p) (R_da2 (R_da1 f p) p) := by
    unfold R_da2
    split
    · exact fun _ z => z
    · exact Z0.shut
  exact (d1.tr d2).tr Z0.become
theorem Z0.ta : ∀ (r i : Nat), Z0 f (R_ta f cv p r i)
  | 0, _ => Z0.u (by omega)
  | r + 1, i => by
    unfold R_ta
    split
    · split
      · exact fun _ z => z
      · exact Z0.ta r (i + 1)
    · exact Z0.u (by omega)
theorem Z0.choose : Z0 f (R_choose f n a p) := by
  unfold R_choose
  split
  · exact Z0.shut.tr Z0.accepts
  · exact Z0.become
theorem Z0.str2 : Z0 f (R_str2 f n a p) := by
  unfold R_str2
  split
  · exact Z0.came.tr Z0.become
  · split
    · exact Z0.become
    · exact Z0.choose
theorem Z0.strange : Z0 f (R_strange f n a c cv) := by
  unfold R_strange
  split
  · exact (Z0.u (by omega)).tr Z0.shut
  split
  · unfold R_refuse
    exact Z0.msg.tr Z0.shut
  unfold R_str1
  split
  · unfold R_ansW
    exact Z0.msg.tr Z0.shut
  split
  · unfold R_ansW
    exact Z0.msg.tr Z0.shut
  · exact (Z0.eq (fun j => acc1_o (by omega) (by omega))).tr Z0.str2
theorem Z0.crd : Z0 f (R_crd f nA mm n0 nk cv pv) := by
  refine Z0.eq (fun j => ?_)
  unfold R_crd
  split
  · unfold R_cr2
    rw [R_go_o (by omega) (by omega) (by omega) (by omega), keep_o (by omega), R_bs_o (by omega) (by omega), rf_ui_ne (by omega), cr1_o (by omega) (by omega) (by omega) (by omega), R_stale_o (by omega)]
  · rw [R_go_o (by omega) (by omega) (by omega) (by omega), aga_o (by omega) (by omega), R_stale_o (by omega)]
theorem Z0.opn : Z0 f (R_opn f n a c p) := by
  unfold R_opn
  split
  · split
    · exact Z0.shut.tr Z0.become
    · exact Z0.become
  · exact (Z0.u (by omega)).tr Z0.drop
theorem Z0.hdl : Z0 g (R_hdl g n a c cv) := by
  unfold R_hdl
  split
  · exact Z0.strange
  split
  · unfold R_edg
    split
    · exact Z0.dropAll
    · exact Z0.u (by omega)
  split
  · have hm : Z0 g (R_hm g (R_pp g c)).2 := Z0.eq (fun j => hm_o (by omega) (by omega))
    split
    · refine hm.tr ?_
      unfold R_oo
      split
      · exact Z0.ta a 0
      · unfold R_req
        split
        · unfold R_refuse; exact Z0.msg
        split
        · unfold R_ansW; exact Z0.msg
        split
        · unfold R_ansW; exact Z0.msg
        split
        · unfold R_cf; exact Z0.crd
        · unfold R_ansW; exact (Z0.msg.tr (Z0.u (by omega))).tr Z0.become
    · exact hm
  split
  · exact Z0.u (by omega)
  · exact Z0.opn
/-- what a dropped connection had got does not matter -/
theorem shut0_ext {X Y : jx_F} (h : ∀ u j, ¬ (u = 30 ∧ j = c) → X.1 u j = Y.1 u j) (hl : X.2 = Y.2) : R_shut0 X c = R_shut0 Y c := by
  unfold R_shut0
  refine Prod.ext (funext fun u => funext fun j => ?_) hl
  by_cases e : u = 30 ∧ j = c
  · rw [e.1, e.2, rf_ui_eq, rf_ui_eq]
  rw [rf_ui_ne e, rf_ui_ne e]
  by_cases e28 : u = 28 ∧ j = c
  · rw [e28.1, e28.2, rf_ui_eq, rf_ui_eq]
  rw [rf_ui_ne e28, rf_ui_ne e28]
  by_cases e27 : u = 27 ∧ j = c
  · rw [e27.1, e27.2, rf_ui_eq, rf_ui_eq]
  rw [rf_ui_ne e27, rf_ui_ne e27]
  by_cases e26 : u = 26 ∧ j = c
  · rw [e26.1, e26.2, rf_ui_eq, rf_ui_eq]
  rw [rf_ui_ne e26, rf_ui_ne e26]
  exact h u j e
theorem shut_30 : R_shut (rf_ui f 30 c v) c = R_shut f c := by
  have e27 : (rf_ui f 30 c v).1 27 c = f.1 27 c := rf_ui_ne (by omega)
  have e28 : (rf_ui f 30 c v).1 28 c = f.1 28 c := rf_ui_ne (by omega)
  unfold R_shut
  rw [e27]
  by_cases h : f.1 27 c = 0
  · rw [if_pos h, if_pos h]
    exact shut0_ext (fun u j z => rf_ui_ne z) rfl
  · rw [if_neg h, if_neg h]
    refine shut0_ext (fun u j z => ?_) rfl
    unfold R_shutp
    rw [e28, rf_ui_ne (show ¬ (13 = 30 ∧ (f.1 27 c).toNatClampNeg - 1 = c) by omega), rf_ui_ne (show ¬ (14 = 30 ∧ (f.1 27 c).toNatClampNeg - 1 = c) by omega)]
    by_cases e14 : u = 14 ∧ j = (f.1 27 c).toNatClampNeg - 1
    · rw [e14.1, e14.2, rf_ui_eq, rf_ui_eq]
    rw [rf_ui_ne e14, rf_ui_ne e14]
    by_cases e13 : u = 13 ∧ j = (f.1 27 c).toNatClampNeg - 1
    · rw [e13.1, e13.2, rf_ui_eq, rf_ui_eq]
    rw [rf_ui_ne e13, rf_ui_ne e13, rf_ui_ne z]
theorem drop_30 : R_drop (rf_ui f 30 c v) n a c = R_drop f n a c := by
  unfold R_drop
  rw [shut_30, show (rf_ui f 30 c v).1 27 c = f.1 27 c from rf_ui_ne (by omega), show (rf_ui f 30 c v).1 28 c = f.1 28 c from rf_ui_ne (by omega)]
/-- octets came on a connection -/
theorem MV.inx (hV : MV n a x f) (h26 : f.1 26 c = 2) (o : ∀ u j, ¬ (u = 29 ∧ 600 * c ≤ j ∧ j < 600 * c + 600) → ¬ (u = 30 ∧ j = c) → ¬ u = 67 → F.1 u j = f.1 u j) (l : F.2 = f.2) (hJ : PJ_i F c) : MV n a x F ∧ FM n a x f F := by
  obtain ⟨hS, hM, hK, h35, ⟨t, h1, ht⟩, n0, h59, h32, hT⟩ := hV
  refine ⟨⟨⟨hS.1.of (hS.1.1.of (o _ _ (by omega) (by omega) (by omega)) (fun c => o _ _ (by omega) (by omega) (by omega)) (fun c => o _ _ (by omega) (by omega) (by omega))) (fun u j hu => o u j (by simp only [List.mem_cons, List.not_mem_nil, or_false] at hu; omega) (by simp only [List.mem_cons, List.not_mem_nil, or_false] at hu; omega) (by simp only [List.mem_cons, List.not_mem_nil, or_false] at hu; omega)), fun c' c1 c2 => ?_, fun p hp => (hS.2.2.1 p hp).of (fun u hu => o u p (by simp only [List.mem_cons, List.not_mem_nil, or_false] at hu; omega) (by simp only [List.mem_cons, List.not_mem_nil, or_false] at hu; omega) (by simp only [List.mem_cons, List.not_mem_nil, or_false] at hu; omega)) (fun c' _ _ _ u hu => o u c' (by omega) (by omega) (by omega)), fun i hi => (hS.2.2.2.1 i hi).of ⟨o _ _ (by omega) (by omega) (by omega), o _ _ (by omega) (by omega) (by omega), o _ _ (by omega) (by omega) (by omega), by rw [l]⟩ (fun u _ _ _ => ⟨o _ _ (by omega) (by omega) (by omega), o _ _ (by omega) (by omega) (by omega), o _ _ (by omega) (by omega) (by omega)⟩), fun p hp => (hS.2.2.2.2.1 p hp).of (o _ _ (by omega) (by omega) (by omega)) (o _ _ (by omega) (by omega) (by omega)) (o _ _ (by omega) (by omega) (by omega)), fun c' c1 c2 => ?_, fun i hi => by rw [o 55 i (by omega) (by omega) (by omega), o 34 0 (by omega) (by omega) (by omega)]; exact hS.2.2.2.2.2.2 i hi⟩, MI.of hM (o _ _ (by omega) (by omega) (by omega)) (o _ _ (by omega) (by omega) (by omega)) (fun s => o _ _ (by omega) (by omega) (by omega)) (fun u j _ => by rw [l]), hK.of (fun u j hu => o u j (by omega) (by omega) (by omega)), by rw [o 35 0 (by omega) (by omega) (by omega)]; exact h35, ⟨t, by rw [o 1 0 (by omega) (by omega) (by omega)]; exact h1, ht⟩, n0, by rw [o 59 0 (by omega) (by omega) (by omega)]; exact h59, h32, fun i hi => by rw [o 64 i (by omega) (by omega) (by omega), o 1 0 (by omega) (by omega) (by omega)]; exact hT i hi⟩, ⟨fun u j _ _ _ _ _ hu => o u j (by omega) (by omega) (by omega), fun u j hu _ => o u j (by omega) (by omega) (by omega), fun u j _ _ _ _ => by rw [l]⟩⟩
  · by_cases e : c' = c
    · rw [e] at c1 c2 ⊢
      obtain ⟨s, q, r, t1, t2, t3, t4, t5, t6, t7, t8⟩ := hS.2.1 c c1 c2
      have s2 : s = 2 := by
        have := t1.1
        rw [h26, show (2 : Int32).toInt = 2 by decide] at this
        omega
      exact ⟨s, q, r, by rw [o 26 c (by omega) (by omega) (by omega)]; exact t1, by rw [o 27 c (by omega) (by omega) (by omega)]; exact t2, by rw [o 28 c (by omega) (by omega) (by omega)]; exact t3, fun z => by omega, t5, fun z => by omega, fun z => by rw [o 13 _ (by omega) (by omega) (by omega)]; exact t7 z, fun z => by rw [o 14 _ (by omega) (by omega) (by omega)]; exact t8 z⟩
    · exact (hS.2.1 c' c1 c2).of (fun u hu => o u c' (by omega) (by omega) (by omega)) (fun j _ _ => ⟨fun _ => o _ _ (by omega) (by omega) (by omega), fun _ => o _ _ (by omega) (by omega) (by omega)⟩)
  · by_cases e : c' = c
    · rw [e]; exact hJ
    · have := hS.2.2.2.2.2.1 c' c1 c2
      unfold PJ_i R_len at this ⊢
      rw [o 30 c' (by omega) (by omega) (by omega), o 29 (600 * c' + 1) (by omega) (by omega) (by omega), o 29 (600 * c' + 2) (by omega) (by omega) (by omega), o 29 (600 * c' + 3) (by omega) (by omega) (by omega)]
      exact this
theorem and3 : ∀ k : Nat, k < 601 → (Int32.ofNat k &&& 3 = 0 ↔ k % 4 = 0) := by decide +kernel
theorem o1_o (hz : (f.1 30 c).toInt = (z : Int)) {u j : Nat} (h1 : ¬ (u = 29 ∧ j = 600 * c + z)) (h2 : ¬ (u = 30 ∧ j = c)) (h3 : u ≠ 67) : (R_o1 f c v).1 u j = f.1 u j := by
  unfold R_o1 R_in
  rw [i32_nat hz, rf_ui_ne (by omega), rf_ui_ne h2, rf_ui_ne h1]
theorem o1_30 : (R_o1 f c v).1 30 c = f.1 30 c + 1 := by
  unfold R_o1 R_in
  rw [rf_ui_ne (by omega), rf_ui_eq]
/-- one octet more -/
theorem MV.o1 (hV : MV n a x f) (c1 : 1 ≤ c) (c2 : c ≤ 8) (h26 : f.1 26 c = 2) (hz : (f.1 30 c).toInt = (z : Int)) (hg : g = R_o1 f c v) : z < 600 ∧ (g.1 30 c).toInt = ((z + 1 : Nat) : Int) ∧ (MV n a x (rf_ui g 30 c 0) ∧ FM n a x f (rf_ui g 30 c 0)) ∧ (¬ R_brk g c → 4 ≤ z + 1 → ∃ w : Nat, w3 (oct g (600 * c)) 1 = Int32.ofNat w ∧ 20 ≤ w ∧ w ≤ 600 ∧ z + 1 ≤ w) ∧ (¬ R_brk g c → ¬ R_whl g c → MV n a x g ∧ FM n a x f g) := by
  have hJ := hV.1.2.2.2.2.2.1 c c1 c2
  have z6 : z < 600 := by
    rcases hJ with y | ⟨w, -, y1, -, y2, -⟩ <;> omega
  have o : ∀ u j, ¬ (u = 29 ∧ 600 * c ≤ j ∧ j < 600 * c + 600) → ¬ (u = 30 ∧ j = c) → ¬ u = 67 → g.1 u j = f.1 u j := fun u j z1 z2 z3 => by rw [hg]; exact o1_o hz (by omega) z2 z3
  have l : g.2 = f.2 := by rw [hg]; rfl
  have h30 : (g.1 30 c).toInt = ((z + 1 : Nat) : Int) := by rw [hg, o1_30, i32_add (c := 1) hz (by decide) (by omega) (by omega)]; omega
  have el : R_len g c = w3 (oct g (600 * c)) 1 := rfl
  have key : ¬ R_brk g c → 4 ≤ z + 1 → ∃ w : Nat, (R_len g c).toInt = (w : Int) ∧ 20 ≤ w ∧ w ≤ 600 ∧ w % 4 = 0 ∧ z + 1 ≤ w := by
    intro hb h4
    by_cases e4 : z + 1 = 4
    · have g4 : g.1 30 c = 4 := Int32.toInt_inj.mp (by rw [h30, e4]; decide)
      have b1 : ¬ w3 (oct g (600 * c)) 1 < 20 := fun y => hb ⟨g4, Or.inl y⟩
      have b2 : ¬ 600 < w3 (oct g (600 * c)) 1 := fun y => hb ⟨g4, Or.inr (Or.inl y)⟩
      have b3 : w3 (oct g (600 * c)) 1 &&& 3 = 0 := Decidable.not_not.mp (fun y => hb ⟨g4, Or.inr (Or.inr y)⟩)
      rw [← el] at b1 b2 b3
      rw [Int32.lt_iff_toInt_lt, show (20 : Int32).toInt = 20 by decide] at b1
      rw [Int32.lt_iff_toInt_lt, show (600 : Int32).toInt = 600 by decide] at b2
      obtain ⟨w, hw⟩ : ∃ w : Nat, (R_len g c).toInt = (w : Int) := ⟨(R_len g c).toInt.toNat, by omega⟩
      refine ⟨w, hw, by omega, by omega, ?_, by omega⟩
      rw [i32_eq hw (by omega)] at b3
      exact (and3 w (by omega)).mp b3
    · rcases hJ with y | ⟨w, y1, y2, y3, y4, y5⟩
      · omega
      · refine ⟨w, ?_, y3, y4, y5, by omega⟩
        rw [← y1]
        unfold R_len
        rw [hg, o1_o hz (by omega) (by omega) (by omega), o1_o hz (by omega) (by omega) (by omega), o1_o hz (by omega) (by omega) (by omega)]
  refine ⟨z6, h30, hV.inx h26 (fun u j z1 z2 z3 => by rw [rf_ui_ne z2]; exact o u j z1 z2 z3) l (Or.inl (by rw [rf_ui_eq]; decide)), fun hb h4 => ?_, fun hb hw => hV.inx h26 o l ?_⟩
  · obtain ⟨w, k1, k2, k3, -, k5⟩ := key hb h4
    exact ⟨w, by rw [← el]; exact i32_eq k1 (by omega), k2, k3, k5⟩
  · by_cases h4 : 4 ≤ z + 1
    · obtain ⟨w, k1, k2, k3, k4, k5⟩ := key hb h4
      refine Or.inr ⟨w, k1, ?_, k2, k3, k4⟩
      have ne : z + 1 ≠ w := fun y => hw ⟨by rw [Int32.le_iff_toInt_le, h30, show (4 : Int32).toInt = 4 by decide]; omega, by rw [← el]; exact Int32.toInt_inj.mp (by rw [h30, k1, y])⟩
      omega
    · exact Or.inl (by omega)
/-- what the octet leaves -/
theorem MV.fs (hV : MV n a x f) (hRO : RO f) (hq : q < 8) (hcv : cv.toInt = ((q + 1 : Nat) : Int)) (h26 : f.1 26 (q + 1) = 2) (hz : (f.1 30 (q + 1)).toInt = (z : Int)) (h34 : (f.1 34 0).toInt = (h : Int)) (hh : h < 2147480000) (hF : F = (R_fs (R_o1 f (q + 1) v) n a (q + 1) cv t).2) : MV n a x F ∧ FM n a x f F ∧ (f.1 34 0).toInt ≤ (F.1 34 0).toInt ∧ (F.1 34 0).toInt ≤ (f.1 34 0).toInt + 70 := by
  obtain ⟨g, hg⟩ : ∃ g, g = R_o1 f (q + 1) v := ⟨_, rfl⟩
  obtain ⟨z6, h30, ⟨V0, M0⟩, key, hno⟩ := hV.o1 (by omega) (by omega) h26 hz hg
  have og : ∀ u j, ¬ (u = 29 ∧ j = 600 * (q + 1) + z) → ¬ (u = 30 ∧ j = q + 1) → u ≠ 67 → g.1 u j = f.1 u j := fun u j z1 z2 z3 => by rw [hg]; exact o1_o hz z1 z2 z3
  rw [← hg] at hF
  obtain ⟨f2, hf2⟩ : ∃ f2, f2 = rf_ui g 30 (q + 1) 0 := ⟨_, rfl⟩
  have o2 : ∀ u j, ¬ (u = 29 ∧ j = 600 * (q + 1) + z) → ¬ (u = 30 ∧ j = q + 1) → u ≠ 67 → f2.1 u j = f.1 u j := fun u j z1 z2 z3 => by rw [hf2, rf_ui_ne z2]; exact og u j z1 z2 z3
  rw [← hf2] at V0 M0
  have h342 : (f2.1 34 0).toInt = (h : Int) := by rw [o2 34 0 (by omega) (by omega) (by omega)]; exact h34
  unfold R_fs at hF
  by_cases hb : R_brk g (q + 1)
  · rw [if_pos hb] at hF
    have hF : F = R_drop f2 n a (q + 1) := by rw [hF, hf2, drop_30]
    have S := SM.drop (c := q + 1) V0.1 (by omega) (by omega) h342 (by omega)
    rw [← hF] at S
    exact ⟨V0.sm S, M0.tr S.2.1.fm, by have := S.2.2.1; omega, by have := S.2.2.2; omega⟩
  rw [if_neg hb] at hF
  by_cases hw : R_whl g (q + 1)
  · rw [if_pos hw, i32_nat h30, ← hf2] at hF
    have hL6 : z + 1 ≤ 600 := by omega
    obtain ⟨o, ho⟩ : ∃ o, o = oct f2 (600 * (q + 1)) := ⟨_, rfl⟩
    have hL : LK o (z + 1) (600 * (q + 1)) f2 (R_look f2 (600 * (q + 1)) (z + 1)) := lk_spec ho (fun k hk => V0.2.2.1.1 k hk) hL6
    obtain ⟨V1, M1, e1⟩ := V0.look hL
    obtain ⟨y1, y2, y3, y4⟩ := V1.hdl (cv := cv) (q := q) (h := h) (hRO.eq (fun u j hu => by rw [hL.fr u j (by omega), o2 u j (by omega) (by omega) (by omega)])) hL ho (by omega) hL6 hq hcv (by rw [hL.fr 26 _ (by omega), o2 26 _ (by omega) (by omega) (by omega)]; exact h26) (by rw [e1]; exact h342) hh
    rw [e1, h342] at y3 y4
    have hF : F = R_hdl (R_look f2 (600 * (q + 1)) (z + 1)) n a (q + 1) cv := hF
    rw [hF, h34]
    exact ⟨y1, (M0.tr M1).tr y2, y3, y4⟩
  · rw [if_neg hw] at hF
    have hF : F = g := hF
    obtain ⟨y1, y2⟩ := hno hb hw
    rw [hF, og 34 0 (by omega) (by omega) (by omega)]
    exact ⟨y1, y2, Int.le_refl _, by omega⟩
/-- behind a message nothing waits -/
theorem fs_30 (hw : ¬ R_brk g c) (hw2 : R_whl g c) (hV : MV n a x (rf_ui g 30 c 0)) (hz : (g.1 30 c).toInt = (z : Int)) (hz6 : z ≤ 600) : (R_fs g n a c cv t).2.1 30 c = 0 := by
  unfold R_fs
  rw [if_neg hw, if_pos hw2, i32_nat hz]
  have hL := lk_spec (f := rf_ui g 30 c 0) (b := 600 * c) (L := z) rfl (fun k hk => hV.2.2.1.1 k hk) hz6
  refine Z0.hdl c ?_
  rw [hL.fr 30 c (by omega), rf_ui_eq]
end JxStep
