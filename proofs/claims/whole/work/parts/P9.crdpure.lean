/-! WHAT A MESSAGE LEAVES: all of it -/
/-- what holds between messages -/
def MV (n a x : Nat) (f : jx_F) : Prop := PS f n a ∧ MI f ∧ KQ f ∧ (f.1 35 0).toInt = (x : Int) ∧ (∃ t : Nat, (f.1 1 0).toInt = (t : Int) ∧ t < 2000000000) ∧ ∃ n0 : Nat, (f.1 59 0).toInt = (n0 : Int) ∧ n0 ≤ 32 ∧ KT f n0
/-- what a message leaves as it is -/
def FM (n a x : Nat) (f F : jx_F) : Prop := (∀ q j, R_askK q = false → ¬ (26 ≤ q ∧ q ≤ 33) → (j < n → ¬ (11 ≤ q ∧ q ≤ 25)) → ¬ (40 ≤ q ∧ q ≤ 48) → ¬ (59 ≤ q ∧ q ≤ 64) → q < 65 ∨ q = 76 → F.1 q j = f.1 q j) ∧ (∀ u j, 54 ≤ u ∧ u ≤ 58 → a ≤ j → F.1 u j = f.1 u j) ∧ ∀ u j, ¬ (u = 53 ∧ j < a) → ¬ ((37 ≤ u ∧ u ≤ 39) ∧ j < x) → ¬ (u = 45 ∨ u = 46) → u ≤ 53 → F.2 u j = f.2 u j
section JxCrdpure
variable {n a x e nA mm n0 nk k c h t : Nat} {f g F : jx_F} {cv pv av : Int32} {v : Int64}
theorem FM.rf : FM n a x f f := ⟨fun _ _ _ _ _ _ _ _ => rfl, fun _ _ _ _ => rfl, fun _ _ _ _ _ _ => rfl⟩
theorem FM.tr (h : FM n a x f g) (h' : FM n a x g F) : FM n a x f F := ⟨fun q j z1 z2 z3 z4 z5 z6 => (h'.1 q j z1 z2 z3 z4 z5 z6).trans (h.1 q j z1 z2 z3 z4 z5 z6), fun u j z1 z2 => (h'.2.1 u j z1 z2).trans (h.2.1 u j z1 z2), fun u j z1 z2 z3 z4 => (h'.2.2 u j z1 z2 z3 z4).trans (h.2.2 u j z1 z2 z3 z4)⟩
theorem FR.fm (h : FR n a f F) : FM n a x f F := ⟨fun q j z1 z2 z3 _ _ _ => h.1 q j z1 z2 z3, h.2.1, fun u j z1 _ _ _ => h.2.2 u j z1⟩
theorem MV.sm (hV : MV n a x f) (h : SM n a e f F) : MV n a x F := by
  obtain ⟨hS, hM, hK, h35, ⟨t, h1, ht⟩, n0, h59, h32, hT⟩ := hV
  have o := h.2.1.1
  refine ⟨h.1, h.2.1.mi hM, hK.of (fun q j hq => o q j (by rcases hq with rfl | rfl | rfl | rfl <;> rfl) (by omega) (fun _ => by omega)), by rw [o 35 0 rfl (by omega) (fun _ => by omega)]; exact h35, ⟨t, by rw [o 1 0 rfl (by omega) (fun _ => by omega)]; exact h1, ht⟩, n0, by rw [o 59 0 rfl (by omega) (fun _ => by omega)]; exact h59, h32, fun i hi => ?_⟩
  rw [o 64 i rfl (by omega) (fun _ => by omega), o 1 0 rfl (by omega) (fun _ => by omega)]
  exact hT i hi
/-- PEERS, connections and ASKS stay as they are -/
theorem PS.ofx (hS : PS f n a) (ho : R_ok F) (hk : ∀ q j, q ∈ [7, 10, 11, 13, 14, 15, 16, 19, 22, 26, 27, 28, 29, 30, 34, 49, 50, 51, 52, 54, 55, 58] → F.1 q j = f.1 q j) (hl : ∀ j, F.2 53 j = f.2 53 j) : PS F n a := hS.of ho (fun q j hq => hk q j (by simp only [List.mem_cons, List.not_mem_nil, or_false] at hq ⊢; omega)) hl (fun q hq => (hS.2.2.2.2.1 q hq).of (hk _ _ (by decide)) (hk _ _ (by decide)) (hk _ _ (by decide))) (by rw [hk 34 0 (by decide)]; exact Int.le_refl _)
theorem sub_lt (hn : (f.1 35 0).toInt = (nA : Int)) (h : R_sub f nA ≠ 16) : R_sub f nA < nA := by
  unfold R_sub at h ⊢
  cases hw : R_who f with
  | none => rw [hw] at h; exact absurd rfl h
  | some v =>
    rw [hw] at h
    have := R_ac_r (f := f) (v := v) nA 0 h
    show R_ac f v nA 0 < nA
    omega
theorem evt_l (hn : (f.1 35 0).toInt = (nA : Int)) {u j : Nat} (h1 : ¬ ((37 ≤ u ∧ u ≤ 39) ∧ j < nA)) : (R_evt f nA av v).2.2 u j = f.2 u j := by
  unfold R_evt
  split
  · rfl
  rename_i hs
  have := sub_lt hn hs
  split
  · rfl
  split
  · split
    · rfl
    · show (R_chg f (R_sub f nA) v).2 u j = _
      unfold R_chg
      rw [rf_ul_ne (by omega), rf_ul_ne (by omega)]
  split
  · rfl
  · show (R_bck f (R_sub f nA) v).2 u j = _
    unfold R_bck
    rw [rf_ul_ne (by omega), rf_ul_ne (by omega)]
theorem fst_l (hn : (f.1 35 0).toInt = (nA : Int)) {u j : Nat} (h1 : ¬ ((37 ≤ u ∧ u ≤ 39) ∧ j < nA)) (h2 : ¬ (u = 45 ∨ u = 46)) (h3 : u ≠ 90) : (R_fst f nA mm pv).2.2 u j = f.2 u j := by
  unfold R_fst
  split
  · rfl
  rename_i hs
  have := sub_lt hn hs
  split
  · rfl
  split
  · rfl
  show (R_grnt _ _ _).2 u j = _
  rw [grnt_l (by omega) (by omega) (by omega), of_l (by omega)]
  rfl
theorem chs_l {s : Nat} {u j : Nat} (h1 : ¬ ((37 ≤ u ∧ u ≤ 39) ∧ j = R_acn f s)) (h2 : u ≠ 45) : (R_chs f s).2 u j = f.2 u j := by
  unfold R_chs R_rel R_rsv
  rw [rf_ul_ne (by omega), show R_acn (R_chg f (R_acn f s) (R_chv f s)) s = R_acn f s from rfl, rf_ul_ne (by omega)]
  unfold R_chg
  rw [rf_ul_ne (by omega), rf_ul_ne (by omega)]
theorem gon_l (h44 : ∀ s, s < mm → R_acn f s < nA) {u j : Nat} (h1 : ¬ ((37 ≤ u ∧ u ≤ 39) ∧ j < nA)) (h2 : ¬ (u = 45 ∨ u = 46)) (h3 : u ≠ 90) : (R_gon f mm pv).2.2 u j = f.2 u j := by
  unfold R_gon
  split
  · rfl
  rename_i e1
  have sm : R_so f mm 0 < mm := by have := R_so_r (f := f) mm 0 e1; omega
  have := h44 _ sm
  split
  · rfl
  split
  · show (R_forget _ _ _).2 u j = _
    rw [fg_l (by omega), chs_l (by omega) (by omega)]
  split
  · show (R_of _ _ _).2 u j = _
    rw [of_l (by omega), chs_l (by omega) (by omega)]
  show (R_grnt _ _ _).2 u j = _
  rw [grnt_l (by omega) (by omega) (by omega), of_l (by omega), chs_l (by omega) (by omega)]
theorem dec_l (hn : (f.1 35 0).toInt = (nA : Int)) (h44 : ∀ s, s < mm → R_acn f s < nA) {u j : Nat} (h1 : ¬ ((37 ≤ u ∧ u ≤ 39) ∧ j < nA)) (h2 : ¬ (u = 45 ∨ u = 46)) (h3 : u ≠ 90) : (R_dec f nA mm pv).2.2 u j = f.2 u j := by
  unfold R_dec
  split
  · rfl
  split
  · exact fst_l hn h1 h2 h3
  split
  · exact evt_l hn h1
  · exact gon_l h44 h1 h2 h3
theorem keep_kt (hn : n0 ≤ 32) (h59 : (g.1 59 0).toInt = (n0 : Int)) (hT : KT g n0) (hN : (g.1 66 0).toInt = (k : Int)) (hN3 : k ≤ 320) (hl : (g.1 78 1).toNatClampNeg ≤ 40) (h1 : (g.1 1 0).toInt = (t : Int)) (ht : t < 2000000000) : ∃ n1 : Nat, ((R_keep g n0).1 59 0).toInt = (n1 : Int) ∧ n1 ≤ 32 ∧ KT (R_keep g n0) n1 := by
  obtain ⟨n1, hn1⟩ : ∃ n1, n1 = if n0 = 32 then 31 else n0 := ⟨_, rfl⟩
  obtain ⟨f1, hf1⟩ : ∃ f1, f1 = if n0 = 32 then R_oldest g 32 else g := ⟨_, rfl⟩
  have hn31 : n1 ≤ 31 := by rw [hn1]; split <;> omega
  obtain ⟨u1, u2, -, -, -, -, -, -, u9, -⟩ := keep_v (g := g) (h := g) (f := f1) (N := k) hn h59 hN hN3 hl (fun _ _ _ _ => rfl) hn1 hf1
  have e1 : (R_keep g n0).1 1 0 = g.1 1 0 := keep_o (by omega)
  refine ⟨n1 + 1, u1, by omega, fun i hi => ?_⟩
  rw [e1]
  by_cases e : i = n1
  · rw [e, u9]
    exact ⟨t, by rw [i32_add (c := 240) h1 (by decide) (by omega) (by omega)]; omega, by omega⟩
  · rw [u2 64 i (by omega) (by omega), hf1]
    by_cases e2 : n0 = 32
    · rw [if_pos e2, R_oldest_6 (by omega) (by rw [if_pos e2] at hn1; omega)]
      exact hT (i + 1) (by rw [if_pos e2] at hn1; omega)
    · rw [if_neg e2]
      exact hT i (by rw [if_neg e2] at hn1; omega)
/-- a CREDIT -/
theorem MV.crd (hV : MV n a nA f) (hm : (f.1 40 0).toInt = (mm : Int)) (hn0 : (f.1 59 0).toInt = (n0 : Int)) (hnk : ((R_stale n0 f).1 59 0).toInt = (nk : Int)) (hco : R_cok (R_stale n0 f) k nA mm) (hk2 : R_kok (R_stale n0 f) nk) (hs : R_sok f) (hcv : cv.toInt = (c : Int)) (hc8 : c ≤ 8) : MV n a nA (R_crd f nA mm n0 nk cv pv) ∧ FM n a nA f (R_crd f nA mm n0 nk cv pv) ∧ (R_crd f nA mm n0 nk cv pv).1 34 0 = f.1 34 0 := by
  obtain ⟨hS, hM, hK, h35, ⟨t, h1, ht⟩, n0', h59, h32, hT⟩ := hV
  have en : n0' = n0 := by omega
  rw [en] at h59 h32 hT
  obtain ⟨g, hg⟩ : ∃ g, g = R_stale n0 f := ⟨_, rfl⟩
  have og : ∀ u j, ¬ (59 ≤ u ∧ u ≤ 64) → g.1 u j = f.1 u j := fun u j z => by rw [hg]; exact R_stale_o z n0 f
  have lg : g.2 = f.2 := by rw [hg]; exact R_stale_l n0 f
  have okg : R_ok g := hS.1.1.of (og _ _ (by omega)) (fun c => og _ _ (by omega)) (fun c => og _ _ (by omega))
  have skg : R_sok g := by
    unfold R_sok at hs ⊢
    rw [og 79 0 (by omega), og 67 0 (by omega), og 77 0 (by omega), og 78 0 (by omega)]
    exact hs
  obtain ⟨n', s1, s2, s3⟩ := R_stale_n n0 f h59 hT
  rw [← hg] at s1 s3 hnk hco hk2
  have en' : n' = nk := by omega
  rw [en'] at s2 s3
  unfold R_crd
  rw [← hg]
  split
  · -- it is done
    obtain ⟨F, hF⟩ : ∃ F, F = R_cr1 g nA mm pv := ⟨_, rfl⟩
    unfold R_cr2
    rw [← hF]
    have oF : ∀ u j, ¬ (40 ≤ u ∧ u ≤ 48) → u ≠ 88 → u ≠ 89 → u ≠ 91 → F.1 u j = g.1 u j := fun u j z1 z2 z3 z4 => by rw [hF]; exact cr1_o z1 z2 z3 z4
    have c35 : ((R_cr0 g).1 35 0).toInt = (nA : Int) := by rw [cr0_o (by omega) (by omega), og _ _ (by omega)]; exact h35
    have c44 : ∀ s, s < mm → R_acn (R_cr0 g) s < nA := fun s hs' => by
      obtain ⟨i, hi, hi2⟩ := hco.2.2.2.2.2.2.2.2.2.2.2.2.2.2.2.2 s hs'
      unfold R_acn
      rw [cr0_o (by omega) (by omega), i32_nat hi]
      exact hi2
    have lF : ∀ u j, ¬ ((37 ≤ u ∧ u ≤ 39) ∧ j < nA) → ¬ (u = 45 ∨ u = 46) → u ≠ 90 → F.2 u j = f.2 u j := fun u j z1 z2 z3 => by
      rw [hF]
      show (R_dec (R_cr0 g) nA mm pv).2.2 u j = _
      rw [dec_l c35 c44 z1 z2 z3]
      show g.2 u j = _
      rw [lg]
    have MIF : MI F := by
      have hMc : MI (R_cr0 g) := MI.of hM (by rw [cr0_o (by omega) (by omega), og _ _ (by omega)]) (by rw [cr0_o (by omega) (by omega), og _ _ (by omega)]) (fun s => by rw [cr0_o (by omega) (by omega), og _ _ (by omega)]) (fun u j _ => by show g.2 u j = _; rw [lg])
      have := hMc.dec (pv := pv) (hco.eq (f' := R_cr0 g) (fun u j hu => cr0_o (by omega) (by omega)))
      rw [hF]
      exact MI.of this (rf_ui_ne (by omega)) (rf_ui_ne (by omega)) (fun s => rf_ui_ne (by omega)) (fun _ _ _ => rfl)
    have okF : R_ok F := okg.of (oF _ _ (by omega) (by omega) (by omega) (by omega)) (fun c => oF _ _ (by omega) (by omega) (by omega) (by omega)) (fun c => oF _ _ (by omega) (by omega) (by omega) (by omega))
    have skF : R_sok F := by
      unfold R_sok at skg ⊢
      rw [oF 79 0 (by omega) (by omega) (by omega) (by omega), oF 67 0 (by omega) (by omega) (by omega) (by omega), oF 77 0 (by omega) (by omega) (by omega) (by omega), oF 78 0 (by omega) (by omega) (by omega) (by omega)]
      exact skg
    obtain ⟨bl, -⟩ := crT_l okF skF
    obtain ⟨b, hb⟩ : ∃ b, b = R_bs (rf_ui F 66 0 0) (R_crT F) := ⟨_, rfl⟩
    rw [← hb]
    have ob : ∀ u j, u ≠ 65 → u ≠ 66 → b.1 u j = F.1 u j := fun u j z1 z2 => by rw [hb, R_bs_o z1 z2, rf_ui_ne (by omega)]
    have lb : b.2 = F.2 := by rw [hb, R_bs_l]; rfl
    have hs0 : ((rf_ui F 66 0 0).1 66 0).toInt = ((0 : Nat) : Int) := by rw [rf_ui_eq]; decide
    have b66 : (b.1 66 0).toInt = (((R_crT F).length : Nat) : Int) := by rw [hb, R_bs_size _ _ 0 hs0 (by omega), Nat.zero_add]
    have e78 : (b.1 78 1).toNatClampNeg ≤ 40 := by
      rw [ob 78 1 (by omega) (by omega), oF 78 1 (by omega) (by omega) (by omega) (by omega)]
      obtain ⟨S, N, -, a2, a3, -⟩ := hco.2.2.2.2.2.2.2.2.2.1
      rw [i32_nat a2]
      exact a3
    have Tb : KT b nk := fun i hi => by
      rw [ob 64 i (by omega) (by omega), oF 64 i (by omega) (by omega) (by omega) (by omega), ob 1 0 (by omega) (by omega), oF 1 0 (by omega) (by omega) (by omega) (by omega)]
      exact s3 i hi
    obtain ⟨n1, v1, v2, v3⟩ := keep_kt (g := b) (n0 := nk) (k := (R_crT F).length) (t := t) (by omega) (by rw [ob 59 0 (by omega) (by omega), oF 59 0 (by omega) (by omega) (by omega) (by omega)]; exact hnk) Tb b66 (by omega) e78 (by rw [ob 1 0 (by omega) (by omega), oF 1 0 (by omega) (by omega) (by omega) (by omega), og 1 0 (by omega)]; exact h1) ht
    obtain ⟨K, hK'⟩ : ∃ K, K = R_keep b nk := ⟨_, rfl⟩
    rw [← hK'] at v1 v3 ⊢
    have oK : ∀ u j, ¬ (59 ≤ u ∧ u ≤ 64) → K.1 u j = b.1 u j := fun u j z => by rw [hK']; exact keep_o z
    have lK : K.2 = b.2 := by rw [hK']; exact keep_l
    have okK : R_ok K := okF.of (by rw [oK _ _ (by omega), ob _ _ (by omega) (by omega)]) (fun c => by rw [oK _ _ (by omega), ob _ _ (by omega) (by omega)]) (fun c => by rw [oK _ _ (by omega), ob _ _ (by omega) (by omega)])
    have all : ∀ u j, u ≠ 65 → u ≠ 66 → u ≠ 2 → u ≠ 31 → u ≠ 32 → ¬ (40 ≤ u ∧ u ≤ 48) → ¬ (59 ≤ u ∧ u ≤ 64) → u ≠ 88 → u ≠ 89 → u ≠ 91 → (R_go K cv).1 u j = f.1 u j := fun u j z1 z2 z3 z4 z5 z6 z7 z8 z9 z10 => by rw [R_go_o z1 z3 z4 z5, oK u j z7, ob u j z1 z2, oF u j z6 z8 z9 z10, og u j z7]
    have ll : (R_go K cv).2 = F.2 := by rw [R_go_l, lK, lb]
    refine ⟨⟨hS.ofx (R_go_ok okK (by rw [oK 66 0 (by omega)]; exact b66) (by omega) hcv hc8) (fun u j hu => all u j (by simp only [List.mem_cons, List.not_mem_nil, or_false] at hu; omega) (by simp only [List.mem_cons, List.not_mem_nil, or_false] at hu; omega) (by simp only [List.mem_cons, List.not_mem_nil, or_false] at hu; omega) (by simp only [List.mem_cons, List.not_mem_nil, or_false] at hu; omega) (by simp only [List.mem_cons, List.not_mem_nil, or_false] at hu; omega) (by simp only [List.mem_cons, List.not_mem_nil, or_false] at hu; omega) (by simp only [List.mem_cons, List.not_mem_nil, or_false] at hu; omega) (by simp only [List.mem_cons, List.not_mem_nil, or_false] at hu; omega) (by simp only [List.mem_cons, List.not_mem_nil, or_false] at hu; omega) (by simp only [List.mem_cons, List.not_mem_nil, or_false] at hu; omega)) (fun j => by rw [ll]; exact lF 53 j (by omega) (by omega) (by omega)), ?_, hK.of (fun u j hu => all u j (by omega) (by omega) (by omega) (by omega) (by omega) (by omega) (by omega) (by omega) (by omega) (by omega)), by rw [all 35 0 (by omega) (by omega) (by omega) (by omega) (by omega) (by omega) (by omega) (by omega) (by omega) (by omega)]; exact h35, ⟨t, by rw [all 1 0 (by omega) (by omega) (by omega) (by omega) (by omega) (by omega) (by omega) (by omega) (by omega) (by omega)]; exact h1, ht⟩, n1, by rw [R_go_o (by omega) (by omega) (by omega) (by omega)]; exact v1, v2, fun i hi => ?_⟩, ⟨fun u j z1 z2 z3 z4 z5 z6 => ?_, fun u j z1 z2 => all u j (by omega) (by omega) (by omega) (by omega) (by omega) (by omega) (by omega) (by omega) (by omega) (by omega), fun u j z1 z2 z3 z4 => by rw [ll]; exact lF u j z2 z3 (by omega)⟩, all 34 0 (by omega) (by omega) (by omega) (by omega) (by omega) (by omega) (by omega) (by omega) (by omega) (by omega)⟩
    · refine MI.of MIF ?_ ?_ (fun s => ?_) (fun u j _ => by rw [ll])
      · rw [R_go_o (by omega) (by omega) (by omega) (by omega), oK _ _ (by omega), ob _ _ (by omega) (by omega)]
      · rw [R_go_o (by omega) (by omega) (by omega) (by omega), oK _ _ (by omega), ob _ _ (by omega) (by omega)]
      · rw [R_go_o (by omega) (by omega) (by omega) (by omega), oK _ _ (by omega), ob _ _ (by omega) (by omega)]
    · rw [R_go_o (by omega) (by omega) (by omega) (by omega), R_go_o (by omega) (by omega) (by omega) (by omega)]
      exact v3 i hi
    · have a65 : u ≠ 2 := fun y => by rw [y] at z1; exact absurd z1 (by decide)
      exact all u j (by omega) (by omega) a65 (by omega) (by omega) z4 z5 (by omega) (by omega) (by omega)
  · -- it came before
    rename_i e33
    have kl : R_ksf g nk 0 < nk := by have := R_ksf_r (f := g) nk 0 e33; omega
    obtain ⟨j0, hj0⟩ : ∃ j0, j0 = R_ksf g nk 0 := ⟨_, rfl⟩
    rw [← hj0] at kl ⊢
    obtain ⟨⟨N, hN, hN3⟩, -⟩ := hk2.2.2 j0 kl
    obtain ⟨K, hK'⟩ : ∃ K, K = R_aga g j0 := ⟨_, rfl⟩
    rw [← hK']
    have oK : ∀ u j, u ≠ 65 → u ≠ 66 → K.1 u j = g.1 u j := fun u j z1 z2 => by rw [hK']; exact aga_o z1 z2
    have K66 : (K.1 66 0).toInt = (N : Int) := by rw [hK', aga_66]; exact hN
    have lK : K.2 = g.2 := by rw [hK']; exact aga_l
    have okK : R_ok K := okg.of (oK _ _ (by omega) (by omega)) (fun c => oK _ _ (by omega) (by omega)) (fun c => oK _ _ (by omega) (by omega))
    have al2 : ∀ u j, u ≠ 65 → u ≠ 66 → u ≠ 2 → u ≠ 31 → u ≠ 32 → (R_go K cv).1 u j = g.1 u j := fun u j z1 z2 z3 z4 z5 => by rw [R_go_o z1 z3 z4 z5, oK u j z1 z2]
    have all : ∀ u j, u ≠ 65 → u ≠ 66 → u ≠ 2 → u ≠ 31 → u ≠ 32 → ¬ (59 ≤ u ∧ u ≤ 64) → (R_go K cv).1 u j = f.1 u j := fun u j z1 z2 z3 z4 z5 z7 => by rw [al2 u j z1 z2 z3 z4 z5, og u j z7]
    have ll : (R_go K cv).2 = f.2 := by rw [R_go_l, lK, lg]
    refine ⟨⟨hS.ofx (R_go_ok okK K66 (by omega) hcv hc8) (fun u j hu => all u j (by simp only [List.mem_cons, List.not_mem_nil, or_false] at hu; omega) (by simp only [List.mem_cons, List.not_mem_nil, or_false] at hu; omega) (by simp only [List.mem_cons, List.not_mem_nil, or_false] at hu; omega) (by simp only [List.mem_cons, List.not_mem_nil, or_false] at hu; omega) (by simp only [List.mem_cons, List.not_mem_nil, or_false] at hu; omega) (by simp only [List.mem_cons, List.not_mem_nil, or_false] at hu; omega)) (fun j => by rw [ll]), MI.of hM (all _ _ (by omega) (by omega) (by omega) (by omega) (by omega) (by omega)) (all _ _ (by omega) (by omega) (by omega) (by omega) (by omega) (by omega)) (fun s => all _ _ (by omega) (by omega) (by omega) (by omega) (by omega) (by omega)) (fun u j _ => by rw [ll]), hK.of (fun u j hu => all u j (by omega) (by omega) (by omega) (by omega) (by omega) (by omega)), by rw [all 35 0 (by omega) (by omega) (by omega) (by omega) (by omega) (by omega)]; exact h35, ⟨t, by rw [all 1 0 (by omega) (by omega) (by omega) (by omega) (by omega) (by omega)]; exact h1, ht⟩, nk, by rw [al2 59 0 (by omega) (by omega) (by omega) (by omega) (by omega)]; exact hnk, by omega, fun i hi => by rw [al2 64 i (by omega) (by omega) (by omega) (by omega) (by omega), al2 1 0 (by omega) (by omega) (by omega) (by omega) (by omega)]; exact s3 i hi⟩, ⟨fun u j z1 z2 z3 z4 z5 z6 => ?_, fun u j z1 z2 => all u j (by omega) (by omega) (by omega) (by omega) (by omega) (by omega), fun u j _ _ _ _ => by rw [ll]⟩, all 34 0 (by omega) (by omega) (by omega) (by omega) (by omega) (by omega)⟩
    have a65 : u ≠ 2 := fun y => by rw [y] at z1; exact absurd z1 (by decide)
    exact all u j (by omega) (by omega) a65 (by omega) (by omega) z5
end JxCrdpure
