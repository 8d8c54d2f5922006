/-! WHAT THE REFERENCE KNOWS: the message's own attributes -/
def SIa (o : Nat → Int32) (l : List Nat) (g : jx_F) : Prop := (∀ k, k < 12 → g.1 79 k = Int32.ofNat (cnt o (kc k) l) ∧ g.1 77 k = Int32.ofNat (fa o (kc k) l) ∧ (fst o (kc k) l ≠ 0 → g.1 78 k = Int32.ofNat (sz o (fst o (kc k) l) - 8))) ∧ ((g.1 80 0 = 1 ∧ ga o l) ∨ (g.1 80 0 = 0 ∧ ¬ ga o l))
section JxRefspec2
variable {o : Nat → Int32} {b k d p e s : Nat} {f g : jx_F} {x : Int32 × Int32} {l : List Nat} {c G : Int32}
theorem SIa.of (h : SIa o l f) (e : ∀ q j, q = 77 ∨ q = 78 ∨ q = 79 ∨ q = 80 → g.1 q j = f.1 q j) : SIa o l g := by
  refine ⟨fun k hk => ?_, ?_⟩
  · rw [e 79 k (by omega), e 77 k (by omega), e 78 k (by omega)]
    exact h.1 k hk
  · rw [e 80 0 (by omega)]
    exact h.2
theorem kc_k : ∀ k, k < 12 → kdc (kc k) ≠ 0 := by decide +kernel
theorem ga_app : ga o (l ++ [p]) ↔ ga o l ∨ (hit o 258 p = true ∧ (w4 o (p + 8) = 4 ∨ w4 o (p + 8) = -1)) := by
  unfold ga
  constructor
  · rintro ⟨q, h1, h2⟩
    rcases List.mem_append.mp h1 with h1 | h1
    · exact Or.inl ⟨q, h1, h2⟩
    · have : q = p := by simpa using h1
      rw [this] at h2
      exact Or.inr h2
  · rintro (⟨q, h1, h2⟩ | h2)
    · exact ⟨q, List.mem_append_left _ h1, h2⟩
    · exact ⟨p, List.mem_append_right _ List.mem_cons_self, h2⟩
theorem fa_app (hl : ∀ q, q ∈ l → q ≠ 0) (hp : p ≠ 0) : fa o c (l ++ [p]) = if fst o c l = 0 then (if hit o c p = true then p + 8 else 0) else fa o c l := by
  unfold fa
  rw [fst_app l hl]
  by_cases h1 : fst o c l = 0
  · rw [if_pos h1, if_pos h1]
    by_cases h2 : hit o c p = true
    · rw [if_pos h2, if_pos h2, if_neg hp]
    · rw [if_neg h2, if_neg h2, if_pos rfl]
  · rw [if_neg h1, if_neg h1, if_neg h1]
theorem SIa.skip (h : SIa o l f) (hl : ∀ q, q ∈ l → q ≠ 0) (hp : p ≠ 0) (h0 : knd o p = 0) : SIa o (l ++ [p]) f := by
  have nh : ∀ c, kdc c ≠ 0 → hit o c p = false := fun c hc => no_hit (by rw [h0]; exact fun z => hc z.symm)
  refine ⟨fun k hk => ?_, ?_⟩
  · have hn := nh (kc k) (kc_k k hk)
    obtain ⟨a1, a2, a3⟩ := h.1 k hk
    rw [cnt_app, fa_app hl hp, fst_app l hl, hn]
    refine ⟨by rw [a1]; rfl, ?_, ?_⟩
    · rw [a2]
      unfold fa
      by_cases z : fst o (kc k) l = 0
      · rw [if_pos z, if_pos z]; rfl
      · rw [if_neg z, if_neg z]
    · by_cases z : fst o (kc k) l = 0
      · rw [if_pos z]
        intro w
        exact absurd rfl w
      · rw [if_neg z]
        exact a3
  · rw [ga_app, nh 258 (by decide)]
    rcases h.2 with ⟨z1, z2⟩ | ⟨z1, z2⟩
    · exact Or.inl ⟨z1, Or.inl z2⟩
    · exact Or.inr ⟨z1, fun w => by rcases w with w | w; exact z2 w; exact absurd w.1 (by simp)⟩
theorem sw0_v {k : Nat} (hk : k < 12) : (R_sw f o b 0 p).1 79 k = (if f.1 76 k = w4 o p then f.1 79 k + 1 else f.1 79 k) ∧ (R_sw f o b 0 p).1 77 k = (if f.1 76 k = w4 o p ∧ f.1 79 k = 0 then Int32.ofNat (p + 8) else f.1 77 k) ∧ (R_sw f o b 0 p).1 78 k = (if f.1 76 k = w4 o p ∧ f.1 79 k = 0 then Int32.ofNat (sz o p - 8) else f.1 78 k) := by
  obtain ⟨c, hc⟩ : ∃ c, c = w4 o p := ⟨_, rfl⟩
  obtain ⟨y, hy⟩ : ∃ y, y = Int32.ofNat (p + 8) := ⟨_, rfl⟩
  obtain ⟨z, hz⟩ : ∃ z, z = Int32.ofNat (sz o p - 8) := ⟨_, rfl⟩
  have e : ∀ q, q = 77 ∨ q = 78 ∨ q = 79 → (R_sw f o b 0 p).1 q k = (R_se1 f c y z k).1 q k := fun q hq => by
    unfold R_sw R_see R_seA
    rw [if_pos rfl, ← hc, ← hy, ← hz]
    split
    · rw [rf_ui_ne (by omega), R_sek_v 12 0 f (by omega) (by omega) q hq]
    · rw [R_sek_v 12 0 f (by omega) (by omega) q hq]
  rw [e 79 (by omega), e 77 (by omega), e 78 (by omega), ← hc, ← hy, ← hz]
  unfold R_se1
  by_cases h1 : f.1 76 k = c
  · rw [if_pos h1, if_pos h1]
    by_cases h2 : f.1 79 k = 0
    · rw [if_pos h2, if_pos ⟨h1, h2⟩, if_pos ⟨h1, h2⟩]
      exact ⟨rf_ui_eq, by rw [rf_ui_ne (by omega), rf_ui_ne (by omega), rf_ui_eq], by rw [rf_ui_ne (by omega), rf_ui_eq]⟩
    · rw [if_neg h2, if_neg (fun w => h2 w.2), if_neg (fun w => h2 w.2)]
      exact ⟨rf_ui_eq, rf_ui_ne (by omega), rf_ui_ne (by omega)⟩
  · rw [if_neg h1, if_neg h1, if_neg (fun w => h1 w.1), if_neg (fun w => h1 w.1)]
    exact ⟨rfl, rfl, rfl⟩
theorem sw0_80 (ho : oct f b = o) : (R_sw f o b 0 p).1 80 0 = if w4 o p = 258 then (if f.1 80 0 = 0 ∧ ¬ w4 o (p + 8) = 4 ∧ ¬ w4 o (p + 8) = -1 then 0 else 1) else f.1 80 0 := by
  unfold R_sw R_see R_seA
  rw [if_pos rfl]
  obtain ⟨g, hg⟩ : ∃ g, g = R_sek (w4 o p) (Int32.ofNat (p + 8)) (Int32.ofNat (sz o p - 8)) 12 0 f := ⟨_, rfl⟩
  rw [← hg]
  have og : oct g b = o := by rw [← ho]; funext j; rw [hg]; exact R_sek_o (by omega) 12 0 f
  have g80 : g.1 80 0 = f.1 80 0 := by rw [hg]; exact R_sek_o (by omega) 12 0 f
  rw [og, g80]
  split
  · rw [rf_ui_eq]
  · exact g80
theorem SIa.step (h : SIa o l f) (hK : ∀ k, k < 12 → f.1 76 k = kc k) (hl : ∀ q, q ∈ l → q ≠ 0) (hln : l.length ≤ 1000) (hp : p ≠ 0) (h0 : ¬ knd o p = 0) (ho : oct f b = o) : SIa o (l ++ [p]) (R_sw f o b 0 p) := by
  refine ⟨fun k hk => ?_, ?_⟩
  · obtain ⟨v1, v2, v3⟩ := sw0_v (f := f) (o := o) (b := b) (p := p) hk
    obtain ⟨a1, a2, a3⟩ := h.1 k hk
    have hh : f.1 76 k = w4 o p ↔ hit o (kc k) p = true := by
      rw [knd_hit h0, hK k hk]
      exact ⟨fun z => z.symm, fun z => z.symm⟩
    have cl := cnt_le (o := o) (c := kc k) l
    have hz : f.1 79 k = 0 ↔ fst o (kc k) l = 0 := by
      rw [a1, fst_0 l hl]
      exact ⟨fun z => ofN_inj (y := 0) (by omega) (by omega) z, fun z => by rw [z]; rfl⟩
    have u1 := cnt_app (o := o) (c := kc k) (p := p) l
    have u2 := fa_app (o := o) (c := kc k) hl hp
    have u3 := fst_app (o := o) (c := kc k) (p := p) l hl
    by_cases c1 : hit o (kc k) p = true
    · rw [if_pos (hh.mpr c1)] at v1
      rw [if_pos c1] at u1 u2 u3
      rw [v1, u1]
      refine ⟨by rw [a1]; exact nadd rfl (by omega), ?_, ?_⟩
      · by_cases c2 : fst o (kc k) l = 0
        · rw [if_pos ⟨hh.mpr c1, hz.mpr c2⟩] at v2
          rw [if_pos c2] at u2
          rw [v2, u2]
        · rw [if_neg (fun w => c2 (hz.mp w.2))] at v2
          rw [if_neg c2] at u2
          rw [v2, u2]
          exact a2
      · by_cases c2 : fst o (kc k) l = 0
        · rw [if_pos ⟨hh.mpr c1, hz.mpr c2⟩] at v3
          rw [if_pos c2] at u3
          rw [v3, u3]
          exact fun _ => rfl
        · rw [if_neg (fun w => c2 (hz.mp w.2))] at v3
          rw [if_neg c2] at u3
          rw [v3, u3]
          exact a3
    · rw [if_neg (fun w => c1 (hh.mp w))] at v1
      rw [if_neg (fun w => c1 (hh.mp w.1))] at v2 v3
      rw [if_neg c1] at u1 u2 u3
      rw [v1, v2, v3, u1]
      refine ⟨a1, ?_, ?_⟩
      · rw [a2, u2]
        by_cases z : fst o (kc k) l = 0
        · rw [if_pos z]
          unfold fa
          rw [if_pos z]
        · rw [if_neg z]
      · rw [u3]
        by_cases z : fst o (kc k) l = 0
        · rw [if_pos z]
          intro w
          exact absurd rfl w
        · rw [if_neg z]
          exact a3
  · rw [sw0_80 ho, ga_app]
    have hh : w4 o p = 258 ↔ hit o 258 p = true := (knd_hit h0).symm
    by_cases c1 : w4 o p = 258
    · rw [if_pos c1]
      by_cases c2 : w4 o (p + 8) = 4 ∨ w4 o (p + 8) = -1
      · rw [if_neg (fun w => by rcases c2 with z | z; exact w.2.1 z; exact w.2.2 z)]
        exact Or.inl ⟨rfl, Or.inr ⟨hh.mp c1, c2⟩⟩
      · rcases h.2 with ⟨z1, z2⟩ | ⟨z1, z2⟩
        · rw [if_neg (fun w => by rw [z1] at w; exact absurd w.1 (by decide))]
          exact Or.inl ⟨rfl, Or.inl z2⟩
        · rw [if_pos ⟨z1, fun w => c2 (Or.inl w), fun w => c2 (Or.inr w)⟩]
          exact Or.inr ⟨rfl, fun w => by rcases w with w | w; exact z2 w; exact c2 w.2⟩
    · rw [if_neg c1]
      rcases h.2 with ⟨z1, z2⟩ | ⟨z1, z2⟩
      · exact Or.inl ⟨z1, Or.inl z2⟩
      · exact Or.inr ⟨z1, fun w => by rcases w with w | w; exact z2 w; exact c1 (hh.mpr w.1)⟩
theorem gp_no (hl : ∀ q, q ∈ l → q ≠ 0) (h : hit o G p = false) : gp o G c (l ++ [p]) = gp o G c l := by
  unfold gp
  rw [fst_app l hl, h]
  by_cases z : fst o G l = 0
  · rw [if_pos z, if_pos z]; rfl
  · rw [if_neg z]
theorem gp_old (hl : ∀ q, q ∈ l → q ≠ 0) (h : fst o G l ≠ 0) : gp o G c (l ++ [p]) = gp o G c l := by
  unfold gp
  rw [fst_app l hl, if_neg h]
theorem gp_new (hl : ∀ q, q ∈ l → q ≠ 0) (hp : p ≠ 0) (h : fst o G l = 0) (hh : hit o G p = true) : gp o G c (l ++ [p]) = fa o c (inr o p) := by
  unfold gp
  rw [fst_app l hl, if_pos h, if_pos hh, if_neg hp]
theorem gp_0 (h : fst o G l = 0) : gp o G c l = 0 := by unfold gp; rw [if_pos h]
theorem fa_v {n : Nat} (h : fst o c l = n) : (if n ≠ 0 then Int32.ofNat (n + 8) else 0) = Int32.ofNat (fa o c l) := by
  unfold fa
  rw [h]
  by_cases z : n = 0
  · rw [if_neg (fun w => w z), if_pos z]; rfl
  · rw [if_pos z, if_neg z]
/-- a group that was gone through -/
theorem SI.grp {f2 f3 : jx_F} (h : SI o l f) (hK : ∀ k, k < 12 → f.1 76 k = kc k) (hl : ∀ q, q ∈ l → q ≠ 0) (hln : l.length ≤ 1000) (hp : p ≠ 0) (h5 : knd o p = 5) (ho : oct f b = o) (hf2 : f2 = R_grp f o b 0 p) (hg : gset f2 o (inr o p) f3) (hA : ∀ q j, q = 77 ∨ q = 78 ∨ q = 79 ∨ q = 80 → f3.1 q j = f2.1 q j) : SI o (l ++ [p]) f3 := by
  have h0 : ¬ knd o p = 0 := by omega
  have sa : SIa o l f := ⟨h.1, h.2.1⟩
  have s1 := sa.step hK hl hln hp h0 ho
  have g7 : ∀ q j, ¬ ((q = 85 ∨ q = 86 ∨ q = 87) ∧ j = 1) → f2.1 q j = (R_sw f o b 0 p).1 q j := fun q j hq => by
    rw [hf2]
    unfold R_grp
    rw [rf_ui_ne (by omega), rf_ui_ne (by omega), rf_ui_ne (by omega)]
  have s2 : SIa o (l ++ [p]) f3 := s1.of (fun q j hq => by rw [hA q j hq, g7 q j (by omega)])
  have w8 : ∀ q, 81 ≤ q → q ≤ 84 → f2.1 q 0 = f.1 q 0 := fun q q1 q2 => by
    rw [g7 q 0 (by omega)]
    unfold R_sw R_see R_seA
    rw [if_pos rfl]
    split
    · rw [rf_ui_ne (by omega), R_sek_o (by omega)]
    · rw [R_sek_o (by omega)]
  have v87 : f2.1 87 1 = R_gof (R_sw f o b 0 p) (w4 o p) 0 := by rw [hf2]; exact R_grp_v.2.2
  obtain ⟨-, -, i81, i82, i83, i84⟩ := h
  obtain ⟨j81, j82, j83, j84⟩ := hg
  rw [w8 81 (by omega) (by omega)] at j81 j82
  rw [w8 82 (by omega) (by omega)] at j82
  rw [w8 83 (by omega) (by omega)] at j83
  rw [w8 84 (by omega) (by omega)] at j84
  have cl : ∀ c, cnt o c (l ++ [p]) ≤ 1001 := fun c => by
    have := cnt_le (o := o) (c := c) (l ++ [p])
    rw [List.length_append, List.length_cons, List.length_nil] at this
    omega
  have first : ∀ k, k < 12 → hit o (kc k) p = true → ((R_sw f o b 0 p).1 79 k = 1 ↔ fst o (kc k) l = 0) := fun k hk hh => by
    rw [(s1.1 k hk).1, fst_0 l hl]
    have e := cnt_app (o := o) (c := kc k) (p := p) l
    rw [if_pos hh] at e
    have := cl (kc k)
    constructor
    · intro z
      have := ofN_inj (y := 1) (by omega) (by omega) z
      omega
    · intro z
      rw [e, z]; rfl
  have nine : ∀ y : Int32, ¬ f2.1 87 1 = y → ∀ (P : Prop), ¬ (f2.1 87 1 = y ∧ P) := fun y hy P w => hy w.1
  have keep : ∀ (y : Int32), f2.1 87 1 = y → y = -1 → (f3.1 81 0 = f.1 81 0 ∧ f3.1 82 0 = f.1 82 0 ∧ f3.1 83 0 = f.1 83 0 ∧ f3.1 84 0 = f.1 84 0) := fun y hy e => by
    rw [e] at hy
    rw [hy] at j81 j82 j83 j84
    rw [if_neg (fun w => absurd w.1 (by decide))] at j81 j82 j83 j84
    exact ⟨j81, j82, j83, j84⟩
  have c9 : kc 9 = 443 := by decide
  have c10 : kc 10 = 437 := by decide
  have c11 : kc 11 = 446 := by decide
  refine ⟨s2.1, s2.2, ?_⟩
  by_cases e443 : w4 o p = 443
  · have hh : hit o 443 p = true := (knd_hit h0).mpr e443
    have n437 : hit o 437 p = false := by cases z : hit o 437 p with | false => rfl | true => exact absurd ((knd_hit h0).mp z) (by rw [e443]; decide)
    have n446 : hit o 446 p = false := by cases z : hit o 446 p with | false => rfl | true => exact absurd ((knd_hit h0).mp z) (by rw [e443]; decide)
    rw [gp_no hl n437, gp_no hl n446]
    have fi := first 9 (by omega) (by rw [c9]; exact hh)
    rw [c9] at fi
    unfold R_gof at v87
    rw [if_pos rfl, if_pos e443] at v87
    by_cases z : fst o 443 l = 0
    · rw [if_pos (fi.mpr z)] at v87
      rw [v87] at j81 j82 j83 j84
      have i81' : f.1 81 0 = 0 := by rw [i81, gp_0 z]; rfl
      rw [gp_new hl hp z hh]
      rw [if_neg (fun w => absurd w.1 (by decide))] at j83 j84
      refine ⟨?_, fun w => ?_, by rw [j83]; exact i83, by rw [j84]; exact i84⟩
      · rw [j81]
        by_cases y : fst o 444 (inr o p) = 0
        · rw [if_neg (fun w => w.2.2 y), i81']
          unfold fa
          rw [if_pos y]
          rfl
        · rw [if_pos ⟨rfl, i81', y⟩]
          unfold fa
          rw [if_neg y]
      · have y : fst o 444 (inr o p) ≠ 0 := fun y => w (by unfold fa; rw [if_pos y])
        rw [j82, if_pos ⟨rfl, i81', y⟩]
        unfold fa
        rw [if_neg y, Nat.add_sub_cancel]
    · rw [if_neg (fun w => z (fi.mp w))] at v87
      obtain ⟨k1, k2, k3, k4⟩ := keep _ v87 rfl
      rw [gp_old hl z, k1, k2, k3, k4]
      exact ⟨i81, i82, i83, i84⟩
  · have n443 : hit o 443 p = false := by cases z : hit o 443 p with | false => rfl | true => exact absurd ((knd_hit h0).mp z) e443
    rw [gp_no hl n443]
    unfold R_gof at v87
    rw [if_pos rfl, if_neg e443] at v87
    by_cases e437 : w4 o p = 437
    · have hh : hit o 437 p = true := (knd_hit h0).mpr e437
      have n446 : hit o 446 p = false := by cases z : hit o 446 p with | false => rfl | true => exact absurd ((knd_hit h0).mp z) (by rw [e437]; decide)
      rw [gp_no hl n446]
      have fi := first 10 (by omega) (by rw [c10]; exact hh)
      rw [c10] at fi
      rw [if_pos e437] at v87
      by_cases z : fst o 437 l = 0
      · rw [if_pos (fi.mpr z)] at v87
        rw [v87] at j81 j82 j83 j84
        have i83' : f.1 83 0 = 0 := by rw [i83, gp_0 z]; rfl
        rw [gp_new hl hp z hh]
        rw [if_neg (fun w => absurd w.1 (by decide))] at j81 j82 j84
        refine ⟨by rw [j81]; exact i81, by rw [j82]; exact i82, ?_, by rw [j84]; exact i84⟩
        rw [j83]
        by_cases y : fst o 421 (inr o p) = 0
        · rw [if_neg (fun w => w.2.2 y), i83']
          unfold fa
          rw [if_pos y]
          rfl
        · rw [if_pos ⟨rfl, i83', y⟩]
          unfold fa
          rw [if_neg y]
      · rw [if_neg (fun w => z (fi.mp w))] at v87
        obtain ⟨k1, k2, k3, k4⟩ := keep _ v87 rfl
        rw [gp_old hl z, k1, k2, k3, k4]
        exact ⟨i81, i82, i83, i84⟩
    · have n437 : hit o 437 p = false := by cases z : hit o 437 p with | false => rfl | true => exact absurd ((knd_hit h0).mp z) e437
      rw [gp_no hl n437]
      rw [if_neg e437] at v87
      by_cases e446 : w4 o p = 446
      · have hh : hit o 446 p = true := (knd_hit h0).mpr e446
        have fi := first 11 (by omega) (by rw [c11]; exact hh)
        rw [c11] at fi
        rw [if_pos e446] at v87
        by_cases z : fst o 446 l = 0
        · rw [if_pos (fi.mpr z)] at v87
          rw [v87] at j81 j82 j83 j84
          have i84' : f.1 84 0 = 0 := by rw [i84, gp_0 z]; rfl
          rw [gp_new hl hp z hh]
          rw [if_neg (fun w => absurd w.1 (by decide))] at j81 j82 j83
          refine ⟨by rw [j81]; exact i81, by rw [j82]; exact i82, by rw [j83]; exact i83, ?_⟩
          rw [j84]
          by_cases y : fst o 421 (inr o p) = 0
          · rw [if_neg (fun w => w.2.2 y), i84']
            unfold fa
            rw [if_pos y]
            rfl
          · rw [if_pos ⟨rfl, i84', y⟩]
            unfold fa
            rw [if_neg y]
        · rw [if_neg (fun w => z (fi.mp w))] at v87
          obtain ⟨k1, k2, k3, k4⟩ := keep _ v87 rfl
          rw [gp_old hl z, k1, k2, k3, k4]
          exact ⟨i81, i82, i83, i84⟩
      · have n446 : hit o 446 p = false := by cases z : hit o 446 p with | false => rfl | true => exact absurd ((knd_hit h0).mp z) e446
        rw [gp_no hl n446]
        rw [if_neg e446] at v87
        obtain ⟨k1, k2, k3, k4⟩ := keep _ v87 rfl
        rw [k1, k2, k3, k4]
        exact ⟨i81, i82, i83, i84⟩
theorem sc_none (h : R_sc o b k d p e f = (false, g)) : (scs o k d p e 0).1 = none := by
  cases z : (scs o k d p e 0).1 with
  | none => rfl
  | some x =>
    have := ((sc_scs (b := b) k d p e 0 f).1 x z).1
    rw [h] at this
    exact absurd this (by simp)
theorem sc_SI : ∀ (k p e : Nat) (f g : jx_F) (l : List Nat), SI o l f → (∀ k, k < 12 → f.1 76 k = kc k) → (∀ q, q ∈ l → q ≠ 0) → l.length ≤ p → e - p < k → e ≤ 600 → p ≠ 0 → oct f b = o → R_sc o b k 0 p e f = (false, g) → SI o (l ++ tps o k p e) g
  | 0, _, _, _, _, _, _, _, _, _, h, _, _, _, _ => by omega
  | k + 1, p, e, f, g, l, hS, hK, hl, hln, hk, he, hp, ho, h => by
    by_cases hep : e ≤ p
    · rw [sc_end hep] at h
      have eg : f = g := congrArg Prod.snd h
      rw [tp_end hep, List.append_nil, ← eg]
      exact hS
    · rw [tp_s hep, show l ++ p :: tps o k (p + pad (sz o p)) e = (l ++ [p]) ++ tps o k (p + pad (sz o p)) e by simp]
      have hl' : ∀ q, q ∈ l ++ [p] → q ≠ 0 := fun q hq => by
        rcases List.mem_append.mp hq with z | z
        · exact hl q z
        · have : q = p := by simpa using z
          rw [this]; exact hp
      cases hx : ck1 o 0 p e with
      | some y =>
        rw [sc_flt hep hx] at h
        exact absurd (congrArg Prod.fst h) (by simp)
      | none =>
        obtain ⟨c1, c2, c3, -⟩ := ck1_ok hx
        have hpd := pad_le (n := sz o p)
        have hln' : (l ++ [p]).length ≤ p + pad (sz o p) := by rw [List.length_append, List.length_cons, List.length_nil]; omega
        by_cases h0 : knd o p = 0
        · rw [sc_n0 hep hx h0] at h
          refine sc_SI k _ _ f g (l ++ [p]) ?_ hK hl' hln' (by omega) he (by omega) ho h
          have s2 := SIa.skip (p := p) ⟨hS.1, hS.2.1⟩ hl hp h0
          have nh : ∀ c, kdc c ≠ 0 → hit o c p = false := fun c hc => no_hit (by rw [h0]; exact fun z => hc z.symm)
          refine ⟨s2.1, s2.2, ?_⟩
          rw [gp_no hl (nh 443 (by decide)), gp_no hl (nh 437 (by decide)), gp_no hl (nh 446 (by decide))]
          exact hS.2.2
        · by_cases h5 : knd o p = 5
          · cases ht : (R_sc o b k 1 (p + 8) (p + sz o p) (R_grp f o b 0 p)).1 with
            | true =>
              rw [sc_n5t hep hx h5 ht] at h
              exact absurd (ht.symm.trans (congrArg Prod.fst h)) (by simp)
            | false =>
              rw [sc_n5f hep hx h5 ht] at h
              obtain ⟨f3, hf3⟩ : ∃ f3, f3 = (R_sc o b k 1 (p + 8) (p + sz o p) (R_grp f o b 0 p)).2 := ⟨_, rfl⟩
              have hR : R_sc o b k 1 (p + 8) (p + sz o p) (R_grp f o b 0 p) = (false, f3) := Prod.ext ht hf3.symm
              rw [← hf3] at h
              have hn := sc_none hR
              have hwf := scs_wf k 1 (p + 8) (p + sz o p) 0 (scs o k 1 (p + 8) (p + sz o p) 0).2 (Prod.ext hn rfl)
              have gs := sc_dC k (p + 8) (p + sz o p) (R_grp f o b 0 p) f3 (by omega) (by omega) (by omega) hR
              rw [tps_fuel k (sz o p) _ _ hwf (by omega) (by omega)] at gs
              obtain ⟨a1, a2, a3⟩ := sc_fr (o := o) (b := b) k 1 (p + 8) (p + sz o p) (R_grp f o b 0 p)
              rw [hR] at a1 a2 a3
              have s2 := hS.grp hK hl (by omega) hp h5 ho rfl gs (fun q j hq => by rw [hf3]; exact sc_dA k 1 _ _ _ (by omega) q j hq)
              refine sc_SI k _ _ f3 g (l ++ [p]) s2 (fun k' hk' => ?_) hl' hln' (by omega) he (by omega) ?_ h
              · rw [(a3 rfl).1 76 k' (by omega), R_grp_o (by omega) (by omega)]
                exact hK k' hk'
              · rw [← ho]
                funext j
                show f3.1 29 _ = f.1 29 _
                rw [a1 29 _ (by omega), R_grp_o (by omega) (by omega)]
          · rw [sc_nk hep hx h0 h5] at h
            have s1 := SIa.step (p := p) (b := b) ⟨hS.1, hS.2.1⟩ hK hl (by omega) hp h0 ho
            have w8 : ∀ q, 81 ≤ q → q ≤ 84 → (R_sw f o b 0 p).1 q 0 = f.1 q 0 := fun q q1 q2 => by
              unfold R_sw R_see R_seA
              rw [if_pos rfl]
              split
              · rw [rf_ui_ne (by omega), R_sek_o (by omega)]
              · rw [R_sek_o (by omega)]
            have nh : ∀ c, kdc c = 5 → hit o c p = false := fun c hc => no_hit (by rw [hc]; exact h5)
            refine sc_SI k _ _ (R_sw f o b 0 p) g (l ++ [p]) ⟨s1.1, s1.2, ?_⟩ (fun k' hk' => by rw [show (R_sw f o b 0 p).1 76 k' = f.1 76 k' from R_see_o (by omega)]; exact hK k' hk') hl' hln' (by omega) he (by omega) (by rw [← ho]; funext j; exact R_see_o (by omega)) h
            rw [gp_no hl (nh 443 (by decide)), gp_no hl (nh 437 (by decide)), gp_no hl (nh 446 (by decide)), w8 81 (by omega) (by omega), w8 82 (by omega) (by omega), w8 83 (by omega) (by omega), w8 84 (by omega) (by omega)]
            exact hS.2.2
/-- what it knows of the SESSION, also where something is wrong -/
def SE (o : Nat → Int32) (f : jx_F) (s p : Nat) : Prop := ∃ c : Nat, f.1 79 0 = Int32.ofNat c ∧ c ≤ p ∧ (s = 0 ↔ c = 0) ∧ (s ≠ 0 → f.1 77 0 = Int32.ofNat (s + 8) ∧ f.1 78 0 = Int32.ofNat (sz o s - 8) ∧ knd o s = 1 ∧ okz 1 (sz o s - 8) = true ∧ 20 ≤ s ∧ s + sz o s ≤ 600)
theorem SE.of (h : SE o f s p) (e : ∀ q, q = 77 ∨ q = 78 ∨ q = 79 → g.1 q 0 = f.1 q 0) {p' : Nat} (hp : p ≤ p') : SE o g s p' := by
  obtain ⟨c, h1, h2, h3, h4⟩ := h
  exact ⟨c, by rw [e 79 (by omega)]; exact h1, by omega, h3, by rw [e 77 (by omega), e 78 (by omega)]; exact h4⟩
theorem scs_dd : ∀ (k d p e s : Nat), d ≠ 0 → (scs o k d p e s).2 = s
  | 0, _, _, _, _, _ => rfl
  | k + 1, d, p, e, s, hd => by
    by_cases hep : e ≤ p
    · rw [ss_end hep]
    · cases hx : ck1 o d p e with
      | some y => rw [ss_flt hep hx]
      | none =>
        by_cases h5 : knd o p = 5
        · have i1 := scs_dd k (d + 1) (p + 8) (p + sz o p) s (by omega)
          by_cases ht : (scs o k (d + 1) (p + 8) (p + sz o p) s).1 = none
          · rw [ss_n5n hep hx h5 ht, scs_dd k d _ _ _ hd, i1]
          · rw [ss_n5s hep hx h5 ht, i1]
        · rw [ss_nk hep hx h5, scs_dd k d _ _ _ hd, if_neg (by omega)]
theorem sc_SE : ∀ (k p e s : Nat) (f : jx_F), SE o f s p → f.1 76 0 = 263 → 20 ≤ p ∧ p ≤ 603 → e ≤ 600 → e - p < k → SE o (R_sc o b k 0 p e f).2 (scs o k 0 p e s).2 700
  | 0, _, _, _, _, h, _, _, _, h2 => by omega
  | k + 1, p, e, s, f, h, hK, hp, he, hk => by
    by_cases hep : e ≤ p
    · rw [ss_end hep, sc_end hep]
      exact h.of (fun _ _ => rfl) (by omega)
    · cases hx : ck1 o 0 p e with
      | some y =>
        rw [ss_flt hep hx, sc_flt hep hx]
        exact h.of (fun q hq => by show (rf_ui (rf_ui f 74 0 _) 75 0 _).1 q 0 = _; rw [rf_ui_ne (by omega), rf_ui_ne (by omega)]) (by omega)
      | none =>
        obtain ⟨c1, c2, c3, c4, -⟩ := ck1_ok hx
        have hpd := pad_le (n := sz o p)
        by_cases h0 : knd o p = 0
        · rw [sc_n0 hep hx h0, ss_nk hep hx (by omega), if_neg (fun w => w.1 h0)]
          exact sc_SE k _ _ _ _ (h.of (fun _ _ => rfl) (by omega)) hK (by omega) he (by omega)
        · obtain ⟨v1, v2, v3⟩ := sw0_v (f := f) (o := o) (b := b) (p := p) (k := 0) (by omega)
          rw [hK] at v1 v2 v3
          by_cases h5 : knd o p = 5
          · have ne : ¬ (263 : Int32) = w4 o p := fun z => by
              have := hit_kn ((knd_hit (c := 263) h0).mpr z.symm)
              rw [h5] at this
              exact absurd this (by decide)
            rw [if_neg ne] at v1
            rw [if_neg (fun w => ne w.1)] at v2 v3
            have g7 : ∀ q, q = 77 ∨ q = 78 ∨ q = 79 → (R_grp f o b 0 p).1 q 0 = f.1 q 0 := fun q hq => by
              have : (R_grp f o b 0 p).1 q 0 = (R_sw f o b 0 p).1 q 0 := by
                unfold R_grp
                rw [rf_ui_ne (by omega), rf_ui_ne (by omega), rf_ui_ne (by omega)]
              rw [this]
              rcases hq with rfl | rfl | rfl
              · exact v2
              · exact v3
              · exact v1
            have i1 := scs_dd (o := o) k 1 (p + 8) (p + sz o p) s (by omega)
            by_cases ht : (scs o k 1 (p + 8) (p + sz o p) s).1 = none
            · have hf := (sc_scs (b := b) k 1 (p + 8) (p + sz o p) s (R_grp f o b 0 p)).2 ht
              rw [ss_n5n hep hx h5 ht, sc_n5f hep hx h5 hf, i1]
              obtain ⟨a1, a2, a3⟩ := sc_fr (o := o) (b := b) k 1 (p + 8) (p + sz o p) (R_grp f o b 0 p)
              refine sc_SE k _ _ _ _ (h.of (fun q hq => ?_) (by omega)) ?_ (by omega) he (by omega)
              · rw [sc_dA k 1 _ _ _ (by omega) q 0 (by omega), g7 q hq]
              · rw [(a3 hf).1 76 0 (by omega), R_grp_o (by omega) (by omega)]
                exact hK
            · obtain ⟨y, hy⟩ := Option.ne_none_iff_exists'.mp ht
              have hf := ((sc_scs (b := b) k 1 (p + 8) (p + sz o p) s (R_grp f o b 0 p)).1 y hy).1
              rw [ss_n5s hep hx h5 ht, sc_n5t hep hx h5 hf, i1]
              exact h.of (fun q hq => by rw [sc_dA k 1 _ _ _ (by omega) q 0 (by omega), g7 q hq]) (by omega)
          · rw [sc_nk hep hx h0 h5, ss_nk hep hx h5]
            refine sc_SE k _ _ _ _ ?_ (by rw [show (R_sw f o b 0 p).1 76 0 = f.1 76 0 from R_see_o (by omega)]; exact hK) (by omega) he (by omega)
            obtain ⟨c, e1, e2, e3, e4⟩ := h
            by_cases hc : w4 o p = 263
            · have kn : knd o p = 1 := by rw [hit_kn ((knd_hit (c := 263) h0).mpr hc)]; decide
              have okn := c4 h0
              rw [kn] at okn
              rw [if_pos hc.symm] at v1
              by_cases s0 : s = 0
              · have z : f.1 79 0 = 0 := by rw [e1, e3.mp s0]; rfl
                rw [if_pos ⟨hc.symm, z⟩] at v2 v3
                rw [if_pos ⟨h0, hc, rfl, s0⟩]
                exact ⟨c + 1, by rw [v1, e1]; exact nadd rfl (by omega), by omega, by omega, fun _ => ⟨v2, v3, kn, okn, hp.1, by omega⟩⟩
              · have z : ¬ f.1 79 0 = 0 := by rw [e1]; exact ofN_ne (fun w => s0 (e3.mpr w)) (by omega)
                rw [if_neg (fun w => z w.2)] at v2 v3
                rw [if_neg (fun w => s0 w.2.2.2)]
                refine ⟨c + 1, by rw [v1, e1]; exact nadd rfl (by omega), by omega, by omega, fun w => ?_⟩
                rw [v2, v3]
                exact e4 w
            · rw [if_neg (fun w => hc w.symm)] at v1
              rw [if_neg (fun w => hc w.1.symm)] at v2 v3
              rw [if_neg (fun w => hc w.2.1)]
              exact ⟨c, by rw [v1]; exact e1, by omega, e3, fun w => by rw [v2, v3]; exact e4 w⟩
end JxRefspec2
