/-! WHAT THE REFERENCE KNOWS when it has gone through the attributes -/
def kc (k : Nat) : Int32 := kps.getD k 0
def fa (o : Nat → Int32) (c : Int32) (l : List Nat) : Nat := if fst o c l = 0 then 0 else fst o c l + 8
def gp (o : Nat → Int32) (g c : Int32) (l : List Nat) : Nat := if fst o g l = 0 then 0 else fa o c (inr o (fst o g l))
def ga (o : Nat → Int32) (l : List Nat) : Prop := ∃ p, p ∈ l ∧ hit o 258 p = true ∧ (w4 o (p + 8) = 4 ∨ w4 o (p + 8) = -1)
/-- what it keeps, by the places that it went through -/
def SI (o : Nat → Int32) (l : List Nat) (g : jx_F) : Prop := (∀ k, k < 12 → g.1 79 k = Int32.ofNat (cnt o (kc k) l) ∧ g.1 77 k = Int32.ofNat (fa o (kc k) l) ∧ (fst o (kc k) l ≠ 0 → g.1 78 k = Int32.ofNat (sz o (fst o (kc k) l) - 8))) ∧ ((g.1 80 0 = 1 ∧ ga o l) ∨ (g.1 80 0 = 0 ∧ ¬ ga o l)) ∧ g.1 81 0 = Int32.ofNat (gp o 443 444 l) ∧ (gp o 443 444 l ≠ 0 → g.1 82 0 = Int32.ofNat (sz o (gp o 443 444 l - 8) - 8)) ∧ g.1 83 0 = Int32.ofNat (gp o 437 421 l) ∧ g.1 84 0 = Int32.ofNat (gp o 446 421 l)
section JxRefspec
variable {o : Nat → Int32} {b k d p e s : Nat} {f g : jx_F} {x : Int32 × Int32} {l : List Nat} {c : Int32}
theorem sc_end (h : e ≤ p) : R_sc o b (k + 1) d p e f = (false, f) := by
  show (if _ then _ else _) = _
  rw [if_pos h]
theorem sc_flt (h : ¬ e ≤ p) (hx : ck1 o d p e = some x) : R_sc o b (k + 1) d p e f = (true, rf_ui (rf_ui f 74 0 x.1) 75 0 x.2) := by
  show (if _ then _ else _) = _
  rw [if_neg h, hx]
theorem sc_n0 (h : ¬ e ≤ p) (hx : ck1 o d p e = none) (h0 : knd o p = 0) : R_sc o b (k + 1) d p e f = R_sc o b k d (p + pad (sz o p)) e f := by
  show (if _ then _ else _) = _
  rw [if_neg h, hx]
  show (if _ then _ else _) = _
  rw [if_pos h0]
theorem sc_nk (h : ¬ e ≤ p) (hx : ck1 o d p e = none) (h0 : ¬ knd o p = 0) (h5 : ¬ knd o p = 5) : R_sc o b (k + 1) d p e f = R_sc o b k d (p + pad (sz o p)) e (R_sw f o b d p) := by
  show (if _ then _ else _) = _
  rw [if_neg h, hx]
  show (if _ then _ else _) = _
  rw [if_neg h0, if_neg h5]
theorem sc_n5t (h : ¬ e ≤ p) (hx : ck1 o d p e = none) (h5 : knd o p = 5) (ht : (R_sc o b k (d + 1) (p + 8) (p + sz o p) (R_grp f o b d p)).1 = true) : R_sc o b (k + 1) d p e f = R_sc o b k (d + 1) (p + 8) (p + sz o p) (R_grp f o b d p) := by
  show (if _ then _ else _) = _
  rw [if_neg h, hx]
  show (if _ then _ else _) = _
  rw [if_neg (by omega), if_pos h5, if_pos ht]
theorem sc_n5f (h : ¬ e ≤ p) (hx : ck1 o d p e = none) (h5 : knd o p = 5) (ht : (R_sc o b k (d + 1) (p + 8) (p + sz o p) (R_grp f o b d p)).1 = false) : R_sc o b (k + 1) d p e f = R_sc o b k d (p + pad (sz o p)) e (R_sc o b k (d + 1) (p + 8) (p + sz o p) (R_grp f o b d p)).2 := by
  show (if _ then _ else _) = _
  rw [if_neg h, hx]
  show (if _ then _ else _) = _
  rw [if_neg (by omega), if_pos h5, if_neg (by rw [ht]; simp)]
theorem ss_end (h : e ≤ p) : scs o (k + 1) d p e s = (none, s) := by
  show (if _ then _ else _) = _
  rw [if_pos h]
theorem ss_flt (h : ¬ e ≤ p) (hx : ck1 o d p e = some x) : scs o (k + 1) d p e s = (some x, s) := by
  show (if _ then _ else _) = _
  rw [if_neg h, hx]
theorem ss_n5n (h : ¬ e ≤ p) (hx : ck1 o d p e = none) (h5 : knd o p = 5) (ht : (scs o k (d + 1) (p + 8) (p + sz o p) s).1 = none) : scs o (k + 1) d p e s = scs o k d (p + pad (sz o p)) e (scs o k (d + 1) (p + 8) (p + sz o p) s).2 := by
  show (if _ then _ else _) = _
  rw [if_neg h, hx]
  show (if _ then _ else _) = _
  rw [if_pos h5, if_pos ht]
theorem ss_n5s (h : ¬ e ≤ p) (hx : ck1 o d p e = none) (h5 : knd o p = 5) (ht : ¬ (scs o k (d + 1) (p + 8) (p + sz o p) s).1 = none) : scs o (k + 1) d p e s = scs o k (d + 1) (p + 8) (p + sz o p) s := by
  show (if _ then _ else _) = _
  rw [if_neg h, hx]
  show (if _ then _ else _) = _
  rw [if_pos h5, if_neg ht]
theorem ss_nk (h : ¬ e ≤ p) (hx : ck1 o d p e = none) (h5 : ¬ knd o p = 5) : scs o (k + 1) d p e s = scs o k d (p + pad (sz o p)) e (if knd o p ≠ 0 ∧ w4 o p = 263 ∧ d = 0 ∧ s = 0 then p else s) := by
  show (if _ then _ else _) = _
  rw [if_neg h, hx]
  show (if _ then _ else _) = _
  rw [if_neg h5]
theorem tp_end (h : e ≤ p) : tps o (k + 1) p e = [] := by
  show (if _ then _ else _) = _
  rw [if_pos h]
theorem tp_s (h : ¬ e ≤ p) : tps o (k + 1) p e = p :: tps o k (p + pad (sz o p)) e := by
  show (if _ then _ else _) = _
  rw [if_neg h]
/-- class and reference find the same fault -/
theorem sc_scs : ∀ (k d p e s : Nat) (f : jx_F), (∀ x, (scs o k d p e s).1 = some x → (R_sc o b k d p e f).1 = true ∧ (R_sc o b k d p e f).2.1 74 0 = x.1 ∧ (R_sc o b k d p e f).2.1 75 0 = x.2) ∧ ((scs o k d p e s).1 = none → (R_sc o b k d p e f).1 = false)
  | 0, _, _, _, _, _ => ⟨fun x h => absurd h (by simp [scs]), fun _ => rfl⟩
  | k + 1, d, p, e, s, f => by
    by_cases hep : e ≤ p
    · rw [ss_end hep, sc_end hep]
      exact ⟨fun x h => absurd h (by simp), fun _ => rfl⟩
    · cases hx : ck1 o d p e with
      | some y =>
        rw [ss_flt hep hx, sc_flt hep hx]
        refine ⟨fun x h => ?_, fun h => absurd h (by simp)⟩
        have : y = x := by simpa using h
        rw [this]
        exact ⟨rfl, by rw [rf_ui_ne (by omega), rf_ui_eq], rf_ui_eq⟩
      | none =>
        by_cases h5 : knd o p = 5
        · obtain ⟨i1, i2⟩ := sc_scs k (d + 1) (p + 8) (p + sz o p) s (R_grp f o b d p)
          by_cases ht : (scs o k (d + 1) (p + 8) (p + sz o p) s).1 = none
          · rw [ss_n5n hep hx h5 ht, sc_n5f hep hx h5 (i2 ht)]
            exact sc_scs k d _ _ _ _
          · obtain ⟨y, hy⟩ := Option.ne_none_iff_exists'.mp ht
            rw [ss_n5s hep hx h5 ht, sc_n5t hep hx h5 (i1 y hy).1]
            exact ⟨i1, i2⟩
        · rw [ss_nk hep hx h5]
          by_cases h0 : knd o p = 0
          · rw [sc_n0 hep hx h0]
            exact sc_scs k d _ _ _ _
          · rw [sc_nk hep hx h0 h5]
            exact sc_scs k d _ _ _ _
/-- deeper than the own attributes nothing is kept of the message's own -/
theorem sw_d {q j : Nat} (hd : d ≠ 0) (hq : ¬ (81 ≤ q ∧ q ≤ 84)) : (R_sw f o b d p).1 q j = f.1 q j := by
  unfold R_sw R_see
  rw [if_neg hd]
  split
  · have e4 : ∀ g : jx_F, ∀ y : Int32, (R_se84 g (w4 o p) y).1 q j = g.1 q j := fun g y => by
      unfold R_se84
      split
      · rw [rf_ui_ne (by omega)]
      · rfl
    have e3 : ∀ g : jx_F, ∀ y : Int32, (R_se83 g (w4 o p) y).1 q j = g.1 q j := fun g y => by
      unfold R_se83
      split
      · rw [rf_ui_ne (by omega)]
      · rfl
    rw [e4, e3]
    unfold R_se81
    split
    · rw [rf_ui_ne (by omega), rf_ui_ne (by omega)]
    · rfl
  · rfl
theorem sc_dA : ∀ (k d p e : Nat) (f : jx_F), d ≠ 0 → ∀ q j, q = 77 ∨ q = 78 ∨ q = 79 ∨ q = 80 → (R_sc o b k d p e f).2.1 q j = f.1 q j
  | 0, _, _, _, _, _, _, _, _ => rfl
  | k + 1, d, p, e, f, hd, q, j, hq => by
    have gO : (R_grp f o b d p).1 q j = f.1 q j := by
      unfold R_grp
      rw [rf_ui_ne (by omega), rf_ui_ne (by omega), rf_ui_ne (by omega), sw_d hd (by omega)]
    by_cases hep : e ≤ p
    · rw [sc_end hep]
    · cases hx : ck1 o d p e with
      | some y =>
        rw [sc_flt hep hx]
        show (rf_ui (rf_ui f 74 0 _) 75 0 _).1 q j = _
        rw [rf_ui_ne (by omega), rf_ui_ne (by omega)]
      | none =>
        by_cases h0 : knd o p = 0
        · rw [sc_n0 hep hx h0]
          exact sc_dA k d _ _ _ hd q j hq
        · by_cases h5 : knd o p = 5
          · have i1 := sc_dA k (d + 1) (p + 8) (p + sz o p) (R_grp f o b d p) (by omega) q j hq
            cases ht : (R_sc o b k (d + 1) (p + 8) (p + sz o p) (R_grp f o b d p)).1 with
            | true => rw [sc_n5t hep hx h5 ht, i1, gO]
            | false => rw [sc_n5f hep hx h5 ht, sc_dA k d _ _ _ hd q j hq, i1, gO]
          · rw [sc_nk hep hx h0 h5, sc_dA k d _ _ _ hd q j hq, sw_d hd (by omega)]
theorem sw_2 (hd : 2 ≤ d) : R_sw f o b d p = f := by
  unfold R_sw R_see
  rw [if_neg (by omega), if_neg (by omega)]
theorem sc_dB : ∀ (k d p e : Nat) (f : jx_F), 2 ≤ d → ∀ q j, 77 ≤ q → q ≤ 84 → (R_sc o b k d p e f).2.1 q j = f.1 q j
  | 0, _, _, _, _, _, _, _, _, _ => rfl
  | k + 1, d, p, e, f, hd, q, j, q1, q2 => by
    have gO : (R_grp f o b d p).1 q j = f.1 q j := by
      unfold R_grp
      rw [rf_ui_ne (by omega), rf_ui_ne (by omega), rf_ui_ne (by omega), sw_2 hd]
    by_cases hep : e ≤ p
    · rw [sc_end hep]
    · cases hx : ck1 o d p e with
      | some y =>
        rw [sc_flt hep hx]
        show (rf_ui (rf_ui f 74 0 _) 75 0 _).1 q j = _
        rw [rf_ui_ne (by omega), rf_ui_ne (by omega)]
      | none =>
        by_cases h0 : knd o p = 0
        · rw [sc_n0 hep hx h0]
          exact sc_dB k d _ _ _ hd q j q1 q2
        · by_cases h5 : knd o p = 5
          · have i1 := sc_dB k (d + 1) (p + 8) (p + sz o p) (R_grp f o b d p) (by omega) q j q1 q2
            cases ht : (R_sc o b k (d + 1) (p + 8) (p + sz o p) (R_grp f o b d p)).1 with
            | true => rw [sc_n5t hep hx h5 ht, i1, gO]
            | false => rw [sc_n5f hep hx h5 ht, sc_dB k d _ _ _ hd q j q1 q2, i1, gO]
          · rw [sc_nk hep hx h0 h5, sc_dB k d _ _ _ hd q j q1 q2, sw_2 hd]
theorem knd_hit (h0 : ¬ knd o p = 0) : hit o c p = true ↔ w4 o p = c := by
  rw [hit_i]
  have hm : ob o (p + 4) &&& 128 = 0 := by
    unfold knd at h0
    by_cases y : ob o (p + 4) &&& 128 = 0
    · exact y
    · rw [if_neg y] at h0; exact absurd rfl h0
  exact ⟨fun z => z.1, fun z => ⟨z, hm⟩⟩
theorem no_hit (h : ¬ knd o p = kdc c) : hit o c p = false := by
  cases hh : hit o c p with
  | false => rfl
  | true => exact absurd (hit_kn hh) h
/-- the own attributes of a group: what is kept of them -/
def gset (f : jx_F) (o : Nat → Int32) (l : List Nat) (g : jx_F) : Prop := g.1 81 0 = (if f.1 87 1 = 9 ∧ f.1 81 0 = 0 ∧ fst o 444 l ≠ 0 then Int32.ofNat (fst o 444 l + 8) else f.1 81 0) ∧ g.1 82 0 = (if f.1 87 1 = 9 ∧ f.1 81 0 = 0 ∧ fst o 444 l ≠ 0 then Int32.ofNat (sz o (fst o 444 l) - 8) else f.1 82 0) ∧ g.1 83 0 = (if f.1 87 1 = 10 ∧ f.1 83 0 = 0 ∧ fst o 421 l ≠ 0 then Int32.ofNat (fst o 421 l + 8) else f.1 83 0) ∧ g.1 84 0 = (if f.1 87 1 = 11 ∧ f.1 84 0 = 0 ∧ fst o 421 l ≠ 0 then Int32.ofNat (fst o 421 l + 8) else f.1 84 0)
theorem ofN_ne {n : Nat} (h0 : n ≠ 0) (h : n < 2147483648) : ¬ Int32.ofNat n = 0 := fun z => h0 (ofN_inj (y := 0) h (by omega) z)
/-- one attribute among them, by its CODE -/
theorem sw1_v (h : p + 8 < 2147483648) : (R_sw f o b 1 p).1 81 0 = (if f.1 87 1 = 9 ∧ f.1 81 0 = 0 ∧ w4 o p = 444 then Int32.ofNat (p + 8) else f.1 81 0) ∧ (R_sw f o b 1 p).1 82 0 = (if f.1 87 1 = 9 ∧ f.1 81 0 = 0 ∧ w4 o p = 444 then Int32.ofNat (sz o p - 8) else f.1 82 0) ∧ (R_sw f o b 1 p).1 83 0 = (if f.1 87 1 = 10 ∧ f.1 83 0 = 0 ∧ w4 o p = 421 then Int32.ofNat (p + 8) else f.1 83 0) ∧ (R_sw f o b 1 p).1 84 0 = (if f.1 87 1 = 11 ∧ f.1 84 0 = 0 ∧ w4 o p = 421 then Int32.ofNat (p + 8) else f.1 84 0) := by
  obtain ⟨y, hy⟩ : ∃ y, y = Int32.ofNat (p + 8) := ⟨_, rfl⟩
  obtain ⟨z, hz⟩ : ∃ z, z = Int32.ofNat (sz o p - 8) := ⟨_, rfl⟩
  have e : R_sw f o b 1 p = R_se84 (R_se83 (R_se81 f (w4 o p) y z) (w4 o p) y) (w4 o p) y := by
    unfold R_sw R_see
    rw [if_neg (by omega), if_pos rfl, hy, hz]
  rw [e, ← hy, ← hz]
  obtain ⟨c, hc⟩ : ∃ c, c = w4 o p := ⟨_, rfl⟩
  rw [← hc]
  have a1 : ∀ g : jx_F, ∀ q, q = 81 ∨ q = 82 ∨ q = 83 ∨ q = 87 → ∀ j, (R_se84 g c y).1 q j = g.1 q j := fun g q hq j => by
    unfold R_se84
    split
    · rw [rf_ui_ne (by omega)]
    · rfl
  have a2 : ∀ g : jx_F, ∀ q, q = 81 ∨ q = 82 ∨ q = 84 ∨ q = 87 → ∀ j, (R_se83 g c y).1 q j = g.1 q j := fun g q hq j => by
    unfold R_se83
    split
    · rw [rf_ui_ne (by omega)]
    · rfl
  have a3 : ∀ q, q = 83 ∨ q = 84 ∨ q = 87 → ∀ j, (R_se81 f c y z).1 q j = f.1 q j := fun q hq j => by
    unfold R_se81
    split
    · rw [rf_ui_ne (by omega), rf_ui_ne (by omega)]
    · rfl
  refine ⟨?_, ?_, ?_, ?_⟩
  · rw [a1 _ 81 (by omega), a2 _ 81 (by omega)]
    unfold R_se81
    by_cases h9 : f.1 87 1 = 9 ∧ c = 444 ∧ f.1 81 0 = 0
    · rw [if_pos h9, if_pos ⟨h9.1, h9.2.2, h9.2.1⟩, rf_ui_ne (by omega), rf_ui_eq]
    · rw [if_neg h9, if_neg (fun w => h9 ⟨w.1, w.2.2, w.2.1⟩)]
  · rw [a1 _ 82 (by omega), a2 _ 82 (by omega)]
    unfold R_se81
    by_cases h9 : f.1 87 1 = 9 ∧ c = 444 ∧ f.1 81 0 = 0
    · rw [if_pos h9, if_pos ⟨h9.1, h9.2.2, h9.2.1⟩, rf_ui_eq]
    · rw [if_neg h9, if_neg (fun w => h9 ⟨w.1, w.2.2, w.2.1⟩)]
  · rw [a1 _ 83 (by omega)]
    unfold R_se83
    rw [a3 87 (by omega), a3 83 (by omega)]
    by_cases h9 : f.1 87 1 = 10 ∧ c = 421 ∧ f.1 83 0 = 0
    · rw [if_pos h9, if_pos ⟨h9.1, h9.2.2, h9.2.1⟩, rf_ui_eq]
    · rw [if_neg h9, if_neg (fun w => h9 ⟨w.1, w.2.2, w.2.1⟩), a3 83 (by omega)]
  · unfold R_se84
    rw [a2 _ 87 (by omega), a2 _ 84 (by omega), a3 87 (by omega), a3 84 (by omega)]
    by_cases h9 : f.1 87 1 = 11 ∧ c = 421 ∧ f.1 84 0 = 0
    · rw [if_pos h9, if_pos ⟨h9.1, h9.2.2, h9.2.1⟩, rf_ui_eq]
    · rw [if_neg h9, if_neg (fun w => h9 ⟨w.1, w.2.2, w.2.1⟩), a2 _ 84 (by omega), a3 84 (by omega)]
theorem fst_cons : fst o c (p :: l) = if hit o c p = true then p else fst o c l := rfl
/-- what comes behind an attribute that isn't looked for -/
theorem gset_skip {f' : jx_F} (h : gset f' o l g) (h4 : hit o 444 p = false) (h2 : hit o 421 p = false) (e : ∀ q j, (q = 87 ∧ j = 1) ∨ q = 81 ∨ q = 82 ∨ q = 83 ∨ q = 84 → f'.1 q j = f.1 q j) : gset f o (p :: l) g := by
  unfold gset at h ⊢
  have f4 : fst o 444 (p :: l) = fst o 444 l := by rw [fst_cons, if_neg (by rw [h4]; simp)]
  have f2 : fst o 421 (p :: l) = fst o 421 l := by rw [fst_cons, if_neg (by rw [h2]; simp)]
  rw [f4, f2, ← e 87 1 (by omega), ← e 81 0 (by omega), ← e 82 0 (by omega), ← e 83 0 (by omega), ← e 84 0 (by omega)]
  exact h
theorem gc {G n x0 y0 w c : Int32} {H : Bool} {r p : Nat} {S : Nat → Int32} (hH : H = true ↔ w = c) (hp : p ≠ 0) (h8 : ¬ Int32.ofNat (p + 8) = 0) : (if G = n ∧ (if G = n ∧ x0 = 0 ∧ w = c then Int32.ofNat (p + 8) else x0) = 0 ∧ r ≠ 0 then S r else (if G = n ∧ x0 = 0 ∧ w = c then S p else y0)) = if G = n ∧ x0 = 0 ∧ (if H = true then p else r) ≠ 0 then S (if H = true then p else r) else y0 := by
  by_cases hG : G = n
  · by_cases hx : x0 = 0
    · by_cases hw : w = c
      · have hH' : H = true := hH.mpr hw
        rw [if_pos (show G = n ∧ x0 = 0 ∧ w = c from ⟨hG, hx, hw⟩), if_neg (fun z => h8 z.2.1), if_pos hH', if_pos ⟨hG, hx, hw⟩, if_pos ⟨hG, hx, hp⟩]
      · have hH' : ¬ H = true := fun z => hw (hH.mp z)
        rw [if_neg (show ¬ (G = n ∧ x0 = 0 ∧ w = c) from fun z => hw z.2.2), if_neg hH', if_neg (show ¬ (G = n ∧ x0 = 0 ∧ w = c) from fun z => hw z.2.2)]
    · rw [if_neg (show ¬ (G = n ∧ x0 = 0 ∧ w = c) from fun z => hx z.2.1), if_neg (fun z => hx z.2.1), if_neg (show ¬ (G = n ∧ x0 = 0 ∧ w = c) from fun z => hx z.2.1), if_neg (fun z => hx z.2.1)]
  · rw [if_neg (fun z => hG z.1), if_neg (fun z => hG z.1), if_neg (fun z => hG z.1)]
theorem sc_dC : ∀ (k p e : Nat) (f g : jx_F), e - p < k → e ≤ 1000 → p ≠ 0 → R_sc o b k 1 p e f = (false, g) → gset f o (tps o k p e) g
  | 0, _, _, _, _, h, _, _, _ => by omega
  | k + 1, p, e, f, g, hk, he, hp0, h => by
    by_cases hep : e ≤ p
    · rw [sc_end hep] at h
      have eg : f = g := congrArg Prod.snd h
      rw [tp_end hep, ← eg]
      have z : ∀ c, fst o c ([] : List Nat) = 0 := fun _ => rfl
      unfold gset
      rw [z, z, if_neg (fun w => w.2.2 rfl), if_neg (fun w => w.2.2 rfl), if_neg (fun w => w.2.2 rfl), if_neg (fun w => w.2.2 rfl)]
      exact ⟨rfl, rfl, rfl, rfl⟩
    · rw [tp_s hep]
      cases hx : ck1 o 1 p e with
      | some y =>
        rw [sc_flt hep hx] at h
        exact absurd (congrArg Prod.fst h) (by simp)
      | none =>
        obtain ⟨c1, c2, c3, -⟩ := ck1_ok hx
        have hpd := pad_le (n := sz o p)
        by_cases h0 : knd o p = 0
        · rw [sc_n0 hep hx h0] at h
          exact gset_skip (sc_dC k _ _ _ _ (by omega) he (by omega) h) (no_hit (by rw [h0]; decide)) (no_hit (by rw [h0]; decide)) (fun _ _ _ => rfl)
        · by_cases h5 : knd o p = 5
          · cases ht : (R_sc o b k 2 (p + 8) (p + sz o p) (R_grp f o b 1 p)).1 with
            | true =>
              rw [sc_n5t hep hx h5 ht] at h
              exact absurd (ht.symm.trans (congrArg Prod.fst h)) (by simp)
            | false =>
              rw [sc_n5f hep hx h5 ht] at h
              obtain ⟨-, -, a3⟩ := sc_fr (o := o) (b := b) k 2 (p + 8) (p + sz o p) (R_grp f o b 1 p)
              refine gset_skip (sc_dC k _ _ _ _ (by omega) he (by omega) h) (no_hit (by rw [h5]; decide)) (no_hit (by rw [h5]; decide)) (fun q j hq => ?_)
              obtain ⟨v1, v2, v3, v4⟩ := sw1_v (f := f) (o := o) (b := b) (p := p) (by omega)
              have nc : ∀ c, kdc c ≠ 5 → ¬ w4 o p = c := fun c hc z => hc (by rw [← h5]; exact ((hit_kn ((knd_hit h0).mpr z))).symm)
              rw [if_neg (fun w => nc 444 (by decide) w.2.2)] at v1 v2
              rw [if_neg (fun w => nc 421 (by decide) w.2.2)] at v3 v4
              have g8 : ∀ q, 81 ≤ q → q ≤ 84 → (R_grp f o b 1 p).1 q j = (R_sw f o b 1 p).1 q j := fun q q1 q2 => by
                unfold R_grp
                rw [rf_ui_ne (by omega), rf_ui_ne (by omega), rf_ui_ne (by omega)]
              rcases hq with ⟨rfl, rfl⟩ | hq
              · rw [(a3 ht).2 87 1 (by omega) (by omega), R_grp_o (by omega) (by omega)]
              · rw [sc_dB k 2 _ _ _ (by omega) q j (by omega) (by omega), g8 q (by omega) (by omega)]
                by_cases ej : j = 0
                · rw [ej]
                  rcases hq with rfl | rfl | rfl | rfl
                  · exact v1
                  · exact v2
                  · exact v3
                  · exact v4
                · unfold R_sw R_see R_se84 R_se83 R_se81
                  rw [if_neg (by omega), if_pos rfl]
                  repeat' split
                  all_goals first | rfl | (repeat rw [rf_ui_ne (by omega)])
          · rw [sc_nk hep hx h0 h5] at h
            have ih := sc_dC k _ _ _ _ (by omega) he (by omega) h
            obtain ⟨v1, v2, v3, v4⟩ := sw1_v (f := f) (o := o) (b := b) (p := p) (by omega)
            have v87 : (R_sw f o b 1 p).1 87 1 = f.1 87 1 := R_see_o (by omega)
            have e8 : ¬ Int32.ofNat (p + 8) = 0 := ofN_ne (by omega) (by omega)
            unfold gset at ih ⊢
            rw [fst_cons, fst_cons]
            rw [v87, v1, v2, v3, v4] at ih
            obtain ⟨i1, i2, i3, i4⟩ := ih
            exact ⟨i1.trans (gc (S := fun q => Int32.ofNat (q + 8)) (knd_hit h0) hp0 e8), i2.trans (gc (S := fun q => Int32.ofNat (sz o q - 8)) (knd_hit h0) hp0 e8), i3.trans (gc (S := fun q => Int32.ofNat (q + 8)) (knd_hit h0) hp0 e8), i4.trans (gc (S := fun q => Int32.ofNat (q + 8)) (knd_hit h0) hp0 e8)⟩
end JxRefspec
