/-! WHAT BOTH KNOW OF A MESSAGE -/
/-- what is wrong in its head -/
def hdw (o : Nat → Int32) : Int32 := if ob o 0 = 1 then (if ob o 4 &&& 128 = 0 then (if ob o 4 &&& 15 = 0 then 0 else 3008) else (if w3 o 5 = 257 ∨ w3 o 5 = 280 ∨ w3 o 5 = 282 ∨ w3 o 5 = 272 then (if w4 o 8 = (if w3 o 5 = 272 then 4 else 0) then (if ob o 4 &&& 47 = 0 then 0 else 3008) else 3007) else 3001)) else 5011
/-- the MUSTs of a request, by their number -/
def ix (c : Int32) : List Nat := if c = 257 then [1, 2, 3] else if c = 280 then [1, 2] else if c = 282 then [1, 2, 4] else [0, 1, 2, 5, 6]
def mus (o : Nat → Int32) : List Int32 := if ob o 4 &&& 128 = 0 then [268, 264, 296] else (ix (w3 o 5)).map kc
def top (o : Nat → Int32) (L : Nat) : List Nat := tps o 700 20 L
def miss (o : Nat → Int32) (l : List Nat) : List Int32 → Option Int32
  | [] => none
  | c :: s => if fst o c l = 0 then some c else miss o l s
def twc (o : Nat → Int32) (l : List Nat) : List Int32 → Option Int32
  | [] => none
  | c :: s => if 1 < cnt o c l ∧ ¬ c = 258 then some c else twc o l s
def lck (o : Nat → Int32) (l : List Nat) : Option (Int32 × Int32) := match miss o l (mus o) with
  | some c => some (5005, c)
  | none => if ob o 4 &&& 128 = 0 then none else (twc o l (mus o)).map (fun c => (5009, c))
/-- what is wrong in its attributes -/
def wra (o : Nat → Int32) (L : Nat) : Option (Int32 × Int32) := match (scs o 700 0 20 L 0).1 with
  | some x => some x
  | none => lck o (top o L)
def wr (o : Nat → Int32) (L : Nat) : Int32 := if hdw o = 0 then ((wra o L).map Prod.fst).getD 0 else hdw o
/-- the CODE that is named -/
def wrn (o : Nat → Int32) (L : Nat) : Option Int32 := if hdw o = 0 then (wra o L).map Prod.snd else none
def sat (o : Nat → Int32) (L : Nat) : Nat := if hdw o = 0 then (scs o 700 0 20 L 0).2 else 0
def fmi (f : jx_F) : List Nat → jx_F
  | [] => f
  | i :: s => if f.1 79 i = 0 then R_flt f 5005 (f.1 76 i) else fmi f s
def fmt (f : jx_F) : List Nat → jx_F
  | [] => f
  | i :: s => if 1 < f.1 79 i ∧ ¬ i = 3 then R_flt f 5009 (f.1 76 i) else fmt f s
def LK (o : Nat → Int32) (L b : Nat) (f g : jx_F) : Prop := (∀ q j, ¬ (67 ≤ q ∧ q ≤ 87) → g.1 q j = f.1 q j) ∧ (g.2 = f.2) ∧ (g.1 67 0 = Int32.ofNat b) ∧ (g.1 69 0 = ob o 4) ∧ (g.1 70 0 = w3 o 5) ∧ (g.1 71 0 = w4 o 8) ∧ (g.1 72 0 = w4 o 12) ∧ (g.1 73 0 = w4 o 16) ∧ (g.1 74 0 = 0 ↔ wr o L = 0) ∧ (¬ ob o 4 &&& 128 = 0 → g.1 74 0 = wr o L ∧ ∀ c, wrn o L = some c → g.1 75 0 = c) ∧ (g.1 74 0 = 0 → SI o (top o L) g ∧ hdw o = 0 ∧ (scs o 700 0 20 L 0).1 = none ∧ lck o (top o L) = none) ∧ (SE o g (sat o L) 700) ∧ (∀ j, g.1 76 j = f.1 76 j)
theorem LK.fr {o : Nat → Int32} {L b : Nat} {f g : jx_F} (h : LK o L b f g) : ∀ q j, ¬ (67 ≤ q ∧ q ≤ 87) → g.1 q j = f.1 q j := h.1
theorem LK.fl {o : Nat → Int32} {L b : Nat} {f g : jx_F} (h : LK o L b f g) : g.2 = f.2 := h.2.1
theorem LK.h67 {o : Nat → Int32} {L b : Nat} {f g : jx_F} (h : LK o L b f g) : g.1 67 0 = Int32.ofNat b := h.2.2.1
theorem LK.h69 {o : Nat → Int32} {L b : Nat} {f g : jx_F} (h : LK o L b f g) : g.1 69 0 = ob o 4 := h.2.2.2.1
theorem LK.h70 {o : Nat → Int32} {L b : Nat} {f g : jx_F} (h : LK o L b f g) : g.1 70 0 = w3 o 5 := h.2.2.2.2.1
theorem LK.h71 {o : Nat → Int32} {L b : Nat} {f g : jx_F} (h : LK o L b f g) : g.1 71 0 = w4 o 8 := h.2.2.2.2.2.1
theorem LK.h72 {o : Nat → Int32} {L b : Nat} {f g : jx_F} (h : LK o L b f g) : g.1 72 0 = w4 o 12 := h.2.2.2.2.2.2.1
theorem LK.h73 {o : Nat → Int32} {L b : Nat} {f g : jx_F} (h : LK o L b f g) : g.1 73 0 = w4 o 16 := h.2.2.2.2.2.2.2.1
theorem LK.wz {o : Nat → Int32} {L b : Nat} {f g : jx_F} (h : LK o L b f g) : g.1 74 0 = 0 ↔ wr o L = 0 := h.2.2.2.2.2.2.2.2.1
theorem LK.wq {o : Nat → Int32} {L b : Nat} {f g : jx_F} (h : LK o L b f g) : ¬ ob o 4 &&& 128 = 0 → g.1 74 0 = wr o L ∧ ∀ c, wrn o L = some c → g.1 75 0 = c := h.2.2.2.2.2.2.2.2.2.1
theorem LK.si {o : Nat → Int32} {L b : Nat} {f g : jx_F} (h : LK o L b f g) : g.1 74 0 = 0 → SI o (top o L) g ∧ hdw o = 0 ∧ (scs o 700 0 20 L 0).1 = none ∧ lck o (top o L) = none := h.2.2.2.2.2.2.2.2.2.2.1
theorem LK.se {o : Nat → Int32} {L b : Nat} {f g : jx_F} (h : LK o L b f g) : SE o g (sat o L) 700 := h.2.2.2.2.2.2.2.2.2.2.2.1
theorem LK.k6 {o : Nat → Int32} {L b : Nat} {f g : jx_F} (h : LK o L b f g) : ∀ j, g.1 76 j = f.1 76 j := h.2.2.2.2.2.2.2.2.2.2.2.2
section JxLookspec
variable {o : Nat → Int32} {b k d p e s L r i : Nat} {f g h : jx_F} {x : Int32 × Int32} {l : List Nat} {c w : Int32}
theorem ck1_x (h : ck1 o d p e = some x) : x.1 = 5014 ∨ x.1 = 3009 ∨ x.1 = 5001 := by
  unfold ck1 at h
  repeat' split at h
  all_goals first | (cases h; simp) | exact absurd h (by simp)
theorem scs_x : ∀ (k d p e s : Nat) (x : Int32 × Int32), (scs o k d p e s).1 = some x → x.1 = 5014 ∨ x.1 = 3009 ∨ x.1 = 5001
  | 0, _, _, _, _, x, h => absurd h (by simp [scs])
  | k + 1, d, p, e, s, x, h => by
    by_cases hep : e ≤ p
    · rw [ss_end hep] at h
      exact absurd h (by simp)
    · cases hx : ck1 o d p e with
      | some y =>
        rw [ss_flt hep hx] at h
        have : y = x := by simpa using h
        rw [← this]
        exact ck1_x hx
      | none =>
        by_cases h5 : knd o p = 5
        · by_cases ht : (scs o k (d + 1) (p + 8) (p + sz o p) s).1 = none
          · rw [ss_n5n hep hx h5 ht] at h
            exact scs_x k _ _ _ _ x h
          · rw [ss_n5s hep hx h5 ht] at h
            exact scs_x k _ _ _ _ x h
        · rw [ss_nk hep hx h5] at h
          exact scs_x k _ _ _ _ x h
theorem lck_x (h : lck o l = some x) : x.1 = 5005 ∨ x.1 = 5009 := by
  unfold lck at h
  split at h
  · cases h; exact Or.inl rfl
  · split at h
    · exact absurd h (by simp)
    · cases ht : twc o l (mus o) with
      | none => rw [ht] at h; exact absurd h (by simp)
      | some c => rw [ht] at h; cases h; exact Or.inr rfl
theorem wra_x (h : wra o L = some x) : x.1 = 5014 ∨ x.1 = 3009 ∨ x.1 = 5001 ∨ x.1 = 5005 ∨ x.1 = 5009 := by
  unfold wra at h
  split at h
  · rename_i y hy
    cases h
    rcases scs_x _ _ _ _ _ _ hy with z | z | z <;> simp [z]
  · rcases lck_x h with z | z <;> simp [z]
theorem hdw_in : hdw o = 0 ∨ hdw o = 5011 ∨ hdw o = 3001 ∨ hdw o = 3007 ∨ hdw o = 3008 := by
  unfold hdw
  repeat' split
  all_goals simp
theorem wr_in : wr o L = 0 ∨ 0 < wr o L := by
  unfold wr
  split
  · cases hw : wra o L with
    | none => exact Or.inl rfl
    | some x =>
      show x.1 = 0 ∨ 0 < x.1
      rcases wra_x hw with z | z | z | z | z <;> rw [z] <;> exact Or.inr (by decide)
  · rcases hdw_in (o := o) with z | z | z | z | z <;> rw [z]
    · exact Or.inl rfl
    all_goals exact Or.inr (by decide)
/-- a CODE is named with five RESULTs and with no other -/
theorem wr_nm : (∃ c, wrn o L = some c) ↔ (wr o L = 5001 ∨ wr o L = 5005 ∨ wr o L = 5009 ∨ wr o L = 5014 ∨ wr o L = 3009) := by
  unfold wrn wr
  by_cases hh : hdw o = 0
  · rw [if_pos hh, if_pos hh]
    cases hw : wra o L with
    | none =>
      refine ⟨fun ⟨c, z⟩ => absurd z (by simp), fun z => ?_⟩
      have : (0 : Int32) = 5001 ∨ (0 : Int32) = 5005 ∨ (0 : Int32) = 5009 ∨ (0 : Int32) = 5014 ∨ (0 : Int32) = 3009 := z
      exact absurd this (by decide)
    | some x =>
      refine ⟨fun _ => ?_, fun _ => ⟨x.2, rfl⟩⟩
      show x.1 = 5001 ∨ x.1 = 5005 ∨ x.1 = 5009 ∨ x.1 = 5014 ∨ x.1 = 3009
      rcases wra_x hw with z | z | z | z | z <;> rw [z] <;> decide
  · rw [if_neg hh, if_neg hh]
    refine ⟨fun ⟨c, z⟩ => absurd z (by simp), fun z => ?_⟩
    rcases hdw_in (o := o) with y | y | y | y | y <;> rw [y] at z hh
    · exact absurd rfl hh
    all_goals exact absurd z (by decide)
theorem la1_x : ∀ (r k : Nat), ¬ f.1 74 0 = 0 → R_la1 r k f = f
  | 0, _, _ => rfl
  | r + 1, k, h => if_neg h
theorem la2_x : ∀ (r k : Nat), ¬ f.1 74 0 = 0 → R_la2 r k f = f
  | 0, _, _ => rfl
  | r + 1, k, h => if_neg h
theorem flt_74 : (R_flt f w c).1 74 0 = w := by unfold R_flt; rw [rf_ui_ne (by omega), rf_ui_eq]
theorem flt_75 : (R_flt f w c).1 75 0 = c := by unfold R_flt; rw [rf_ui_eq]
theorem flt_o {q j : Nat} (h : ¬ (q = 74 ∨ q = 75)) : (R_flt f w c).1 q j = f.1 q j := by unfold R_flt; rw [rf_ui_ne (by omega), rf_ui_ne (by omega)]
theorem la1_s (h0 : f.1 74 0 = 0) (hc : f.1 70 0 = c) (hm : mi c (Int32.ofNat k) = Int32.ofNat i) (hi : i < 12) : R_la1 (r + 1) k f = if f.1 79 i = 0 then R_flt f 5005 (f.1 76 i) else R_la1 r (k + 1) f := by
  show (if _ then _ else _) = _
  rw [if_pos h0, hc, hm, if_neg (show ¬ Int32.ofNat i < 0 from fun z => by rw [Int32.lt_iff_toInt_lt, i32_ofNat (by omega)] at z; exact absurd z (by simp)), i32_nat (i32_ofNat (by omega))]
  split
  · exact la1_x r _ (by rw [flt_74]; decide)
  · rfl
theorem la1_e (h0 : f.1 74 0 = 0) (hc : f.1 70 0 = c) (hm : mi c (Int32.ofNat k) = -1) : R_la1 (r + 1) k f = f := by
  show (if _ then _ else _) = _
  rw [if_pos h0, hc, hm, if_pos (by decide)]
theorem la2_s (h0 : f.1 74 0 = 0) (hc : f.1 70 0 = c) (hm : mi c (Int32.ofNat k) = Int32.ofNat i) (hi : i < 12) : R_la2 (r + 1) k f = if 1 < f.1 79 i ∧ ¬ i = 3 then R_flt f 5009 (f.1 76 i) else R_la2 r (k + 1) f := by
  have h3 : Int32.ofNat i = 3 ↔ i = 3 := ⟨fun z => ofN_inj (y := 3) (by omega) (by omega) z, fun z => by rw [z]; rfl⟩
  show (if _ then _ else _) = _
  rw [if_pos h0, hc, hm, if_neg (show ¬ Int32.ofNat i < 0 from fun z => by rw [Int32.lt_iff_toInt_lt, i32_ofNat (by omega)] at z; exact absurd z (by simp)), i32_nat (i32_ofNat (by omega))]
  by_cases z : 1 < f.1 79 i ∧ ¬ i = 3
  · rw [if_pos z, if_pos ⟨z.1, fun y => z.2 (h3.mp y)⟩]
    exact la2_x r _ (by rw [flt_74]; decide)
  · rw [if_neg z, if_neg (fun y => z ⟨y.1, fun w => y.2 (h3.mpr w)⟩)]
theorem la2_e (h0 : f.1 74 0 = 0) (hc : f.1 70 0 = c) (hm : mi c (Int32.ofNat k) = -1) : R_la2 (r + 1) k f = f := by
  show (if _ then _ else _) = _
  rw [if_pos h0, hc, hm, if_pos (by decide)]
theorem mi_d (h1 : ¬ c = 257) (h2 : ¬ c = 280) (h3 : ¬ c = 282) : mi c 0 = 0 ∧ mi c 1 = 1 ∧ mi c 2 = 2 ∧ mi c 3 = 5 ∧ mi c 4 = 6 := by
  unfold mi
  rw [if_neg h1, if_neg h2, if_neg h3, if_neg h1, if_neg h2, if_neg h3, if_neg h1, if_neg h2, if_neg h3, if_neg h1, if_neg h2, if_neg h3, if_neg h1, if_neg h2, if_neg h3]
  decide
theorem la1_v (h0 : f.1 74 0 = 0) : R_la1 5 0 f = fmi f (ix (f.1 70 0)) := by
  obtain ⟨c, hc⟩ : ∃ c, f.1 70 0 = c := ⟨_, rfl⟩
  rw [hc]
  unfold ix
  by_cases e1 : c = 257
  · rw [if_pos e1]
    rw [e1] at hc
    rw [la1_s (i := 1) h0 hc (by decide) (by omega), la1_s (i := 2) h0 hc (by decide) (by omega), la1_s (i := 3) h0 hc (by decide) (by omega), la1_e h0 hc (by decide)]
    rfl
  rw [if_neg e1]
  by_cases e2 : c = 280
  · rw [if_pos e2]
    rw [e2] at hc
    rw [la1_s (i := 1) h0 hc (by decide) (by omega), la1_s (i := 2) h0 hc (by decide) (by omega), la1_e h0 hc (by decide)]
    rfl
  rw [if_neg e2]
  by_cases e3 : c = 282
  · rw [if_pos e3]
    rw [e3] at hc
    rw [la1_s (i := 1) h0 hc (by decide) (by omega), la1_s (i := 2) h0 hc (by decide) (by omega), la1_s (i := 4) h0 hc (by decide) (by omega), la1_e h0 hc (by decide)]
    rfl
  rw [if_neg e3]
  obtain ⟨m0, m1, m2, m3, m4⟩ := mi_d e1 e2 e3
  rw [la1_s (i := 0) h0 hc m0 (by omega), la1_s (i := 1) h0 hc m1 (by omega), la1_s (i := 2) h0 hc m2 (by omega), la1_s (i := 5) h0 hc m3 (by omega), la1_s (i := 6) h0 hc m4 (by omega)]
  rfl
theorem la2_v (h0 : f.1 74 0 = 0) : R_la2 5 0 f = fmt f (ix (f.1 70 0)) := by
  obtain ⟨c, hc⟩ : ∃ c, f.1 70 0 = c := ⟨_, rfl⟩
  rw [hc]
  unfold ix
  by_cases e1 : c = 257
  · rw [if_pos e1]
    rw [e1] at hc
    rw [la2_s (i := 1) h0 hc (by decide) (by omega), la2_s (i := 2) h0 hc (by decide) (by omega), la2_s (i := 3) h0 hc (by decide) (by omega), la2_e h0 hc (by decide)]
    rfl
  rw [if_neg e1]
  by_cases e2 : c = 280
  · rw [if_pos e2]
    rw [e2] at hc
    rw [la2_s (i := 1) h0 hc (by decide) (by omega), la2_s (i := 2) h0 hc (by decide) (by omega), la2_e h0 hc (by decide)]
    rfl
  rw [if_neg e2]
  by_cases e3 : c = 282
  · rw [if_pos e3]
    rw [e3] at hc
    rw [la2_s (i := 1) h0 hc (by decide) (by omega), la2_s (i := 2) h0 hc (by decide) (by omega), la2_s (i := 4) h0 hc (by decide) (by omega), la2_e h0 hc (by decide)]
    rfl
  rw [if_neg e3]
  obtain ⟨m0, m1, m2, m3, m4⟩ := mi_d e1 e2 e3
  rw [la2_s (i := 0) h0 hc m0 (by omega), la2_s (i := 1) h0 hc m1 (by omega), la2_s (i := 2) h0 hc m2 (by omega), la2_s (i := 5) h0 hc m3 (by omega), la2_s (i := 6) h0 hc m4 (by omega)]
  rfl
theorem fmi_v (hS : SI o l f) (hK : ∀ k, k < 12 → f.1 76 k = kc k) (hl : ∀ q, q ∈ l → q ≠ 0) (hn : l.length ≤ 1000) : ∀ is : List Nat, (∀ i, i ∈ is → i < 12) → (miss o l (is.map kc) = none → fmi f is = f) ∧ ∀ c, miss o l (is.map kc) = some c → fmi f is = R_flt f 5005 c
  | [], _ => ⟨fun _ => rfl, fun c h => absurd h (by simp [miss])⟩
  | i :: is, hi => by
    have hi0 := hi i List.mem_cons_self
    have cl := cnt_le (o := o) (c := kc i) l
    have hz : f.1 79 i = 0 ↔ fst o (kc i) l = 0 := by
      rw [(hS.1 i hi0).1, fst_0 l hl]
      exact ⟨fun z => ofN_inj (y := 0) (by omega) (by omega) z, fun z => by rw [z]; rfl⟩
    obtain ⟨i1, i2⟩ := fmi_v hS hK hl hn is (fun j hj => hi j (List.mem_cons_of_mem _ hj))
    rw [List.map_cons]
    unfold miss fmi
    by_cases z : fst o (kc i) l = 0
    · rw [if_pos z, if_pos (hz.mpr z), hK i hi0]
      exact ⟨fun w => absurd w (by simp), fun c w => by cases w; rfl⟩
    · rw [if_neg z, if_neg (fun w => z (hz.mp w))]
      exact ⟨i1, i2⟩
theorem kc_3 : ∀ i, i < 12 → (kc i = 258 ↔ i = 3) := by decide +kernel
theorem fmt_v (hS : SI o l f) (hK : ∀ k, k < 12 → f.1 76 k = kc k) (hn : l.length ≤ 1000) : ∀ is : List Nat, (∀ i, i ∈ is → i < 12) → (twc o l (is.map kc) = none → fmt f is = f) ∧ ∀ c, twc o l (is.map kc) = some c → fmt f is = R_flt f 5009 c
  | [], _ => ⟨fun _ => rfl, fun c h => absurd h (by simp [twc])⟩
  | i :: is, hi => by
    have hi0 := hi i List.mem_cons_self
    have cl := cnt_le (o := o) (c := kc i) l
    have hz : 1 < f.1 79 i ↔ 1 < cnt o (kc i) l := by
      rw [(hS.1 i hi0).1, show (1 : Int32) = Int32.ofNat 1 from rfl]
      exact nlt (by omega) (by omega)
    obtain ⟨i1, i2⟩ := fmt_v hS hK hn is (fun j hj => hi j (List.mem_cons_of_mem _ hj))
    rw [List.map_cons]
    unfold twc fmt
    by_cases z : 1 < cnt o (kc i) l ∧ ¬ kc i = 258
    · rw [if_pos z, if_pos ⟨hz.mpr z.1, fun w => z.2 ((kc_3 i hi0).mpr w)⟩, hK i hi0]
      exact ⟨fun w => absurd w (by simp), fun c w => by cases w; rfl⟩
    · rw [if_neg z, if_neg (fun w => z ⟨hz.mp w.1, fun y => w.2 ((kc_3 i hi0).mp y)⟩)]
      exact ⟨i1, i2⟩
theorem ix_in : ∀ i, i ∈ ix c → i < 12 := by
  unfold ix
  repeat' split
  all_goals decide
theorem SI.cf (h : SI o l f) (e : ∀ q j, 77 ≤ q → q ≤ 84 → g.1 q j = f.1 q j) : SI o l g := by
  unfold SI at h ⊢
  rw [e 80 0 (by omega) (by omega), e 81 0 (by omega) (by omega), e 82 0 (by omega) (by omega), e 83 0 (by omega) (by omega), e 84 0 (by omega) (by omega)]
  exact ⟨fun k hk => by rw [e 77 k (by omega) (by omega), e 78 k (by omega) (by omega), e 79 k (by omega) (by omega)]; exact h.1 k hk, h.2⟩
theorem lacks_v (h0 : f.1 74 0 = 0) (hr : ¬ ob o 4 &&& 128 = 0) (hc : f.1 70 0 = w3 o 5) (hS : SI o l f) (hK : ∀ k, k < 12 → f.1 76 k = kc k) (hl : ∀ q, q ∈ l → q ≠ 0) (hn : l.length ≤ 1000) : (lck o l = none → R_lacks f = f) ∧ ∀ x, lck o l = some x → R_lacks f = R_flt f x.1 x.2 := by
  obtain ⟨a1, a2⟩ := fmi_v hS hK hl hn (ix (w3 o 5)) ix_in
  obtain ⟨b1, b2⟩ := fmt_v hS hK hn (ix (w3 o 5)) ix_in
  have hm : mus o = (ix (w3 o 5)).map kc := if_neg hr
  have hL : lck o l = match miss o l (mus o) with
    | some c => some (5005, c)
    | none => if ob o 4 &&& 128 = 0 then none else (twc o l (mus o)).map (fun c => (5009, c)) := rfl
  have eR : R_lacks f = R_la2 5 0 (fmi f (ix (w3 o 5))) := by
    unfold R_lacks
    rw [la1_v h0, hc]
  rw [eR]
  cases hM : miss o l ((ix (w3 o 5)).map kc) with
  | some c =>
    rw [hm, hM] at hL
    rw [hL, a2 c hM, la2_x 5 0 (by rw [flt_74]; decide)]
    exact ⟨fun w => absurd w (by simp), fun x w => by cases w; rfl⟩
  | none =>
    rw [hm, hM] at hL
    have hL2 : lck o l = (twc o l ((ix (w3 o 5)).map kc)).map (fun c => (5009, c)) := hL.trans (if_neg hr)
    rw [hL2, a1 hM, la2_v h0, hc]
    cases hT : twc o l ((ix (w3 o 5)).map kc) with
    | some c =>
      rw [b2 c hT]
      exact ⟨fun w => absurd w (by simp), fun x w => by cases w; rfl⟩
    | none =>
      rw [b1 hT]
      exact ⟨fun _ => rfl, fun x w => absurd w (by simp)⟩
theorem LK.hw (v : g = rf_ui (R_lkA f b) 74 0 w) (ho : o = oct f b) (hw : w = hdw o) (h0 : ¬ w = 0) : LK o L b f g := by
  obtain ⟨v67, v68, v69, v70, v71, v72, v73, v74, v75, v79, -⟩ := lkA_v (f := f) (b := b)
  have h0' : ¬ hdw o = 0 := by rw [← hw]; exact h0
  have hwr : wr o L = w := by unfold wr; rw [if_neg h0', hw]
  have hwn : wrn o L = none := by unfold wrn; rw [if_neg h0']
  have hst : sat o L = 0 := by unfold sat; rw [if_neg h0']
  have g74 : g.1 74 0 = w := by rw [v, rf_ui_eq]
  rw [← ho] at v68 v69 v70 v71 v72 v73
  refine ⟨fun q j hq => ?_, ?_, ?_, ?_, ?_, ?_, ?_, ?_, ?_, fun _ => ⟨?_, fun c z => ?_⟩, fun z => ?_, ?_, fun j => ?_⟩
  · rw [v, rf_ui_ne (by omega), lkA_o (by omega) (by omega)]
  · rw [v]; rfl
  · rw [v, rf_ui_ne (by omega), v67]
  · rw [v, rf_ui_ne (by omega), v69]
  · rw [v, rf_ui_ne (by omega), v70]
  · rw [v, rf_ui_ne (by omega), v71]
  · rw [v, rf_ui_ne (by omega), v72]
  · rw [v, rf_ui_ne (by omega), v73]
  · rw [g74, hwr]
  · rw [g74, hwr]
  · rw [hwn] at z; cases z
  · exact absurd (g74.symm.trans z) h0
  · rw [hst]
    refine ⟨0, ?_, by omega, by omega, fun z => absurd rfl z⟩
    rw [v, rf_ui_ne (by omega), (v79 0 (by omega)).1]
    rfl
  · rw [v, rf_ui_ne (by omega), lkA_o (by omega) (by omega)]
/-- what stands when the attributes were gone through -/
theorem att_v (ho : o = oct f b) (hh : h = R_att (R_lkA f b) b L) (hK : ∀ k, k < 12 → f.1 76 k = kc k) (hL : L ≤ 600) : (∀ q j, ¬ (67 ≤ q ∧ q ≤ 87) → h.1 q j = f.1 q j) ∧ h.2 = f.2 ∧ (∀ q, 67 ≤ q → q ≤ 73 → h.1 q 0 = (R_lkA f b).1 q 0) ∧ ((scs o 700 0 20 L 0).1 = none → h.1 74 0 = 0 ∧ SI o (top o L) h) ∧ (∀ x, (scs o 700 0 20 L 0).1 = some x → h.1 74 0 = x.1 ∧ h.1 75 0 = x.2) ∧ SE o h (scs o 700 0 20 L 0).2 700 := by
  obtain ⟨v67, v68, v69, v70, v71, v72, v73, v74, v75, v79, v80, v81, v83, v84⟩ := lkA_v (f := f) (b := b)
  have oo : oct (R_lkA f b) b = o := by rw [ho]; funext j; exact lkA_o (by omega) (by omega)
  have eh : h = (R_sc o b 700 0 20 L (rf_ui (R_lkA f b) 85 0 (Int32.ofNat L))).2 := by rw [hh]; unfold R_att; rw [oo]
  obtain ⟨F, hF⟩ : ∃ F, F = rf_ui (R_lkA f b) 85 0 (Int32.ofNat L) := ⟨_, rfl⟩
  have Fo : ∀ q j, q ≠ 85 → F.1 q j = (R_lkA f b).1 q j := fun q j hq => by rw [hF, rf_ui_ne (by omega)]
  rw [← hF] at eh
  obtain ⟨a1, a2, a3⟩ := sc_fr (o := o) (b := b) 700 0 20 L F
  obtain ⟨b1, b2⟩ := sc_scs (o := o) (b := b) 700 0 20 L 0 F
  have oF : oct F b = o := by rw [← oo]; funext j; exact Fo _ _ (by omega)
  refine ⟨fun q j hq => ?_, ?_, fun q q1 q2 => ?_, fun hn => ?_, fun x hx => ?_, ?_⟩
  · rw [eh, a1 q j (by omega), Fo q j (by omega), lkA_o (by omega) (by omega)]
  · rw [eh, a2, hF]; rfl
  · rw [eh, a1 q 0 (by omega), Fo q 0 (by omega)]
  · have hf := b2 hn
    have hR : R_sc o b 700 0 20 L F = (false, h) := Prod.ext hf eh.symm
    refine ⟨by rw [eh, (a3 hf).1 74 0 (by omega), Fo 74 0 (by omega)]; exact v74, ?_⟩
    have hS : SI o [] F := by
      refine ⟨fun k hk => ?_, Or.inr ⟨?_, fun ⟨p, hp, _⟩ => absurd hp List.not_mem_nil⟩, ?_, fun z => absurd rfl z, ?_, ?_⟩
      · rw [Fo 79 k (by omega), Fo 77 k (by omega), (v79 k hk).1, (v79 k hk).2]
        exact ⟨rfl, rfl, fun z => absurd rfl z⟩
      · rw [Fo 80 0 (by omega)]; exact v80
      · rw [Fo 81 0 (by omega), v81]; rfl
      · rw [Fo 83 0 (by omega), v83]; rfl
      · rw [Fo 84 0 (by omega), v84]; rfl
    have := sc_SI (b := b) 700 20 L F h [] hS (fun k hk => by rw [Fo 76 k (by omega), lkA_o (by omega) (by omega)]; exact hK k hk) (fun q hq => absurd hq List.not_mem_nil) (by simp) (by omega) hL (by omega) oF hR
    rw [List.nil_append] at this
    exact this
  · rw [eh]
    exact (b1 x hx).2
  · rw [eh]
    refine sc_SE 700 20 L 0 F ⟨0, ?_, by omega, by omega, fun z => absurd rfl z⟩ ?_ (by omega) hL (by omega)
    · rw [Fo 79 0 (by omega), (v79 0 (by omega)).1]; rfl
    · rw [Fo 76 0 (by omega), lkA_o (by omega) (by omega), hK 0 (by omega)]; decide
theorem top_in (hn : (scs o 700 0 20 L 0).1 = none) : wf o 700 20 L := scs_wf 700 0 20 L 0 (scs o 700 0 20 L 0).2 (Prod.ext hn rfl)
theorem top_0 (hn : (scs o 700 0 20 L 0).1 = none) : ∀ q, q ∈ top o L → q ≠ 0 := fun q hq => by
  have := (tps_in 700 20 L (top_in hn) q hq).1
  omega
theorem top_n (hn : (scs o 700 0 20 L 0).1 = none) (hL : L ≤ 600) : (top o L).length ≤ 1000 := by
  have := tps_len 700 20 L (top_in hn)
  show (tps o 700 20 L).length ≤ 1000
  omega
theorem sc_76 : ∀ (k d p e : Nat) (f : jx_F) (j : Nat), (R_sc o b k d p e f).2.1 76 j = f.1 76 j
  | 0, _, _, _, _, _ => rfl
  | k + 1, d, p, e, f, j => by
    have gO : (R_grp f o b d p).1 76 j = f.1 76 j := R_grp_o (by omega) (by omega)
    by_cases hep : e ≤ p
    · rw [sc_end hep]
    · cases hx : ck1 o d p e with
      | some y =>
        rw [sc_flt hep hx]
        show (rf_ui (rf_ui f 74 0 _) 75 0 _).1 76 j = _
        rw [rf_ui_ne (by omega), rf_ui_ne (by omega)]
      | none =>
        by_cases h0 : knd o p = 0
        · rw [sc_n0 hep hx h0]
          exact sc_76 k d _ _ _ j
        · by_cases h5 : knd o p = 5
          · have i1 := sc_76 k (d + 1) (p + 8) (p + sz o p) (R_grp f o b d p) j
            cases ht : (R_sc o b k (d + 1) (p + 8) (p + sz o p) (R_grp f o b d p)).1 with
            | true => rw [sc_n5t hep hx h5 ht, i1, gO]
            | false => rw [sc_n5f hep hx h5 ht, sc_76 k d _ _ _ j, i1, gO]
          · rw [sc_nk hep hx h0 h5, sc_76 k d _ _ _ j, show (R_sw f o b d p).1 76 j = f.1 76 j from R_see_o (by omega)]
theorem h76 (hh : h = R_att (R_lkA f b) b L) : ∀ j, h.1 76 j = f.1 76 j := fun j => by
  rw [hh]
  unfold R_att
  rw [sc_76, rf_ui_ne (by omega), lkA_o (by omega) (by omega)]
theorem LK.at (ho : o = oct f b) (hh : h = R_att (R_lkA f b) b L) (hK : ∀ k, k < 12 → f.1 76 k = kc k) (hL : L ≤ 600) (hd : hdw o = 0) (hg : g = R_flt h (g.1 74 0) (g.1 75 0) ∨ g = rf_ui h 74 0 (g.1 74 0) ∨ g = h) (wz : g.1 74 0 = 0 ↔ wr o L = 0) (wq : ¬ ob o 4 &&& 128 = 0 → g.1 74 0 = wr o L ∧ ∀ c, wrn o L = some c → g.1 75 0 = c) (wl : g.1 74 0 = 0 → (scs o 700 0 20 L 0).1 = none ∧ lck o (top o L) = none) : LK o L b f g := by
  obtain ⟨v67, v68, v69, v70, v71, v72, v73, -⟩ := lkA_v (f := f) (b := b)
  rw [← ho] at v68 v69 v70 v71 v72 v73
  obtain ⟨a1, a2, a3, a4, a5, a6⟩ := att_v ho hh hK hL
  have go : ∀ q j, ¬ (q = 74 ∨ q = 75) → g.1 q j = h.1 q j := fun q j hq => by
    rcases hg with e | e | e
    · rw [e, flt_o hq]
    · rw [e, rf_ui_ne (by omega)]
    · rw [e]
  have gl : g.2 = h.2 := by
    rcases hg with e | e | e
    · rw [e]; rfl
    · rw [e]; rfl
    · rw [e]
  refine ⟨fun q j hq => by rw [go q j (by omega), a1 q j hq], by rw [gl, a2], ?_, ?_, ?_, ?_, ?_, ?_, wz, wq, fun z => ?_, ?_, fun j => ?_⟩
  · rw [go 67 0 (by omega), a3 67 (by omega) (by omega), v67]
  · rw [go 69 0 (by omega), a3 69 (by omega) (by omega), v69]
  · rw [go 70 0 (by omega), a3 70 (by omega) (by omega), v70]
  · rw [go 71 0 (by omega), a3 71 (by omega) (by omega), v71]
  · rw [go 72 0 (by omega), a3 72 (by omega) (by omega), v72]
  · rw [go 73 0 (by omega), a3 73 (by omega) (by omega), v73]
  · obtain ⟨w1, w2⟩ := wl z
    exact ⟨(a4 w1).2.cf (fun q j q1 q2 => go q j (by omega)), hd, w1, w2⟩
  · have : sat o L = (scs o 700 0 20 L 0).2 := if_pos hd
    rw [this]
    exact a6.of (fun q hq => go q 0 (by omega)) (by omega)
  · rw [go 76 j (by omega)]
    exact h76 hh j
theorem SI.z {k : Nat} (h : SI o l f) (hl : ∀ q, q ∈ l → q ≠ 0) (hn : l.length ≤ 1000) (hk : k < 12) : f.1 79 k = 0 ↔ fst o (kc k) l = 0 := by
  have cl := cnt_le (o := o) (c := kc k) l
  rw [(h.1 k hk).1, fst_0 l hl]
  exact ⟨fun z => ofN_inj (y := 0) (by omega) (by omega) z, fun z => by rw [z]; rfl⟩
theorem lk_spec (ho : o = oct f b) (hK : ∀ k, k < 12 → f.1 76 k = kc k) (hL : L ≤ 600) : LK o L b f (R_look f b L) := by
  obtain ⟨h, hh⟩ : ∃ h, h = R_att (R_lkA f b) b L := ⟨_, rfl⟩
  obtain ⟨a1, a2, a3, a4, a5, a6⟩ := att_v ho hh hK hL
  have v70 := (lkA_v (f := f) (b := b)).2.2.2.1
  rw [← ho] at v70
  have h70 : h.1 70 0 = w3 o 5 := by rw [a3 70 (by omega) (by omega), v70]
  have hKh : ∀ k, k < 12 → h.1 76 k = kc k := fun k hk => by rw [h76 hh]; exact hK k hk
  have eW : hdw o = 0 → wr o L = ((wra o L).map Prod.fst).getD 0 := fun z => if_pos z
  have eN : hdw o = 0 → wrn o L = (wra o L).map Prod.snd := fun z => if_pos z
  have eA : ∀ x, (scs o 700 0 20 L 0).1 = some x → wra o L = some x := fun x hx => by unfold wra; rw [hx]
  have eB : (scs o 700 0 20 L 0).1 = none → wra o L = lck o (top o L) := fun hx => by unfold wra; rw [hx]
  have x0 : ∀ x, (scs o 700 0 20 L 0).1 = some x → ¬ x.1 = 0 := fun x hx => by
    rcases scs_x _ _ _ _ _ _ hx with z | z | z <;> rw [z] <;> decide
  unfold R_look
  rw [← ho, ← hh]
  by_cases c0 : ob o 0 = 1
  · rw [if_pos c0]
    by_cases cr : ob o 4 &&& 128 = 0
    · rw [if_pos cr]
      by_cases c1 : ob o 4 &&& 15 = 0
      · rw [if_pos c1]
        have hd : hdw o = 0 := by unfold hdw; rw [if_pos c0, if_pos cr, if_pos c1]
        have hm : mus o = [268, 264, 296] := if_pos cr
        cases hx : (scs o 700 0 20 L 0).1 with
        | some x =>
          obtain ⟨e1, e2⟩ := a5 x hx
          have n0 : ¬ h.1 74 0 = 0 := by rw [e1]; exact x0 x hx
          rw [if_neg (fun z => n0 z.1)]
          have wv : wr o L = x.1 := by rw [eW hd, eA x hx]; rfl
          exact LK.at ho hh hK hL hd (Or.inr (Or.inr rfl)) (by rw [e1, wv]) (fun z => absurd cr z) (fun z => absurd z n0)
        | none =>
          obtain ⟨e1, e2⟩ := a4 hx
          have z7 := e2.z (k := 7) (top_0 hx) (top_n hx hL) (by omega)
          have z1 := e2.z (k := 1) (top_0 hx) (top_n hx hL) (by omega)
          have z2 := e2.z (k := 2) (top_0 hx) (top_n hx hL) (by omega)
          rw [show kc 7 = 268 by decide] at z7
          rw [show kc 1 = 264 by decide] at z1
          rw [show kc 2 = 296 by decide] at z2
          have lk : lck o (top o L) = none ↔ ¬ (h.1 79 7 = 0 ∨ h.1 79 1 = 0 ∨ h.1 79 2 = 0) := by
            rw [z7, z1, z2]
            unfold lck
            rw [hm]
            unfold miss
            by_cases y1 : fst o 268 (top o L) = 0
            · rw [if_pos y1]
              exact ⟨fun z => absurd z (by simp), fun z => absurd (Or.inl y1) z⟩
            rw [if_neg y1]
            unfold miss
            by_cases y2 : fst o 264 (top o L) = 0
            · rw [if_pos y2]
              exact ⟨fun z => absurd z (by simp), fun z => absurd (Or.inr (Or.inl y2)) z⟩
            rw [if_neg y2]
            unfold miss
            by_cases y3 : fst o 296 (top o L) = 0
            · rw [if_pos y3]
              exact ⟨fun z => absurd z (by simp), fun z => absurd (Or.inr (Or.inr y3)) z⟩
            rw [if_neg y3]
            exact ⟨fun _ z => by rcases z with z | z | z; exact y1 z; exact y2 z; exact y3 z, fun _ => if_pos cr⟩
          by_cases y : h.1 79 7 = 0 ∨ h.1 79 1 = 0 ∨ h.1 79 2 = 0
          · rw [if_pos ⟨e1, y⟩]
            have wv : ¬ wr o L = 0 := by
              rw [eW hd, eB hx]
              cases hl : lck o (top o L) with
              | none => exact absurd y (lk.mp hl)
              | some x =>
                show ¬ x.1 = 0
                rcases lck_x hl with z | z <;> rw [z] <;> decide
            have g7 : (rf_ui h 74 0 5005).1 74 0 = 5005 := rf_ui_eq
            have n0 : ¬ (rf_ui h 74 0 5005).1 74 0 = 0 := by rw [g7]; decide
            exact LK.at ho hh hK hL hd (Or.inr (Or.inl (by rw [g7]))) ⟨fun z => absurd z n0, fun z => absurd z wv⟩ (fun z => absurd cr z) (fun z => absurd z n0)
          · rw [if_neg (fun z => y z.2)]
            have hl := lk.mpr y
            have wv : wr o L = 0 := by rw [eW hd, eB hx, hl]; rfl
            exact LK.at ho hh hK hL hd (Or.inr (Or.inr rfl)) ⟨fun _ => wv, fun _ => e1⟩ (fun z => absurd cr z) (fun _ => ⟨hx, hl⟩)
      · rw [if_neg c1]
        exact LK.hw rfl ho (by unfold hdw; rw [if_pos c0, if_pos cr, if_neg c1]) (by decide)
    · rw [if_neg cr]
      by_cases c1 : w3 o 5 = 257 ∨ w3 o 5 = 280 ∨ w3 o 5 = 282 ∨ w3 o 5 = 272
      · rw [if_pos c1]
        by_cases c2 : w4 o 8 = (if w3 o 5 = 272 then 4 else 0)
        · rw [if_pos c2]
          by_cases c3 : ob o 4 &&& 47 = 0
          · rw [if_pos c3]
            have hd : hdw o = 0 := by unfold hdw; rw [if_pos c0, if_neg cr, if_pos c1, if_pos c2, if_pos c3]
            cases hx : (scs o 700 0 20 L 0).1 with
            | some x =>
              obtain ⟨e1, e2⟩ := a5 x hx
              have n0 : ¬ h.1 74 0 = 0 := by rw [e1]; exact x0 x hx
              have eL : R_lacks h = h := by unfold R_lacks; rw [la1_x 5 0 n0, la2_x 5 0 n0]
              rw [eL]
              have wv : wr o L = x.1 := by rw [eW hd, eA x hx]; rfl
              have wn : wrn o L = some x.2 := by rw [eN hd, eA x hx]; rfl
              exact LK.at ho hh hK hL hd (Or.inr (Or.inr rfl)) (by rw [e1, wv]) (fun _ => ⟨by rw [e1, wv], fun c hc => by rw [wn] at hc; cases hc; exact e2⟩) (fun z => absurd z n0)
            | none =>
              obtain ⟨e1, e2⟩ := a4 hx
              obtain ⟨l1, l2⟩ := lacks_v e1 cr h70 e2 hKh (top_0 hx) (top_n hx hL)
              cases hl : lck o (top o L) with
              | none =>
                rw [l1 hl]
                have wv : wr o L = 0 := by rw [eW hd, eB hx, hl]; rfl
                have wn : wrn o L = none := by rw [eN hd, eB hx, hl]; rfl
                exact LK.at ho hh hK hL hd (Or.inr (Or.inr rfl)) ⟨fun _ => wv, fun _ => e1⟩ (fun _ => ⟨by rw [e1, wv], fun c hc => by rw [wn] at hc; cases hc⟩) (fun _ => ⟨hx, hl⟩)
              | some x =>
                rw [l2 x hl]
                have wv : wr o L = x.1 := by rw [eW hd, eB hx, hl]; rfl
                have wn : wrn o L = some x.2 := by rw [eN hd, eB hx, hl]; rfl
                have n0 : ¬ (R_flt h x.1 x.2).1 74 0 = 0 := by
                  rw [flt_74]
                  rcases lck_x hl with z | z <;> rw [z] <;> decide
                exact LK.at ho hh hK hL hd (Or.inl (by rw [flt_74, flt_75])) (by rw [flt_74, wv]) (fun _ => ⟨by rw [flt_74, wv], fun c hc => by rw [wn] at hc; cases hc; exact flt_75⟩) (fun z => absurd z n0)
          · rw [if_neg c3]
            exact LK.hw rfl ho (by unfold hdw; rw [if_pos c0, if_neg cr, if_pos c1, if_pos c2, if_neg c3]) (by decide)
        · rw [if_neg c2]
          exact LK.hw rfl ho (by unfold hdw; rw [if_pos c0, if_neg cr, if_pos c1, if_neg c2]) (by decide)
      · rw [if_neg c1]
        exact LK.hw rfl ho (by unfold hdw; rw [if_pos c0, if_neg cr, if_neg c1]) (by decide)
  · rw [if_neg c0]
    exact LK.hw rfl ho (by unfold hdw; rw [if_neg c0]) (by decide)
end JxLookspec
