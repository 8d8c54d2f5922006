/-! WHAT A MESSAGE IS MADE OF -/
/-- the kind of a CODE: 1 text, 2 number, 3 units, 4 address, 5 group -/
def kdc (c : Int32) : Nat := if c = 263 ∨ c = 264 ∨ c = 296 ∨ c = 283 ∨ c = 293 ∨ c = 269 ∨ c = 444 then 1 else if c = 268 ∨ c = 258 ∨ c = 266 ∨ c = 278 ∨ c = 273 ∨ c = 285 ∨ c = 416 ∨ c = 415 ∨ c = 436 ∨ c = 450 ∨ c = 448 ∨ c = 422 then 2 else if c = 421 then 3 else if c = 257 then 4 else if c = 443 ∨ c = 437 ∨ c = 431 ∨ c = 446 ∨ c = 279 then 5 else 0
def knd (o : Nat → Int32) (p : Nat) : Nat := if ob o (p + 4) &&& 128 = 0 then kdc (w4 o p) else 0
def okz (k n : Nat) : Bool := if k = 1 then decide (1 ≤ n ∧ n ≤ 40) else if k = 2 then decide (n = 4) else if k = 3 then decide (n = 8) else if k = 4 then decide (n = 6) else true
/-- what is wrong in one attribute: RESULT and CODE -/
def ck1 (o : Nat → Int32) (d p e : Nat) : Option (Int32 × Int32) :=
  if e < p + 8 then some (5014, 0)
  else if sz o p < (if ob o (p + 4) &&& 128 = 0 then 8 else 12) ∨ e < p + sz o p then some (5014, w4 o p)
  else if ¬ ob o (p + 4) &&& 31 = 0 then some (3009, w4 o p)
  else if knd o p = 0 then (if ob o (p + 4) &&& 64 = 0 then none else some (5001, w4 o p))
  else if okz (knd o p) (sz o p - 8) = false ∨ (knd o p = 5 ∧ d = 3) then some (5014, w4 o p)
  else none
/-- what is wrong in attributes one behind the other; the first SESSION -/
def scs (o : Nat → Int32) : Nat → Nat → Nat → Nat → Nat → Option (Int32 × Int32) × Nat
  | 0, _, _, _, s => (none, s)
  | k + 1, d, p, e, s => if e ≤ p then (none, s) else match ck1 o d p e with
    | some x => (some x, s)
    | none => if knd o p = 5 then (if (scs o k (d + 1) (p + 8) (p + sz o p) s).1 = none then scs o k d (p + pad (sz o p)) e (scs o k (d + 1) (p + 8) (p + sz o p) s).2 else scs o k (d + 1) (p + 8) (p + sz o p) s) else scs o k d (p + pad (sz o p)) e (if knd o p ≠ 0 ∧ w4 o p = 263 ∧ d = 0 ∧ s = 0 then p else s)
/-- the places of attributes one behind the other -/
def tps (o : Nat → Int32) : Nat → Nat → Nat → List Nat
  | 0, _, _ => []
  | k + 1, p, e => if e ≤ p then [] else p :: tps o k (p + pad (sz o p)) e
def wf (o : Nat → Int32) : Nat → Nat → Nat → Prop
  | 0, _, _ => True
  | k + 1, p, e => e ≤ p ∨ (p + 8 ≤ e ∧ 8 ≤ sz o p ∧ p + sz o p ≤ e ∧ wf o k (p + pad (sz o p)) e)
def hit (o : Nat → Int32) (c : Int32) (p : Nat) : Bool := decide (w4 o p = c ∧ ob o (p + 4) &&& 128 = 0)
def fst (o : Nat → Int32) (c : Int32) : List Nat → Nat
  | [] => 0
  | p :: l => if hit o c p = true then p else fst o c l
def cnt (o : Nat → Int32) (c : Int32) : List Nat → Nat
  | [] => 0
  | p :: l => (if hit o c p = true then 1 else 0) + cnt o c l
/-- the own attributes of a group -/
def inr (o : Nat → Int32) (p : Nat) : List Nat := tps o (sz o p) (p + 8) (p + sz o p)
section JxParse
variable {o : Nat → Int32} {k k' d p e s q : Nat} {c : Int32} {l : List Nat}
theorem hit_i : hit o c p = true ↔ w4 o p = c ∧ ob o (p + 4) &&& 128 = 0 := by unfold hit; rw [decide_eq_true_iff]
theorem pad_le {n : Nat} : n ≤ pad n ∧ pad n ≤ n + 3 ∧ pad n % 4 = 0 := by unfold pad; omega
theorem ck1_ok (h : ck1 o d p e = none) : p + 8 ≤ e ∧ 8 ≤ sz o p ∧ p + sz o p ≤ e ∧ (knd o p ≠ 0 → okz (knd o p) (sz o p - 8) = true) ∧ (knd o p = 5 → d ≠ 3) := by
  unfold ck1 at h
  by_cases h1 : e < p + 8
  · rw [if_pos h1] at h; cases h
  rw [if_neg h1] at h
  by_cases h2 : sz o p < (if ob o (p + 4) &&& 128 = 0 then 8 else 12) ∨ e < p + sz o p
  · rw [if_pos h2] at h; cases h
  rw [if_neg h2] at h
  have hs : 8 ≤ sz o p ∧ p + sz o p ≤ e := by
    by_cases z : ob o (p + 4) &&& 128 = 0
    · rw [if_pos z] at h2; omega
    · rw [if_neg z] at h2; omega
  by_cases h3 : ¬ ob o (p + 4) &&& 31 = 0
  · rw [if_pos h3] at h; cases h
  rw [if_neg h3] at h
  refine ⟨by omega, hs.1, hs.2, fun h4 => ?_, fun h4 => ?_⟩
  · rw [if_neg h4] at h
    by_cases h5 : okz (knd o p) (sz o p - 8) = false ∨ (knd o p = 5 ∧ d = 3)
    · rw [if_pos h5] at h; cases h
    · cases hz : okz (knd o p) (sz o p - 8) with
      | true => rfl
      | false => exact absurd (Or.inl hz) h5
  · rw [if_neg (by omega)] at h
    by_cases h5 : okz (knd o p) (sz o p - 8) = false ∨ (knd o p = 5 ∧ d = 3)
    · rw [if_pos h5] at h; cases h
    · exact fun h6 => h5 (Or.inr ⟨h4, h6⟩)
theorem scs_wf : ∀ (k d p e s s' : Nat), scs o k d p e s = (none, s') → wf o k p e
  | 0, _, _, _, _, _, _ => trivial
  | k + 1, d, p, e, s, s', h => by
    unfold scs at h
    unfold wf
    split at h
    · rename_i z; exact Or.inl z
    · rename_i z
      split at h
      · rename_i x hx
        exact absurd (congrArg Prod.fst h) (by simp)
      · rename_i hx
        obtain ⟨a1, a2, a3, -⟩ := ck1_ok hx
        refine Or.inr ⟨a1, a2, a3, ?_⟩
        split at h
        · split at h
          · exact scs_wf k _ _ _ _ _ h
          · rename_i hn
            exact absurd (congrArg Prod.fst h) hn
        · exact scs_wf k _ _ _ _ _ h
theorem tps_fuel : ∀ (k k' p e : Nat), wf o k p e → e - p < k → e - p < k' → tps o k p e = tps o k' p e
  | 0, _, _, _, _, h, _ => by omega
  | _, 0, _, _, _, _, h => by omega
  | k + 1, k' + 1, p, e, hw, h1, h2 => by
    unfold wf at hw
    unfold tps
    by_cases z : e ≤ p
    · rw [if_pos z, if_pos z]
    · rw [if_neg z, if_neg z]
      rcases hw with hw | ⟨a1, a2, a3, a4⟩
      · exact absurd hw z
      · have := pad_le (n := sz o p)
        rw [tps_fuel k k' _ _ a4 (by omega) (by omega)]
theorem wf_fuel : ∀ (k k' p e : Nat), wf o k p e → e - p < k → e - p < k' → wf o k' p e
  | 0, _, _, _, _, h, _ => by omega
  | _, 0, _, _, _, _, h => by omega
  | k + 1, k' + 1, p, e, hw, h1, h2 => by
    unfold wf at hw ⊢
    rcases hw with hw | ⟨a1, a2, a3, a4⟩
    · exact Or.inl hw
    · have := pad_le (n := sz o p)
      exact Or.inr ⟨a1, a2, a3, wf_fuel k k' _ _ a4 (by omega) (by omega)⟩
/-- the places are within the bounds -/
theorem tps_in : ∀ (k p e : Nat), wf o k p e → ∀ q, q ∈ tps o k p e → p ≤ q ∧ q + 8 ≤ e ∧ 8 ≤ sz o q ∧ q + sz o q ≤ e
  | 0, _, _, _, q, hq => by unfold tps at hq; exact absurd hq List.not_mem_nil
  | k + 1, p, e, hw, q, hq => by
    unfold wf at hw
    unfold tps at hq
    split at hq
    · exact absurd hq List.not_mem_nil
    · rename_i z
      rcases hw with hw | ⟨a1, a2, a3, a4⟩
      · exact absurd hw z
      · rcases List.mem_cons.mp hq with rfl | hq
        · exact ⟨Nat.le_refl _, a1, a2, a3⟩
        · obtain ⟨b1, b2⟩ := tps_in k _ _ a4 q hq
          exact ⟨by omega, b2⟩
theorem fst_mem : ∀ l : List Nat, fst o c l ≠ 0 → fst o c l ∈ l ∧ hit o c (fst o c l) = true
  | [], h => absurd rfl h
  | p :: l, h => by
    unfold fst at h ⊢
    split
    · rename_i z; exact ⟨List.mem_cons_self, z⟩
    · rename_i z
      rw [if_neg z] at h
      exact ⟨List.mem_cons_of_mem _ (fst_mem l h).1, (fst_mem l h).2⟩
theorem fst_0 : ∀ l : List Nat, (∀ q, q ∈ l → q ≠ 0) → (fst o c l = 0 ↔ cnt o c l = 0)
  | [], _ => ⟨fun _ => rfl, fun _ => rfl⟩
  | p :: l, h => by
    unfold fst cnt
    by_cases z : hit o c p = true
    · rw [if_pos z, if_pos z]
      have := h p List.mem_cons_self
      omega
    · rw [if_neg z, if_neg z, Nat.zero_add]
      exact fst_0 l (fun q hq => h q (List.mem_cons_of_mem _ hq))
theorem fst_app : ∀ l : List Nat, (∀ q, q ∈ l → q ≠ 0) → fst o c (l ++ [p]) = if fst o c l = 0 then (if hit o c p = true then p else 0) else fst o c l
  | [], _ => by
    rw [show fst o c ([] : List Nat) = 0 from rfl, if_pos rfl]
    rfl
  | r :: l, h => by
    show fst o c (r :: (l ++ [p])) = _
    unfold fst
    by_cases z : hit o c r = true
    · rw [if_pos z, if_pos z, if_neg (h r List.mem_cons_self)]
    · rw [if_neg z, if_neg z]
      exact fst_app l (fun q hq => h q (List.mem_cons_of_mem _ hq))
theorem cnt_app : ∀ l : List Nat, cnt o c (l ++ [p]) = cnt o c l + if hit o c p = true then 1 else 0
  | [] => by
    show (if hit o c p = true then 1 else 0) + 0 = 0 + _
    omega
  | r :: l => by
    show (if hit o c r = true then 1 else 0) + cnt o c (l ++ [p]) = _
    rw [cnt_app l]
    show _ = (if hit o c r = true then 1 else 0) + cnt o c l + _
    omega
theorem cnt_le : ∀ l : List Nat, cnt o c l ≤ l.length
  | [] => Nat.le_refl _
  | p :: l => by
    have := cnt_le l
    unfold cnt
    rw [List.length_cons]
    split <;> omega
theorem tps_len : ∀ (k p e : Nat), wf o k p e → 8 * (tps o k p e).length ≤ e - p + 7
  | 0, _, _, _ => by unfold tps; simp
  | k + 1, p, e, hw => by
    unfold wf at hw
    unfold tps
    split
    · simp
    · rename_i z
      rcases hw with hw | ⟨a1, a2, a3, a4⟩
      · exact absurd hw z
      · have := pad_le (n := sz o p)
        have := tps_len k _ _ a4
        rw [List.length_cons]
        omega
/-- a hit's kind -/
theorem hit_kn (h : hit o c p = true) : knd o p = kdc c := by
  obtain ⟨h1, h2⟩ := hit_i.mp h
  unfold knd
  rw [if_pos h2, h1]
/-- the first SESSION, where nothing is wrong -/
theorem scs_d : ∀ (k d p e s s' : Nat), d ≠ 0 → scs o k d p e s = (none, s') → s' = s
  | 0, _, _, _, _, _, _, h => (congrArg Prod.snd h).symm
  | k + 1, d, p, e, s, s', hd, h => by
    unfold scs at h
    split at h
    · exact (congrArg Prod.snd h).symm
    · split at h
      · exact absurd (congrArg Prod.fst h) (by simp)
      · split at h
        · split at h
          · rename_i hn
            have e1 := scs_d k (d + 1) (p + 8) (p + sz o p) s (scs o k (d + 1) (p + 8) (p + sz o p) s).2 (by omega) (Prod.ext hn rfl)
            rw [e1] at h
            exact scs_d k d _ _ _ _ hd h
          · rename_i hn
            exact absurd (congrArg Prod.fst h) hn
        · rw [if_neg (by omega)] at h
          exact scs_d k d _ _ _ _ hd h
theorem scs_s : ∀ (k p e s s' : Nat), 0 < p → scs o k 0 p e s = (none, s') → e - p < k → s' = if s = 0 then fst o 263 (tps o k p e) else s
  | 0, _, _, _, _, _, _, h => by omega
  | k + 1, p, e, s, s', hp, h, hk => by
    have hw := scs_wf _ _ _ _ _ _ h
    unfold scs at h
    unfold tps
    split at h
    · rename_i z
      rw [if_pos z]
      have : s' = s := (congrArg Prod.snd h).symm
      rw [this]
      split
      · rename_i w; rw [w]; rfl
      · rfl
    · rename_i z
      rw [if_neg z]
      split at h
      · exact absurd (congrArg Prod.fst h) (by simp)
      · rename_i hx
        obtain ⟨a1, a2, a3, -⟩ := ck1_ok hx
        have := pad_le (n := sz o p)
        show s' = if s = 0 then (if hit o 263 p = true then p else fst o 263 (tps o k (p + pad (sz o p)) e)) else s
        split at h
        · rename_i h5
          have nh : ¬ hit o 263 p = true := fun w => by
            have := hit_kn w
            rw [h5] at this
            exact absurd this (by decide)
          rw [if_neg nh]
          split at h
          · rename_i hn
            have e1 := scs_d k 1 (p + 8) (p + sz o p) s (scs o k (0 + 1) (p + 8) (p + sz o p) s).2 (by omega) (Prod.ext hn rfl)
            rw [e1] at h
            exact scs_s k _ _ _ _ (by omega) h (by omega)
          · rename_i hn
            exact absurd (congrArg Prod.fst h) hn
        · rename_i h5
          have ih := scs_s k _ _ _ _ (by omega) h (by omega)
          by_cases hh : hit o 263 p = true
          · obtain ⟨w1, w2⟩ := hit_i.mp hh
            have kn : knd o p ≠ 0 := by rw [hit_kn hh]; decide
            rw [if_pos hh]
            by_cases s0 : s = 0
            · have eS : (if knd o p ≠ 0 ∧ w4 o p = 263 ∧ 0 = 0 ∧ s = 0 then p else s) = p := if_pos ⟨kn, w1, rfl, s0⟩
              rw [eS, if_neg (by omega)] at ih
              rw [if_pos s0]
              exact ih
            · have eS : (if knd o p ≠ 0 ∧ w4 o p = 263 ∧ 0 = 0 ∧ s = 0 then p else s) = s := if_neg (fun w => s0 w.2.2.2)
              rw [eS, if_neg s0] at ih
              rw [if_neg s0]
              exact ih
          · rw [if_neg hh]
            have nc : ¬ (knd o p ≠ 0 ∧ w4 o p = 263 ∧ 0 = 0 ∧ s = 0) := fun w => hh (hit_i.mpr ⟨w.2.1, by
              have := w.1
              unfold knd at this
              by_cases y : ob o (p + 4) &&& 128 = 0
              · exact y
              · rw [if_neg y] at this; exact absurd rfl this⟩)
            rw [if_neg nc] at ih
            exact ih
/-- where nothing is wrong the groups are well made too -/
theorem scs_g : ∀ (k d p e s s' : Nat), scs o k d p e s = (none, s') → e - p < k → ∀ q, q ∈ tps o k p e → knd o q = 5 → ∃ k' s1 s2, scs o k' (d + 1) (q + 8) (q + sz o q) s1 = (none, s2) ∧ sz o q < k' + 8
  | 0, _, _, _, _, _, _, h, _, _, _ => by omega
  | k + 1, d, p, e, s, s', h, hk, q, hq, h5 => by
    unfold scs at h
    unfold tps at hq
    split at h
    · rename_i z
      rw [if_pos z] at hq
      exact absurd hq List.not_mem_nil
    · rename_i z
      rw [if_neg z] at hq
      split at h
      · exact absurd (congrArg Prod.fst h) (by simp)
      · rename_i hx
        obtain ⟨a1, a2, a3, -⟩ := ck1_ok hx
        have := pad_le (n := sz o p)
        split at h
        · split at h
          · rename_i hn
            rcases List.mem_cons.mp hq with rfl | hq
            · exact ⟨k, s, _, (show scs o k (d + 1) (q + 8) (q + sz o q) s = (none, (scs o k (d + 1) (q + 8) (q + sz o q) s).2) from Prod.ext hn rfl), by omega⟩
            · exact scs_g k _ _ _ _ _ h (by omega) q hq h5
          · rename_i hn
            exact absurd (congrArg Prod.fst h) hn
        · rename_i hn5
          rcases List.mem_cons.mp hq with rfl | hq
          · exact absurd h5 hn5
          · exact scs_g k _ _ _ _ _ h (by omega) q hq h5
/-- what a right attribute is -/
theorem scs_k : ∀ (k d p e s s' : Nat), scs o k d p e s = (none, s') → e - p < k → ∀ q, q ∈ tps o k p e → knd o q ≠ 0 → okz (knd o q) (sz o q - 8) = true
  | 0, _, _, _, _, _, _, h, _, _, _ => by omega
  | k + 1, d, p, e, s, s', h, hk, q, hq, h5 => by
    unfold scs at h
    unfold tps at hq
    split at h
    · rename_i z
      rw [if_pos z] at hq
      exact absurd hq List.not_mem_nil
    · rename_i z
      rw [if_neg z] at hq
      split at h
      · exact absurd (congrArg Prod.fst h) (by simp)
      · rename_i hx
        obtain ⟨a1, a2, a3, a4, -⟩ := ck1_ok hx
        have := pad_le (n := sz o p)
        rcases List.mem_cons.mp hq with rfl | hq
        · exact a4 h5
        · split at h
          · split at h
            · exact scs_k k _ _ _ _ _ h (by omega) q hq h5
            · rename_i hn
              exact absurd (congrArg Prod.fst h) hn
          · exact scs_k k _ _ _ _ _ h (by omega) q hq h5
end JxParse
