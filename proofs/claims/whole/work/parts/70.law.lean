/-! THE LAW, given what each pair of calls does -/
/-- a call of the class, then the same of the reference: the same answer (an int) -/
def pcI (th : Nat → Nat) (b x m : Nat) (xl : List Int32) (jx jm : Nat) (as : List Value) (σ : jx_S) (P : jx_S → Prop) : Prop := jc th 30 jx (.ref x :: as) σ (fun r σ1 => σ1.1 b = some (jx_ci xl) ∧ jx_isC σ1 m 12 = true ∧ ∃ w : Int32, r = some (.int w) ∧ jc th 30 jm (.ref m :: as) σ1 (fun r' σ2 => r' = some (.int w) ∧ P σ2))
def pcJ (th : Nat → Nat) (b x m : Nat) (xl : List Int32) (jx jm : Nat) (as : List Value) (σ : jx_S) (P : jx_S → Prop) : Prop := jc th 30 jx (.ref x :: as) σ (fun r σ1 => σ1.1 b = some (jx_ci xl) ∧ jx_isC σ1 m 12 = true ∧ ∃ w : Int64, r = some (.long w) ∧ jc th 30 jm (.ref m :: as) σ1 (fun r' σ2 => r' = some (.long w) ∧ P σ2))
/-- what each pair does, from a state on -/
def lawp_0 (th : Nat → Nat) (b x m : Nat) (xl : List Int32) (σ : jx_S) (P : jx_S → Prop) : Prop := ∀ (v0 : Int32), pcI th b x m xl 15 181 [.int v0] σ P
def lawp_1 (th : Nat → Nat) (b x m : Nat) (xl : List Int32) (σ : jx_S) (P : jx_S → Prop) : Prop := pcI th b x m xl 17 183 [] σ P
def lawp_2 (th : Nat → Nat) (b x m : Nat) (xl : List Int32) (σ : jx_S) (P : jx_S → Prop) : Prop := ∀ (v0 : Int32), (v0 = 0 ∨ v0 = 1) → pcI th b x m xl 21 184 [.int v0] σ P
def lawp_3 (th : Nat → Nat) (b x m : Nat) (xl : List Int32) (σ : jx_S) (P : jx_S → Prop) : Prop := ∀ (v0 : Int32), pcI th b x m xl 39 185 [.int v0] σ P
def lawp_4 (th : Nat → Nat) (b x m : Nat) (xl : List Int32) (σ : jx_S) (P : jx_S → Prop) : Prop := pcI th b x m xl 45 205 [] σ P
def lawp_5 (th : Nat → Nat) (b x m : Nat) (xl : List Int32) (σ : jx_S) (P : jx_S → Prop) : Prop := ∀ (v0 : Int32) (v1 : Int32), (v1 = 0 ∨ v1 = 1) → pcI th b x m xl 46 206 [.int v0, .int v1] σ P
def lawp_6 (th : Nat → Nat) (b x m : Nat) (xl : List Int32) (σ : jx_S) (P : jx_S → Prop) : Prop := ∀ (v0 : Int32) (v1 : Int64) (v2 : Int64) (v3 : Int64) (v4 : Int64) (v5 : Int32), pcI th b x m xl 71 216 [.int v0, .long v1, .long v2, .long v3, .long v4, .int v5] σ P
def lawp_7 (th : Nat → Nat) (b x m : Nat) (xl : List Int32) (σ : jx_S) (P : jx_S → Prop) : Prop := ∀ (v0 : Int32), pcI th b x m xl 153 263 [.int v0] σ P
def lawp_8 (th : Nat → Nat) (b x m : Nat) (xl : List Int32) (σ : jx_S) (P : jx_S → Prop) : Prop := ∀ (v0 : Int32) (v1 : Int32), pcI th b x m xl 154 264 [.int v0, .int v1] σ P
def lawp_9 (th : Nat → Nat) (b x m : Nat) (xl : List Int32) (σ : jx_S) (P : jx_S → Prop) : Prop := ∀ (v0 : Int32), pcI th b x m xl 156 266 [.int v0] σ P
def lawp_10 (th : Nat → Nat) (b x m : Nat) (xl : List Int32) (σ : jx_S) (P : jx_S → Prop) : Prop := pcI th b x m xl 162 268 [] σ P
def lawp_11 (th : Nat → Nat) (b x m : Nat) (xl : List Int32) (σ : jx_S) (P : jx_S → Prop) : Prop := ∀ (v0 : Int32), pcI th b x m xl 163 269 [.int v0] σ P
def lawp_12 (th : Nat → Nat) (b x m : Nat) (xl : List Int32) (σ : jx_S) (P : jx_S → Prop) : Prop := ∀ (v0 : Int32), pcI th b x m xl 165 270 [.int v0] σ P
def lawp_13 (th : Nat → Nat) (b x m : Nat) (xl : List Int32) (σ : jx_S) (P : jx_S → Prop) : Prop := ∀ (v0 : Int32) (v1 : Int32), pcI th b x m xl 166 271 [.int v0, .int v1] σ P
def lawp_14 (th : Nat → Nat) (b x m : Nat) (xl : List Int32) (σ : jx_S) (P : jx_S → Prop) : Prop := ∀ (v0 : Int32) (v1 : Int32), pcI th b x m xl 167 272 [.int v0, .int v1] σ P
def lawp_15 (th : Nat → Nat) (b x m : Nat) (xl : List Int32) (σ : jx_S) (P : jx_S → Prop) : Prop := ∀ (v0 : Int64) (v1 : Int64), pcI th b x m xl 168 273 [.long v0, .long v1] σ P
def lawp_16 (th : Nat → Nat) (b x m : Nat) (xl : List Int32) (σ : jx_S) (P : jx_S → Prop) : Prop := ∀ (v0 : Int64) (v1 : Int32), pcJ th b x m xl 170 274 [.long v0, .int v1] σ P
def lawp_17 (th : Nat → Nat) (b x m : Nat) (xl : List Int32) (σ : jx_S) (P : jx_S → Prop) : Prop := pcI th b x m xl 171 275 [] σ P
def lawp_18 (th : Nat → Nat) (b x m : Nat) (xl : List Int32) (σ : jx_S) (P : jx_S → Prop) : Prop := ∀ (v0 : Int32) (v1 : Int32), pcI th b x m xl 172 276 [.int v0, .int v1] σ P
def lawp_19 (th : Nat → Nat) (b x m : Nat) (xl : List Int32) (σ : jx_S) (P : jx_S → Prop) : Prop := ∀ (v0 : Int32), pcJ th b x m xl 173 277 [.int v0] σ P
def lawp_20 (th : Nat → Nat) (b x m : Nat) (xl : List Int32) (σ : jx_S) (P : jx_S → Prop) : Prop := ∀ (v0 : Int32), pcI th b x m xl 174 278 [.int v0] σ P
def lawp_21 (th : Nat → Nat) (b x m : Nat) (xl : List Int32) (σ : jx_S) (P : jx_S → Prop) : Prop := ∀ (v0 : Int32) (v1 : Int32), pcI th b x m xl 177 279 [.int v0, .int v1] σ P
def lawp_22 (th : Nat → Nat) (b x m : Nat) (xl : List Int32) (σ : jx_S) (P : jx_S → Prop) : Prop := pcI th b x m xl 178 280 [] σ P
def lawp_23 (th : Nat → Nat) (b x m : Nat) (xl : List Int32) (σ : jx_S) (P : jx_S → Prop) : Prop := pcI th b x m xl 179 281 [] σ P
def lawp (th : Nat → Nat) (b x m : Nat) (xl : List Int32) (σ : jx_S) (P : jx_S → Prop) : Prop := lawp_0 th b x m xl σ P ∧ lawp_1 th b x m xl σ P ∧ lawp_2 th b x m xl σ P ∧ lawp_3 th b x m xl σ P ∧ lawp_4 th b x m xl σ P ∧ lawp_5 th b x m xl σ P ∧ lawp_6 th b x m xl σ P ∧ lawp_7 th b x m xl σ P ∧ lawp_8 th b x m xl σ P ∧ lawp_9 th b x m xl σ P ∧ lawp_10 th b x m xl σ P ∧ lawp_11 th b x m xl σ P ∧ lawp_12 th b x m xl σ P ∧ lawp_13 th b x m xl σ P ∧ lawp_14 th b x m xl σ P ∧ lawp_15 th b x m xl σ P ∧ lawp_16 th b x m xl σ P ∧ lawp_17 th b x m xl σ P ∧ lawp_18 th b x m xl σ P ∧ lawp_19 th b x m xl σ P ∧ lawp_20 th b x m xl σ P ∧ lawp_21 th b x m xl σ P ∧ lawp_22 th b x m xl σ P ∧ lawp_23 th b x m xl σ P
theorem i32_add {i q : Int32} {a c : Int} (hi : i.toInt = a) (hq : q.toInt = c) (h1 : -2147483648 ≤ a + c) (h2 : a + c < 2147483648) : (i + q).toInt = a + c := by
  rw [Int32.toInt_add, hi, hq]
  unfold Int.bmod
  have e : ((2 ^ 32 : Nat) : Int) = 4294967296 := by decide
  rw [e]
  simp only
  split <;> omega
theorem i32_sub {i q : Int32} {a c : Int} (hi : i.toInt = a) (hq : q.toInt = c) (h1 : -2147483648 ≤ a - c) (h2 : a - c < 2147483648) : (i - q).toInt = a - c := by
  rw [Int32.toInt_sub, hi, hq]
  unfold Int.bmod
  have e : ((2 ^ 32 : Nat) : Int) = 4294967296 := by decide
  rw [e]
  simp only
  split <;> omega
theorem law_ild {σ : jx_S} {b n : Nat} {xl : List Int32} {j : Int32} (hb : σ.1 b = some (jx_ci xl)) (hj : j.toInt = (n : Int)) (hn : n < xl.length) : jx_ild σ [1, 101] b j = some (.int (xl.getD n 0)) := by
  unfold jx_ild
  rw [hb]
  have hc : j.toNatClampNeg = n := by
    show j.toInt.toNat = n
    omega
  have h0 : ¬ j < 0 := by
    rw [Int32.lt_iff_toInt_lt, hj]
    simp
  simp only [jx_ci]
  rw [if_pos ⟨by decide, fun h => by rcases h with h | h; exact h0 h; omega⟩, hc]
section JxLaw
variable {th : Nat → Nat} {b x m L : Nat} {xl : List Int32} {P : jx_S → Prop} {σ : jx_S} {i : Int32} {k : Nat} {Q : Option Value → jx_S → Prop}
abbrev law_J (th : Nat → Nat) (b x m : Nat) (pc : Nat) (i : Int32) (σ : jx_S) (Q : Option Value → jx_S → Prop) : Prop := cl_fj th 30 282 pc [(0, .ref b), (1, .ref x), (2, .ref m), (3, .int i)] [] σ Q
theorem law_0 (hb : σ.1 b = some (jx_ci xl)) (hx : jx_isC σ x 0 = true) (hi : i.toInt = ((11 * k : Nat) : Int)) (hk : 11 * k + 11 ≤ xl.length) (hL : xl.length ≤ 5632) (hp : lawp_0 th b x m xl σ P) (hJ : ∀ σ2, P σ2 → law_J th b x m 1020 i σ2 Q) : law_J th b x m 144 i σ Q := by
  refine cl_at dtl_0 200 [(1020, [0, 1, 2, 3])] dtl_0_k ?_
  intro C J hC hJ2
  conv => whnf
  refine ⟨_, law_ild (n := 11 * k + 1) hb ((i32_add (c := 1) hi (by decide) (by omega) (by omega)).trans (by omega)) (by omega), ?_⟩
  conv => whnf
  refine ⟨hx, hC _ _ _ _ ((hp _).mp ?_)⟩
  rintro r σ1 ⟨hb1, hm1, w, rfl, h2⟩
  conv => whnf
  refine ⟨_, law_ild (n := 11 * k + 1) hb1 ((i32_add (c := 1) hi (by decide) (by omega) (by omega)).trans (by omega)) (by omega), ?_⟩
  conv => whnf
  refine ⟨hm1, hC _ _ _ _ (h2.mp ?_)⟩
  rintro r' σ2 ⟨rfl, hP⟩
  conv => whnf
  refine jx_yes (show w = w from rfl) ?_
  exact hJ2 _ _ _ _ (hJ _ hP)
theorem law_1 (hb : σ.1 b = some (jx_ci xl)) (hx : jx_isC σ x 0 = true) (hi : i.toInt = ((11 * k : Nat) : Int)) (hk : 11 * k + 11 ≤ xl.length) (hL : xl.length ≤ 5632) (hp : lawp_1 th b x m xl σ P) (hJ : ∀ σ2, P σ2 → law_J th b x m 1020 i σ2 Q) : law_J th b x m 167 i σ Q := by
  refine cl_at dtl_1 200 [(1020, [0, 1, 2, 3])] dtl_1_k ?_
  intro C J hC hJ2
  conv => whnf
  refine ⟨hx, hC _ _ _ _ ((hp).mp ?_)⟩
  rintro r σ1 ⟨hb1, hm1, w, rfl, h2⟩
  conv => whnf
  refine ⟨hm1, hC _ _ _ _ (h2.mp ?_)⟩
  rintro r' σ2 ⟨rfl, hP⟩
  conv => whnf
  refine jx_yes (show w = w from rfl) ?_
  exact hJ2 _ _ _ _ (hJ _ hP)
theorem law_2 (hb : σ.1 b = some (jx_ci xl)) (hx : jx_isC σ x 0 = true) (hi : i.toInt = ((11 * k : Nat) : Int)) (hk : 11 * k + 11 ≤ xl.length) (hL : xl.length ≤ 5632) (hp : lawp_2 th b x m xl σ P) (hJ : ∀ σ2, P σ2 → law_J th b x m 1020 i σ2 Q) : law_J th b x m 180 i σ Q := by
  refine cl_at dtl_2 200 [(1020, [0, 1, 2, 3])] dtl_2_k ?_
  intro C J hC hJ2
  conv => whnf
  refine ⟨_, law_ild (n := 11 * k + 1) hb ((i32_add (c := 1) hi (by decide) (by omega) (by omega)).trans (by omega)) (by omega), ?_⟩
  conv => whnf
  refine ⟨fun (hz : _ = 0) => ?_, fun (hz : ¬ _ = 0) => ?_⟩
  · conv => whnf
    refine ⟨hx, hC _ _ _ _ ((hp _ (Or.inl rfl)).mp ?_)⟩
    rintro r σ1 ⟨hb1, hm1, w, rfl, h2⟩
    conv => whnf
    refine ⟨_, law_ild (n := 11 * k + 1) hb1 ((i32_add (c := 1) hi (by decide) (by omega) (by omega)).trans (by omega)) (by omega), ?_⟩
    conv => whnf
    refine jx_yes hz ?_
    conv => whnf
    refine ⟨hm1, hC _ _ _ _ (h2.mp ?_)⟩
    rintro r' σ2 ⟨rfl, hP⟩
    conv => whnf
    refine jx_yes (show w = w from rfl) ?_
    exact hJ2 _ _ _ _ (hJ _ hP)
  · conv => whnf
    refine ⟨hx, hC _ _ _ _ ((hp _ (Or.inr rfl)).mp ?_)⟩
    rintro r σ1 ⟨hb1, hm1, w, rfl, h2⟩
    conv => whnf
    refine ⟨_, law_ild (n := 11 * k + 1) hb1 ((i32_add (c := 1) hi (by decide) (by omega) (by omega)).trans (by omega)) (by omega), ?_⟩
    conv => whnf
    refine jx_no hz ?_
    conv => whnf
    refine ⟨hm1, hC _ _ _ _ (h2.mp ?_)⟩
    rintro r' σ2 ⟨rfl, hP⟩
    conv => whnf
    refine jx_yes (show w = w from rfl) ?_
    exact hJ2 _ _ _ _ (hJ _ hP)
theorem law_3 (hb : σ.1 b = some (jx_ci xl)) (hx : jx_isC σ x 0 = true) (hi : i.toInt = ((11 * k : Nat) : Int)) (hk : 11 * k + 11 ≤ xl.length) (hL : xl.length ≤ 5632) (hp : lawp_3 th b x m xl σ P) (hJ : ∀ σ2, P σ2 → law_J th b x m 1020 i σ2 Q) : law_J th b x m 219 i σ Q := by
  refine cl_at dtl_3 200 [(1020, [0, 1, 2, 3])] dtl_3_k ?_
  intro C J hC hJ2
  conv => whnf
  refine ⟨_, law_ild (n := 11 * k + 1) hb ((i32_add (c := 1) hi (by decide) (by omega) (by omega)).trans (by omega)) (by omega), ?_⟩
  conv => whnf
  refine ⟨hx, hC _ _ _ _ ((hp _).mp ?_)⟩
  rintro r σ1 ⟨hb1, hm1, w, rfl, h2⟩
  conv => whnf
  refine ⟨_, law_ild (n := 11 * k + 1) hb1 ((i32_add (c := 1) hi (by decide) (by omega) (by omega)).trans (by omega)) (by omega), ?_⟩
  conv => whnf
  refine ⟨hm1, hC _ _ _ _ (h2.mp ?_)⟩
  rintro r' σ2 ⟨rfl, hP⟩
  conv => whnf
  refine jx_yes (show w = w from rfl) ?_
  exact hJ2 _ _ _ _ (hJ _ hP)
theorem law_4 (hb : σ.1 b = some (jx_ci xl)) (hx : jx_isC σ x 0 = true) (hi : i.toInt = ((11 * k : Nat) : Int)) (hk : 11 * k + 11 ≤ xl.length) (hL : xl.length ≤ 5632) (hp : lawp_4 th b x m xl σ P) (hJ : ∀ σ2, P σ2 → law_J th b x m 1020 i σ2 Q) : law_J th b x m 242 i σ Q := by
  refine cl_at dtl_4 200 [(1020, [0, 1, 2, 3])] dtl_4_k ?_
  intro C J hC hJ2
  conv => whnf
  refine ⟨hx, hC _ _ _ _ ((hp).mp ?_)⟩
  rintro r σ1 ⟨hb1, hm1, w, rfl, h2⟩
  conv => whnf
  refine ⟨hm1, hC _ _ _ _ (h2.mp ?_)⟩
  rintro r' σ2 ⟨rfl, hP⟩
  conv => whnf
  refine jx_yes (show w = w from rfl) ?_
  exact hJ2 _ _ _ _ (hJ _ hP)
theorem law_5 (hb : σ.1 b = some (jx_ci xl)) (hx : jx_isC σ x 0 = true) (hi : i.toInt = ((11 * k : Nat) : Int)) (hk : 11 * k + 11 ≤ xl.length) (hL : xl.length ≤ 5632) (hp : lawp_5 th b x m xl σ P) (hJ : ∀ σ2, P σ2 → law_J th b x m 1020 i σ2 Q) : law_J th b x m 255 i σ Q := by
  refine cl_at dtl_5 200 [(1020, [0, 1, 2, 3])] dtl_5_k ?_
  intro C J hC hJ2
  conv => whnf
  refine ⟨_, law_ild (n := 11 * k + 1) hb ((i32_add (c := 1) hi (by decide) (by omega) (by omega)).trans (by omega)) (by omega), ?_⟩
  conv => whnf
  refine ⟨_, law_ild (n := 11 * k + 2) hb ((i32_add (c := 2) hi (by decide) (by omega) (by omega)).trans (by omega)) (by omega), ?_⟩
  conv => whnf
  refine ⟨fun (hz : _ = 0) => ?_, fun (hz : ¬ _ = 0) => ?_⟩
  · conv => whnf
    refine ⟨hx, hC _ _ _ _ ((hp _ _ (Or.inl rfl)).mp ?_)⟩
    rintro r σ1 ⟨hb1, hm1, w, rfl, h2⟩
    conv => whnf
    refine ⟨_, law_ild (n := 11 * k + 1) hb1 ((i32_add (c := 1) hi (by decide) (by omega) (by omega)).trans (by omega)) (by omega), ?_⟩
    conv => whnf
    refine ⟨_, law_ild (n := 11 * k + 2) hb1 ((i32_add (c := 2) hi (by decide) (by omega) (by omega)).trans (by omega)) (by omega), ?_⟩
    conv => whnf
    refine jx_yes hz ?_
    conv => whnf
    refine ⟨hm1, hC _ _ _ _ (h2.mp ?_)⟩
    rintro r' σ2 ⟨rfl, hP⟩
    conv => whnf
    refine jx_yes (show w = w from rfl) ?_
    exact hJ2 _ _ _ _ (hJ _ hP)
  · conv => whnf
    refine ⟨hx, hC _ _ _ _ ((hp _ _ (Or.inr rfl)).mp ?_)⟩
    rintro r σ1 ⟨hb1, hm1, w, rfl, h2⟩
    conv => whnf
    refine ⟨_, law_ild (n := 11 * k + 1) hb1 ((i32_add (c := 1) hi (by decide) (by omega) (by omega)).trans (by omega)) (by omega), ?_⟩
    conv => whnf
    refine ⟨_, law_ild (n := 11 * k + 2) hb1 ((i32_add (c := 2) hi (by decide) (by omega) (by omega)).trans (by omega)) (by omega), ?_⟩
    conv => whnf
    refine jx_no hz ?_
    conv => whnf
    refine ⟨hm1, hC _ _ _ _ (h2.mp ?_)⟩
    rintro r' σ2 ⟨rfl, hP⟩
    conv => whnf
    refine jx_yes (show w = w from rfl) ?_
    exact hJ2 _ _ _ _ (hJ _ hP)
theorem law_6 (hb : σ.1 b = some (jx_ci xl)) (hx : jx_isC σ x 0 = true) (hi : i.toInt = ((11 * k : Nat) : Int)) (hk : 11 * k + 11 ≤ xl.length) (hL : xl.length ≤ 5632) (hp : lawp_6 th b x m xl σ P) (hJ : ∀ σ2, P σ2 → law_J th b x m 1020 i σ2 Q) : law_J th b x m 304 i σ Q := by
  refine cl_at dtl_6 200 [(1020, [0, 1, 2, 3])] dtl_6_k ?_
  intro C J hC hJ2
  conv => whnf
  refine ⟨_, law_ild (n := 11 * k + 1) hb ((i32_add (c := 1) hi (by decide) (by omega) (by omega)).trans (by omega)) (by omega), ?_⟩
  conv => whnf
  refine ⟨_, law_ild (n := 11 * k + 2) hb ((i32_add (c := 2) hi (by decide) (by omega) (by omega)).trans (by omega)) (by omega), ?_⟩
  conv => whnf
  refine ⟨_, law_ild (n := 11 * k + 3) hb ((i32_add (c := 3) hi (by decide) (by omega) (by omega)).trans (by omega)) (by omega), ?_⟩
  conv => whnf
  refine ⟨_, law_ild (n := 11 * k + 4) hb ((i32_add (c := 4) hi (by decide) (by omega) (by omega)).trans (by omega)) (by omega), ?_⟩
  conv => whnf
  refine ⟨_, law_ild (n := 11 * k + 5) hb ((i32_add (c := 5) hi (by decide) (by omega) (by omega)).trans (by omega)) (by omega), ?_⟩
  conv => whnf
  refine ⟨_, law_ild (n := 11 * k + 6) hb ((i32_add (c := 6) hi (by decide) (by omega) (by omega)).trans (by omega)) (by omega), ?_⟩
  conv => whnf
  refine ⟨_, law_ild (n := 11 * k + 7) hb ((i32_add (c := 7) hi (by decide) (by omega) (by omega)).trans (by omega)) (by omega), ?_⟩
  conv => whnf
  refine ⟨_, law_ild (n := 11 * k + 8) hb ((i32_add (c := 8) hi (by decide) (by omega) (by omega)).trans (by omega)) (by omega), ?_⟩
  conv => whnf
  refine ⟨_, law_ild (n := 11 * k + 9) hb ((i32_add (c := 9) hi (by decide) (by omega) (by omega)).trans (by omega)) (by omega), ?_⟩
  conv => whnf
  refine ⟨_, law_ild (n := 11 * k + 10) hb ((i32_add (c := 10) hi (by decide) (by omega) (by omega)).trans (by omega)) (by omega), ?_⟩
  conv => whnf
  refine ⟨hx, hC _ _ _ _ ((hp _ _ _ _ _ _).mp ?_)⟩
  rintro r σ1 ⟨hb1, hm1, w, rfl, h2⟩
  conv => whnf
  refine ⟨_, law_ild (n := 11 * k + 1) hb1 ((i32_add (c := 1) hi (by decide) (by omega) (by omega)).trans (by omega)) (by omega), ?_⟩
  conv => whnf
  refine ⟨_, law_ild (n := 11 * k + 2) hb1 ((i32_add (c := 2) hi (by decide) (by omega) (by omega)).trans (by omega)) (by omega), ?_⟩
  conv => whnf
  refine ⟨_, law_ild (n := 11 * k + 3) hb1 ((i32_add (c := 3) hi (by decide) (by omega) (by omega)).trans (by omega)) (by omega), ?_⟩
  conv => whnf
  refine ⟨_, law_ild (n := 11 * k + 4) hb1 ((i32_add (c := 4) hi (by decide) (by omega) (by omega)).trans (by omega)) (by omega), ?_⟩
  conv => whnf
  refine ⟨_, law_ild (n := 11 * k + 5) hb1 ((i32_add (c := 5) hi (by decide) (by omega) (by omega)).trans (by omega)) (by omega), ?_⟩
  conv => whnf
  refine ⟨_, law_ild (n := 11 * k + 6) hb1 ((i32_add (c := 6) hi (by decide) (by omega) (by omega)).trans (by omega)) (by omega), ?_⟩
  conv => whnf
  refine ⟨_, law_ild (n := 11 * k + 7) hb1 ((i32_add (c := 7) hi (by decide) (by omega) (by omega)).trans (by omega)) (by omega), ?_⟩
  conv => whnf
  refine ⟨_, law_ild (n := 11 * k + 8) hb1 ((i32_add (c := 8) hi (by decide) (by omega) (by omega)).trans (by omega)) (by omega), ?_⟩
  conv => whnf
  refine ⟨_, law_ild (n := 11 * k + 9) hb1 ((i32_add (c := 9) hi (by decide) (by omega) (by omega)).trans (by omega)) (by omega), ?_⟩
  conv => whnf
  refine ⟨_, law_ild (n := 11 * k + 10) hb1 ((i32_add (c := 10) hi (by decide) (by omega) (by omega)).trans (by omega)) (by omega), ?_⟩
  conv => whnf
  refine ⟨hm1, hC _ _ _ _ (h2.mp ?_)⟩
  rintro r' σ2 ⟨rfl, hP⟩
  conv => whnf
  refine jx_yes (show w = w from rfl) ?_
  exact hJ2 _ _ _ _ (hJ _ hP)
theorem law_7 (hb : σ.1 b = some (jx_ci xl)) (hx : jx_isC σ x 0 = true) (hi : i.toInt = ((11 * k : Nat) : Int)) (hk : 11 * k + 11 ≤ xl.length) (hL : xl.length ≤ 5632) (hp : lawp_7 th b x m xl σ P) (hJ : ∀ σ2, P σ2 → law_J th b x m 1020 i σ2 Q) : law_J th b x m 507 i σ Q := by
  refine cl_at dtl_7 200 [(1020, [0, 1, 2, 3])] dtl_7_k ?_
  intro C J hC hJ2
  conv => whnf
  refine ⟨_, law_ild (n := 11 * k + 1) hb ((i32_add (c := 1) hi (by decide) (by omega) (by omega)).trans (by omega)) (by omega), ?_⟩
  conv => whnf
  refine ⟨hx, hC _ _ _ _ ((hp _).mp ?_)⟩
  rintro r σ1 ⟨hb1, hm1, w, rfl, h2⟩
  conv => whnf
  refine ⟨_, law_ild (n := 11 * k + 1) hb1 ((i32_add (c := 1) hi (by decide) (by omega) (by omega)).trans (by omega)) (by omega), ?_⟩
  conv => whnf
  refine ⟨hm1, hC _ _ _ _ (h2.mp ?_)⟩
  rintro r' σ2 ⟨rfl, hP⟩
  conv => whnf
  refine jx_yes (show w = w from rfl) ?_
  exact hJ2 _ _ _ _ (hJ _ hP)
theorem law_8 (hb : σ.1 b = some (jx_ci xl)) (hx : jx_isC σ x 0 = true) (hi : i.toInt = ((11 * k : Nat) : Int)) (hk : 11 * k + 11 ≤ xl.length) (hL : xl.length ≤ 5632) (hp : lawp_8 th b x m xl σ P) (hJ : ∀ σ2, P σ2 → law_J th b x m 1020 i σ2 Q) : law_J th b x m 530 i σ Q := by
  refine cl_at dtl_8 200 [(1020, [0, 1, 2, 3])] dtl_8_k ?_
  intro C J hC hJ2
  conv => whnf
  refine ⟨_, law_ild (n := 11 * k + 1) hb ((i32_add (c := 1) hi (by decide) (by omega) (by omega)).trans (by omega)) (by omega), ?_⟩
  conv => whnf
  refine ⟨_, law_ild (n := 11 * k + 2) hb ((i32_add (c := 2) hi (by decide) (by omega) (by omega)).trans (by omega)) (by omega), ?_⟩
  conv => whnf
  refine ⟨hx, hC _ _ _ _ ((hp _ _).mp ?_)⟩
  rintro r σ1 ⟨hb1, hm1, w, rfl, h2⟩
  conv => whnf
  refine ⟨_, law_ild (n := 11 * k + 1) hb1 ((i32_add (c := 1) hi (by decide) (by omega) (by omega)).trans (by omega)) (by omega), ?_⟩
  conv => whnf
  refine ⟨_, law_ild (n := 11 * k + 2) hb1 ((i32_add (c := 2) hi (by decide) (by omega) (by omega)).trans (by omega)) (by omega), ?_⟩
  conv => whnf
  refine ⟨hm1, hC _ _ _ _ (h2.mp ?_)⟩
  rintro r' σ2 ⟨rfl, hP⟩
  conv => whnf
  refine jx_yes (show w = w from rfl) ?_
  exact hJ2 _ _ _ _ (hJ _ hP)
theorem law_9 (hb : σ.1 b = some (jx_ci xl)) (hx : jx_isC σ x 0 = true) (hi : i.toInt = ((11 * k : Nat) : Int)) (hk : 11 * k + 11 ≤ xl.length) (hL : xl.length ≤ 5632) (hp : lawp_9 th b x m xl σ P) (hJ : ∀ σ2, P σ2 → law_J th b x m 1020 i σ2 Q) : law_J th b x m 563 i σ Q := by
  refine cl_at dtl_9 200 [(1020, [0, 1, 2, 3])] dtl_9_k ?_
  intro C J hC hJ2
  conv => whnf
  refine ⟨_, law_ild (n := 11 * k + 1) hb ((i32_add (c := 1) hi (by decide) (by omega) (by omega)).trans (by omega)) (by omega), ?_⟩
  conv => whnf
  refine ⟨hx, hC _ _ _ _ ((hp _).mp ?_)⟩
  rintro r σ1 ⟨hb1, hm1, w, rfl, h2⟩
  conv => whnf
  refine ⟨_, law_ild (n := 11 * k + 1) hb1 ((i32_add (c := 1) hi (by decide) (by omega) (by omega)).trans (by omega)) (by omega), ?_⟩
  conv => whnf
  refine ⟨hm1, hC _ _ _ _ (h2.mp ?_)⟩
  rintro r' σ2 ⟨rfl, hP⟩
  conv => whnf
  refine jx_yes (show w = w from rfl) ?_
  exact hJ2 _ _ _ _ (hJ _ hP)
theorem law_10 (hb : σ.1 b = some (jx_ci xl)) (hx : jx_isC σ x 0 = true) (hi : i.toInt = ((11 * k : Nat) : Int)) (hk : 11 * k + 11 ≤ xl.length) (hL : xl.length ≤ 5632) (hp : lawp_10 th b x m xl σ P) (hJ : ∀ σ2, P σ2 → law_J th b x m 1020 i σ2 Q) : law_J th b x m 586 i σ Q := by
  refine cl_at dtl_10 200 [(1020, [0, 1, 2, 3])] dtl_10_k ?_
  intro C J hC hJ2
  conv => whnf
  refine ⟨hx, hC _ _ _ _ ((hp).mp ?_)⟩
  rintro r σ1 ⟨hb1, hm1, w, rfl, h2⟩
  conv => whnf
  refine ⟨hm1, hC _ _ _ _ (h2.mp ?_)⟩
  rintro r' σ2 ⟨rfl, hP⟩
  conv => whnf
  refine jx_yes (show w = w from rfl) ?_
  exact hJ2 _ _ _ _ (hJ _ hP)
theorem law_11 (hb : σ.1 b = some (jx_ci xl)) (hx : jx_isC σ x 0 = true) (hi : i.toInt = ((11 * k : Nat) : Int)) (hk : 11 * k + 11 ≤ xl.length) (hL : xl.length ≤ 5632) (hp : lawp_11 th b x m xl σ P) (hJ : ∀ σ2, P σ2 → law_J th b x m 1020 i σ2 Q) : law_J th b x m 599 i σ Q := by
  refine cl_at dtl_11 200 [(1020, [0, 1, 2, 3])] dtl_11_k ?_
  intro C J hC hJ2
  conv => whnf
  refine ⟨_, law_ild (n := 11 * k + 1) hb ((i32_add (c := 1) hi (by decide) (by omega) (by omega)).trans (by omega)) (by omega), ?_⟩
  conv => whnf
  refine ⟨hx, hC _ _ _ _ ((hp _).mp ?_)⟩
  rintro r σ1 ⟨hb1, hm1, w, rfl, h2⟩
  conv => whnf
  refine ⟨_, law_ild (n := 11 * k + 1) hb1 ((i32_add (c := 1) hi (by decide) (by omega) (by omega)).trans (by omega)) (by omega), ?_⟩
  conv => whnf
  refine ⟨hm1, hC _ _ _ _ (h2.mp ?_)⟩
  rintro r' σ2 ⟨rfl, hP⟩
  conv => whnf
  refine jx_yes (show w = w from rfl) ?_
  exact hJ2 _ _ _ _ (hJ _ hP)
theorem law_12 (hb : σ.1 b = some (jx_ci xl)) (hx : jx_isC σ x 0 = true) (hi : i.toInt = ((11 * k : Nat) : Int)) (hk : 11 * k + 11 ≤ xl.length) (hL : xl.length ≤ 5632) (hp : lawp_12 th b x m xl σ P) (hJ : ∀ σ2, P σ2 → law_J th b x m 1020 i σ2 Q) : law_J th b x m 622 i σ Q := by
  refine cl_at dtl_12 200 [(1020, [0, 1, 2, 3])] dtl_12_k ?_
  intro C J hC hJ2
  conv => whnf
  refine ⟨_, law_ild (n := 11 * k + 1) hb ((i32_add (c := 1) hi (by decide) (by omega) (by omega)).trans (by omega)) (by omega), ?_⟩
  conv => whnf
  refine ⟨hx, hC _ _ _ _ ((hp _).mp ?_)⟩
  rintro r σ1 ⟨hb1, hm1, w, rfl, h2⟩
  conv => whnf
  refine ⟨_, law_ild (n := 11 * k + 1) hb1 ((i32_add (c := 1) hi (by decide) (by omega) (by omega)).trans (by omega)) (by omega), ?_⟩
  conv => whnf
  refine ⟨hm1, hC _ _ _ _ (h2.mp ?_)⟩
  rintro r' σ2 ⟨rfl, hP⟩
  conv => whnf
  refine jx_yes (show w = w from rfl) ?_
  exact hJ2 _ _ _ _ (hJ _ hP)
theorem law_13 (hb : σ.1 b = some (jx_ci xl)) (hx : jx_isC σ x 0 = true) (hi : i.toInt = ((11 * k : Nat) : Int)) (hk : 11 * k + 11 ≤ xl.length) (hL : xl.length ≤ 5632) (hp : lawp_13 th b x m xl σ P) (hJ : ∀ σ2, P σ2 → law_J th b x m 1020 i σ2 Q) : law_J th b x m 645 i σ Q := by
  refine cl_at dtl_13 200 [(1020, [0, 1, 2, 3])] dtl_13_k ?_
  intro C J hC hJ2
  conv => whnf
  refine ⟨_, law_ild (n := 11 * k + 1) hb ((i32_add (c := 1) hi (by decide) (by omega) (by omega)).trans (by omega)) (by omega), ?_⟩
  conv => whnf
  refine ⟨_, law_ild (n := 11 * k + 2) hb ((i32_add (c := 2) hi (by decide) (by omega) (by omega)).trans (by omega)) (by omega), ?_⟩
  conv => whnf
  refine ⟨hx, hC _ _ _ _ ((hp _ _).mp ?_)⟩
  rintro r σ1 ⟨hb1, hm1, w, rfl, h2⟩
  conv => whnf
  refine ⟨_, law_ild (n := 11 * k + 1) hb1 ((i32_add (c := 1) hi (by decide) (by omega) (by omega)).trans (by omega)) (by omega), ?_⟩
  conv => whnf
  refine ⟨_, law_ild (n := 11 * k + 2) hb1 ((i32_add (c := 2) hi (by decide) (by omega) (by omega)).trans (by omega)) (by omega), ?_⟩
  conv => whnf
  refine ⟨hm1, hC _ _ _ _ (h2.mp ?_)⟩
  rintro r' σ2 ⟨rfl, hP⟩
  conv => whnf
  refine jx_yes (show w = w from rfl) ?_
  exact hJ2 _ _ _ _ (hJ _ hP)
theorem law_14 (hb : σ.1 b = some (jx_ci xl)) (hx : jx_isC σ x 0 = true) (hi : i.toInt = ((11 * k : Nat) : Int)) (hk : 11 * k + 11 ≤ xl.length) (hL : xl.length ≤ 5632) (hp : lawp_14 th b x m xl σ P) (hJ : ∀ σ2, P σ2 → law_J th b x m 1020 i σ2 Q) : law_J th b x m 678 i σ Q := by
  refine cl_at dtl_14 200 [(1020, [0, 1, 2, 3])] dtl_14_k ?_
  intro C J hC hJ2
  conv => whnf
  refine ⟨_, law_ild (n := 11 * k + 1) hb ((i32_add (c := 1) hi (by decide) (by omega) (by omega)).trans (by omega)) (by omega), ?_⟩
  conv => whnf
  refine ⟨_, law_ild (n := 11 * k + 2) hb ((i32_add (c := 2) hi (by decide) (by omega) (by omega)).trans (by omega)) (by omega), ?_⟩
  conv => whnf
  refine ⟨hx, hC _ _ _ _ ((hp _ _).mp ?_)⟩
  rintro r σ1 ⟨hb1, hm1, w, rfl, h2⟩
  conv => whnf
  refine ⟨_, law_ild (n := 11 * k + 1) hb1 ((i32_add (c := 1) hi (by decide) (by omega) (by omega)).trans (by omega)) (by omega), ?_⟩
  conv => whnf
  refine ⟨_, law_ild (n := 11 * k + 2) hb1 ((i32_add (c := 2) hi (by decide) (by omega) (by omega)).trans (by omega)) (by omega), ?_⟩
  conv => whnf
  refine ⟨hm1, hC _ _ _ _ (h2.mp ?_)⟩
  rintro r' σ2 ⟨rfl, hP⟩
  conv => whnf
  refine jx_yes (show w = w from rfl) ?_
  exact hJ2 _ _ _ _ (hJ _ hP)
theorem law_15 (hb : σ.1 b = some (jx_ci xl)) (hx : jx_isC σ x 0 = true) (hi : i.toInt = ((11 * k : Nat) : Int)) (hk : 11 * k + 11 ≤ xl.length) (hL : xl.length ≤ 5632) (hp : lawp_15 th b x m xl σ P) (hJ : ∀ σ2, P σ2 → law_J th b x m 1020 i σ2 Q) : law_J th b x m 711 i σ Q := by
  refine cl_at dtl_15 200 [(1020, [0, 1, 2, 3])] dtl_15_k ?_
  intro C J hC hJ2
  conv => whnf
  refine ⟨_, law_ild (n := 11 * k + 1) hb ((i32_add (c := 1) hi (by decide) (by omega) (by omega)).trans (by omega)) (by omega), ?_⟩
  conv => whnf
  refine ⟨_, law_ild (n := 11 * k + 2) hb ((i32_add (c := 2) hi (by decide) (by omega) (by omega)).trans (by omega)) (by omega), ?_⟩
  conv => whnf
  refine ⟨_, law_ild (n := 11 * k + 3) hb ((i32_add (c := 3) hi (by decide) (by omega) (by omega)).trans (by omega)) (by omega), ?_⟩
  conv => whnf
  refine ⟨_, law_ild (n := 11 * k + 4) hb ((i32_add (c := 4) hi (by decide) (by omega) (by omega)).trans (by omega)) (by omega), ?_⟩
  conv => whnf
  refine ⟨hx, hC _ _ _ _ ((hp _ _).mp ?_)⟩
  rintro r σ1 ⟨hb1, hm1, w, rfl, h2⟩
  conv => whnf
  refine ⟨_, law_ild (n := 11 * k + 1) hb1 ((i32_add (c := 1) hi (by decide) (by omega) (by omega)).trans (by omega)) (by omega), ?_⟩
  conv => whnf
  refine ⟨_, law_ild (n := 11 * k + 2) hb1 ((i32_add (c := 2) hi (by decide) (by omega) (by omega)).trans (by omega)) (by omega), ?_⟩
  conv => whnf
  refine ⟨_, law_ild (n := 11 * k + 3) hb1 ((i32_add (c := 3) hi (by decide) (by omega) (by omega)).trans (by omega)) (by omega), ?_⟩
  conv => whnf
  refine ⟨_, law_ild (n := 11 * k + 4) hb1 ((i32_add (c := 4) hi (by decide) (by omega) (by omega)).trans (by omega)) (by omega), ?_⟩
  conv => whnf
  refine ⟨hm1, hC _ _ _ _ (h2.mp ?_)⟩
  rintro r' σ2 ⟨rfl, hP⟩
  conv => whnf
  refine jx_yes (show w = w from rfl) ?_
  exact hJ2 _ _ _ _ (hJ _ hP)
theorem law_16 (hb : σ.1 b = some (jx_ci xl)) (hx : jx_isC σ x 0 = true) (hi : i.toInt = ((11 * k : Nat) : Int)) (hk : 11 * k + 11 ≤ xl.length) (hL : xl.length ≤ 5632) (hp : lawp_16 th b x m xl σ P) (hJ : ∀ σ2, P σ2 → law_J th b x m 1020 i σ2 Q) : law_J th b x m 804 i σ Q := by
  refine cl_at dtl_16 200 [(1020, [0, 1, 2, 3])] dtl_16_k ?_
  intro C J hC hJ2
  conv => whnf
  refine ⟨_, law_ild (n := 11 * k + 1) hb ((i32_add (c := 1) hi (by decide) (by omega) (by omega)).trans (by omega)) (by omega), ?_⟩
  conv => whnf
  refine ⟨_, law_ild (n := 11 * k + 2) hb ((i32_add (c := 2) hi (by decide) (by omega) (by omega)).trans (by omega)) (by omega), ?_⟩
  conv => whnf
  refine ⟨_, law_ild (n := 11 * k + 3) hb ((i32_add (c := 3) hi (by decide) (by omega) (by omega)).trans (by omega)) (by omega), ?_⟩
  conv => whnf
  refine ⟨hx, hC _ _ _ _ ((hp _ _).mp ?_)⟩
  rintro r σ1 ⟨hb1, hm1, w, rfl, h2⟩
  conv => whnf
  refine ⟨_, law_ild (n := 11 * k + 1) hb1 ((i32_add (c := 1) hi (by decide) (by omega) (by omega)).trans (by omega)) (by omega), ?_⟩
  conv => whnf
  refine ⟨_, law_ild (n := 11 * k + 2) hb1 ((i32_add (c := 2) hi (by decide) (by omega) (by omega)).trans (by omega)) (by omega), ?_⟩
  conv => whnf
  refine ⟨_, law_ild (n := 11 * k + 3) hb1 ((i32_add (c := 3) hi (by decide) (by omega) (by omega)).trans (by omega)) (by omega), ?_⟩
  conv => whnf
  refine ⟨hm1, hC _ _ _ _ (h2.mp ?_)⟩
  rintro r' σ2 ⟨rfl, hP⟩
  conv => whnf
  refine jx_yes (show lg_cmp w w = 0 by simp [lg_cmp]) ?_
  exact hJ2 _ _ _ _ (hJ _ hP)
theorem law_17 (hb : σ.1 b = some (jx_ci xl)) (hx : jx_isC σ x 0 = true) (hi : i.toInt = ((11 * k : Nat) : Int)) (hk : 11 * k + 11 ≤ xl.length) (hL : xl.length ≤ 5632) (hp : lawp_17 th b x m xl σ P) (hJ : ∀ σ2, P σ2 → law_J th b x m 1020 i σ2 Q) : law_J th b x m 868 i σ Q := by
  refine cl_at dtl_17 200 [(1020, [0, 1, 2, 3])] dtl_17_k ?_
  intro C J hC hJ2
  conv => whnf
  refine ⟨hx, hC _ _ _ _ ((hp).mp ?_)⟩
  rintro r σ1 ⟨hb1, hm1, w, rfl, h2⟩
  conv => whnf
  refine ⟨hm1, hC _ _ _ _ (h2.mp ?_)⟩
  rintro r' σ2 ⟨rfl, hP⟩
  conv => whnf
  refine jx_yes (show w = w from rfl) ?_
  exact hJ2 _ _ _ _ (hJ _ hP)
theorem law_18 (hb : σ.1 b = some (jx_ci xl)) (hx : jx_isC σ x 0 = true) (hi : i.toInt = ((11 * k : Nat) : Int)) (hk : 11 * k + 11 ≤ xl.length) (hL : xl.length ≤ 5632) (hp : lawp_18 th b x m xl σ P) (hJ : ∀ σ2, P σ2 → law_J th b x m 1020 i σ2 Q) : law_J th b x m 881 i σ Q := by
  refine cl_at dtl_18 200 [(1020, [0, 1, 2, 3])] dtl_18_k ?_
  intro C J hC hJ2
  conv => whnf
  refine ⟨_, law_ild (n := 11 * k + 1) hb ((i32_add (c := 1) hi (by decide) (by omega) (by omega)).trans (by omega)) (by omega), ?_⟩
  conv => whnf
  refine ⟨_, law_ild (n := 11 * k + 2) hb ((i32_add (c := 2) hi (by decide) (by omega) (by omega)).trans (by omega)) (by omega), ?_⟩
  conv => whnf
  refine ⟨hx, hC _ _ _ _ ((hp _ _).mp ?_)⟩
  rintro r σ1 ⟨hb1, hm1, w, rfl, h2⟩
  conv => whnf
  refine ⟨_, law_ild (n := 11 * k + 1) hb1 ((i32_add (c := 1) hi (by decide) (by omega) (by omega)).trans (by omega)) (by omega), ?_⟩
  conv => whnf
  refine ⟨_, law_ild (n := 11 * k + 2) hb1 ((i32_add (c := 2) hi (by decide) (by omega) (by omega)).trans (by omega)) (by omega), ?_⟩
  conv => whnf
  refine ⟨hm1, hC _ _ _ _ (h2.mp ?_)⟩
  rintro r' σ2 ⟨rfl, hP⟩
  conv => whnf
  refine jx_yes (show w = w from rfl) ?_
  exact hJ2 _ _ _ _ (hJ _ hP)
theorem law_19 (hb : σ.1 b = some (jx_ci xl)) (hx : jx_isC σ x 0 = true) (hi : i.toInt = ((11 * k : Nat) : Int)) (hk : 11 * k + 11 ≤ xl.length) (hL : xl.length ≤ 5632) (hp : lawp_19 th b x m xl σ P) (hJ : ∀ σ2, P σ2 → law_J th b x m 1020 i σ2 Q) : law_J th b x m 914 i σ Q := by
  refine cl_at dtl_19 200 [(1020, [0, 1, 2, 3])] dtl_19_k ?_
  intro C J hC hJ2
  conv => whnf
  refine ⟨_, law_ild (n := 11 * k + 1) hb ((i32_add (c := 1) hi (by decide) (by omega) (by omega)).trans (by omega)) (by omega), ?_⟩
  conv => whnf
  refine ⟨hx, hC _ _ _ _ ((hp _).mp ?_)⟩
  rintro r σ1 ⟨hb1, hm1, w, rfl, h2⟩
  conv => whnf
  refine ⟨_, law_ild (n := 11 * k + 1) hb1 ((i32_add (c := 1) hi (by decide) (by omega) (by omega)).trans (by omega)) (by omega), ?_⟩
  conv => whnf
  refine ⟨hm1, hC _ _ _ _ (h2.mp ?_)⟩
  rintro r' σ2 ⟨rfl, hP⟩
  conv => whnf
  refine jx_yes (show lg_cmp w w = 0 by simp [lg_cmp]) ?_
  exact hJ2 _ _ _ _ (hJ _ hP)
theorem law_20 (hb : σ.1 b = some (jx_ci xl)) (hx : jx_isC σ x 0 = true) (hi : i.toInt = ((11 * k : Nat) : Int)) (hk : 11 * k + 11 ≤ xl.length) (hL : xl.length ≤ 5632) (hp : lawp_20 th b x m xl σ P) (hJ : ∀ σ2, P σ2 → law_J th b x m 1020 i σ2 Q) : law_J th b x m 938 i σ Q := by
  refine cl_at dtl_20 200 [(1020, [0, 1, 2, 3])] dtl_20_k ?_
  intro C J hC hJ2
  conv => whnf
  refine ⟨_, law_ild (n := 11 * k + 1) hb ((i32_add (c := 1) hi (by decide) (by omega) (by omega)).trans (by omega)) (by omega), ?_⟩
  conv => whnf
  refine ⟨hx, hC _ _ _ _ ((hp _).mp ?_)⟩
  rintro r σ1 ⟨hb1, hm1, w, rfl, h2⟩
  conv => whnf
  refine ⟨_, law_ild (n := 11 * k + 1) hb1 ((i32_add (c := 1) hi (by decide) (by omega) (by omega)).trans (by omega)) (by omega), ?_⟩
  conv => whnf
  refine ⟨hm1, hC _ _ _ _ (h2.mp ?_)⟩
  rintro r' σ2 ⟨rfl, hP⟩
  conv => whnf
  refine jx_yes (show w = w from rfl) ?_
  exact hJ2 _ _ _ _ (hJ _ hP)
theorem law_21 (hb : σ.1 b = some (jx_ci xl)) (hx : jx_isC σ x 0 = true) (hi : i.toInt = ((11 * k : Nat) : Int)) (hk : 11 * k + 11 ≤ xl.length) (hL : xl.length ≤ 5632) (hp : lawp_21 th b x m xl σ P) (hJ : ∀ σ2, P σ2 → law_J th b x m 1020 i σ2 Q) : law_J th b x m 961 i σ Q := by
  refine cl_at dtl_21 200 [(1020, [0, 1, 2, 3])] dtl_21_k ?_
  intro C J hC hJ2
  conv => whnf
  refine ⟨_, law_ild (n := 11 * k + 1) hb ((i32_add (c := 1) hi (by decide) (by omega) (by omega)).trans (by omega)) (by omega), ?_⟩
  conv => whnf
  refine ⟨_, law_ild (n := 11 * k + 2) hb ((i32_add (c := 2) hi (by decide) (by omega) (by omega)).trans (by omega)) (by omega), ?_⟩
  conv => whnf
  refine ⟨hx, hC _ _ _ _ ((hp _ _).mp ?_)⟩
  rintro r σ1 ⟨hb1, hm1, w, rfl, h2⟩
  conv => whnf
  refine ⟨_, law_ild (n := 11 * k + 1) hb1 ((i32_add (c := 1) hi (by decide) (by omega) (by omega)).trans (by omega)) (by omega), ?_⟩
  conv => whnf
  refine ⟨_, law_ild (n := 11 * k + 2) hb1 ((i32_add (c := 2) hi (by decide) (by omega) (by omega)).trans (by omega)) (by omega), ?_⟩
  conv => whnf
  refine ⟨hm1, hC _ _ _ _ (h2.mp ?_)⟩
  rintro r' σ2 ⟨rfl, hP⟩
  conv => whnf
  refine jx_yes (show w = w from rfl) ?_
  exact hJ2 _ _ _ _ (hJ _ hP)
theorem law_22 (hb : σ.1 b = some (jx_ci xl)) (hx : jx_isC σ x 0 = true) (hi : i.toInt = ((11 * k : Nat) : Int)) (hk : 11 * k + 11 ≤ xl.length) (hL : xl.length ≤ 5632) (hp : lawp_22 th b x m xl σ P) (hJ : ∀ σ2, P σ2 → law_J th b x m 1020 i σ2 Q) : law_J th b x m 994 i σ Q := by
  refine cl_at dtl_22 200 [(1020, [0, 1, 2, 3])] dtl_22_k ?_
  intro C J hC hJ2
  conv => whnf
  refine ⟨hx, hC _ _ _ _ ((hp).mp ?_)⟩
  rintro r σ1 ⟨hb1, hm1, w, rfl, h2⟩
  conv => whnf
  refine ⟨hm1, hC _ _ _ _ (h2.mp ?_)⟩
  rintro r' σ2 ⟨rfl, hP⟩
  conv => whnf
  refine jx_yes (show w = w from rfl) ?_
  exact hJ2 _ _ _ _ (hJ _ hP)
theorem law_23 (hb : σ.1 b = some (jx_ci xl)) (hx : jx_isC σ x 0 = true) (hi : i.toInt = ((11 * k : Nat) : Int)) (hk : 11 * k + 11 ≤ xl.length) (hL : xl.length ≤ 5632) (hp : lawp_23 th b x m xl σ P) (hJ : ∀ σ2, P σ2 → law_J th b x m 1020 i σ2 Q) : law_J th b x m 1007 i σ Q := by
  refine cl_at dtl_23 200 [(1020, [0, 1, 2, 3])] dtl_23_k ?_
  intro C J hC hJ2
  conv => whnf
  refine ⟨hx, hC _ _ _ _ ((hp).mp ?_)⟩
  rintro r σ1 ⟨hb1, hm1, w, rfl, h2⟩
  conv => whnf
  refine ⟨hm1, hC _ _ _ _ (h2.mp ?_)⟩
  rintro r' σ2 ⟨rfl, hP⟩
  conv => whnf
  refine jx_yes (show w = w from rfl) ?_
  exact hJ2 _ _ _ _ (hJ _ hP)
end JxLaw
