/-! WHAT HOLDS BETWEEN THE CALLS: the class's objects as the reference's state has them -/
/-- an octet -/
def isb (x : Int32) : Prop := vp_nar .byte x = x
def cn_pk (W : Nat → Int32) (i : Nat) : Int8 := (W (i / 4) >>> (24 - 8 * Int32.ofNat (i % 4))).toInt8
/-- an address from behind the two beginnings, with its mark -/
def dy (B : Nat) (σ : jx_S) (T : Nat → Nat) (a t : Nat) : Prop := B + 102 ≤ a ∧ a < σ.2.1 ∧ T a = t
def lim (f : jx_F) (p : Nat) : Int32 := if f.1 11 p = 0 ∨ f.1 11 p = 5 ∨ f.1 11 p = 6 then 2147483647 else f.1 12 p
/-- a PEER, by its number less one -/
def cp_e (B : Nat) (f : jx_F) (A : Nat → Nat → Nat) (G : Nat → Nat → Int32) (p : Nat) : jx_E := .inr (6, [.int (Int32.ofNat (p + 1)), .ref (A 60 p), .int (f.1 10 p), .int (f.1 11 p), .int (lim f p), va_rf (cc_ref B (f.1 13 p)), va_rf (cc_ref B (f.1 14 p)), .int (f.1 15 p), .int (f.1 16 p), .int (f.1 17 p), .int (f.1 18 p), .int (f.1 19 p), .int (f.1 20 p), .int (f.1 21 p), .int (G 2 p), .int (if f.1 22 p = 0 then 0 else 1), .int (f.1 23 p &&& 64), .int (f.1 24 p), .int (f.1 25 p)])
def ca_e (f : jx_F) (i : Nat) : jx_E := .inr (10, [.long (f.2 36 i), .long (f.2 37 i), .long (f.2 38 i), .long (f.2 39 i)])
def cs_e (f : jx_F) (A : Nat → Nat → Nat) (s : Nat) : jx_E := .inr (8, [.ref (A 81 s), .ref (A 10 (f.1 44 s).toNatClampNeg), .long (f.2 45 s), .long (f.2 46 s), .ref (A 82 s), .ref (A 83 s), va_rf (cp_ref A (f.1 47 s)), .int (f.1 48 s)])
def cq_e (f : jx_F) (A : Nat → Nat → Nat) (i : Nat) : jx_E := .inr (11, [.ref (A 111 i), (if f.1 55 i = 0 then .null else .ref (A 6 (f.1 54 i).toNatClampNeg)), .int (f.2 53 i).toInt32, .int (f.1 55 i), .int (f.1 56 i), .int (f.1 57 i)])
def ck_e (f : jx_F) (A : Nat → Nat → Nat) (k : Nat) : jx_E := .inr (9, [.ref (A 91 k), .int (f.1 63 k), .int (f.1 64 k - 240), .ref (A 92 k)])
/-- a list of the class: its row is the one that nobody writes, or its own -/
def al_at (th : Nat → Nat) (B : Nat) (σ : jx_S) (T : Nat → Nat) (L E t : Nat) (xs : List Nat) : Prop := (∃ mc : Int32, σ.1 L = some (.inr (1, [.ref E, .int (Int32.ofNat xs.length), .int mc]))) ∧ ((E = th 1 ∧ xs = []) ∨ (dy B σ T E t ∧ ∃ (cap : Nat) (g : Nat → Option Nat), σ.1 E = some (.inl (4, cap, .inr (.inr (.inr (.inr g))))) ∧ xs.length ≤ cap ∧ cap ∈ [10, 15, 22, 33, 49, 73] ∧ ∀ i x, xs[i]? = some x → g i = some x))
/-- a row of octets that nobody writes any more: its length, its octets -/
def ro_at (B : Nat) (σ : jx_S) (T : Nat → Nat) (a n : Nat) (o : Nat → Int32) : Prop := dy B σ T a 81 ∧ ∃ h : Nat → Int32, σ.1 a = some (.inl (0, n, .inl h)) ∧ ∀ j, j < n → h j = o j ∧ isb (h j)
/-- the object, its names, what never changes -/
def rl_x (th : Nat → Nat) (B b : Nat) (xl : List Int32) (σ : jx_S) (f : jx_F) (A : Nat → Nat → Nat) (G : Nat → Nat → Int32) (T : Nat → Nat) : Prop :=
  σ.1 b = some (jx_ci xl) ∧ b < B ∧ bg_K th σ ∧ (∀ z, z < 8 → th z < B) ∧ B + 102 ≤ σ.2.1 ∧
  σ.1 B = some (cx_e B f (A 0 0) (G 0 0)) ∧
  (∃ n : Nat, (f.1 4 0).toInt = (n : Int) ∧ n ≤ 40 ∧ ∃ h : Nat → Int32, σ.1 (B + 1) = some (.inl (0, 40, .inl h)) ∧ ∀ j, j < n → h j = f.1 3 j ∧ isb (h j)) ∧
  (∃ n : Nat, (f.1 6 0).toInt = (n : Int) ∧ n ≤ 40 ∧ ∃ h : Nat → Int32, ((A 0 0 = th 0 ∧ σ.1 (A 0 0) = some (.inl (100, n, .inl h))) ∨ (dy B σ T (A 0 0) 81 ∧ σ.1 (A 0 0) = some (.inl (0, n, .inl h)))) ∧ ∀ j, j < n → h j = f.1 5 j) ∧
  cl_ca B σ ∧ σ.1 (B + 6) = some (.inr (2, [.ref (B + 7), .ref (B + 8)])) ∧
  (∃ (o : Nat) (l w z c e : Int32), σ.1 (B + 9) = some (.inr (3, [.ref o, .int l, .int w, .int z, .int c, .int e])))
/-- the message that is made, its beginning -/
def rl_d (B : Nat) (σ : jx_S) (f : jx_F) (A : Nat → Nat → Nat) (T : Nat → Nat) : Prop :=
  (∃ c : Int32, σ.1 (B + 11) = some (.inr (4, [.ref (B + 12), .int c, .ref (A 4 0)]))) ∧ (∃ w : Nat → Int32, σ.1 (B + 12) = some (.inl (1, 64, .inl w))) ∧
  (A 4 0 = B + 38 ∨ dy B σ T (A 4 0) 4) ∧ ∃ (n : Nat) (o : Nat → Int32), σ.1 (A 4 0) = some (.inl (1, n, .inl o)) ∧ (R_me f (R_hs f) 20).length = 4 * n ∧ ∀ i x, (R_me f (R_hs f) 20)[i]? = some x → cn_pk o i = x.toInt8
/-- a connection and its rows -/
def rl_c1 (B : Nat) (σ : jx_S) (f : jx_F) (A : Nat → Nat → Nat) (G : Nat → Nat → Int32) (T : Nat → Nat) (c : Nat) : Prop := σ.1 (B + 14 + 3 * c) = some (cc_e f A G c) ∧
  ((A 51 c = B + 15 + 3 * c ∧ A 52 c = B + 16 + 3 * c ∧ (∃ h : Nat → Int32, σ.1 (A 51 c) = some (.inl (0, 0, .inl h))) ∧ (∃ h : Nat → Int32, σ.1 (A 52 c) = some (.inl (0, 0, .inl h))) ∧ f.1 26 (c + 1) = 0 ∧ f.1 30 (c + 1) = 0 ∧ f.1 32 (c + 1) = 0 ∧ f.1 33 (c + 1) = 0) ∨
  (dy B σ T (A 51 c) (510 + c) ∧ dy B σ T (A 52 c) (520 + c) ∧ (∃ (h : Nat → Int32) (n : Nat), σ.1 (A 51 c) = some (.inl (0, 600, .inl h)) ∧ (f.1 30 (c + 1)).toInt = (n : Int) ∧ n ≤ 600 ∧ ∀ j, j < n → h j = f.1 29 (600 * (c + 1) + j) ∧ isb (h j)) ∧
    ∃ (h : Nat → Int32) (a z : Nat), σ.1 (A 52 c) = some (.inl (0, 2000, .inl h)) ∧ (f.1 33 (c + 1)).toInt = (a : Int) ∧ a < 2000 ∧ (f.1 32 (c + 1)).toInt = (z : Int) ∧ z ≤ 2000 ∧ ∀ i, i < z → h ((a + i) % 2000) = f.1 31 (2000 * (c + 1) + (a + i) % 2000)))
def rl_c (B : Nat) (σ : jx_S) (f : jx_F) (A : Nat → Nat → Nat) (G : Nat → Nat → Int32) (T : Nat → Nat) : Prop := ∀ c, c < 8 → rl_c1 B σ f A G T c
def rl_p1 (B : Nat) (σ : jx_S) (f : jx_F) (A : Nat → Nat → Nat) (G : Nat → Nat → Int32) (T : Nat → Nat) (p : Nat) : Prop := dy B σ T (A 6 p) (60 + p) ∧ σ.1 (A 6 p) = some (cp_e B f A G p) ∧ (∃ n : Nat, (f.1 9 p).toInt = (n : Int) ∧ n ≤ 40 ∧ ro_at B σ T (A 60 p) n (fun j => f.1 8 (40 * p + j))) ∧ (¬ f.1 22 p = 0 → G 2 p = f.1 22 p)
def rl_p (th : Nat → Nat) (B : Nat) (σ : jx_S) (f : jx_F) (A : Nat → Nat → Nat) (G : Nat → Nat → Int32) (T : Nat → Nat) : Prop := ∃ n : Nat, (f.1 7 0).toInt = (n : Int) ∧ n ≤ 4 ∧ al_at th B σ T (B + 3) (A 70 0) 70 ((List.range n).map (A 6)) ∧ ∀ p, p < n → rl_p1 B σ f A G T p
/-- an ASK: its words tell its octets -/
def rl_q1 (B : Nat) (σ : jx_S) (f : jx_F) (A : Nat → Nat → Nat) (T : Nat → Nat) (i : Nat) : Prop := dy B σ T (A 11 i) (1000 + i) ∧ dy B σ T (A 111 i) (2000 + i) ∧ σ.1 (A 11 i) = some (cq_e f A i) ∧ R_qok f i ∧
  ∃ (n : Nat) (w : Nat → Int32), σ.1 (A 111 i) = some (.inl (1, n, .inl w)) ∧ 20 + (R_askT f i (R_hs f) (R_qn f 50 i) (R_qn f 52 i) (R_qn f 51 i)).length = 4 * n ∧ w 0 = 16777216 ||| Int32.ofNat (4 * n) ∧ w 1 = (if f.1 55 i = 0 ∨ f.1 55 i = 1 then 3221225730 else 3489661186) ∧ w 2 = 4 ∧ ∀ j x, (R_askT f i (R_hs f) (R_qn f 50 i) (R_qn f 52 i) (R_qn f 51 i))[j]? = some x → cn_pk w (20 + j) = x.toInt8
def rl_q (th : Nat → Nat) (B : Nat) (σ : jx_S) (f : jx_F) (A : Nat → Nat → Nat) (T : Nat → Nat) : Prop := ∃ n : Nat, (f.1 49 0).toInt = (n : Int) ∧ n ≤ 64 ∧ al_at th B σ T (B + 4) (A 70 1) 71 ((List.range n).map (A 11)) ∧ ∀ i, i < n → rl_q1 B σ f A T i
/-- an ANSWER that is KEPT: all its octets but LENGTH and HOP -/
def rl_k1 (B : Nat) (σ : jx_S) (f : jx_F) (A : Nat → Nat → Nat) (T : Nat → Nat) (k : Nat) : Prop := dy B σ T (A 9 k) 9 ∧ dy B σ T (A 92 k) 92 ∧ σ.1 (A 9 k) = some (ck_e f A k) ∧ (∃ n : Nat, (f.1 62 (41 * k)).toInt = (n : Int) ∧ n ≤ 40 ∧ ro_at B σ T (A 91 k) n (fun j => f.1 62 (41 * k + 1 + j))) ∧
  ∃ (n : Nat) (w : Nat → Int32), σ.1 (A 92 k) = some (.inl (1, n, .inl w)) ∧ 5 ≤ n ∧ n ≤ 64 ∧ (f.1 61 k).toInt = ((4 * n : Nat) : Int) ∧ w 0 = 16777216 ||| Int32.ofNat (4 * n) ∧ f.1 60 (320 * k) = 1 ∧ ∀ j, 4 ≤ j → j < 4 * n → (j < 12 ∨ 16 ≤ j) → (cn_pk w j).toInt32 = f.1 60 (320 * k + j)
def rl_k (th : Nat → Nat) (B : Nat) (σ : jx_S) (f : jx_F) (A : Nat → Nat → Nat) (T : Nat → Nat) : Prop := ∃ n : Nat, (f.1 59 0).toInt = (n : Int) ∧ n ≤ 32 ∧ al_at th B σ T (B + 5) (A 70 2) 72 ((List.range n).map (A 9)) ∧ (∀ k k', k < n → k' < n → A 92 k = A 92 k' → k = k') ∧ ∀ k, k < n → rl_k1 B σ f A T k
def rl_a (th : Nat → Nat) (B : Nat) (σ : jx_S) (f : jx_F) (A : Nat → Nat → Nat) (T : Nat → Nat) : Prop := ∃ n : Nat, (f.1 35 0).toInt = (n : Int) ∧ n ≤ 16 ∧ al_at th B σ T (B + 7) (A 70 3) 73 ((List.range n).map (A 10)) ∧ ∀ i, i < n → dy B σ T (A 10 i) (3000 + i) ∧ σ.1 (A 10 i) = some (ca_e f i) ∧ ¬ f.2 36 i = 0
def rl_s1 (B : Nat) (σ : jx_S) (f : jx_F) (A : Nat → Nat → Nat) (T : Nat → Nat) (s : Nat) : Prop := dy B σ T (A 8 s) 8 ∧ σ.1 (A 8 s) = some (cs_e f A s) ∧ (∃ i : Nat, (f.1 44 s).toInt = (i : Int) ∧ (i : Int) < (f.1 35 0).toInt) ∧ (∃ p : Nat, (f.1 47 s).toInt = ((p + 1 : Nat) : Int) ∧ (p : Int) < (f.1 7 0).toInt) ∧
  (∃ n : Nat, (f.1 41 (41 * s)).toInt = (n : Int) ∧ n ≤ 40 ∧ ro_at B σ T (A 81 s) n (fun j => f.1 41 (41 * s + 1 + j))) ∧ (∃ n : Nat, (f.1 42 (41 * s)).toInt = (n : Int) ∧ n ≤ 40 ∧ ro_at B σ T (A 82 s) n (fun j => f.1 42 (41 * s + 1 + j))) ∧ ∃ n : Nat, (f.1 43 (41 * s)).toInt = (n : Int) ∧ n ≤ 40 ∧ ro_at B σ T (A 83 s) n (fun j => f.1 43 (41 * s + 1 + j))
def rl_s (th : Nat → Nat) (B : Nat) (σ : jx_S) (f : jx_F) (A : Nat → Nat → Nat) (T : Nat → Nat) : Prop := ∃ n : Nat, (f.1 40 0).toInt = (n : Int) ∧ n ≤ 16 ∧ al_at th B σ T (B + 8) (A 70 4) 74 ((List.range n).map (A 8)) ∧ (∀ s s', s < n → s' < n → A 8 s = A 8 s' → s = s') ∧ ∀ s, s < n → rl_s1 B σ f A T s
/-- the class's part of it -/
def RelC (th : Nat → Nat) (B b : Nat) (xl : List Int32) (σ : jx_S) (f : jx_F) (A : Nat → Nat → Nat) (G : Nat → Nat → Int32) (T : Nat → Nat) : Prop := rl_x th B b xl σ f A G T ∧ rl_d B σ f A T ∧ rl_c B σ f A G T ∧ rl_p th B σ f A G T ∧ rl_q th B σ f A T ∧ rl_k th B σ f A T ∧ rl_a th B σ f A T ∧ rl_s th B σ f A T
/-- the fields of the reference that say nothing between the calls -/
def rf_scr (k : Nat) : Bool := Nat.beq k 0 || Nat.ble 65 k
def fN (f : jx_F) : jx_F := (fun k j => if rf_scr k = true then 0 else f.1 k j, fun k j => if rf_scr k = true then 0 else f.2 k j)
def Rel (th : Nat → Nat) (B b : Nat) (xl : List Int32) (σ : jx_S) (f : jx_F) (A : Nat → Nat → Nat) (G : Nat → Nat → Int32) (T : Nat → Nat) : Prop := σ = rf σ (B + 39) f ∧ RelC th B b xl σ (fN f) A G T
theorem fN_eq {f f' : jx_F} (h1 : ∀ k j, rf_scr k = false → f'.1 k j = f.1 k j) (h2 : ∀ k j, rf_scr k = false → f'.2 k j = f.2 k j) : fN f' = fN f := by
  refine Prod.ext (funext fun k => funext fun j => ?_) (funext fun k => funext fun j => ?_)
  · show (if _ then _ else _) = (if _ then _ else _)
    split
    · rfl
    · rename_i h; exact h1 k j (by simpa using h)
  · show (if _ then _ else _) = (if _ then _ else _)
    split
    · rfl
    · rename_i h; exact h2 k j (by simpa using h)
section JxRelframe
variable {th : Nat → Nat} {B b : Nat} {xl : List Int32} {σ σ' : jx_S} {f : jx_F} {A : Nat → Nat → Nat} {G : Nat → Nat → Int32} {T : Nat → Nat}
/-- nothing has changed but where the reference lies -/
def same_c (B : Nat) (σ σ' : jx_S) : Prop := (∀ a, a < B + 39 ∨ B + 102 ≤ a → σ'.1 a = σ.1 a) ∧ σ'.2 = σ.2
theorem same_c.mv (h : same_c B σ σ') {a t : Nat} (hd : dy B σ T a t) : dy B σ' T a t := ⟨hd.1, by rw [h.2]; exact hd.2.1, hd.2.2⟩
theorem same_c.eqv (h : same_c B σ σ') {a t : Nat} (hd : dy B σ T a t) : σ'.1 a = σ.1 a := h.1 a (Or.inr hd.1)
theorem same_c.ro (h : same_c B σ σ') {a n : Nat} {o : Nat → Int32} (hd : ro_at B σ T a n o) : ro_at B σ' T a n o := by
  obtain ⟨h1, x, h2, h3⟩ := hd
  exact ⟨h.mv h1, x, by rw [h.eqv h1]; exact h2, h3⟩
theorem same_c.al (h : same_c B σ σ') {L E t : Nat} {xs : List Nat} (hL : L < B + 39) (hd : al_at th B σ T L E t xs) : al_at th B σ' T L E t xs := by
  obtain ⟨⟨mc, h1⟩, h2⟩ := hd
  refine ⟨⟨mc, by rw [h.1 L (Or.inl hL)]; exact h1⟩, ?_⟩
  rcases h2 with h2 | ⟨h2, cap, g, h3, h4⟩
  · exact Or.inl h2
  · exact Or.inr ⟨h.mv h2, cap, g, by rw [h.eqv h2]; exact h3, h4⟩
theorem RelC.same (hR : RelC th B b xl σ f A G T) (h : same_c B σ σ') : RelC th B b xl σ' f A G T := by
  obtain ⟨hx, hd, hc, hp, hq, hk, ha, hs⟩ := hR
  refine ⟨?_, ?_, ?_, ?_, ?_, ?_, ?_, ?_⟩
  · obtain ⟨x1, x2, x3, x4, x6, x7, ⟨n, x8, x9, y, x10, x11⟩, ⟨n2, z8, z9, y2, z10, z11⟩, ⟨g, c1, c2⟩, x12, ⟨o1, o2, o3, o4, o5, o6, x13⟩⟩ := hx
    refine ⟨by rw [h.1 b (Or.inl (by omega))]; exact x1, x2, ⟨?_, ?_, fun z z1 z2 => ?_⟩, x4, by rw [h.2]; exact x6, by rw [h.1 B (Or.inl (by omega))]; exact x7, ⟨n, x8, x9, y, by rw [h.1 (B + 1) (Or.inl (by omega))]; exact x10, x11⟩, ⟨n2, z8, z9, y2, ?_, z11⟩, ⟨g, by rw [h.1 (B + 2) (Or.inl (by omega))]; exact c1, c2⟩, by rw [h.1 (B + 6) (Or.inl (by omega))]; exact x12, ⟨o1, o2, o3, o4, o5, o6, by rw [h.1 (B + 9) (Or.inl (by omega))]; exact x13⟩⟩
    · have := x4 0 (by omega)
      rw [h.1 _ (Or.inl (by omega))]; exact x3.1
    · have := x4 1 (by omega)
      rw [h.1 _ (Or.inl (by omega))]; exact x3.2.1
    · have := x4 z z2
      rw [h.1 _ (Or.inl (by omega))]; exact x3.2.2 z z1 z2
    · rcases z10 with ⟨z1, z2⟩ | ⟨z1, z2⟩
      · have := x4 0 (by omega)
        exact Or.inl ⟨z1, by rw [h.1 _ (Or.inl (by omega))]; exact z2⟩
      · exact Or.inr ⟨h.mv z1, by rw [h.eqv z1]; exact z2⟩
  · obtain ⟨⟨c, d1⟩, ⟨w, d2⟩, d3, n, o, d4, d5⟩ := hd
    refine ⟨⟨c, by rw [h.1 (B + 11) (Or.inl (by omega))]; exact d1⟩, ⟨w, by rw [h.1 (B + 12) (Or.inl (by omega))]; exact d2⟩, ?_, n, o, ?_, d5⟩
    · rcases d3 with d3 | d3
      · exact Or.inl d3
      · exact Or.inr (h.mv d3)
    · rcases d3 with d3 | d3
      · rw [h.1 _ (Or.inl (by omega))]; exact d4
      · rw [h.eqv d3]; exact d4
  · intro c hc8
    obtain ⟨c1, c2⟩ := hc c hc8
    refine ⟨by rw [h.1 _ (Or.inl (by omega))]; exact c1, ?_⟩
    rcases c2 with ⟨e1, e2, ⟨y1, e3⟩, ⟨y2, e4⟩, e5⟩ | ⟨e1, e2, ⟨y1, n1, e3, e4⟩, y2, a2, z2, e5, e6⟩
    · exact Or.inl ⟨e1, e2, ⟨y1, by rw [h.1 _ (Or.inl (by omega))]; exact e3⟩, ⟨y2, by rw [h.1 _ (Or.inl (by omega))]; exact e4⟩, e5⟩
    · exact Or.inr ⟨h.mv e1, h.mv e2, ⟨y1, n1, by rw [h.eqv e1]; exact e3, e4⟩, y2, a2, z2, by rw [h.eqv e2]; exact e5, e6⟩
  · obtain ⟨n, p1, p2, p3, p4⟩ := hp
    refine ⟨n, p1, p2, h.al (by omega) p3, fun p hpn => ?_⟩
    obtain ⟨q1, q2, ⟨n3, q3, q4, q5⟩, q6⟩ := p4 p hpn
    exact ⟨h.mv q1, by rw [h.eqv q1]; exact q2, ⟨n3, q3, q4, h.ro q5⟩, q6⟩
  · obtain ⟨n, p1, p2, p3, p4⟩ := hq
    refine ⟨n, p1, p2, h.al (by omega) p3, fun p hpn => ?_⟩
    obtain ⟨q1, q2, q3, q4, n3, w, q5, q6⟩ := p4 p hpn
    exact ⟨h.mv q1, h.mv q2, by rw [h.eqv q1]; exact q3, q4, n3, w, by rw [h.eqv q2]; exact q5, q6⟩
  · obtain ⟨n, p1, p2, p3, pi, p4⟩ := hk
    refine ⟨n, p1, p2, h.al (by omega) p3, pi, fun p hpn => ?_⟩
    obtain ⟨q1, q2, q3, ⟨n4, q4, q5, q6⟩, n3, w, q7, q8⟩ := p4 p hpn
    exact ⟨h.mv q1, h.mv q2, by rw [h.eqv q1]; exact q3, ⟨n4, q4, q5, h.ro q6⟩, n3, w, by rw [h.eqv q2]; exact q7, q8⟩
  · obtain ⟨n, p1, p2, p3, p4⟩ := ha
    refine ⟨n, p1, p2, h.al (by omega) p3, fun p hpn => ?_⟩
    obtain ⟨q1, q2, q3⟩ := p4 p hpn
    exact ⟨h.mv q1, by rw [h.eqv q1]; exact q2, q3⟩
  · obtain ⟨n, p1, p2, p3, pi, p4⟩ := hs
    refine ⟨n, p1, p2, h.al (by omega) p3, pi, fun p hpn => ?_⟩
    obtain ⟨q1, q2, q3, q4, ⟨n5, q5, q6, q7⟩, ⟨n8, q8, q9, q10⟩, n11, q11, q12, q13⟩ := p4 p hpn
    exact ⟨h.mv q1, by rw [h.eqv q1]; exact q2, q3, q4, ⟨n5, q5, q6, h.ro q7⟩, ⟨n8, q8, q9, h.ro q10⟩, n11, q11, q12, h.ro q13⟩
/-- the reference goes on: the class's part stays -/
theorem RelC.rf {g : jx_F} (hR : RelC th B b xl σ f A G T) : RelC th B b xl (rf σ (B + 39) g) f A G T := by
  refine hR.same ⟨fun a ha => ?_, rfl⟩
  show (if _ then _ else _) = _
  rw [if_neg (by omega), if_neg (by omega)]
end JxRelframe
