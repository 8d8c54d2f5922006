/-! THE CLASS: its connections -/
def cc_ref (B : Nat) (x : Int32) : Option Nat := if x = 0 then none else some (B + 14 + 3 * (x.toNatClampNeg - 1))
def cp_ref (A : Nat → Nat → Nat) (x : Int32) : Option Nat := if x = 0 then none else some (A 6 (x.toNatClampNeg - 1))
/-- the object -/
def cx_e (B : Nat) (f : jx_F) (hA : Nat) (po : Int32) : jx_E := .inr (0, [.ref (B + 1), .int (f.1 4 0), .ref hA, .int (f.1 1 0), .int (f.1 34 0 - 1), .int po, .ref (B + 2), .ref (B + 3), .ref (B + 4), .ref (B + 5), .ref (B + 6), .ref (B + 9), .ref (B + 11)])
/-- a connection, by its number less one -/
def cc_e (f : jx_F) (A : Nat → Nat → Nat) (G : Nat → Nat → Int32) (c : Nat) : jx_E := .inr (5, [.int (Int32.ofNat (c + 1)), .int (f.1 26 (c + 1)), va_rf (cp_ref A (f.1 27 (c + 1))), .int (f.1 28 (c + 1)), .int (f.1 30 (c + 1)), .int (f.1 32 (c + 1)), .int (G 1 c), .int (f.1 33 (c + 1)), .ref (A 51 c), .ref (A 52 c)])
/-- the row of connections never changes -/
def cl_ca (B : Nat) (σ : jx_S) : Prop := ∃ g : Nat → Option Nat, σ.1 (B + 2) = some (.inl (5, 8, .inr (.inr (.inr (.inr g))))) ∧ ∀ i, i < 8 → g i = some (B + 14 + 3 * i)
section JxClsconn
variable {th : Nat → Nat} {d B hA : Nat} {σ : jx_S} {f : jx_F} {A : Nat → Nat → Nat} {G : Nat → Nat → Int32} {po : Int32}
theorem jx_ald_of {a n t : Nat} {g : Nat → Option Nat} {j : Int32} {k : Nat} (h : σ.1 a = some (.inl (t, n, .inr (.inr (.inr (.inr g)))))) (ht : t = 4 ∨ t = 5) (hj : j.toInt = (k : Int)) (hk : k < n) : jx_ald σ a j = some (va_rf (g k)) := by
  unfold jx_ald
  rw [h]
  have hn := i32_nat hj
  have h0 : ¬ j < 0 := by rw [Int32.lt_iff_toInt_lt, hj]; simp
  simp only
  rw [if_pos ⟨ht, fun z => by rcases z with z | z; exact h0 z; omega⟩, hn]
theorem jx_al_of {a n t : Nat} {y : jx_Y} (h : σ.1 a = some (.inl (t, n, y))) : jx_al σ a = some (Int32.ofNat n) := by
  unfold jx_al
  rw [h]
theorem k_connAt {c : Int32} (hX : σ.1 B = some (cx_e B f hA po)) (hCA : cl_ca B σ) : jc th (d + 1) 47 [.ref B, .int c] σ (fun r σ' => ((∃ k : Nat, k < 8 ∧ c.toInt = ((k + 1 : Nat) : Int) ∧ r = some (.ref (B + 14 + 3 * k))) ∨ (¬ (1 ≤ c ∧ c ≤ 8) ∧ r = some .null)) ∧ σ' = σ) := by
  obtain ⟨g, hg, hgi⟩ := hCA
  refine cl_go dt_47 40 [] dt_47_k rfl ?_
  intro C J hC hJ
  conv => whnf
  refine ⟨fun (h1 : c < 1) => ?_, fun (h1 : ¬ c < 1) => ?_⟩
  · conv => whnf
    exact ⟨Or.inr ⟨fun z => absurd h1 (Int32.not_lt.mpr z.1), rfl⟩, rfl⟩
  · conv => whnf
    refine ⟨_, jx_getF_of hX rfl, ?_⟩
    conv => whnf
    refine ⟨_, jx_al_of hg, ?_⟩
    conv => whnf
    refine ⟨fun (h2 : c ≤ Int32.ofNat 8) => ?_, fun (h2 : ¬ c ≤ Int32.ofNat 8) => ?_⟩
    · conv => whnf
      refine ⟨_, jx_getF_of hX rfl, ?_⟩
      conv => whnf
      have h1' : (1 : Int) ≤ c.toInt := by
        have := Int32.le_iff_toInt_le.mp (Int32.not_lt.mp h1)
        simpa using this
      have h2' : c.toInt ≤ (8 : Int) := by
        have := Int32.le_iff_toInt_le.mp h2
        simpa using this
      obtain ⟨k, hk⟩ : ∃ k : Nat, c.toInt = ((k + 1 : Nat) : Int) := ⟨(c.toInt - 1).toNat, by omega⟩
      have hc1 : (c - 1).toInt = (k : Int) := by rw [i32_sub (c := 1) hk (by decide) (by omega) (by omega)]; omega
      refine ⟨_, jx_ald_of hg (Or.inr rfl) hc1 (show k < 8 by omega), ?_⟩
      rw [hgi k (by omega)]
      conv => whnf
      exact ⟨Or.inl ⟨k, by omega, hk, rfl⟩, rfl⟩
    · conv => whnf
      exact ⟨Or.inr ⟨fun z => h2 z.2, rfl⟩, rfl⟩
end JxClsconn
