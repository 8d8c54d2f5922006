/-! THE PAIR sign -/
/-- an octet of a number, from its top -/
def oc (c : Int32) (i : Nat) : Int32 := (c >>> Int32.ofNat (24 - 8 * i)) &&& 255
theorem ush_and (x : Int32) (s : Nat) (hs : s ≤ 24) (y z : Int32) (e1 : y.toBitVec = x.toBitVec >>> s) (e2 : z.toBitVec = x.toBitVec.sshiftRight s) : y &&& 255 = z &&& 255 := by
  apply Int32.toBitVec_inj.mp
  show y.toBitVec &&& 255#32 = z.toBitVec &&& 255#32
  apply BitVec.eq_of_getLsbD_eq
  intro i hi
  rw [e1, e2, BitVec.getLsbD_and, BitVec.getLsbD_and, BitVec.getLsbD_ushiftRight, BitVec.getLsbD_sshiftRight]
  by_cases h8 : i < 8
  · have h1 : ¬ 32 ≤ i := by omega
    have h2 : s + i < 32 := by omega
    simp [h1, h2]
  · have : (255#32 : BitVec 32).getLsbD i = false := by
      have e : (255#32 : BitVec 32) = BitVec.ofNat 32 (2^8 - 1) := rfl
      rw [e]
      simp only [BitVec.getLsbD_ofNat, Nat.testBit_two_pow_sub_one]
      simp [h8]
    rw [this, Bool.and_false, Bool.and_false]
theorem oc_u (c : Int32) : ∀ i, i < 4 → (c.toUInt32 >>> ((Int32.ofNat (24 - 8 * i)).toUInt32 &&& Int32.toUInt32 31)).toInt32 &&& 255 = oc c i
  | 0, _ => ush_and c 24 (by omega) _ _ rfl rfl
  | 1, _ => ush_and c 16 (by omega) _ _ rfl rfl
  | 2, _ => ush_and c 8 (by omega) _ _ rfl rfl
  | 3, _ => ush_and c 0 (by omega) _ _ rfl rfl
  | i + 4, h => by omega
theorem oc_s (c : Int32) : ∀ i, i < 4 → (c >>> (Int32.ofNat (24 - 8 * i) &&& 31)) &&& 255 = oc c i
  | 0, _ => rfl
  | 1, _ => rfl
  | 2, _ => rfl
  | 3, _ => rfl
  | i + 4, h => by omega
def isS (o : Int32) : Prop := (97 ≤ o ∧ o ≤ 122) ∨ (48 ≤ o ∧ o ≤ 57) ∨ o = 46 ∨ o = 45
/-- r octets are left, from i on -/
def sg_bad (c : Int32) : Nat → Nat → Prop
  | 0, _ => False
  | r + 1, i => (¬ oc c i = 0 ∧ ¬ isS (oc c i)) ∨ sg_bad c r (i + 1)
def sg_more (c : Int32) : Nat → Nat → Nat
  | 0, _ => 0
  | r + 1, i => (if oc c i = 0 then 0 else 1) + sg_more c r (i + 1)
def R_sg1 (c : Int32) (i : Nat) (f : jx_F) : jx_F := if oc c i = 0 then f else rf_ui (rf_ui f 3 (f.1 4 0).toNatClampNeg (oc c i).toInt8.toInt32) 4 0 (f.1 4 0 + 1)
def R_sg (c : Int32) : Nat → Nat → jx_F → jx_F
  | 0, _, f => f
  | r + 1, i, f => R_sg c r (i + 1) (R_sg1 c i f)
noncomputable def R_signF (f : jx_F) (c : Int32) : Int32 × jx_F := if c = -1 then (0, rf_ui f 4 0 0) else @ite _ (sg_bad c 4 0) (Classical.propDecidable _) (-2, f) (if 40 < (f.1 4 0).toNatClampNeg + sg_more c 4 0 then (-4, f) else ((R_sg c 4 0 f).1 4 0, R_sg c 4 0 f))
theorem sg_more_le (c : Int32) : ∀ r i, sg_more c r i ≤ r
  | 0, _ => Nat.le_refl _
  | r + 1, i => by
    unfold sg_more
    have := sg_more_le c r (i + 1)
    split <;> omega
section JxSign
variable {th : Nat → Nat} {B b m d k n : Nat} {xl : List Int32} {σ σ' σ0 : jx_S} {f f' : jx_F} {A : Nat → Nat → Nat} {G : Nat → Nat → Int32} {T : Nat → Nat} {c o : Int32}
theorem r_isSign : rfc th σ0 m (d + 1) 182 [.int o] f (fun r f' => ((r = some (.int 1) ∧ isS o) ∨ (r = some (.int 0) ∧ ¬ isS o)) ∧ f' = f) := by
  refine rf_go dt_182 40 [] dt_182_k (by decide +kernel) rfl ?_
  intro C J hC hJ
  have yes : isS o → (∃ z : Prop, z) := fun _ => ⟨True, trivial⟩
  conv => whnf
  refine ⟨fun (h1 : o < 97) => ?_, fun (h1 : ¬ o < 97) => ?_⟩
  · conv => whnf
    refine ⟨fun (h2 : o < 48) => ?_, fun (h2 : ¬ o < 48) => ?_⟩
    · conv => whnf
      refine ⟨fun (h3 : o = 46) => ?_, fun (h3 : ¬ o = 46) => ?_⟩
      · conv => whnf
        exact ⟨Or.inr rfl, Or.inl ⟨rfl, Or.inr (Or.inr (Or.inl h3))⟩, rfl⟩
      · conv => whnf
        refine ⟨fun (h4 : ¬ o = 45) => ?_, fun (h4 : ¬ ¬ o = 45) => ?_⟩
        · conv => whnf
          refine ⟨Or.inl rfl, Or.inr ⟨rfl, ?_⟩, rfl⟩
          rintro (z | z | z | z)
          · exact absurd h1 (Int32.not_lt.mpr z.1)
          · exact absurd h2 (Int32.not_lt.mpr z.1)
          · exact h3 z
          · exact h4 z
        · conv => whnf
          exact ⟨Or.inr rfl, Or.inl ⟨rfl, Or.inr (Or.inr (Or.inr (Decidable.not_not.mp h4)))⟩, rfl⟩
    · conv => whnf
      refine ⟨fun (h3 : o ≤ 57) => ?_, fun (h3 : ¬ o ≤ 57) => ?_⟩
      · conv => whnf
        exact ⟨Or.inr rfl, Or.inl ⟨rfl, Or.inr (Or.inl ⟨Int32.not_lt.mp h2, h3⟩)⟩, rfl⟩
      · conv => whnf
        refine ⟨fun (h4 : o = 46) => ?_, fun (h4 : ¬ o = 46) => ?_⟩
        · conv => whnf
          exact ⟨Or.inr rfl, Or.inl ⟨rfl, Or.inr (Or.inr (Or.inl h4))⟩, rfl⟩
        · conv => whnf
          refine ⟨fun (h5 : ¬ o = 45) => ?_, fun (h5 : ¬ ¬ o = 45) => ?_⟩
          · conv => whnf
            refine ⟨Or.inl rfl, Or.inr ⟨rfl, ?_⟩, rfl⟩
            rintro (z | z | z | z)
            · exact absurd h1 (Int32.not_lt.mpr z.1)
            · exact h3 z.2
            · exact h4 z
            · exact h5 z
          · conv => whnf
            exact ⟨Or.inr rfl, Or.inl ⟨rfl, Or.inr (Or.inr (Or.inr (Decidable.not_not.mp h5)))⟩, rfl⟩
  · conv => whnf
    refine ⟨fun (h2 : o ≤ 122) => ?_, fun (h2 : ¬ o ≤ 122) => ?_⟩
    · conv => whnf
      exact ⟨Or.inr rfl, Or.inl ⟨rfl, Or.inl ⟨Int32.not_lt.mp h1, h2⟩⟩, rfl⟩
    · have h97 : ¬ o < 48 := fun z => h1 (by
        rw [Int32.lt_iff_toInt_lt] at z ⊢
        have e1 : (48 : Int32).toInt = 48 := by decide
        have e2 : (97 : Int32).toInt = 97 := by decide
        omega)
      have h57 : ¬ o ≤ 57 := fun z => h1 (by
        rw [Int32.le_iff_toInt_le] at z
        rw [Int32.lt_iff_toInt_lt]
        have e1 : (57 : Int32).toInt = 57 := by decide
        have e2 : (97 : Int32).toInt = 97 := by decide
        omega)
      have h46 : ¬ o = 46 := fun z => h1 (by rw [z]; decide)
      have h45 : ¬ o = 45 := fun z => h1 (by rw [z]; decide)
      conv => whnf
      refine jx_no h97 ?_
      conv => whnf
      refine jx_no h57 ?_
      conv => whnf
      refine jx_no h46 ?_
      conv => whnf
      refine jx_yes h45 ?_
      conv => whnf
      refine ⟨Or.inl rfl, Or.inr ⟨rfl, ?_⟩, rfl⟩
      rintro (z | z | z | z)
      · exact h2 z.2
      · exact h57 z.2
      · exact h46 z
      · exact h45 z
theorem k_isOfNames : jc th (d + 1) 16 [.int o] σ (fun r σ' => ((r = some (.int 1) ∧ isS o) ∨ (r = some (.int 0) ∧ ¬ isS o)) ∧ σ' = σ) := by
  refine cl_go dt_16 40 [] dt_16_k rfl ?_
  intro C J hC hJ
  conv => whnf
  refine ⟨fun (h1 : o < 97) => ?_, fun (h1 : ¬ o < 97) => ?_⟩
  · conv => whnf
    refine ⟨fun (h2 : o < 48) => ?_, fun (h2 : ¬ o < 48) => ?_⟩
    · conv => whnf
      refine ⟨fun (h3 : o = 46) => ?_, fun (h3 : ¬ o = 46) => ?_⟩
      · conv => whnf
        exact ⟨Or.inr rfl, Or.inl ⟨rfl, Or.inr (Or.inr (Or.inl h3))⟩, rfl⟩
      · conv => whnf
        refine ⟨fun (h4 : ¬ o = 45) => ?_, fun (h4 : ¬ ¬ o = 45) => ?_⟩
        · conv => whnf
          refine ⟨Or.inl rfl, Or.inr ⟨rfl, ?_⟩, rfl⟩
          rintro (z | z | z | z)
          · exact absurd h1 (Int32.not_lt.mpr z.1)
          · exact absurd h2 (Int32.not_lt.mpr z.1)
          · exact h3 z
          · exact h4 z
        · conv => whnf
          exact ⟨Or.inr rfl, Or.inl ⟨rfl, Or.inr (Or.inr (Or.inr (Decidable.not_not.mp h4)))⟩, rfl⟩
    · conv => whnf
      refine ⟨fun (h3 : o ≤ 57) => ?_, fun (h3 : ¬ o ≤ 57) => ?_⟩
      · conv => whnf
        exact ⟨Or.inr rfl, Or.inl ⟨rfl, Or.inr (Or.inl ⟨Int32.not_lt.mp h2, h3⟩)⟩, rfl⟩
      · conv => whnf
        refine ⟨fun (h4 : o = 46) => ?_, fun (h4 : ¬ o = 46) => ?_⟩
        · conv => whnf
          exact ⟨Or.inr rfl, Or.inl ⟨rfl, Or.inr (Or.inr (Or.inl h4))⟩, rfl⟩
        · conv => whnf
          refine ⟨fun (h5 : ¬ o = 45) => ?_, fun (h5 : ¬ ¬ o = 45) => ?_⟩
          · conv => whnf
            refine ⟨Or.inl rfl, Or.inr ⟨rfl, ?_⟩, rfl⟩
            rintro (z | z | z | z)
            · exact absurd h1 (Int32.not_lt.mpr z.1)
            · exact h3 z.2
            · exact h4 z
            · exact h5 z
          · conv => whnf
            exact ⟨Or.inr rfl, Or.inl ⟨rfl, Or.inr (Or.inr (Or.inr (Decidable.not_not.mp h5)))⟩, rfl⟩
  · conv => whnf
    refine ⟨fun (h2 : o ≤ 122) => ?_, fun (h2 : ¬ o ≤ 122) => ?_⟩
    · conv => whnf
      exact ⟨Or.inr rfl, Or.inl ⟨rfl, Or.inl ⟨Int32.not_lt.mp h1, h2⟩⟩, rfl⟩
    · have h97 : ¬ o < 48 := fun z => h1 (by
        rw [Int32.lt_iff_toInt_lt] at z ⊢
        have e1 : (48 : Int32).toInt = 48 := by decide
        have e2 : (97 : Int32).toInt = 97 := by decide
        omega)
      have h57 : ¬ o ≤ 57 := fun z => h1 (by
        rw [Int32.le_iff_toInt_le] at z
        rw [Int32.lt_iff_toInt_lt]
        have e1 : (57 : Int32).toInt = 57 := by decide
        have e2 : (97 : Int32).toInt = 97 := by decide
        omega)
      have h46 : ¬ o = 46 := fun z => h1 (by rw [z]; decide)
      have h45 : ¬ o = 45 := fun z => h1 (by rw [z]; decide)
      conv => whnf
      refine jx_no h97 ?_
      conv => whnf
      refine jx_no h57 ?_
      conv => whnf
      refine jx_no h46 ?_
      conv => whnf
      refine jx_yes h45 ?_
      conv => whnf
      refine ⟨Or.inl rfl, Or.inr ⟨rfl, ?_⟩, rfl⟩
      rintro (z | z | z | z)
      · exact h2 z.2
      · exact h57 z.2
      · exact h46 z
      · exact h45 z
/-- the shift of the next octet -/
theorem sh_next {sv : Int32} {i : Nat} (h : sv = Int32.ofInt (24 - 8 * (i : Int))) (hi : i < 4) : sv + Int32.ofInt (-8) = Int32.ofInt (24 - 8 * ((i + 1 : Nat) : Int)) := by
  rw [h]
  have : i = 0 ∨ i = 1 ∨ i = 2 ∨ i = 3 := by omega
  rcases this with rfl | rfl | rfl | rfl <;> decide
theorem sh_nat {sv : Int32} {i : Nat} (h : sv = Int32.ofInt (24 - 8 * (i : Int))) (hi : i < 4) : sv = Int32.ofNat (24 - 8 * i) ∧ ¬ sv < 0 := by
  rw [h]
  have : i = 0 ∨ i = 1 ∨ i = 2 ∨ i = 3 := by omega
  rcases this with rfl | rfl | rfl | rfl <;> decide
theorem r_sg1 {Q : Option Value → jx_F → Prop} : ∀ (r i M : Nat) (sv mv : Int32), sv = Int32.ofInt (24 - 8 * (i : Int)) → i + r = 4 → mv.toInt = (M : Int) → M ≤ i → (sg_bad c r i → Q (some (.int (-2))) f) → (¬ sg_bad c r i → ∀ mv' : Int32, mv'.toInt = ((M + sg_more c r i : Nat) : Int) → jx_fj th (rf_g m) (rf σ0 m) (d + 1) 181 70 [(0, .ref 0), (1, .int c), (2, .int mv')] [] f Q) → jx_fj th (rf_g m) (rf σ0 m) (d + 1) 181 22 [(0, .ref 0), (1, .int c), (2, .int mv), (3, .int sv)] [] f Q
  | 0, i, M, sv, mv, hs, hi, hm, hMi, h1, h2 => by
    refine rf_at dt_181 60 [(70, [0, 1, 2])] dt_181_k (by decide +kernel) ?_
    intro C J hC hJ
    conv => whnf
    refine jx_yes (show sv < 0 by rw [hs, show i = 4 by omega]; decide) ?_
    conv => whnf
    exact hJ _ _ _ _ (h2 (fun z => z) mv (by show _ = ((M + 0 : Nat) : Int); exact hm))
  | r + 1, i, M, sv, mv, hs, hi, hm, hMi, h1, h2 => by
    obtain ⟨e1, e2⟩ := sh_nat hs (by omega)
    have eo := oc_s c i (by omega)
    rw [← e1] at eo
    refine rf_at dt_181 60 [(22, [0, 1, 2, 3])] dt_181_k (by decide +kernel) ?_
    intro C J hC hJ
    conv => whnf
    refine jx_no e2 ?_
    conv => whnf
    rw [show (fun x y : Int32 => x &&& y) ((fun x y : Int32 => x >>> (y &&& 31)) c sv) 255 = oc c i from eo]
    by_cases h0 : oc c i = 0
    · refine jx_yes h0 ?_
      conv => whnf
      refine jx_yes h0 ?_
      conv => whnf
      have e3 : sg_more c (r + 1) i = sg_more c r (i + 1) := by
        show (if oc c i = 0 then 0 else 1) + _ = _
        rw [if_pos h0, Nat.zero_add]
      refine hJ _ _ _ _ (r_sg1 r (i + 1) M _ _ (sh_next hs (by omega)) (by omega) (by rw [i32_add hm (show (0 : Int32).toInt = 0 by decide) (by omega) (by omega)]; omega) (by omega) (fun z => h1 (Or.inr z)) (fun z mv' hm' => h2 (fun w => w.elim (fun w => w.1 h0) z) mv' (by rw [e3]; exact hm')))
    · refine jx_no h0 ?_
      conv => whnf
      refine hC _ _ _ _ (r_isSign.mp ?_)
      rintro r' f1 ⟨hcs, hf1⟩
      rw [hf1]
      rcases hcs with ⟨rfl, hS⟩ | ⟨rfl, hS⟩
      · conv => whnf
        refine jx_yes (show ¬ (1 : Int32) = 0 by decide) ?_
        conv => whnf
        refine jx_no h0 ?_
        conv => whnf
        have e3 : sg_more c (r + 1) i = 1 + sg_more c r (i + 1) := by
          show (if oc c i = 0 then 0 else 1) + _ = _
          rw [if_neg h0]
        refine hJ _ _ _ _ (r_sg1 r (i + 1) (M + 1) _ _ (sh_next hs (by omega)) (by omega) (by rw [i32_add hm (show (1 : Int32).toInt = 1 by decide) (by omega) (by omega)]; omega) (by omega) (fun z => h1 (Or.inr z)) (fun z mv' hm' => h2 (fun w => w.elim (fun w => w.2 hS) z) mv' (by rw [e3, hm']; omega)))
      · conv => whnf
        refine jx_no (show ¬ ¬ (0 : Int32) = 0 from fun z => z rfl) ?_
        conv => whnf
        exact h1 (Or.inl ⟨h0, hS⟩)
theorem r_sg2 {Q : Option Value → jx_F → Prop} : ∀ (r i N : Nat) (sv : Int32) (f : jx_F), sv = Int32.ofInt (24 - 8 * (i : Int)) → i + r = 4 → (f.1 4 0).toInt = (N : Int) → N + sg_more c r i ≤ 40 → Q (some (.int ((R_sg c r i f).1 4 0))) (R_sg c r i f) → jx_fj th (rf_g m) (rf σ0 m) (d + 1) 181 87 [(0, .ref 0), (1, .int c), (3, .int sv)] [] f Q
  | 0, i, N, sv, f, hs, hi, hN, hl, h => by
    refine rf_at dt_181 60 [] dt_181_k (by decide +kernel) ?_
    intro C J hC hJ
    conv => whnf
    refine jx_yes (show sv < 0 by rw [hs, show i = 4 by omega]; decide) ?_
    conv => whnf
    exact h
  | r + 1, i, N, sv, f, hs, hi, hN, hl, h => by
    obtain ⟨e1, e2⟩ := sh_nat hs (by omega)
    have eo := oc_s c i (by omega)
    rw [← e1] at eo
    refine rf_at dt_181 60 [(87, [0, 1, 3])] dt_181_k (by decide +kernel) ?_
    intro C J hC hJ
    conv => whnf
    refine jx_no e2 ?_
    conv => whnf
    rw [show (fun x y : Int32 => x &&& y) ((fun x y : Int32 => x >>> (y &&& 31)) c sv) 255 = oc c i from eo]
    by_cases h0 : oc c i = 0
    · have e3 : sg_more c (r + 1) i = sg_more c r (i + 1) := by
        show (if oc c i = 0 then 0 else 1) + _ = _
        rw [if_pos h0, Nat.zero_add]
      have e4 : R_sg c (r + 1) i f = R_sg c r (i + 1) f := by
        show R_sg c r (i + 1) (R_sg1 c i f) = _
        unfold R_sg1
        rw [if_pos h0]
      rw [e4] at h
      refine jx_yes h0 ?_
      conv => whnf
      exact hJ _ _ _ _ (r_sg2 r (i + 1) N _ f (sh_next hs (by omega)) (by omega) hN (by omega) h)
    · have e3 : sg_more c (r + 1) i = 1 + sg_more c r (i + 1) := by
        show (if oc c i = 0 then 0 else 1) + _ = _
        rw [if_neg h0]
      have e5 : R_sg1 c i f = rf_ui (rf_ui f 3 (f.1 4 0).toNatClampNeg (oc c i).toInt8.toInt32) 4 0 (f.1 4 0 + 1) := by
        unfold R_sg1
        rw [if_neg h0]
      have e4 : R_sg c (r + 1) i f = R_sg c r (i + 1) (R_sg1 c i f) := rfl
      rw [e4, e5] at h
      refine jx_no h0 ?_
      conv => whnf
      refine ⟨jx_in_nat hN (show N < 40 by omega), ?_⟩
      conv => whnf
      rw [nar_b]
      refine hJ _ _ _ _ (r_sg2 r (i + 1) (N + 1) _ (rf_ui (rf_ui f 3 (f.1 4 0).toNatClampNeg (oc c i).toInt8.toInt32) 4 0 (f.1 4 0 + 1)) (sh_next hs (by omega)) (by omega) ?_ (by omega) h)
      rw [rf_ui_eq, i32_add (c := 1) hN (by decide) (by omega) (by omega)]
      omega
theorem r_sign {N : Nat} (hN : (f.1 4 0).toInt = (N : Int)) (hN4 : N ≤ 40) : rfc th σ0 m (d + 2) 181 [.ref 0, .int c] f (fun r f' => r = some (.int (R_signF (rf_ui f 0 0 0) c).1) ∧ f' = (R_signF (rf_ui f 0 0 0) c).2) := by
  obtain ⟨g, hgd⟩ : ∃ g, g = rf_ui f 0 0 0 := ⟨_, rfl⟩
  have hN' : (g.1 4 0).toInt = (N : Int) := by rw [hgd, rf_ui_ne (by omega)]; exact hN
  rw [← hgd]
  have hml := sg_more_le c 4 0
  refine rf_go dt_181 60 [(22, [0, 1, 2, 3])] dt_181_k (by decide +kernel) rfl ?_
  intro C J hC hJ
  conv => whnf
  rw [show rf_ui f 0 0 0 = g from hgd.symm]
  refine ⟨fun (h1 : ¬ c = -1) => ?_, fun (h1 : ¬ ¬ c = -1) => ?_⟩
  · conv => whnf
    refine hJ _ _ _ _ (r_sg1 4 0 0 _ _ (by decide) (by omega) (by decide) (by omega) (fun hb => ?_) (fun hb mv' hm' => ?_))
    · unfold R_signF
      rw [if_neg h1, if_pos hb]
      exact ⟨rfl, rfl⟩
    · have hs : (g.1 4 0 + mv').toInt = ((N + sg_more c 4 0 : Nat) : Int) := by rw [i32_add hN' hm' (by omega) (by omega)]; omega
      have e40 : (40 : Int32).toInt = 40 := by decide
      refine rf_at dt_181 60 [(87, [0, 1, 3])] dt_181_k (by decide +kernel) ?_
      intro C J hC hJ
      conv => whnf
      refine ⟨fun (h2 : g.1 4 0 + mv' ≤ 40) => ?_, fun (h2 : ¬ g.1 4 0 + mv' ≤ 40) => ?_⟩
      · rw [Int32.le_iff_toInt_le, hs, e40] at h2
        conv => whnf
        refine hJ _ _ _ _ (r_sg2 4 0 N _ g (by decide) (by omega) hN' (by omega) ?_)
        unfold R_signF
        rw [if_neg h1, if_neg hb, if_neg (by rw [i32_nat hN']; omega)]
        exact ⟨rfl, rfl⟩
      · rw [Int32.le_iff_toInt_le, hs, e40] at h2
        conv => whnf
        unfold R_signF
        rw [if_neg h1, if_neg hb, if_pos (by rw [i32_nat hN']; omega)]
        exact ⟨rfl, rfl⟩
  · conv => whnf
    unfold R_signF
    rw [if_pos (Decidable.not_not.mp h1)]
    exact ⟨rfl, rfl⟩
end JxSign
