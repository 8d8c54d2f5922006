/-! THE CLASS reads the message: its head, its MUSTs -/
def mz (c : Int32) : Nat := if c = 257 then 2 else if c = 280 then 3 else if c = 282 then 4 else if c = 272 then 5 else 6
section JxMsgmust
variable {th : Nat → Nat} {d dd X R L k n p s a : Nat} {σ σ' σ2 : jx_S} {o h : Nat → Int32} {w z c kv x y rq : Int32} {Q : Option Value → jx_S → Prop} {e : Nat} {ev : Int32} {l : List Int32}
theorem k_mustsOf : jc th (d + 1) 83 [.int c] σ (fun r σ' => r = some (.ref (th (mz c))) ∧ σ' = σ) := by
  refine cl_go dt_83 20 [] dt_83_k rfl ?_
  intro C J hC hJ
  conv => whnf
  refine ⟨jx_swx_of (List.forall_mem_cons.mpr ⟨?_, List.forall_mem_cons.mpr ⟨?_, List.forall_mem_cons.mpr ⟨?_, List.forall_mem_cons.mpr ⟨?_, (fun q hq => absurd hq List.not_mem_nil)⟩⟩⟩⟩), ?_⟩
  · intro (hw : c = 257)
    conv => whnf
    rw [hw]
    exact ⟨rfl, rfl⟩
  · intro (hw : c = 272)
    conv => whnf
    rw [hw]
    exact ⟨rfl, rfl⟩
  · intro (hw : c = 280)
    conv => whnf
    rw [hw]
    exact ⟨rfl, rfl⟩
  · intro (hw : c = 282)
    conv => whnf
    rw [hw]
    exact ⟨rfl, rfl⟩
  · refine jx_swd_i (fun hno => ?_)
    have m1 : ¬ c = 257 := fun e => hno _ (List.mem_of_getElem? (i := 0) rfl) e
    have m2 : ¬ c = 272 := fun e => hno _ (List.mem_of_getElem? (i := 1) rfl) e
    have m3 : ¬ c = 280 := fun e => hno _ (List.mem_of_getElem? (i := 2) rfl) e
    have m4 : ¬ c = 282 := fun e => hno _ (List.mem_of_getElem? (i := 3) rfl) e
    conv => whnf
    rw [show mz c = 6 by unfold mz; rw [if_neg m1, if_neg m3, if_neg m4, if_neg m2]]
    exact ⟨rfl, rfl⟩
theorem mz_in : 2 ≤ mz c ∧ mz c < 8 := by
  unfold mz
  repeat' split
  all_goals omega
theorem kl_0' : ((kl (mz c)).length = 0 ↔ ¬ (c = 257 ∨ c = 280 ∨ c = 282 ∨ c = 272)) ∧ (kl (mz c)).length ≤ 5 := by
  unfold mz
  by_cases h1 : c = 257
  · rw [if_pos h1]; exact ⟨⟨fun z => absurd z (by decide), fun z => absurd (Or.inl h1) z⟩, by decide⟩
  rw [if_neg h1]
  by_cases h2 : c = 280
  · rw [if_pos h2]; exact ⟨⟨fun z => absurd z (by decide), fun z => absurd (Or.inr (Or.inl h2)) z⟩, by decide⟩
  rw [if_neg h2]
  by_cases h3 : c = 282
  · rw [if_pos h3]; exact ⟨⟨fun z => absurd z (by decide), fun z => absurd (Or.inr (Or.inr (Or.inl h3))) z⟩, by decide⟩
  rw [if_neg h3]
  by_cases h4 : c = 272
  · rw [if_pos h4]; exact ⟨⟨fun z => absurd z (by decide), fun z => absurd (Or.inr (Or.inr (Or.inr h4))) z⟩, by decide⟩
  rw [if_neg h4]
  exact ⟨⟨fun _ z => by rcases z with z | z | z | z; exact h1 z; exact h2 z; exact h3 z; exact h4 z, fun _ => rfl⟩, by decide⟩
theorem kl_ix (h : c = 257 ∨ c = 280 ∨ c = 282 ∨ c = 272) : kl (mz c) = (ix c).map kc := by
  rcases h with rfl | rfl | rfl | rfl <;> decide
theorem k_wrongInHead (hM : MB σ X R L o w z c ev) (hl : 20 ≤ L) (hK : bg_K th σ) : jc th (dd + 3) 78 [.ref X] σ (fun r σ' => r = some (.int (hdw o)) ∧ σ' = σ) := by
  have t71 : ∀ rv : Int32, ob o 0 = 1 → hdw o = (if ob o 4 &&& (rv ^^^ (-1)) = 0 then 0 else 3008) → cl_fj th (dd + 2) 78 71 [(0, .ref X), (1, .int rv)] [] σ (fun r σ' => r = some (.int (hdw o)) ∧ σ' = σ) := by
    intro rv h0 hh
    rw [hh]
    refine cl_at dt_78 20 [] dt_78_k ?_
    intro C J hC hJ
    conv => whnf
    refine ⟨jx_isC_of hM.1, hC _ _ _ _ (((k_flags (d := dd) hM hl).up (by omega)).mp ?_)⟩
    rintro r s1 ⟨rfl, hs1⟩
    rw [hs1]
    conv => whnf
    refine ⟨fun (h1 : ob o 4 &&& (rv ^^^ (-1)) = 0) => ?_, fun (h1 : ¬ ob o 4 &&& (rv ^^^ (-1)) = 0) => ?_⟩
    · conv => whnf
      rw [if_pos h1]
      exact ⟨rfl, rfl⟩
    · conv => whnf
      rw [if_neg h1]
      exact ⟨rfl, rfl⟩
  refine cl_go dt_78 60 [(71, [0, 1])] dt_78_k rfl ?_
  intro C J hC hJ
  conv => whnf
  refine ⟨jx_isC_of hM.1, hC _ _ _ _ (((k_octet (d := dd) (k := 0) hM (by decide) (by omega)).up (by omega)).mp ?_)⟩
  rintro r s1 ⟨rfl, hs1⟩
  rw [hs1]
  conv => whnf
  refine ⟨fun (h0 : ob o 0 = 1) => ?_, fun (h0 : ¬ ob o 0 = 1) => ?_⟩
  rotate_left
  · conv => whnf
    exact ⟨by unfold hdw; rw [if_neg h0], rfl⟩
  conv => whnf
  refine ⟨jx_isC_of hM.1, hC _ _ _ _ (((k_isReq (d := dd) hM hl).up (by omega)).mp ?_)⟩
  rintro r s2 ⟨hr, hs2⟩
  rw [hs2]
  rcases hr with ⟨rfl, h1⟩ | ⟨rfl, h1⟩
  · conv => whnf
    refine jx_yes (show (0 : Int32) = 0 from rfl) ?_
    conv => whnf
    refine hJ _ _ _ _ (t71 240 h0 ?_)
    unfold hdw
    rw [if_pos h0, if_pos h1, show (240 : Int32) ^^^ (-1) = -241 by decide]
    by_cases h2 : ob o 4 &&& 15 = 0
    · rw [if_pos h2, if_pos (fl_240.mpr h2)]
    · rw [if_neg h2, if_neg (fun z => h2 (fl_240.mp z))]
  · conv => whnf
    refine jx_no (show ¬ (1 : Int32) = 0 by decide) ?_
    conv => whnf
    refine ⟨jx_isC_of hM.1, hC _ _ _ _ (((k_command (d := dd) hM hl).up (by omega)).mp ?_)⟩
    rintro r s3 ⟨rfl, hs3⟩
    rw [hs3]
    conv => whnf
    refine hC _ _ _ _ (((k_mustsOf (d := dd) (c := w3 o 5)).up (by omega)).mp ?_)
    rintro r s4 ⟨rfl, hs4⟩
    rw [hs4]
    conv => whnf
    obtain ⟨m1, m2⟩ := mz_in (c := w3 o 5)
    obtain ⟨q1, q2⟩ := kl_0' (c := w3 o 5)
    have hA : σ.1 (th (mz (w3 o 5))) = some (.inl (101, (kl (mz (w3 o 5))).length, .inl (fun j => (kl (mz (w3 o 5))).getD j 0))) := hK.2.2 _ m1 m2
    refine ⟨_, jx_al_of (hA), ?_⟩
    conv => whnf
    by_cases h2 : w3 o 5 = 257 ∨ w3 o 5 = 280 ∨ w3 o 5 = 282 ∨ w3 o 5 = 272
    · refine jx_yes (show ¬ Int32.ofNat (kl (mz (w3 o 5))).length = 0 from ofN_ne (fun z => absurd h2 (q1.mp z)) (by omega)) ?_
      conv => whnf
      refine ⟨jx_isC_of hM.1, hC _ _ _ _ (((k_application (d := dd) hM hl).up (by omega)).mp ?_)⟩
      rintro r s5 ⟨rfl, hs5⟩
      rw [hs5]
      conv => whnf
      refine ⟨jx_isC_of hM.1, hC _ _ _ _ (((k_command (d := dd) hM hl).up (by omega)).mp ?_)⟩
      rintro r s6 ⟨rfl, hs6⟩
      rw [hs6]
      conv => whnf
      have fin : w4 o 8 = (if w3 o 5 = 272 then 4 else 0) → hdw o = (if ob o 4 &&& ((208 : Int32) ^^^ (-1)) = 0 then 0 else 3008) := fun z => by
        unfold hdw
        rw [if_pos h0, if_neg h1, if_pos h2, if_pos z, show (208 : Int32) ^^^ (-1) = -209 by decide]
        by_cases h4 : ob o 4 &&& 47 = 0
        · rw [if_pos h4, if_pos (fl_208.mpr h4)]
        · rw [if_neg h4, if_neg (fun z => h4 (fl_208.mp z))]
      have bad : ¬ w4 o 8 = (if w3 o 5 = 272 then 4 else 0) → hdw o = 3007 := fun z => by
        unfold hdw
        rw [if_pos h0, if_neg h1, if_pos h2, if_neg z]
      refine ⟨fun (h3 : ¬ w3 o 5 = 272) => ?_, fun (h3 : ¬ ¬ w3 o 5 = 272) => ?_⟩
      · rw [if_neg h3] at fin bad
        conv => whnf
        refine ⟨fun (h4 : w4 o 8 = 0) => ?_, fun (h4 : ¬ w4 o 8 = 0) => ?_⟩
        · conv => whnf
          exact hJ _ _ _ _ (t71 208 h0 (fin h4))
        · conv => whnf
          exact ⟨by rw [bad h4], rfl⟩
      · rw [if_pos (Decidable.not_not.mp h3)] at fin bad
        conv => whnf
        refine ⟨fun (h4 : w4 o 8 = 4) => ?_, fun (h4 : ¬ w4 o 8 = 4) => ?_⟩
        · conv => whnf
          exact hJ _ _ _ _ (t71 208 h0 (fin h4))
        · conv => whnf
          exact ⟨by rw [bad h4], rfl⟩
    · refine jx_no (show ¬ ¬ Int32.ofNat (kl (mz (w3 o 5))).length = 0 by rw [q1.mpr h2]; decide) ?_
      conv => whnf
      exact ⟨by unfold hdw; rw [if_pos h0, if_neg h1, if_neg h2], rfl⟩
theorem k_lm_1 (hA : σ.1 a = some (.inl (101, l.length, .inl (fun j => l.getD j 0)))) (hln : l.length ≤ 5) (hM : MB σ X R L o w z c ev) (hw : wf o 700 20 L) : ∀ (m : List Int32) (i : Nat), l.drop i = m → i ≤ l.length → (miss o (top o L) m = none → cl_fj th (dd + 3) 92 76 [(0, .ref X), (1, .int rq), (2, .ref a)] [] σ Q) → (∀ c', miss o (top o L) m = some c' → ∀ σ', MB σ' X R L o 5005 1 c' ev → (∀ q, q ≠ X → σ'.1 q = σ.1 q) → σ'.2 = σ.2 → Q none σ') → cl_fj th (dd + 3) 92 32 [(0, .ref X), (1, .int rq), (2, .ref a), (3, .ref a), (4, .int (Int32.ofNat l.length)), (5, .int (Int32.ofNat i))] [] σ Q
  | [], i, hm, hi, h0, hs => by
    have hge : l.length ≤ i := by
      have := congrArg List.length hm
      rw [List.length_drop, List.length_nil] at this
      omega
    refine cl_at dt_92 20 [(76, [0, 1, 2])] dt_92_k ?_
    intro C J hC hJ
    conv => whnf
    refine jx_yes (show Int32.ofNat l.length ≤ Int32.ofNat i by rw [nle (by omega) (by omega)]; exact hge) ?_
    conv => whnf
    exact hJ _ _ _ _ (h0 rfl)
  | c' :: m, i, hm, hi, h0, hs => by
    have h6 := hM.2.1
    have hlt : i < l.length := by
      have := congrArg List.length hm
      rw [List.length_drop, List.length_cons] at this
      omega
    have hdr : l.drop (i + 1) = m := by rw [← List.drop_drop, hm]; rfl
    have hge : l.getD i 0 = c' := by
      have : (l.drop i)[0]? = some c' := by rw [hm]; rfl
      rw [List.getElem?_drop, Nat.add_zero] at this
      rw [List.getD_eq_getElem?_getD, this]
      rfl
    have hii : (Int32.ofNat i).toInt = (i : Int) := i32_ofNat (by omega)
    have hl : ∀ q, q ∈ top o L → q ≠ 0 := fun q hq => by have := (tps_in 700 20 L hw q hq).1; omega
    refine cl_at dt_92 40 [(32, [0, 1, 2, 3, 4, 5])] dt_92_k ?_
    intro C J hC hJ
    conv => whnf
    refine jx_no (show ¬ Int32.ofNat l.length ≤ Int32.ofNat i by rw [nle (by omega) (by omega)]; omega) ?_
    conv => whnf
    refine ⟨_, jx_ild_of hA (by decide) hii hlt, ?_⟩
    conv => whnf
    refine ⟨_, jx_getF_of (hM.1) rfl, ?_⟩
    conv => whnf
    rw [hge]
    refine ⟨jx_isC_of hM.1, hC _ _ _ _ (((k_find (dd := 0) (k := 700) (p := 20) (x := c') hM (Nat.le_refl L) hw (by omega) (by omega)).up (by omega)).mp ?_)⟩
    rintro r s1 ⟨rfl, hs1⟩
    rw [hs1]
    conv => whnf
    by_cases f0 : fst o c' (tps o 700 20 L) = 0
    · have hmi : miss o (top o L) (c' :: m) = some c' := if_pos f0
      refine jx_no (show ¬ ¬ Int32.ofNat (fst o c' (tps o 700 20 L)) = 0 by rw [f0]; decide) ?_
      conv => whnf
      refine ⟨jx_isC_of hM.1, hC _ _ _ _ (((k_nameWrong (d := 0) (x := 5005) (y := c') hM).up (by omega)).mp ?_)⟩
      rintro r s2 ⟨rfl, m1, m2, m3⟩
      conv => whnf
      exact hs c' hmi s2 m1 m2 m3
    · have hmi : miss o (top o L) (c' :: m) = miss o (top o L) m := if_neg f0
      rw [hmi] at h0 hs
      have := (tps_in 700 20 L hw _ (fst_mem _ f0).1).2.1
      refine jx_yes (show ¬ Int32.ofNat (fst o c' (tps o 700 20 L)) = 0 from ofN_ne f0 (by omega)) ?_
      conv => whnf
      have i1 : Int32.ofNat i + Int32.ofInt 1 = Int32.ofNat (i + 1) := nadd rfl (by omega)
      have ih := k_lm_1 hA hln hM hw m (i + 1) hdr (by omega) h0 hs
      rw [← i1] at ih
      exact hJ _ _ _ _ ih
theorem k_lm_2 (hA : σ.1 a = some (.inl (101, l.length, .inl (fun j => l.getD j 0)))) (hln : l.length ≤ 5) (hM : MB σ X R L o w z c ev) (hw : wf o 700 20 L) : ∀ (m : List Int32) (i : Nat), l.drop i = m → i ≤ l.length → (rq = 0 ∨ twc o (top o L) m = none → Q none σ) → (¬ rq = 0 → ∀ c', twc o (top o L) m = some c' → ∀ σ', MB σ' X R L o 5009 1 c' ev → (∀ q, q ≠ X → σ'.1 q = σ.1 q) → σ'.2 = σ.2 → Q none σ') → cl_fj th (dd + 3) 92 85 [(0, .ref X), (1, .int rq), (3, .ref a), (4, .int (Int32.ofNat l.length)), (5, .int (Int32.ofNat i))] [] σ Q
  | [], i, hm, hi, h0, hs => by
    have hge : l.length ≤ i := by
      have := congrArg List.length hm
      rw [List.length_drop, List.length_nil] at this
      omega
    refine cl_at dt_92 20 [] dt_92_k ?_
    intro C J hC hJ
    conv => whnf
    refine jx_yes (show Int32.ofNat l.length ≤ Int32.ofNat i by rw [nle (by omega) (by omega)]; exact hge) ?_
    conv => whnf
    exact h0 (Or.inr rfl)
  | c' :: m, i, hm, hi, h0, hs => by
    have h6 := hM.2.1
    have hlt : i < l.length := by
      have := congrArg List.length hm
      rw [List.length_drop, List.length_cons] at this
      omega
    have hdr : l.drop (i + 1) = m := by rw [← List.drop_drop, hm]; rfl
    have hge : l.getD i 0 = c' := by
      have : (l.drop i)[0]? = some c' := by rw [hm]; rfl
      rw [List.getElem?_drop, Nat.add_zero] at this
      rw [List.getD_eq_getElem?_getD, this]
      rfl
    have hii : (Int32.ofNat i).toInt = (i : Int) := i32_ofNat (by omega)
    have i1 : Int32.ofNat i + Int32.ofInt 1 = Int32.ofNat (i + 1) := nadd rfl (by omega)
    have go : (rq = 0 ∨ twc o (top o L) (c' :: m) = twc o (top o L) m) → cl_fj th (dd + 3) 92 85 [(0, .ref X), (1, .int rq), (3, .ref a), (4, .int (Int32.ofNat l.length)), (5, .int (Int32.ofNat i + Int32.ofInt 1))] [] σ Q := by
      intro hz
      rw [i1]
      refine k_lm_2 hA hln hM hw m (i + 1) hdr (by omega) (fun y => h0 ?_) (fun y c2 y2 => hs y c2 ?_)
      · rcases hz with hz | hz
        · exact Or.inl hz
        · rw [hz]; exact y
      · rcases hz with hz | hz
        · exact absurd hz y
        · rw [hz]; exact y2
    refine cl_at dt_92 40 [(85, [0, 1, 3, 4, 5])] dt_92_k ?_
    intro C J hC hJ
    conv => whnf
    refine jx_no (show ¬ Int32.ofNat l.length ≤ Int32.ofNat i by rw [nle (by omega) (by omega)]; omega) ?_
    conv => whnf
    refine ⟨_, jx_ild_of hA (by decide) hii hlt, ?_⟩
    conv => whnf
    rw [hge]
    refine ⟨fun (r0 : rq = 0) => ?_, fun (r0 : ¬ rq = 0) => ?_⟩
    · conv => whnf
      exact hJ _ _ _ _ (go (Or.inl r0))
    conv => whnf
    refine ⟨fun (e2 : c' = 258) => ?_, fun (e2 : ¬ c' = 258) => ?_⟩
    · conv => whnf
      exact hJ _ _ _ _ (go (Or.inr (if_neg (fun w => w.2 e2))))
    conv => whnf
    refine ⟨jx_isC_of hM.1, hC _ _ _ _ (((k_isTwice (dd := 0) (x := c') hM hw).up (by omega)).mp ?_)⟩
    rintro r s1 ⟨hr, hs1⟩
    rw [hs1]
    rcases hr with ⟨rfl, h1⟩ | ⟨rfl, h1⟩
    · conv => whnf
      refine jx_no (show ¬ (1 : Int32) = 0 by decide) ?_
      conv => whnf
      refine ⟨jx_isC_of hM.1, hC _ _ _ _ (((k_nameWrong (d := 0) (x := 5009) (y := c') hM).up (by omega)).mp ?_)⟩
      rintro r s2 ⟨rfl, m1, m2, m3⟩
      conv => whnf
      exact hs r0 c' (if_pos ⟨h1, e2⟩) s2 m1 m2 m3
    · conv => whnf
      refine jx_yes (show (0 : Int32) = 0 from rfl) ?_
      conv => whnf
      exact hJ _ _ _ _ (go (Or.inr (if_neg (fun w => h1 w.1))))
end JxMsgmust
