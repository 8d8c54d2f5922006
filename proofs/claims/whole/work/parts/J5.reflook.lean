/-! THE REFERENCE looks at a message -/
def R_zk (k : Nat) (f : jx_F) : jx_F := (fun q j => if (q = 79 ∨ q = 77) ∧ j < k then 0 else f.1 q j, f.2)
/-- the head is read, all else is empty -/
def R_lkH (f : jx_F) (b : Nat) : jx_F := rf_ui (rf_ui (rf_ui (rf_ui (rf_ui (rf_ui (rf_ui (rf_ui (rf_ui f 67 0 (Int32.ofNat b)) 68 0 (w3 (oct f b) 1)) 69 0 (ob (oct f b) 4)) 70 0 (w3 (oct f b) 5)) 71 0 (w4 (oct f b) 8)) 72 0 (w4 (oct f b) 12)) 73 0 (w4 (oct f b) 16)) 74 0 0) 75 0 0
def R_lkA (f : jx_F) (b : Nat) : jx_F := rf_ui (rf_ui (rf_ui (rf_ui (R_zk 12 (R_lkH f b)) 80 0 0) 81 0 0) 83 0 0) 84 0 0
/-- the k-th MUST of a command, -1: no more -/
def mi (cmd k : Int32) : Int32 := if cmd = 257 then (if k = 0 then 1 else if k = 1 then 2 else if k = 2 then 3 else -1) else if cmd = 280 then (if k = 0 then 1 else if k = 1 then 2 else -1) else if cmd = 282 then (if k = 0 then 1 else if k = 1 then 2 else if k = 2 then 4 else -1) else (if k = 0 then 0 else if k = 1 then 1 else if k = 2 then 2 else if k = 3 then 5 else if k = 4 then 6 else -1)
def R_flt (f : jx_F) (w c : Int32) : jx_F := rf_ui (rf_ui f 74 0 w) 75 0 c
def R_la1 : Nat → Nat → jx_F → jx_F
  | 0, _, f => f
  | r + 1, k, f => if f.1 74 0 = 0 then (if mi (f.1 70 0) (Int32.ofNat k) < 0 then f else R_la1 r (k + 1) (if f.1 79 (mi (f.1 70 0) (Int32.ofNat k)).toNatClampNeg = 0 then R_flt f 5005 (f.1 76 (mi (f.1 70 0) (Int32.ofNat k)).toNatClampNeg) else f)) else f
def R_la2 : Nat → Nat → jx_F → jx_F
  | 0, _, f => f
  | r + 1, k, f => if f.1 74 0 = 0 then (if mi (f.1 70 0) (Int32.ofNat k) < 0 then f else R_la2 r (k + 1) (if 1 < f.1 79 (mi (f.1 70 0) (Int32.ofNat k)).toNatClampNeg ∧ ¬ mi (f.1 70 0) (Int32.ofNat k) = 3 then R_flt f 5009 (f.1 76 (mi (f.1 70 0) (Int32.ofNat k)).toNatClampNeg) else f)) else f
def R_lacks (f : jx_F) : jx_F := R_la2 5 0 (R_la1 5 0 f)
def R_look (f : jx_F) (b L : Nat) : jx_F := if ob (oct f b) 0 = 1 then (if ob (oct f b) 4 &&& 128 = 0 then (if ob (oct f b) 4 &&& 15 = 0 then (if (R_att (R_lkA f b) b L).1 74 0 = 0 ∧ ((R_att (R_lkA f b) b L).1 79 7 = 0 ∨ (R_att (R_lkA f b) b L).1 79 1 = 0 ∨ (R_att (R_lkA f b) b L).1 79 2 = 0) then rf_ui (R_att (R_lkA f b) b L) 74 0 5005 else R_att (R_lkA f b) b L) else rf_ui (R_lkA f b) 74 0 3008) else (if w3 (oct f b) 5 = 257 ∨ w3 (oct f b) 5 = 280 ∨ w3 (oct f b) 5 = 282 ∨ w3 (oct f b) 5 = 272 then (if w4 (oct f b) 8 = (if w3 (oct f b) 5 = 272 then 4 else 0) then (if ob (oct f b) 4 &&& 47 = 0 then R_lacks (R_att (R_lkA f b) b L) else rf_ui (R_lkA f b) 74 0 3008) else rf_ui (R_lkA f b) 74 0 3007) else rf_ui (R_lkA f b) 74 0 3001)) else rf_ui (R_lkA f b) 74 0 5011
section JxReflook
variable {th : Nat → Nat} {σ0 : jx_S} {m d b k L c : Nat} {f g : jx_F} {kv cv : Int32} {Q : Option Value → jx_F → Prop}
theorem R_zk_0 : R_zk 0 f = f := Prod.ext (funext fun q => funext fun j => if_neg (by omega)) rfl
theorem R_zk_s : rf_ui (rf_ui (R_zk k f) 79 k 0) 77 k 0 = R_zk (k + 1) f := by
  refine Prod.ext (funext fun q => funext fun j => ?_) rfl
  show _ = if _ then _ else _
  by_cases e1 : q = 77 ∧ j = k
  · rw [e1.1, e1.2, rf_ui_eq, if_pos (by omega)]
  · rw [rf_ui_ne e1]
    by_cases e2 : q = 79 ∧ j = k
    · rw [e2.1, e2.2, rf_ui_eq, if_pos (by omega)]
    · rw [rf_ui_ne e2]
      show (if _ then _ else _) = _
      by_cases e3 : (q = 79 ∨ q = 77) ∧ j < k
      · rw [if_pos e3, if_pos (by omega)]
      · rw [if_neg e3, if_neg (by omega)]
theorem R_zk_o {q j : Nat} (h : ¬ ((q = 79 ∨ q = 77) ∧ j < k)) : (R_zk k f).1 q j = f.1 q j := if_neg h
theorem lkH_o {q j : Nat} (h : ¬ (67 ≤ q ∧ q ≤ 75)) : (R_lkH f b).1 q j = f.1 q j := by
  unfold R_lkH
  rw [rf_ui_ne (by omega), rf_ui_ne (by omega), rf_ui_ne (by omega), rf_ui_ne (by omega), rf_ui_ne (by omega), rf_ui_ne (by omega), rf_ui_ne (by omega), rf_ui_ne (by omega), rf_ui_ne (by omega)]
theorem lkA_o {q j : Nat} (h : ¬ (67 ≤ q ∧ q ≤ 75)) (h2 : ¬ (q = 77 ∨ q = 79 ∨ q = 80 ∨ q = 81 ∨ q = 83 ∨ q = 84)) : (R_lkA f b).1 q j = f.1 q j := by
  unfold R_lkA
  rw [rf_ui_ne (by omega), rf_ui_ne (by omega), rf_ui_ne (by omega), rf_ui_ne (by omega), R_zk_o (by omega), lkH_o h]
theorem lkA_v : (R_lkA f b).1 67 0 = Int32.ofNat b ∧ (R_lkA f b).1 68 0 = w3 (oct f b) 1 ∧ (R_lkA f b).1 69 0 = ob (oct f b) 4 ∧ (R_lkA f b).1 70 0 = w3 (oct f b) 5 ∧ (R_lkA f b).1 71 0 = w4 (oct f b) 8 ∧ (R_lkA f b).1 72 0 = w4 (oct f b) 12 ∧ (R_lkA f b).1 73 0 = w4 (oct f b) 16 ∧ (R_lkA f b).1 74 0 = 0 ∧ (R_lkA f b).1 75 0 = 0 ∧ (∀ j, j < 12 → (R_lkA f b).1 79 j = 0 ∧ (R_lkA f b).1 77 j = 0) ∧ (R_lkA f b).1 80 0 = 0 ∧ (R_lkA f b).1 81 0 = 0 ∧ (R_lkA f b).1 83 0 = 0 ∧ (R_lkA f b).1 84 0 = 0 := by
  have o : ∀ q, 67 ≤ q → q ≤ 75 → (R_lkA f b).1 q 0 = (R_lkH f b).1 q 0 := fun q h1 h2 => by
    unfold R_lkA
    rw [rf_ui_ne (by omega), rf_ui_ne (by omega), rf_ui_ne (by omega), rf_ui_ne (by omega), R_zk_o (by omega)]
  rw [o 67 (by omega) (by omega), o 68 (by omega) (by omega), o 69 (by omega) (by omega), o 70 (by omega) (by omega), o 71 (by omega) (by omega), o 72 (by omega) (by omega), o 73 (by omega) (by omega), o 74 (by omega) (by omega), o 75 (by omega) (by omega)]
  unfold R_lkH
  refine ⟨?_, ?_, ?_, ?_, ?_, ?_, ?_, ?_, ?_, fun j hj => ⟨?_, ?_⟩, ?_, ?_, ?_, ?_⟩
  · rw [rf_ui_ne (by omega), rf_ui_ne (by omega), rf_ui_ne (by omega), rf_ui_ne (by omega), rf_ui_ne (by omega), rf_ui_ne (by omega), rf_ui_ne (by omega), rf_ui_ne (by omega), rf_ui_eq]
  · rw [rf_ui_ne (by omega), rf_ui_ne (by omega), rf_ui_ne (by omega), rf_ui_ne (by omega), rf_ui_ne (by omega), rf_ui_ne (by omega), rf_ui_ne (by omega), rf_ui_eq]
  · rw [rf_ui_ne (by omega), rf_ui_ne (by omega), rf_ui_ne (by omega), rf_ui_ne (by omega), rf_ui_ne (by omega), rf_ui_ne (by omega), rf_ui_eq]
  · rw [rf_ui_ne (by omega), rf_ui_ne (by omega), rf_ui_ne (by omega), rf_ui_ne (by omega), rf_ui_ne (by omega), rf_ui_eq]
  · rw [rf_ui_ne (by omega), rf_ui_ne (by omega), rf_ui_ne (by omega), rf_ui_ne (by omega), rf_ui_eq]
  · rw [rf_ui_ne (by omega), rf_ui_ne (by omega), rf_ui_ne (by omega), rf_ui_eq]
  · rw [rf_ui_ne (by omega), rf_ui_ne (by omega), rf_ui_eq]
  · rw [rf_ui_ne (by omega), rf_ui_eq]
  · rw [rf_ui_eq]
  · unfold R_lkA
    rw [rf_ui_ne (by omega), rf_ui_ne (by omega), rf_ui_ne (by omega), rf_ui_ne (by omega)]
    exact if_pos (by omega)
  · unfold R_lkA
    rw [rf_ui_ne (by omega), rf_ui_ne (by omega), rf_ui_ne (by omega), rf_ui_ne (by omega)]
    exact if_pos (by omega)
  · unfold R_lkA; rw [rf_ui_ne (by omega), rf_ui_ne (by omega), rf_ui_ne (by omega), rf_ui_eq]
  · unfold R_lkA; rw [rf_ui_ne (by omega), rf_ui_ne (by omega), rf_ui_eq]
  · unfold R_lkA; rw [rf_ui_ne (by omega), rf_ui_eq]
  · unfold R_lkA; rw [rf_ui_eq]
theorem r_isRequest : rfc th σ0 m (d + 1) 222 [.ref 0] f (fun r f' => ((r = some (.int 0) ∧ f.1 69 0 &&& 128 = 0) ∨ (r = some (.int 1) ∧ ¬ f.1 69 0 &&& 128 = 0)) ∧ f' = f) := by
  refine rf_go dt_222 20 [] dt_222_k (by decide +kernel) rfl ?_
  intro C J hC hJ
  conv => whnf
  refine ⟨fun (h : f.1 69 0 &&& 128 = 0) => ?_, fun (h : ¬ f.1 69 0 &&& 128 = 0) => ?_⟩
  · conv => whnf
    exact ⟨by decide, Or.inl ⟨rfl, h⟩, rfl⟩
  · conv => whnf
    exact ⟨by decide, Or.inr ⟨rfl, h⟩, rfl⟩
theorem r_must : rfc th σ0 m (d + 1) 230 [.ref 0, .int kv] f (fun r f' => r = some (.int (mi (f.1 70 0) kv)) ∧ f' = f) := by
  refine rf_go dt_230 40 [] dt_230_k (by decide +kernel) rfl ?_
  intro C J hC hJ
  conv => whnf
  refine ⟨jx_swx_of (List.forall_mem_cons.mpr ⟨?_, List.forall_mem_cons.mpr ⟨?_, List.forall_mem_cons.mpr ⟨?_, (fun q hq => absurd hq List.not_mem_nil)⟩⟩⟩), ?_⟩
  · intro (hw : f.1 70 0 = 257)
    unfold mi
    rw [if_pos hw]
    conv => whnf
    refine ⟨fun (h0 : ¬ kv = 0) => ?_, fun (h0 : ¬ ¬ kv = 0) => ?_⟩
    · rw [if_neg h0]
      conv => whnf
      refine ⟨fun (h1 : ¬ kv = 1) => ?_, fun (h1 : ¬ ¬ kv = 1) => ?_⟩
      · rw [if_neg h1]
        conv => whnf
        refine ⟨fun (h2 : ¬ kv = 2) => ?_, fun (h2 : ¬ ¬ kv = 2) => ?_⟩
        · rw [if_neg h2]
          conv => whnf
          exact ⟨rfl, rfl⟩
        · rw [if_pos (Decidable.not_not.mp h2)]
          conv => whnf
          exact ⟨rfl, rfl⟩
      · rw [if_pos (Decidable.not_not.mp h1)]
        conv => whnf
        exact ⟨rfl, rfl⟩
    · rw [if_pos (Decidable.not_not.mp h0)]
      conv => whnf
      exact ⟨rfl, rfl⟩
  · intro (hw : f.1 70 0 = 280)
    unfold mi
    rw [if_neg (by rw [hw]; decide), if_pos hw]
    conv => whnf
    refine ⟨fun (h0 : ¬ kv = 0) => ?_, fun (h0 : ¬ ¬ kv = 0) => ?_⟩
    · rw [if_neg h0]
      conv => whnf
      refine ⟨fun (h1 : ¬ kv = 1) => ?_, fun (h1 : ¬ ¬ kv = 1) => ?_⟩
      · rw [if_neg h1]
        conv => whnf
        exact ⟨rfl, rfl⟩
      · rw [if_pos (Decidable.not_not.mp h1)]
        conv => whnf
        exact ⟨rfl, rfl⟩
    · rw [if_pos (Decidable.not_not.mp h0)]
      conv => whnf
      exact ⟨rfl, rfl⟩
  · intro (hw : f.1 70 0 = 282)
    unfold mi
    rw [if_neg (by rw [hw]; decide), if_neg (by rw [hw]; decide), if_pos hw]
    conv => whnf
    refine ⟨fun (h0 : ¬ kv = 0) => ?_, fun (h0 : ¬ ¬ kv = 0) => ?_⟩
    · rw [if_neg h0]
      conv => whnf
      refine ⟨fun (h1 : ¬ kv = 1) => ?_, fun (h1 : ¬ ¬ kv = 1) => ?_⟩
      · rw [if_neg h1]
        conv => whnf
        refine ⟨fun (h2 : ¬ kv = 2) => ?_, fun (h2 : ¬ ¬ kv = 2) => ?_⟩
        · rw [if_neg h2]
          conv => whnf
          exact ⟨rfl, rfl⟩
        · rw [if_pos (Decidable.not_not.mp h2)]
          conv => whnf
          exact ⟨rfl, rfl⟩
      · rw [if_pos (Decidable.not_not.mp h1)]
        conv => whnf
        exact ⟨rfl, rfl⟩
    · rw [if_pos (Decidable.not_not.mp h0)]
      conv => whnf
      exact ⟨rfl, rfl⟩
  · refine jx_swd_i (fun hno => ?_)
    unfold mi
    rw [if_neg (fun e => hno _ (List.mem_of_getElem? (i := 0) rfl) e), if_neg (fun e => hno _ (List.mem_of_getElem? (i := 1) rfl) e), if_neg (fun e => hno _ (List.mem_of_getElem? (i := 2) rfl) e)]
    conv => whnf
    refine ⟨fun (h0 : ¬ kv = 0) => ?_, fun (h0 : ¬ ¬ kv = 0) => ?_⟩
    · rw [if_neg h0]
      conv => whnf
      refine ⟨fun (h1 : ¬ kv = 1) => ?_, fun (h1 : ¬ ¬ kv = 1) => ?_⟩
      · rw [if_neg h1]
        conv => whnf
        refine ⟨fun (h2 : ¬ kv = 2) => ?_, fun (h2 : ¬ ¬ kv = 2) => ?_⟩
        · rw [if_neg h2]
          conv => whnf
          refine ⟨fun (h3 : ¬ kv = 3) => ?_, fun (h3 : ¬ ¬ kv = 3) => ?_⟩
          · rw [if_neg h3]
            conv => whnf
            refine ⟨fun (h4 : ¬ kv = 4) => ?_, fun (h4 : ¬ ¬ kv = 4) => ?_⟩
            · rw [if_neg h4]
              conv => whnf
              exact ⟨rfl, rfl⟩
            · rw [if_pos (Decidable.not_not.mp h4)]
              conv => whnf
              exact ⟨rfl, rfl⟩
          · rw [if_pos (Decidable.not_not.mp h3)]
            conv => whnf
            exact ⟨rfl, rfl⟩
        · rw [if_pos (Decidable.not_not.mp h2)]
          conv => whnf
          exact ⟨rfl, rfl⟩
      · rw [if_pos (Decidable.not_not.mp h1)]
        conv => whnf
        exact ⟨rfl, rfl⟩
    · rw [if_pos (Decidable.not_not.mp h0)]
      conv => whnf
      exact ⟨rfl, rfl⟩
theorem mi_in (h : ¬ mi cv kv < 0) : jx_in (mi cv kv) 12 := by
  have : mi cv kv ∈ ([0, 1, 2, 3, 4, 5, 6, -1] : List Int32) := by
    unfold mi
    repeat' split
    all_goals decide
  simp only [List.mem_cons, List.not_mem_nil, or_false] at this
  rcases this with e | e | e | e | e | e | e | e <;> rw [e] at h ⊢
  · exact jx_in_nat (k := 0) (by decide) (by decide)
  · exact jx_in_nat (k := 1) (by decide) (by decide)
  · exact jx_in_nat (k := 2) (by decide) (by decide)
  · exact jx_in_nat (k := 3) (by decide) (by decide)
  · exact jx_in_nat (k := 4) (by decide) (by decide)
  · exact jx_in_nat (k := 5) (by decide) (by decide)
  · exact jx_in_nat (k := 6) (by decide) (by decide)
  · exact absurd (by decide) h
theorem r_la_1 : ∀ (r k : Nat) (f : jx_F), k + r = 5 → jx_fj th (rf_g m) (rf σ0 m) (d + 1) 229 58 [(0, .ref 0)] [] (R_la1 r k f) Q → jx_fj th (rf_g m) (rf σ0 m) (d + 1) 229 2 [(0, .ref 0), (1, .int (Int32.ofNat k))] [] f Q
  | 0, k, f, hk, h => by
    refine rf_at dt_229 40 [(58, [0])] dt_229_k (by decide +kernel) ?_
    intro C J hC hJ
    conv => whnf
    refine jx_yes (show 5 ≤ Int32.ofNat k by rw [show k = 5 by omega]; decide) ?_
    conv => whnf
    exact hJ _ _ _ _ h
  | r + 1, k, f, hk, h => by
    have k1 : Int32.ofNat k + Int32.ofInt 1 = Int32.ofNat (k + 1) := nadd rfl (by omega)
    obtain ⟨x, hx⟩ : ∃ x, x = mi (f.1 70 0) (Int32.ofNat k) := ⟨_, rfl⟩
    have eR : R_la1 (r + 1) k f = if f.1 74 0 = 0 then (if x < 0 then f else R_la1 r (k + 1) (if f.1 79 x.toNatClampNeg = 0 then R_flt f 5005 (f.1 76 x.toNatClampNeg) else f)) else f := by rw [hx]; rfl
    rw [eR] at h
    refine rf_at dt_229 60 [(2, [0, 1]), (58, [0])] dt_229_k (by decide +kernel) ?_
    intro C J hC hJ
    conv => whnf
    refine jx_no (show ¬ 5 ≤ Int32.ofNat k by rw [show (5 : Int32) = Int32.ofNat 5 from rfl, nle (by omega) (by omega)]; omega) ?_
    conv => whnf
    refine ⟨fun (hw : ¬ f.1 74 0 = 0) => ?_, fun (hw : ¬ ¬ f.1 74 0 = 0) => ?_⟩
    · rw [if_neg hw] at h
      conv => whnf
      exact hJ _ _ _ _ h
    · have hw := Decidable.not_not.mp hw
      rw [if_pos hw] at h
      conv => whnf
      refine hC _ _ _ _ ((r_must (d := d)).mp ?_)
      rintro r' f1 ⟨rfl, hf1⟩
      rw [hf1, ← hx]
      conv => whnf
      refine ⟨fun (hm : x < 0) => ?_, fun (hm : ¬ x < 0) => ?_⟩
      · rw [if_pos hm] at h
        conv => whnf
        exact hJ _ _ _ _ h
      · rw [if_neg hm] at h
        have hin : jx_in x 12 := by rw [hx] at hm ⊢; exact mi_in hm
        conv => whnf
        refine hC _ _ _ _ ((r_must (d := d)).mp ?_)
        rintro r' f2 ⟨rfl, hf2⟩
        rw [hf2, ← hx]
        conv => whnf
        refine ⟨hin, ?_⟩
        conv => whnf
        refine ⟨fun (ho : ¬ f.1 79 x.toNatClampNeg = 0) => ?_, fun (ho : ¬ ¬ f.1 79 x.toNatClampNeg = 0) => ?_⟩
        · rw [if_neg ho] at h
          conv => whnf
          refine hJ _ _ _ _ ?_
          have := r_la_1 r (k + 1) f (by omega) h
          rw [← k1] at this
          exact this
        · rw [if_pos (Decidable.not_not.mp ho)] at h
          conv => whnf
          refine hC _ _ _ _ ((r_must (d := d)).mp ?_)
          rintro r' f3 ⟨rfl, hf3⟩
          rw [hf3, ← hx]
          conv => whnf
          refine ⟨hin, ?_⟩
          conv => whnf
          refine hC _ _ _ _ ((r_fault (d := d)).mp ?_)
          rintro r' f4 ⟨rfl, hf4⟩
          conv => whnf
          refine hJ _ _ _ _ ?_
          have := r_la_1 r (k + 1) (R_flt f 5005 (f.1 76 x.toNatClampNeg)) (by omega) h
          rw [← k1] at this
          rw [hf4]
          exact this
theorem r_la_2 : ∀ (r k : Nat) (f : jx_F), k + r = 5 → Q none (R_la2 r k f) → jx_fj th (rf_g m) (rf σ0 m) (d + 1) 229 60 [(0, .ref 0), (1, .int (Int32.ofNat k))] [] f Q
  | 0, k, f, hk, h => by
    refine rf_at dt_229 40 [] dt_229_k (by decide +kernel) ?_
    intro C J hC hJ
    conv => whnf
    refine jx_yes (show 5 ≤ Int32.ofNat k by rw [show k = 5 by omega]; decide) ?_
    conv => whnf
    exact h
  | r + 1, k, f, hk, h => by
    have k1 : Int32.ofNat k + Int32.ofInt 1 = Int32.ofNat (k + 1) := nadd rfl (by omega)
    obtain ⟨x, hx⟩ : ∃ x, x = mi (f.1 70 0) (Int32.ofNat k) := ⟨_, rfl⟩
    have eR : R_la2 (r + 1) k f = if f.1 74 0 = 0 then (if x < 0 then f else R_la2 r (k + 1) (if 1 < f.1 79 x.toNatClampNeg ∧ ¬ x = 3 then R_flt f 5009 (f.1 76 x.toNatClampNeg) else f)) else f := by rw [hx]; rfl
    rw [eR] at h
    refine rf_at dt_229 60 [(60, [0, 1])] dt_229_k (by decide +kernel) ?_
    intro C J hC hJ
    conv => whnf
    refine jx_no (show ¬ 5 ≤ Int32.ofNat k by rw [show (5 : Int32) = Int32.ofNat 5 from rfl, nle (by omega) (by omega)]; omega) ?_
    conv => whnf
    refine ⟨fun (hw : ¬ f.1 74 0 = 0) => ?_, fun (hw : ¬ ¬ f.1 74 0 = 0) => ?_⟩
    · rw [if_neg hw] at h
      conv => whnf
      exact h
    · have hw := Decidable.not_not.mp hw
      rw [if_pos hw] at h
      conv => whnf
      refine hC _ _ _ _ ((r_must (d := d)).mp ?_)
      rintro r' f1 ⟨rfl, hf1⟩
      rw [hf1, ← hx]
      conv => whnf
      refine ⟨fun (hm : x < 0) => ?_, fun (hm : ¬ x < 0) => ?_⟩
      · rw [if_pos hm] at h
        conv => whnf
        exact h
      · rw [if_neg hm] at h
        have hin : jx_in x 12 := by rw [hx] at hm ⊢; exact mi_in hm
        conv => whnf
        refine hC _ _ _ _ ((r_must (d := d)).mp ?_)
        rintro r' f2 ⟨rfl, hf2⟩
        rw [hf2, ← hx]
        conv => whnf
        refine ⟨hin, ?_⟩
        conv => whnf
        refine ⟨fun (ho : f.1 79 x.toNatClampNeg ≤ 1) => ?_, fun (ho : ¬ f.1 79 x.toNatClampNeg ≤ 1) => ?_⟩
        · rw [if_neg (fun z => absurd z.1 (Int32.not_lt.mpr ho))] at h
          conv => whnf
          refine hJ _ _ _ _ ?_
          have := r_la_2 r (k + 1) f (by omega) h
          rw [← k1] at this
          exact this
        · conv => whnf
          refine hC _ _ _ _ ((r_must (d := d)).mp ?_)
          rintro r' f3 ⟨rfl, hf3⟩
          rw [hf3, ← hx]
          conv => whnf
          refine ⟨fun (h3 : x = 3) => ?_, fun (h3 : ¬ x = 3) => ?_⟩
          · rw [if_neg (fun z => z.2 h3)] at h
            conv => whnf
            refine hJ _ _ _ _ ?_
            have := r_la_2 r (k + 1) f (by omega) h
            rw [← k1] at this
            exact this
          · rw [if_pos ⟨Int32.not_le.mp ho, h3⟩] at h
            conv => whnf
            refine hC _ _ _ _ ((r_must (d := d)).mp ?_)
            rintro r' f4 ⟨rfl, hf4⟩
            rw [hf4, ← hx]
            conv => whnf
            refine ⟨hin, ?_⟩
            conv => whnf
            refine hC _ _ _ _ ((r_fault (d := d)).mp ?_)
            rintro r' f5 ⟨rfl, hf5⟩
            conv => whnf
            refine hJ _ _ _ _ ?_
            have := r_la_2 r (k + 1) (R_flt f 5009 (f.1 76 x.toNatClampNeg)) (by omega) h
            rw [← k1] at this
            rw [hf5]
            exact this
theorem r_lacks : rfc th σ0 m (d + 2) 229 [.ref 0] f (fun r f' => r = none ∧ f' = R_lacks f) := by
  refine rf_go dt_229 40 [(2, [0, 1])] dt_229_k (by decide +kernel) rfl ?_
  intro C J hC hJ
  conv => whnf
  refine hJ _ _ _ _ (r_la_1 5 0 f (by omega) ?_)
  refine rf_at dt_229 40 [(60, [0, 1])] dt_229_k (by decide +kernel) ?_
  intro C J hC hJ
  conv => whnf
  exact hJ _ _ _ _ (r_la_2 5 0 (R_la1 5 0 f) (by omega) ⟨rfl, rfl⟩)
theorem r_lk_z {cv : Int32} : ∀ (r k : Nat) (f : jx_F), k + r = 12 → jx_fj th (rf_g m) (rf σ0 m) d 220 104 [(0, .ref 0)] [] (R_zk 12 f) Q → jx_fj th (rf_g m) (rf σ0 m) d 220 78 [(0, .ref 0), (2, .int (Int32.ofNat k))] [] (R_zk k f) Q
  | 0, k, f, hk, h => by
    refine rf_at dt_220 40 [(104, [0])] dt_220_k (by decide +kernel) ?_
    intro C J hC hJ
    conv => whnf
    refine jx_yes (show 12 ≤ Int32.ofNat k by rw [show k = 12 by omega]; decide) ?_
    conv => whnf
    rw [show k = 12 by omega]
    exact hJ _ _ _ _ h
  | r + 1, k, f, hk, h => by
    have k1 : Int32.ofNat k + Int32.ofInt 1 = Int32.ofNat (k + 1) := nadd rfl (by omega)
    have hki : (Int32.ofNat k).toInt = (k : Int) := i32_ofNat (by omega)
    refine rf_at dt_220 40 [(78, [0, 2])] dt_220_k (by decide +kernel) ?_
    intro C J hC hJ
    conv => whnf
    refine jx_no (show ¬ 12 ≤ Int32.ofNat k by rw [show (12 : Int32) = Int32.ofNat 12 from rfl, nle (by omega) (by omega)]; omega) ?_
    conv => whnf
    refine ⟨jx_in_nat hki (show k < 12 by omega), ?_⟩
    conv => whnf
    refine ⟨jx_in_nat hki (show k < 12 by omega), ?_⟩
    conv => whnf
    rw [i32_nat hki, R_zk_s]
    refine hJ _ _ _ _ ?_
    have := r_lk_z (cv := cv) r (k + 1) f (by omega) h
    rw [← k1] at this
    exact this
set_option maxHeartbeats 4000000 in
theorem r_look (hc : cv.toInt = (c : Int)) (hc8 : c ≤ 8) (hL : w3 (oct f (600 * c)) 1 = Int32.ofNat L) (hL6 : L ≤ 600) : rfc th σ0 m (d + 6) 220 [.ref 0, .int cv] f (fun r f' => r = none ∧ f' = R_look f (600 * c) L) := by
  obtain ⟨b, hb⟩ : ∃ b, b = 600 * c := ⟨_, rfl⟩
  rw [← hb] at hL ⊢
  have e6 : 600 * cv = Int32.ofNat b := i32_eq (by rw [i32_mul (a := 600) (by decide) hc (by omega) (by omega), hb]; omega) (by omega)
  obtain ⟨o, ho⟩ : ∃ o, o = oct f b := ⟨_, rfl⟩
  have hbi : (Int32.ofNat b).toInt = (b : Int) := i32_ofNat (by omega)
  have oo : ∀ g : jx_F, (∀ j, g.1 29 j = f.1 29 j) → oct g b = o := fun g hg => by rw [ho]; funext j; exact hg _
  have eL : R_look f b L = if ob o 0 = 1 then (if ob o 4 &&& 128 = 0 then (if ob o 4 &&& 15 = 0 then (if (R_att (R_lkA f b) b L).1 74 0 = 0 ∧ ((R_att (R_lkA f b) b L).1 79 7 = 0 ∨ (R_att (R_lkA f b) b L).1 79 1 = 0 ∨ (R_att (R_lkA f b) b L).1 79 2 = 0) then rf_ui (R_att (R_lkA f b) b L) 74 0 5005 else R_att (R_lkA f b) b L) else rf_ui (R_lkA f b) 74 0 3008) else (if w3 o 5 = 257 ∨ w3 o 5 = 280 ∨ w3 o 5 = 282 ∨ w3 o 5 = 272 then (if w4 o 8 = (if w3 o 5 = 272 then 4 else 0) then (if ob o 4 &&& 47 = 0 then R_lacks (R_att (R_lkA f b) b L) else rf_ui (R_lkA f b) 74 0 3008) else rf_ui (R_lkA f b) 74 0 3007) else rf_ui (R_lkA f b) 74 0 3001)) else rf_ui (R_lkA f b) 74 0 5011 := by rw [ho]; rfl
  rw [eL]
  obtain ⟨g, hg⟩ : ∃ g, g = R_lkA f b := ⟨_, rfl⟩
  obtain ⟨v67, v68, v69, v70, v71, v72, v73, v74, v75, -⟩ := lkA_v (f := f) (b := b)
  rw [← hg, ← ho] at v68 v69 v70 v71 v72 v73
  rw [← hg] at v67 v74 v75
  have g29 : ∀ j, g.1 29 j = f.1 29 j := fun j => by rw [hg]; exact lkA_o (by omega) (by omega)
  have og : oct g b = o := oo g g29
  rw [← hg]
  have hbg : (g.1 67 0).toInt = (b : Int) := by rw [v67]; exact hbi
  have katt := r_attributes (th := th) (σ0 := σ0) (m := m) (dd := d) (f := g) (b := b) (L := L) (by omega) hbg (by rw [v68, ho]; exact hL) hL6 v74
  obtain ⟨h, hh⟩ : ∃ h, h = R_att g b L := ⟨_, rfl⟩
  rw [← hh] at katt ⊢
  have t124 : jx_fj th (rf_g m) (rf σ0 m) (d + 5) 220 124 [(0, .ref 0)] [] g (fun r f' => r = none ∧ f' = if ob o 0 = 1 then (if ob o 4 &&& 128 = 0 then (if ob o 4 &&& 15 = 0 then (if h.1 74 0 = 0 ∧ (h.1 79 7 = 0 ∨ h.1 79 1 = 0 ∨ h.1 79 2 = 0) then rf_ui h 74 0 5005 else h) else rf_ui g 74 0 3008) else (if w3 o 5 = 257 ∨ w3 o 5 = 280 ∨ w3 o 5 = 282 ∨ w3 o 5 = 272 then (if w4 o 8 = (if w3 o 5 = 272 then 4 else 0) then (if ob o 4 &&& 47 = 0 then R_lacks h else rf_ui g 74 0 3008) else rf_ui g 74 0 3007) else rf_ui g 74 0 3001)) else rf_ui g 74 0 5011) := by
    have t208 : (w3 o 5 = 257 ∨ w3 o 5 = 280 ∨ w3 o 5 = 282 ∨ w3 o 5 = 272) → jx_fj th (rf_g m) (rf σ0 m) (d + 5) 220 208 [(0, .ref 0)] [] g (fun r f' => r = none ∧ f' = if w4 o 8 = (if w3 o 5 = 272 then 4 else 0) then (if ob o 4 &&& 47 = 0 then R_lacks h else rf_ui g 74 0 3008) else rf_ui g 74 0 3007) := by
      intro hk
      have t227 : ∀ y : Int32, y = (if w3 o 5 = 272 then 4 else 0) → jx_fj th (rf_g m) (rf σ0 m) (d + 5) 220 227 [(0, .ref 0)] [.int y, .int (w4 o 8)] g (fun r f' => r = none ∧ f' = if w4 o 8 = (if w3 o 5 = 272 then 4 else 0) then (if ob o 4 &&& 47 = 0 then R_lacks h else rf_ui g 74 0 3008) else rf_ui g 74 0 3007) := by
        intro y hy
        rw [← hy]
        refine rf_at dt_220 40 [] dt_220_k (by decide +kernel) ?_
        intro C J hC hJ
        conv => whnf
        refine ⟨fun (z : w4 o 8 = y) => ?_, fun (z : ¬ w4 o 8 = y) => ?_⟩
        · rw [if_pos z]
          conv => whnf
          rw [v69]
          refine ⟨fun (z2 : ob o 4 &&& 47 = 0) => ?_, fun (z2 : ¬ ob o 4 &&& 47 = 0) => ?_⟩
          · rw [if_pos z2]
            conv => whnf
            refine hC _ _ _ _ (katt.mp ?_)
            rintro r f1 ⟨rfl, hf1⟩
            rw [hf1]
            conv => whnf
            refine hC _ _ _ _ (((r_lacks (d := d)).up (by omega)).mp ?_)
            rintro r f2 ⟨rfl, hf2⟩
            conv => whnf
            exact ⟨rfl, hf2⟩
          · rw [if_neg z2]
            conv => whnf
            exact ⟨rfl, rfl⟩
        · rw [if_neg z]
          conv => whnf
          exact ⟨rfl, rfl⟩
      refine rf_at dt_220 40 [(227, [0])] dt_220_k (by decide +kernel) ?_
      intro C J hC hJ
      conv => whnf
      rw [v71, v70]
      refine ⟨fun (z : ¬ w3 o 5 = 272) => ?_, fun (z : ¬ ¬ w3 o 5 = 272) => ?_⟩
      · conv => whnf
        exact hJ _ _ _ _ (t227 0 (by rw [if_neg z]))
      · conv => whnf
        exact hJ _ _ _ _ (t227 4 (by rw [if_pos (Decidable.not_not.mp z)]))
    refine rf_at dt_220 60 [(208, [0])] dt_220_k (by decide +kernel) ?_
    intro C J hC hJ
    conv => whnf
    refine hC _ _ _ _ (((r_octet (d := d) hbg (show (0 : Int32).toInt = ((0 : Nat) : Int) by decide) (by omega)).up (by omega)).mp ?_)
    rintro r f1 ⟨rfl, hf1⟩
    rw [hf1, og]
    conv => whnf
    refine ⟨fun (z0 : ob o 0 = 1) => ?_, fun (z0 : ¬ ob o 0 = 1) => ?_⟩
    rotate_left
    · rw [if_neg z0]
      conv => whnf
      exact ⟨rfl, rfl⟩
    rw [if_pos z0]
    conv => whnf
    refine hC _ _ _ _ (((r_isRequest (d := d)).up (by omega)).mp ?_)
    rintro r f2 ⟨hcs, hf2⟩
    rw [hf2]
    rw [v69] at hcs
    rcases hcs with ⟨rfl, z1⟩ | ⟨rfl, z1⟩
    · rw [if_pos z1]
      conv => whnf
      refine jx_yes (show (0 : Int32) = 0 from rfl) ?_
      conv => whnf
      rw [v69]
      refine ⟨fun (z2 : ob o 4 &&& 15 = 0) => ?_, fun (z2 : ¬ ob o 4 &&& 15 = 0) => ?_⟩
      rotate_left
      · rw [if_neg z2]
        conv => whnf
        exact ⟨rfl, rfl⟩
      rw [if_pos z2]
      conv => whnf
      refine hC _ _ _ _ (katt.mp ?_)
      rintro r f3 ⟨rfl, hf3⟩
      rw [hf3]
      conv => whnf
      refine ⟨fun (z3 : ¬ h.1 74 0 = 0) => ?_, fun (z3 : ¬ ¬ h.1 74 0 = 0) => ?_⟩
      · rw [if_neg (fun z => z3 z.1)]
        conv => whnf
        exact ⟨rfl, rfl⟩
      have z3 := Decidable.not_not.mp z3
      conv => whnf
      refine ⟨jx_in_nat (k := 7) (by decide) (by decide), ?_⟩
      conv => whnf
      refine ⟨fun (z4 : h.1 79 7 = 0) => ?_, fun (z4 : ¬ h.1 79 7 = 0) => ?_⟩
      · rw [if_pos ⟨z3, Or.inl z4⟩]
        conv => whnf
        exact ⟨rfl, rfl⟩
      conv => whnf
      refine ⟨jx_in_nat (k := 1) (by decide) (by decide), ?_⟩
      conv => whnf
      refine ⟨fun (z5 : h.1 79 1 = 0) => ?_, fun (z5 : ¬ h.1 79 1 = 0) => ?_⟩
      · rw [if_pos ⟨z3, Or.inr (Or.inl z5)⟩]
        conv => whnf
        exact ⟨rfl, rfl⟩
      conv => whnf
      refine ⟨jx_in_nat (k := 2) (by decide) (by decide), ?_⟩
      conv => whnf
      refine ⟨fun (z6 : ¬ h.1 79 2 = 0) => ?_, fun (z6 : ¬ ¬ h.1 79 2 = 0) => ?_⟩
      · rw [if_neg (fun z => by rcases z.2 with w | w | w; exact z4 w; exact z5 w; exact z6 w)]
        conv => whnf
        exact ⟨rfl, rfl⟩
      · rw [if_pos ⟨z3, Or.inr (Or.inr (Decidable.not_not.mp z6))⟩]
        conv => whnf
        exact ⟨rfl, rfl⟩
    · rw [if_neg z1]
      conv => whnf
      refine jx_no (show ¬ (1 : Int32) = 0 by decide) ?_
      have yes : (w3 o 5 = 257 ∨ w3 o 5 = 280 ∨ w3 o 5 = 282 ∨ w3 o 5 = 272) → jx_fj th (rf_g m) (rf σ0 m) (d + 5) 220 208 [(0, .ref 0)] [] g (fun r f' => r = none ∧ f' = if ob o 0 = 1 then (if ob o 4 &&& 128 = 0 then (if ob o 4 &&& 15 = 0 then (if h.1 74 0 = 0 ∧ (h.1 79 7 = 0 ∨ h.1 79 1 = 0 ∨ h.1 79 2 = 0) then rf_ui h 74 0 5005 else h) else rf_ui g 74 0 3008) else (if w3 o 5 = 257 ∨ w3 o 5 = 280 ∨ w3 o 5 = 282 ∨ w3 o 5 = 272 then (if w4 o 8 = (if w3 o 5 = 272 then 4 else 0) then (if ob o 4 &&& 47 = 0 then R_lacks h else rf_ui g 74 0 3008) else rf_ui g 74 0 3007) else rf_ui g 74 0 3001)) else rf_ui g 74 0 5011) := fun hk => by
        rw [if_pos z0, if_neg z1, if_pos hk]
        exact t208 hk
      conv => whnf
      rw [v70]
      refine ⟨fun (y1 : w3 o 5 = 257) => ?_, fun (y1 : ¬ w3 o 5 = 257) => ?_⟩
      · conv => whnf
        refine jx_yes (show ¬ (1 : Int32) = 0 by decide) ?_
        conv => whnf
        exact hJ _ _ _ _ (yes (Or.inl y1))
      conv => whnf
      rw [v70]
      refine ⟨fun (y2 : w3 o 5 = 280) => ?_, fun (y2 : ¬ w3 o 5 = 280) => ?_⟩
      · conv => whnf
        refine jx_yes (show ¬ (1 : Int32) = 0 by decide) ?_
        conv => whnf
        exact hJ _ _ _ _ (yes (Or.inr (Or.inl y2)))
      conv => whnf
      rw [v70]
      refine ⟨fun (y3 : w3 o 5 = 282) => ?_, fun (y3 : ¬ w3 o 5 = 282) => ?_⟩
      · conv => whnf
        refine jx_yes (show ¬ (1 : Int32) = 0 by decide) ?_
        conv => whnf
        exact hJ _ _ _ _ (yes (Or.inr (Or.inr (Or.inl y3))))
      conv => whnf
      rw [v70]
      refine ⟨fun (y4 : ¬ w3 o 5 = 272) => ?_, fun (y4 : ¬ ¬ w3 o 5 = 272) => ?_⟩
      · conv => whnf
        refine jx_no (show ¬ ¬ (0 : Int32) = 0 from fun z => z rfl) ?_
        conv => whnf
        rw [if_neg (fun z => by rcases z with z | z | z | z; exact y1 z; exact y2 z; exact y3 z; exact y4 z)]
        exact ⟨rfl, rfl⟩
      · conv => whnf
        refine jx_yes (show ¬ (1 : Int32) = 0 by decide) ?_
        conv => whnf
        exact hJ _ _ _ _ (yes (Or.inr (Or.inr (Or.inr (Decidable.not_not.mp y4)))))
  refine rf_go dt_220 60 [(78, [0, 2])] dt_220_k (by decide +kernel) rfl ?_
  intro C J hC hJ
  conv => whnf
  obtain ⟨f1, hf1⟩ : ∃ f1, f1 = rf_ui f 67 0 (600 * cv) := ⟨_, rfl⟩
  rw [← hf1]
  have b1 : (f1.1 67 0).toInt = (b : Int) := by rw [hf1, rf_ui_eq, e6]; exact hbi
  have o1 : oct f1 b = o := oo f1 (fun j => by rw [hf1, rf_ui_ne (by omega)])
  refine hC _ _ _ _ (((r_number3 (d := d) b1 (show (1 : Int32).toInt = ((1 : Nat) : Int) by decide) (by omega)).up (by omega)).mp ?_)
  rintro r f' ⟨rfl, hf'⟩
  rw [hf', o1]
  conv => whnf
  obtain ⟨f2, hf2⟩ : ∃ f2, f2 = rf_ui f1 68 0 (w3 o 1) := ⟨_, rfl⟩
  rw [← hf2]
  have b2 : (f2.1 67 0).toInt = (b : Int) := by rw [hf2, rf_ui_ne (by omega)]; exact b1
  have o2 : oct f2 b = o := oo f2 (fun j => by rw [hf2, rf_ui_ne (by omega), hf1, rf_ui_ne (by omega)])
  refine hC _ _ _ _ (((r_octet (d := d) b2 (show (4 : Int32).toInt = ((4 : Nat) : Int) by decide) (by omega)).up (by omega)).mp ?_)
  rintro r f' ⟨rfl, hf'⟩
  rw [hf', o2]
  conv => whnf
  obtain ⟨f3, hf3⟩ : ∃ f3, f3 = rf_ui f2 69 0 (ob o 4) := ⟨_, rfl⟩
  rw [← hf3]
  have b3 : (f3.1 67 0).toInt = (b : Int) := by rw [hf3, rf_ui_ne (by omega)]; exact b2
  have o3 : oct f3 b = o := oo f3 (fun j => by rw [hf3, rf_ui_ne (by omega), hf2, rf_ui_ne (by omega), hf1, rf_ui_ne (by omega)])
  refine hC _ _ _ _ (((r_number3 (d := d) b3 (show (5 : Int32).toInt = ((5 : Nat) : Int) by decide) (by omega)).up (by omega)).mp ?_)
  rintro r f' ⟨rfl, hf'⟩
  rw [hf', o3]
  conv => whnf
  obtain ⟨f4, hf4⟩ : ∃ f4, f4 = rf_ui f3 70 0 (w3 o 5) := ⟨_, rfl⟩
  rw [← hf4]
  have b4 : (f4.1 67 0).toInt = (b : Int) := by rw [hf4, rf_ui_ne (by omega)]; exact b3
  have o4 : oct f4 b = o := oo f4 (fun j => by rw [hf4, rf_ui_ne (by omega), hf3, rf_ui_ne (by omega), hf2, rf_ui_ne (by omega), hf1, rf_ui_ne (by omega)])
  refine hC _ _ _ _ (((r_number4 (d := d) b4 (show (8 : Int32).toInt = ((8 : Nat) : Int) by decide) (by omega)).up (by omega)).mp ?_)
  rintro r f' ⟨rfl, hf'⟩
  rw [hf', o4]
  conv => whnf
  obtain ⟨f5, hf5⟩ : ∃ f5, f5 = rf_ui f4 71 0 (w4 o 8) := ⟨_, rfl⟩
  rw [← hf5]
  have b5 : (f5.1 67 0).toInt = (b : Int) := by rw [hf5, rf_ui_ne (by omega)]; exact b4
  have o5 : oct f5 b = o := oo f5 (fun j => by rw [hf5, rf_ui_ne (by omega), hf4, rf_ui_ne (by omega), hf3, rf_ui_ne (by omega), hf2, rf_ui_ne (by omega), hf1, rf_ui_ne (by omega)])
  refine hC _ _ _ _ (((r_number4 (d := d) b5 (show (12 : Int32).toInt = ((12 : Nat) : Int) by decide) (by omega)).up (by omega)).mp ?_)
  rintro r f' ⟨rfl, hf'⟩
  rw [hf', o5]
  conv => whnf
  obtain ⟨f6, hf6⟩ : ∃ f6, f6 = rf_ui f5 72 0 (w4 o 12) := ⟨_, rfl⟩
  rw [← hf6]
  have b6 : (f6.1 67 0).toInt = (b : Int) := by rw [hf6, rf_ui_ne (by omega)]; exact b5
  have o6 : oct f6 b = o := oo f6 (fun j => by rw [hf6, rf_ui_ne (by omega), hf5, rf_ui_ne (by omega), hf4, rf_ui_ne (by omega), hf3, rf_ui_ne (by omega), hf2, rf_ui_ne (by omega), hf1, rf_ui_ne (by omega)])
  refine hC _ _ _ _ (((r_number4 (d := d) b6 (show (16 : Int32).toInt = ((16 : Nat) : Int) by decide) (by omega)).up (by omega)).mp ?_)
  rintro r f' ⟨rfl, hf'⟩
  rw [hf', o6]
  conv => whnf
  have eH : rf_ui (rf_ui (rf_ui f6 73 0 (w4 o 16)) 74 0 0) 75 0 0 = R_lkH f b := by
    rw [hf6, hf5, hf4, hf3, hf2, hf1, e6, ho]
    rfl
  rw [eH]
  refine hJ _ _ _ _ ?_
  have z := r_lk_z (th := th) (σ0 := σ0) (m := m) (d := d + 5) (Q := fun r f' => r = none ∧ f' = if ob o 0 = 1 then (if ob o 4 &&& 128 = 0 then (if ob o 4 &&& 15 = 0 then (if h.1 74 0 = 0 ∧ (h.1 79 7 = 0 ∨ h.1 79 1 = 0 ∨ h.1 79 2 = 0) then rf_ui h 74 0 5005 else h) else rf_ui g 74 0 3008) else (if w3 o 5 = 257 ∨ w3 o 5 = 280 ∨ w3 o 5 = 282 ∨ w3 o 5 = 272 then (if w4 o 8 = (if w3 o 5 = 272 then 4 else 0) then (if ob o 4 &&& 47 = 0 then R_lacks h else rf_ui g 74 0 3008) else rf_ui g 74 0 3007) else rf_ui g 74 0 3001)) else rf_ui g 74 0 5011) (cv := 0) 12 0 (R_lkH f b) (by omega) (by
    refine rf_at dt_220 40 [(124, [0])] dt_220_k (by decide +kernel) ?_
    intro C J hC hJ
    conv => whnf
    refine ⟨by decide, ?_⟩
    conv => whnf
    rw [show rf_ui (rf_ui (rf_ui (rf_ui (R_zk 12 (R_lkH f b)) 80 0 0) 81 0 0) 83 0 0) 84 0 0 = g from hg.symm]
    exact hJ _ _ _ _ t124)
  rw [R_zk_0] at z
  exact z
end JxReflook
