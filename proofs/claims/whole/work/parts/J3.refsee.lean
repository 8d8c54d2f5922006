/-! THE REFERENCE sees an attribute -/
/-- one of the CODES that are kept -/
def R_se1 (f : jx_F) (c pos n : Int32) (k : Nat) : jx_F := if f.1 76 k = c then rf_ui (if f.1 79 k = 0 then rf_ui (rf_ui f 77 k pos) 78 k n else f) 79 k (f.1 79 k + 1) else f
def R_sek (c pos n : Int32) : Nat → Nat → jx_F → jx_F
  | 0, _, f => f
  | r + 1, k, f => R_sek c pos n r (k + 1) (R_se1 f c pos n k)
/-- the AUTH is a good one -/
def R_seA (f : jx_F) (b p : Nat) (c : Int32) : jx_F := if c = 258 then rf_ui f 80 0 (if f.1 80 0 = 0 ∧ ¬ w4 (oct f b) p = 4 ∧ ¬ w4 (oct f b) p = -1 then 0 else 1) else f
/-- among the own ones of a group -/
def R_se81 (f : jx_F) (c pos n : Int32) : jx_F := if f.1 87 1 = 9 ∧ c = 444 ∧ f.1 81 0 = 0 then rf_ui (rf_ui f 81 0 pos) 82 0 n else f
def R_se83 (f : jx_F) (c pos : Int32) : jx_F := if f.1 87 1 = 10 ∧ c = 421 ∧ f.1 83 0 = 0 then rf_ui f 83 0 pos else f
def R_se84 (f : jx_F) (c pos : Int32) : jx_F := if f.1 87 1 = 11 ∧ c = 421 ∧ f.1 84 0 = 0 then rf_ui f 84 0 pos else f
def R_see (f : jx_F) (b d p : Nat) (c n : Int32) : jx_F := if d = 0 then R_seA (R_sek c (Int32.ofNat p) n 12 0 f) b p c else if d = 1 then R_se84 (R_se83 (R_se81 f c (Int32.ofNat p) n) c (Int32.ofNat p)) c (Int32.ofNat p) else f
def R_gof (f : jx_F) (c : Int32) (d : Nat) : Int32 := if d = 0 then (if c = 443 then (if f.1 79 9 = 1 then 9 else -1) else if c = 437 then (if f.1 79 10 = 1 then 10 else -1) else if c = 446 then (if f.1 79 11 = 1 then 11 else -1) else -1) else -1
section JxRefsee
variable {th : Nat → Nat} {σ0 : jx_S} {m d b k p : Nat} {f : jx_F} {c n : Int32} {Q : Option Value → jx_F → Prop}
theorem R_se1_o {pos : Int32} {q j : Nat} (h : ¬ ((q = 77 ∨ q = 78 ∨ q = 79) ∧ j = k)) : (R_se1 f c pos n k).1 q j = f.1 q j := by
  unfold R_se1
  split
  · rw [rf_ui_ne (by omega)]
    split
    · rw [rf_ui_ne (by omega), rf_ui_ne (by omega)]
    · rfl
  · rfl
theorem R_sek_o {pos : Int32} {q j : Nat} (h : ¬ (q = 77 ∨ q = 78 ∨ q = 79)) : ∀ (r k : Nat) (f : jx_F), (R_sek c pos n r k f).1 q j = f.1 q j
  | 0, _, _ => rfl
  | r + 1, k, f => (R_sek_o h r (k + 1) (R_se1 f c pos n k)).trans (R_se1_o (by omega))
theorem R_sek_l {pos : Int32} : ∀ (r k : Nat) (f : jx_F), (R_sek c pos n r k f).2 = f.2
  | 0, _, _ => rfl
  | r + 1, k, f => by
    show (R_sek c pos n r (k + 1) (R_se1 f c pos n k)).2 = f.2
    rw [R_sek_l r (k + 1)]
    unfold R_se1
    split
    · show (if _ then _ else _ : jx_F).2 = _
      split <;> rfl
    · rfl
/-- the other places stay -/
theorem R_sek_j {pos : Int32} {q j : Nat} : ∀ (r k : Nat) (f : jx_F), (j < k ∨ k + r ≤ j) → (R_sek c pos n r k f).1 q j = f.1 q j
  | 0, _, _, _ => rfl
  | r + 1, k, f, h => (R_sek_j r (k + 1) (R_se1 f c pos n k) (by omega)).trans (R_se1_o (by omega))
/-- the place itself -/
theorem R_sek_v {pos : Int32} {j : Nat} : ∀ (r k : Nat) (f : jx_F), k ≤ j → j < k + r → ∀ q, q = 77 ∨ q = 78 ∨ q = 79 → (R_sek c pos n r k f).1 q j = (R_se1 f c pos n j).1 q j
  | 0, _, _, h1, h2, _, _ => by omega
  | r + 1, k, f, h1, h2, q, hq => by
    show (R_sek c pos n r (k + 1) (R_se1 f c pos n k)).1 q j = _
    by_cases e : j = k
    · rw [R_sek_j r (k + 1) _ (by omega), e]
    · rw [R_sek_v r (k + 1) _ (by omega) (by omega) q hq]
      have e1 : ∀ u, (R_se1 f c pos n k).1 u j = f.1 u j := fun u => R_se1_o (by omega)
      unfold R_se1 at e1 ⊢
      generalize hg : (if f.1 76 k = c then rf_ui (if f.1 79 k = 0 then rf_ui (rf_ui f 77 k pos) 78 k n else f) 79 k (f.1 79 k + 1) else f) = g at e1 ⊢
      rw [e1 76, e1 79]
      split
      · rcases hq with rfl | rfl | rfl
        · rw [rf_ui_ne (by omega), rf_ui_ne (by omega)]
          split
          · rw [rf_ui_ne (by omega), rf_ui_eq, rf_ui_ne (by omega), rf_ui_eq]
          · exact e1 77
        · rw [rf_ui_ne (by omega), rf_ui_ne (by omega)]
          split
          · rw [rf_ui_eq, rf_ui_eq]
          · exact e1 78
        · rw [rf_ui_eq, rf_ui_eq]
      · exact e1 q
theorem r_see_k {pv nv : Int32} : ∀ (r k : Nat) (kv : Int32) (f : jx_F), kv.toInt = (k : Int) → k + r = 12 → jx_fj th (rf_g m) (rf σ0 m) (d + 2) 227 69 [(0, .ref 0), (1, .int c), (2, .int pv)] [] (R_sek c pv nv r k f) Q → jx_fj th (rf_g m) (rf σ0 m) (d + 2) 227 8 [(0, .ref 0), (1, .int c), (2, .int pv), (3, .int nv), (5, .int kv)] [] f Q
  | 0, k, kv, f, hk, hr, h => by
    refine rf_at dt_227 40 [(69, [0, 1, 2])] dt_227_k (by decide +kernel) ?_
    intro C J hC hJ
    conv => whnf
    refine jx_yes (show 12 ≤ kv by rw [Int32.le_iff_toInt_le, hk, show (12 : Int32).toInt = 12 by decide]; omega) ?_
    conv => whnf
    exact hJ _ _ _ _ h
  | r + 1, k, kv, f, hk, hr, h => by
    have hki : jx_in kv 12 := jx_in_nat hk (by omega)
    have hkn := i32_nat hk
    have hk1 : (kv + Int32.ofInt 1).toInt = ((k + 1 : Nat) : Int) := by rw [i32_add (c := 1) hk (by decide) (by omega) (by omega)]; omega
    have h : jx_fj th (rf_g m) (rf σ0 m) (d + 2) 227 69 [(0, .ref 0), (1, .int c), (2, .int pv)] [] (R_sek c pv nv r (k + 1) (R_se1 f c pv nv k)) Q := h
    refine rf_at dt_227 60 [(8, [0, 1, 2, 3, 5])] dt_227_k (by decide +kernel) ?_
    intro C J hC hJ
    conv => whnf
    refine jx_no (show ¬ 12 ≤ kv by rw [Int32.le_iff_toInt_le, hk, show (12 : Int32).toInt = 12 by decide]; omega) ?_
    conv => whnf
    refine ⟨hki, ?_⟩
    conv => whnf
    rw [hkn]
    refine ⟨fun (z : ¬ f.1 76 k = c) => ?_, fun (z : ¬ ¬ f.1 76 k = c) => ?_⟩
    · conv => whnf
      have e : R_se1 f c pv nv k = f := if_neg z
      rw [e] at h
      exact hJ _ _ _ _ (r_see_k r (k + 1) _ f hk1 (by omega) h)
    · have z := Decidable.not_not.mp z
      conv => whnf
      refine ⟨hki, ?_⟩
      conv => whnf
      rw [hkn]
      refine ⟨fun (z2 : ¬ f.1 79 k = 0) => ?_, fun (z2 : ¬ ¬ f.1 79 k = 0) => ?_⟩
      · conv => whnf
        refine ⟨hki, ?_⟩
        conv => whnf
        refine ⟨hki, ?_⟩
        conv => whnf
        rw [hkn]
        have e : R_se1 f c pv nv k = rf_ui f 79 k (f.1 79 k + 1) := by unfold R_se1; rw [if_pos z, if_neg z2]
        rw [e] at h
        exact hJ _ _ _ _ (r_see_k r (k + 1) _ _ hk1 (by omega) h)
      · have z2 := Decidable.not_not.mp z2
        conv => whnf
        refine ⟨hki, ?_⟩
        conv => whnf
        refine ⟨hki, ?_⟩
        conv => whnf
        refine ⟨hki, ?_⟩
        conv => whnf
        refine ⟨hki, ?_⟩
        conv => whnf
        rw [hkn]
        have e : R_se1 f c pv nv k = rf_ui (rf_ui (rf_ui f 77 k pv) 78 k nv) 79 k ((rf_ui (rf_ui f 77 k pv) 78 k nv).1 79 k + 1) := by
          unfold R_se1
          rw [if_pos z, if_pos z2, rf_ui_ne (show ¬ (79 = 78 ∧ k = k) by omega), rf_ui_ne (show ¬ (79 = 77 ∧ k = k) by omega)]
        rw [e] at h
        exact hJ _ _ _ _ (r_see_k r (k + 1) _ _ hk1 (by omega) h)
theorem r_see0 (hb : (f.1 67 0).toInt = (b : Int)) (hp : b + p + 3 < 5400 ∨ ¬ c = 258) (hp2 : p < 2147483648) : rfc th σ0 m (d + 3) 227 [.ref 0, .int c, .int (Int32.ofNat p), .int n, .int 0] f (fun r f' => r = none ∧ f' = R_see f b 0 p c n) := by
  refine rf_go dt_227 40 [(8, [0, 1, 2, 3, 5])] dt_227_k (by decide +kernel) rfl ?_
  intro C J hC hJ
  conv => whnf
  refine jx_no (show ¬ ¬ (0 : Int32) = 0 from fun z => z rfl) ?_
  conv => whnf
  refine hJ _ _ _ _ (r_see_k 12 0 _ f (by decide) (by omega) ?_)
  obtain ⟨g, hg⟩ : ∃ g, g = R_sek c (Int32.ofNat p) n 12 0 f := ⟨_, rfl⟩
  have eR : R_see f b 0 p c n = R_seA g b p c := by unfold R_see; rw [if_pos rfl, ← hg]
  rw [← hg, eR]
  have hbg : (g.1 67 0).toInt = (b : Int) := by rw [hg, R_sek_o (by omega)]; exact hb
  refine rf_at dt_227 40 [] dt_227_k (by decide +kernel) ?_
  intro C J hC hJ
  conv => whnf
  refine ⟨fun (z : ¬ c = 258) => ?_, fun (z : ¬ ¬ c = 258) => ?_⟩
  · conv => whnf
    exact ⟨rfl, (if_neg z).symm⟩
  · have z := Decidable.not_not.mp z
    have hp : b + p + 3 < 5400 := by
      rcases hp with h | h
      · exact h
      · exact absurd z h
    have hpv : (Int32.ofNat p).toInt = (p : Int) := i32_ofNat hp2
    unfold R_seA
    rw [if_pos z]
    conv => whnf
    refine ⟨fun (y : ¬ g.1 80 0 = 0) => ?_, fun (y : ¬ ¬ g.1 80 0 = 0) => ?_⟩
    · conv => whnf
      rw [if_neg (fun w => y w.1)]
      exact ⟨by decide, rfl, rfl⟩
    · have y := Decidable.not_not.mp y
      conv => whnf
      refine hC _ _ _ _ ((r_number4 (d := d) hbg hpv hp).mp ?_)
      rintro r f1 ⟨rfl, hf1⟩
      rw [hf1]
      conv => whnf
      refine ⟨fun (x : w4 (oct g b) p = 4) => ?_, fun (x : ¬ w4 (oct g b) p = 4) => ?_⟩
      · conv => whnf
        rw [if_neg (fun w => w.2.1 x)]
        exact ⟨by decide, rfl, rfl⟩
      · conv => whnf
        refine hC _ _ _ _ ((r_number4 (d := d) hbg hpv hp).mp ?_)
        rintro r f2 ⟨rfl, hf2⟩
        rw [hf2]
        conv => whnf
        refine ⟨fun (v : ¬ w4 (oct g b) p = -1) => ?_, fun (v : ¬ ¬ w4 (oct g b) p = -1) => ?_⟩
        · conv => whnf
          rw [if_pos ⟨y, x, v⟩]
          exact ⟨by decide, rfl, rfl⟩
        · conv => whnf
          rw [if_neg (fun w => v w.2.2)]
          exact ⟨by decide, rfl, rfl⟩
theorem r_see1 : rfc th σ0 m (d + 1) 227 [.ref 0, .int c, .int (Int32.ofNat p), .int n, .int 1] f (fun r f' => r = none ∧ f' = R_see f b 1 p c n) := by
  obtain ⟨pv, hpv⟩ : ∃ pv, pv = Int32.ofNat p := ⟨_, rfl⟩
  have eR : R_see f b 1 p c n = R_se84 (R_se83 (R_se81 f c pv n) c pv) c pv := by unfold R_see; rw [if_neg (by omega), if_pos rfl, hpv]
  rw [eR, ← hpv]
  have t183 : ∀ g : jx_F, g.1 87 1 = f.1 87 1 → jx_fj th (rf_g m) (rf σ0 m) d 227 183 [(0, .ref 0), (1, .int c), (2, .int pv), (5, .int (f.1 87 1))] [] g (fun r f' => r = none ∧ f' = R_se84 g c pv) := by
    intro g hg
    refine rf_at dt_227 40 [] dt_227_k (by decide +kernel) ?_
    intro C J hC hJ
    unfold R_se84
    rw [hg]
    conv => whnf
    refine ⟨fun (x : ¬ f.1 87 1 = 11) => ?_, fun (x : ¬ ¬ f.1 87 1 = 11) => ?_⟩
    · conv => whnf
      rw [if_neg (fun w => x w.1)]
      exact ⟨rfl, rfl⟩
    · conv => whnf
      refine ⟨fun (y : ¬ c = 421) => ?_, fun (y : ¬ ¬ c = 421) => ?_⟩
      · conv => whnf
        rw [if_neg (fun w => y w.2.1)]
        exact ⟨rfl, rfl⟩
      · conv => whnf
        refine ⟨fun (z : ¬ g.1 84 0 = 0) => ?_, fun (z : ¬ ¬ g.1 84 0 = 0) => ?_⟩
        · conv => whnf
          rw [if_neg (fun w => z w.2.2)]
          exact ⟨rfl, rfl⟩
        · conv => whnf
          rw [if_pos ⟨Decidable.not_not.mp x, Decidable.not_not.mp y, Decidable.not_not.mp z⟩]
          exact ⟨rfl, rfl⟩
  have t157 : ∀ g : jx_F, g.1 87 1 = f.1 87 1 → jx_fj th (rf_g m) (rf σ0 m) d 227 157 [(0, .ref 0), (1, .int c), (2, .int pv), (5, .int (f.1 87 1))] [] g (fun r f' => r = none ∧ f' = R_se84 (R_se83 g c pv) c pv) := by
    intro g hg
    refine rf_at dt_227 40 [(183, [0, 1, 2, 5])] dt_227_k (by decide +kernel) ?_
    intro C J hC hJ
    unfold R_se83
    rw [hg]
    conv => whnf
    refine ⟨fun (x : ¬ f.1 87 1 = 10) => ?_, fun (x : ¬ ¬ f.1 87 1 = 10) => ?_⟩
    · conv => whnf
      refine hJ _ _ _ _ ?_
      unfold R_se83
      rw [hg, if_neg (fun w => x w.1)]
      exact t183 g hg
    · conv => whnf
      refine ⟨fun (y : ¬ c = 421) => ?_, fun (y : ¬ ¬ c = 421) => ?_⟩
      · conv => whnf
        refine hJ _ _ _ _ ?_
        unfold R_se83
        rw [hg, if_neg (fun w => y w.2.1)]
        exact t183 g hg
      · conv => whnf
        refine ⟨fun (z : ¬ g.1 83 0 = 0) => ?_, fun (z : ¬ ¬ g.1 83 0 = 0) => ?_⟩
        · conv => whnf
          refine hJ _ _ _ _ ?_
          unfold R_se83
          rw [hg, if_neg (fun w => z w.2.2)]
          exact t183 g hg
        · conv => whnf
          refine hJ _ _ _ _ ?_
          unfold R_se83
          rw [hg, if_pos ⟨Decidable.not_not.mp x, Decidable.not_not.mp y, Decidable.not_not.mp z⟩]
          exact t183 _ (by rw [rf_ui_ne (by omega)]; exact hg)
  refine rf_go dt_227 40 [(157, [0, 1, 2, 5])] dt_227_k (by decide +kernel) rfl ?_
  intro C J hC hJ
  conv => whnf
  refine jx_yes (show ¬ (1 : Int32) = 0 by decide) ?_
  conv => whnf
  refine jx_yes (show (1 : Int32) ≤ 1 by decide) ?_
  conv => whnf
  refine ⟨jx_in_nat (k := 1) (by decide) (by decide), ?_⟩
  conv => whnf
  have s81 : ¬ (f.1 87 1 = 9 ∧ c = 444 ∧ f.1 81 0 = 0) → jx_fj th (rf_g m) (rf σ0 m) d 227 157 [(0, .ref 0), (1, .int c), (2, .int pv), (5, .int (f.1 87 1))] [] f (fun r f' => r = none ∧ f' = R_se84 (R_se83 (R_se81 f c pv n) c pv) c pv) := fun w => by
    unfold R_se81
    rw [if_neg w]
    exact t157 f rfl
  refine ⟨fun (x : ¬ f.1 87 1 = 9) => ?_, fun (x : ¬ ¬ f.1 87 1 = 9) => ?_⟩
  · conv => whnf
    exact hJ _ _ _ _ (s81 (fun w => x w.1))
  · conv => whnf
    refine ⟨fun (y : ¬ c = 444) => ?_, fun (y : ¬ ¬ c = 444) => ?_⟩
    · conv => whnf
      exact hJ _ _ _ _ (s81 (fun w => y w.2.1))
    · conv => whnf
      refine ⟨fun (z : ¬ f.1 81 0 = 0) => ?_, fun (z : ¬ ¬ f.1 81 0 = 0) => ?_⟩
      · conv => whnf
        exact hJ _ _ _ _ (s81 (fun w => z w.2.2))
      · conv => whnf
        refine hJ _ _ _ _ ?_
        have := t157 (rf_ui (rf_ui f 81 0 pv) 82 0 n) (by rw [rf_ui_ne (by omega), rf_ui_ne (by omega)])
        unfold R_se81
        rw [if_pos ⟨Decidable.not_not.mp x, Decidable.not_not.mp y, Decidable.not_not.mp z⟩]
        exact this
theorem r_see2 {dv : Int32} {dn : Nat} (hd : dv.toInt = (dn : Int)) (h2 : 2 ≤ dn) : rfc th σ0 m (d + 1) 227 [.ref 0, .int c, .int (Int32.ofNat p), .int n, .int dv] f (fun r f' => r = none ∧ f' = R_see f b dn p c n) := by
  have eR : R_see f b dn p c n = f := by unfold R_see; rw [if_neg (by omega), if_neg (by omega)]
  rw [eR]
  refine rf_go dt_227 40 [] dt_227_k (by decide +kernel) rfl ?_
  intro C J hC hJ
  conv => whnf
  refine jx_yes (show ¬ dv = 0 from fun z => by rw [z, show (0 : Int32).toInt = 0 by decide] at hd; omega) ?_
  conv => whnf
  refine jx_no (show ¬ dv ≤ 1 by rw [Int32.le_iff_toInt_le, hd, show (1 : Int32).toInt = 1 by decide]; omega) ?_
  conv => whnf
  exact ⟨rfl, rfl⟩
theorem r_groupOf {dv : Int32} {dn : Nat} (hd : dv.toInt = (dn : Int)) : rfc th σ0 m (d + 1) 228 [.ref 0, .int c, .int dv] f (fun r f' => r = some (.int (R_gof f c dn)) ∧ f' = f) := by
  refine rf_go dt_228 40 [] dt_228_k (by decide +kernel) rfl ?_
  intro C J hC hJ
  conv => whnf
  by_cases h0 : dn = 0
  · refine jx_yes (show dv ≤ 0 by rw [Int32.le_iff_toInt_le, hd, h0]; decide) ?_
    unfold R_gof
    rw [if_pos h0]
    conv => whnf
    refine ⟨fun (x : ¬ c = 443) => ?_, fun (x : ¬ ¬ c = 443) => ?_⟩
    · rw [if_neg x]
      conv => whnf
      refine ⟨fun (y : ¬ c = 437) => ?_, fun (y : ¬ ¬ c = 437) => ?_⟩
      · rw [if_neg y]
        conv => whnf
        refine ⟨fun (z : ¬ c = 446) => ?_, fun (z : ¬ ¬ c = 446) => ?_⟩
        · rw [if_neg z]
          conv => whnf
          refine jx_yes (show (-1 : Int32) < 0 by decide) ?_
          conv => whnf
          exact ⟨rfl, rfl⟩
        · rw [if_pos (Decidable.not_not.mp z)]
          conv => whnf
          refine jx_no (show ¬ (11 : Int32) < 0 by decide) ?_
          conv => whnf
          refine ⟨jx_in_nat (k := 11) (by decide) (by decide), ?_⟩
          conv => whnf
          refine ⟨fun (v : ¬ f.1 79 11 = 1) => ?_, fun (v : ¬ ¬ f.1 79 11 = 1) => ?_⟩
          · conv => whnf
            rw [if_neg v]
            exact ⟨rfl, rfl⟩
          · conv => whnf
            rw [if_pos (Decidable.not_not.mp v)]
            exact ⟨rfl, rfl⟩
      · rw [if_pos (Decidable.not_not.mp y)]
        conv => whnf
        refine jx_no (show ¬ (10 : Int32) < 0 by decide) ?_
        conv => whnf
        refine ⟨jx_in_nat (k := 10) (by decide) (by decide), ?_⟩
        conv => whnf
        refine ⟨fun (v : ¬ f.1 79 10 = 1) => ?_, fun (v : ¬ ¬ f.1 79 10 = 1) => ?_⟩
        · conv => whnf
          rw [if_neg v]
          exact ⟨rfl, rfl⟩
        · conv => whnf
          rw [if_pos (Decidable.not_not.mp v)]
          exact ⟨rfl, rfl⟩
    · rw [if_pos (Decidable.not_not.mp x)]
      conv => whnf
      refine jx_no (show ¬ (9 : Int32) < 0 by decide) ?_
      conv => whnf
      refine ⟨jx_in_nat (k := 9) (by decide) (by decide), ?_⟩
      conv => whnf
      refine ⟨fun (v : ¬ f.1 79 9 = 1) => ?_, fun (v : ¬ ¬ f.1 79 9 = 1) => ?_⟩
      · conv => whnf
        rw [if_neg v]
        exact ⟨rfl, rfl⟩
      · conv => whnf
        rw [if_pos (Decidable.not_not.mp v)]
        exact ⟨rfl, rfl⟩
  · refine jx_no (show ¬ dv ≤ 0 by rw [Int32.le_iff_toInt_le, hd, show (0 : Int32).toInt = 0 by decide]; omega) ?_
    conv => whnf
    unfold R_gof
    rw [if_neg h0]
    exact ⟨rfl, rfl⟩
end JxRefsee
