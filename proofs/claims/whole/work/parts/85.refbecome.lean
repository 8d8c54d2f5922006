/-! THE REFERENCE: a PEER becomes another state -/
def R_open (s : Int32) : Prop := s = 5 ∨ s = 6
/-- the state and its deadline -/
def R_enter (f : jx_F) (p : Nat) (s : Int32) : jx_F := rf_ui (rf_ui f 11 p s) 12 p (f.1 1 0 + 10)
/-- it has become open -/
def R_bopen (f : jx_F) (p : Nat) : jx_F := if f.1 15 p = 0 then rf_ui (rf_ui f 15 p 1) 17 p (f.1 1 0 + 30) else R_sendWatch (rf_ui (rf_ui f 15 p 4) 19 p 0) p
/-- it is open no more -/
noncomputable def R_bshut (f : jx_F) (n a p : Nat) : jx_F := R_gv (rf_ui (rf_ui (rf_ui f 15 p 3) 16 p 0) 17 p (f.1 1 0 + 30)) n a p
section JxRefbecome
variable {th : Nat → Nat} {σ0 : jx_S} {m d : Nat} {f : jx_F} {Q : Option Value → jx_F → Prop} {n a p : Nat}
theorem R_enter_gok {s : Int32} (h : R_ok f) : R_ok (R_enter f p s) := h.of (by unfold R_enter; rw [rf_ui_ne (by simp), rf_ui_ne (by simp)]) (fun _ => by unfold R_enter; rw [rf_ui_ne (by simp), rf_ui_ne (by simp)]) (fun _ => by unfold R_enter; rw [rf_ui_ne (by simp), rf_ui_ne (by simp)])
/-- from place 65 on: was and is are known -/
theorem r_become_nn {pv sv : Int32} {w : Int32} (hw : w = 0 ∨ w = 1) (h : Q none f) : jx_fj th (rf_g m) (rf σ0 m) d 189 65 [(0, .ref 0), (1, .int pv), (3, .int w), (4, .int w)] [] f Q := by
  rcases hw with rfl | rfl
  · refine rf_at dt_189 60 [] dt_189_k (by decide +kernel) ?_
    intro C J hC hJ
    conv => whnf
    refine jx_no (show ¬ ¬ (0 : Int32) = 0 by decide) ?_
    conv => whnf
    refine jx_yes (show (0 : Int32) = 0 from rfl) ?_
    conv => whnf
    refine jx_yes (show (0 : Int32) = 0 from rfl) ?_
    conv => whnf
    exact h
  · refine rf_at dt_189 60 [] dt_189_k (by decide +kernel) ?_
    intro C J hC hJ
    conv => whnf
    refine jx_yes (show ¬ (1 : Int32) = 0 by decide) ?_
    conv => whnf
    refine jx_no (show ¬ (1 : Int32) = 0 by decide) ?_
    conv => whnf
    refine jx_yes (show ¬ (1 : Int32) = 0 by decide) ?_
    conv => whnf
    exact h
theorem r_become_01 {pv : Int32} {cN : Nat} (hp : pv.toInt = (p : Int)) (hp4 : p < 4) (ho : R_ok f) (hc : (R_conn f p).toInt = (cN : Int)) (hc8 : cN ≤ 8) (h : Q none (R_bopen f p)) : jx_fj th (rf_g m) (rf σ0 m) (d + 5) 189 65 [(0, .ref 0), (1, .int pv), (3, .int 0), (4, .int 1)] [] f Q := by
  have hpn := i32_nat hp
  have hpi : jx_in pv 4 := jx_in_nat hp hp4
  refine rf_at dt_189 60 [] dt_189_k (by decide +kernel) ?_
  intro C J hC hJ
  conv => whnf
  refine jx_no (show ¬ ¬ (0 : Int32) = 0 by decide) ?_
  conv => whnf
  refine jx_no (show ¬ (1 : Int32) = 0 by decide) ?_
  conv => whnf
  refine ⟨hpi, ?_⟩
  conv => whnf
  try rw [hpn]
  refine ⟨fun (h1 : ¬ f.1 15 p = 0) => ?_, fun (h1 : ¬ ¬ f.1 15 p = 0) => ?_⟩
  · conv => whnf
    refine ⟨hpi, ?_⟩
    conv => whnf
    refine ⟨hpi, ?_⟩
    conv => whnf
    try rw [hpn]
    obtain ⟨g, hg⟩ : ∃ g, g = rf_ui (rf_ui f 15 p 4) 19 p 0 := ⟨_, rfl⟩
    rw [← hg]
    have og : ∀ k j, k ≠ 15 → k ≠ 19 → g.1 k j = f.1 k j := fun k j e1 e2 => by rw [hg, rf_ui_ne (fun e => e2 e.1), rf_ui_ne (fun e => e1 e.1)]
    refine hC _ _ _ _ ((r_sendWatch (f := g) (cN := cN) hp hp4 (ho.of (og 6 0 (by decide) (by decide)) (fun c => og 33 c (by decide) (by decide)) (fun c => og 32 c (by decide) (by decide))) (by rw [R_conn_eq (f := f) (og 11 p (by decide) (by decide)) (og 13 p (by decide) (by decide)) (og 14 p (by decide) (by decide))]; exact hc) hc8).mp ?_)
    rintro r f1 ⟨rfl, hf1⟩
    conv => whnf
    refine jx_yes (show (0 : Int32) = 0 from rfl) ?_
    conv => whnf
    rw [hf1, hg]
    unfold R_bopen at h
    rw [if_neg h1] at h
    exact h
  · have h1 := Decidable.not_not.mp h1
    conv => whnf
    refine ⟨hpi, ?_⟩
    conv => whnf
    refine ⟨hpi, ?_⟩
    conv => whnf
    try rw [hpn]
    refine jx_yes (show (0 : Int32) = 0 from rfl) ?_
    conv => whnf
    unfold R_bopen at h
    rw [if_pos h1] at h
    exact h
theorem r_become_10 {pv : Int32} (hp : pv.toInt = (p : Int)) (hp4 : p < 4) (hg : R_gok (rf_ui (rf_ui (rf_ui f 15 p 3) 16 p 0) 17 p (f.1 1 0 + 30)) n a) (h : Q none (R_bshut f n a p)) : jx_fj th (rf_g m) (rf σ0 m) (d + 6) 189 65 [(0, .ref 0), (1, .int pv), (3, .int 1), (4, .int 0)] [] f Q := by
  have hpn := i32_nat hp
  have hpi : jx_in pv 4 := jx_in_nat hp hp4
  refine rf_at dt_189 60 [] dt_189_k (by decide +kernel) ?_
  intro C J hC hJ
  conv => whnf
  refine jx_yes (show ¬ (1 : Int32) = 0 by decide) ?_
  conv => whnf
  refine jx_no (show ¬ (1 : Int32) = 0 by decide) ?_
  conv => whnf
  refine jx_no (show ¬ ¬ (0 : Int32) = 0 by decide) ?_
  conv => whnf
  refine ⟨hpi, ?_⟩
  conv => whnf
  refine ⟨hpi, ?_⟩
  conv => whnf
  refine ⟨hpi, ?_⟩
  conv => whnf
  try rw [hpn]
  rw [nar_z0]
  refine hC _ _ _ _ ((r_giveOver (f := rf_ui (rf_ui (rf_ui f 15 p 3) 16 p 0) 17 p (f.1 1 0 + 30)) hp hp4 hg).mp ?_)
  rintro r f1 ⟨rfl, hf1⟩
  conv => whnf
  rw [hf1]
  exact h
/-- was, is: then the state is entered -/
theorem r_become_e {pv sv : Int32} {w i : Int32} (hp : pv.toInt = (p : Int)) (hp4 : p < 4) (h : jx_fj th (rf_g m) (rf σ0 m) d 189 65 [(0, .ref 0), (1, .int pv), (3, .int w), (4, .int i)] [] (R_enter f p sv) Q) : jx_fj th (rf_g m) (rf σ0 m) d 189 45 [(0, .ref 0), (1, .int pv), (2, .int sv), (3, .int w), (4, .int i)] [] f Q := by
  have hpn := i32_nat hp
  have hpi : jx_in pv 4 := jx_in_nat hp hp4
  refine rf_at dt_189 60 [(65, [0, 1, 3, 4])] dt_189_k (by decide +kernel) ?_
  intro C J hC hJ
  conv => whnf
  refine ⟨hpi, ?_⟩
  conv => whnf
  refine ⟨hpi, ?_⟩
  conv => whnf
  try rw [hpn]
  exact hJ _ _ _ _ h
theorem r_become {pv sv : Int32} (hp : pv.toInt = (p : Int)) (hp4 : p < 4) (h : ∀ w i : Int32, ((w = 1 ∧ R_open (f.1 11 p)) ∨ (w = 0 ∧ ¬ R_open (f.1 11 p))) → ((i = 1 ∧ R_open sv) ∨ (i = 0 ∧ ¬ R_open sv)) → jx_fj th (rf_g m) (rf σ0 m) d 189 65 [(0, .ref 0), (1, .int pv), (3, .int w), (4, .int i)] [] (R_enter f p sv) Q) : rfc th σ0 m (d + 1) 189 [.ref 0, .int pv, .int sv] f Q := by
  have hpn := i32_nat hp
  have hpi : jx_in pv 4 := jx_in_nat hp hp4
  refine rf_go dt_189 60 [(27, [0, 1, 2, 3])] dt_189_k (by decide +kernel) rfl ?_
  intro C J hC hJ
  have h27 : ∀ w : Int32, ((w = 1 ∧ R_open (f.1 11 p)) ∨ (w = 0 ∧ ¬ R_open (f.1 11 p))) → jx_fj th (rf_g m) (rf σ0 m) d 189 27 [(0, .ref 0), (1, .int pv), (2, .int sv), (3, .int w)] [] f Q := by
    intro w hw
    refine rf_at dt_189 60 [(45, [0, 1, 2, 3, 4])] dt_189_k (by decide +kernel) ?_
    intro C J hC hJ
    conv => whnf
    refine ⟨fun (h1 : sv = 5) => ?_, fun (h1 : ¬ sv = 5) => ?_⟩
    · conv => whnf
      exact hJ _ _ _ _ (r_become_e hp hp4 (h w 1 hw (Or.inl ⟨rfl, Or.inl h1⟩)))
    · conv => whnf
      refine ⟨fun (h2 : ¬ sv = 6) => ?_, fun (h2 : ¬ ¬ sv = 6) => ?_⟩
      · conv => whnf
        exact hJ _ _ _ _ (r_become_e hp hp4 (h w 0 hw (Or.inr ⟨rfl, fun z => z.elim h1 h2⟩)))
      · conv => whnf
        exact hJ _ _ _ _ (r_become_e hp hp4 (h w 1 hw (Or.inl ⟨rfl, Or.inr (Decidable.not_not.mp h2)⟩)))
  conv => whnf
  refine ⟨hpi, ?_⟩
  conv => whnf
  try rw [hpn]
  refine ⟨fun (h1 : f.1 11 p = 5) => ?_, fun (h1 : ¬ f.1 11 p = 5) => ?_⟩
  · conv => whnf
    exact hJ _ _ _ _ (h27 1 (Or.inl ⟨rfl, Or.inl h1⟩))
  · conv => whnf
    refine ⟨hpi, ?_⟩
    conv => whnf
    try rw [hpn]
    refine ⟨fun (h2 : ¬ f.1 11 p = 6) => ?_, fun (h2 : ¬ ¬ f.1 11 p = 6) => ?_⟩
    · conv => whnf
      exact hJ _ _ _ _ (h27 0 (Or.inr ⟨rfl, fun z => z.elim h1 h2⟩))
    · conv => whnf
      exact hJ _ _ _ _ (h27 1 (Or.inl ⟨rfl, Or.inr (Decidable.not_not.mp h2)⟩))
end JxRefbecome
