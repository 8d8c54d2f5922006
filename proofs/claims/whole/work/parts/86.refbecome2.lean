/-! THE REFERENCE: become, in one -/
noncomputable def R_become (f : jx_F) (n a p : Nat) (s : Int32) : jx_F := @ite _ (R_open s) (Classical.propDecidable _) (@ite _ (R_open (f.1 11 p)) (Classical.propDecidable _) (R_enter f p s) (R_bopen (R_enter f p s) p)) (@ite _ (R_open (f.1 11 p)) (Classical.propDecidable _) (R_bshut (R_enter f p s) n a p) (R_enter f p s))
section JxRefbecome2
variable {th : Nat → Nat} {σ0 : jx_S} {m d : Nat} {f : jx_F} {Q : Option Value → jx_F → Prop} {n a p : Nat}
theorem R_enter_o {s : Int32} {k j : Nat} (h1 : k ≠ 11) (h2 : k ≠ 12) : (R_enter f p s).1 k j = f.1 k j := by
  unfold R_enter
  rw [rf_ui_ne (fun e => h2 e.1), rf_ui_ne (fun e => h1 e.1)]
theorem R_gok.enter {s : Int32} (h : R_gok f n a) : R_gok (R_enter f p s) n a := by
  refine h.of (R_enter_gok h.1) (fun k j hk => R_enter_o ?_ ?_)
  · intro e; rw [e] at hk; revert hk; decide
  · intro e; rw [e] at hk; revert hk; decide
theorem R_gok.u {k j : Nat} {x : Int32} (h : R_gok f n a) (hk : k ∉ [6, 7, 32, 33, 49, 50, 51, 52, 13, 14]) : R_gok (rf_ui f k j x) n a := by
  refine h.of (h.1.of (rf_ui_ne (fun e => hk (by rw [← e.1]; decide))) (fun _ => rf_ui_ne (fun e => hk (by rw [← e.1]; decide))) (fun _ => rf_ui_ne (fun e => hk (by rw [← e.1]; decide)))) (fun q b hq => rf_ui_ne (fun e => hk ?_))
  rw [← e.1]
  simp only [List.mem_cons, List.not_mem_nil, or_false] at hq ⊢
  omega
theorem r_becomes {pv sv : Int32} (hp : pv.toInt = (p : Int)) (hp4 : p < 4) (hg : R_gok f n a) : rfc th σ0 m (d + 7) 189 [.ref 0, .int pv, .int sv] f (fun r f' => r = none ∧ f' = R_become f n a p sv) := by
  refine r_become hp hp4 (fun w i hw hi => ?_)
  have hge : R_gok (R_enter f p sv) n a := hg.enter
  rcases hw with ⟨rfl, hw⟩ | ⟨rfl, hw⟩ <;> rcases hi with ⟨rfl, hi⟩ | ⟨rfl, hi⟩
  · refine r_become_nn (sv := sv) (Or.inr rfl) ⟨rfl, ?_⟩
    unfold R_become
    rw [if_pos hi, if_pos hw]
  · refine r_become_10 hp hp4 (((hge.u (by decide)).u (by decide)).u (by decide)) ⟨rfl, ?_⟩
    unfold R_become
    rw [if_neg hi, if_pos hw]
  · obtain ⟨cN, hc, hc8⟩ := hge.cn hp4
    refine (r_become_01 (d := d + 1) hp hp4 hge.1 hc hc8 ⟨rfl, ?_⟩)
    unfold R_become
    rw [if_pos hi, if_neg hw]
  · refine r_become_nn (sv := sv) (Or.inl rfl) ⟨rfl, ?_⟩
    unfold R_become
    rw [if_neg hi, if_neg hw]
theorem r_accepts {pv : Int32} (hp : pv.toInt = (p : Int)) (hp4 : p < 4) (hg : R_gok f n a) (hg2 : R_gok (R_answerCame f p) n a) : rfc th σ0 m (d + 8) 210 [.ref 0, .int pv] f (fun r f' => r = none ∧ f' = R_become (R_answerCame f p) n a p 5) := by
  obtain ⟨cN, hc, hc8⟩ := (hg.2.2.2.2.2.2 p hp4).2
  refine rf_go dt_210 60 [] dt_210_k (by decide +kernel) rfl ?_
  intro C J hC hJ
  conv => whnf
  refine hC _ _ _ _ (((r_answerCame hp hp4 hg.1 hc hc8).up (show d + 5 ≤ d + 7 by omega)).mp ?_)
  rintro r f1 ⟨rfl, hf1⟩
  conv => whnf
  refine hC _ _ _ _ ((r_becomes (f := f1) hp hp4 (by rw [hf1]; exact hg2)).mp ?_)
  rintro r f2 ⟨rfl, hf2⟩
  conv => whnf
  refine ⟨rfl, ?_⟩
  rw [hf2, hf1]
theorem R_answerCame_o {k j : Nat} (h1 : k ≠ 65) (h2 : k ≠ 2) (h3 : k ≠ 31) (h4 : k ≠ 32) (h5 : k ≠ 66) : (R_answerCame f p).1 k j = f.1 k j := R_msg_o h1 h2 h3 h4 h5
theorem R_answerCame_gok (hg : R_gok f n a) (hp4 : p < 4) : R_gok (R_answerCame f p) n a := by
  obtain ⟨cN, hc, hc8⟩ := (hg.2.2.2.2.2.2 p hp4).2
  obtain ⟨N, hN, hN4⟩ := hg.1.1
  refine hg.of (R_msg_ok hg.1 ?_ hc hc8) (fun k j hk => ?_)
  · have l1 := R_ml_le (N := R_hs f) (s := 20 + 12)
    have l2 := R_ad_le (s := 20 + 12 + R_ml (R_hs f) (20 + 12))
    have l3 : R_hs f = N := i32_nat hN
    rw [List.length_append, List.length_append, List.length_append, R_me_len]
    have e1 : (R_hd (f.1 23 p &&& 64) 257 0 (f.1 24 p) (f.1 25 p)).length = 20 := rfl
    have e2 : (R_nm 268 2001).length = 12 := rfl
    omega
  · simp only [List.mem_cons, List.not_mem_nil, or_false] at hk
    exact R_answerCame_o (by omega) (by omega) (by omega) (by omega) (by omega)
end JxRefbecome2
