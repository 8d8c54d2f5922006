/-! THE REFERENCE: what only looks, the rest -/
theorem i32_eq {x : Int32} {n : Nat} (h : x.toInt = (n : Int)) (hn : n < 2147483648) : x = Int32.ofNat n := Int32.toInt_inj.mp (by rw [i32_ofNat hn, h])
section JxRefget2
variable {th : Nat → Nat} {σ0 : jx_S} {m d : Nat} {f : jx_F}
theorem r_sessions : rfc th σ0 m (d + 1) 275 [.ref 0] f (fun r f' => r = some (.int (f.1 40 0)) ∧ f' = rf_ui f 0 0 0) := by
  refine rf_go dt_275 10 [] dt_275_k (by decide +kernel) rfl ?_
  intro C J hC hJ
  conv => whnf
  exact ⟨rfl, rfl⟩
theorem r_lost : rfc th σ0 m (d + 1) 281 [.ref 0] f (fun r f' => r = some (.int (f.1 2 0)) ∧ f' = rf_ui f 0 0 0) := by
  refine rf_go dt_281 10 [] dt_281_k (by decide +kernel) rfl ?_
  intro C J hC hJ
  conv => whnf
  exact ⟨rfl, rfl⟩
theorem r_noPeer {p : Int32} : rfc th σ0 m (d + 1) 186 [.ref 0, .int p] f (fun r f' => ((r = some (.int 0) ∧ 1 ≤ p ∧ p ≤ f.1 7 0) ∨ (r = some (.int 1) ∧ ¬ (1 ≤ p ∧ p ≤ f.1 7 0))) ∧ f' = f) := by
  refine rf_go dt_186 20 [] dt_186_k (by decide +kernel) rfl ?_
  intro C J hC hJ
  conv => whnf
  refine ⟨fun (h1 : p < 1) => ?_, fun (h1 : ¬ p < 1) => ?_⟩
  · conv => whnf
    exact ⟨Or.inr rfl, Or.inr ⟨rfl, fun z => absurd h1 (Int32.not_lt.mpr z.1)⟩, rfl⟩
  · conv => whnf
    refine ⟨fun (h2 : p ≤ f.1 7 0) => ?_, fun (h2 : ¬ p ≤ f.1 7 0) => ?_⟩
    · conv => whnf
      exact ⟨Or.inl rfl, Or.inl ⟨rfl, Int32.not_lt.mp h1, h2⟩, rfl⟩
    · conv => whnf
      exact ⟨Or.inr rfl, Or.inr ⟨rfl, fun z => h2 z.2⟩, rfl⟩
def R_cnn (f : jx_F) (c : Nat) (w : Int32) : Int32 := if w = 0 then f.1 26 c else if w = 1 then f.1 27 c else if w = 2 then f.1 28 c else if w = 3 then f.1 30 c else -2
theorem r_connection {c w : Int32} : rfc th σ0 m (d + 2) 271 [.ref 0, .int c, .int w] f (fun r f' => ((r = some (.int (R_cnn f c.toNatClampNeg w)) ∧ 1 ≤ c ∧ c ≤ 8) ∨ (r = some (.int (-1)) ∧ ¬ (1 ≤ c ∧ c ≤ 8))) ∧ f' = rf_ui f 0 0 0) := by
  refine rf_go dt_271 40 [] dt_271_k (by decide +kernel) rfl ?_
  intro C J hC hJ
  conv => whnf
  refine hC _ _ _ _ (r_in.mp ?_)
  rintro r f' ⟨⟨rfl, h1, h2⟩ | ⟨rfl, h1⟩, rfl⟩
  · have hin : jx_in c 9 := jx_in_le (Int32.le_trans (by decide) h1) h2 (by decide)
    conv => whnf
    refine jx_yes (show ¬ (1 : Int32) = 0 by decide) ?_
    conv => whnf
    refine ⟨jx_swx_of (List.forall_mem_cons.mpr ⟨?_, List.forall_mem_cons.mpr ⟨?_, List.forall_mem_cons.mpr ⟨?_, List.forall_mem_cons.mpr ⟨?_, (fun q hq => absurd hq List.not_mem_nil)⟩⟩⟩⟩), ?_⟩
    · intro hw
      conv => whnf
      refine ⟨hin, ?_⟩
      conv => whnf
      refine ⟨Or.inl ⟨?_, h1, h2⟩, rfl⟩
      rw [show w = 0 from hw]
      rfl
    · intro hw
      conv => whnf
      refine ⟨hin, ?_⟩
      conv => whnf
      refine ⟨Or.inl ⟨?_, h1, h2⟩, rfl⟩
      rw [show w = 1 from hw]
      rfl
    · intro hw
      conv => whnf
      refine ⟨hin, ?_⟩
      conv => whnf
      refine ⟨Or.inl ⟨?_, h1, h2⟩, rfl⟩
      rw [show w = 2 from hw]
      rfl
    · intro hw
      conv => whnf
      refine ⟨hin, ?_⟩
      conv => whnf
      refine ⟨Or.inl ⟨?_, h1, h2⟩, rfl⟩
      rw [show w = 3 from hw]
      rfl
    · refine jx_swd_i (fun hn => ?_)
      conv => whnf
      refine ⟨Or.inl ⟨?_, h1, h2⟩, rfl⟩
      unfold R_cnn
      rw [if_neg (show ¬ w = 0 from hn _ (List.mem_of_getElem? (i := 0) rfl)), if_neg (show ¬ w = 1 from hn _ (List.mem_of_getElem? (i := 1) rfl)), if_neg (show ¬ w = 2 from hn _ (List.mem_of_getElem? (i := 2) rfl)), if_neg (show ¬ w = 3 from hn _ (List.mem_of_getElem? (i := 3) rfl))]
  · conv => whnf
    refine jx_no (show ¬ ¬ (0 : Int32) = 0 by decide) ?_
    conv => whnf
    exact ⟨Or.inr ⟨rfl, h1⟩, rfl⟩
def R_ses (f : jx_F) (k : Nat) (w : Int32) : Int32 := if w = 0 then f.1 41 (41 * k) else if w = 1 then (f.2 46 k).toInt32 else if w = 2 then f.1 47 k else if w = 3 then f.1 48 k else -2
theorem r_session {i w : Int32} {n : Nat} (hn : (f.1 40 0).toInt = (n : Int)) (hn16 : n ≤ 16) : rfc th σ0 m (d + 1) 276 [.ref 0, .int i, .int w] f (fun r f' => ((∃ k : Nat, i.toInt = (k : Int) ∧ k < n ∧ r = some (.int (R_ses f k w))) ∨ (r = some (.int (-1)) ∧ (i < 0 ∨ ¬ i < f.1 40 0))) ∧ f' = rf_ui f 0 0 0) := by
  refine rf_go dt_276 40 [] dt_276_k (by decide +kernel) rfl ?_
  intro C J hC hJ
  conv => whnf
  refine ⟨fun (h1 : i < 0) => ?_, fun (h1 : ¬ i < 0) => ?_⟩
  · conv => whnf
    exact ⟨Or.inr ⟨rfl, Or.inl h1⟩, rfl⟩
  · conv => whnf
    refine ⟨fun (h2 : i < f.1 40 0) => ?_, fun (h2 : ¬ i < f.1 40 0) => ?_⟩
    · obtain ⟨k, hk⟩ : ∃ k : Nat, i.toInt = (k : Int) := ⟨i.toInt.toNat, by
        have := Int32.le_iff_toInt_le.mp (Int32.not_lt.mp h1)
        have e : (0 : Int32).toInt = 0 := by decide
        omega⟩
      have hkn : k < n := by
        rw [Int32.lt_iff_toInt_lt, hk, hn] at h2
        omega
      have hi := i32_nat hk
      have hin : jx_in i 16 := jx_in_nat hk (by omega)
      have hx : (41 * i).toInt = ((41 * k : Nat) : Int) := by rw [i32_mul (a := 41) (by decide) hk (by omega) (by omega)]; omega
      have hxi : jx_in (41 * i) 656 := jx_in_nat hx (by omega)
      conv => whnf
      refine ⟨jx_swx_of (List.forall_mem_cons.mpr ⟨?_, List.forall_mem_cons.mpr ⟨?_, List.forall_mem_cons.mpr ⟨?_, List.forall_mem_cons.mpr ⟨?_, (fun q hq => absurd hq List.not_mem_nil)⟩⟩⟩⟩), ?_⟩
      · intro hw
        conv => whnf
        refine ⟨hxi, ?_⟩
        conv => whnf
        refine ⟨Or.inl ⟨k, hk, hkn, ?_⟩, rfl⟩
        rw [i32_nat hx, show w = 0 from hw]
        rfl
      · intro hw
        conv => whnf
        refine ⟨hin, ?_⟩
        conv => whnf
        refine ⟨Or.inl ⟨k, hk, hkn, ?_⟩, rfl⟩
        rw [hi, show w = 1 from hw]
        rfl
      · intro hw
        conv => whnf
        refine ⟨hin, ?_⟩
        conv => whnf
        refine ⟨Or.inl ⟨k, hk, hkn, ?_⟩, rfl⟩
        rw [hi, show w = 2 from hw]
        rfl
      · intro hw
        conv => whnf
        refine ⟨hin, ?_⟩
        conv => whnf
        refine ⟨Or.inl ⟨k, hk, hkn, ?_⟩, rfl⟩
        rw [hi, show w = 3 from hw]
        rfl
      · refine jx_swd_i (fun hn => ?_)
        conv => whnf
        refine ⟨Or.inl ⟨k, hk, hkn, ?_⟩, rfl⟩
        unfold R_ses
        rw [if_neg (show ¬ w = 0 from hn _ (List.mem_of_getElem? (i := 0) rfl)), if_neg (show ¬ w = 1 from hn _ (List.mem_of_getElem? (i := 1) rfl)), if_neg (show ¬ w = 2 from hn _ (List.mem_of_getElem? (i := 2) rfl)), if_neg (show ¬ w = 3 from hn _ (List.mem_of_getElem? (i := 3) rfl))]
    · conv => whnf
      exact ⟨Or.inr ⟨rfl, Or.inr h2⟩, rfl⟩
theorem r_granted {i : Int32} {n : Nat} (hn : (f.1 40 0).toInt = (n : Int)) (hn16 : n ≤ 16) : rfc th σ0 m (d + 1) 277 [.ref 0, .int i] f (fun r f' => ((∃ k : Nat, i.toInt = (k : Int) ∧ k < n ∧ r = some (.long (f.2 45 k))) ∨ (r = some (.long (-1)) ∧ (i < 0 ∨ ¬ i < f.1 40 0))) ∧ f' = rf_ui f 0 0 0) := by
  refine rf_go dt_277 40 [] dt_277_k (by decide +kernel) rfl ?_
  intro C J hC hJ
  conv => whnf
  refine ⟨fun (h1 : i < 0) => ?_, fun (h1 : ¬ i < 0) => ?_⟩
  · conv => whnf
    exact ⟨Or.inr ⟨rfl, Or.inl h1⟩, rfl⟩
  · conv => whnf
    refine ⟨fun (h2 : i < f.1 40 0) => ?_, fun (h2 : ¬ i < f.1 40 0) => ?_⟩
    · obtain ⟨k, hk⟩ : ∃ k : Nat, i.toInt = (k : Int) := ⟨i.toInt.toNat, by
        have := Int32.le_iff_toInt_le.mp (Int32.not_lt.mp h1)
        have e : (0 : Int32).toInt = 0 := by decide
        omega⟩
      have hkn : k < n := by
        rw [Int32.lt_iff_toInt_lt, hk, hn] at h2
        omega
      have hin : jx_in i 16 := jx_in_nat hk (by omega)
      conv => whnf
      refine ⟨hin, ?_⟩
      conv => whnf
      refine ⟨Or.inl ⟨k, hk, hkn, ?_⟩, rfl⟩
      rw [i32_nat hk]
      rfl
    · conv => whnf
      exact ⟨Or.inr ⟨rfl, Or.inr h2⟩, rfl⟩
end JxRefget2
