/-! THE REFERENCE reads the message that came -/
/-- the octets from a base on -/
def oct (f : jx_F) (b k : Nat) : Int32 := f.1 29 (b + k)
section JxRefread
variable {th : Nat → Nat} {σ0 : jx_S} {m d b k : Nat} {f : jx_F} {kv : Int32} {Q : Option Value → jx_F → Prop}
theorem r_octet (hb : (f.1 67 0).toInt = (b : Int)) (hk : kv.toInt = (k : Int)) (hl : b + k < 5400) : rfc th σ0 m (d + 1) 218 [.ref 0, .int kv] f (fun r f' => r = some (.int (ob (oct f b) k)) ∧ f' = f) := by
  have h1 : (f.1 67 0 + kv).toInt = ((b + k : Nat) : Int) := by rw [i32_add hb hk (by omega) (by omega)]; omega
  refine rf_go dt_218 20 [] dt_218_k (by decide +kernel) rfl ?_
  intro C J hC hJ
  conv => whnf
  refine ⟨jx_in_nat h1 hl, ?_⟩
  conv => whnf
  rw [i32_nat h1]
  exact ⟨rfl, rfl⟩
theorem i32_k1 {c : Int32} {j : Nat} (hk : kv.toInt = (k : Int)) (hc : c.toInt = (j : Int)) (hl : k + j < 2147483648) : (kv + c).toInt = ((k + j : Nat) : Int) := by rw [i32_add hk hc (by omega) (by omega)]; omega
theorem r_number4 (hb : (f.1 67 0).toInt = (b : Int)) (hk : kv.toInt = (k : Int)) (hl : b + k + 3 < 5400) : rfc th σ0 m (d + 2) 221 [.ref 0, .int kv] f (fun r f' => r = some (.int (w4 (oct f b) k)) ∧ f' = f) := by
  refine rf_go dt_221 40 [] dt_221_k (by decide +kernel) rfl ?_
  intro C J hC hJ
  conv => whnf
  refine hC _ _ _ _ ((r_octet (d := d) hb hk (by omega)).mp ?_)
  rintro r f1 ⟨rfl, hf1⟩
  rw [hf1]
  conv => whnf
  refine hC _ _ _ _ ((r_octet (d := d) hb (i32_k1 (j := 1) hk (by decide) (by omega)) (by omega)).mp ?_)
  rintro r f2 ⟨rfl, hf2⟩
  rw [hf2]
  conv => whnf
  refine hC _ _ _ _ ((r_octet (d := d) hb (i32_k1 (j := 2) hk (by decide) (by omega)) (by omega)).mp ?_)
  rintro r f3 ⟨rfl, hf3⟩
  rw [hf3]
  conv => whnf
  refine hC _ _ _ _ ((r_octet (d := d) hb (i32_k1 (j := 3) hk (by decide) (by omega)) (by omega)).mp ?_)
  rintro r f4 ⟨rfl, hf4⟩
  rw [hf4]
  conv => whnf
  exact ⟨rfl, rfl⟩
theorem r_number3 (hb : (f.1 67 0).toInt = (b : Int)) (hk : kv.toInt = (k : Int)) (hl : b + k + 2 < 5400) : rfc th σ0 m (d + 2) 217 [.ref 0, .int kv] f (fun r f' => r = some (.int (w3 (oct f b) k)) ∧ f' = f) := by
  refine rf_go dt_217 40 [] dt_217_k (by decide +kernel) rfl ?_
  intro C J hC hJ
  conv => whnf
  refine hC _ _ _ _ ((r_octet (d := d) hb hk (by omega)).mp ?_)
  rintro r f1 ⟨rfl, hf1⟩
  rw [hf1]
  conv => whnf
  refine hC _ _ _ _ ((r_octet (d := d) hb (i32_k1 (j := 1) hk (by decide) (by omega)) (by omega)).mp ?_)
  rintro r f2 ⟨rfl, hf2⟩
  rw [hf2]
  conv => whnf
  refine hC _ _ _ _ ((r_octet (d := d) hb (i32_k1 (j := 2) hk (by decide) (by omega)) (by omega)).mp ?_)
  rintro r f3 ⟨rfl, hf3⟩
  rw [hf3]
  conv => whnf
  exact ⟨rfl, rfl⟩
theorem r_number8 (hb : (f.1 67 0).toInt = (b : Int)) (hk : kv.toInt = (k : Int)) (hl : b + k + 7 < 5400) : rfc th σ0 m (d + 3) 248 [.ref 0, .int kv] f (fun r f' => r = some (.long (w8 (oct f b) k)) ∧ f' = f) := by
  refine rf_go dt_248 40 [] dt_248_k (by decide +kernel) rfl ?_
  intro C J hC hJ
  conv => whnf
  refine hC _ _ _ _ ((r_number4 (d := d) hb hk (by omega)).mp ?_)
  rintro r f1 ⟨rfl, hf1⟩
  rw [hf1]
  conv => whnf
  refine hC _ _ _ _ ((r_number4 (d := d) hb (i32_k1 (j := 4) hk (by decide) (by omega)) (by omega)).mp ?_)
  rintro r f2 ⟨rfl, hf2⟩
  rw [hf2]
  conv => whnf
  exact ⟨rfl, rfl⟩
theorem r_sort {c : Int32} : rfc th σ0 m (d + 1) 225 [.int c] f (fun r f' => r = some (.int (Int32.ofNat (kdc c))) ∧ f' = f) := by
  refine rf_go dt_225 20 [] dt_225_k (by decide +kernel) rfl ?_
  intro C J hC hJ
  conv => whnf
  refine ⟨jx_swx_of (List.forall_mem_cons.mpr ⟨?_, List.forall_mem_cons.mpr ⟨?_, List.forall_mem_cons.mpr ⟨?_, List.forall_mem_cons.mpr ⟨?_, List.forall_mem_cons.mpr ⟨?_, List.forall_mem_cons.mpr ⟨?_, List.forall_mem_cons.mpr ⟨?_, List.forall_mem_cons.mpr ⟨?_, List.forall_mem_cons.mpr ⟨?_, List.forall_mem_cons.mpr ⟨?_, List.forall_mem_cons.mpr ⟨?_, List.forall_mem_cons.mpr ⟨?_, List.forall_mem_cons.mpr ⟨?_, List.forall_mem_cons.mpr ⟨?_, List.forall_mem_cons.mpr ⟨?_, List.forall_mem_cons.mpr ⟨?_, List.forall_mem_cons.mpr ⟨?_, List.forall_mem_cons.mpr ⟨?_, List.forall_mem_cons.mpr ⟨?_, List.forall_mem_cons.mpr ⟨?_, List.forall_mem_cons.mpr ⟨?_, List.forall_mem_cons.mpr ⟨?_, List.forall_mem_cons.mpr ⟨?_, List.forall_mem_cons.mpr ⟨?_, List.forall_mem_cons.mpr ⟨?_, List.forall_mem_cons.mpr ⟨?_, (fun q hq => absurd hq List.not_mem_nil)⟩⟩⟩⟩⟩⟩⟩⟩⟩⟩⟩⟩⟩⟩⟩⟩⟩⟩⟩⟩⟩⟩⟩⟩⟩⟩), ?_⟩
  · intro (hw : c = 257)
    conv => whnf
    rw [hw]
    exact ⟨rfl, rfl⟩
  · intro (hw : c = 258)
    conv => whnf
    rw [hw]
    exact ⟨rfl, rfl⟩
  · intro (hw : c = 263)
    conv => whnf
    rw [hw]
    exact ⟨rfl, rfl⟩
  · intro (hw : c = 264)
    conv => whnf
    rw [hw]
    exact ⟨rfl, rfl⟩
  · intro (hw : c = 266)
    conv => whnf
    rw [hw]
    exact ⟨rfl, rfl⟩
  · intro (hw : c = 268)
    conv => whnf
    rw [hw]
    exact ⟨rfl, rfl⟩
  · intro (hw : c = 269)
    conv => whnf
    rw [hw]
    exact ⟨rfl, rfl⟩
  · intro (hw : c = 273)
    conv => whnf
    rw [hw]
    exact ⟨rfl, rfl⟩
  · intro (hw : c = 278)
    conv => whnf
    rw [hw]
    exact ⟨rfl, rfl⟩
  · intro (hw : c = 279)
    conv => whnf
    rw [hw]
    exact ⟨rfl, rfl⟩
  · intro (hw : c = 283)
    conv => whnf
    rw [hw]
    exact ⟨rfl, rfl⟩
  · intro (hw : c = 285)
    conv => whnf
    rw [hw]
    exact ⟨rfl, rfl⟩
  · intro (hw : c = 293)
    conv => whnf
    rw [hw]
    exact ⟨rfl, rfl⟩
  · intro (hw : c = 296)
    conv => whnf
    rw [hw]
    exact ⟨rfl, rfl⟩
  · intro (hw : c = 415)
    conv => whnf
    rw [hw]
    exact ⟨rfl, rfl⟩
  · intro (hw : c = 416)
    conv => whnf
    rw [hw]
    exact ⟨rfl, rfl⟩
  · intro (hw : c = 421)
    conv => whnf
    rw [hw]
    exact ⟨rfl, rfl⟩
  · intro (hw : c = 422)
    conv => whnf
    rw [hw]
    exact ⟨rfl, rfl⟩
  · intro (hw : c = 431)
    conv => whnf
    rw [hw]
    exact ⟨rfl, rfl⟩
  · intro (hw : c = 436)
    conv => whnf
    rw [hw]
    exact ⟨rfl, rfl⟩
  · intro (hw : c = 437)
    conv => whnf
    rw [hw]
    exact ⟨rfl, rfl⟩
  · intro (hw : c = 443)
    conv => whnf
    rw [hw]
    exact ⟨rfl, rfl⟩
  · intro (hw : c = 444)
    conv => whnf
    rw [hw]
    exact ⟨rfl, rfl⟩
  · intro (hw : c = 446)
    conv => whnf
    rw [hw]
    exact ⟨rfl, rfl⟩
  · intro (hw : c = 448)
    conv => whnf
    rw [hw]
    exact ⟨rfl, rfl⟩
  · intro (hw : c = 450)
    conv => whnf
    rw [hw]
    exact ⟨rfl, rfl⟩
  · refine jx_swd_i (fun hno => ?_)
    conv => whnf
    have n257 : ¬ c = 257 := fun e => hno _ (List.mem_of_getElem? (i := 0) rfl) e
    have n258 : ¬ c = 258 := fun e => hno _ (List.mem_of_getElem? (i := 1) rfl) e
    have n263 : ¬ c = 263 := fun e => hno _ (List.mem_of_getElem? (i := 2) rfl) e
    have n264 : ¬ c = 264 := fun e => hno _ (List.mem_of_getElem? (i := 3) rfl) e
    have n266 : ¬ c = 266 := fun e => hno _ (List.mem_of_getElem? (i := 4) rfl) e
    have n268 : ¬ c = 268 := fun e => hno _ (List.mem_of_getElem? (i := 5) rfl) e
    have n269 : ¬ c = 269 := fun e => hno _ (List.mem_of_getElem? (i := 6) rfl) e
    have n273 : ¬ c = 273 := fun e => hno _ (List.mem_of_getElem? (i := 7) rfl) e
    have n278 : ¬ c = 278 := fun e => hno _ (List.mem_of_getElem? (i := 8) rfl) e
    have n279 : ¬ c = 279 := fun e => hno _ (List.mem_of_getElem? (i := 9) rfl) e
    have n283 : ¬ c = 283 := fun e => hno _ (List.mem_of_getElem? (i := 10) rfl) e
    have n285 : ¬ c = 285 := fun e => hno _ (List.mem_of_getElem? (i := 11) rfl) e
    have n293 : ¬ c = 293 := fun e => hno _ (List.mem_of_getElem? (i := 12) rfl) e
    have n296 : ¬ c = 296 := fun e => hno _ (List.mem_of_getElem? (i := 13) rfl) e
    have n415 : ¬ c = 415 := fun e => hno _ (List.mem_of_getElem? (i := 14) rfl) e
    have n416 : ¬ c = 416 := fun e => hno _ (List.mem_of_getElem? (i := 15) rfl) e
    have n421 : ¬ c = 421 := fun e => hno _ (List.mem_of_getElem? (i := 16) rfl) e
    have n422 : ¬ c = 422 := fun e => hno _ (List.mem_of_getElem? (i := 17) rfl) e
    have n431 : ¬ c = 431 := fun e => hno _ (List.mem_of_getElem? (i := 18) rfl) e
    have n436 : ¬ c = 436 := fun e => hno _ (List.mem_of_getElem? (i := 19) rfl) e
    have n437 : ¬ c = 437 := fun e => hno _ (List.mem_of_getElem? (i := 20) rfl) e
    have n443 : ¬ c = 443 := fun e => hno _ (List.mem_of_getElem? (i := 21) rfl) e
    have n444 : ¬ c = 444 := fun e => hno _ (List.mem_of_getElem? (i := 22) rfl) e
    have n446 : ¬ c = 446 := fun e => hno _ (List.mem_of_getElem? (i := 23) rfl) e
    have n448 : ¬ c = 448 := fun e => hno _ (List.mem_of_getElem? (i := 24) rfl) e
    have n450 : ¬ c = 450 := fun e => hno _ (List.mem_of_getElem? (i := 25) rfl) e
    have e : kdc c = 0 := by
      unfold kdc
      rw [if_neg (by simp only [not_or]; exact ⟨n263, n264, n296, n283, n293, n269, n444⟩), if_neg (by simp only [not_or]; exact ⟨n268, n258, n266, n278, n273, n285, n416, n415, n436, n450, n448, n422⟩), if_neg n421, if_neg n257, if_neg (by simp only [not_or]; exact ⟨n443, n437, n431, n446, n279⟩)]
    rw [e]
    exact ⟨rfl, rfl⟩
theorem r_isSize {s n : Nat} (hs : s ≤ 5) (hn : n < 2147483648) : rfc th σ0 m (d + 1) 226 [.int (Int32.ofNat s), .int (Int32.ofNat n)] f (fun r f' => r = some (.int (if okz s n = true then 1 else 0)) ∧ f' = f) := by
  have en : ∀ y : Nat, y < 2147483648 → (Int32.ofNat n = Int32.ofNat y ↔ n = y) := fun y hy => ⟨fun e => ofN_inj hn hy e, fun e => by rw [e]⟩
  have hc : s = 0 ∨ s = 1 ∨ s = 2 ∨ s = 3 ∨ s = 4 ∨ s = 5 := by omega
  refine rf_go dt_226 40 [] dt_226_k (by decide +kernel) rfl ?_
  intro C J hC hJ
  conv => whnf
  rcases hc with rfl | rfl | rfl | rfl | rfl | rfl
  · refine jx_yes (show ¬ Int32.ofNat 0 = 1 by decide) ?_
    conv => whnf
    refine jx_yes (show ¬ Int32.ofNat 0 = 2 by decide) ?_
    conv => whnf
    refine jx_yes (show ¬ Int32.ofNat 0 = 3 by decide) ?_
    conv => whnf
    refine jx_yes (show ¬ Int32.ofNat 0 = 4 by decide) ?_
    conv => whnf
    exact ⟨by decide, rfl, rfl⟩
  · refine jx_no (show ¬ ¬ Int32.ofNat 1 = 1 by decide) ?_
    conv => whnf
    refine ⟨fun (h1 : Int32.ofNat n < Int32.ofNat 1) => ?_, fun (h1 : ¬ Int32.ofNat n < Int32.ofNat 1) => ?_⟩
    · rw [nlt hn (by omega)] at h1
      conv => whnf
      rw [show okz 1 n = false from decide_eq_false (by omega)]
      exact ⟨by decide, rfl, rfl⟩
    · rw [nlt hn (by omega)] at h1
      conv => whnf
      refine ⟨fun (h2 : Int32.ofNat 40 < Int32.ofNat n) => ?_, fun (h2 : ¬ Int32.ofNat 40 < Int32.ofNat n) => ?_⟩
      · rw [nlt (by omega) hn] at h2
        conv => whnf
        rw [show okz 1 n = false from decide_eq_false (by omega)]
        exact ⟨by decide, rfl, rfl⟩
      · rw [nlt (by omega) hn] at h2
        conv => whnf
        rw [show okz 1 n = true from decide_eq_true (by omega)]
        exact ⟨by decide, rfl, rfl⟩
  · refine jx_yes (show ¬ Int32.ofNat 2 = 1 by decide) ?_
    conv => whnf
    refine jx_no (show ¬ ¬ Int32.ofNat 2 = 2 by decide) ?_
    conv => whnf
    refine ⟨fun (h1 : ¬ Int32.ofNat n = Int32.ofNat 4) => ?_, fun (h1 : ¬ ¬ Int32.ofNat n = Int32.ofNat 4) => ?_⟩
    · rw [en 4 (by omega)] at h1
      conv => whnf
      rw [show okz 2 n = false from decide_eq_false h1]
      exact ⟨by decide, rfl, rfl⟩
    · rw [en 4 (by omega)] at h1
      conv => whnf
      rw [show okz 2 n = true from decide_eq_true (Decidable.not_not.mp h1)]
      exact ⟨by decide, rfl, rfl⟩
  · refine jx_yes (show ¬ Int32.ofNat 3 = 1 by decide) ?_
    conv => whnf
    refine jx_yes (show ¬ Int32.ofNat 3 = 2 by decide) ?_
    conv => whnf
    refine jx_no (show ¬ ¬ Int32.ofNat 3 = 3 by decide) ?_
    conv => whnf
    refine ⟨fun (h1 : ¬ Int32.ofNat n = Int32.ofNat 8) => ?_, fun (h1 : ¬ ¬ Int32.ofNat n = Int32.ofNat 8) => ?_⟩
    · rw [en 8 (by omega)] at h1
      conv => whnf
      rw [show okz 3 n = false from decide_eq_false h1]
      exact ⟨by decide, rfl, rfl⟩
    · rw [en 8 (by omega)] at h1
      conv => whnf
      rw [show okz 3 n = true from decide_eq_true (Decidable.not_not.mp h1)]
      exact ⟨by decide, rfl, rfl⟩
  · refine jx_yes (show ¬ Int32.ofNat 4 = 1 by decide) ?_
    conv => whnf
    refine jx_yes (show ¬ Int32.ofNat 4 = 2 by decide) ?_
    conv => whnf
    refine jx_yes (show ¬ Int32.ofNat 4 = 3 by decide) ?_
    conv => whnf
    refine jx_no (show ¬ ¬ Int32.ofNat 4 = 4 by decide) ?_
    conv => whnf
    refine ⟨fun (h1 : ¬ Int32.ofNat n = Int32.ofNat 6) => ?_, fun (h1 : ¬ ¬ Int32.ofNat n = Int32.ofNat 6) => ?_⟩
    · rw [en 6 (by omega)] at h1
      conv => whnf
      rw [show okz 4 n = false from decide_eq_false h1]
      exact ⟨by decide, rfl, rfl⟩
    · rw [en 6 (by omega)] at h1
      conv => whnf
      rw [show okz 4 n = true from decide_eq_true (Decidable.not_not.mp h1)]
      exact ⟨by decide, rfl, rfl⟩
  · refine jx_yes (show ¬ Int32.ofNat 5 = 1 by decide) ?_
    conv => whnf
    refine jx_yes (show ¬ Int32.ofNat 5 = 2 by decide) ?_
    conv => whnf
    refine jx_yes (show ¬ Int32.ofNat 5 = 3 by decide) ?_
    conv => whnf
    refine jx_yes (show ¬ Int32.ofNat 5 = 4 by decide) ?_
    conv => whnf
    exact ⟨by decide, rfl, rfl⟩
theorem r_fault {w c : Int32} : rfc th σ0 m (d + 1) 224 [.ref 0, .int w, .int c] f (fun r f' => r = none ∧ f' = rf_ui (rf_ui f 74 0 w) 75 0 c) := by
  refine rf_go dt_224 20 [] dt_224_k (by decide +kernel) rfl ?_
  intro C J hC hJ
  conv => whnf
  exact ⟨rfl, rfl⟩
end JxRefread
