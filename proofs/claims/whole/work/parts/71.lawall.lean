/-! THE LAW FROM ITS BEGINNING TO ITS END -/
theorem jx_swx_of {x : Int32} {K : Nat → Prop} : ∀ {sw : List (Int32 × Nat)}, (∀ q ∈ sw, x = q.1 → K q.2) → jx_swx sw x K
  | [], _ => trivial
  | (k, t) :: r, h => ⟨fun e => h (k, t) (List.mem_cons_self ..) e, jx_swx_of (fun q hq => h q (List.mem_cons_of_mem _ hq))⟩
theorem jx_swd_to {x : Int32} {P : Prop} (h : P) : ∀ {sw : List (Int32 × Nat)}, jx_swd sw x P
  | [] => h
  | (_, _) :: _ => fun _ => jx_swd_to h
section JxLawall
variable {th : Nat → Nat} {b x m : Nat} {xl : List Int32} {σ : jx_S} {i : Int32} {k : Nat} {Q : Option Value → jx_S → Prop}
theorem law_1026 (hq : Q (some (.int 1)) σ) : law_J th b x m 1026 i σ Q := by
  refine cl_at dtl_t 10 [] dtl_t_k ?_
  intro C J hC hJ2
  conv => whnf
  exact ⟨Or.inr rfl, hq⟩
theorem law_1020 (h : law_J th b x m 18 (i + Int32.ofInt 11) σ Q) : law_J th b x m 1020 i σ Q := by
  refine cl_at dtl_t 10 [(18, [0, 1, 2, 3])] dtl_t_k ?_
  intro C J hC hJ2
  conv => whnf
  exact hJ2 _ _ _ _ h
theorem law_al (hb : σ.1 b = some (jx_ci xl)) : jx_al σ b = some (Int32.ofNat xl.length) := by
  unfold jx_al
  rw [hb]
  rfl
theorem i32_ofNat {n : Nat} (h : n < 2147483648) : (Int32.ofNat n).toInt = (n : Int) := nI_toInt h
theorem law_head {P : jx_S → Prop} (hb : σ.1 b = some (jx_ci xl)) (hx : jx_isC σ x 0 = true) (hi : i.toInt = ((11 * k : Nat) : Int)) (hL : xl.length ≤ 5632) (hend : ¬ 11 * k + 11 ≤ xl.length → Q (some (.int 1)) σ) (hp : 11 * k + 11 ≤ xl.length → lawp th b x m xl σ P) (hskip : 11 * k + 11 ≤ xl.length → P σ) (hJ : 11 * k + 11 ≤ xl.length → ∀ σ2, P σ2 → law_J th b x m 1020 i σ2 Q) (h0 : 11 * k ≤ 5632) : law_J th b x m 18 i σ Q := by
  refine cl_at dtl_h 60 [(144, [0, 1, 2, 3]), (167, [0, 1, 2, 3]), (180, [0, 1, 2, 3]), (219, [0, 1, 2, 3]), (242, [0, 1, 2, 3]), (255, [0, 1, 2, 3]), (304, [0, 1, 2, 3]), (507, [0, 1, 2, 3]), (530, [0, 1, 2, 3]), (563, [0, 1, 2, 3]), (586, [0, 1, 2, 3]), (599, [0, 1, 2, 3]), (622, [0, 1, 2, 3]), (645, [0, 1, 2, 3]), (678, [0, 1, 2, 3]), (711, [0, 1, 2, 3]), (804, [0, 1, 2, 3]), (868, [0, 1, 2, 3]), (881, [0, 1, 2, 3]), (914, [0, 1, 2, 3]), (938, [0, 1, 2, 3]), (961, [0, 1, 2, 3]), (994, [0, 1, 2, 3]), (1007, [0, 1, 2, 3]), (1020, [0, 1, 2, 3]), (1026, [0, 1, 2, 3])] dtl_h_k ?_
  intro C J hC hJ2
  conv => whnf
  refine ⟨_, law_al hb, ?_⟩
  conv => whnf
  have hs : (Int32.ofNat xl.length - 11).toInt = (xl.length : Int) - 11 := i32_sub (i32_ofNat (by omega)) (by decide) (by omega) (by omega)
  refine ⟨fun (h1 : Int32.ofNat xl.length - 11 < i) => ?_, fun (h1 : ¬ Int32.ofNat xl.length - 11 < i) => ?_⟩
  · rw [Int32.lt_iff_toInt_lt, hs, hi] at h1
    exact hJ2 _ _ _ _ (law_1026 (hend (by omega)))
  · rw [Int32.lt_iff_toInt_lt, hs, hi] at h1
    have hk : 11 * k + 11 ≤ xl.length := by omega
    have hp := hp hk
    have hJ := hJ hk
    conv => whnf
    refine ⟨_, law_ild (n := 11 * k) hb hi (by omega), ?_⟩
    conv => whnf
    refine ⟨jx_swx_of ?_, jx_swd_to ?_⟩
    · refine List.forall_mem_cons.mpr ⟨?_, List.forall_mem_cons.mpr ⟨?_, List.forall_mem_cons.mpr ⟨?_, List.forall_mem_cons.mpr ⟨?_, List.forall_mem_cons.mpr ⟨?_, List.forall_mem_cons.mpr ⟨?_, List.forall_mem_cons.mpr ⟨?_, List.forall_mem_cons.mpr ⟨?_, List.forall_mem_cons.mpr ⟨?_, List.forall_mem_cons.mpr ⟨?_, List.forall_mem_cons.mpr ⟨?_, List.forall_mem_cons.mpr ⟨?_, List.forall_mem_cons.mpr ⟨?_, List.forall_mem_cons.mpr ⟨?_, List.forall_mem_cons.mpr ⟨?_, List.forall_mem_cons.mpr ⟨?_, List.forall_mem_cons.mpr ⟨?_, List.forall_mem_cons.mpr ⟨?_, List.forall_mem_cons.mpr ⟨?_, List.forall_mem_cons.mpr ⟨?_, List.forall_mem_cons.mpr ⟨?_, List.forall_mem_cons.mpr ⟨?_, List.forall_mem_cons.mpr ⟨?_, List.forall_mem_cons.mpr ⟨?_, (fun q hq => absurd hq List.not_mem_nil)⟩⟩⟩⟩⟩⟩⟩⟩⟩⟩⟩⟩⟩⟩⟩⟩⟩⟩⟩⟩⟩⟩⟩⟩
      · intro _
        conv => whnf
        exact hJ2 _ _ _ _ (law_0 hb hx hi hk hL (hp.1) hJ)
      · intro _
        conv => whnf
        exact hJ2 _ _ _ _ (law_1 hb hx hi hk hL (hp.2.1) hJ)
      · intro _
        conv => whnf
        exact hJ2 _ _ _ _ (law_2 hb hx hi hk hL (hp.2.2.1) hJ)
      · intro _
        conv => whnf
        exact hJ2 _ _ _ _ (law_3 hb hx hi hk hL (hp.2.2.2.1) hJ)
      · intro _
        conv => whnf
        exact hJ2 _ _ _ _ (law_4 hb hx hi hk hL (hp.2.2.2.2.1) hJ)
      · intro _
        conv => whnf
        exact hJ2 _ _ _ _ (law_5 hb hx hi hk hL (hp.2.2.2.2.2.1) hJ)
      · intro _
        conv => whnf
        exact hJ2 _ _ _ _ (law_6 hb hx hi hk hL (hp.2.2.2.2.2.2.1) hJ)
      · intro _
        conv => whnf
        exact hJ2 _ _ _ _ (law_7 hb hx hi hk hL (hp.2.2.2.2.2.2.2.1) hJ)
      · intro _
        conv => whnf
        exact hJ2 _ _ _ _ (law_8 hb hx hi hk hL (hp.2.2.2.2.2.2.2.2.1) hJ)
      · intro _
        conv => whnf
        exact hJ2 _ _ _ _ (law_9 hb hx hi hk hL (hp.2.2.2.2.2.2.2.2.2.1) hJ)
      · intro _
        conv => whnf
        exact hJ2 _ _ _ _ (law_10 hb hx hi hk hL (hp.2.2.2.2.2.2.2.2.2.2.1) hJ)
      · intro _
        conv => whnf
        exact hJ2 _ _ _ _ (law_11 hb hx hi hk hL (hp.2.2.2.2.2.2.2.2.2.2.2.1) hJ)
      · intro _
        conv => whnf
        exact hJ2 _ _ _ _ (law_12 hb hx hi hk hL (hp.2.2.2.2.2.2.2.2.2.2.2.2.1) hJ)
      · intro _
        conv => whnf
        exact hJ2 _ _ _ _ (law_13 hb hx hi hk hL (hp.2.2.2.2.2.2.2.2.2.2.2.2.2.1) hJ)
      · intro _
        conv => whnf
        exact hJ2 _ _ _ _ (law_14 hb hx hi hk hL (hp.2.2.2.2.2.2.2.2.2.2.2.2.2.2.1) hJ)
      · intro _
        conv => whnf
        exact hJ2 _ _ _ _ (law_15 hb hx hi hk hL (hp.2.2.2.2.2.2.2.2.2.2.2.2.2.2.2.1) hJ)
      · intro _
        conv => whnf
        exact hJ2 _ _ _ _ (law_16 hb hx hi hk hL (hp.2.2.2.2.2.2.2.2.2.2.2.2.2.2.2.2.1) hJ)
      · intro _
        conv => whnf
        exact hJ2 _ _ _ _ (law_17 hb hx hi hk hL (hp.2.2.2.2.2.2.2.2.2.2.2.2.2.2.2.2.2.1) hJ)
      · intro _
        conv => whnf
        exact hJ2 _ _ _ _ (law_18 hb hx hi hk hL (hp.2.2.2.2.2.2.2.2.2.2.2.2.2.2.2.2.2.2.1) hJ)
      · intro _
        conv => whnf
        exact hJ2 _ _ _ _ (law_19 hb hx hi hk hL (hp.2.2.2.2.2.2.2.2.2.2.2.2.2.2.2.2.2.2.2.1) hJ)
      · intro _
        conv => whnf
        exact hJ2 _ _ _ _ (law_20 hb hx hi hk hL (hp.2.2.2.2.2.2.2.2.2.2.2.2.2.2.2.2.2.2.2.2.1) hJ)
      · intro _
        conv => whnf
        exact hJ2 _ _ _ _ (law_21 hb hx hi hk hL (hp.2.2.2.2.2.2.2.2.2.2.2.2.2.2.2.2.2.2.2.2.2.1) hJ)
      · intro _
        conv => whnf
        exact hJ2 _ _ _ _ (law_22 hb hx hi hk hL (hp.2.2.2.2.2.2.2.2.2.2.2.2.2.2.2.2.2.2.2.2.2.2.1) hJ)
      · intro _
        conv => whnf
        exact hJ2 _ _ _ _ (law_23 hb hx hi hk hL (hp.2.2.2.2.2.2.2.2.2.2.2.2.2.2.2.2.2.2.2.2.2.2.2) hJ)
    · exact hJ2 _ _ _ _ (hJ _ (hskip hk))
theorem law_loop {Inv : Nat → jx_S → Prop} (hL : xl.length ≤ 5632) (hI : ∀ k σ, Inv k σ → σ.1 b = some (jx_ci xl) ∧ jx_isC σ x 0 = true) (hP : ∀ k σ, Inv k σ → 11 * k + 11 ≤ xl.length → lawp th b x m xl σ (Inv (k + 1))) (hS : ∀ k σ, Inv k σ → 11 * k + 11 ≤ xl.length → Inv (k + 1) σ) (hQ : ∀ k σ, Inv k σ → 11 * k ≤ xl.length → Q (some (.int 1)) σ) :
    ∀ (r k : Nat) (i : Int32) (σ : jx_S), xl.length ≤ 11 * k + r → 11 * k ≤ xl.length → i.toInt = ((11 * k : Nat) : Int) → Inv k σ → law_J th b x m 18 i σ Q := by
  intro r
  induction r with
  | zero =>
    intro k i σ hr hk hi hV
    obtain ⟨hb, hx⟩ := hI k σ hV
    exact law_head (P := Inv (k + 1)) hb hx hi hL (fun _ => hQ k σ hV hk) (fun h => hP k σ hV h) (fun h => hS k σ hV h) (fun h => by omega) (by omega)
  | succ r ih =>
    intro k i σ hr hk hi hV
    obtain ⟨hb, hx⟩ := hI k σ hV
    refine law_head (P := Inv (k + 1)) hb hx hi hL (fun _ => hQ k σ hV hk) (fun h => hP k σ hV h) (fun h => hS k σ hV h) (fun h σ2 h2 => law_1020 (ih (k + 1) _ σ2 (by omega) (by omega) ?_ h2)) (by omega)
    rw [i32_add (c := 11) hi (by decide) (by omega) (by omega)]
    omega
end JxLawall
