/-! THE PAIR tick: the reference -/
noncomputable def R_tpa (f : jx_F) (n a p : Nat) : jx_F := if lim f p ≤ f.1 1 0 then R_dropAll f n a p else f
noncomputable def R_tp (f : jx_F) (n a p : Nat) : jx_F := if (R_tpa f n a p).1 17 p ≤ (R_tpa f n a p).1 1 0 then R_ring (R_tpa f n a p) n a p else R_tpa f n a p
noncomputable def R_tpc (f : jx_F) (n a p : Nat) : Nat := (if lim f p ≤ f.1 1 0 then 1 else 0) + (if (R_tpa f n a p).1 17 p ≤ (R_tpa f n a p).1 1 0 then 1 else 0)
noncomputable def R_tpl (n a : Nat) : Nat → Nat → jx_F → Nat × jx_F
  | 0, _, f => (0, f)
  | r + 1, p, f => (R_tpc f n a p + (R_tpl n a r (p + 1) (R_tp f n a p)).1, (R_tpl n a r (p + 1) (R_tp f n a p)).2)
def R_ets (f : jx_F) (m s : Nat) : jx_F := R_forget (R_rsv f s) m s
def R_tsl : Nat → Nat → jx_F → Nat × jx_F
  | 0, _, f => (0, f)
  | r + 1, s, f => if f.1 48 s ≤ f.1 1 0 then (1 + (R_tsl r s (R_ets f (s + r + 1) s)).1, (R_tsl r s (R_ets f (s + r + 1) s)).2) else R_tsl r (s + 1) f
noncomputable def R_sec (f : jx_F) (n a : Nat) : Nat × jx_F := ((R_tpl n a n 0 f).1 + (R_tsl ((R_tpl n a n 0 f).2.1 40 0).toNatClampNeg 0 (R_tpl n a n 0 f).2).1, (R_tsl ((R_tpl n a n 0 f).2.1 40 0).toNatClampNeg 0 (R_tpl n a n 0 f).2).2)
noncomputable def R_tk (n a : Nat) : Nat → jx_F → Nat × jx_F
  | 0, f => (0, f)
  | r + 1, f => ((R_sec (rf_ui f 1 0 (f.1 1 0 + 1)) n a).1 + (R_tk n a r (R_sec (rf_ui f 1 0 (f.1 1 0 + 1)) n a).2).1, (R_tk n a r (R_sec (rf_ui f 1 0 (f.1 1 0 + 1)) n a).2).2)
/-- what a second leaves as it is -/
def FT (n a x : Nat) (f F : jx_F) : Prop := (∀ q j, R_askK q = false → ¬ (26 ≤ q ∧ q ≤ 33) → (j < n → ¬ (11 ≤ q ∧ q ≤ 25)) → ¬ (40 ≤ q ∧ q ≤ 48) → q ≠ 1 → F.1 q j = f.1 q j) ∧ (∀ u j, 54 ≤ u ∧ u ≤ 58 → a ≤ j → F.1 u j = f.1 u j) ∧ ∀ u j, ¬ (u = 53 ∧ j < a) → ¬ (u = 38 ∧ j < x) → ¬ (u = 45 ∨ u = 46) → F.2 u j = f.2 u j
section JxReftick
variable {th : Nat → Nat} {σ0 : jx_S} {mm d p c n a h x m s : Nat} {f f' F g : jx_F} {Q : Option Value → jx_F → Prop}
theorem FT.rf : FT n a x f f := ⟨fun _ _ _ _ _ _ _ => rfl, fun _ _ _ _ => rfl, fun _ _ _ _ _ => rfl⟩
theorem FT.tr (h : FT n a x f g) (h' : FT n a x g F) : FT n a x f F := ⟨fun q j h1 h2 h3 h4 h5 => (h'.1 q j h1 h2 h3 h4 h5).trans (h.1 q j h1 h2 h3 h4 h5), fun u j h1 h2 => (h'.2.1 u j h1 h2).trans (h.2.1 u j h1 h2), fun u j h1 h2 h3 => (h'.2.2 u j h1 h2 h3).trans (h.2.2 u j h1 h2 h3)⟩
theorem FR.ft (h : FR n a f F) : FT n a x f F := ⟨fun q j h1 h2 h3 _ _ => h.1 q j h1 h2 h3, h.2.1, fun u j h1 _ _ => h.2.2 u j h1⟩
theorem FR.mi (h : FR n a f F) (hM : MI f) : MI F := hM.of (h.1 35 0 rfl (by omega) (fun _ => by omega)) (h.1 40 0 rfl (by omega) (fun _ => by omega)) (fun s => h.1 44 s rfl (by omega) (fun _ => by omega)) (fun q j hq => h.2.2 q j (by omega))
theorem FR.now (h : FR n a f F) : F.1 1 0 = f.1 1 0 := h.1 1 0 rfl (by omega) (fun _ => by omega)
theorem FR.many (h : FR n a f F) : F.1 40 0 = f.1 40 0 := h.1 40 0 rfl (by omega) (fun _ => by omega)
/-- one PEER's turn -/
theorem PS.tp (hS : PS f n a) (hp : p < n) (h34 : (f.1 34 0).toInt = (h : Int)) (hh : h < 2147481000) : (PS (R_tpa f n a p) n a ∧ FR n a f (R_tpa f n a p) ∧ ∃ h1 : Nat, ((R_tpa f n a p).1 34 0).toInt = (h1 : Int) ∧ h1 < 2147482000) ∧ PS (R_tp f n a p) n a ∧ FR n a f (R_tp f n a p) ∧ ∃ h' : Nat, ((R_tp f n a p).1 34 0).toInt = (h' : Int) ∧ h ≤ h' ∧ h' ≤ h + 128 := by
  have A1 : PS (R_tpa f n a p) n a ∧ FR n a f (R_tpa f n a p) ∧ ∃ h1 : Nat, ((R_tpa f n a p).1 34 0).toInt = (h1 : Int) ∧ h ≤ h1 ∧ h1 ≤ h + 64 := by
    unfold R_tpa
    split
    · obtain ⟨r1, r2, r3, r4⟩ := hS.da hp h34 (by omega)
      exact ⟨r1, r4, ((R_dropAll f n a p).1 34 0).toInt.toNat, by omega, by omega, by omega⟩
    · exact ⟨hS, FR.rf, h, h34, Nat.le_refl _, by omega⟩
  obtain ⟨a1, a2, h1, a3, a4, a5⟩ := A1
  refine ⟨⟨a1, a2, h1, a3, by omega⟩, ?_⟩
  unfold R_tp
  split
  · obtain ⟨r1, r2, r3, r4⟩ := a1.ring hp a3 (by omega)
    exact ⟨r1, a2.tr r4, ((R_ring (R_tpa f n a p) n a p).1 34 0).toInt.toNat, by omega, by omega, by omega⟩
  · exact ⟨a1, a2, h1, a3, a4, by omega⟩
theorem PS.tpl : ∀ (r p : Nat) (f : jx_F) (h : Nat), PS f n a → p + r = n → (f.1 34 0).toInt = (h : Int) → h + 128 * r < 2147481000 → PS (R_tpl n a r p f).2 n a ∧ FR n a f (R_tpl n a r p f).2 ∧ ∃ h' : Nat, ((R_tpl n a r p f).2.1 34 0).toInt = (h' : Int) ∧ h ≤ h' ∧ h' ≤ h + 128 * r
  | 0, p, f, h, hS, hp, h34, hh => ⟨hS, FR.rf, h, h34, Nat.le_refl _, by omega⟩
  | r + 1, p, f, h, hS, hp, h34, hh => by
    obtain ⟨-, b1, b2, h1, b3, b4, b5⟩ := hS.tp (p := p) (by omega) h34 (by omega)
    obtain ⟨c1, c2, h2, c3, c4, c5⟩ := PS.tpl r (p + 1) (R_tp f n a p) h1 b1 (by omega) b3 (by omega)
    exact ⟨c1, b2.tr c2, h2, c3, by omega, by omega⟩
/-- the SESSIONS' turns -/
theorem PS.ses (hS : PS f n a) (ho : ∀ q j, ¬ (40 ≤ q ∧ q ≤ 48) → F.1 q j = f.1 q j) (hl : ∀ j, F.2 53 j = f.2 53 j) : PS F n a :=
  hS.of (hS.1.1.of (ho 6 0 (by omega)) (fun c => ho 33 c (by omega)) (fun c => ho 32 c (by omega))) (fun q j hq => ho q j (by simp only [List.mem_cons, List.not_mem_nil, or_false] at hq; omega)) hl (fun p hp => (hS.2.2.2.2.1 p hp).of (ho 22 p (by omega)) (ho 15 p (by omega)) (ho 19 p (by omega))) (by rw [ho 34 0 (by omega)]; exact Int.le_refl _)
theorem ets_o {q j : Nat} (hq : ¬ (40 ≤ q ∧ q ≤ 48)) : (R_ets f m s).1 q j = f.1 q j := by
  unfold R_ets
  rw [fg_o hq]
  rfl
theorem ets_l {q j : Nat} (hq : ¬ (q = 45 ∨ q = 46)) (h38 : ¬ (q = 38 ∧ j = R_acn f s)) : (R_ets f m s).2 q j = f.2 q j := by
  unfold R_ets
  rw [fg_l hq]
  exact rf_ul_ne h38
theorem tsl_all : ∀ (r s : Nat) (f : jx_F), (f.1 40 0).toInt = ((s + r : Nat) : Int) → MI f → (f.1 35 0).toInt = (x : Int) → MI (R_tsl r s f).2 ∧ (∀ q j, ¬ (40 ≤ q ∧ q ≤ 48) → (R_tsl r s f).2.1 q j = f.1 q j) ∧ ∀ q j, ¬ (q = 45 ∨ q = 46) → ¬ (q = 38 ∧ j < x) → (R_tsl r s f).2.2 q j = f.2 q j
  | 0, s, f, hm, hM, hx => ⟨hM, fun _ _ _ => rfl, fun _ _ _ _ => rfl⟩
  | r + 1, s, f, hm, hM, hx => by
    unfold R_tsl
    split
    · obtain ⟨x', x1, x2, x3, x4⟩ := hM.ac (m := s + (r + 1)) hm (by omega : s < s + (r + 1))
      have hM' := hM.ets (m := s + (r + 1)) hm (by omega : s < s + (r + 1))
      rw [show s + (r + 1) = s + r + 1 by omega] at hM'
      obtain ⟨i1, i2, i3⟩ := tsl_all r s (R_ets f (s + r + 1) s) (by
        unfold R_ets
        rw [fg_40]
        exact i32_59 (n := s + r) (by show (f.1 40 0).toInt = _; rw [hm]; omega)) hM' (by rw [ets_o (by omega)]; exact hx)
      exact ⟨i1, fun q j hq => (i2 q j hq).trans (ets_o hq), fun q j z1 z2 => (i3 q j z1 z2).trans (ets_l z1 (by omega))⟩
    · exact tsl_all r (s + 1) f (by rw [hm]; omega) hM hx
/-- one second -/
theorem PS.sec (hS : PS f n a) (hM : MI f) (hx : (f.1 35 0).toInt = (x : Int)) (h34 : (f.1 34 0).toInt = (h : Int)) (hh : h < 2147480000) : PS (R_sec f n a).2 n a ∧ MI (R_sec f n a).2 ∧ FT n a x f (R_sec f n a).2 ∧ (R_sec f n a).2.1 1 0 = f.1 1 0 ∧ ∃ h' : Nat, ((R_sec f n a).2.1 34 0).toInt = (h' : Int) ∧ h ≤ h' ∧ h' ≤ h + 512 := by
  have hn4 := hS.1.2.2.1
  obtain ⟨b1, b2, h1, b3, b4, b5⟩ := PS.tpl n 0 f h hS (by omega) h34 (by omega)
  obtain ⟨g, hg⟩ : ∃ g, g = (R_tpl n a n 0 f).2 := ⟨_, rfl⟩
  rw [← hg] at b1 b2 b3
  have hMg := b2.mi hM
  obtain ⟨⟨-, m, -, m1, -⟩, -⟩ := id hMg
  have gx : (g.1 35 0).toInt = (x : Int) := by rw [b2.1 35 0 rfl (by omega) (fun _ => by omega)]; exact hx
  have eF : (R_sec f n a).2 = (R_tsl m 0 g).2 := by unfold R_sec; rw [← hg, i32_nat m1]
  obtain ⟨c1, c2, c3⟩ := tsl_all m 0 g (by rw [m1]; omega) hMg gx
  rw [eF]
  refine ⟨b1.ses c2 (fun j => c3 53 j (by omega) (by omega)), c1, b2.ft.tr ⟨fun q j _ _ _ z _ => c2 q j z, fun u j z _ => c2 u j (by omega), fun u j _ z1 z2 => c3 u j z2 z1⟩, by rw [c2 1 0 (by omega)]; exact b2.now, h1, by rw [c2 34 0 (by omega)]; exact b3, b4, by omega⟩
/-- nothing is due -/
def idle (f : jx_F) (n : Nat) (t : Int32) : Prop := (∀ p, p < n → t < lim f p ∧ t < f.1 17 p) ∧ ∀ s : Nat, (s : Int) < (f.1 40 0).toInt → t < f.1 48 s
theorem tpl_idle (hi : idle f n (f.1 1 0)) : ∀ r p, p + r = n → R_tpl n a r p f = (0, f)
  | 0, _, _ => rfl
  | r + 1, p, hp => by
    obtain ⟨i1, i2⟩ := hi.1 p (by omega)
    have e1 : R_tpa f n a p = f := by unfold R_tpa; rw [if_neg (Int32.not_le.mpr i1)]
    have e2 : R_tp f n a p = f := by unfold R_tp; rw [e1, if_neg (Int32.not_le.mpr i2)]
    have e3 : R_tpc f n a p = 0 := by unfold R_tpc; rw [e1, if_neg (Int32.not_le.mpr i1), if_neg (Int32.not_le.mpr i2)]
    unfold R_tpl
    rw [e2, e3, tpl_idle hi r (p + 1) (by omega)]
    rfl
theorem tsl_idle (hi : idle f n (f.1 1 0)) : ∀ r s : Nat, ((s + r : Nat) : Int) ≤ (f.1 40 0).toInt → R_tsl r s f = (0, f)
  | 0, _, _ => rfl
  | r + 1, s, hs => by
    unfold R_tsl
    rw [if_neg (Int32.not_le.mpr (hi.2 s (by omega))), tsl_idle hi r (s + 1) (by omega)]
theorem sec_idle (hi : idle f n (f.1 1 0)) : R_sec f n a = (0, f) := by
  unfold R_sec
  rw [tpl_idle hi n 0 (by omega)]
  show (0 + (R_tsl (f.1 40 0).toNatClampNeg 0 f).1, (R_tsl (f.1 40 0).toNatClampNeg 0 f).2) = _
  rcases Int.lt_or_le (f.1 40 0).toInt 0 with z | z
  · have : (f.1 40 0).toNatClampNeg = 0 := by
      show (f.1 40 0).toInt.toNat = 0
      omega
    rw [this]
    rfl
  · rw [tsl_idle hi (f.1 40 0).toNatClampNeg 0 (by show ((0 + (f.1 40 0).toInt.toNat : Nat) : Int) ≤ _; omega)]
    rfl
theorem idle.u {t y : Int32} (h : idle f n t) : idle (rf_ui f 1 0 y) n t := by
  refine ⟨fun p hp => ?_, fun s hs => ?_⟩
  · have e : lim (rf_ui f 1 0 y) p = lim f p := by unfold lim; rw [rf_ui_ne (by omega), rf_ui_ne (by omega)]
    rw [e, rf_ui_ne (by omega)]
    exact h.1 p hp
  · rw [rf_ui_ne (by omega)] at hs ⊢
    exact h.2 s hs
theorem tk_s {r : Nat} : R_tk n a (r + 1) f = ((R_sec (rf_ui f 1 0 (f.1 1 0 + 1)) n a).1 + (R_tk n a r (R_sec (rf_ui f 1 0 (f.1 1 0 + 1)) n a).2).1, (R_tk n a r (R_sec (rf_ui f 1 0 (f.1 1 0 + 1)) n a).2).2) := rfl
/-- seconds at which nothing is due change nothing -/
theorem tk_idle (r : Nat) : ∀ (j : Nat) (f : jx_F), (∀ i : Nat, 1 ≤ i → i ≤ j → idle f n (f.1 1 0 + Int32.ofNat i)) → R_tk n a (j + r) f = R_tk n a r (rf_ui f 1 0 (f.1 1 0 + Int32.ofNat j))
  | 0, f, _ => by
    rw [Nat.zero_add, show f.1 1 0 + Int32.ofNat 0 = f.1 1 0 from Int32.add_zero _, rf_ui_id]
  | j + 1, f, h => by
    have h1 := (h 1 (by omega) (by omega)).u (y := f.1 1 0 + 1)
    have e1 : R_sec (rf_ui f 1 0 (f.1 1 0 + 1)) n a = (0, rf_ui f 1 0 (f.1 1 0 + 1)) := sec_idle (by rw [rf_ui_eq]; exact h1)
    rw [show j + 1 + r = (j + r) + 1 by omega]
    rw [tk_s, e1]
    have ea : ∀ i : Nat, f.1 1 0 + 1 + Int32.ofNat i = f.1 1 0 + Int32.ofNat (i + 1) := fun i => by
      rw [Nat.add_comm i 1, Int32.ofNat_add, ← Int32.add_assoc]
      rfl
    have ih := tk_idle r j (rf_ui f 1 0 (f.1 1 0 + 1)) (fun i i1 i2 => by
      rw [rf_ui_eq, ea]
      exact (h (i + 1) (by omega) (by omega)).u)
    rw [rf_ui_eq, ea, rf_ui_same] at ih
    show (0 + (R_tk n a (j + r) (rf_ui f 1 0 (f.1 1 0 + 1))).1, (R_tk n a (j + r) (rf_ui f 1 0 (f.1 1 0 + 1))).2) = _
    rw [ih, Nat.zero_add]
theorem i32_cnt {x : Int32} {k l : Nat} : x + Int32.ofNat k + Int32.ofNat l = x + Int32.ofNat (k + l) := by
  rw [Int32.ofNat_add, Int32.add_assoc]
theorem lim_i {p : Nat} (hS : PS f n a) (hp : p < n) {t : Nat} (ht : (f.1 1 0).toInt = (t : Int)) (ht2 : t < 2147483647) : lim f p ≤ f.1 1 0 ↔ ((1 ≤ f.1 11 p ∧ f.1 11 p ≤ 4) ∨ f.1 11 p = 7) ∧ f.1 12 p ≤ f.1 1 0 := by
  obtain ⟨st, -, -, -, ⟨t11, t11'⟩, -⟩ := hS.2.2.1 p hp
  have e : f.1 11 p = Int32.ofNat st := i32_eq t11 (by omega)
  have hM : ¬ (2147483647 : Int32) ≤ f.1 1 0 := by
    rw [Int32.le_iff_toInt_le, ht, show (2147483647 : Int32).toInt = 2147483647 by decide]
    omega
  unfold lim
  rw [e]
  have hc : st = 0 ∨ st = 1 ∨ st = 2 ∨ st = 3 ∨ st = 4 ∨ st = 5 ∨ st = 6 ∨ st = 7 := by omega
  rcases hc with rfl | rfl | rfl | rfl | rfl | rfl | rfl | rfl
  · rw [if_pos (by decide)]; exact ⟨fun z => absurd z hM, fun z => absurd z.1 (by decide)⟩
  · rw [if_neg (by decide)]; exact ⟨fun z => ⟨by decide, z⟩, fun z => z.2⟩
  · rw [if_neg (by decide)]; exact ⟨fun z => ⟨by decide, z⟩, fun z => z.2⟩
  · rw [if_neg (by decide)]; exact ⟨fun z => ⟨by decide, z⟩, fun z => z.2⟩
  · rw [if_neg (by decide)]; exact ⟨fun z => ⟨by decide, z⟩, fun z => z.2⟩
  · rw [if_pos (by decide)]; exact ⟨fun z => absurd z hM, fun z => absurd z.1 (by decide)⟩
  · rw [if_pos (by decide)]; exact ⟨fun z => absurd z hM, fun z => absurd z.1 (by decide)⟩
  · rw [if_neg (by decide)]; exact ⟨fun z => ⟨by decide, z⟩, fun z => z.2⟩
end JxReftick
