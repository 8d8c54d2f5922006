/-! THE INTERPRETER is right: a call -/
theorem jx_nl16 {j : Nat} (h : j < 282) : tb_nl j ≤ 16 := by
  have := List.all_eq_true.mp jx_mnl _ (jx_q_in h).1
  exact of_decide_eq_true this
theorem jx_take {st : List Value} {n : Nat} (h : n ≤ st.length) : st = (st.take n).reverse.reverse ++ st.drop n ∧ (st.take n).reverse.length = n := by
  refine ⟨by rw [List.reverse_reverse, List.take_append_drop], by simp; omega⟩
section JxClOk
variable {p : Program} {l : Launch} {e : Env} {R : Room} {s : State} {m : MethodId} {args : Array Value} {below : List Frame} {meth : Method} {c : Code} {H : Heap} {locs : List Loc} {cells slots : Nat} {Q : State → Prop}
variable {th : Nat → Nat} {D : va_G} {dA : Nat → ClassId} {base : Nat} {K : Nat → Option jx_E} {σ σ' : jx_S} {i pc len d : Nat} {ls : Array Slot} {st rest as : List Value} {r : Option Value}
theorem jx_recv (hK : va_K D tb_cl (jx_tys dA) s) (hc : jx_Cst base K s) (hR : jx_Rep D dA base K σ H) {b ci : Nat} {nm : String} (hci : ci < 13) (hn : tb_Rn ci = nm) (h : jx_isC σ b ci = true) : ∃ cell : Cell, H[b]? = some cell ∧ cell.vm.isStatics = false ∧ s.vm.findClass nm = some cell.cls := by
  unfold jx_isC at h
  split at h
  · rename_i c' fs hb
    simp only [decide_eq_true_eq] at h
    subst h
    obtain ⟨-, hat⟩ := hR.obj hc hb
    obtain ⟨q, hq, hq1⟩ := jx_cl13 hci
    have := va_recv hK (jx_P1 hat) (q0 := 0) hq rfl
    rw [hq1, hn] at this
    exact this
  · cases h
set_option maxHeartbeats 8000000 in
theorem jx_cl_ok (C0 : jx_Cx p s m args c i) (hml : c.maxLocals = ls.size) (hKx : jx_Kx th D dA base K s) (hR : jx_Rep D dA base K σ H) (hS : va_S (jx_A base) s.heap H locs) (hfr : d + 2 ≤ R.frames) (hlo : 40 * (d + 2) ≤ R.locals) {ins : Instr} {j : Nat} (h : jx_cl i ins len st σ = some (j, as, rest)) (hM : jx_Met l th D dA base K d j as σ r σ') (hcells : cells + (σ'.2.1 - σ.2.1) ≤ R.cells) (hslots : slots + (σ'.2.2 - σ.2.2) ≤ R.slots) (hdg : decode (tb_code i) pc = .ok (ins, len))
    (kk : ∀ (H1 : Heap) (locs1 : List Loc), jx_Rep D dA base K σ' H1 → va_S (jx_A base) s.heap H1 locs1 → W p l e R s m args below meth c H1 locs1 (cells + (σ'.2.1 - σ.2.1)) (slots + (σ'.2.2 - σ.2.2)) Q (F0 m (pc + len) ls (r.toList ++ rest))) : W p l e R s m args below meth c H locs cells slots Q (F0 m pc ls st) := by
  obtain ⟨hx, hb, hown, hts⟩ := C0
  obtain ⟨hK, hN, hFw, -, -, hc⟩ := id hKx
  have hPc : ∀ (as : List Value) (U : State), U.heap = H → s.WarmedH U.vm → jx_Pc th D dA base K as σ as.toArray U := fun as U hU hW => ⟨rfl, hKx.go hW (fun q h1 h2 => by rw [hU]; exact hS.2.1 q h1 h2), by rw [hU]; exact hR⟩
  unfold jx_Met at hM
  have room : ∀ {j : Nat}, j < 282 → (jx_rm d (σ'.2.1 - σ.2.1) (σ'.2.2 - σ.2.2)).frames + 1 ≤ R.frames ∧ 8 + (tb_nl j + 11) + (jx_rm d (σ'.2.1 - σ.2.1) (σ'.2.2 - σ.2.2)).locals ≤ R.locals := by
    intro j hj
    have := jx_nl16 hj
    refine ⟨by show d + 1 + 1 ≤ _; omega, by show 8 + (tb_nl j + 11) + 40 * (d + 1) ≤ _; omega⟩
  unfold jx_cl at h
  simp only at h
  split at h
  · rename_i idx
    split at h
    · rename_i hl
      subst hl
      obtain ⟨q, hf, h⟩ := Option.bind_eq_some_iff.mp h
      obtain ⟨kd, j', n, ci⟩ := q
      simp only at h
      split at h
      · rename_i hh
        obtain ⟨hkd, hn⟩ := hh
        obtain ⟨hj, hpl, hnp, hini, hI⟩ := jx_IF_of hf
        split at h
        · rename_i h2
          subst h2
          simp at hkd
        · split at h
          · rename_i b r' hdr
            split at h
            · rename_i hcnd
              cases h
              obtain ⟨hsm, hcnd⟩ := hcnd
              obtain ⟨hst, hln⟩ := jx_take hn
              rw [hdr] at hst
              obtain ⟨-, -, hn1, hn2⟩ := jx_mK hj
              have hcd : (kd = 0 ∨ kd = 3 ∨ kd = 4) ∧ jx_isC σ b ci = true := by
                rcases hcnd with z | z
                · simp at hkd; omega
                · exact z
              rcases hI with ⟨rfl, w1, w2, w3, w4, w5⟩ | ⟨rfl, -⟩ | ⟨rfl, -⟩ | ⟨rfl, -⟩ | ⟨rfl, w1, w2, w3, w4, w5⟩ | ⟨rfl, -⟩
              · refine jx_after (va_runV (As := (st.take n).reverse) (rest := rest) ⟨hx, hb, hml, hown, hts⟩ hM (cwV n hts (jx_consG w1 (jx_consG w3 (jx_consG w2 (jx_consG hini (jx_wsG hj))))) rfl rfl rfl ⟨rfl, hn1, hn2, hnp⟩ (room hj)) ⟨jx_blind, jx_recv hK hc hR w5 w4 hcd.2, hPc _⟩ rfl hln rfl hst (lv_room hsm) hdg ⟨hcells, hslots⟩) hS kk
              · simp at hkd
              · simp at hkd
              · simp at hkd
              · refine jx_after (va_runVN (As := (st.take n).reverse) (rest := rest) ⟨hx, hb, hml, hown, hts⟩ hM ⟨va_cnB n hts (jx_wsG hj) rfl rfl rfl (hN _ w1) (hts _ hini) ⟨hn1, hn2, hnp⟩ (room hj), hts _ w3, hts _ w2⟩ ⟨jx_blind, jx_recv hK hc hR w5 w4 hcd.2, hPc _⟩ rfl hln rfl hst (lv_room hsm) hdg ⟨hcells, hslots⟩) hS kk
              · simp at hkd
            · cases h
          · cases h
      · cases h
    · cases h
  · rename_i idx
    split at h
    · rename_i hl
      subst hl
      obtain ⟨q, hf, h⟩ := Option.bind_eq_some_iff.mp h
      obtain ⟨kd, j', n, ci⟩ := q
      simp only at h
      split at h
      · rename_i hh
        obtain ⟨hkd, hn⟩ := hh
        obtain ⟨hj, hpl, hnp, hini, hI⟩ := jx_IF_of hf
        split at h
        · rename_i h2
          subst h2
          simp at hkd
        · split at h
          · rename_i b r' hdr
            split at h
            · rename_i hcnd
              cases h
              obtain ⟨hsm, hcnd⟩ := hcnd
              obtain ⟨hst, hln⟩ := jx_take hn
              rw [hdr] at hst
              obtain ⟨-, -, hn1, hn2⟩ := jx_mK hj
              have hret : tb_ret j = none := by
                rcases hcnd with z | z
                · exact z.2
                · simp at hkd; omega
              have hwe : jx_ws j = Cond.code (tb_y j) (tb_code j) (tb_nl j) none :: jx_T := by unfold jx_ws; rw [hret]
              rcases hI with ⟨rfl, -⟩ | ⟨rfl, w1, w2, w3⟩ | ⟨rfl, -⟩ | ⟨rfl, -⟩ | ⟨rfl, -⟩ | ⟨rfl, w1, w2, w3⟩
              · simp at hkd
              · refine jx_after (va_runI (As := (st.take n).reverse) (rest := rest) ⟨hx, hb, hml, hown, hts⟩ hM (cwI n hts (jx_wsG hj) hwe rfl rfl (hts _ hini) (hts _ w1) (hts _ w2) w3 ⟨hn1, hn2, hnp⟩ (room hj)) ⟨jx_blind, hPc _⟩ rfl hln rfl hst (lv_room hsm) hdg ⟨hcells, hslots⟩) hS kk
              · simp at hkd
              · simp at hkd
              · simp at hkd
              · refine jx_after (va_runIN (As := (st.take n).reverse) (rest := rest) ⟨hx, hb, hml, hown, hts⟩ hM ⟨va_cnB n hts (jx_wsG hj) hwe rfl rfl (hN _ w1) (hts _ hini) ⟨hn1, hn2, hnp⟩ (room hj), w3, hts _ w2⟩ ⟨jx_blind, hPc _⟩ rfl hln rfl hst (lv_room hsm) hdg ⟨hcells, hslots⟩) hS kk
            · cases h
          · cases h
      · cases h
    · cases h
  · rename_i idx
    split at h
    · rename_i hl
      subst hl
      obtain ⟨q, hf, h⟩ := Option.bind_eq_some_iff.mp h
      obtain ⟨kd, j', n, ci⟩ := q
      simp only at h
      split at h
      · rename_i hh
        obtain ⟨hkd, hn⟩ := hh
        obtain ⟨hj, hpl, hnp, hini, hI⟩ := jx_IF_of hf
        split at h
        · rename_i h2
          subst h2
          split at h
          · rename_i hsm
            cases h
            obtain ⟨hst, hln⟩ := jx_take hn
            obtain ⟨-, -, hn1, hn2⟩ := jx_mK hj
            rcases hI with ⟨z, -⟩ | ⟨z, -⟩ | ⟨-, w1, w2⟩ | ⟨z, -⟩ | ⟨z, -⟩ | ⟨z, -⟩
            · cases z
            · cases z
            · refine jx_after (va_runS (As := (st.take n).reverse) (rest := st.drop n) ⟨hx, hb, hml, hown, hts⟩ hM (va_cwS n hts (jx_consG w1 (jx_consG w2 (jx_consG hini (jx_wsG hj)))) rfl rfl rfl ⟨hn1, hn2, hnp⟩ (room hj)) ⟨jx_blind, hPc _⟩ rfl hln rfl hst (lv_room hsm) hdg ⟨hcells, hslots⟩) hS kk
            · cases z
            · cases z
            · cases z
          · cases h
        · rename_i h2
          simp at hkd
          exact absurd hkd h2
      · cases h
    · cases h
  · rename_i idx cnt
    split at h
    · rename_i hl
      subst hl
      obtain ⟨q, hf, h⟩ := Option.bind_eq_some_iff.mp h
      obtain ⟨kd, j', n, ci⟩ := q
      simp only at h
      split at h
      · rename_i hh
        obtain ⟨hkd, hn⟩ := hh
        obtain ⟨hj, hpl, hnp, hini, hI⟩ := jx_IF_of hf
        split at h
        · rename_i h2
          subst h2
          simp at hkd
        · split at h
          · rename_i b r' hdr
            split at h
            · rename_i hcnd
              cases h
              obtain ⟨hsm, hcnd⟩ := hcnd
              obtain ⟨hst, hln⟩ := jx_take hn
              rw [hdr] at hst
              obtain ⟨-, -, hn1, hn2⟩ := jx_mK hj
              have hcd : (kd = 0 ∨ kd = 3 ∨ kd = 4) ∧ jx_isC σ b ci = true := by
                rcases hcnd with z | z
                · simp at hkd; omega
                · exact z
              rcases hI with ⟨rfl, -⟩ | ⟨rfl, -⟩ | ⟨rfl, -⟩ | ⟨rfl, hci, x', hif, w1, w2, w3, w4⟩ | ⟨rfl, -⟩ | ⟨rfl, -⟩
              · simp at hkd
              · simp at hkd
              · simp at hkd
              · subst hci
                obtain ⟨hx1, hx2⟩ := jx_ifF _ hif
                refine jx_after5 (va_runF (As := (st.take n).reverse) (rest := rest) (hK.1 1 _ rfl).2 ⟨hx, hb, hml, hown, hts⟩ hM (va_cwF n hts (jx_consG w1 (jx_consG w2 (jx_consG w3 (jx_consG hini (jx_wsG hj))))) rfl rfl rfl (hFw _ hif) ⟨hx1, hx2, w4⟩ (room hj)) ⟨jx_blind, jx_recv hK hc hR (by decide) (by decide +kernel) hcd.2, hPc _⟩ rfl hln rfl hst (lv_room hsm) hdg ⟨hcells, hslots⟩) hS kk
              · simp at hkd
              · simp at hkd
            · cases h
          · cases h
      · cases h
    · cases h
  · cases h
end JxClOk
