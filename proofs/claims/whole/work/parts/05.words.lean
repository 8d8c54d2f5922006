/-! written by gen_names.py: words that are carried as they are; static arrays; calls -/
def jx_isN : Cond → Bool
  | .castable _ _ => true
  | .declares _ => true
  | .arrayOver (.object _) => true
  | .fieldLinkNest _ _ _ _ _ _ => true
  | .methodLinkNest _ _ _ _ => true
  | _ => false
def jx_N : List Cond := lw_tbl.filter jx_isN
theorem jx_inN {pl : Nat} {w : Cond} (h : lw_tbl[pl]? = some w) (g : jx_isN w = true) : w ∈ jx_N := List.mem_filter.mpr ⟨List.mem_of_getElem? h, g⟩
theorem jx_inG {pl : Nat} {w : Cond} (h : lw_tbl[pl]? = some w) (g : goodWord w = true) : w ∈ jx_T := List.mem_filter.mpr ⟨List.mem_of_getElem? h, g⟩
theorem jx_obj_6 : ∃ r, tb_cl[6]? = some r ∧ Cond.castable r.1 "java/lang/Object" ∈ jx_N := ⟨_, rfl, jx_inN (pl := 2105) (by decide +kernel) (by decide +kernel)⟩
theorem jx_obj_8 : ∃ r, tb_cl[8]? = some r ∧ Cond.castable r.1 "java/lang/Object" ∈ jx_N := ⟨_, rfl, jx_inN (pl := 2107) (by decide +kernel) (by decide +kernel)⟩
theorem jx_obj_9 : ∃ r, tb_cl[9]? = some r ∧ Cond.castable r.1 "java/lang/Object" ∈ jx_N := ⟨_, rfl, jx_inN (pl := 2108) (by decide +kernel) (by decide +kernel)⟩
theorem jx_obj_10 : ∃ r, tb_cl[10]? = some r ∧ Cond.castable r.1 "java/lang/Object" ∈ jx_N := ⟨_, rfl, jx_inN (pl := 2109) (by decide +kernel) (by decide +kernel)⟩
theorem jx_obj_11 : ∃ r, tb_cl[11]? = some r ∧ Cond.castable r.1 "java/lang/Object" ∈ jx_N := ⟨_, rfl, jx_inN (pl := 2110) (by decide +kernel) (by decide +kernel)⟩
theorem jx_objs {ci : Nat} (h : ci ∈ [6, 8, 9, 10, 11]) : ∃ r, tb_cl[ci]? = some r ∧ Cond.castable r.1 "java/lang/Object" ∈ jx_N := by
  simp only [List.mem_cons, List.not_mem_nil, or_false] at h
  rcases h with rfl | rfl | rfl | rfl | rfl
  · exact jx_obj_6
  · exact jx_obj_8
  · exact jx_obj_9
  · exact jx_obj_10
  · exact jx_obj_11
theorem jx_over_Object : Cond.arrayOver (.object "java/lang/Object") ∈ jx_N := jx_inN (pl := 586) (by decide +kernel) (by decide +kernel)
theorem jx_over_Conn : Cond.arrayOver (.object "QuotaPeers$Connection") ∈ jx_N := jx_inN (pl := 165) (by decide +kernel) (by decide +kernel)
theorem jx_arr_byte : Cond.arrayClass .byte ∈ jx_T := jx_inG (pl := 192) (by decide +kernel) (by decide +kernel)
theorem jx_arr_int : Cond.arrayClass .int ∈ jx_T := jx_inG (pl := 258) (by decide +kernel) (by decide +kernel)
theorem jx_arr_boolean : Cond.arrayClass .boolean ∈ jx_T := jx_inG (pl := 1674) (by decide +kernel) (by decide +kernel)
theorem jx_arr_long : Cond.arrayClass .long ∈ jx_T := jx_inG (pl := 1675) (by decide +kernel) (by decide +kernel)
def tb_anwL0 : List (Nat × Nat × Nat × Nat) := [(0, 21, 5, 164), (18, 2, 4, 587), (1, 7, 4, 589)]
def tb_anwL : List (Nat × Nat × Nat × Nat) := tb_anwL0
def jx_anwF (q : Nat × Nat × Nat × Nat) : Bool := ((q.2.2.1 == 4) && (lw_tbl[q.2.2.2]? == some (Cond.classLink (tb_Rn q.1) q.2.1 "java/lang/Object"))) || ((q.2.2.1 == 5) && (lw_tbl[q.2.2.2]? == some (Cond.classLink (tb_Rn q.1) q.2.1 "QuotaPeers$Connection")))
set_option maxRecDepth 100000 in
theorem jx_anwFs_tb_anwL0 : tb_anwL0.all jx_anwF = true := by decide +kernel
theorem jx_anwFs : ∀ q ∈ tb_anwL, jx_anwF q = true := by
  intro q h
  simp only [tb_anwL, List.mem_append] at h
  exact List.all_eq_true.mp jx_anwFs_tb_anwL0 q h
def tb_anw (o idx : Nat) : Option Nat := (tb_anwL.find? (fun q => q.1 == o && q.2.1 == idx)).map (fun q => q.2.2.1)
def tb_caL0 : List (Nat × Nat × Nat × Nat) := [(18, 317, 1, 333), (18, 311, 0, 412)]
def tb_caL : List (Nat × Nat × Nat × Nat) := tb_caL0
def jx_caF (q : Nat × Nat × Nat × Nat) : Bool := ((q.2.2.1 == 0) && (lw_tbl[q.2.2.2]? == some (Cond.classLink (tb_Rn q.1) q.2.1 "[B"))) || ((q.2.2.1 == 1) && (lw_tbl[q.2.2.2]? == some (Cond.classLink (tb_Rn q.1) q.2.1 "[I")))
set_option maxRecDepth 100000 in
theorem jx_caFs_tb_caL0 : tb_caL0.all jx_caF = true := by decide +kernel
theorem jx_caFs : ∀ q ∈ tb_caL, jx_caF q = true := by
  intro q h
  simp only [tb_caL, List.mem_append] at h
  exact List.all_eq_true.mp jx_caFs_tb_caL0 q h
def tb_ca (o idx : Nat) : Option Nat := (tb_caL.find? (fun q => q.1 == o && q.2.1 == idx)).map (fun q => q.2.2.1)
def tb_sn : List (String × String × String) := [("QuotaPeers", "FIRST_HOST", "[B"), ("java/util/ArrayList", "DEFAULTCAPACITY_EMPTY_ELEMENTDATA", "[Ljava/lang/Object;"), ("QuotaPeers", "OPENING_MUSTS", "[I"), ("QuotaPeers", "WATCH_MUSTS", "[I"), ("QuotaPeers", "ENDING_MUSTS", "[I"), ("QuotaPeers", "CREDIT_MUSTS", "[I"), ("QuotaPeers", "NO_MUSTS", "[I"), ("QuotaPeers", "ANSWER_MUSTS", "[I")]
def tb_staL0 : List (Nat × Nat × Nat × Nat × Nat) := [(0, 15, 0, 0, 162), (1, 39, 1, 0, 178), (3, 70, 2, 1, 781), (3, 74, 3, 1, 783), (3, 77, 4, 1, 785), (3, 80, 5, 1, 787), (3, 83, 6, 1, 789), (3, 107, 7, 1, 824)]
def tb_staL : List (Nat × Nat × Nat × Nat × Nat) := tb_staL0
def jx_staF (q : Nat × Nat × Nat × Nat × Nat) : Bool := match tb_sn[q.2.2.1]? with
  | some r => ((q.2.2.2.1 == 0) && (lw_tbl[q.2.2.2.2]? == some (Cond.fieldLink (tb_Rn q.1) q.2.1 r.1 r.2.1 r.2.2))) || ((q.2.2.2.1 == 1) && (lw_tbl[q.2.2.2.2]? == some (Cond.fieldLinkNest (tb_Rn q.1) q.2.1 r.1 r.2.1 r.2.2 "QuotaPeers")))
  | none => false
set_option maxRecDepth 100000 in
theorem jx_staFs_tb_staL0 : tb_staL0.all jx_staF = true := by decide +kernel
theorem jx_staFs : ∀ q ∈ tb_staL, jx_staF q = true := by
  intro q h
  simp only [tb_staL, List.mem_append] at h
  exact List.all_eq_true.mp jx_staFs_tb_staL0 q h
def tb_sta (o idx : Nat) : Option Nat := (tb_staL.find? (fun q => q.1 == o && q.2.1 == idx)).map (fun q => q.2.2.1)
