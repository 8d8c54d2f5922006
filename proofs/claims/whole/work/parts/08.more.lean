/-! written by hand and loop: the methods together -/
theorem jx_mCs : ∀ q ∈ tb_m, lw_tbl[q.2.2.2.2.2]? = some (Cond.code q.2.1 q.2.2.1 q.2.2.2.1 q.2.2.2.2.1) := by
  intro q h
  simp only [tb_m, List.mem_append] at h
  rcases h with h | h | h | h | h | h | h | h | h | h | h | h | h | h | h
  · exact jx_mC_0 q h
  · exact jx_mC_1 q h
  · exact jx_mC_2 q h
  · exact jx_mC_3 q h
  · exact jx_mC_4 q h
  · exact jx_mC_5 q h
  · exact jx_mC_6 q h
  · exact jx_mC_7 q h
  · exact jx_mC_8 q h
  · exact jx_mC_9 q h
  · exact jx_mC_10 q h
  · exact jx_mC_11 q h
  · exact jx_mC_12 q h
  · exact jx_mC_13 q h
  · exact jx_mC_14 q h
theorem jx_mFs : ∀ q ∈ tb_m, jx_mF q = true := by
  intro q h
  simp only [tb_m, List.mem_append] at h
  rcases h with h | h | h | h | h | h | h | h | h | h | h | h | h | h | h
  · exact List.all_eq_true.mp jx_mF_0 q h
  · exact List.all_eq_true.mp jx_mF_1 q h
  · exact List.all_eq_true.mp jx_mF_2 q h
  · exact List.all_eq_true.mp jx_mF_3 q h
  · exact List.all_eq_true.mp jx_mF_4 q h
  · exact List.all_eq_true.mp jx_mF_5 q h
  · exact List.all_eq_true.mp jx_mF_6 q h
  · exact List.all_eq_true.mp jx_mF_7 q h
  · exact List.all_eq_true.mp jx_mF_8 q h
  · exact List.all_eq_true.mp jx_mF_9 q h
  · exact List.all_eq_true.mp jx_mF_10 q h
  · exact List.all_eq_true.mp jx_mF_11 q h
  · exact List.all_eq_true.mp jx_mF_12 q h
  · exact List.all_eq_true.mp jx_mF_13 q h
  · exact List.all_eq_true.mp jx_mF_14 q h
theorem jx_mlen : tb_m.length = 282 := by decide +kernel
theorem jx_mnl : tb_m.all (fun q => decide (q.2.2.2.1 ≤ 16)) = true := by decide +kernel
