/-! THE TWO OBJECTS AT THEIR BEGINNING: what stands in their rows -/
def cn_rf (σ : jx_S) (a j : Nat) : Option Nat := match σ.1 a with
  | some (.inl (_, _, .inr (.inr (.inr (.inr f))))) => f j
  | _ => none
theorem cn_cons : (List.range 8).map (cn_rf cn_2 12) = [some 24, some 27, some 30, some 33, some 36, some 39, some 42, some 45] := by decide +kernel
theorem cn_orig : (List.range 7).map (cn_int cn_2 48) = [264, 1073741838, 1831757935, 1835335680, 296, 1073741836, 1752132965] := by decide +kernel
theorem cn_host : (List.range 6).map (fun j => rf_0.1 5 j) = [109, 46, 104, 111, 109, 101] := by decide +kernel
