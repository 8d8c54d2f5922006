/-! THE INTERPRETER: what holds at every method's entry, and how it is carried -/
def jx_Kx (th : Nat → Nat) (D : va_G) (dA : Nat → ClassId) (base : Nat) (K : Nat → Option jx_E) (U : State) : Prop :=
  va_K D tb_cl (jx_tys dA) U ∧ (∀ w ∈ jx_N, va_Nw w U) ∧ (∀ q ∈ tb_if, va_Fw "java/util/ArrayList" q.1 q.2 U) ∧ va_Mi "[Ljava/lang/Object;" (th 100) U ∧
  (∀ (z : Nat) (r : String × String × String), tb_sn[z]? = some r → va_Z r.1 r.2.1 r.2.2 (.ref (th z)) (jx_A base) U U.heap) ∧ jx_Cst base K U
theorem jx_Nwarm {w : Cond} (hw : w ∈ jx_N) {s U : State} (hW : s.WarmedH U.vm) (h : va_Nw w s) : va_Nw w U := by
  have hk := (List.mem_filter.mp hw).2
  unfold jx_isN at hk
  split at hk
  · exact va_Nw.warmC hW h
  · exact va_Nw.warmD hW h
  · rename_i C
    exact va_AO.moved (C := C) hW.alike h
  · exact va_Nw.warmF hW h
  · exact va_Nw.warmM hW h
  · cases hk
theorem jx_Kx.go {th : Nat → Nat} {D : va_G} {dA : Nat → ClassId} {base : Nat} {K : Nat → Option jx_E} {s U : State} (h : jx_Kx th D dA base K s) (hW : s.WarmedH U.vm) (hh : ∀ q : Nat, q < s.heap.size → ¬ jx_A base q → U.heap[q]? = s.heap[q]?) : jx_Kx th D dA base K U := by
  obtain ⟨h1, h2, h3, h4, h5, h6⟩ := h
  refine ⟨h1.moved hW.alike, fun w hw => jx_Nwarm hw hW (h2 w hw), fun q hq => (h3 q hq).moved (jx_ifF q hq) hW.alike, h4.moved hW.alike, fun z r hr => ((h5 z r hr).moved hW.alike).kept hh, fun a e he => ?_⟩
  rcases h6 a e he with ⟨n, f, e1, hT⟩ | ⟨n, f, e1, hT⟩ | ⟨n, f, e1, hT⟩
  · exact Or.inl ⟨n, f, e1, (hT.moved hW.alike).kept hh⟩
  · exact Or.inr (Or.inl ⟨n, f, e1, (hT.moved hW.alike).kept hh⟩)
  · exact Or.inr (Or.inr ⟨n, f, e1, (hT.moved hW.alike).kept hh⟩)
theorem jx_Kx.same {th : Nat → Nat} {D : va_G} {dA : Nat → ClassId} {base : Nat} {K : Nat → Option jx_E} {s U : State} (h : jx_Kx th D dA base K s) (hv : s.vm = U.vm) (hh : U.heap = s.heap) : jx_Kx th D dA base K U :=
  h.go (by rw [← hv]; exact State.WarmedH.refl s) (fun q _ _ => by rw [hh])
