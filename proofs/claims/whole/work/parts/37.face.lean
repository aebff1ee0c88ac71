/-! THE FACE, the short calls: place, flows (class: cell 0; reference: cell 82) -/
theorem c_place {E : Xe} {I : Nat → Nat → Int32} {R : Nat → Nat → Option Nat} : Rn E 117 (0, loc0 117 [.ref 0], [], wT I R) (.returned (some (.int (I 0 10)))) (wT I R) := by
  refine Rn.run 2 rfl ?_
  exact Rn.ret rfl rfl rfl
theorem m_place {E : Xe} {I : Nat → Nat → Int32} {R : Nat → Nat → Option Nat} : Rn E 261 (0, loc0 261 [.ref 82], [], wT I R) (.returned (some (.int (I 82 5)))) (wT I R) := by
  refine Rn.run 2 rfl ?_
  exact Rn.ret rfl rfl rfl
theorem c_flows {E : Xe} {I : Nat → Nat → Int32} {R : Nat → Nat → Option Nat} (v : Int32) : Rn E 118 (0, loc0 118 [.ref 0, .int v], [], wT I R) (.returned (some (.int (I 61 0)))) (wT (up2 I 61 0 (v &&& 7)) R) := by
  refine Rn.run 11 rfl ?_
  exact Rn.ret rfl rfl rfl
theorem m_flows {E : Xe} {I : Nat → Nat → Int32} {R : Nat → Nat → Option Nat} (v : Int32) : Rn E 262 (0, loc0 262 [.ref 82, .int v], [], wT I R) (.returned (some (.int (I 82 6)))) (wT (up2 I 82 6 (v &&& 7)) R) := by
  refine Rn.run 9 rfl ?_
  exact Rn.ret rfl rfl rfl
