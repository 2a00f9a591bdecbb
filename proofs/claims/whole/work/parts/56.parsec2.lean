/-! contracts of the class: no numbers -/
def ps_ans : Option Nat → Int32
  | none => -4
  | some p => nI p
theorem c_readNumbers0 {E : ax_E} {d : Nat} {h : ax_H} (x : Int32) : ax_cal E (d + 3) n_X9_readNumbers [.ref 3, .ref 1, .int x, .int (nI 0)] h = some (some (.int (-4)), h) := by
  refine ax_of (t := t_X9_readNumbers) (ls := [.ref 3, .ref 1, .int x, .int (nI 0), .float 0, .float 0, .float 0, .float 0]) rfl ⟨rfl, Nat.le_of_ble_eq_true rfl⟩ rfl ?_
  repeat refine bs rfl ?_
  exact br rfl ⟨rfl, rfl⟩
