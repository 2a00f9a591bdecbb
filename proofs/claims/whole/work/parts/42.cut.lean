/-! contracts of the class: cutting, its small methods -/
section CU
variable {E : ax_E} {d : Nat} {tl : List (Nat × Nat)} {rtl : List (List (Option Nat))} {J : Nat → Nat → Int32} {N : Nat → Nat} {V : Nat → Nat → Int32}
/-- what the first n orders lack -/
def sp_lk (f : Nat → Int32) : Nat → Int32
  | 0 => 0
  | n + 1 => sp_lk f n + (if 0 < f n then f n else 0)
theorem c_lacking (hok : sp_Ok N V) (hr : RC 30 J N V) : ax_cal E (d + 1) n_X1_lackingLength [.ref 23, .ref 44] (ax_hC tl rtl J) = some (some (.int (sp_lk (J 24) (N 4))), ax_hC tl rtl J) := by
  have h3 := hok.2.2.2.2.1
  have hn : J 44 5 = nI (N 4) := hr.2.2.2.2.2.2.2.2.1
  refine ax_of (t := t_X1_lackingLength) (ls := [.ref 23, .ref 44, .float 0, .float 0]) rfl ⟨rfl, Nat.le_of_ble_eq_true rfl⟩ rfl ?_
  have loop : ∀ (j n : Nat), n + j = N 4 → AW E (ax_cal E d) t_X1_lackingLength (9, [.ref 23, .ref 44, .int (sp_lk (J 24) n), .int (nI n)], [.int (J 44 5), .int (nI n)], ax_hC tl rtl J) (fun r g => r = some (.int (sp_lk (J 24) (N 4))) ∧ g = ax_hC tl rtl J) := by
    intro j
    induction j with
    | zero =>
      intro n hn'
      refine bt rfl (by rw [hn]; exact nI_le (by omega) (by omega)) ?_
      repeat refine bs rfl ?_
      exact br rfl ⟨by rw [show n = N 4 by omega], rfl⟩
    | succ j ih =>
      intro n hn'
      have ih := ih (n + 1) (by omega)
      rw [nI_succ, sp_lk] at ih
      refine bf rfl (by rw [hn]; exact nI_ge (by omega) (by omega)) ?_
      repeat (first | refine bs rfl ?_ | refine bld rfl _ rfl (by omega) (by omega) ?_)
      exact ih
  have l0 := loop (N 4) 0 (Nat.zero_add _)
  repeat refine bs rfl ?_
  exact l0
end CU
