/-! contracts of the class: cutting, its small methods -/
section CU
variable {E : ax_E} {d : Nat} {tl : List (Nat × Nat)} {rtl : List (List (Option Nat))} {J : Nat → Nat → Int32} {N : Nat → Nat} {V : Nat → Nat → Int32}
/-- what the first n orders lack -/
def sp_lk (f : Nat → Int32) : Nat → Int32
  | 0 => 0
  | n + 1 => sp_lk f n + (if 0 < f n then f n else 0)
theorem c_lacking (hok : sp_Ok N V) (hr : RC 30 J N V) : ax_cal E (d + 1) n_X1_lackingLength [.ref 23, .ref 44] (ax_hC tl rtl J) = some (some (.int (sp_lk (J 24) (N 4))), ax_hC tl rtl J) := by
  have h3 := hok.2.2.2.2.1
  have hn : J 44 5 = nI (N 4) := hr.2.2.2.2.2.2.2.2.1
  refine ax_of (t := t_X1_lackingLength) (ls := [.ref 23, .ref 44, .float 0, .float 0]) rfl ⟨rfl, Nat.le_of_ble_eq_true rfl⟩ rfl ?_
  have loop : ∀ (j n : Nat), n + j = N 4 → AW E (ax_cal E d) t_X1_lackingLength (9, [.ref 23, .ref 44, .int (sp_lk (J 24) n), .int (nI n)], [.int (J 44 5), .int (nI n)], ax_hC tl rtl J) (fun r g => r = some (.int (sp_lk (J 24) (N 4))) ∧ g = ax_hC tl rtl J) := by
    intro j
    induction j with
    | zero =>
      intro n hn'
      refine bt rfl (by rw [hn]; exact nI_le (by omega) (by omega)) ?_
      repeat refine bs rfl ?_
      exact br rfl ⟨by rw [show n = N 4 by omega], rfl⟩
    | succ j ih =>
      intro n hn'
      have ih := ih (n + 1) (by omega)
      rw [nI_succ, sp_lk] at ih
      refine bf rfl (by rw [hn]; exact nI_ge (by omega) (by omega)) ?_
      repeat (first | refine bs rfl ?_ | refine bld rfl _ rfl (by omega) (by omega) ?_)
      exact ih
  have l0 := loop (N 4) 0 (Nat.zero_add _)
  repeat refine bs rfl ?_
  exact l0
def sp_sm (f : Nat → Int32) : Nat → Int32
  | 0 => 0
  | n + 1 => sp_sm f n + f n
theorem c_ordered (hok : sp_Ok N V) (hr : RC 30 J N V) : ax_cal E (d + 1) n_X6_orderedLength [.ref 44] (ax_hC tl rtl J) = some (some (.int (sp_sm (V 11) (N 4))), ax_hC tl rtl J) := by
  have h3 := hok.2.2.2.2.1
  have hn : J 44 5 = nI (N 4) := hr.2.2.2.2.2.2.2.2.1
  have hv := hr.2.2.2.2.2.2.2.2.2.1
  refine ax_of (t := t_X6_orderedLength) (ls := [.ref 44, .float 0, .float 0]) rfl ⟨rfl, Nat.le_of_ble_eq_true rfl⟩ rfl ?_
  have loop : ∀ (j n : Nat), n + j = N 4 → AW E (ax_cal E d) t_X6_orderedLength (9, [.ref 44, .int (sp_sm (V 11) n), .int (nI n)], [.int (J 44 5), .int (nI n)], ax_hC tl rtl J) (fun r g => r = some (.int (sp_sm (V 11) (N 4))) ∧ g = ax_hC tl rtl J) := by
    intro j
    induction j with
    | zero =>
      intro n hn'
      refine bt rfl (by rw [hn]; exact nI_le (by omega) (by omega)) ?_
      repeat refine bs rfl ?_
      exact br rfl ⟨by rw [show n = N 4 by omega], rfl⟩
    | succ j ih =>
      intro n hn'
      have ih := ih (n + 1) (by omega)
      rw [nI_succ, sp_sm, ← hv n (by omega)] at ih
      refine bf rfl (by rw [hn]; exact nI_ge (by omega) (by omega)) ?_
      repeat (first | refine bs rfl ?_ | refine bld rfl _ rfl (by omega) (by omega) ?_)
      exact ih
  have l0 := loop (N 4) 0 (Nat.zero_add _)
  repeat refine bs rfl ?_
  exact l0
/-- the sum of m from r on -/
def sp_sf (f : Nat → Int32) (r : Nat) : Nat → Int32
  | 0 => 0
  | m + 1 => sp_sf f r m + f (r + m)
theorem c_lengthFrom (hok : sp_Ok N V) (hr : RC 30 J N V) {r : Nat} (hr3 : r ≤ N 3) : ax_cal E (d + 1) n_X6_lengthFrom [.ref 44, .int (nI r)] (ax_hC tl rtl J) = some (some (.int (sp_sf (V 10) r (N 3 - r))), ax_hC tl rtl J) := by
  have h3 := hok.2.2.2.1
  have hn : J 44 4 = nI (N 3) := hr.2.2.2.2.2.2.1
  have hv := hr.2.2.2.2.2.2.2.1
  refine ax_of (t := t_X6_lengthFrom) (ls := [.ref 44, .int (nI r), .float 0, .float 0]) rfl ⟨rfl, Nat.le_of_ble_eq_true rfl⟩ rfl ?_
  have loop : ∀ (j n : Nat), r + n + j = N 3 → AW E (ax_cal E d) t_X6_lengthFrom (9, [.ref 44, .int (nI r), .int (sp_sf (V 10) r n), .int (nI (r + n))], [.int (J 44 4), .int (nI (r + n))], ax_hC tl rtl J) (fun q g => q = some (.int (sp_sf (V 10) r (N 3 - r))) ∧ g = ax_hC tl rtl J) := by
    intro j
    induction j with
    | zero =>
      intro n hn'
      refine bt rfl (by rw [hn]; exact nI_le (by omega) (by omega)) ?_
      repeat refine bs rfl ?_
      exact br rfl ⟨by rw [show n = N 3 - r by omega], rfl⟩
    | succ j ih =>
      intro n hn'
      have ih := ih (n + 1) (by omega)
      rw [← Nat.add_assoc, nI_succ, sp_sf, ← hv (r + n) (by omega)] at ih
      refine bf rfl (by rw [hn]; exact nI_ge (by omega) (by omega)) ?_
      repeat (first | refine bs rfl ?_ | refine bld rfl _ rfl (by omega) (by omega) ?_)
      exact ih
  have l0 := loop (N 3 - r) 0 (by omega)
  repeat refine bs rfl ?_
  exact l0
end CU
