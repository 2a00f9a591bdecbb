/-! contracts of the reference: put, from one row into another -/
section PUT
variable {E : ax_E} {d : Nat} {J : Nat → Nat → Int32}
def ps_put (J G : Nat → Nat → Int32) (row of fr n : Nat) : Prop := (∀ q, q ≠ row → G q = J q) ∧ (∀ i, i < n → G row (fr + i) = J of i) ∧ (∀ i, i < fr ∨ fr + n ≤ i → G row i = J row i)
theorem m_put80_79 {fr n : Nat} (h1 : fr + n ≤ 18) (h2 : n ≤ 4) : ∃ G, ax_cal E (d + 1) n_X12_put [.ref 80, .int (nI fr), .ref 79, .int (nI n)] (ax_h J) = some (none, ax_h G) ∧ ps_put J G 80 79 fr n := by
  suffices H : ∃ r g, ax_cal E (d + 1) n_X12_put [.ref 80, .int (nI fr), .ref 79, .int (nI n)] (ax_h J) = some (r, g) ∧ (r = none ∧ ∃ G, g = ax_h G ∧ ps_put J G 80 79 fr n) by
    obtain ⟨r, g, e, rfl, G, rfl, h⟩ := H
    exact ⟨G, e, h⟩
  refine ax_ofQ (t := t_X12_put) (ls := [.ref 80, .int (nI fr), .ref 79, .int (nI n), .float 0]) rfl ⟨rfl, Nat.le_of_ble_eq_true rfl⟩ rfl ?_
  have loop : ∀ (j k : Nat), k + j = n → ∀ G : Nat → Nat → Int32, ps_put J G 80 79 fr k → AW E (ax_cal E d) t_X12_put (6, [.ref 80, .int (nI fr), .ref 79, .int (nI n), .int (nI k)], [.int (nI n), .int (nI k)], ax_h G) (fun r g => r = none ∧ ∃ G, g = ax_h G ∧ ps_put J G 80 79 fr n) := by
    intro j
    induction j with
    | zero =>
      intro k hk G hG
      refine bt rfl (nI_le (by omega) (by omega)) ?_
      repeat refine bs rfl ?_
      exact br rfl ⟨rfl, G, rfl, by rw [show n = k by omega]; exact hG⟩
    | succ j ih =>
      intro k hk G hG
      have ih := ih (k + 1) (by omega)
      rw [nI_succ] at ih
      refine bf rfl (nI_ge (by omega) (by omega)) ?_
      repeat (first | refine bs rfl ?_ | refine bld rfl _ rfl (by omega) (by omega) ?_)
      refine bsto rfl (fr + k) (nI_add _ _) (by omega) (by omega) ?_
      repeat refine bs rfl ?_
      refine ih _ ⟨fun q hq => by rw [va_up_ne _ _ hq, hG.1 q hq], fun i hi => ?_, fun i hi => ?_⟩
      · show upd (G 80) (fr + k) (G 79 k) (fr + i) = _
        by_cases e : i = k
        · rw [e, pk_us, hG.1 79 (by decide)]
        · rw [pk_un (by omega)]
          exact hG.2.1 i (by omega)
      · show upd (G 80) (fr + k) (G 79 k) i = _
        rw [pk_un (by omega)]
        exact hG.2.2 i (by omega)
  have l0 := loop n 0 (Nat.zero_add _) J ⟨fun _ _ => rfl, fun i hi => absurd hi (by omega), fun _ _ => rfl⟩
  iterate 4 refine bs rfl ?_
  exact l0
theorem m_put85_79 {fr n : Nat} (h1 : fr + n ≤ 34) (h2 : n ≤ 4) : ∃ G, ax_cal E (d + 1) n_X12_put [.ref 85, .int (nI fr), .ref 79, .int (nI n)] (ax_h J) = some (none, ax_h G) ∧ ps_put J G 85 79 fr n := by
  suffices H : ∃ r g, ax_cal E (d + 1) n_X12_put [.ref 85, .int (nI fr), .ref 79, .int (nI n)] (ax_h J) = some (r, g) ∧ (r = none ∧ ∃ G, g = ax_h G ∧ ps_put J G 85 79 fr n) by
    obtain ⟨r, g, e, rfl, G, rfl, h⟩ := H
    exact ⟨G, e, h⟩
  refine ax_ofQ (t := t_X12_put) (ls := [.ref 85, .int (nI fr), .ref 79, .int (nI n), .float 0]) rfl ⟨rfl, Nat.le_of_ble_eq_true rfl⟩ rfl ?_
  have loop : ∀ (j k : Nat), k + j = n → ∀ G : Nat → Nat → Int32, ps_put J G 85 79 fr k → AW E (ax_cal E d) t_X12_put (6, [.ref 85, .int (nI fr), .ref 79, .int (nI n), .int (nI k)], [.int (nI n), .int (nI k)], ax_h G) (fun r g => r = none ∧ ∃ G, g = ax_h G ∧ ps_put J G 85 79 fr n) := by
    intro j
    induction j with
    | zero =>
      intro k hk G hG
      refine bt rfl (nI_le (by omega) (by omega)) ?_
      repeat refine bs rfl ?_
      exact br rfl ⟨rfl, G, rfl, by rw [show n = k by omega]; exact hG⟩
    | succ j ih =>
      intro k hk G hG
      have ih := ih (k + 1) (by omega)
      rw [nI_succ] at ih
      refine bf rfl (nI_ge (by omega) (by omega)) ?_
      repeat (first | refine bs rfl ?_ | refine bld rfl _ rfl (by omega) (by omega) ?_)
      refine bsto rfl (fr + k) (nI_add _ _) (by omega) (by omega) ?_
      repeat refine bs rfl ?_
      refine ih _ ⟨fun q hq => by rw [va_up_ne _ _ hq, hG.1 q hq], fun i hi => ?_, fun i hi => ?_⟩
      · show upd (G 85) (fr + k) (G 79 k) (fr + i) = _
        by_cases e : i = k
        · rw [e, pk_us, hG.1 79 (by decide)]
        · rw [pk_un (by omega)]
          exact hG.2.1 i (by omega)
      · show upd (G 85) (fr + k) (G 79 k) i = _
        rw [pk_un (by omega)]
        exact hG.2.2 i (by omega)
  have l0 := loop n 0 (Nat.zero_add _) J ⟨fun _ _ => rfl, fun i hi => absurd hi (by omega), fun _ _ => rfl⟩
  iterate 4 refine bs rfl ?_
  exact l0
theorem m_put81_79 {fr n : Nat} (h1 : fr + n ≤ 18) (h2 : n ≤ 4) : ∃ G, ax_cal E (d + 1) n_X12_put [.ref 81, .int (nI fr), .ref 79, .int (nI n)] (ax_h J) = some (none, ax_h G) ∧ ps_put J G 81 79 fr n := by
  suffices H : ∃ r g, ax_cal E (d + 1) n_X12_put [.ref 81, .int (nI fr), .ref 79, .int (nI n)] (ax_h J) = some (r, g) ∧ (r = none ∧ ∃ G, g = ax_h G ∧ ps_put J G 81 79 fr n) by
    obtain ⟨r, g, e, rfl, G, rfl, h⟩ := H
    exact ⟨G, e, h⟩
  refine ax_ofQ (t := t_X12_put) (ls := [.ref 81, .int (nI fr), .ref 79, .int (nI n), .float 0]) rfl ⟨rfl, Nat.le_of_ble_eq_true rfl⟩ rfl ?_
  have loop : ∀ (j k : Nat), k + j = n → ∀ G : Nat → Nat → Int32, ps_put J G 81 79 fr k → AW E (ax_cal E d) t_X12_put (6, [.ref 81, .int (nI fr), .ref 79, .int (nI n), .int (nI k)], [.int (nI n), .int (nI k)], ax_h G) (fun r g => r = none ∧ ∃ G, g = ax_h G ∧ ps_put J G 81 79 fr n) := by
    intro j
    induction j with
    | zero =>
      intro k hk G hG
      refine bt rfl (nI_le (by omega) (by omega)) ?_
      repeat refine bs rfl ?_
      exact br rfl ⟨rfl, G, rfl, by rw [show n = k by omega]; exact hG⟩
    | succ j ih =>
      intro k hk G hG
      have ih := ih (k + 1) (by omega)
      rw [nI_succ] at ih
      refine bf rfl (nI_ge (by omega) (by omega)) ?_
      repeat (first | refine bs rfl ?_ | refine bld rfl _ rfl (by omega) (by omega) ?_)
      refine bsto rfl (fr + k) (nI_add _ _) (by omega) (by omega) ?_
      repeat refine bs rfl ?_
      refine ih _ ⟨fun q hq => by rw [va_up_ne _ _ hq, hG.1 q hq], fun i hi => ?_, fun i hi => ?_⟩
      · show upd (G 81) (fr + k) (G 79 k) (fr + i) = _
        by_cases e : i = k
        · rw [e, pk_us, hG.1 79 (by decide)]
        · rw [pk_un (by omega)]
          exact hG.2.1 i (by omega)
      · show upd (G 81) (fr + k) (G 79 k) i = _
        rw [pk_un (by omega)]
        exact hG.2.2 i (by omega)
  have l0 := loop n 0 (Nat.zero_add _) J ⟨fun _ _ => rfl, fun i hi => absurd hi (by omega), fun _ _ => rfl⟩
  iterate 4 refine bs rfl ?_
  exact l0
theorem m_put84_79 {fr n : Nat} (h1 : fr + n ≤ 12) (h2 : n ≤ 4) : ∃ G, ax_cal E (d + 1) n_X12_put [.ref 84, .int (nI fr), .ref 79, .int (nI n)] (ax_h J) = some (none, ax_h G) ∧ ps_put J G 84 79 fr n := by
  suffices H : ∃ r g, ax_cal E (d + 1) n_X12_put [.ref 84, .int (nI fr), .ref 79, .int (nI n)] (ax_h J) = some (r, g) ∧ (r = none ∧ ∃ G, g = ax_h G ∧ ps_put J G 84 79 fr n) by
    obtain ⟨r, g, e, rfl, G, rfl, h⟩ := H
    exact ⟨G, e, h⟩
  refine ax_ofQ (t := t_X12_put) (ls := [.ref 84, .int (nI fr), .ref 79, .int (nI n), .float 0]) rfl ⟨rfl, Nat.le_of_ble_eq_true rfl⟩ rfl ?_
  have loop : ∀ (j k : Nat), k + j = n → ∀ G : Nat → Nat → Int32, ps_put J G 84 79 fr k → AW E (ax_cal E d) t_X12_put (6, [.ref 84, .int (nI fr), .ref 79, .int (nI n), .int (nI k)], [.int (nI n), .int (nI k)], ax_h G) (fun r g => r = none ∧ ∃ G, g = ax_h G ∧ ps_put J G 84 79 fr n) := by
    intro j
    induction j with
    | zero =>
      intro k hk G hG
      refine bt rfl (nI_le (by omega) (by omega)) ?_
      repeat refine bs rfl ?_
      exact br rfl ⟨rfl, G, rfl, by rw [show n = k by omega]; exact hG⟩
    | succ j ih =>
      intro k hk G hG
      have ih := ih (k + 1) (by omega)
      rw [nI_succ] at ih
      refine bf rfl (nI_ge (by omega) (by omega)) ?_
      repeat (first | refine bs rfl ?_ | refine bld rfl _ rfl (by omega) (by omega) ?_)
      refine bsto rfl (fr + k) (nI_add _ _) (by omega) (by omega) ?_
      repeat refine bs rfl ?_
      refine ih _ ⟨fun q hq => by rw [va_up_ne _ _ hq, hG.1 q hq], fun i hi => ?_, fun i hi => ?_⟩
      · show upd (G 84) (fr + k) (G 79 k) (fr + i) = _
        by_cases e : i = k
        · rw [e, pk_us, hG.1 79 (by decide)]
        · rw [pk_un (by omega)]
          exact hG.2.1 i (by omega)
      · show upd (G 84) (fr + k) (G 79 k) i = _
        rw [pk_un (by omega)]
        exact hG.2.2 i (by omega)
  have l0 := loop n 0 (Nat.zero_add _) J ⟨fun _ _ => rfl, fun i hi => absurd hi (by omega), fun _ _ => rfl⟩
  iterate 4 refine bs rfl ?_
  exact l0
theorem m_put69_80 {fr n : Nat} (h1 : fr + n ≤ 18) (h2 : n ≤ 18) : ∃ G, ax_cal E (d + 1) n_X12_put [.ref 69, .int (nI fr), .ref 80, .int (nI n)] (ax_h J) = some (none, ax_h G) ∧ ps_put J G 69 80 fr n := by
  suffices H : ∃ r g, ax_cal E (d + 1) n_X12_put [.ref 69, .int (nI fr), .ref 80, .int (nI n)] (ax_h J) = some (r, g) ∧ (r = none ∧ ∃ G, g = ax_h G ∧ ps_put J G 69 80 fr n) by
    obtain ⟨r, g, e, rfl, G, rfl, h⟩ := H
    exact ⟨G, e, h⟩
  refine ax_ofQ (t := t_X12_put) (ls := [.ref 69, .int (nI fr), .ref 80, .int (nI n), .float 0]) rfl ⟨rfl, Nat.le_of_ble_eq_true rfl⟩ rfl ?_
  have loop : ∀ (j k : Nat), k + j = n → ∀ G : Nat → Nat → Int32, ps_put J G 69 80 fr k → AW E (ax_cal E d) t_X12_put (6, [.ref 69, .int (nI fr), .ref 80, .int (nI n), .int (nI k)], [.int (nI n), .int (nI k)], ax_h G) (fun r g => r = none ∧ ∃ G, g = ax_h G ∧ ps_put J G 69 80 fr n) := by
    intro j
    induction j with
    | zero =>
      intro k hk G hG
      refine bt rfl (nI_le (by omega) (by omega)) ?_
      repeat refine bs rfl ?_
      exact br rfl ⟨rfl, G, rfl, by rw [show n = k by omega]; exact hG⟩
    | succ j ih =>
      intro k hk G hG
      have ih := ih (k + 1) (by omega)
      rw [nI_succ] at ih
      refine bf rfl (nI_ge (by omega) (by omega)) ?_
      repeat (first | refine bs rfl ?_ | refine bld rfl _ rfl (by omega) (by omega) ?_)
      refine bsto rfl (fr + k) (nI_add _ _) (by omega) (by omega) ?_
      repeat refine bs rfl ?_
      refine ih _ ⟨fun q hq => by rw [va_up_ne _ _ hq, hG.1 q hq], fun i hi => ?_, fun i hi => ?_⟩
      · show upd (G 69) (fr + k) (G 80 k) (fr + i) = _
        by_cases e : i = k
        · rw [e, pk_us, hG.1 80 (by decide)]
        · rw [pk_un (by omega)]
          exact hG.2.1 i (by omega)
      · show upd (G 69) (fr + k) (G 80 k) i = _
        rw [pk_un (by omega)]
        exact hG.2.2 i (by omega)
  have l0 := loop n 0 (Nat.zero_add _) J ⟨fun _ _ => rfl, fun i hi => absurd hi (by omega), fun _ _ => rfl⟩
  iterate 4 refine bs rfl ?_
  exact l0
theorem m_put70_81 {fr n : Nat} (h1 : fr + n ≤ 18) (h2 : n ≤ 18) : ∃ G, ax_cal E (d + 1) n_X12_put [.ref 70, .int (nI fr), .ref 81, .int (nI n)] (ax_h J) = some (none, ax_h G) ∧ ps_put J G 70 81 fr n := by
  suffices H : ∃ r g, ax_cal E (d + 1) n_X12_put [.ref 70, .int (nI fr), .ref 81, .int (nI n)] (ax_h J) = some (r, g) ∧ (r = none ∧ ∃ G, g = ax_h G ∧ ps_put J G 70 81 fr n) by
    obtain ⟨r, g, e, rfl, G, rfl, h⟩ := H
    exact ⟨G, e, h⟩
  refine ax_ofQ (t := t_X12_put) (ls := [.ref 70, .int (nI fr), .ref 81, .int (nI n), .float 0]) rfl ⟨rfl, Nat.le_of_ble_eq_true rfl⟩ rfl ?_
  have loop : ∀ (j k : Nat), k + j = n → ∀ G : Nat → Nat → Int32, ps_put J G 70 81 fr k → AW E (ax_cal E d) t_X12_put (6, [.ref 70, .int (nI fr), .ref 81, .int (nI n), .int (nI k)], [.int (nI n), .int (nI k)], ax_h G) (fun r g => r = none ∧ ∃ G, g = ax_h G ∧ ps_put J G 70 81 fr n) := by
    intro j
    induction j with
    | zero =>
      intro k hk G hG
      refine bt rfl (nI_le (by omega) (by omega)) ?_
      repeat refine bs rfl ?_
      exact br rfl ⟨rfl, G, rfl, by rw [show n = k by omega]; exact hG⟩
    | succ j ih =>
      intro k hk G hG
      have ih := ih (k + 1) (by omega)
      rw [nI_succ] at ih
      refine bf rfl (nI_ge (by omega) (by omega)) ?_
      repeat (first | refine bs rfl ?_ | refine bld rfl _ rfl (by omega) (by omega) ?_)
      refine bsto rfl (fr + k) (nI_add _ _) (by omega) (by omega) ?_
      repeat refine bs rfl ?_
      refine ih _ ⟨fun q hq => by rw [va_up_ne _ _ hq, hG.1 q hq], fun i hi => ?_, fun i hi => ?_⟩
      · show upd (G 70) (fr + k) (G 81 k) (fr + i) = _
        by_cases e : i = k
        · rw [e, pk_us, hG.1 81 (by decide)]
        · rw [pk_un (by omega)]
          exact hG.2.1 i (by omega)
      · show upd (G 70) (fr + k) (G 81 k) i = _
        rw [pk_un (by omega)]
        exact hG.2.2 i (by omega)
  have l0 := loop n 0 (Nat.zero_add _) J ⟨fun _ _ => rfl, fun i hi => absurd hi (by omega), fun _ _ => rfl⟩
  iterate 4 refine bs rfl ?_
  exact l0
theorem m_put71_82 {fr n : Nat} (h1 : fr + n ≤ 7) (h2 : n ≤ 7) : ∃ G, ax_cal E (d + 1) n_X12_put [.ref 71, .int (nI fr), .ref 82, .int (nI n)] (ax_h J) = some (none, ax_h G) ∧ ps_put J G 71 82 fr n := by
  suffices H : ∃ r g, ax_cal E (d + 1) n_X12_put [.ref 71, .int (nI fr), .ref 82, .int (nI n)] (ax_h J) = some (r, g) ∧ (r = none ∧ ∃ G, g = ax_h G ∧ ps_put J G 71 82 fr n) by
    obtain ⟨r, g, e, rfl, G, rfl, h⟩ := H
    exact ⟨G, e, h⟩
  refine ax_ofQ (t := t_X12_put) (ls := [.ref 71, .int (nI fr), .ref 82, .int (nI n), .float 0]) rfl ⟨rfl, Nat.le_of_ble_eq_true rfl⟩ rfl ?_
  have loop : ∀ (j k : Nat), k + j = n → ∀ G : Nat → Nat → Int32, ps_put J G 71 82 fr k → AW E (ax_cal E d) t_X12_put (6, [.ref 71, .int (nI fr), .ref 82, .int (nI n), .int (nI k)], [.int (nI n), .int (nI k)], ax_h G) (fun r g => r = none ∧ ∃ G, g = ax_h G ∧ ps_put J G 71 82 fr n) := by
    intro j
    induction j with
    | zero =>
      intro k hk G hG
      refine bt rfl (nI_le (by omega) (by omega)) ?_
      repeat refine bs rfl ?_
      exact br rfl ⟨rfl, G, rfl, by rw [show n = k by omega]; exact hG⟩
    | succ j ih =>
      intro k hk G hG
      have ih := ih (k + 1) (by omega)
      rw [nI_succ] at ih
      refine bf rfl (nI_ge (by omega) (by omega)) ?_
      repeat (first | refine bs rfl ?_ | refine bld rfl _ rfl (by omega) (by omega) ?_)
      refine bsto rfl (fr + k) (nI_add _ _) (by omega) (by omega) ?_
      repeat refine bs rfl ?_
      refine ih _ ⟨fun q hq => by rw [va_up_ne _ _ hq, hG.1 q hq], fun i hi => ?_, fun i hi => ?_⟩
      · show upd (G 71) (fr + k) (G 82 k) (fr + i) = _
        by_cases e : i = k
        · rw [e, pk_us, hG.1 82 (by decide)]
        · rw [pk_un (by omega)]
          exact hG.2.1 i (by omega)
      · show upd (G 71) (fr + k) (G 82 k) i = _
        rw [pk_un (by omega)]
        exact hG.2.2 i (by omega)
  have l0 := loop n 0 (Nat.zero_add _) J ⟨fun _ _ => rfl, fun i hi => absurd hi (by omega), fun _ _ => rfl⟩
  iterate 4 refine bs rfl ?_
  exact l0
theorem m_put72_83 {fr n : Nat} (h1 : fr + n ≤ 3) (h2 : n ≤ 3) : ∃ G, ax_cal E (d + 1) n_X12_put [.ref 72, .int (nI fr), .ref 83, .int (nI n)] (ax_h J) = some (none, ax_h G) ∧ ps_put J G 72 83 fr n := by
  suffices H : ∃ r g, ax_cal E (d + 1) n_X12_put [.ref 72, .int (nI fr), .ref 83, .int (nI n)] (ax_h J) = some (r, g) ∧ (r = none ∧ ∃ G, g = ax_h G ∧ ps_put J G 72 83 fr n) by
    obtain ⟨r, g, e, rfl, G, rfl, h⟩ := H
    exact ⟨G, e, h⟩
  refine ax_ofQ (t := t_X12_put) (ls := [.ref 72, .int (nI fr), .ref 83, .int (nI n), .float 0]) rfl ⟨rfl, Nat.le_of_ble_eq_true rfl⟩ rfl ?_
  have loop : ∀ (j k : Nat), k + j = n → ∀ G : Nat → Nat → Int32, ps_put J G 72 83 fr k → AW E (ax_cal E d) t_X12_put (6, [.ref 72, .int (nI fr), .ref 83, .int (nI n), .int (nI k)], [.int (nI n), .int (nI k)], ax_h G) (fun r g => r = none ∧ ∃ G, g = ax_h G ∧ ps_put J G 72 83 fr n) := by
    intro j
    induction j with
    | zero =>
      intro k hk G hG
      refine bt rfl (nI_le (by omega) (by omega)) ?_
      repeat refine bs rfl ?_
      exact br rfl ⟨rfl, G, rfl, by rw [show n = k by omega]; exact hG⟩
    | succ j ih =>
      intro k hk G hG
      have ih := ih (k + 1) (by omega)
      rw [nI_succ] at ih
      refine bf rfl (nI_ge (by omega) (by omega)) ?_
      repeat (first | refine bs rfl ?_ | refine bld rfl _ rfl (by omega) (by omega) ?_)
      refine bsto rfl (fr + k) (nI_add _ _) (by omega) (by omega) ?_
      repeat refine bs rfl ?_
      refine ih _ ⟨fun q hq => by rw [va_up_ne _ _ hq, hG.1 q hq], fun i hi => ?_, fun i hi => ?_⟩
      · show upd (G 72) (fr + k) (G 83 k) (fr + i) = _
        by_cases e : i = k
        · rw [e, pk_us, hG.1 83 (by decide)]
        · rw [pk_un (by omega)]
          exact hG.2.1 i (by omega)
      · show upd (G 72) (fr + k) (G 83 k) i = _
        rw [pk_un (by omega)]
        exact hG.2.2 i (by omega)
  have l0 := loop n 0 (Nat.zero_add _) J ⟨fun _ _ => rfl, fun i hi => absurd hi (by omega), fun _ _ => rfl⟩
  iterate 4 refine bs rfl ?_
  exact l0
theorem m_put73_84 {fr n : Nat} (h1 : fr + n ≤ 12) (h2 : n ≤ 12) : ∃ G, ax_cal E (d + 1) n_X12_put [.ref 73, .int (nI fr), .ref 84, .int (nI n)] (ax_h J) = some (none, ax_h G) ∧ ps_put J G 73 84 fr n := by
  suffices H : ∃ r g, ax_cal E (d + 1) n_X12_put [.ref 73, .int (nI fr), .ref 84, .int (nI n)] (ax_h J) = some (r, g) ∧ (r = none ∧ ∃ G, g = ax_h G ∧ ps_put J G 73 84 fr n) by
    obtain ⟨r, g, e, rfl, G, rfl, h⟩ := H
    exact ⟨G, e, h⟩
  refine ax_ofQ (t := t_X12_put) (ls := [.ref 73, .int (nI fr), .ref 84, .int (nI n), .float 0]) rfl ⟨rfl, Nat.le_of_ble_eq_true rfl⟩ rfl ?_
  have loop : ∀ (j k : Nat), k + j = n → ∀ G : Nat → Nat → Int32, ps_put J G 73 84 fr k → AW E (ax_cal E d) t_X12_put (6, [.ref 73, .int (nI fr), .ref 84, .int (nI n), .int (nI k)], [.int (nI n), .int (nI k)], ax_h G) (fun r g => r = none ∧ ∃ G, g = ax_h G ∧ ps_put J G 73 84 fr n) := by
    intro j
    induction j with
    | zero =>
      intro k hk G hG
      refine bt rfl (nI_le (by omega) (by omega)) ?_
      repeat refine bs rfl ?_
      exact br rfl ⟨rfl, G, rfl, by rw [show n = k by omega]; exact hG⟩
    | succ j ih =>
      intro k hk G hG
      have ih := ih (k + 1) (by omega)
      rw [nI_succ] at ih
      refine bf rfl (nI_ge (by omega) (by omega)) ?_
      repeat (first | refine bs rfl ?_ | refine bld rfl _ rfl (by omega) (by omega) ?_)
      refine bsto rfl (fr + k) (nI_add _ _) (by omega) (by omega) ?_
      repeat refine bs rfl ?_
      refine ih _ ⟨fun q hq => by rw [va_up_ne _ _ hq, hG.1 q hq], fun i hi => ?_, fun i hi => ?_⟩
      · show upd (G 73) (fr + k) (G 84 k) (fr + i) = _
        by_cases e : i = k
        · rw [e, pk_us, hG.1 84 (by decide)]
        · rw [pk_un (by omega)]
          exact hG.2.1 i (by omega)
      · show upd (G 73) (fr + k) (G 84 k) i = _
        rw [pk_un (by omega)]
        exact hG.2.2 i (by omega)
  have l0 := loop n 0 (Nat.zero_add _) J ⟨fun _ _ => rfl, fun i hi => absurd hi (by omega), fun _ _ => rfl⟩
  iterate 4 refine bs rfl ?_
  exact l0
theorem m_put74_85 {fr n : Nat} (h1 : fr + n ≤ 34) (h2 : n ≤ 34) : ∃ G, ax_cal E (d + 1) n_X12_put [.ref 74, .int (nI fr), .ref 85, .int (nI n)] (ax_h J) = some (none, ax_h G) ∧ ps_put J G 74 85 fr n := by
  suffices H : ∃ r g, ax_cal E (d + 1) n_X12_put [.ref 74, .int (nI fr), .ref 85, .int (nI n)] (ax_h J) = some (r, g) ∧ (r = none ∧ ∃ G, g = ax_h G ∧ ps_put J G 74 85 fr n) by
    obtain ⟨r, g, e, rfl, G, rfl, h⟩ := H
    exact ⟨G, e, h⟩
  refine ax_ofQ (t := t_X12_put) (ls := [.ref 74, .int (nI fr), .ref 85, .int (nI n), .float 0]) rfl ⟨rfl, Nat.le_of_ble_eq_true rfl⟩ rfl ?_
  have loop : ∀ (j k : Nat), k + j = n → ∀ G : Nat → Nat → Int32, ps_put J G 74 85 fr k → AW E (ax_cal E d) t_X12_put (6, [.ref 74, .int (nI fr), .ref 85, .int (nI n), .int (nI k)], [.int (nI n), .int (nI k)], ax_h G) (fun r g => r = none ∧ ∃ G, g = ax_h G ∧ ps_put J G 74 85 fr n) := by
    intro j
    induction j with
    | zero =>
      intro k hk G hG
      refine bt rfl (nI_le (by omega) (by omega)) ?_
      repeat refine bs rfl ?_
      exact br rfl ⟨rfl, G, rfl, by rw [show n = k by omega]; exact hG⟩
    | succ j ih =>
      intro k hk G hG
      have ih := ih (k + 1) (by omega)
      rw [nI_succ] at ih
      refine bf rfl (nI_ge (by omega) (by omega)) ?_
      repeat (first | refine bs rfl ?_ | refine bld rfl _ rfl (by omega) (by omega) ?_)
      refine bsto rfl (fr + k) (nI_add _ _) (by omega) (by omega) ?_
      repeat refine bs rfl ?_
      refine ih _ ⟨fun q hq => by rw [va_up_ne _ _ hq, hG.1 q hq], fun i hi => ?_, fun i hi => ?_⟩
      · show upd (G 74) (fr + k) (G 85 k) (fr + i) = _
        by_cases e : i = k
        · rw [e, pk_us, hG.1 85 (by decide)]
        · rw [pk_un (by omega)]
          exact hG.2.1 i (by omega)
      · show upd (G 74) (fr + k) (G 85 k) i = _
        rw [pk_un (by omega)]
        exact hG.2.2 i (by omega)
  have l0 := loop n 0 (Nat.zero_add _) J ⟨fun _ _ => rfl, fun i hi => absurd hi (by omega), fun _ _ => rfl⟩
  iterate 4 refine bs rfl ?_
  exact l0
end PUT
