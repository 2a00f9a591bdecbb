/-! contracts of the reference: nearest -/
section WM
variable {E : ax_E} {d : Nat} {J : Nat → Nat → Int32} {N : Nat → Nat} {V : Nat → Nat → Int32}
theorem m_nearest (hok : sp_Ok N V) (hr : RM J N V) {s : Nat} (hs : s < 64) (t : Int32) : ∃ b : Int32, ax_cal E (d + 6) n_X12_nearest [.ref 68, .int (nI s), .int t] (ax_h J) = some (some (.int b), ax_h J) ∧ ((b = -4 ∧ ∀ i, i < N 0 → s.testBit i = false) ∨ ∃ a, a < N 0 ∧ b = nI a ∧ s.testBit a = true ∧ ∀ i, i < N 0 → s.testBit i = true → (sp_high N V a t).toInt ≤ (sp_high N V i t).toInt) := by
  suffices H : ∃ r g, ax_cal E (d + 6) n_X12_nearest [.ref 68, .int (nI s), .int t] (ax_h J) = some (r, g) ∧ (g = ax_h J ∧ ∃ b : Int32, r = some (.int b) ∧ ((b = -4 ∧ ∀ i, i < N 0 → s.testBit i = false) ∨ ∃ a, a < N 0 ∧ b = nI a ∧ s.testBit a = true ∧ ∀ i, i < N 0 → s.testBit i = true → (sp_high N V a t).toInt ≤ (sp_high N V i t).toInt)) by
    obtain ⟨r, g, e, rfl, b, rfl, h⟩ := H
    exact ⟨b, e, h⟩
  have h6 := hok.1
  have hn : J 68 0 = nI (N 0) := hr.1
  refine ax_ofQ (t := t_X12_nearest) (ls := [.ref 68, .int (nI s), .int t, .float 0, .float 0]) rfl ⟨rfl, Nat.le_of_ble_eq_true rfl⟩ rfl ?_
  have loop : ∀ (j n : Nat), n + j = N 0 → ∀ b : Int32, ((b = -4 ∧ ∀ i, i < n → s.testBit i = false) ∨ ∃ a, a < n ∧ b = nI a ∧ s.testBit a = true ∧ ∀ i, i < n → s.testBit i = true → (sp_high N V a t).toInt ≤ (sp_high N V i t).toInt) → AW E (ax_cal E (d + 5)) t_X12_nearest (12, [.ref 68, .int (nI s), .int t, .int b, .int (nI n)], [.int (J 68 0), .int (nI n)], ax_h J) (fun r g => g = ax_h J ∧ ∃ b : Int32, r = some (.int b) ∧ ((b = -4 ∧ ∀ i, i < N 0 → s.testBit i = false) ∨ ∃ a, a < N 0 ∧ b = nI a ∧ s.testBit a = true ∧ ∀ i, i < N 0 → s.testBit i = true → (sp_high N V a t).toInt ≤ (sp_high N V i t).toInt)) := by
    intro j
    induction j with
    | zero =>
      intro n hn' b hb
      have e : n = N 0 := by omega
      subst e
      refine bt rfl (by rw [hn]; exact nI_le (by omega) (by omega)) ?_
      repeat refine bs rfl ?_
      exact br rfl ⟨rfl, b, rfl, hb⟩
    | succ j ih =>
      intro n hn' b hb
      have ih := ih (n + 1) (by omega)
      rw [nI_succ] at ih
      refine bf rfl (by rw [hn]; exact nI_ge (by omega) (by omega)) ?_
      repeat refine bs rfl ?_
      have hh := sp_hasN s hs n (by omega)
      refine bc rfl (c_has _ (nI s) (nI n)) ?_
      repeat refine bs rfl ?_
      refine bz rfl (fun p0 => ?_) (fun p0 => ?_)
      · have p : ¬ s.testBit n = true := fun q => p0 (hh.mpr q)
        have pf : s.testBit n = false := by cases hv : s.testBit n with
          | false => rfl
          | true => exact absurd hv p
        repeat refine bs rfl ?_
        refine ih b ?_
        rcases hb with ⟨rfl, hb⟩ | ⟨a, ha, rfl, h1, h2⟩
        · refine Or.inl ⟨rfl, fun i hi => ?_⟩
          by_cases e : i = n
          · rw [e]; exact pf
          · exact hb i (by omega)
        · refine Or.inr ⟨a, by omega, rfl, h1, fun i hi ht => ?_⟩
          by_cases e : i = n
          · rw [e, pf] at ht; exact Bool.noConfusion ht
          · exact h2 i (by omega) ht
      · have p : s.testBit n = true := hh.mp p0
        rcases hb with ⟨rfl, hb⟩ | ⟨a, ha, rfl, h1, h2⟩
        · repeat refine bs rfl ?_
          refine ih (nI n) (Or.inr ⟨n, by omega, rfl, p, fun i hi ht => ?_⟩)
          by_cases e : i = n
          · rw [e]; omega
          · rw [hb i (by omega)] at ht; exact Bool.noConfusion ht
        · repeat refine bs rfl ?_
          refine bf rfl (nI_m4 (by omega)) ?_
          repeat refine bs rfl ?_
          refine bc rfl (m_highAt hok hr (show n < N 0 by omega) t) ?_
          repeat refine bs rfl ?_
          refine bc rfl (m_highAt hok hr (show a < N 0 by omega) t) ?_
          repeat refine bs rfl ?_
          refine bb rfl (fun c1 => ?_) (fun c1 => ?_)
          · repeat refine bs rfl ?_
            refine ih (nI a) (Or.inr ⟨a, by omega, rfl, h1, fun i hi ht => ?_⟩)
            by_cases e : i = n
            · rw [e]; exact i_le.mp c1
            · exact h2 i (by omega) ht
          · repeat refine bs rfl ?_
            refine ih (nI n) (Or.inr ⟨n, by omega, rfl, p, fun i hi ht => ?_⟩)
            have c1' := i_lt.mp (Int32.not_le.mp c1)
            by_cases e : i = n
            · rw [e]; omega
            · have := h2 i (by omega) ht
              omega
  have l0 := loop (N 0) 0 (Nat.zero_add _) (-4) (Or.inl ⟨rfl, fun i hi => absurd hi (by omega)⟩)
  repeat refine bs rfl ?_
  exact l0
end WM
