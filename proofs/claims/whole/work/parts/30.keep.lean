/-! contracts: keep, back -/
section KC
variable {E : ax_E} {d : Nat} {tl : List (Nat × Nat)} {rtl : List (List (Option Nat))} {J : Nat → Nat → Int32}
/-- a state of the class is laid into another: G is J but for that -/
def CPY (J G : Nat → Nat → Int32) (a o : Nat) : Prop := (∀ q, q ≠ o → q ≠ o + 1 → q ≠ o + 2 → q ≠ o + 3 → q ≠ o + 4 → G q = J q) ∧ G o 4 = J a 4 ∧ (∀ k, k < 6 → G (o + 1) k = J (a + 1) k) ∧ ∀ k, k < 9 → G (o + 2) k = J (a + 2) k ∧ G (o + 3) k = J (a + 3) k ∧ G (o + 4) k = J (a + 4) k
theorem c_copy10_35 : ∃ G, ax_cal E (d + 1) n_X5_copyFrom [.ref 10, .ref 35] (ax_hC tl rtl J) = some (none, ax_hC tl rtl G) ∧ CPY J G 35 10 := by
  suffices H : ∃ r g, ax_cal E (d + 1) n_X5_copyFrom [.ref 10, .ref 35] (ax_hC tl rtl J) = some (r, g) ∧ (r = none ∧ ∃ G, g = ax_hC tl rtl G ∧ CPY J G 35 10) by
    obtain ⟨r, g, e, rfl, G, rfl, h⟩ := H
    exact ⟨G, e, h⟩
  refine ax_ofQ (t := t_X5_copyFrom) (ls := [.ref 10, .ref 35]) rfl ⟨rfl, Nat.le_of_ble_eq_true rfl⟩ rfl ?_
  repeat refine bs rfl ?_
  refine br rfl ⟨rfl, _, rfl, ?_, ?_, ?_, ?_⟩
  · intro q a b c e f
    rw [va_up_ne _ _ a, va_up_ne _ _ f, va_up_ne _ _ e, va_up_ne _ _ c, va_up_ne _ _ b]
  · rfl
  · intro k hk
    show va_cpy (J 36) (J 11) 0 0 6 k = _
    exact sb_cpy0 hk
  · intro k hk
    refine ⟨?_, ?_, ?_⟩
    · show va_cpy (J 37) (J 12) 0 0 9 k = _
      exact sb_cpy0 hk
    · show va_cpy (J 38) (J 13) 0 0 9 k = _
      exact sb_cpy0 hk
    · show va_cpy (J 39) (J 14) 0 0 9 k = _
      exact sb_cpy0 hk
theorem c_copy15_35 : ∃ G, ax_cal E (d + 1) n_X5_copyFrom [.ref 15, .ref 35] (ax_hC tl rtl J) = some (none, ax_hC tl rtl G) ∧ CPY J G 35 15 := by
  suffices H : ∃ r g, ax_cal E (d + 1) n_X5_copyFrom [.ref 15, .ref 35] (ax_hC tl rtl J) = some (r, g) ∧ (r = none ∧ ∃ G, g = ax_hC tl rtl G ∧ CPY J G 35 15) by
    obtain ⟨r, g, e, rfl, G, rfl, h⟩ := H
    exact ⟨G, e, h⟩
  refine ax_ofQ (t := t_X5_copyFrom) (ls := [.ref 15, .ref 35]) rfl ⟨rfl, Nat.le_of_ble_eq_true rfl⟩ rfl ?_
  repeat refine bs rfl ?_
  refine br rfl ⟨rfl, _, rfl, ?_, ?_, ?_, ?_⟩
  · intro q a b c e f
    rw [va_up_ne _ _ a, va_up_ne _ _ f, va_up_ne _ _ e, va_up_ne _ _ c, va_up_ne _ _ b]
  · rfl
  · intro k hk
    show va_cpy (J 36) (J 16) 0 0 6 k = _
    exact sb_cpy0 hk
  · intro k hk
    refine ⟨?_, ?_, ?_⟩
    · show va_cpy (J 37) (J 17) 0 0 9 k = _
      exact sb_cpy0 hk
    · show va_cpy (J 38) (J 18) 0 0 9 k = _
      exact sb_cpy0 hk
    · show va_cpy (J 39) (J 19) 0 0 9 k = _
      exact sb_cpy0 hk
theorem c_copy35_10 : ∃ G, ax_cal E (d + 1) n_X5_copyFrom [.ref 35, .ref 10] (ax_hC tl rtl J) = some (none, ax_hC tl rtl G) ∧ CPY J G 10 35 := by
  suffices H : ∃ r g, ax_cal E (d + 1) n_X5_copyFrom [.ref 35, .ref 10] (ax_hC tl rtl J) = some (r, g) ∧ (r = none ∧ ∃ G, g = ax_hC tl rtl G ∧ CPY J G 10 35) by
    obtain ⟨r, g, e, rfl, G, rfl, h⟩ := H
    exact ⟨G, e, h⟩
  refine ax_ofQ (t := t_X5_copyFrom) (ls := [.ref 35, .ref 10]) rfl ⟨rfl, Nat.le_of_ble_eq_true rfl⟩ rfl ?_
  repeat refine bs rfl ?_
  refine br rfl ⟨rfl, _, rfl, ?_, ?_, ?_, ?_⟩
  · intro q a b c e f
    rw [va_up_ne _ _ a, va_up_ne _ _ f, va_up_ne _ _ e, va_up_ne _ _ c, va_up_ne _ _ b]
  · rfl
  · intro k hk
    show va_cpy (J 11) (J 36) 0 0 6 k = _
    exact sb_cpy0 hk
  · intro k hk
    refine ⟨?_, ?_, ?_⟩
    · show va_cpy (J 12) (J 37) 0 0 9 k = _
      exact sb_cpy0 hk
    · show va_cpy (J 13) (J 38) 0 0 9 k = _
      exact sb_cpy0 hk
    · show va_cpy (J 14) (J 39) 0 0 9 k = _
      exact sb_cpy0 hk
theorem c_copy35_15 : ∃ G, ax_cal E (d + 1) n_X5_copyFrom [.ref 35, .ref 15] (ax_hC tl rtl J) = some (none, ax_hC tl rtl G) ∧ CPY J G 15 35 := by
  suffices H : ∃ r g, ax_cal E (d + 1) n_X5_copyFrom [.ref 35, .ref 15] (ax_hC tl rtl J) = some (r, g) ∧ (r = none ∧ ∃ G, g = ax_hC tl rtl G ∧ CPY J G 15 35) by
    obtain ⟨r, g, e, rfl, G, rfl, h⟩ := H
    exact ⟨G, e, h⟩
  refine ax_ofQ (t := t_X5_copyFrom) (ls := [.ref 35, .ref 15]) rfl ⟨rfl, Nat.le_of_ble_eq_true rfl⟩ rfl ?_
  repeat refine bs rfl ?_
  refine br rfl ⟨rfl, _, rfl, ?_, ?_, ?_, ?_⟩
  · intro q a b c e f
    rw [va_up_ne _ _ a, va_up_ne _ _ f, va_up_ne _ _ e, va_up_ne _ _ c, va_up_ne _ _ b]
  · rfl
  · intro k hk
    show va_cpy (J 16) (J 36) 0 0 6 k = _
    exact sb_cpy0 hk
  · intro k hk
    refine ⟨?_, ?_, ?_⟩
    · show va_cpy (J 17) (J 37) 0 0 9 k = _
      exact sb_cpy0 hk
    · show va_cpy (J 18) (J 38) 0 0 9 k = _
      exact sb_cpy0 hk
    · show va_cpy (J 19) (J 39) 0 0 9 k = _
      exact sb_cpy0 hk
theorem c_keepF (hm : J 8 1 = 2) : ax_cal E (d + 3) n_X11_keep [.ref 0] (ax_hC tl rtl J) = some (some (.int (-3)), ax_hC tl rtl J) := by
  have e : ax_cal E (d + 2) n_X2_add [.ref 8, .ref 35] (ax_hC tl rtl J) = some (some (.int 0), ax_hC tl rtl J) := by
    refine ax_of (t := t_X2_add) (ls := [.ref 8, .ref 35]) rfl ⟨rfl, Nat.le_of_ble_eq_true rfl⟩ rfl ?_
    repeat refine bs rfl ?_
    rw [hm]
    repeat refine bs rfl ?_
    exact br rfl ⟨rfl, rfl⟩
  refine ax_of (t := t_X11_keep) (ls := [.ref 0]) rfl ⟨rfl, Nat.le_of_ble_eq_true rfl⟩ rfl ?_
  repeat refine bs rfl ?_
  refine bc rfl e ?_
  repeat refine bs rfl ?_
  exact br rfl ⟨rfl, rfl⟩
theorem c_keep0 (hm : J 8 1 = 0) : ∃ G, ax_cal E (d + 3) n_X11_keep [.ref 0] (ax_hC tl rtl J) = some (some (.int 1), ax_hC tl rtl (va_up G 8 (upd (J 8) 1 1))) ∧ CPY J G 35 10 := by
  obtain ⟨G, eG, hG⟩ := c_copy10_35 (E := E) (d := d) (tl := tl) (rtl := rtl) (J := J)
  have h8 : G 8 = J 8 := hG.1 8 (by decide) (by decide) (by decide) (by decide) (by decide)
  refine ⟨G, ?_, hG⟩
  have e : ax_cal E (d + 2) n_X2_add [.ref 8, .ref 35] (ax_hC tl rtl J) = some (some (.int 1), ax_hC tl rtl (va_up G 8 (upd (J 8) 1 1))) := by
    refine ax_of (t := t_X2_add) (ls := [.ref 8, .ref 35]) rfl ⟨rfl, Nat.le_of_ble_eq_true rfl⟩ rfl ?_
    repeat refine bs rfl ?_
    rw [hm]
    repeat refine bs rfl ?_
    rw [hm]
    repeat refine bs rfl ?_
    refine bc rfl eG ?_
    repeat refine bs rfl ?_
    refine br rfl ⟨rfl, ?_⟩
    rw [h8, hm]
    rfl
  refine ax_of (t := t_X11_keep) (ls := [.ref 0]) rfl ⟨rfl, Nat.le_of_ble_eq_true rfl⟩ rfl ?_
  repeat refine bs rfl ?_
  refine bc rfl e ?_
  repeat refine bs rfl ?_
  exact br rfl ⟨rfl, rfl⟩
theorem c_keep1 (hm : J 8 1 = 1) : ∃ G, ax_cal E (d + 3) n_X11_keep [.ref 0] (ax_hC tl rtl J) = some (some (.int 2), ax_hC tl rtl (va_up G 8 (upd (J 8) 1 2))) ∧ CPY J G 35 15 := by
  obtain ⟨G, eG, hG⟩ := c_copy15_35 (E := E) (d := d) (tl := tl) (rtl := rtl) (J := J)
  have h8 : G 8 = J 8 := hG.1 8 (by decide) (by decide) (by decide) (by decide) (by decide)
  refine ⟨G, ?_, hG⟩
  have e : ax_cal E (d + 2) n_X2_add [.ref 8, .ref 35] (ax_hC tl rtl J) = some (some (.int 1), ax_hC tl rtl (va_up G 8 (upd (J 8) 1 2))) := by
    refine ax_of (t := t_X2_add) (ls := [.ref 8, .ref 35]) rfl ⟨rfl, Nat.le_of_ble_eq_true rfl⟩ rfl ?_
    repeat refine bs rfl ?_
    rw [hm]
    repeat refine bs rfl ?_
    rw [hm]
    repeat refine bs rfl ?_
    refine bc rfl eG ?_
    repeat refine bs rfl ?_
    refine br rfl ⟨rfl, ?_⟩
    rw [h8, hm]
    rfl
  refine ax_of (t := t_X11_keep) (ls := [.ref 0]) rfl ⟨rfl, Nat.le_of_ble_eq_true rfl⟩ rfl ?_
  repeat refine bs rfl ?_
  refine bc rfl e ?_
  repeat refine bs rfl ?_
  exact br rfl ⟨rfl, rfl⟩
theorem c_backF (hm : J 8 1 = 0) : ax_cal E (d + 3) n_X11_back [.ref 0] (ax_hC tl rtl J) = some (some (.int (-2)), ax_hC tl rtl J) := by
  have e : ax_cal E (d + 2) n_X2_restore [.ref 8, .ref 35] (ax_hC tl rtl J) = some (some (.int 0), ax_hC tl rtl J) := by
    refine ax_of (t := t_X2_restore) (ls := [.ref 8, .ref 35]) rfl ⟨rfl, Nat.le_of_ble_eq_true rfl⟩ rfl ?_
    repeat refine bs rfl ?_
    rw [hm]
    repeat refine bs rfl ?_
    exact br rfl ⟨rfl, rfl⟩
  refine ax_of (t := t_X11_back) (ls := [.ref 0]) rfl ⟨rfl, Nat.le_of_ble_eq_true rfl⟩ rfl ?_
  repeat refine bs rfl ?_
  refine bc rfl e ?_
  repeat refine bs rfl ?_
  exact br rfl ⟨rfl, rfl⟩
theorem c_back1 (hm : J 8 1 = 1) : ∃ G, ax_cal E (d + 3) n_X11_back [.ref 0] (ax_hC tl rtl J) = some (some (.int 0), ax_hC tl rtl (va_up G 5 (upd (J 5) 2 0))) ∧ CPY (va_up J 8 (upd (J 8) 1 0)) G 10 35 := by
  obtain ⟨G, eG, hG⟩ := c_copy35_10 (E := E) (d := d) (tl := tl) (rtl := rtl) (J := va_up J 8 (upd (J 8) 1 0))
  have h8 : G 8 = upd (J 8) 1 0 := hG.1 8 (by decide) (by decide) (by decide) (by decide) (by decide)
  have h5 : G 5 = J 5 := hG.1 5 (by decide) (by decide) (by decide) (by decide) (by decide)
  refine ⟨G, ?_, hG⟩
  have e : ax_cal E (d + 2) n_X2_restore [.ref 8, .ref 35] (ax_hC tl rtl J) = some (some (.int 1), ax_hC tl rtl G) := by
    refine ax_of (t := t_X2_restore) (ls := [.ref 8, .ref 35]) rfl ⟨rfl, Nat.le_of_ble_eq_true rfl⟩ rfl ?_
    iterate 2 refine bs rfl ?_
    refine bf rfl (by rw [hm]; decide) ?_
    repeat refine bs rfl ?_
    rw [hm]
    repeat refine bs rfl ?_
    refine bc rfl eG ?_
    repeat refine bs rfl ?_
    exact br rfl ⟨rfl, rfl⟩
  refine ax_of (t := t_X11_back) (ls := [.ref 0]) rfl ⟨rfl, Nat.le_of_ble_eq_true rfl⟩ rfl ?_
  repeat refine bs rfl ?_
  refine bc rfl e ?_
  repeat refine bs rfl ?_
  refine br rfl ⟨?_, ?_⟩
  · show some (Value.int (G 8 1)) = _
    rw [h8]
    rfl
  · rw [h5]
theorem c_back2 (hm : J 8 1 = 2) : ∃ G, ax_cal E (d + 3) n_X11_back [.ref 0] (ax_hC tl rtl J) = some (some (.int 1), ax_hC tl rtl (va_up G 5 (upd (J 5) 2 0))) ∧ CPY (va_up J 8 (upd (J 8) 1 1)) G 15 35 := by
  obtain ⟨G, eG, hG⟩ := c_copy35_15 (E := E) (d := d) (tl := tl) (rtl := rtl) (J := va_up J 8 (upd (J 8) 1 1))
  have h8 : G 8 = upd (J 8) 1 1 := hG.1 8 (by decide) (by decide) (by decide) (by decide) (by decide)
  have h5 : G 5 = J 5 := hG.1 5 (by decide) (by decide) (by decide) (by decide) (by decide)
  refine ⟨G, ?_, hG⟩
  have e : ax_cal E (d + 2) n_X2_restore [.ref 8, .ref 35] (ax_hC tl rtl J) = some (some (.int 1), ax_hC tl rtl G) := by
    refine ax_of (t := t_X2_restore) (ls := [.ref 8, .ref 35]) rfl ⟨rfl, Nat.le_of_ble_eq_true rfl⟩ rfl ?_
    iterate 2 refine bs rfl ?_
    refine bf rfl (by rw [hm]; decide) ?_
    repeat refine bs rfl ?_
    rw [hm]
    repeat refine bs rfl ?_
    refine bc rfl eG ?_
    repeat refine bs rfl ?_
    exact br rfl ⟨rfl, rfl⟩
  refine ax_of (t := t_X11_back) (ls := [.ref 0]) rfl ⟨rfl, Nat.le_of_ble_eq_true rfl⟩ rfl ?_
  repeat refine bs rfl ?_
  refine bc rfl e ?_
  repeat refine bs rfl ?_
  refine br rfl ⟨?_, ?_⟩
  · show some (Value.int (G 8 1)) = _
    rw [h8]
    rfl
  · rw [h5]
end KC
section KM
variable {E : ax_E} {d : Nat} {J : Nat → Nat → Int32}
theorem m_keepF (hm : J 68 13 = 2) : ax_cal E (d + 1) n_X12_keep [.ref 68] (ax_h J) = some (some (.int (-3)), ax_h J) := by
  refine ax_of (t := t_X12_keep) (ls := [.ref 68, .float 0]) rfl ⟨rfl, Nat.le_of_ble_eq_true rfl⟩ rfl ?_
  repeat refine bs rfl ?_
  refine bt rfl hm ?_
  repeat refine bs rfl ?_
  exact br rfl ⟨rfl, rfl⟩
theorem m_keep {m : Nat} (hm : J 68 13 = nI m) (h2 : m < 2) : ∃ G, ax_cal E (d + 1) n_X12_keep [.ref 68] (ax_h J) = some (some (.int (nI (m + 1))), ax_h G) ∧ (∀ q, q ≠ 68 → q ≠ 76 → G q = J q) ∧ (∀ k, k ≠ 13 → G 68 k = J 68 k) ∧ G 68 13 = nI (m + 1) ∧ (∀ k, k < 34 * m → G 76 k = J 76 k) ∧ ∀ k, k < 34 → G 76 (34 * m + k) = J 74 k := by
  suffices H : ∃ r g, ax_cal E (d + 1) n_X12_keep [.ref 68] (ax_h J) = some (r, g) ∧ (r = some (.int (nI (m + 1))) ∧ ∃ G, g = ax_h G ∧ (∀ q, q ≠ 68 → q ≠ 76 → G q = J q) ∧ (∀ k, k ≠ 13 → G 68 k = J 68 k) ∧ G 68 13 = nI (m + 1) ∧ (∀ k, k < 34 * m → G 76 k = J 76 k) ∧ ∀ k, k < 34 → G 76 (34 * m + k) = J 74 k) by
    obtain ⟨r, g, e, rfl, G, rfl, h⟩ := H
    exact ⟨G, e, h⟩
  refine ax_ofQ (t := t_X12_keep) (ls := [.ref 68, .float 0]) rfl ⟨rfl, Nat.le_of_ble_eq_true rfl⟩ rfl ?_
  have loop : ∀ (j n : Nat), n + j = 34 → ∀ G : Nat → Nat → Int32, (∀ q, q ≠ 76 → G q = J q) → (∀ k, k < 34 * m → G 76 k = J 76 k) → (∀ k, k < n → G 76 (34 * m + k) = J 74 k) → AW E (ax_cal E d) t_X12_keep (16, [.ref 68, .int (nI n)], [.int 34, .int (nI n)], ax_h G) (fun r g => r = some (.int (nI (m + 1))) ∧ ∃ G, g = ax_h G ∧ (∀ q, q ≠ 68 → q ≠ 76 → G q = J q) ∧ (∀ k, k ≠ 13 → G 68 k = J 68 k) ∧ G 68 13 = nI (m + 1) ∧ (∀ k, k < 34 * m → G 76 k = J 76 k) ∧ ∀ k, k < 34 → G 76 (34 * m + k) = J 74 k) := by
    intro j
    induction j with
    | zero =>
      intro n hn G h1 h3 h4
      have h68 : G 68 = J 68 := h1 68 (by decide)
      refine bt rfl (nI_le (a := 34) (b := n) (by omega) (by omega)) ?_
      repeat refine bs rfl ?_
      refine br rfl ⟨?_, _, rfl, ?_, ?_, ?_, h3, fun k hk => h4 k (by omega)⟩
      · show some (Value.int (G 68 13 + 1)) = _
        rw [h68, hm, nI_1]
      · intro q a b
        rw [va_up_ne _ _ a, h1 q b]
      · intro k hk
        show upd (G 68) 13 _ k = _
        rw [pk_un hk, h68]
      · show G 68 13 + 1 = _
        rw [h68, hm, nI_1]
    | succ j ih =>
      intro n hn G h1 h3 h4
      have h68 : G 68 = J 68 := h1 68 (by decide)
      have h74 : G 74 = J 74 := h1 74 (by decide)
      have ih := ih (n + 1) (by omega)
      rw [nI_succ] at ih
      refine bf rfl (nI_ge (b := 34) (a := n) (by omega) (by omega)) ?_
      repeat (first | refine bs rfl ?_ | refine bld rfl _ rfl (by omega) (by omega) ?_)
      refine bsto rfl (34 * m + n) (by rw [h68, hm]; exact ix_34 m n) (by omega) (by omega) ?_
      repeat refine bs rfl ?_
      refine ih _ ?_ ?_ ?_
      · intro q a
        rw [va_up_ne _ _ a, h1 q a]
      · intro k hk
        show upd (G 76) (34 * m + n) (G 74 n) k = _
        rw [pk_un (by omega), h3 k hk]
      · intro k hk
        show upd (G 76) (34 * m + n) (G 74 n) (34 * m + k) = _
        by_cases e : k = n
        · subst e
          rw [pk_us, h74]
        · rw [pk_un (by omega)]
          exact h4 k (by omega)
  iterate 3 refine bs rfl ?_
  refine bf rfl (by rw [hm]; exact fun q => absurd ((nI_eq (b := 2) (by omega) (by omega)).mp q) (by omega)) ?_
  iterate 4 refine bs rfl ?_
  exact loop 34 0 rfl J (fun q _ => rfl) (fun k _ => rfl) (fun k hk => absurd hk (by omega))
theorem m_backF (hm : J 68 13 = 0) : ax_cal E (d + 1) n_X12_back [.ref 68] (ax_h J) = some (some (.int (-2)), ax_h J) := by
  refine ax_of (t := t_X12_back) (ls := [.ref 68, .float 0]) rfl ⟨rfl, Nat.le_of_ble_eq_true rfl⟩ rfl ?_
  repeat refine bs rfl ?_
  refine bt rfl hm ?_
  repeat refine bs rfl ?_
  exact br rfl ⟨rfl, rfl⟩
theorem m_back {m : Nat} (hm : J 68 13 = nI (m + 1)) (h8 : m < 2) : ∃ G, ax_cal E (d + 1) n_X12_back [.ref 68] (ax_h J) = some (some (.int (nI m)), ax_h G) ∧ (∀ q, q ≠ 68 → q ≠ 74 → G q = J q) ∧ (∀ k, k ≠ 11 → k ≠ 13 → G 68 k = J 68 k) ∧ G 68 13 = nI m ∧ G 68 11 = 0 ∧ ∀ k, k < 34 → G 74 k = J 76 (34 * m + k) := by
  suffices H : ∃ r g, ax_cal E (d + 1) n_X12_back [.ref 68] (ax_h J) = some (r, g) ∧ (r = some (.int (nI m)) ∧ ∃ G, g = ax_h G ∧ (∀ q, q ≠ 68 → q ≠ 74 → G q = J q) ∧ (∀ k, k ≠ 11 → k ≠ 13 → G 68 k = J 68 k) ∧ G 68 13 = nI m ∧ G 68 11 = 0 ∧ ∀ k, k < 34 → G 74 k = J 76 (34 * m + k)) by
    obtain ⟨r, g, e, rfl, G, rfl, h⟩ := H
    exact ⟨G, e, h⟩
  refine ax_ofQ (t := t_X12_back) (ls := [.ref 68, .float 0]) rfl ⟨rfl, Nat.le_of_ble_eq_true rfl⟩ rfl ?_
  have loop : ∀ (j n : Nat), n + j = 34 → ∀ G : Nat → Nat → Int32, (∀ q, q ≠ 68 → q ≠ 74 → G q = J q) → (∀ k, k ≠ 13 → G 68 k = J 68 k) → G 68 13 = nI m → (∀ k, k < n → G 74 k = J 76 (34 * m + k)) → AW E (ax_cal E d) t_X12_back (25, [.ref 68, .int (nI n)], [.int 34, .int (nI n)], ax_h G) (fun r g => r = some (.int (nI m)) ∧ ∃ G, g = ax_h G ∧ (∀ q, q ≠ 68 → q ≠ 74 → G q = J q) ∧ (∀ k, k ≠ 11 → k ≠ 13 → G 68 k = J 68 k) ∧ G 68 13 = nI m ∧ G 68 11 = 0 ∧ ∀ k, k < 34 → G 74 k = J 76 (34 * m + k)) := by
    intro j
    induction j with
    | zero =>
      intro n hn G h1 h2 h3 h4
      refine bt rfl (nI_le (a := 34) (b := n) (by omega) (by omega)) ?_
      repeat refine bs rfl ?_
      refine br rfl ⟨?_, _, rfl, ?_, ?_, h3, rfl, fun k hk => h4 k (by omega)⟩
      · show some (Value.int (G 68 13)) = _
        rw [h3]
      · intro q a b
        rw [va_up_ne _ _ a, h1 q a b]
      · intro k ha hb
        show upd (G 68) 11 _ k = _
        rw [pk_un ha, h2 k hb]
    | succ j ih =>
      intro n hn G h1 h2 h3 h4
      have ih := ih (n + 1) (by omega)
      rw [nI_succ] at ih
      refine bf rfl (nI_ge (b := 34) (a := n) (by omega) (by omega)) ?_
      repeat refine bs rfl ?_
      refine bld rfl (34 * m + n) (by rw [h3]; exact ix_34 m n) (by omega) (by omega) ?_
      refine bsto rfl n rfl (by omega) (by omega) ?_
      repeat refine bs rfl ?_
      refine ih _ ?_ h2 h3 ?_
      · intro q a b
        rw [va_up_ne _ _ b, h1 q a b]
      · intro k hk
        show upd (G 74) n (G 76 (34 * m + n)) k = _
        by_cases e : k = n
        · subst e
          rw [pk_us, h1 76 (by decide) (by decide)]
        · rw [pk_un e]
          exact h4 k (by omega)
  iterate 2 refine bs rfl ?_
  refine bf rfl (by rw [hm]; exact nI_ne0 (by omega) (by omega)) ?_
  iterate 10 refine bs rfl ?_
  refine loop 34 0 rfl _ ?_ ?_ ?_ ?_
  · intro q a b
    rw [va_up_ne _ _ a]
  · intro k hk
    show upd (J 68) 13 _ k = _
    rw [pk_un hk]
  · show J 68 13 - 1 = _
    rw [hm, nI_pred]
  · intro k hk
    omega
end KM
