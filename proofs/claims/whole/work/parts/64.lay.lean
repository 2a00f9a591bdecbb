/-! contracts: fault (class), lay -/
/-- the references when shop and draft have changed places -/
def ax_sw0 (R : Nat → Nat → Option Nat) : Nat → Nat → Option Nat := va_up (va_up R 0 (va_up (R 0) 7 (some 49))) 0 (va_up (va_up (R 0) 7 (some 49)) 8 (some 30))
section LYC
variable {E : ax_E} {d : Nat} {tl : List (Nat × Nat)} {rtl : List (List (Option Nat))} {J : Nat → Nat → Int32} {nt : Nat} {tx : Nat → Int32}
theorem c_fault (ht : RTc J nt tx) : ∃ G, ax_cal E (d + 5) n_X11_fault [.ref 0] (ax_hC tl rtl J) = some (some (.int (ps_ans (ps_all tx nt).1)), ax_hC tl rtl G) ∧ (∀ q, q ≠ 4 → (q < 49 ∨ 67 < q) → G q = J q) := by
  suffices H : ∃ r g, ax_cal E (d + 5) n_X11_fault [.ref 0] (ax_hC tl rtl J) = some (r, g) ∧ (r = some (.int (ps_ans (ps_all tx nt).1)) ∧ ∃ G, g = ax_hC tl rtl G ∧ (∀ q, q ≠ 4 → (q < 49 ∨ 67 < q) → G q = J q)) by
    obtain ⟨r, g, e, rfl, G, rfl, h⟩ := H
    exact ⟨G, e, h⟩
  obtain ⟨r, g, e, rfl, G, rfl, h, -⟩ := c_readInto49 (E := E) (d := d) (tl := tl) (rtl := rtl) ht
  refine ax_ofQ (t := t_X11_fault) (ls := [.ref 0]) rfl ⟨rfl, Nat.le_of_ble_eq_true rfl⟩ rfl ?_
  repeat refine bs rfl ?_
  refine bc rfl e ?_
  exact br rfl ⟨rfl, G, rfl, h⟩
theorem c_layB (ht : RTc J nt tx) (hb : (ps_all tx nt).1 ≠ none ∨ (ps_all tx nt).2.1 0 = 0) : ∃ G, ax_cal E (d + 5) n_X11_lay [.ref 0] (ax_hC tl rtl J) = some (some (.int (-2)), ax_hC tl rtl G) ∧ (∀ q, q ≠ 4 → (q < 49 ∨ 67 < q) → G q = J q) := by
  suffices H : ∃ r g, ax_cal E (d + 5) n_X11_lay [.ref 0] (ax_hC tl rtl J) = some (r, g) ∧ (r = some (.int (-2)) ∧ ∃ G, g = ax_hC tl rtl G ∧ (∀ q, q ≠ 4 → (q < 49 ∨ 67 < q) → G q = J q)) by
    obtain ⟨r, g, e, rfl, G, rfl, h⟩ := H
    exact ⟨G, e, h⟩
  obtain ⟨r, g, e, rfl, G, rfl, h, h2⟩ := c_readInto49 (E := E) (d := d) (tl := tl) (rtl := rtl) ht
  refine ax_ofQ (t := t_X11_lay) (ls := [.ref 0, .float 0]) rfl ⟨rfl, Nat.le_of_ble_eq_true rfl⟩ rfl ?_
  repeat refine bs rfl ?_
  refine bc rfl e ?_
  repeat refine bs rfl ?_
  cases hF : (ps_all tx nt).1 with
  | none =>
    have h3 := h2 hF
    have hn : G 50 8 = nI ((ps_all tx nt).2.1 0) := h3.1.1
    rcases hb with hb | hb
    · exact absurd hF hb
    · rw [hb] at hn
      repeat refine bs rfl ?_
      refine bt rfl hn ?_
      repeat refine bs rfl ?_
      exact br rfl ⟨rfl, G, rfl, h⟩
  | some p =>
    by_cases c : nI p = -4
    · exfalso
      have hlt : p < 2 ^ 31 := by
        have := ht.1
        have hle : ∀ (j p0 : Nat) (N : Nat → Nat) (V : Nat → Nat → Int32) (q : Nat), (ps_run tx nt j p0 N V).1 = some q → q < nt := by
          intro j
          induction j with
          | zero => intro p0 N V q hq; cases hq
          | succ j ih =>
            intro p0 N V q hq
            rw [ps_run] at hq
            by_cases c : p0 < nt
            · rw [if_pos c] at hq
              cases hi : ps_item tx nt p0 N V with
              | none =>
                rw [hi] at hq
                have hq : some p0 = some q := hq
                cases hq
                exact c
              | some x =>
                rw [hi] at hq
                exact ih x.1 x.2.1 x.2.2 q hq
            · rw [if_neg c] at hq
              cases hq
        have := hle _ _ _ _ _ hF
        omega
      exact nI_m4 hlt c
    · refine bf rfl c ?_
      repeat refine bs rfl ?_
      exact br rfl ⟨rfl, G, rfl, h⟩
theorem c_layY (ht : RTc J nt tx) (hF : (ps_all tx nt).1 = none) (h0 : (ps_all tx nt).2.1 0 ≠ 0) : ∃ G, ax_cal E (d + 5) n_X11_lay [.ref 0] (ax_hC tl rtl J) = some (some (.int (nI ((ps_all tx nt).2.1 0))), (ax_shC ++ tl, G, ax_sw0 (ax_Rt (ax_rC ++ rtl)))) ∧ RC 49 G (ps_all tx nt).2.1 (ps_all tx nt).2.2 ∧ sp_Ok (ps_all tx nt).2.1 (ps_all tx nt).2.2 ∧ (∀ q, q ≠ 4 → q ≠ 5 → q ≠ 8 → q ≠ 20 → q ≠ 23 → q ≠ 27 → (q < 49 ∨ 67 < q) → G q = J q) ∧ G 5 2 = 0 ∧ G 8 1 = 0 ∧ G 20 2 = 0 ∧ G 23 3 = 0 ∧ G 27 2 = 0 := by
  suffices H : ∃ r g, ax_cal E (d + 5) n_X11_lay [.ref 0] (ax_hC tl rtl J) = some (r, g) ∧ (r = some (.int (nI ((ps_all tx nt).2.1 0))) ∧ ∃ G, g = (ax_shC ++ tl, G, ax_sw0 (ax_Rt (ax_rC ++ rtl))) ∧ RC 49 G (ps_all tx nt).2.1 (ps_all tx nt).2.2 ∧ sp_Ok (ps_all tx nt).2.1 (ps_all tx nt).2.2 ∧ (∀ q, q ≠ 4 → q ≠ 5 → q ≠ 8 → q ≠ 20 → q ≠ 23 → q ≠ 27 → (q < 49 ∨ 67 < q) → G q = J q) ∧ G 5 2 = 0 ∧ G 8 1 = 0 ∧ G 20 2 = 0 ∧ G 23 3 = 0 ∧ G 27 2 = 0) by
    obtain ⟨r, g, e, rfl, G, rfl, h⟩ := H
    exact ⟨G, e, h⟩
  obtain ⟨r, g, e, rfl, G, rfl, h, h2⟩ := c_readInto49 (E := E) (d := d) (tl := tl) (rtl := rtl) ht
  obtain ⟨hr, hok⟩ := h2 hF
  have hn : G 50 8 = nI ((ps_all tx nt).2.1 0) := hr.1
  have h6 := hok.1
  rw [hF] at e
  refine ax_ofQ (t := t_X11_lay) (ls := [.ref 0, .float 0]) rfl ⟨rfl, Nat.le_of_ble_eq_true rfl⟩ rfl ?_
  repeat refine bs rfl ?_
  refine bc rfl e ?_
  repeat refine bs rfl ?_
  refine bf rfl (by rw [hn]; exact nI_ne0 (by omega) (by omega)) ?_
  repeat refine bs rfl ?_
  refine br rfl ⟨?_, _, rfl, hr, hok, ?_, rfl, rfl, rfl, rfl, rfl⟩
  · show some (Value.int (G 50 8)) = _
    rw [hn]
  · intro q q4 q5 q8 q20 q23 q27 hq
    rw [va_up_ne _ _ q27, va_up_ne _ _ q23, va_up_ne _ _ q8, va_up_ne _ _ q5, va_up_ne _ _ q20, h q q4 hq]
end LYC
section LYM
variable {E : ax_E} {d : Nat} {J : Nat → Nat → Int32} {nt : Nat} {tx : Nat → Int32}
theorem ps_run_lt {tx : Nat → Int32} {nt : Nat} : ∀ (j p0 : Nat) (N : Nat → Nat) (V : Nat → Nat → Int32) (q : Nat), (ps_run tx nt j p0 N V).1 = some q → q < nt := by
  intro j
  induction j with
  | zero => intro p0 N V q hq; cases hq
  | succ j ih =>
    intro p0 N V q hq
    rw [ps_run] at hq
    by_cases c : p0 < nt
    · rw [if_pos c] at hq
      cases hi : ps_item tx nt p0 N V with
      | none =>
        rw [hi] at hq
        have hq : some p0 = some q := hq
        cases hq
        exact c
      | some x =>
        rw [hi] at hq
        exact ih x.1 x.2.1 x.2.2 q hq
    · rw [if_neg c] at hq
      cases hq
theorem m_layB (ht : RTm J nt tx) (hb : (ps_all tx nt).1 ≠ none ∨ (ps_all tx nt).2.1 0 = 0) : ∃ G, ax_cal E (d + 7) n_X12_lay [.ref 68] (ax_h J) = some (some (.int (-2)), ax_h G) ∧ ps_fr J G := by
  suffices H : ∃ r g, ax_cal E (d + 7) n_X12_lay [.ref 68] (ax_h J) = some (r, g) ∧ (r = some (.int (-2)) ∧ ∃ G, g = ax_h G ∧ ps_fr J G) by
    obtain ⟨r, g, e, rfl, G, rfl, h⟩ := H
    exact ⟨G, e, h⟩
  have h200 := ht.1
  obtain ⟨r, g, e, rfl, G, rfl, h, h2⟩ := m_fault (E := E) (d := d) ht
  refine ax_ofQ (t := t_X12_lay) (ls := [.ref 68]) rfl ⟨rfl, Nat.le_of_ble_eq_true rfl⟩ rfl ?_
  repeat refine bs rfl ?_
  refine bc rfl e ?_
  repeat refine bs rfl ?_
  cases hF : (ps_all tx nt).1 with
  | none =>
    have h3 := h2 hF
    have hn : G 68 21 = nI ((ps_all tx nt).2.1 0) := h3.1.1
    rcases hb with hb | hb
    · exact absurd hF hb
    · rw [hb] at hn
      repeat refine bs rfl ?_
      refine bt rfl hn ?_
      repeat refine bs rfl ?_
      exact br rfl ⟨rfl, G, rfl, h⟩
  | some p =>
    have hlt := ps_run_lt _ _ _ _ _ hF
    refine bf rfl (nI_m4 (by omega)) ?_
    repeat refine bs rfl ?_
    exact br rfl ⟨rfl, G, rfl, h⟩
theorem m_layY (ht : RTm J nt tx) (hF : (ps_all tx nt).1 = none) (h0 : (ps_all tx nt).2.1 0 ≠ 0) : ∃ G, ax_cal E (d + 7) n_X12_lay [.ref 68] (ax_h J) = some (some (.int (nI ((ps_all tx nt).2.1 0))), ax_h G) ∧ RM G (ps_all tx nt).2.1 (ps_all tx nt).2.2 ∧ (∀ q, q < 68 → G q = J q) ∧ G 78 = J 78 ∧ G 68 18 = J 68 18 ∧ G 68 11 = 0 ∧ G 68 13 = 0 ∧ G 68 15 = 0 := by
  suffices H : ∃ r g, ax_cal E (d + 7) n_X12_lay [.ref 68] (ax_h J) = some (r, g) ∧ (r = some (.int (nI ((ps_all tx nt).2.1 0))) ∧ ∃ G, g = ax_h G ∧ RM G (ps_all tx nt).2.1 (ps_all tx nt).2.2 ∧ (∀ q, q < 68 → G q = J q) ∧ G 78 = J 78 ∧ G 68 18 = J 68 18 ∧ G 68 11 = 0 ∧ G 68 13 = 0 ∧ G 68 15 = 0) by
    obtain ⟨r, g, e, rfl, G, rfl, h⟩ := H
    exact ⟨G, e, h⟩
  obtain ⟨r, g, e, rfl, G, rfl, h, h2⟩ := m_fault (E := E) (d := d) ht
  obtain ⟨hr, hok⟩ := h2 hF
  generalize (ps_all tx nt).2.1 = N at *
  generalize (ps_all tx nt).2.2 = V at *
  obtain ⟨b0, b1, b2, b3, b4, b5, -⟩ := hok
  have hn : G 68 21 = nI (N 0) := hr.1
  rw [hF] at e
  refine ax_ofQ (t := t_X12_lay) (ls := [.ref 68]) rfl ⟨rfl, Nat.le_of_ble_eq_true rfl⟩ rfl ?_
  repeat refine bs rfl ?_
  refine bc rfl e ?_
  repeat refine bs rfl ?_
  refine bf rfl (by rw [hn]; exact nI_ne0 (by omega) (by omega)) ?_
  repeat refine bs rfl ?_
  obtain ⟨G1, e1, x1, y1, -⟩ := m_put69_80 (E := E) (d := d + 5) (J := va_up (va_up (va_up (va_up (va_up G 68 (upd (G 68) 0 (G 68 21))) 68 (upd (upd (G 68) 0 (G 68 21)) 2 (G 68 23))) 68 (upd (upd (upd (G 68) 0 (G 68 21)) 2 (G 68 23)) 4 (G 68 25))) 68 (upd (upd (upd (upd (G 68) 0 (G 68 21)) 2 (G 68 23)) 4 (G 68 25)) 6 (G 68 27))) 68 (upd (upd (upd (upd (upd (G 68) 0 (G 68 21)) 2 (G 68 23)) 4 (G 68 25)) 6 (G 68 27)) 8 (G 68 29))) (fr := 0) (n := 18) (by omega) (by omega)
  refine bc rfl (show ax_cal E (d + 6) n_X12_put [.ref 69, .int 0, .ref 80, .int 18] _ = _ from e1) ?_
  repeat refine bs rfl ?_
  obtain ⟨G2, e2, x2, y2, -⟩ := m_put70_81 (E := E) (d := d + 5) (J := G1) (fr := 0) (n := 18) (by omega) (by omega)
  refine bc rfl (show ax_cal E (d + 6) n_X12_put [.ref 70, .int 0, .ref 81, .int 18] _ = _ from e2) ?_
  repeat refine bs rfl ?_
  obtain ⟨G3, e3, x3, y3, -⟩ := m_put71_82 (E := E) (d := d + 5) (J := G2) (fr := 0) (n := 7) (by omega) (by omega)
  refine bc rfl (show ax_cal E (d + 6) n_X12_put [.ref 71, .int 0, .ref 82, .int 7] _ = _ from e3) ?_
  repeat refine bs rfl ?_
  obtain ⟨G4, e4, x4, y4, -⟩ := m_put72_83 (E := E) (d := d + 5) (J := G3) (fr := 0) (n := 3) (by omega) (by omega)
  refine bc rfl (show ax_cal E (d + 6) n_X12_put [.ref 72, .int 0, .ref 83, .int 3] _ = _ from e4) ?_
  repeat refine bs rfl ?_
  obtain ⟨G5, e5, x5, y5, -⟩ := m_put73_84 (E := E) (d := d + 5) (J := G4) (fr := 0) (n := 12) (by omega) (by omega)
  refine bc rfl (show ax_cal E (d + 6) n_X12_put [.ref 73, .int 0, .ref 84, .int 12] _ = _ from e5) ?_
  repeat refine bs rfl ?_
  obtain ⟨G6, e6, x6, y6, -⟩ := m_put74_85 (E := E) (d := d + 5) (J := G5) (fr := 0) (n := 34) (by omega) (by omega)
  refine bc rfl (show ax_cal E (d + 6) n_X12_put [.ref 74, .int 0, .ref 85, .int 34] _ = _ from e6) ?_
  have h68 : G6 68 = upd (upd (upd (upd (upd (G 68) 0 (G 68 21)) 2 (G 68 23)) 4 (G 68 25)) 6 (G 68 27)) 8 (G 68 29) := by
    rw [x6 68 (by decide), x5 68 (by decide), x4 68 (by decide), x3 68 (by decide), x2 68 (by decide), x1 68 (by decide)]
    rfl
  have hq : ∀ q, q ≠ 68 → q ≠ 69 → q ≠ 70 → q ≠ 71 → q ≠ 72 → q ≠ 73 → q ≠ 74 → G6 q = G q := by
    intro q q1 q2 q3 q4 q5 q6 q7
    rw [x6 q q7, x5 q q6, x4 q q5, x3 q q4, x2 q q3, x1 q q2, va_up_ne _ _ q1, va_up_ne _ _ q1, va_up_ne _ _ q1, va_up_ne _ _ q1, va_up_ne _ _ q1]
  have g69 : ∀ i, i < 18 → G6 69 i = G 80 i := fun i hi => by
    have := y1 i hi
    rw [Nat.zero_add] at this
    rw [x6 69 (by decide), x5 69 (by decide), x4 69 (by decide), x3 69 (by decide), x2 69 (by decide), this]
    rfl
  have g70 : ∀ i, i < 18 → G6 70 i = G 81 i := fun i hi => by
    have := y2 i hi
    rw [Nat.zero_add] at this
    rw [x6 70 (by decide), x5 70 (by decide), x4 70 (by decide), x3 70 (by decide), this, x1 81 (by decide)]
    rfl
  have g71 : ∀ i, i < 7 → G6 71 i = G 82 i := fun i hi => by
    have := y3 i hi
    rw [Nat.zero_add] at this
    rw [x6 71 (by decide), x5 71 (by decide), x4 71 (by decide), this, x2 82 (by decide), x1 82 (by decide)]
    rfl
  have g72 : ∀ i, i < 3 → G6 72 i = G 83 i := fun i hi => by
    have := y4 i hi
    rw [Nat.zero_add] at this
    rw [x6 72 (by decide), x5 72 (by decide), this, x3 83 (by decide), x2 83 (by decide), x1 83 (by decide)]
    rfl
  have g73 : ∀ i, i < 12 → G6 73 i = G 84 i := fun i hi => by
    have := y5 i hi
    rw [Nat.zero_add] at this
    rw [x6 73 (by decide), this, x4 84 (by decide), x3 84 (by decide), x2 84 (by decide), x1 84 (by decide)]
    rfl
  have g74 : ∀ i, i < 34 → G6 74 i = G 85 i := fun i hi => by
    have := y6 i hi
    rw [Nat.zero_add] at this
    rw [this, x5 85 (by decide), x4 85 (by decide), x3 85 (by decide), x2 85 (by decide), x1 85 (by decide)]
    rfl
  repeat refine bs rfl ?_
  refine br rfl ⟨?_, _, rfl, ?_, ?_, ?_, ?_, rfl, rfl, rfl⟩
  · show some (Value.int (G6 68 0)) = _
    rw [h68]
    show some (Value.int (G 68 21)) = _
    rw [hn]
  · refine ⟨?_, ?_, ?_, ?_, ?_, ?_, ?_, ?_, ?_, ?_, ?_, ?_⟩
    · show G6 68 0 = _
      rw [h68]
      exact hr.1
    · intro i hi
      show G6 69 (3 * i) = V 0 i ∧ G6 69 (3 * i + 1) = V 1 i ∧ G6 69 (3 * i + 2) = V 2 i ∧ G6 74 i = V 3 i
      rw [g69 (3 * i) (by omega), g69 (3 * i + 1) (by omega), g69 (3 * i + 2) (by omega), g74 i (by omega)]
      exact hr.2.1 i hi
    · show G6 74 6 = _
      rw [g74 6 (by omega)]
      exact hr.2.2.1
    · intro i hi
      show G6 74 (7 + 3 * i) = V 4 i ∧ G6 74 (7 + 3 * i + 1) = V 5 i ∧ G6 74 (7 + 3 * i + 2) = V 6 i
      rw [g74 (7 + 3 * i) (by omega), g74 (7 + 3 * i + 1) (by omega), g74 (7 + 3 * i + 2) (by omega)]
      exact hr.2.2.2.1 i hi
    · show G6 68 2 = _
      rw [h68]
      exact hr.2.2.2.2.1
    · intro i hi
      show G6 70 (3 * i) = V 7 i ∧ G6 70 (3 * i + 1) = V 8 i ∧ G6 70 (3 * i + 2) = V 9 i
      rw [g70 (3 * i) (by omega), g70 (3 * i + 1) (by omega), g70 (3 * i + 2) (by omega)]
      exact hr.2.2.2.2.2.1 i hi
    · show G6 68 4 = _
      rw [h68]
      exact hr.2.2.2.2.2.2.1
    · intro i hi
      show G6 71 i = V 10 i
      rw [g71 i (by omega)]
      exact hr.2.2.2.2.2.2.2.1 i hi
    · show G6 68 6 = _
      rw [h68]
      exact hr.2.2.2.2.2.2.2.2.1
    · intro i hi
      show G6 72 i = V 11 i
      rw [g72 i (by omega)]
      exact hr.2.2.2.2.2.2.2.2.2.1 i hi
    · show G6 68 8 = _
      rw [h68]
      exact hr.2.2.2.2.2.2.2.2.2.2.1
    · intro i hi
      show G6 73 (2 * i) = V 12 i ∧ G6 73 (2 * i + 1) = V 13 i
      rw [g73 (2 * i) (by omega), g73 (2 * i + 1) (by omega)]
      exact hr.2.2.2.2.2.2.2.2.2.2.2 i hi
  · intro q hq'
    rw [va_up_ne _ _ (by omega), va_up_ne _ _ (by omega), va_up_ne _ _ (by omega), hq q (by omega) (by omega) (by omega) (by omega) (by omega) (by omega) (by omega), h.1 q (by omega)]
  · show G6 78 = _
    rw [hq 78 (by decide) (by decide) (by decide) (by decide) (by decide) (by decide) (by decide), h.1 78 (by decide)]
  · show G6 68 18 = _
    rw [h68]
    exact h.2 18 (by decide)
end LYM
