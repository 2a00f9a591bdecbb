/-! contracts of the reference: remembers, alter, walk, undo, keep, back -/
theorem aw_mono {E : ax_E} {cal : ax_Cal} {t : ax_T} {S : ax_S} {Q Q' : Option Value → ax_H → Prop} (h : AW E cal t S Q) (k : ∀ r g, Q r g → Q' r g) : AW E cal t S Q' := by
  obtain ⟨n, r, g, a, b⟩ := h
  exact ⟨n, r, g, a, k r g b⟩
theorem ix_34 (m n : Nat) : (34 : Int32) * nI m + nI n = nI (34 * m + n) := by rw [show (34 : Int32) * nI m = nI (34 * m) from pk_mul 34 m, nI_add]
section CHM
variable {E : ax_E} {d : Nat} {J : Nat → Nat → Int32} {N : Nat → Nat} {V : Nat → Nat → Int32}
theorem m_rem2 {m : Nat} (h8 : m < 8) : ∀ (j n : Nat), n + j = 34 → ∀ G : Nat → Nat → Int32, G 68 11 = nI m → AW E (ax_cal E d) t_X12_remembers (54, [.ref 68, .int (nI n)], [.int 34, .int (nI n)], ax_h G) (fun r g => r = none ∧ ∃ G', g = ax_h G' ∧ (∀ q, q ≠ 68 → q ≠ 75 → G' q = G q) ∧ (∀ k, k ≠ 11 → G' 68 k = G 68 k) ∧ G' 68 11 = nI (m + 1) ∧ (∀ k, k < 34 * m + n → G' 75 k = G 75 k) ∧ ∀ k, n ≤ k → k < 34 → G' 75 (34 * m + k) = G 74 k) := by
  intro j
  induction j with
  | zero =>
    intro n hn G hm
    refine bt rfl (nI_le (a := 34) (b := n) (by omega) (by omega)) ?_
    repeat refine bs rfl ?_
    refine br rfl ⟨rfl, _, rfl, ?_, ?_, ?_, ?_, ?_⟩
    · intro q a b
      rw [va_up_ne _ _ a]
    · intro k hk
      show upd (G 68) 11 _ k = _
      rw [pk_un hk]
    · show G 68 11 + 1 = _
      rw [hm, nI_1]
    · intro k hk
      rfl
    · intro k h1 h2
      omega
  | succ j ih =>
    intro n hn G hm
    have ih := ih (n + 1) (by omega)
    rw [nI_succ] at ih
    refine bf rfl (nI_ge (b := 34) (a := n) (by omega) (by omega)) ?_
    repeat (first | refine bs rfl ?_ | refine bld rfl _ rfl (by omega) (by omega) ?_)
    refine bsto rfl (34 * m + n) (by rw [hm]; exact ix_34 m n) (by omega) (by omega) ?_
    repeat (first | refine bs rfl ?_ | refine bld rfl _ rfl (by omega) (by omega) ?_)
    refine aw_mono (ih _ hm) ?_
    rintro r g ⟨e1, G', e2, a1, a2, a3, a4, a5⟩
    refine ⟨e1, G', e2, ?_, ?_, a3, ?_, ?_⟩
    · intro q a b
      rw [a1 q a b, va_up_ne _ _ b]
    · intro k hk
      rw [a2 k hk]
      rfl
    · intro k hk
      rw [a4 k (by omega)]
      show upd (G 75) (34 * m + n) _ k = _
      rw [pk_un (by omega)]
    · intro k h1 h2
      by_cases e : k = n
      · subst e
        rw [a4 _ (by omega)]
        show upd (G 75) (34 * m + k) (G 74 k) (34 * m + k) = _
        rw [pk_us]
      · rw [a5 k (by omega) h2]
        rfl
/-- the state is remembered: what was before lies o stretches on -/
theorem m_remembers {m : Nat} (hm : J 68 11 = nI m) (h8 : m ≤ 8) : ∃ G o m', ax_cal E (d + 1) n_X12_remembers [.ref 68] (ax_h J) = some (none, ax_h G) ∧ m' + o = m ∧ (if m < 8 then o = 0 else o = 1) ∧ (∀ q, q ≠ 68 → q ≠ 75 → G q = J q) ∧ (∀ k, k ≠ 11 → G 68 k = J 68 k) ∧ G 68 11 = nI (m' + 1) ∧ (∀ k, k < 34 * m' → G 75 k = J 75 (k + 34 * o)) ∧ ∀ k, k < 34 → G 75 (34 * m' + k) = J 74 k := by
  suffices H : ∃ o m', ∃ r g, ax_cal E (d + 1) n_X12_remembers [.ref 68] (ax_h J) = some (r, g) ∧ (r = none ∧ ∃ G, g = ax_h G ∧ m' + o = m ∧ (if m < 8 then o = 0 else o = 1) ∧ (∀ q, q ≠ 68 → q ≠ 75 → G q = J q) ∧ (∀ k, k ≠ 11 → G 68 k = J 68 k) ∧ G 68 11 = nI (m' + 1) ∧ (∀ k, k < 34 * m' → G 75 k = J 75 (k + 34 * o)) ∧ ∀ k, k < 34 → G 75 (34 * m' + k) = J 74 k) by
    obtain ⟨o, m', r, g, e, rfl, G, rfl, h⟩ := H
    exact ⟨G, o, m', e, h⟩
  by_cases c8 : m < 8
  · refine ⟨0, m, ?_⟩
    refine ax_ofQ (t := t_X12_remembers) (ls := [.ref 68, .float 0]) rfl ⟨rfl, Nat.le_of_ble_eq_true rfl⟩ rfl ?_
    iterate 3 refine bs rfl ?_
    refine bf rfl (by rw [hm]; exact fun q => absurd ((nI_eq (b := 8) (by omega) (by omega)).mp q) (by omega)) ?_
    iterate 4 refine bs rfl ?_
    refine aw_mono (m_rem2 c8 34 0 rfl J hm) ?_
    rintro r g ⟨e1, G', e2, a1, a2, a3, a4, a5⟩
    exact ⟨e1, G', e2, rfl, by rw [if_pos c8], a1, a2, a3, fun k hk => a4 k hk, fun k hk => a5 k (Nat.zero_le _) hk⟩
  · have e8 : m = 8 := by omega
    subst e8
    refine ⟨1, 7, ?_⟩
    refine ax_ofQ (t := t_X12_remembers) (ls := [.ref 68, .float 0]) rfl ⟨rfl, Nat.le_of_ble_eq_true rfl⟩ rfl ?_
    have loop : ∀ (j n : Nat), n + j = 238 → ∀ G : Nat → Nat → Int32, (∀ q, q ≠ 75 → G q = J q) → (∀ k, k < n → G 75 k = J 75 (k + 34)) → (∀ k, n ≤ k → G 75 k = J 75 k) → AW E (ax_cal E d) t_X12_remembers (15, [.ref 68, .int (nI n)], [.int 238, .int (nI n)], ax_h G) (fun r g => r = none ∧ ∃ G, g = ax_h G ∧ 7 + 1 = 8 ∧ (if 8 < 8 then 1 = 0 else 1 = 1) ∧ (∀ q, q ≠ 68 → q ≠ 75 → G q = J q) ∧ (∀ k, k ≠ 11 → G 68 k = J 68 k) ∧ G 68 11 = nI (7 + 1) ∧ (∀ k, k < 34 * 7 → G 75 k = J 75 (k + 34 * 1)) ∧ ∀ k, k < 34 → G 75 (34 * 7 + k) = J 74 k) := by
      intro j
      induction j with
      | zero =>
        intro n hn G hG h1 h2
        refine bt rfl (nI_le (a := 238) (b := n) (by omega) (by omega)) ?_
        iterate 10 refine bs rfl ?_
        refine aw_mono (m_rem2 (m := 7) (by omega) 34 0 rfl _ (show G 68 11 - 1 = nI 7 by rw [hG 68 (by decide), hm, nI_pred])) ?_
        rintro r g ⟨e1, G', e2, a1, a2, a3, a4, a5⟩
        refine ⟨e1, G', e2, rfl, rfl, ?_, ?_, a3, ?_, ?_⟩
        · intro q a b
          rw [a1 q a b, va_up_ne _ _ a, hG q b]
        · intro k hk
          rw [a2 k hk]
          show upd (G 68) 11 _ k = _
          rw [pk_un hk, hG 68 (by decide)]
        · intro k hk
          rw [a4 k (by omega)]
          exact h1 k (by omega)
        · intro k hk
          rw [a5 k (Nat.zero_le _) hk]
          show G 74 k = _
          rw [hG 74 (by decide)]
      | succ j ih =>
        intro n hn G hG h1 h2
        have ih := ih (n + 1) (by omega)
        rw [nI_succ] at ih
        refine bf rfl (nI_ge (b := 238) (a := n) (by omega) (by omega)) ?_
        repeat refine bs rfl ?_
        refine bld rfl (n + 34) (nI_add n 34) (by omega) (by omega) ?_
        refine bsto rfl n rfl (by omega) (by omega) ?_
        repeat refine bs rfl ?_
        refine ih _ ?_ ?_ ?_
        · intro q a
          rw [va_up_ne _ _ a, hG q a]
        · intro k hk
          show upd (G 75) n (G 75 (n + 34)) k = _
          by_cases e : k = n
          · subst e
            rw [pk_us]
            exact h2 _ (by omega)
          · rw [pk_un e]
            exact h1 k (by omega)
        · intro k hk
          show upd (G 75) n (G 75 (n + 34)) k = _
          rw [pk_un (by omega)]
          exact h2 k (by omega)
    iterate 3 refine bs rfl ?_
    refine bt rfl hm ?_
    iterate 4 refine bs rfl ?_
    exact loop 238 0 rfl J (fun q _ => rfl) (fun k hk => absurd hk (by omega)) (fun k _ => rfl)
theorem m_alterB (hok : sp_Ok N V) (hr : RM J N V) (i c : Int32) (h : ¬ ((0 ≤ i ∧ i < nI (N 0)) ∧ 0 ≤ c ∧ c ≤ 29)) : ax_cal E (d + 3) n_X12_alter [.ref 68, .int i, .int c] (ax_h J) = some (some (.int (-1)), ax_h J) := by
  refine ax_of (t := t_X12_alter) (ls := [.ref 68, .int i, .int c, .float 0]) rfl ⟨rfl, Nat.le_of_ble_eq_true rfl⟩ rfl ?_
  repeat refine bs rfl ?_
  refine bc rfl (m_isPerson hok hr i) ?_
  repeat refine bs rfl ?_
  refine bz rfl (fun p => ?_) (fun p => ?_)
  · repeat refine bs rfl ?_
    exact br rfl ⟨rfl, rfl⟩
  · repeat refine bs rfl ?_
    refine bc rfl (c_in _ c 0 29) ?_
    repeat refine bs rfl ?_
    refine bz rfl (fun p2 => ?_) (fun p2 => absurd ⟨p, p2⟩ h)
    repeat refine bs rfl ?_
    exact br rfl ⟨rfl, rfl⟩
theorem m_alter (hok : sp_Ok N V) (hr : RM J N V) {m : Nat} (hm : J 68 11 = nI m) (h8 : m ≤ 8) {a : Nat} (ha : a < N 0) (c : Int32) (h : 0 ≤ c ∧ c ≤ 29) : ∃ G o m', ax_cal E (d + 3) n_X12_alter [.ref 68, .int (nI a), .int c] (ax_h J) = some (some (.int (V 3 a + 9)), ax_h (va_up G 74 (upd (J 74) a (c - 9)))) ∧ m' + o = m ∧ (if m < 8 then o = 0 else o = 1) ∧ (∀ q, q ≠ 68 → q ≠ 75 → G q = J q) ∧ (∀ k, k ≠ 11 → G 68 k = J 68 k) ∧ G 68 11 = nI (m' + 1) ∧ (∀ k, k < 34 * m' → G 75 k = J 75 (k + 34 * o)) ∧ ∀ k, k < 34 → G 75 (34 * m' + k) = J 74 k := by
  have h6 := hok.1
  have v3 : J 74 a = V 3 a := (hr.2.1 a ha).2.2.2
  obtain ⟨G, o, m', e, a1, a2, hq, rest⟩ := m_remembers (E := E) (d := d + 1) hm h8
  refine ⟨G, o, m', ?_, a1, a2, hq, rest⟩
  have h74 := hq 74 (by decide) (by decide)
  refine ax_of (t := t_X12_alter) (ls := [.ref 68, .int (nI a), .int c, .float 0]) rfl ⟨rfl, Nat.le_of_ble_eq_true rfl⟩ rfl ?_
  repeat refine bs rfl ?_
  refine bc rfl (m_isPerson hok hr (nI a)) ?_
  repeat refine bs rfl ?_
  refine bz rfl (fun p => absurd ⟨nI_pos' (by omega), nI_lt ha (by omega)⟩ p) (fun p => ?_)
  repeat refine bs rfl ?_
  refine bc rfl (c_in _ c 0 29) ?_
  repeat refine bs rfl ?_
  refine bz rfl (fun p2 => absurd h p2) (fun p2 => ?_)
  repeat refine bs rfl ?_
  refine bc rfl e ?_
  repeat refine bs rfl ?_
  refine bld rfl a (ix_0 a) (by omega) (by omega) ?_
  rw [h74, v3]
  repeat refine bs rfl ?_
  refine bsto rfl a (ix_0 a) (by omega) (by omega) ?_
  rw [h74]
  repeat refine bs rfl ?_
  exact br rfl ⟨rfl, rfl⟩
theorem m_walkB (hok : sp_Ok N V) (hr : RM J N V) (i t x : Int32) (h : ¬ sp_walkOk N i t x) : ax_cal E (d + 3) n_X12_walk [.ref 68, .int i, .int t, .int x] (ax_h J) = some (some (.int (-1)), ax_h J) := by
  refine ax_of (t := t_X12_walk) (ls := [.ref 68, .int i, .int t, .int x]) rfl ⟨rfl, Nat.le_of_ble_eq_true rfl⟩ rfl ?_
  repeat refine bs rfl ?_
  refine bc rfl (m_isPerson hok hr i) ?_
  repeat refine bs rfl ?_
  refine bz rfl (fun p => ?_) (fun p => ?_)
  · repeat refine bs rfl ?_
    exact br rfl ⟨rfl, rfl⟩
  · repeat refine bs rfl ?_
    refine bc rfl (c_mIsHour _ t) ?_
    repeat refine bs rfl ?_
    refine bz rfl (fun p2 => ?_) (fun p2 => ?_)
    · repeat refine bs rfl ?_
      exact br rfl ⟨rfl, rfl⟩
    · repeat refine bs rfl ?_
      refine bc rfl (c_in _ x 0 60) ?_
      repeat refine bs rfl ?_
      refine bz rfl (fun p3 => ?_) (fun p3 => absurd ⟨p, p2, p3⟩ h)
      repeat refine bs rfl ?_
      exact br rfl ⟨rfl, rfl⟩
theorem m_walkF (hok : sp_Ok N V) (hr : RM J N V) (i t x : Int32) (h : sp_walkOk N i t x) (h9 : ¬ N 1 < 9) : ax_cal E (d + 3) n_X12_walk [.ref 68, .int i, .int t, .int x] (ax_h J) = some (some (.int (-3)), ax_h J) := by
  have hm : J 74 6 = nI (N 1) := hr.2.2.1
  have h91 := hok.2.1
  have e9 : N 1 = 9 := by omega
  rw [e9] at hm
  refine ax_of (t := t_X12_walk) (ls := [.ref 68, .int i, .int t, .int x]) rfl ⟨rfl, Nat.le_of_ble_eq_true rfl⟩ rfl ?_
  repeat refine bs rfl ?_
  refine bc rfl (m_isPerson hok hr i) ?_
  repeat refine bs rfl ?_
  refine bz rfl (fun p => absurd h.1 p) (fun p => ?_)
  repeat refine bs rfl ?_
  refine bc rfl (c_mIsHour _ t) ?_
  repeat refine bs rfl ?_
  refine bz rfl (fun p => absurd h.2.1 p) (fun p => ?_)
  repeat refine bs rfl ?_
  refine bc rfl (c_in _ x 0 60) ?_
  repeat refine bs rfl ?_
  refine bz rfl (fun p => absurd h.2.2 p) (fun p => ?_)
  repeat refine bs rfl ?_
  refine bt rfl hm ?_
  repeat refine bs rfl ?_
  exact br rfl ⟨rfl, rfl⟩
theorem m_lays74 {n : Nat} (hn : n + 2 < 34) (i t x : Int32) : ax_cal E (d + 1) n_X12_lays [.ref 74, .int (nI n), .int i, .int t, .int x] (ax_h J) = some (none, ax_h (va_up J 74 (upd (upd (upd (J 74) n i) (n + 1) t) (n + 2) x))) := by
  refine ax_of (t := t_X12_lays) (ls := [.ref 74, .int (nI n), .int i, .int t, .int x]) rfl ⟨rfl, Nat.le_of_ble_eq_true rfl⟩ rfl ?_
  repeat refine bs rfl ?_
  refine bsto rfl n rfl (by omega) (by omega) ?_
  repeat refine bs rfl ?_
  refine bsto rfl (n + 1) (nI_1 n) (by omega) (by omega) ?_
  repeat refine bs rfl ?_
  refine bsto rfl (n + 2) (ix_2 n) (by omega) (by omega) ?_
  repeat refine bs rfl ?_
  refine br rfl ⟨rfl, ?_⟩
  rw [bx_uu, bx_uu, va_up_self, va_up_self]
theorem m_walk (hok : sp_Ok N V) (hr : RM J N V) {m : Nat} (hm : J 68 11 = nI m) (h8 : m ≤ 8) (i t x : Int32) (h : sp_walkOk N i t x) (h9 : N 1 < 9) : ∃ G o m', ax_cal E (d + 3) n_X12_walk [.ref 68, .int i, .int t, .int x] (ax_h J) = some (some (.int (nI (N 1) + 1)), ax_h (va_up G 74 (upd (upd (upd (upd (J 74) (7 + 3 * N 1) i) (7 + 3 * N 1 + 1) t) (7 + 3 * N 1 + 2) x) 6 (nI (N 1) + 1)))) ∧ m' + o = m ∧ (if m < 8 then o = 0 else o = 1) ∧ (∀ q, q ≠ 68 → q ≠ 75 → G q = J q) ∧ (∀ k, k ≠ 11 → G 68 k = J 68 k) ∧ G 68 11 = nI (m' + 1) ∧ (∀ k, k < 34 * m' → G 75 k = J 75 (k + 34 * o)) ∧ ∀ k, k < 34 → G 75 (34 * m' + k) = J 74 k := by
  have hw : J 74 6 = nI (N 1) := hr.2.2.1
  obtain ⟨G, o, m', e, a1, a2, hq, rest⟩ := m_remembers (E := E) (d := d + 1) hm h8
  refine ⟨G, o, m', ?_, a1, a2, hq, rest⟩
  have h74 := hq 74 (by decide) (by decide)
  have hwG : G 74 6 = nI (N 1) := by rw [h74, hw]
  have hl := m_lays74 (E := E) (d := d + 1) (J := G) (n := 7 + 3 * N 1) (by omega) i t x
  rw [← ix_7] at hl
  have h6 : (upd (upd (upd (G 74) (7 + 3 * N 1) i) (7 + 3 * N 1 + 1) t) (7 + 3 * N 1 + 2) x) 6 = nI (N 1) := by rw [pk_un (by omega), pk_un (by omega), pk_un (by omega), hwG]
  refine ax_of (t := t_X12_walk) (ls := [.ref 68, .int i, .int t, .int x]) rfl ⟨rfl, Nat.le_of_ble_eq_true rfl⟩ rfl ?_
  repeat refine bs rfl ?_
  refine bc rfl (m_isPerson hok hr i) ?_
  repeat refine bs rfl ?_
  refine bz rfl (fun p => absurd h.1 p) (fun p => ?_)
  repeat refine bs rfl ?_
  refine bc rfl (c_mIsHour _ t) ?_
  repeat refine bs rfl ?_
  refine bz rfl (fun p => absurd h.2.1 p) (fun p => ?_)
  repeat refine bs rfl ?_
  refine bc rfl (c_in _ x 0 60) ?_
  repeat refine bs rfl ?_
  refine bz rfl (fun p => absurd h.2.2 p) (fun p => ?_)
  repeat refine bs rfl ?_
  refine bf rfl (show ¬ J 74 6 = 9 by rw [hw]; exact fun q => absurd ((nI_eq (b := 9) (by omega) (by omega)).mp q) (by omega)) ?_
  repeat refine bs rfl ?_
  refine bc rfl e ?_
  repeat refine bs rfl ?_
  rw [show G 74 (6 : Int32).toNatClampNeg = nI (N 1) from hwG]
  refine bc rfl hl ?_
  repeat refine bs rfl ?_
  refine br rfl ⟨?_, ?_⟩
  · show some (Value.int ((upd (upd (upd (G 74) (7 + 3 * N 1) i) (7 + 3 * N 1 + 1) t) (7 + 3 * N 1 + 2) x) 6 + 1)) = _
    rw [h6]
  · rw [← h74, bx_uu, va_up_self, ← h6]
    rfl
theorem m_undo0 (hm : J 68 11 = 0) : ax_cal E (d + 1) n_X12_undo [.ref 68] (ax_h J) = some (some (.int (-2)), ax_h J) := by
  refine ax_of (t := t_X12_undo) (ls := [.ref 68, .float 0]) rfl ⟨rfl, Nat.le_of_ble_eq_true rfl⟩ rfl ?_
  repeat refine bs rfl ?_
  refine bt rfl hm ?_
  repeat refine bs rfl ?_
  exact br rfl ⟨rfl, rfl⟩
theorem m_undo {m : Nat} (hm : J 68 11 = nI (m + 1)) (h8 : m < 8) : ∃ G, ax_cal E (d + 1) n_X12_undo [.ref 68] (ax_h J) = some (some (.int (nI m)), ax_h G) ∧ (∀ q, q ≠ 68 → q ≠ 74 → G q = J q) ∧ (∀ k, k ≠ 11 → G 68 k = J 68 k) ∧ G 68 11 = nI m ∧ ∀ k, k < 34 → G 74 k = J 75 (34 * m + k) := by
  suffices H : ∃ r g, ax_cal E (d + 1) n_X12_undo [.ref 68] (ax_h J) = some (r, g) ∧ (r = some (.int (nI m)) ∧ ∃ G, g = ax_h G ∧ (∀ q, q ≠ 68 → q ≠ 74 → G q = J q) ∧ (∀ k, k ≠ 11 → G 68 k = J 68 k) ∧ G 68 11 = nI m ∧ ∀ k, k < 34 → G 74 k = J 75 (34 * m + k)) by
    obtain ⟨r, g, e, rfl, G, rfl, h⟩ := H
    exact ⟨G, e, h⟩
  refine ax_ofQ (t := t_X12_undo) (ls := [.ref 68, .float 0]) rfl ⟨rfl, Nat.le_of_ble_eq_true rfl⟩ rfl ?_
  have loop : ∀ (j n : Nat), n + j = 34 → ∀ G : Nat → Nat → Int32, (∀ q, q ≠ 68 → q ≠ 74 → G q = J q) → (∀ k, k ≠ 11 → G 68 k = J 68 k) → G 68 11 = nI m → (∀ k, k < n → G 74 k = J 75 (34 * m + k)) → AW E (ax_cal E d) t_X12_undo (25, [.ref 68, .int (nI n)], [.int 34, .int (nI n)], ax_h G) (fun r g => r = some (.int (nI m)) ∧ ∃ G, g = ax_h G ∧ (∀ q, q ≠ 68 → q ≠ 74 → G q = J q) ∧ (∀ k, k ≠ 11 → G 68 k = J 68 k) ∧ G 68 11 = nI m ∧ ∀ k, k < 34 → G 74 k = J 75 (34 * m + k)) := by
    intro j
    induction j with
    | zero =>
      intro n hn G h1 h2 h3 h4
      refine bt rfl (nI_le (a := 34) (b := n) (by omega) (by omega)) ?_
      repeat refine bs rfl ?_
      exact br rfl ⟨by rw [h3], G, rfl, h1, h2, h3, fun k hk => h4 k (by omega)⟩
    | succ j ih =>
      intro n hn G h1 h2 h3 h4
      have ih := ih (n + 1) (by omega)
      rw [nI_succ] at ih
      refine bf rfl (nI_ge (b := 34) (a := n) (by omega) (by omega)) ?_
      repeat refine bs rfl ?_
      refine bld rfl (34 * m + n) (by rw [h3]; exact ix_34 m n) (by omega) (by omega) ?_
      refine bsto rfl n rfl (by omega) (by omega) ?_
      repeat refine bs rfl ?_
      refine ih _ ?_ h2 h3 ?_
      · intro q a b
        rw [va_up_ne _ _ b, h1 q a b]
      · intro k hk
        show upd (G 74) n (G 75 (34 * m + n)) k = _
        by_cases e : k = n
        · subst e
          rw [pk_us, h1 75 (by decide) (by decide)]
        · rw [pk_un e]
          exact h4 k (by omega)
  iterate 2 refine bs rfl ?_
  refine bf rfl (by rw [hm]; exact nI_ne0 (by omega) (by omega)) ?_
  iterate 10 refine bs rfl ?_
  refine loop 34 0 rfl _ ?_ ?_ ?_ ?_
  · intro q a b
    rw [va_up_ne _ _ a]
  · intro k hk
    show upd (J 68) 11 _ k = _
    rw [pk_un hk]
  · show J 68 11 - 1 = _
    rw [hm, nI_pred]
  · intro k hk
    omega
end CHM
