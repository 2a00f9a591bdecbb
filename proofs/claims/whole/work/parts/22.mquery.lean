/-! contracts: the simple questions, the reference's side -/
section QM
variable {E : ax_E} {d : Nat} {J : Nat → Nat → Int32} {N : Nat → Nat} {V : Nat → Nat → Int32}
theorem m_where (hok : sp_Ok N V) (hr : RM J N V) (i t : Int32) : ax_cal E (d + 3) n_X12_where [.ref 68, .int i, .int t] (ax_h J) = some (some (.int (sp_where N V i t)), ax_h J) := by
  have h6 := hok.1
  unfold sp_where
  refine ax_of (t := t_X12_where) (ls := [.ref 68, .int i, .int t]) rfl ⟨rfl, Nat.le_of_ble_eq_true rfl⟩ rfl ?_
  repeat refine bs rfl ?_
  refine bc rfl (m_isPerson hok hr i) ?_
  repeat refine bs rfl ?_
  refine bz rfl (fun p => ?_) (fun p => ?_)
  · repeat refine bs rfl ?_
    exact br rfl ⟨by rw [if_neg (fun q => p q.1)], rfl⟩
  · obtain ⟨a, ha, rfl⟩ := i_ps (by omega) p.1 p.2
    have e := nI_clamp (n := a) (by omega)
    repeat refine bs rfl ?_
    refine bc rfl (c_mIsHour _ t) ?_
    repeat refine bs rfl ?_
    refine bz rfl (fun p2 => ?_) (fun p2 => ?_)
    · repeat refine bs rfl ?_
      exact br rfl ⟨by rw [if_neg (fun q => p2 q.2)], rfl⟩
    · repeat refine bs rfl ?_
      refine bc rfl (m_whereAt hok hr ha t) ?_
      repeat refine bs rfl ?_
      exact br rfl ⟨by rw [if_pos ⟨p, p2⟩, e], rfl⟩
theorem m_stands (hok : sp_Ok N V) (hr : RM J N V) (i t : Int32) : ax_cal E (d + 5) n_X12_stands [.ref 68, .int i, .int t] (ax_h J) = some (some (.int (sp_stands N V i t)), ax_h J) := by
  have h6 := hok.1
  unfold sp_stands
  refine ax_of (t := t_X12_stands) (ls := [.ref 68, .int i, .int t]) rfl ⟨rfl, Nat.le_of_ble_eq_true rfl⟩ rfl ?_
  repeat refine bs rfl ?_
  refine bc rfl (m_isPerson hok hr i) ?_
  repeat refine bs rfl ?_
  refine bz rfl (fun p => ?_) (fun p => ?_)
  · repeat refine bs rfl ?_
    exact br rfl ⟨by rw [if_neg (fun q => p q.1)], rfl⟩
  · obtain ⟨a, ha, rfl⟩ := i_ps (by omega) p.1 p.2
    have e := nI_clamp (n := a) (by omega)
    repeat refine bs rfl ?_
    refine bc rfl (c_mIsHour _ t) ?_
    repeat refine bs rfl ?_
    refine bz rfl (fun p2 => ?_) (fun p2 => ?_)
    · repeat refine bs rfl ?_
      exact br rfl ⟨by rw [if_neg (fun q => p2 q.2)], rfl⟩
    · repeat refine bs rfl ?_
      refine bc rfl (m_standsAt hok hr ha t) ?_
      repeat refine bs rfl ?_
      exact br rfl ⟨by rw [if_pos ⟨p, p2⟩, e], rfl⟩
theorem m_covers (hok : sp_Ok N V) (hr : RM J N V) (x t : Int32) : ax_cal E (d + 4) n_X12_covers [.ref 68, .int x, .int t] (ax_h J) = some (some (.int (sp_covers N V x t)), ax_h J) := by
  have h6 := hok.1
  have hn : J 68 0 = nI (N 0) := hr.1
  unfold sp_covers sp_cov
  generalize hp : (fun i => sp_rch (sp_cell N V i t) (sp_way V i t) (sp_len V i t) x) = P
  refine ax_of (t := t_X12_covers) (ls := [.ref 68, .int x, .int t, .float 0, .float 0]) rfl ⟨rfl, Nat.le_of_ble_eq_true rfl⟩ rfl ?_
  have loop : ∀ (j i : Nat), i + j = N 0 → AW E (ax_cal E (d + 3)) t_X12_covers (30, [.ref 68, .int x, .int t, .int (sp_or P i), .int (nI i)], [.int (J 68 0), .int (nI i)], ax_h J) (fun r' g => r' = some (.int (sp_or P (N 0))) ∧ g = ax_h J) := by
    intro j
    induction j with
    | zero =>
      intro i hi
      refine bt rfl (by rw [hn]; exact nI_le (by omega) (by omega)) ?_
      repeat refine bs rfl ?_
      exact br rfl ⟨by rw [show i = N 0 by omega], rfl⟩
    | succ j ih =>
      intro i hi
      have hia : i < N 0 := by omega
      have ih := ih (i + 1) (by omega)
      rw [sp_or, nI_succ] at ih
      have hpi : P i = sp_rch (sp_cell N V i t) (sp_way V i t) (sp_len V i t) x := by rw [← hp]
      refine bf rfl (by rw [hn]; exact nI_ge (by omega) (by omega)) ?_
      repeat refine bs rfl ?_
      refine bc rfl (m_whereAt hok hr hia _) ?_
      repeat refine bs rfl ?_
      refine bc rfl (m_wayAt hok hr hia _) ?_
      repeat refine bs rfl ?_
      refine bc rfl (m_longAt hok hr hia _) ?_
      repeat refine bs rfl ?_
      refine bc rfl (c_reaches _ _ _ _ _) ?_
      repeat refine bs rfl ?_
      refine bz rfl (fun q => ?_) (fun q => ?_)
      · repeat refine bs rfl ?_
        rw [if_neg (by rw [hpi]; exact q), ← i_or0 (sp_or P i)] at ih
        exact ih
      · repeat refine bs rfl ?_
        rw [if_pos (by rw [hpi]; exact q)] at ih
        exact ih
  repeat refine bs rfl ?_
  refine bc rfl (c_in _ x 0 60) ?_
  repeat refine bs rfl ?_
  refine bz rfl (fun p => ?_) (fun p => ?_)
  · repeat refine bs rfl ?_
    exact br rfl ⟨by rw [if_neg (fun q => p q.1)], rfl⟩
  · repeat refine bs rfl ?_
    refine bc rfl (c_mIsHour _ t) ?_
    repeat refine bs rfl ?_
    refine bz rfl (fun p2 => ?_) (fun p2 => ?_)
    · repeat refine bs rfl ?_
      exact br rfl ⟨by rw [if_neg (fun q => p2 q.2)], rfl⟩
    · rw [if_pos ⟨p, p2⟩]
      repeat refine bs rfl ?_
      exact loop (N 0) 0 (Nat.zero_add _)
theorem i_m1 (x : Int32) : x + (-1) = x - 1 := (Int32.sub_eq_add_neg x 1).symm
theorem sp_way_pm (V : Nat → Nat → Int32) (a : Nat) (t : Int32) : sp_way V a t = -1 ∨ sp_way V a t = 1 := by
  unfold sp_way
  by_cases h : (if V 2 a = 1 then t + 3 else t) < 12
  · exact Or.inl (if_pos h)
  · exact Or.inr (if_neg h)
theorem m_shadow (hok : sp_Ok N V) (hr : RM J N V) (i t what : Int32) : ax_cal E (d + 5) n_X12_shadow [.ref 68, .int i, .int t, .int what] (ax_h J) = some (some (.int (sp_shadow N V i t what)), ax_h J) := by
  have h6 := hok.1
  unfold sp_shadow
  refine ax_of (t := t_X12_shadow) (ls := [.ref 68, .int i, .int t, .int what, .float 0, .float 0, .float 0, .float 0]) rfl ⟨rfl, Nat.le_of_ble_eq_true rfl⟩ rfl ?_
  repeat refine bs rfl ?_
  refine bc rfl (m_isPerson hok hr i) ?_
  repeat refine bs rfl ?_
  refine bz rfl (fun p => ?_) (fun p => ?_)
  · repeat refine bs rfl ?_
    exact br rfl ⟨by rw [if_neg (fun q => p q.1)], rfl⟩
  · obtain ⟨a, ha, rfl⟩ := i_ps (by omega) p.1 p.2
    have e := nI_clamp (n := a) (by omega)
    repeat refine bs rfl ?_
    refine bc rfl (c_mIsHour _ t) ?_
    repeat refine bs rfl ?_
    refine bz rfl (fun p2 => ?_) (fun p2 => ?_)
    · repeat refine bs rfl ?_
      exact br rfl ⟨by rw [if_neg (fun q => p2 q.2.1)], rfl⟩
    · repeat refine bs rfl ?_
      refine bc rfl (c_in _ what 0 2) ?_
      repeat refine bs rfl ?_
      refine bz rfl (fun p3 => ?_) (fun p3 => ?_)
      · repeat refine bs rfl ?_
        exact br rfl ⟨by rw [if_neg (fun q => p3 q.2.2)], rfl⟩
      · rw [if_pos ⟨p, p2, p3⟩, e]
        repeat refine bs rfl ?_
        refine bc rfl (m_longAt hok hr ha t) ?_
        repeat refine bs rfl ?_
        refine bb rfl (fun c3 => ?_) (fun c3 => ?_)
        · repeat refine bs rfl ?_
          exact br rfl ⟨by rw [if_pos c3], rfl⟩
        · rw [if_neg c3]
          repeat refine bs rfl ?_
          refine bb rfl (fun c4 => ?_) (fun c4 => ?_)
          · repeat refine bs rfl ?_
            exact br rfl ⟨by rw [if_pos c4], rfl⟩
          · rw [if_neg c4]
            repeat refine bs rfl ?_
            refine bc rfl (m_whereAt hok hr ha t) ?_
            repeat refine bs rfl ?_
            refine bc rfl (m_wayAt hok hr ha t) ?_
            repeat refine bs rfl ?_
            refine bc rfl (m_endAt hok hr ha t) ?_
            repeat refine bs rfl ?_
            refine bc rfl (m_wayAt hok hr ha t) ?_
            have hpm := sp_way_pm V a t
            repeat refine bs rfl ?_
            refine bb rfl (fun c5 => ?_) (fun c5 => ?_)
            · have hw : sp_way V a t = 1 := hpm.resolve_left (fun q => by rw [q] at c5; revert c5; decide)
              repeat refine bs rfl ?_
              refine bb rfl (fun c6 => ?_) (fun c6 => ?_)
              · repeat refine bs rfl ?_
                exact br rfl ⟨by rw [if_pos c6, sp_low, if_pos c5, hw], rfl⟩
              · repeat refine bs rfl ?_
                exact br rfl ⟨by rw [if_neg c6, sp_high, if_pos c5], rfl⟩
            · have hw : sp_way V a t = -1 := hpm.resolve_right (fun q => by rw [q] at c5; exact c5 (by decide))
              repeat refine bs rfl ?_
              refine bb rfl (fun c6 => ?_) (fun c6 => ?_)
              · repeat refine bs rfl ?_
                exact br rfl ⟨by rw [if_pos c6, sp_low, if_neg c5], rfl⟩
              · repeat refine bs rfl ?_
                exact br rfl ⟨by rw [if_neg c6, sp_high, if_neg c5, hw, i_m1], rfl⟩
theorem m_person (hok : sp_Ok N V) (hr : RM J N V) (i what : Int32) : ax_cal E (d + 3) n_X12_person [.ref 68, .int i, .int what] (ax_h J) = some (some (.int (sp_person N V i what)), ax_h J) := by
  have h6 := hok.1
  unfold sp_person
  refine ax_of (t := t_X12_person) (ls := [.ref 68, .int i, .int what]) rfl ⟨rfl, Nat.le_of_ble_eq_true rfl⟩ rfl ?_
  repeat refine bs rfl ?_
  refine bc rfl (m_isPerson hok hr i) ?_
  repeat refine bs rfl ?_
  refine bz rfl (fun p => ?_) (fun p => ?_)
  · repeat refine bs rfl ?_
    exact br rfl ⟨by rw [if_neg p], rfl⟩
  · obtain ⟨a, ha, rfl⟩ := i_ps (by omega) p.1 p.2
    have e := nI_clamp (n := a) (by omega)
    obtain ⟨-, v1, v2, v3⟩ := hr.2.1 a ha
    rw [if_pos p, e]
    repeat refine bs rfl ?_
    refine bc rfl (c_in _ what 0 2) ?_
    repeat refine bs rfl ?_
    refine bz rfl (fun p3 => ?_) (fun p3 => ?_)
    · repeat refine bs rfl ?_
      refine br rfl ⟨?_, rfl⟩
      rw [if_neg (fun q => p3 (by rw [q]; decide)), if_neg (fun q => p3 (by rw [q]; decide)), if_neg (fun q => p3 (by rw [q]; decide))]
    · have q3 := p3
      rw [i_le, i_le, show (0 : Int32).toInt = 0 from by decide, show (2 : Int32).toInt = 2 from by decide] at q3
      obtain ⟨j, rfl, hj, -⟩ := i_nn q3.1
      rw [← hj] at q3
      have hj3 : j = 0 ∨ j = 1 ∨ j = 2 := by omega
      rcases hj3 with rfl | rfl | rfl
      · repeat refine bs rfl ?_
        refine bld rfl (3 * a + 1) (by rw [ix_31]; exact nI_add (3 * a + 1) 0) (by omega) (by omega) ?_
        repeat refine bs rfl ?_
        exact br rfl ⟨by rw [if_pos (by decide), ← v1], rfl⟩
      · repeat refine bs rfl ?_
        refine bld rfl (3 * a + 2) (by rw [ix_31]; exact nI_add (3 * a + 1) 1) (by omega) (by omega) ?_
        repeat refine bs rfl ?_
        exact br rfl ⟨by rw [if_neg (by decide), if_pos (by decide), ← v2], rfl⟩
      · repeat refine bs rfl ?_
        refine bld rfl a (ix_0 a) (by omega) (by omega) ?_
        repeat refine bs rfl ?_
        exact br rfl ⟨by rw [if_neg (by decide), if_neg (by decide), if_pos (by decide), ← v3], rfl⟩
end QM
