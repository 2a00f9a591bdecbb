/-! contracts of the reference: watchers, whole -/
section WM3
variable {E : ax_E} {d : Nat} {J : Nat → Nat → Int32} {N : Nat → Nat} {V : Nat → Nat → Int32}
theorem m_watchB (t w : Int32) (hb : ¬ sp_wtOk t w) : ax_cal E (d + 7) n_X12_watchers [.ref 68, .int t, .int w] (ax_h J) = some (some (.int (-1)), ax_h J) := by
  refine ax_of (t := t_X12_watchers) (ls := [.ref 68, .int t, .int w, .float 0, .float 0, .float 0, .float 0, .float 0, .float 0]) rfl ⟨rfl, Nat.le_of_ble_eq_true rfl⟩ rfl ?_
  repeat refine bs rfl ?_
  refine bc rfl (c_mIsHour _ t) ?_
  repeat refine bs rfl ?_
  refine bz rfl (fun p => ?_) (fun p => ?_)
  · repeat refine bs rfl ?_
    exact br rfl ⟨rfl, rfl⟩
  · repeat refine bs rfl ?_
    refine bc rfl (c_in _ w 0 1) ?_
    repeat refine bs rfl ?_
    refine bz rfl (fun p2 => ?_) (fun p2 => absurd ⟨p, p2⟩ hb)
    repeat refine bs rfl ?_
    exact br rfl ⟨rfl, rfl⟩
theorem m_watchers (hok : sp_Ok N V) (hr : RM J N V) {k : Nat} (h1 : 6 ≤ k) (h2 : k ≤ 18) (w : Int32) (hb : sp_wtOk (nI k) w) : ax_cal E (d + 7) n_X12_watchers [.ref 68, .int (nI k), .int w] (ax_h J) = some (some (.int (sp_wt N V (nI k) w)), ax_h J) := by
  have h6 := hok.1
  have hn : J 68 0 = nI (N 0) := hr.1
  have e0 : (0 : Int32).toInt = 0 := by decide
  have eS := (sp_or_lt (sp_wp N V (nI k) (-1000)) h6).1
  have hS := (sp_or_lt (sp_wp N V (nI k) (-1000)) h6).2
  have hbit : ∀ i, i < N 0 → (sp_orN (sp_wp N V (nI k) (-1000)) (N 0)).testBit i = sp_wp N V (nI k) (-1000) i := by
    intro i hi
    rw [sp_orN_bit _ h6 (by omega), decide_eq_true hi, Bool.true_and]
  have h01 : w = 0 ∨ w = 1 := by
    have a := i_le.mp hb.2.1
    have b := i_le.mp hb.2.2
    have e1 : (1 : Int32).toInt = 1 := by decide
    rcases (show w.toInt = 0 ∨ w.toInt = 1 by omega) with e | e
    · exact Or.inl (i_eq.mpr (by omega))
    · exact Or.inr (i_eq.mpr (by omega))
  unfold sp_wt
  refine ax_of (t := t_X12_watchers) (ls := [.ref 68, .int (nI k), .int w, .float 0, .float 0, .float 0, .float 0, .float 0, .float 0]) rfl ⟨rfl, Nat.le_of_ble_eq_true rfl⟩ rfl ?_
  have loop : ∀ (j i : Nat), i + j = N 0 → AW E (ax_cal E (d + 6)) t_X12_watchers (29, [.ref 68, .int (nI k), .int w, .int (sp_or (sp_wp N V (nI k) (-1000)) i), .int (nI i), .float 0, .float 0, .float 0, .float 0], [.int (J 68 0), .int (nI i)], ax_h J) (fun r g => r = some (.int (if sp_nw N V (nI k) (-1000) (N 0) = 1000 then -4 else if w = 1 then sp_nw N V (nI k) (-1000) (N 0) + 200 else nI (sp_wn N V (nI k) 6 (sp_nw N V (nI k) (-1000) (N 0))))) ∧ g = ax_h J) := by
    intro j
    induction j with
    | zero =>
      intro i hi
      have ei : i = N 0 := by omega
      refine bt rfl (by rw [hn]; exact nI_le (by omega) (by omega)) ?_
      rw [ei, eS]
      repeat refine bs rfl ?_
      by_cases hz : nI (sp_orN (sp_wp N V (nI k) (-1000)) (N 0)) = 0
      · have hall := (sp_or_z h6).mp (eS.trans hz)
        have e1000 : sp_nw N V (nI k) (-1000) (N 0) = 1000 := by
          rcases sp_nw_is (N := N) (V := V) (t := nI k) (ab := -1000) (N 0) with e | ⟨i, hi, hpi, -⟩
          · exact e
          · rw [hall i hi] at hpi; exact Bool.noConfusion hpi
        refine bt rfl hz ?_
        repeat refine bs rfl ?_
        exact br rfl ⟨by rw [if_pos e1000], rfl⟩
      · obtain ⟨b, eb, hbb⟩ := m_nearest (E := E) (d := d) hok hr hS (nI k)
        rcases hbb with ⟨-, hbb⟩ | ⟨a, ha, rfl, hb1, hb2⟩
        · exact absurd (eS.symm.trans (sp_or_0 (N 0) (fun i hi => by rw [← hbit i hi]; exact hbb i hi))) hz
        · rw [hbit a ha] at hb1
          have enw := sw_near hok h1 h2 ha hb1 (fun i hi hp => hb2 i hi (by rw [hbit i hi]; exact hp))
          have hlh := sp_lh hok ha h1 h2 (sp_wp_iff.mp hb1).1
          have hx1000 : ¬ sp_nw N V (nI k) (-1000) (N 0) = 1000 := fun q => by
            rw [enw] at q
            have q := i_eq.mp q
            rw [show (1000 : Int32).toInt = 1000 from by decide] at q
            omega
          refine bf rfl hz ?_
          repeat refine bs rfl ?_
          refine bc rfl eb ?_
          repeat refine bs rfl ?_
          refine bc rfl (m_highAt hok hr ha (nI k)) ?_
          have hct := sp_ct_le (sp_wp N V (nI k) (-1000)) (N 0)
          have l0 := m_watch (E := E) (d := d) hok hr h1 h2 w (sp_high N V a (nI k)) 6 (-1000) 0 (.float 0) (.float 0) (.float 0) (by omega)
          repeat refine bs rfl ?_
          refine aw_mono l0 ?_
          rintro r g ⟨rfl, rfl⟩
          refine ⟨?_, rfl⟩
          rw [if_neg hx1000, Nat.zero_add]
          rcases h01 with rfl | rfl
          · rw [if_pos rfl, if_neg (by decide)]
          · rw [if_neg (by decide), if_pos rfl, enw]
    | succ j ih =>
      intro i hi
      have ih := ih (i + 1) (by omega)
      rw [nI_succ, sp_or] at ih
      refine bf rfl (by rw [hn]; exact nI_ge (by omega) (by omega)) ?_
      repeat refine bs rfl ?_
      refine bc rfl (m_longAt hok hr (show i < N 0 by omega) (nI k)) ?_
      repeat refine bs rfl ?_
      refine bb rfl (fun c1 => ?_) (fun c1 => ?_)
      · have c1' := i_le.mp c1
        rw [if_neg (fun q => by have q := sp_wp_iff.mp q; omega)] at ih
        repeat refine bs rfl ?_
        rw [Int32.or_zero]
        exact ih
      · have c1' := i_lt.mp (Int32.not_le.mp c1)
        have hlh := sp_lh hok (show i < N 0 by omega) h1 h2 (by omega)
        rw [if_pos (sp_wp_iff.mpr ⟨by omega, by rw [show (-1000 : Int32).toInt = -1000 from by decide]; exact hlh.1⟩)] at ih
        repeat refine bs rfl ?_
        exact ih
  repeat refine bs rfl ?_
  refine bc rfl (c_mIsHour _ (nI k)) ?_
  repeat refine bs rfl ?_
  refine bz rfl (fun p => absurd hb.1 p) (fun p => ?_)
  repeat refine bs rfl ?_
  refine bc rfl (c_in _ w 0 1) ?_
  repeat refine bs rfl ?_
  refine bz rfl (fun p => absurd hb.2 p) (fun p => ?_)
  have l0 := loop (N 0) 0 (Nat.zero_add _)
  repeat refine bs rfl ?_
  exact l0
end WM3
