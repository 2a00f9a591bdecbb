/-! contracts of the reference: watchers -/
section WM2
variable {E : ax_E} {d : Nat} {J : Nat → Nat → Int32} {N : Nat → Nat} {V : Nat → Nat → Int32}
theorem sw_near (hok : sp_Ok N V) {a k : Nat} {ab : Int32} (h1 : 6 ≤ k) (h2 : k ≤ 18) (ha : a < N 0) (hp : sp_wp N V (nI k) ab a = true) (hm : ∀ i, i < N 0 → sp_wp N V (nI k) ab i = true → (sp_high N V a (nI k)).toInt ≤ (sp_high N V i (nI k)).toInt) : sp_nw N V (nI k) ab (N 0) = sp_high N V a (nI k) := by
  have hl := sp_nw_low (N 0) a ha hp
  have hh := sp_lh hok ha h1 h2 (sp_wp_iff.mp hp).1
  rcases sp_nw_is (N := N) (V := V) (t := nI k) (ab := ab) (N 0) with e | ⟨i, hi, hpi, e⟩
  · rw [e, show (1000 : Int32).toInt = 1000 from by decide] at hl
    omega
  · have h3 := hm i hi hpi
    rw [e] at hl
    rw [e]
    exact i_eq.mpr (by omega)
theorem m_watch (hok : sp_Ok N V) (hr : RM J N V) {k : Nat} (h1 : 6 ≤ k) (h2 : k ≤ 18) (w : Int32) (low : Int32) : ∀ (j : Nat) (ab : Int32) (mny : Nat) (l6 l7 l8 : Value), sp_ct (sp_wp N V (nI k) ab) (N 0) ≤ j → AW E (ax_cal E (d + 6)) t_X12_watchers (83, [.ref 68, .int (nI k), .int w, .int (nI (sp_orN (sp_wp N V (nI k) ab) (N 0))), .int low, .int (nI mny), l6, l7, l8], [.int (nI (sp_orN (sp_wp N V (nI k) ab) (N 0)))], ax_h J) (fun r g => r = some (.int (if w = 0 then nI (mny + sp_wn N V (nI k) j (sp_nw N V (nI k) ab (N 0))) else low + 200)) ∧ g = ax_h J) := by
  have h6 := hok.1
  have hn : J 68 0 = nI (N 0) := hr.1
  intro j
  induction j with
  | zero =>
    intro ab mny l6 l7 l8 hj
    have hz := sp_ct_0 (N 0) (Nat.le_zero.mp hj)
    have e := sp_or_0 (N 0) hz
    rw [(sp_or_lt _ h6).1] at e
    refine bt rfl e ?_
    repeat refine bs rfl ?_
    refine bb rfl (fun c1 => ?_) (fun c1 => ?_)
    · repeat refine bs rfl ?_
      exact br rfl ⟨by rw [if_pos c1]; rfl, rfl⟩
    · repeat refine bs rfl ?_
      exact br rfl ⟨by rw [if_neg c1], rfl⟩
  | succ j ih =>
    intro ab mny l6 l7 l8 hj
    have hS := (sp_or_lt (sp_wp N V (nI k) ab) h6).2
    have eS := (sp_or_lt (sp_wp N V (nI k) ab) h6).1
    have hbit : ∀ i, i < N 0 → (sp_orN (sp_wp N V (nI k) ab) (N 0)).testBit i = sp_wp N V (nI k) ab i := by
      intro i hi
      rw [sp_orN_bit _ h6 (by omega), decide_eq_true hi, Bool.true_and]
    by_cases hz : nI (sp_orN (sp_wp N V (nI k) ab) (N 0)) = 0
    · have hall := (sp_or_z h6).mp (eS.trans hz)
      have e1000 : sp_nw N V (nI k) ab (N 0) = 1000 := by
        rcases sp_nw_is (N := N) (V := V) (t := nI k) (ab := ab) (N 0) with e | ⟨i, hi, hpi, -⟩
        · exact e
        · rw [hall i hi] at hpi; exact Bool.noConfusion hpi
      refine bt rfl hz ?_
      repeat refine bs rfl ?_
      refine bb rfl (fun c1 => ?_) (fun c1 => ?_)
      · repeat refine bs rfl ?_
        exact br rfl ⟨by rw [if_pos c1, sp_wn, if_pos e1000]; rfl, rfl⟩
      · repeat refine bs rfl ?_
        exact br rfl ⟨by rw [if_neg c1], rfl⟩
    · obtain ⟨b, eb, hb⟩ := m_nearest (E := E) (d := d) hok hr hS (nI k)
      rcases hb with ⟨-, hb⟩ | ⟨a, ha, rfl, hb1, hb2⟩
      · exact absurd (eS.symm.trans (sp_or_0 (N 0) (fun i hi => by rw [← hbit i hi]; exact hb i hi))) hz
      · rw [hbit a ha] at hb1
        have enw := sw_near hok h1 h2 ha hb1 (fun i hi hp => hb2 i hi (by rw [hbit i hi]; exact hp))
        have hlh := sp_lh hok ha h1 h2 (sp_wp_iff.mp hb1).1
        have hab := (sp_wp_iff.mp hb1).2
        have hsub : ∀ i, sp_wp N V (nI k) (sp_high N V a (nI k)) i = true → sp_wp N V (nI k) ab i = true := by
          intro i hi
          have q := sp_wp_iff.mp hi
          exact sp_wp_iff.mpr ⟨q.1, by omega⟩
        have hnot : sp_wp N V (nI k) (sp_high N V a (nI k)) a = false := by
          cases hv : sp_wp N V (nI k) (sp_high N V a (nI k)) a with
          | false => rfl
          | true => have q := sp_wp_iff.mp hv; omega
        have hless := sp_ct_less hsub hnot hb1 (N 0) ha
        have ih := ih (sp_high N V a (nI k)) (mny + 1)
        rw [nI_succ mny, Nat.add_assoc, Nat.add_comm 1, ← (sp_or_lt (sp_wp N V (nI k) (sp_high N V a (nI k))) h6).1] at ih
        refine bf rfl hz ?_
        repeat refine bs rfl ?_
        refine bc rfl eb ?_
        repeat refine bs rfl ?_
        refine bc rfl (m_highAt hok hr ha (nI k)) ?_
        have hx1000 : ¬ sp_high N V a (nI k) = 1000 := fun q => by
          have q := i_eq.mp q
          rw [show (1000 : Int32).toInt = 1000 from by decide] at q
          omega
        rw [enw, sp_wn, if_neg hx1000]
        have inner : ∀ (m i : Nat), i + m = N 0 → AW E (ax_cal E (d + 6)) t_X12_watchers (111, [.ref 68, .int (nI k), .int w, .int (nI (sp_orN (sp_wp N V (nI k) ab) (N 0))), .int low, .int (nI mny), .int (sp_high N V a (nI k)), .int (sp_or (sp_wp N V (nI k) (sp_high N V a (nI k))) i), .int (nI i)], [.int (J 68 0), .int (nI i)], ax_h J) (fun r g => r = some (.int (if w = 0 then nI (mny + (sp_wn N V (nI k) j (sp_nw N V (nI k) (sp_high N V a (nI k)) (N 0)) + 1)) else low + 200)) ∧ g = ax_h J) := by
          intro m
          induction m with
          | zero =>
            intro i hi
            have ei : i = N 0 := by omega
            refine bt rfl (by rw [hn]; exact nI_le (by omega) (by omega)) ?_
            rw [ei]
            repeat refine bs rfl ?_
            exact ih _ _ _ (by omega)
          | succ m ihm =>
            intro i hi
            have ihm := ihm (i + 1) (by omega)
            rw [nI_succ, sp_or] at ihm
            have hh := sp_hasN _ hS i (by omega)
            refine bf rfl (by rw [hn]; exact nI_ge (by omega) (by omega)) ?_
            repeat refine bs rfl ?_
            refine bc rfl (c_has _ _ (nI i)) ?_
            repeat refine bs rfl ?_
            refine bz rfl (fun p0 => ?_) (fun p0 => ?_)
            · rw [if_neg (fun q => p0 (hh.mpr (by rw [hbit i (by omega)]; exact hsub i q)))] at ihm
              repeat refine bs rfl ?_
              rw [Int32.or_zero]
              exact ihm
            · have hp := hh.mp p0
              rw [hbit i (by omega)] at hp
              repeat refine bs rfl ?_
              refine bc rfl (m_lowAt hok hr (show i < N 0 by omega) (nI k)) ?_
              repeat refine bs rfl ?_
              refine bb rfl (fun c1 => ?_) (fun c1 => ?_)
              · have c1' := i_le.mp c1
                rw [if_neg (fun q => by have q := sp_wp_iff.mp q; omega)] at ihm
                repeat refine bs rfl ?_
                rw [Int32.or_zero]
                exact ihm
              · have c1' := i_lt.mp (Int32.not_le.mp c1)
                rw [if_pos (sp_wp_iff.mpr ⟨(sp_wp_iff.mp hp).1, c1'⟩)] at ihm
                repeat refine bs rfl ?_
                exact ihm
        have l0 := inner (N 0) 0 (Nat.zero_add _)
        repeat refine bs rfl ?_
        exact l0
end WM2
