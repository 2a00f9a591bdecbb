/-! contracts: wear, light, broken, first: the reference's side; first of the class -/
section HM
variable {E : ax_E} {d : Nat} {J : Nat → Nat → Int32} {N : Nat → Nat} {V : Nat → Nat → Int32}
theorem m_wear (hok : sp_Ok N V) (hr : RM J N V) (i t : Int32) : ax_cal E (d + 5) n_X12_wear [.ref 68, .int i, .int t] (ax_h J) = some (some (.int (sp_wearT N V i t)), ax_h J) := by
  have h6 := hok.1
  unfold sp_wearT
  refine ax_of (t := t_X12_wear) (ls := [.ref 68, .int i, .int t, .float 0, .float 0]) rfl ⟨rfl, Nat.le_of_ble_eq_true rfl⟩ rfl ?_
  repeat refine bs rfl ?_
  refine bc rfl (m_isPerson hok hr i) ?_
  repeat refine bs rfl ?_
  refine bz rfl (fun p => ?_) (fun p => ?_)
  · repeat refine bs rfl ?_
    exact br rfl ⟨by rw [if_neg (fun q => p q.1)], rfl⟩
  · obtain ⟨a, ha, rfl⟩ := i_ps (by omega) p.1 p.2
    have e := nI_clamp (n := a) (by omega)
    repeat refine bs rfl ?_
    refine bc rfl (c_mIsHour _ t) ?_
    repeat refine bs rfl ?_
    refine bz rfl (fun p2 => ?_) (fun p2 => ?_)
    · repeat refine bs rfl ?_
      exact br rfl ⟨by rw [if_neg (fun q => p2 q.2)], rfl⟩
    · obtain ⟨k, h1, h2, rfl⟩ := i_hr p2.1 p2.2
      have e2 := nI_clamp (n := k) (by omega)
      rw [if_pos ⟨p, p2⟩, e, e2]
      have loop : ∀ (j n : Nat), 6 + n + j = k + 1 → AW E (ax_cal E (d + 4)) t_X12_wear (26, [.ref 68, .int (nI a), .int (nI k), .int (sp_wear N V a n), .int (nI (6 + n))], [.int (nI k), .int (nI (6 + n))], ax_h J) (fun r g => r = some (.int (sp_wear N V a (k - 5))) ∧ g = ax_h J) := by
        intro j
        induction j with
        | zero =>
          intro n hn
          refine bt rfl (nI_lt (by omega) (by omega)) ?_
          repeat refine bs rfl ?_
          exact br rfl ⟨by rw [show n = k - 5 by omega], rfl⟩
        | succ j ih =>
          intro n hn
          have ih := ih (n + 1) (by omega)
          obtain ⟨s, hs, es, -⟩ := sp_stN N V h6 a (nI (6 + n))
          rw [sp_wear, show 6 + (n + 1) = 6 + n + 1 by omega, nI_succ, es, sp_bc_pop s hs] at ih
          have hst := m_standsAt (E := E) (d := d) hok hr ha (nI (6 + n))
          rw [es] at hst
          refine bf rfl (nI_nlt (by omega) (by omega)) ?_
          repeat refine bs rfl ?_
          refine bc rfl hst ?_
          repeat refine bs rfl ?_
          refine bc rfl (m_bits _ hs) ?_
          repeat refine bs rfl ?_
          exact ih
      repeat refine bs rfl ?_
      exact loop (k - 5) 0 (by omega)
theorem m_light (hok : sp_Ok N V) (hr : RM J N V) (t : Int32) : ax_cal E (d + 5) n_X12_light [.ref 68, .int t] (ax_h J) = some (some (.int (sp_lightT N V t)), ax_h J) := by
  unfold sp_lightT
  refine ax_of (t := t_X12_light) (ls := [.ref 68, .int t, .float 0, .float 0]) rfl ⟨rfl, Nat.le_of_ble_eq_true rfl⟩ rfl ?_
  repeat refine bs rfl ?_
  refine bc rfl (c_mIsHour _ t) ?_
  repeat refine bs rfl ?_
  refine bz rfl (fun p => ?_) (fun p => ?_)
  · repeat refine bs rfl ?_
    exact br rfl ⟨by rw [if_neg p], rfl⟩
  · rw [if_pos p]
    have loop : ∀ (j x : Nat), x + j = 61 → AW E (ax_cal E (d + 4)) t_X12_light (16, [.ref 68, .int t, .int (sp_light N V t x), .int (nI x)], [.int 60, .int (nI x)], ax_h J) (fun r' g => r' = some (.int (sp_light N V t 61)) ∧ g = ax_h J) := by
      intro j
      induction j with
      | zero =>
        intro x hx
        refine bt rfl (nI_lt (a := 60) (by omega) (by omega)) ?_
        repeat refine bs rfl ?_
        exact br rfl ⟨by rw [show x = 61 by omega], rfl⟩
      | succ j ih =>
        intro x hx
        have ih := ih (x + 1) (by omega)
        rw [sp_light, nI_succ] at ih
        refine bf rfl (nI_nlt (a := 60) (by omega) (by omega)) ?_
        repeat refine bs rfl ?_
        have hcv := m_covers (E := E) (d := d) hok hr (nI x) t
        rw [sp_covers, if_pos ⟨⟨nI_pos' (by omega), nI_le (b := 60) (by omega) (by omega)⟩, p⟩] at hcv
        refine bc rfl hcv ?_
        repeat refine bs rfl ?_
        refine bb rfl (fun c => ?_) (fun c => ?_)
        · repeat refine bs rfl ?_
          rw [if_pos c] at ih
          exact ih
        · repeat refine bs rfl ?_
          rw [if_neg c, ← Int32.add_zero (sp_light N V t x)] at ih
          exact ih
    iterate 6 refine bs rfl ?_
    exact loop 61 0 (by omega)
theorem m_broken (hok : sp_Ok N V) (hr : RM J N V) : ax_cal E (d + 4) n_X12_broken [.ref 68] (ax_h J) = some (some (.int (sp_brk V (N 2) 0)), ax_h J) := by
  have h6 := hok.2.2.1
  have h60 := hok.1
  have hn : J 68 2 = nI (N 2) := hr.2.2.2.2.1
  have hv := hr.2.2.2.2.2.1
  have ho := hok.2.2.2.2.2.2.2.2.1
  refine ax_of (t := t_X12_broken) (ls := [.ref 68, .float 0]) rfl ⟨rfl, Nat.le_of_ble_eq_true rfl⟩ rfl ?_
  have loop : ∀ (j k : Nat), k + j = N 2 → AW E (ax_cal E (d + 3)) t_X12_broken (7, [.ref 68, .int (nI k)], [.int (J 68 2), .int (nI k)], ax_h J) (fun r' g => r' = some (.int (sp_brk V j k)) ∧ g = ax_h J) := by
    intro j
    induction j with
    | zero =>
      intro k hk
      refine bt rfl (by rw [hn]; exact nI_le (by omega) (by omega)) ?_
      repeat refine bs rfl ?_
      exact br rfl ⟨rfl, rfl⟩
    | succ j ih =>
      intro k hk
      have ih := ih (k + 1) (by omega)
      rw [nI_succ] at ih
      obtain ⟨v1, v2, v3⟩ := hv k (by omega)
      obtain ⟨⟨a, ha, e1⟩, e2, -⟩ := ho k (by omega)
      have ec := nI_clamp (n := a) (by omega)
      refine bf rfl (by rw [hn]; exact nI_ge (by omega) (by omega)) ?_
      repeat refine bs rfl ?_
      refine bld rfl (3 * k) (ix_3 k) (by omega) (by omega) ?_
      repeat refine bs rfl ?_
      refine bld rfl (3 * k + 1) (ix_31 k) (by omega) (by omega) ?_
      rw [v1, v2, e1]
      repeat refine bs rfl ?_
      refine bc rfl (m_longAt hok hr ha (V 8 k)) ?_
      repeat refine bs rfl ?_
      refine bld rfl (3 * k + 2) (ix_32 k) (by omega) (by omega) ?_
      rw [v3]
      repeat refine bs rfl ?_
      refine bb rfl (fun c => ?_) (fun c => ?_)
      · repeat refine bs rfl ?_
        rw [sp_brk, if_neg (by rw [e1, ec]; exact Int32.not_lt.mpr c)]
        exact ih
      · repeat refine bs rfl ?_
        exact br rfl ⟨by rw [sp_brk, if_pos (by rw [e1, ec]; exact Int32.not_le.mp c)], rfl⟩
  repeat refine bs rfl ?_
  exact loop (N 2) 0 (Nat.zero_add _)
theorem m_first (hok : sp_Ok N V) (hr : RM J N V) (what : Int32) : ax_cal E (d + 5) n_X12_first [.ref 68, .int what] (ax_h J) = some (some (.int (sp_first N V what)), ax_h J) := by
  have h6 := hok.1
  have hn : J 68 0 = nI (N 0) := hr.1
  unfold sp_first
  refine ax_of (t := t_X12_first) (ls := [.ref 68, .int what, .float 0, .float 0, .float 0]) rfl ⟨rfl, Nat.le_of_ble_eq_true rfl⟩ rfl ?_
  repeat refine bs rfl ?_
  refine bc rfl (c_in _ what 0 2) ?_
  repeat refine bs rfl ?_
  refine bz rfl (fun p => ?_) (fun p => ?_)
  · repeat refine bs rfl ?_
    exact br rfl ⟨by rw [if_neg p], rfl⟩
  · rw [if_pos p]
    have outer : ∀ (m n : Nat), n + m = 13 → ∀ g3 g4 : Int32, ∀ l3 l4 : Value, (l3 = .float 0 ∨ l3 = .int g3) → AW E (ax_cal E (d + 4)) t_X12_first (17, [.ref 68, .int what, .int (nI (6 + n)), l3, l4], [.int 18, .int (nI (6 + n))], ax_h J) (fun r' g => r' = some (.int (sp_ff N V what m n)) ∧ g = ax_h J) := by
      intro m
      induction m with
      | zero =>
        intro n hn' g3 g4 l3 l4 hl
        refine bt rfl (nI_lt (a := 18) (b := 6 + n) (by omega) (by omega)) ?_
        repeat refine bs rfl ?_
        exact br rfl ⟨rfl, rfl⟩
      | succ m ihm =>
        intro n hn' g3 g4 l3 l4 hl
        refine bf rfl (nI_nlt (b := 6 + n) (a := 18) (by omega) (by omega)) ?_
        have inner : ∀ (j i : Nat), i + j = N 0 → ∀ l4 : Value, AW E (ax_cal E (d + 4)) t_X12_first (27, [.ref 68, .int what, .int (nI (6 + n)), .int (nI i), l4], [.int (J 68 0), .int (nI i)], ax_h J) (fun r' g => r' = some (.int (match sp_fi N V what n j i with | some r => r | none => sp_ff N V what m (n + 1))) ∧ g = ax_h J) := by
          intro j
          induction j with
          | zero =>
            intro i hi l4
            refine bt rfl (by rw [hn]; exact nI_le (by omega) (by omega)) ?_
            have l0 := ihm (n + 1) (by omega) (nI i) 0 (.int (nI i)) l4 (Or.inr rfl)
            rw [show 6 + (n + 1) = 6 + n + 1 by omega, nI_succ] at l0
            repeat refine bs rfl ?_
            exact l0
          | succ j ih =>
            intro i hi l4
            have ih := ih (i + 1) (by omega)
            rw [nI_succ] at ih
            obtain ⟨s, hs, es, es2⟩ := sp_stN N V h6 i (nI (6 + n))
            have hst := m_standsAt (E := E) (d := d) hok hr (show i < N 0 by omega) (nI (6 + n))
            rw [es] at hst
            refine bf rfl (by rw [hn]; exact nI_ge (by omega) (by omega)) ?_
            repeat refine bs rfl ?_
            refine bc rfl hst ?_
            repeat refine bs rfl ?_
            rw [sp_fi]
            by_cases hz : s = 0
            · subst hz
              rw [if_pos (by rw [es]; rfl)]
              repeat refine bs rfl ?_
              exact ih _
            · rw [if_neg (by rw [es]; exact nI_ne0 (by omega) (by omega))]
              refine bf rfl (nI_nle (by omega) (by omega)) ?_
              repeat refine bs rfl ?_
              refine bb rfl (fun c1 => ?_) (fun c1 => ?_)
              · repeat refine bs rfl ?_
                exact br rfl ⟨by rw [if_pos c1], rfl⟩
              · repeat refine bs rfl ?_
                refine bb rfl (fun c2 => ?_) (fun c2 => ?_)
                · repeat refine bs rfl ?_
                  exact br rfl ⟨by rw [if_neg c1, if_pos c2], rfl⟩
                · repeat refine bs rfl ?_
                  refine bc rfl (m_lowest _ hs hz) ?_
                  repeat refine bs rfl ?_
                  exact br rfl ⟨by rw [if_neg c1, if_neg c2, ← es2], rfl⟩
        rw [sp_ff]
        have l0 := inner (N 0) 0 (Nat.zero_add _) l4
        rcases hl with rfl | rfl
        · repeat refine bs rfl ?_
          exact l0
        · repeat refine bs rfl ?_
          exact l0
    iterate 4 refine bs rfl ?_
    exact outer 13 0 (by omega) 0 0 _ _ (Or.inl rfl)
end HM
