/-! contracts: taken (class's end, and the reference) -/
def sp_D (N : Nat → Nat) (V : Nat → Nat → Int32) (a k l : Nat) (c : Int) : Prop := sp_DL V a (N 2) c ∧ sp_DH N V a k (l + 1 - k) c
def sp_tkOk (N : Nat → Nat) (i a b : Int32) : Prop := (0 ≤ i ∧ i < nI (N 0)) ∧ (6 ≤ a ∧ a ≤ 18) ∧ (6 ≤ b ∧ b ≤ 18) ∧ a ≤ b
theorem sp_or_0 {p : Nat → Bool} : ∀ n, (∀ k, k < n → p k = false) → sp_or p n = 0
  | 0, _ => rfl
  | n + 1, h => by rw [sp_or, if_neg (by rw [h n (by omega)]; decide)]; exact sp_or_0 n (fun k hk => h k (by omega))
theorem sp_or_z {p : Nat → Bool} {n : Nat} (hn : n ≤ 6) : sp_or p n = 0 ↔ ∀ k, k < n → p k = false := by
  refine ⟨fun h k hk => ?_, sp_or_0 n⟩
  obtain ⟨e1, e2⟩ := sp_or_lt p hn
  have e3 : sp_orN p n = 0 := by
    rw [e1] at h
    exact (nI_eq (b := 0) (by omega) (by omega)).mp h
  have e4 := sp_orN_bit p hn (show k < 6 by omega)
  rw [e3, Nat.zero_testBit, decide_eq_true hk, Bool.true_and] at e4
  exact e4.symm
theorem sp_by_i {N : Nat → Nat} {V : Nat → Nat → Int32} (hok : sp_Ok N V) {a t c f : Nat} (hc : c ≤ 20) (hf : f ≤ 54) (ef : sp_full V a (nI t) = nI f) : (sp_by V a (nI t) (nI c)).toInt = if c < f then (f : Int) - c else 0 := by
  unfold sp_by
  rw [ef]
  by_cases h : c < f
  · rw [if_pos (nI_lt h (by omega)), if_pos h, i_sub (by rw [nI_toInt (by omega), nI_toInt (by omega)]; omega) (by rw [nI_toInt (by omega), nI_toInt (by omega)]; omega), nI_toInt (by omega), nI_toInt (by omega)]
  · rw [if_neg (nI_nlt (by omega) (by omega)), if_neg h]
    decide
theorem sp_onDS {N : Nat → Nat} {V : Nat → Nat → Int32} (hok : sp_Ok N V) {a t c : Nat} (ha : a < N 0) (h1 : 6 ≤ t) (h2 : t ≤ 18) (hc : c ≤ 20) : sp_on (fun j => sp_cell N V j (nI t)) (sp_way V a (nI t)) (sp_by V a (nI t) (nI c)) a (N 0) = 0 ↔ sp_DS N V a (N 0) (nI t) c := by
  obtain ⟨f, hf, ef⟩ := sp_fullN hok ha h1 h2
  have eb := sp_by_i hok hc hf ef
  have hfi : (sp_full V a (nI t)).toInt = f := by rw [ef, nI_toInt (by omega)]
  have e0 : (0 : Int32).toInt = 0 := by decide
  unfold sp_on
  rw [sp_or_z hok.1]
  have key : ∀ j, (sp_rch (sp_cell N V a (nI t)) (sp_way V a (nI t)) (sp_by V a (nI t) (nI c)) (sp_cell N V j (nI t)) = false ↔ (0 < (sp_dist N V a j (nI t)).toInt → (sp_full V a (nI t)).toInt - (sp_dist N V a j (nI t)).toInt + 1 ≤ c)) := by
    intro j
    unfold sp_rch
    rw [decide_eq_false_iff_not]
    show ¬ (0 < sp_dist N V a j (nI t) ∧ sp_dist N V a j (nI t) ≤ _) ↔ _
    rw [i_lt, i_le, eb, hfi, e0]
    by_cases h : c < f
    · rw [if_pos h]; omega
    · rw [if_neg h]; omega
  constructor
  · intro h j hj
    exact (key j).mp (h j hj)
  · intro h j hj
    exact (key j).mpr (h j hj)
section TC2
variable {E : ax_E} {d : Nat} {tl : List (Nat × Nat)} {rtl : List (List (Option Nat))} {J : Nat → Nat → Int32} {N : Nat → Nat} {V : Nat → Nat → Int32}
theorem c_takenB (hok : sp_Ok N V) (hr : RC 30 J N V) (i a b : Int32) (hb : ¬ sp_tkOk N i a b) : ax_cal E (d + 5) n_X11_taken [.ref 0, .int i, .int a, .int b] (ax_hC tl rtl J) = some (some (.int (-1)), ax_hC tl rtl J) := by
  refine ax_of (t := t_X11_taken) (ls := [.ref 0, .int i, .int a, .int b, .float 0]) rfl ⟨rfl, Nat.le_of_ble_eq_true rfl⟩ rfl ?_
  repeat refine bs rfl ?_
  refine bc rfl (c_isPerson hok hr i) ?_
  repeat refine bs rfl ?_
  refine bz rfl (fun p => ?_) (fun p => ?_)
  · repeat refine bs rfl ?_
    exact br rfl ⟨rfl, rfl⟩
  · repeat refine bs rfl ?_
    refine bc rfl (c_areHours _ a b) ?_
    repeat refine bs rfl ?_
    refine bz rfl (fun p2 => ?_) (fun p2 => absurd ⟨p, p2⟩ hb)
    repeat refine bs rfl ?_
    exact br rfl ⟨rfl, rfl⟩
theorem c_taken (hok : sp_Ok N V) (hr : RC 30 J N V) {a k l : Nat} (hb : sp_tkOk N (nI a) (nI k) (nI l)) (ha : a < N 0) (hk : 6 ≤ k) (hkl : k ≤ l) (hl : l ≤ 18) : ∃ (M : Int32) (f : Nat → Int32), ax_cal E (d + 5) n_X11_taken [.ref 0, .int (nI a), .int (nI k), .int (nI l)] (ax_hC tl rtl J) = some (some (.int (if 20 < M then -4 else M)), ax_hC tl rtl (va_up J 43 f)) ∧ (0 ≤ M.toInt ∧ M.toInt ≤ 61) ∧ ∀ c : Int, 0 ≤ c → (M.toInt ≤ c ↔ sp_D N V a k l c) := by
  obtain ⟨m1, e1, b1, c1⟩ := c_needLaws (E := E) (d := d + 2) (tl := tl) (rtl := rtl) hok hr ha
  obtain ⟨m2, f, e2, b2, c2⟩ := c_needStand (E := E) (d := d) (tl := tl) (rtl := rtl) hok hr ha hk hkl hl
  refine ⟨if m1 < m2 then m2 else m1, f, ?_, ?_, ?_⟩
  · refine ax_of (t := t_X11_taken) (ls := [.ref 0, .int (nI a), .int (nI k), .int (nI l), .float 0]) rfl ⟨rfl, Nat.le_of_ble_eq_true rfl⟩ rfl ?_
    repeat refine bs rfl ?_
    refine bc rfl (c_isPerson hok hr (nI a)) ?_
    repeat refine bs rfl ?_
    refine bz rfl (fun p => absurd hb.1 p) (fun p => ?_)
    repeat refine bs rfl ?_
    refine bc rfl (c_areHours _ (nI k) (nI l)) ?_
    repeat refine bs rfl ?_
    refine bz rfl (fun p => absurd hb.2 p) (fun p => ?_)
    repeat refine bs rfl ?_
    refine bc rfl e1 ?_
    repeat refine bs rfl ?_
    refine bc rfl e2 ?_
    repeat refine bs rfl ?_
    refine bb rfl (fun q => ?_) (fun q => ?_)
    · repeat refine bs rfl ?_
      exact br rfl ⟨by rw [if_pos q], rfl⟩
    · repeat refine bs rfl ?_
      exact br rfl ⟨by rw [if_neg q], rfl⟩
  · rw [i_max]
    split <;> omega
  · intro c h0
    rw [i_max]
    unfold sp_D
    rw [← c1 c h0, ← c2 c h0]
    split <;> omega
end TC2
section TM
variable {E : ax_E} {d : Nat} {J : Nat → Nat → Int32} {N : Nat → Nat} {V : Nat → Nat → Int32}
theorem m_does (hok : sp_Ok N V) (hr : RM J N V) {a k l c : Nat} (ha : a < N 0) (hk : 6 ≤ k) (hkl : k ≤ l) (hl : l ≤ 18) (hc : c ≤ 20) : ∃ b : Bool, ax_cal E (d + 3) n_X12_does [.ref 68, .int (nI a), .int (nI k), .int (nI l), .int (nI c)] (ax_h J) = some (some (.int (if b = true then 1 else 0)), ax_h J) ∧ (b = true ↔ sp_D N V a k l c) := by
  suffices H : ∃ r g, ax_cal E (d + 3) n_X12_does [.ref 68, .int (nI a), .int (nI k), .int (nI l), .int (nI c)] (ax_h J) = some (r, g) ∧ (g = ax_h J ∧ ∃ b : Bool, r = some (.int (if b = true then 1 else 0)) ∧ (b = true ↔ sp_D N V a k l c)) by
    obtain ⟨r, g, e, rfl, b, rfl, h⟩ := H
    exact ⟨b, e, h⟩
  have h6 := hok.1
  have h62 := hok.2.2.1
  have hn : J 68 2 = nI (N 2) := hr.2.2.2.2.1
  have hL := hr.2.2.2.2.2.1
  have hK := hok.2.2.2.2.2.2.2.2.1
  refine ax_ofQ (t := t_X12_does) (ls := [.ref 68, .int (nI a), .int (nI k), .int (nI l), .int (nI c), .float 0, .float 0]) rfl ⟨rfl, Nat.le_of_ble_eq_true rfl⟩ rfl ?_
  have laws : ∀ (j n : Nat), n + j = N 2 → ∀ b : Bool, (b = true ↔ sp_DL V a n c ∧ sp_DH N V a k (l + 1 - k) c) → AW E (ax_cal E (d + 2)) t_X12_does (58, [.ref 68, .int (nI a), .int (nI k), .int (nI l), .int (nI c), .int (if b = true then 1 else 0), .int (nI n)], [.int (J 68 2), .int (nI n)], ax_h J) (fun r g => g = ax_h J ∧ ∃ b : Bool, r = some (.int (if b = true then 1 else 0)) ∧ (b = true ↔ sp_D N V a k l c)) := by
    intro j
    induction j with
    | zero =>
      intro n hn' b hb
      refine bt rfl (by rw [hn]; exact nI_le (by omega) (by omega)) ?_
      repeat refine bs rfl ?_
      exact brz rfl ⟨rfl, b, rfl, by rw [show n = N 2 by omega] at hb; exact hb⟩
    | succ j ih =>
      intro n hn' b hb
      have ih := ih (n + 1) (by omega)
      rw [nI_succ] at ih
      obtain ⟨v1, v2, v3⟩ := hL n (by omega)
      have hKn := hK n (by omega)
      obtain ⟨q, e3, e4, -⟩ := i_nn (x := V 8 n) (by omega)
      obtain ⟨f, hf, ef⟩ := sp_fullN hok ha (show 6 ≤ q by omega) (show q ≤ 18 by omega)
      have eb := sp_by_i hok hc hf ef
      have hfi : (sp_full V a (V 8 n)).toInt = f := by rw [e3, ef, nI_toInt (by omega)]
      refine bf rfl (by rw [hn]; exact nI_ge (by omega) (by omega)) ?_
      repeat refine bs rfl ?_
      refine bz rfl (fun p => ?_) (fun p => ?_)
      · repeat refine bs rfl ?_
        refine ih false ⟨fun w => (Bool.noConfusion w), fun w => absurd (hb.mpr ⟨fun x hx => w.1 x (by omega), w.2⟩) p⟩
      · repeat refine bs rfl ?_
        refine bld rfl (3 * n) (ix_3 n) (by omega) (by omega) ?_
        rw [v1]
        repeat refine bs rfl ?_
        by_cases c1 : V 7 n = nI a
        · refine bt rfl c1 ?_
          repeat refine bs rfl ?_
          refine bld rfl (3 * n + 1) (ix_31 n) (by omega) (by omega) ?_
          rw [v2, e3]
          repeat refine bs rfl ?_
          refine bc rfl (m_longBy hok hr ha _ _) ?_
          repeat refine bs rfl ?_
          refine bld rfl (3 * n + 2) (ix_32 n) (by omega) (by omega) ?_
          rw [v3]
          have hcmp : V 9 n < sp_by V a (nI q) (nI c) ↔ ¬ (sp_full V a (V 8 n)).toInt - (V 9 n).toInt ≤ c := by
            rw [i_lt, eb, hfi]
            by_cases h : c < f
            · rw [if_pos h]; omega
            · rw [if_neg h]; omega
          refine bb rfl (fun c2 => ?_) (fun c2 => ?_)
          · repeat refine bs rfl ?_
            exact ih false ⟨fun w => (Bool.noConfusion w), fun w => absurd (w.1 n (by omega) c1) (hcmp.mp c2)⟩
          · repeat refine bs rfl ?_
            refine ih true ⟨fun _ => ?_, fun _ => rfl⟩
            have hb' := hb.mp p
            refine ⟨fun x hx hv => ?_, hb'.2⟩
            by_cases e : x = n
            · subst e
              exact Decidable.byContradiction (fun w => c2 (hcmp.mpr w))
            · exact hb'.1 x (by omega) hv
        · refine bf rfl c1 ?_
          repeat refine bs rfl ?_
          refine ih true ⟨fun _ => ?_, fun _ => rfl⟩
          have hb' := hb.mp p
          refine ⟨fun x hx hv => ?_, hb'.2⟩
          by_cases e : x = n
          · subst e
            exact absurd hv c1
          · exact hb'.1 x (by omega) hv
  have hours : ∀ (j n : Nat), k + n + j = l + 1 → ∀ b : Bool, (b = true ↔ sp_DH N V a k n c) → AW E (ax_cal E (d + 2)) t_X12_does (9, [.ref 68, .int (nI a), .int (nI k), .int (nI l), .int (nI c), .int (if b = true then 1 else 0), .int (nI (k + n))], [.int (nI l), .int (nI (k + n))], ax_h J) (fun r g => g = ax_h J ∧ ∃ b : Bool, r = some (.int (if b = true then 1 else 0)) ∧ (b = true ↔ sp_D N V a k l c)) := by
    intro j
    induction j with
    | zero =>
      intro n hn' b hb
      refine bt rfl (nI_lt (by omega) (by omega)) ?_
      have l0 := laws (N 2) 0 (Nat.zero_add _) b (by rw [hb, show n = l + 1 - k by omega]; exact ⟨fun w => ⟨fun x hx => absurd hx (by omega), w⟩, fun w => w.2⟩)
      repeat refine bs rfl ?_
      exact l0
    | succ j ih =>
      intro n hn' b hb
      have ih := ih (n + 1) (by omega)
      rw [show k + (n + 1) = k + n + 1 by omega, nI_succ (k + n)] at ih
      have hds := sp_onDS hok ha (show 6 ≤ k + n by omega) (show k + n ≤ 18 by omega) hc
      refine bf rfl (nI_nlt (by omega) (by omega)) ?_
      repeat refine bs rfl ?_
      refine bz rfl (fun p => ?_) (fun p => ?_)
      · repeat refine bs rfl ?_
        exact ih false ⟨fun w => (Bool.noConfusion w), fun w => absurd (hb.mpr (fun x hx => w x (by omega))) p⟩
      · repeat refine bs rfl ?_
        refine bc rfl (m_longBy hok hr ha _ _) ?_
        repeat refine bs rfl ?_
        refine bc rfl (m_standOn hok hr ha _ _) ?_
        repeat refine bs rfl ?_
        refine bb rfl (fun c2 => ?_) (fun c2 => ?_)
        · repeat refine bs rfl ?_
          refine ih true ⟨fun _ => ?_, fun _ => rfl⟩
          intro x hx
          by_cases e : x = n
          · subst e
            exact hds.mp c2
          · exact hb.mp p x (by omega)
        · repeat refine bs rfl ?_
          exact ih false ⟨fun w => (Bool.noConfusion w), fun w => absurd (hds.mpr (w n (by omega))) c2⟩
  have l0 := hours (l + 1 - k) 0 (by omega) true ⟨fun _ x hx => absurd hx (by omega), fun _ => rfl⟩
  repeat refine bs rfl ?_
  exact l0
theorem m_takenB (hok : sp_Ok N V) (hr : RM J N V) (i a b : Int32) (hb : ¬ sp_tkOk N i a b) : ax_cal E (d + 4) n_X12_taken [.ref 68, .int i, .int a, .int b] (ax_h J) = some (some (.int (-1)), ax_h J) := by
  refine ax_of (t := t_X12_taken) (ls := [.ref 68, .int i, .int a, .int b, .float 0]) rfl ⟨rfl, Nat.le_of_ble_eq_true rfl⟩ rfl ?_
  repeat refine bs rfl ?_
  refine bc rfl (m_isPerson hok hr i) ?_
  repeat refine bs rfl ?_
  refine bz rfl (fun p => ?_) (fun p => ?_)
  · repeat refine bs rfl ?_
    exact br rfl ⟨rfl, rfl⟩
  · repeat refine bs rfl ?_
    refine bc rfl (c_mIsHour _ a) ?_
    repeat refine bs rfl ?_
    refine bz rfl (fun p2 => ?_) (fun p2 => ?_)
    · repeat refine bs rfl ?_
      exact br rfl ⟨rfl, rfl⟩
    · repeat refine bs rfl ?_
      refine bc rfl (c_mIsHour _ b) ?_
      repeat refine bs rfl ?_
      refine bz rfl (fun p3 => ?_) (fun p3 => ?_)
      · repeat refine bs rfl ?_
        exact br rfl ⟨rfl, rfl⟩
      · repeat refine bs rfl ?_
        refine bf rfl (fun q => hb ⟨p, p2, p3, q⟩) ?_
        repeat refine bs rfl ?_
        exact br rfl ⟨rfl, rfl⟩
theorem m_taken (hok : sp_Ok N V) (hr : RM J N V) {a k l : Nat} (hb : sp_tkOk N (nI a) (nI k) (nI l)) (ha : a < N 0) (hk : 6 ≤ k) (hkl : k ≤ l) (hl : l ≤ 18) {M : Int32} (hM : 0 ≤ M.toInt ∧ M.toInt ≤ 61) (hD : ∀ c : Int, 0 ≤ c → (M.toInt ≤ c ↔ sp_D N V a k l c)) : ax_cal E (d + 4) n_X12_taken [.ref 68, .int (nI a), .int (nI k), .int (nI l)] (ax_h J) = some (some (.int (if 20 < M then -4 else M)), ax_h J) := by
  obtain ⟨u, eu, eu2, -⟩ := i_nn hM.1
  have e20 : (20 : Int32).toInt = 20 := by decide
  refine ax_of (t := t_X12_taken) (ls := [.ref 68, .int (nI a), .int (nI k), .int (nI l), .float 0]) rfl ⟨rfl, Nat.le_of_ble_eq_true rfl⟩ rfl ?_
  have loop : ∀ (j c : Nat), c + j = 21 → c ≤ u → AW E (ax_cal E (d + 3)) t_X12_taken (36, [.ref 68, .int (nI a), .int (nI k), .int (nI l), .int (nI c)], [.int 20, .int (nI c)], ax_h J) (fun r g => r = some (.int (if 20 < M then -4 else M)) ∧ g = ax_h J) := by
    intro j
    induction j with
    | zero =>
      intro c hc hu
      refine bt rfl (nI_lt (a := 20) (b := c) (by omega) (by omega)) ?_
      repeat refine bs rfl ?_
      exact br rfl ⟨by rw [if_pos (i_lt.mpr (by omega))], rfl⟩
    | succ j ih =>
      intro c hc hu
      have ih := ih (c + 1) (by omega)
      rw [nI_succ] at ih
      obtain ⟨b, e, h⟩ := m_does (E := E) (d := d) hok hr ha hk hkl hl (show c ≤ 20 by omega)
      rw [← hD c (by omega)] at h
      refine bf rfl (nI_nlt (a := 20) (b := c) (by omega) (by omega)) ?_
      repeat refine bs rfl ?_
      refine bc rfl e ?_
      repeat refine bs rfl ?_
      refine bz rfl (fun p => ?_) (fun p => ?_)
      · repeat refine bs rfl ?_
        exact ih (by have : ¬ M.toInt ≤ c := fun q => p (h.mpr q)
                     omega)
      · repeat refine bs rfl ?_
        have hh := h.mp p
        have ec : c = u := by omega
        exact br rfl ⟨by rw [if_neg (fun q => absurd (i_lt.mp q) (by omega)), eu, ec], rfl⟩
  have l0 := loop 21 0 (by omega) (Nat.zero_le _)
  repeat refine bs rfl ?_
  refine bc rfl (m_isPerson hok hr (nI a)) ?_
  repeat refine bs rfl ?_
  refine bz rfl (fun p => absurd hb.1 p) (fun p => ?_)
  repeat refine bs rfl ?_
  refine bc rfl (c_mIsHour _ (nI k)) ?_
  repeat refine bs rfl ?_
  refine bz rfl (fun p => absurd hb.2.1 p) (fun p => ?_)
  repeat refine bs rfl ?_
  refine bc rfl (c_mIsHour _ (nI l)) ?_
  repeat refine bs rfl ?_
  refine bz rfl (fun p => absurd hb.2.2.1 p) (fun p => ?_)
  repeat refine bs rfl ?_
  refine bt rfl hb.2.2.2 ?_
  iterate 4 refine bs rfl ?_
  exact l0
end TM
