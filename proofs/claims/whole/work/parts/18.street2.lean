/-! contracts: who stands on a shadow (class) -/
theorem sp_or_cong {p q : Nat → Bool} : ∀ {n : Nat}, (∀ k, k < n → p k = q k) → sp_or p n = sp_or q n
  | 0, _ => rfl
  | n + 1, h => by rw [sp_or, sp_or, sp_or_cong (fun k hk => h k (by omega)), h n (by omega)]
theorem sp_on_cong {f g : Nat → Int32} {way len : Int32} {a n : Nat} (ha : a < n) (h : ∀ k, k < n → f k = g k) : sp_on f way len a n = sp_on g way len a n := sp_or_cong (fun k hk => by rw [h a ha, h k hk])
theorem rc43 {J : Nat → Nat → Int32} {N : Nat → Nat} {V : Nat → Nat → Int32} {f : Nat → Int32} (h : RC 30 J N V) : RC 30 (va_up J 43 f) N V := h
section STR2
variable {E : ax_E} {d : Nat} {tl : List (Nat × Nat)} {rtl : List (List (Option Nat))} {J : Nat → Nat → Int32} {N : Nat → Nat} {V : Nat → Nat → Int32}
theorem c_cellsAt (hok : sp_Ok N V) (hr : RC 30 J N V) (t : Int32) : ∃ f : Nat → Int32, ax_cal E (d + 3) n_X7_cellsAt [.ref 31, .int t] (ax_hC tl rtl J) = some (some (.ref 43), ax_hC tl rtl (va_up J 43 f)) ∧ ∀ i, i < N 0 → f i = sp_cell N V i t := by
  have h6 := hok.1
  have hn : J 31 8 = nI (N 0) := hr.1
  generalize hF : (fun (i j : Nat) => if j < i then sp_cell N V j t else J 43 j) = F
  refine ⟨F (N 0), ?_, fun i hi => by rw [← hF]; simp [hi]⟩
  have e0 : va_up J 43 (F 0) = J := by
    rw [show F 0 = J 43 by rw [← hF]; funext j; simp]; exact ax_up_id J 43
  have e1 : ∀ i, upd (F i) i (sp_cell N V i t) = F (i + 1) := by
    intro i
    rw [← hF]
    funext j
    by_cases q : j = i
    · subst q; simp [upd]
    · by_cases q2 : j < i
      · simp [upd, q, q2, show j < i + 1 by omega]
      · simp [upd, q, q2, show ¬ j < i + 1 by omega]
  refine ax_of (t := t_X7_cellsAt) (ls := [.ref 31, .int t, .float 0]) rfl ⟨rfl, Nat.le_of_ble_eq_true rfl⟩ rfl ?_
  have loop : ∀ (j i : Nat), i + j = N 0 → AW E (ax_cal E (d + 2)) t_X7_cellsAt (7, [.ref 31, .int t, .int (nI i)], [.int (J 31 8), .int (nI i)], ax_hC tl rtl (va_up J 43 (F i))) (fun r' g => r' = some (.ref 43) ∧ g = ax_hC tl rtl (va_up J 43 (F (N 0)))) := by
    intro j
    induction j with
    | zero =>
      intro i hi
      refine bt rfl (by rw [hn]; exact nI_le (by omega) (by omega)) ?_
      repeat (first | refine bs rfl ?_ | refine bld rfl _ rfl (by omega) (by omega) ?_)
      exact br rfl ⟨rfl, by rw [show i = N 0 by omega]⟩
    | succ j ih =>
      intro i hi
      have ih := ih (i + 1) (by omega)
      rw [← e1, nI_succ] at ih
      refine bf rfl (by rw [hn]; exact nI_ge (by omega) (by omega)) ?_
      repeat (first | refine bs rfl ?_ | refine bld rfl _ rfl (by omega) (by omega) ?_)
      refine bc rfl (c_cellOf hok (rc43 hr) (show i < N 0 by omega) t) ?_
      repeat (first | refine bs rfl ?_ | refine bld rfl _ rfl (by omega) (by omega) ?_)
      refine bsto rfl i rfl (by omega) (by omega) ?_
      rw [bx_uu, va_up_self]
      repeat (first | refine bs rfl ?_ | refine bld rfl _ rfl (by omega) (by omega) ?_)
      exact ih
  have l0 := loop (N 0) 0 (Nat.zero_add _)
  rw [e0] at l0
  repeat (first | refine bs rfl ?_ | refine bld rfl _ rfl (by omega) (by omega) ?_)
  exact l0
theorem c_standersOn (hok : sp_Ok N V) (hr : RC 30 J N V) {a k : Nat} (ha : a < N 0) (h1 : 6 ≤ k) (h2 : k ≤ 18) : ax_cal E (d + 3) n_X7_standersOn [.ref 31, .int (nI a), .int (nI k), .ref 43] (ax_hC tl rtl J) = some (some (.int (sp_on (J 43) (sp_way V a (nI k)) (sp_len V a (nI k)) a (N 0))), ax_hC tl rtl J) := by
  have h6 := hok.1
  have hn : J 31 8 = nI (N 0) := hr.1
  unfold sp_on
  generalize hp : (fun j => sp_rch (J 43 a) (sp_way V a (nI k)) (sp_len V a (nI k)) (J 43 j)) = p
  refine ax_of (t := t_X7_standersOn) (ls := [.ref 31, .int (nI a), .int (nI k), .ref 43, .float 0, .float 0, .float 0, .float 0, .float 0]) rfl ⟨rfl, Nat.le_of_ble_eq_true rfl⟩ rfl ?_
  have loop : ∀ (j i : Nat), i + j = N 0 → ∀ g : Value, AW E (ax_cal E (d + 2)) t_X7_standersOn (28, [.ref 31, .int (nI a), .int (nI k), .ref 43, .int (sp_way V a (nI k)), .int (sp_len V a (nI k)), .int (sp_or p i), .int (nI i), g], [.int (J 31 8), .int (nI i)], ax_hC tl rtl J) (fun r' g => r' = some (.int (sp_or p (N 0))) ∧ g = ax_hC tl rtl J) := by
    intro j
    induction j with
    | zero =>
      intro i hi g
      refine bt rfl (by rw [hn]; exact nI_le (by omega) (by omega)) ?_
      repeat (first | refine bs rfl ?_ | refine bld rfl _ rfl (by omega) (by omega) ?_)
      exact br rfl ⟨by rw [show i = N 0 by omega], rfl⟩
    | succ j ih =>
      intro i hi g
      have ih := ih (i + 1) (by omega)
      rw [sp_or, nI_succ] at ih
      have hpi : p i = decide (0 < (J 43 i - J 43 a) * sp_way V a (nI k) ∧ (J 43 i - J 43 a) * sp_way V a (nI k) ≤ sp_len V a (nI k)) := by rw [← hp]; rfl
      refine bf rfl (by rw [hn]; exact nI_ge (by omega) (by omega)) ?_
      repeat (first | refine bs rfl ?_ | refine bld rfl _ rfl (by omega) (by omega) ?_)
      refine bb rfl (fun c => ?_) (fun c => ?_)
      · repeat (first | refine bs rfl ?_ | refine bld rfl _ rfl (by omega) (by omega) ?_)
        rw [if_neg (by rw [hpi, decide_eq_true_eq]; exact fun q => Int32.not_lt.mpr c q.1)] at ih
        exact ih _
      · repeat (first | refine bs rfl ?_ | refine bld rfl _ rfl (by omega) (by omega) ?_)
        refine bb rfl (fun c2 => ?_) (fun c2 => ?_)
        · repeat (first | refine bs rfl ?_ | refine bld rfl _ rfl (by omega) (by omega) ?_)
          rw [if_neg (by rw [hpi, decide_eq_true_eq]; exact fun q => Int32.not_lt.mpr q.2 c2)] at ih
          exact ih _
        · repeat (first | refine bs rfl ?_ | refine bld rfl _ rfl (by omega) (by omega) ?_)
          rw [if_pos (by rw [hpi, decide_eq_true_eq]; exact ⟨Int32.not_le.mp c, Int32.not_lt.mp c2⟩)] at ih
          exact ih _
  repeat (first | refine bs rfl ?_ | refine bld rfl _ rfl (by omega) (by omega) ?_)
  refine bc rfl (c_wayOf hok hr ha _) ?_
  repeat (first | refine bs rfl ?_ | refine bld rfl _ rfl (by omega) (by omega) ?_)
  refine bc rfl (c_lengthOf hok hr ha h1 h2) ?_
  repeat (first | refine bs rfl ?_ | refine bld rfl _ rfl (by omega) (by omega) ?_)
  exact loop (N 0) 0 (Nat.zero_add _) _
theorem c_standersAt (hok : sp_Ok N V) (hr : RC 30 J N V) {a k : Nat} (ha : a < N 0) (h1 : 6 ≤ k) (h2 : k ≤ 18) : ∃ f : Nat → Int32, ax_cal E (d + 4) n_X11_standersAt [.ref 0, .int (nI a), .int (nI k)] (ax_hC tl rtl J) = some (some (.int (sp_st N V a (nI k))), ax_hC tl rtl (va_up J 43 f)) := by
  obtain ⟨f, e1, e2⟩ := c_cellsAt (E := E) (d := d) (tl := tl) (rtl := rtl) hok hr (nI k)
  refine ⟨f, ?_⟩
  refine ax_of (t := t_X11_standersAt) (ls := [.ref 0, .int (nI a), .int (nI k)]) rfl ⟨rfl, Nat.le_of_ble_eq_true rfl⟩ rfl ?_
  repeat (first | refine bs rfl ?_ | refine bld rfl _ rfl (by omega) (by omega) ?_)
  refine bc rfl e1 ?_
  repeat (first | refine bs rfl ?_ | refine bld rfl _ rfl (by omega) (by omega) ?_)
  refine bc rfl (c_standersOn hok (rc43 hr) ha h1 h2) ?_
  repeat (first | refine bs rfl ?_ | refine bld rfl _ rfl (by omega) (by omega) ?_)
  exact br rfl ⟨by rw [sp_st, va_up_self, sp_on_cong ha e2], rfl⟩
theorem c_isPerson (hok : sp_Ok N V) (hr : RC 30 J N V) (i : Int32) : ax_cal E (d + 1) n_X11_isPerson [.ref 0, .int i] (ax_hC tl rtl J) = some (some (.int (if 0 ≤ i ∧ i < nI (N 0) then 1 else 0)), ax_hC tl rtl J) := by
  have hn : J 31 8 = nI (N 0) := hr.1
  rw [← hn]
  refine ax_of (t := t_X11_isPerson) (ls := [.ref 0, .int i]) rfl ⟨rfl, Nat.le_of_ble_eq_true rfl⟩ rfl ?_
  repeat (first | refine bs rfl ?_ | refine bld rfl _ rfl (by omega) (by omega) ?_)
  refine bb rfl (fun c => ?_) (fun c => ?_)
  · repeat (first | refine bs rfl ?_ | refine bld rfl _ rfl (by omega) (by omega) ?_)
    exact br rfl ⟨by rw [if_neg (fun q => Int32.not_lt.mpr q.1 c)], rfl⟩
  · repeat (first | refine bs rfl ?_ | refine bld rfl _ rfl (by omega) (by omega) ?_)
    refine bb rfl (fun c2 => ?_) (fun c2 => ?_)
    · repeat (first | refine bs rfl ?_ | refine bld rfl _ rfl (by omega) (by omega) ?_)
      exact br rfl ⟨by rw [if_neg (fun q => Int32.not_lt.mpr c2 q.2)], rfl⟩
    · repeat (first | refine bs rfl ?_ | refine bld rfl _ rfl (by omega) (by omega) ?_)
      exact br rfl ⟨by rw [if_pos ⟨Int32.not_lt.mp c, Int32.not_le.mp c2⟩], rfl⟩
end STR2
