/-! contracts: the class's street -/
section STR
variable {E : ax_E} {d : Nat} {tl : List (Nat × Nat)} {rtl : List (List (Option Nat))} {J : Nat → Nat → Int32} {N : Nat → Nat} {V : Nat → Nat → Int32}
theorem c_cellAfterWalks (hok : sp_Ok N V) (hr : RC 30 J N V) (i t home : Int32) : ax_cal E (d + 1) n_X5_cellAfterWalks [.ref 35, .int i, .int t, .int home] (ax_hC tl rtl J) = some (some (.int (sp_wk (V 4) (V 5) (V 6) i t home (N 1)).1), (ax_hC tl rtl J)) := by
  have hn : N 1 ≤ 9 := hok.2.1
  have hw : J 35 4 = nI (N 1) := hr.2.2.1
  have hv : ∀ k, k < N 1 → J 37 k = V 4 k ∧ J 38 k = V 5 k ∧ J 39 k = V 6 k := hr.2.2.2.1
  rw [← sp_wk_cong hv]
  generalize hm : N 1 = nw at *
  refine ax_of (t := t_X5_cellAfterWalks) (ls := [.ref 35, .int i, .int t, .int home, .float 0, .float 0, .float 0]) rfl ⟨rfl, Nat.le_of_ble_eq_true rfl⟩ rfl ?_
  have loop : ∀ (j k : Nat), k + j = nw → AW E (ax_cal E d) t_X5_cellAfterWalks (16, [.ref 35, .int i, .int t, .int home, .int (sp_wk (J 37) (J 38) (J 39) i t home k).1, .int (sp_wk (J 37) (J 38) (J 39) i t home k).2, .int (nI k)], [.int (J 35 4), .int (nI k)], ax_hC tl rtl J) (fun r' g => r' = some (.int (sp_wk (J 37) (J 38) (J 39) i t home nw).1) ∧ g = ax_hC tl rtl J) := by
    intro j
    induction j with
    | zero =>
      intro k hk
      refine bt rfl (by rw [hw]; exact nI_le (by omega) (by omega)) ?_
      repeat refine bs rfl ?_
      exact br rfl ⟨by rw [show k = nw by omega], rfl⟩
    | succ j ih =>
      intro k hk
      have ih := ih (k + 1) (by omega)
      rw [sp_wk, nI_succ] at ih
      refine bf rfl (by rw [hw]; exact nI_ge (by omega) (by omega)) ?_
      repeat (first | refine bs rfl ?_ | refine bld rfl _ rfl (by omega) (by omega) ?_)
      refine bb rfl (fun c1 => ?_) (fun c1 => ?_)
      · repeat (first | refine bs rfl ?_ | refine bld rfl _ rfl (by omega) (by omega) ?_)
        refine bb rfl (fun c2 => ?_) (fun c2 => ?_)
        · repeat refine bs rfl ?_
          rw [if_neg (fun q => Int32.not_lt.mpr q.2.1 c2)] at ih
          exact ih
        · repeat (first | refine bs rfl ?_ | refine bld rfl _ rfl (by omega) (by omega) ?_)
          refine bb rfl (fun c3 => ?_) (fun c3 => ?_)
          · repeat refine bs rfl ?_
            rw [if_neg (fun q => Int32.not_lt.mpr q.2.2 c3)] at ih
            exact ih
          · repeat (first | refine bs rfl ?_ | refine bld rfl _ rfl (by omega) (by omega) ?_)
            rw [if_pos ⟨c1, Int32.not_lt.mp c2, Int32.not_lt.mp c3⟩] at ih
            exact ih
      · repeat refine bs rfl ?_
        rw [if_neg (fun q => c1 q.1)] at ih
        exact ih
  repeat refine bs rfl ?_
  exact loop nw 0 (Nat.zero_add _)
theorem c_cellOf (hok : sp_Ok N V) (hr : RC 30 J N V) {a : Nat} (ha : a < N 0) (t : Int32) : ax_cal E (d + 2) n_X7_cellOf [.ref 31, .int (nI a), .int t] (ax_hC tl rtl J) = some (some (.int (sp_cell N V a t)), (ax_hC tl rtl J)) := by
  have h6 := hok.1
  have hx : J 32 a = V 0 a := (hr.2.1 a ha).1
  refine ax_of (t := t_X7_cellOf) (ls := [.ref 31, .int (nI a), .int t]) rfl ⟨rfl, Nat.le_of_ble_eq_true rfl⟩ rfl ?_
  repeat (first | refine bs rfl ?_ | refine bld rfl _ rfl (by omega) (by omega) ?_)
  refine bc rfl (c_cellAfterWalks hok hr (nI a) t (J 32 a)) ?_
  repeat refine bs rfl ?_
  exact br rfl ⟨by rw [hx]; rfl, rfl⟩
/-- how far from noon, by the library's abs -/
theorem sp_abs {k : Nat} (h1 : 6 ≤ k) (h2 : k ≤ 18) : (if 0 ≤ nI k - 12 then nI k - 12 else 0 - (nI k - 12)) = sp_noon (nI k) := by
  have : ∀ k, k < 19 → 6 ≤ k → (if 0 ≤ nI k - 12 then nI k - 12 else 0 - (nI k - 12)) = sp_noon (nI k) := by decide +kernel
  exact this k (by omega) h1
theorem c_fullLength (hok : sp_Ok N V) (hr : RC 30 J N V) {a k : Nat} (ha : a < N 0) (h1 : 6 ≤ k) (h2 : k ≤ 18) : ax_cal E (d + 1) n_X7_fullLength [.ref 31, .int (nI a), .int (nI k)] (ax_hC tl rtl J) = some (some (.int (sp_full V a (nI k))), (ax_hC tl rtl J)) := by
  have h6 := hok.1
  have hh : J 33 a = V 1 a := (hr.2.1 a ha).2.1
  have hkk : J 34 a = V 2 a := (hr.2.1 a ha).2.2.1
  unfold sp_full
  rw [← sp_abs h1 h2, ← hh, ← hkk]
  refine ax_of (t := t_X7_fullLength) (ls := [.ref 31, .int (nI a), .int (nI k), .float 0, .float 0]) rfl ⟨rfl, Nat.le_of_ble_eq_true rfl⟩ rfl ?_
  repeat (first | refine bs rfl ?_ | refine bld rfl _ rfl (by omega) (by omega) ?_)
  repeat (first | refine bs rfl ?_ | refine bld rfl _ rfl (by omega) (by omega) ?_)
  refine bb rfl (fun c => ?_) (fun c => ?_)
  · repeat refine bs rfl ?_
    exact br rfl ⟨by rw [if_pos c], rfl⟩
  · rw [if_neg c]
    repeat refine bs rfl ?_
    refine bb rfl (fun c2 => ?_) (fun c2 => ?_)
    · repeat (first | refine bs rfl ?_ | refine bld rfl _ rfl (by omega) (by omega) ?_)
      refine bb rfl (fun c3 => ?_) (fun c3 => ?_)
      · repeat refine bs rfl ?_
        exact br rfl ⟨by rw [if_pos (show J 34 a = 3 ∧ (nI k ≤ 7 ∨ 17 ≤ nI k) from ⟨c3, Or.inl c2⟩)], rfl⟩
      · repeat refine bs rfl ?_
        exact br rfl ⟨by rw [if_neg (show ¬ (J 34 a = 3 ∧ (nI k ≤ 7 ∨ 17 ≤ nI k)) from fun q => c3 q.1)], rfl⟩
    · repeat refine bs rfl ?_
      refine bb rfl (fun c4 => ?_) (fun c4 => ?_)
      · repeat (first | refine bs rfl ?_ | refine bld rfl _ rfl (by omega) (by omega) ?_)
        refine bb rfl (fun c3 => ?_) (fun c3 => ?_)
        · repeat refine bs rfl ?_
          exact br rfl ⟨by rw [if_neg (show ¬ (J 34 a = 3 ∧ (nI k ≤ 7 ∨ 17 ≤ nI k)) from fun q => q.2.elim c2 (fun w => Int32.not_lt.mpr w c4))], rfl⟩
        · repeat refine bs rfl ?_
          exact br rfl ⟨by rw [if_neg (show ¬ (J 34 a = 3 ∧ (nI k ≤ 7 ∨ 17 ≤ nI k)) from fun q => c3 q.1)], rfl⟩
      · repeat (first | refine bs rfl ?_ | refine bld rfl _ rfl (by omega) (by omega) ?_)
        refine bb rfl (fun c3 => ?_) (fun c3 => ?_)
        · repeat refine bs rfl ?_
          exact br rfl ⟨by rw [if_pos (show J 34 a = 3 ∧ (nI k ≤ 7 ∨ 17 ≤ nI k) from ⟨c3, Or.inr (Int32.not_lt.mp c4)⟩)], rfl⟩
        · repeat refine bs rfl ?_
          exact br rfl ⟨by rw [if_neg (show ¬ (J 34 a = 3 ∧ (nI k ≤ 7 ∨ 17 ≤ nI k)) from fun q => c3 q.1)], rfl⟩
theorem c_wayOf (hok : sp_Ok N V) (hr : RC 30 J N V) {a : Nat} (ha : a < N 0) (t : Int32) : ax_cal E (d + 1) n_X7_wayOf [.ref 31, .int (nI a), .int t] (ax_hC tl rtl J) = some (some (.int (sp_way V a t)), (ax_hC tl rtl J)) := by
  have h6 := hok.1
  have hkk : J 34 a = V 2 a := (hr.2.1 a ha).2.2.1
  unfold sp_way
  rw [← hkk]
  refine ax_of (t := t_X7_wayOf) (ls := [.ref 31, .int (nI a), .int t, .float 0]) rfl ⟨rfl, Nat.le_of_ble_eq_true rfl⟩ rfl ?_
  repeat (first | refine bs rfl ?_ | refine bld rfl _ rfl (by omega) (by omega) ?_)
  refine bb rfl (fun c => ?_) (fun c => ?_)
  · rw [if_pos c]
    repeat refine bs rfl ?_
    refine bb rfl (fun c2 => ?_) (fun c2 => ?_)
    · repeat refine bs rfl ?_
      exact br rfl ⟨by rw [if_neg (Int32.not_lt.mpr c2)], rfl⟩
    · repeat refine bs rfl ?_
      exact br rfl ⟨by rw [if_pos (Int32.not_le.mp c2)], rfl⟩
  · rw [if_neg c]
    repeat refine bs rfl ?_
    refine bb rfl (fun c2 => ?_) (fun c2 => ?_)
    · repeat refine bs rfl ?_
      exact br rfl ⟨by rw [if_neg (Int32.not_lt.mpr c2)], rfl⟩
    · repeat refine bs rfl ?_
      exact br rfl ⟨by rw [if_pos (Int32.not_le.mp c2)], rfl⟩
theorem i_nn {x : Int32} (h : 0 ≤ x.toInt) : ∃ j : Nat, x = nI j ∧ (j : Int) = x.toInt ∧ j < 2 ^ 31 := by
  have h9 : ¬ x < 0 := fun q => absurd (i_lt.mp q) (by rw [show (0 : Int32).toInt = 0 from by decide]; omega)
  obtain ⟨j, hj, e⟩ := nI_of h9
  exact ⟨j, e, by rw [e, nI_toInt hj], hj⟩
theorem sp_noonN {k : Nat} (h1 : 6 ≤ k) (h2 : k ≤ 18) : ∃ m : Nat, m ≤ 6 ∧ sp_noon (nI k) = nI m := by
  have : ∀ k, k < 19 → 6 ≤ k → sp_noon (nI k) = nI (if k < 12 then 12 - k else k - 12) := by decide +kernel
  refine ⟨if k < 12 then 12 - k else k - 12, ?_, this k (by omega) h1⟩
  split <;> omega
theorem sp_fullN (hok : sp_Ok N V) {a k : Nat} (ha : a < N 0) (h1 : 6 ≤ k) (h2 : k ≤ 18) : ∃ f : Nat, f ≤ 54 ∧ sp_full V a (nI k) = nI f := by
  obtain ⟨-, hh, -, -⟩ := hok.2.2.2.2.2.2.1 a ha
  obtain ⟨hg, e1, e2, -⟩ := i_nn (x := V 1 a) (by omega)
  obtain ⟨m, hm, e3⟩ := sp_noonN h1 h2
  have hown : V 1 a * sp_noon (nI k) / 2 = nI (hg * m / 2) := by
    rw [e1, e3, pk_mul]
    have hle : hg * m ≤ 9 * 6 := Nat.mul_le_mul (by omega) hm
    exact pk_div (by omega) (by decide) (by decide)
  have hle : hg * m ≤ 9 * 6 := Nat.mul_le_mul (by omega) hm
  unfold sp_full
  rw [hown]
  split
  · exact ⟨2 * (hg * m / 2), by omega, pk_mul 2 _⟩
  · split
    · exact ⟨hg * m / 2 + 1, by omega, nI_1 _⟩
    · exact ⟨hg * m / 2, by omega, rfl⟩
/-- the length as the library's max has it -/
theorem sp_len_max (hok : sp_Ok N V) {a k : Nat} (ha : a < N 0) (h1 : 6 ≤ k) (h2 : k ≤ 18) : (if 0 < sp_full V a (nI k) - V 3 a then sp_full V a (nI k) - V 3 a else 0) = sp_len V a (nI k) := by
  obtain ⟨f, hf, e⟩ := sp_fullN hok ha h1 h2
  obtain ⟨-, -, -, hc⟩ := hok.2.2.2.2.2.2.1 a ha
  have hfi : (sp_full V a (nI k)).toInt = f := by rw [e]; exact nI_toInt (by omega)
  have hs : (sp_full V a (nI k) - V 3 a).toInt = f - (V 3 a).toInt := by rw [i_sub (by omega) (by omega), hfi]
  have e0 : (0 : Int32).toInt = 0 := by decide
  unfold sp_len sp_by
  by_cases q : V 3 a < sp_full V a (nI k)
  · rw [if_pos q, if_pos (i_lt.mpr (by have := i_lt.mp q; omega))]
  · rw [if_neg q, if_neg (fun w => q (i_lt.mpr (by have := i_lt.mp w; omega)))]
theorem c_lengthOf (hok : sp_Ok N V) (hr : RC 30 J N V) {a k : Nat} (ha : a < N 0) (h1 : 6 ≤ k) (h2 : k ≤ 18) : ax_cal E (d + 2) n_X7_lengthOf [.ref 31, .int (nI a), .int (nI k)] (ax_hC tl rtl J) = some (some (.int (sp_len V a (nI k))), (ax_hC tl rtl J)) := by
  have h6 := hok.1
  have hc : J 36 a = V 3 a := (hr.2.1 a ha).2.2.2
  rw [← sp_len_max hok ha h1 h2, ← hc]
  refine ax_of (t := t_X7_lengthOf) (ls := [.ref 31, .int (nI a), .int (nI k)]) rfl ⟨rfl, Nat.le_of_ble_eq_true rfl⟩ rfl ?_
  repeat (first | refine bs rfl ?_ | refine bld rfl _ rfl (by omega) (by omega) ?_)
  refine bc rfl (c_fullLength hok hr ha h1 h2) ?_
  repeat (first | refine bs rfl ?_ | refine bld rfl _ rfl (by omega) (by omega) ?_)
  exact br rfl ⟨rfl, rfl⟩
theorem c_endOf (hok : sp_Ok N V) (hr : RC 30 J N V) {a k : Nat} (ha : a < N 0) (h1 : 6 ≤ k) (h2 : k ≤ 18) : ax_cal E (d + 3) n_X7_endOf [.ref 31, .int (nI a), .int (nI k)] (ax_hC tl rtl J) = some (some (.int (sp_end N V a (nI k))), (ax_hC tl rtl J)) := by
  refine ax_of (t := t_X7_endOf) (ls := [.ref 31, .int (nI a), .int (nI k)]) rfl ⟨rfl, Nat.le_of_ble_eq_true rfl⟩ rfl ?_
  repeat (first | refine bs rfl ?_ | refine bld rfl _ rfl (by omega) (by omega) ?_)
  refine bc rfl (c_cellOf hok hr ha _) ?_
  repeat (first | refine bs rfl ?_ | refine bld rfl _ rfl (by omega) (by omega) ?_)
  refine bc rfl (c_wayOf hok hr ha _) ?_
  repeat (first | refine bs rfl ?_ | refine bld rfl _ rfl (by omega) (by omega) ?_)
  refine bc rfl (c_lengthOf hok hr ha h1 h2) ?_
  repeat (first | refine bs rfl ?_ | refine bld rfl _ rfl (by omega) (by omega) ?_)
  exact br rfl ⟨rfl, rfl⟩
def sp_low (N : Nat → Nat) (V : Nat → Nat → Int32) (a : Nat) (t : Int32) : Int32 := if 0 ≤ sp_way V a t then sp_cell N V a t + 1 else sp_end N V a t
def sp_high (N : Nat → Nat) (V : Nat → Nat → Int32) (a : Nat) (t : Int32) : Int32 := if 0 ≤ sp_way V a t then sp_end N V a t else sp_cell N V a t - 1
theorem c_lowEndOf (hok : sp_Ok N V) (hr : RC 30 J N V) {a k : Nat} (ha : a < N 0) (h1 : 6 ≤ k) (h2 : k ≤ 18) : ax_cal E (d + 4) n_X7_lowEndOf [.ref 31, .int (nI a), .int (nI k)] (ax_hC tl rtl J) = some (some (.int (sp_low N V a (nI k))), (ax_hC tl rtl J)) := by
  refine ax_of (t := t_X7_lowEndOf) (ls := [.ref 31, .int (nI a), .int (nI k)]) rfl ⟨rfl, Nat.le_of_ble_eq_true rfl⟩ rfl ?_
  repeat (first | refine bs rfl ?_ | refine bld rfl _ rfl (by omega) (by omega) ?_)
  refine bc rfl (c_wayOf hok hr ha _) ?_
  repeat (first | refine bs rfl ?_ | refine bld rfl _ rfl (by omega) (by omega) ?_)
  refine bb rfl (fun c => ?_) (fun c => ?_)
  · repeat (first | refine bs rfl ?_ | refine bld rfl _ rfl (by omega) (by omega) ?_)
    refine bc rfl (c_cellOf hok hr ha _) ?_
    repeat (first | refine bs rfl ?_ | refine bld rfl _ rfl (by omega) (by omega) ?_)
    exact br rfl ⟨by rw [sp_low, if_pos c], rfl⟩
  · repeat (first | refine bs rfl ?_ | refine bld rfl _ rfl (by omega) (by omega) ?_)
    refine bc rfl (c_endOf hok hr ha h1 h2) ?_
    repeat (first | refine bs rfl ?_ | refine bld rfl _ rfl (by omega) (by omega) ?_)
    exact br rfl ⟨by rw [sp_low, if_neg c], rfl⟩
theorem c_highEndOf (hok : sp_Ok N V) (hr : RC 30 J N V) {a k : Nat} (ha : a < N 0) (h1 : 6 ≤ k) (h2 : k ≤ 18) : ax_cal E (d + 4) n_X7_highEndOf [.ref 31, .int (nI a), .int (nI k)] (ax_hC tl rtl J) = some (some (.int (sp_high N V a (nI k))), (ax_hC tl rtl J)) := by
  refine ax_of (t := t_X7_highEndOf) (ls := [.ref 31, .int (nI a), .int (nI k)]) rfl ⟨rfl, Nat.le_of_ble_eq_true rfl⟩ rfl ?_
  repeat (first | refine bs rfl ?_ | refine bld rfl _ rfl (by omega) (by omega) ?_)
  refine bc rfl (c_wayOf hok hr ha _) ?_
  repeat (first | refine bs rfl ?_ | refine bld rfl _ rfl (by omega) (by omega) ?_)
  refine bb rfl (fun c => ?_) (fun c => ?_)
  · repeat (first | refine bs rfl ?_ | refine bld rfl _ rfl (by omega) (by omega) ?_)
    refine bc rfl (c_endOf hok hr ha h1 h2) ?_
    repeat (first | refine bs rfl ?_ | refine bld rfl _ rfl (by omega) (by omega) ?_)
    exact br rfl ⟨by rw [sp_high, if_pos c], rfl⟩
  · repeat (first | refine bs rfl ?_ | refine bld rfl _ rfl (by omega) (by omega) ?_)
    refine bc rfl (c_cellOf hok hr ha _) ?_
    repeat (first | refine bs rfl ?_ | refine bld rfl _ rfl (by omega) (by omega) ?_)
    exact br rfl ⟨by rw [sp_high, if_neg c], rfl⟩
theorem c_coverersOf (hok : sp_Ok N V) (hr : RC 30 J N V) {k : Nat} (h1 : 6 ≤ k) (h2 : k ≤ 18) (x : Int32) : ax_cal E (d + 3) n_X7_coverersOf [.ref 31, .int x, .int (nI k)] (ax_hC tl rtl J) = some (some (.int (sp_or (fun i => sp_rch (sp_cell N V i (nI k)) (sp_way V i (nI k)) (sp_len V i (nI k)) x) (N 0))), (ax_hC tl rtl J)) := by
  have h6 := hok.1
  have hn : J 31 8 = nI (N 0) := hr.1
  refine ax_of (t := t_X7_coverersOf) (ls := [.ref 31, .int x, .int (nI k), .float 0, .float 0, .float 0]) rfl ⟨rfl, Nat.le_of_ble_eq_true rfl⟩ rfl ?_
  generalize hp : (fun i => sp_rch (sp_cell N V i (nI k)) (sp_way V i (nI k)) (sp_len V i (nI k)) x) = p
  have loop : ∀ (j i : Nat), i + j = N 0 → ∀ g : Value, AW E (ax_cal E (d + 2)) t_X7_coverersOf (11, [.ref 31, .int x, .int (nI k), .int (sp_or p i), .int (nI i), g], [.int (J 31 8), .int (nI i)], ax_hC tl rtl J) (fun r' g => r' = some (.int (sp_or p (N 0))) ∧ g = ax_hC tl rtl J) := by
    intro j
    induction j with
    | zero =>
      intro i hi g
      refine bt rfl (by rw [hn]; exact nI_le (by omega) (by omega)) ?_
      repeat (first | refine bs rfl ?_ | refine bld rfl _ rfl (by omega) (by omega) ?_)
      exact br rfl ⟨by rw [show i = N 0 by omega], rfl⟩
    | succ j ih =>
      intro i hi g
      have ih := ih (i + 1) (by omega)
      rw [sp_or, nI_succ] at ih
      have hia : i < N 0 := by omega
      refine bf rfl (by rw [hn]; exact nI_ge (by omega) (by omega)) ?_
      repeat (first | refine bs rfl ?_ | refine bld rfl _ rfl (by omega) (by omega) ?_)
      refine bc rfl (c_cellOf hok hr hia _) ?_
      repeat (first | refine bs rfl ?_ | refine bld rfl _ rfl (by omega) (by omega) ?_)
      refine bc rfl (c_wayOf hok hr hia _) ?_
      repeat (first | refine bs rfl ?_ | refine bld rfl _ rfl (by omega) (by omega) ?_)
      have hpi : p i = decide (0 < (x - sp_cell N V i (nI k)) * sp_way V i (nI k) ∧ (x - sp_cell N V i (nI k)) * sp_way V i (nI k) ≤ sp_len V i (nI k)) := by rw [← hp]; rfl
      refine bb rfl (fun c => ?_) (fun c => ?_)
      · repeat (first | refine bs rfl ?_ | refine bld rfl _ rfl (by omega) (by omega) ?_)
        rw [if_neg (by rw [hpi, decide_eq_true_eq]; exact fun q => Int32.not_lt.mpr c q.1)] at ih
        exact ih _
      · repeat (first | refine bs rfl ?_ | refine bld rfl _ rfl (by omega) (by omega) ?_)
        refine bc rfl (c_lengthOf hok hr hia h1 h2) ?_
        repeat (first | refine bs rfl ?_ | refine bld rfl _ rfl (by omega) (by omega) ?_)
        refine bb rfl (fun c2 => ?_) (fun c2 => ?_)
        · repeat (first | refine bs rfl ?_ | refine bld rfl _ rfl (by omega) (by omega) ?_)
          rw [if_neg (by rw [hpi, decide_eq_true_eq]; exact fun q => Int32.not_lt.mpr q.2 c2)] at ih
          exact ih _
        · repeat (first | refine bs rfl ?_ | refine bld rfl _ rfl (by omega) (by omega) ?_)
          rw [if_pos (by rw [hpi, decide_eq_true_eq]; exact ⟨Int32.not_le.mp c, Int32.not_lt.mp c2⟩)] at ih
          exact ih _
  repeat (first | refine bs rfl ?_ | refine bld rfl _ rfl (by omega) (by omega) ?_)
  exact loop (N 0) 0 (Nat.zero_add _) _
end STR
