/-! contracts: the reference's street -/
section MST
variable {E : ax_E} {d : Nat} {J : Nat → Nat → Int32} {N : Nat → Nat} {V : Nat → Nat → Int32}
theorem m_whereAt (hok : sp_Ok N V) (hr : RM J N V) {a : Nat} (ha : a < N 0) (t : Int32) : ax_cal E (d + 1) n_X12_whereAt [.ref 68, .int (nI a), .int t] (ax_h J) = some (some (.int (sp_cell N V a t)), ax_h J) := by
  have h6 := hok.1
  have hn : N 1 ≤ 9 := hok.2.1
  have hw : J 74 6 = nI (N 1) := hr.2.2.1
  have hx : J 69 (3 * a) = V 0 a := (hr.2.1 a ha).1
  have hv := hr.2.2.2.1
  have hT := hok.2.2.2.2.2.2.2.1
  unfold sp_cell
  generalize hm : N 1 = nw at *
  generalize hs : sp_wk (V 4) (V 5) (V 6) (nI a) t (V 0 a) = S
  have hS : ∀ k, S (k + 1) = if V 4 k = nI a ∧ V 5 k ≤ t ∧ (S k).2 ≤ V 5 k then (V 6 k, V 5 k) else S k := by intro k; rw [← hs]; rfl
  refine ax_of (t := t_X12_whereAt) (ls := [.ref 68, .int (nI a), .int t, .float 0, .float 0, .float 0, .float 0]) rfl ⟨rfl, Nat.le_of_ble_eq_true rfl⟩ rfl ?_
  have loop : ∀ (j k : Nat), k + j = nw → ∀ (f : Int32) (g : Value), (f = (S k).2 ∨ (f = 0 ∧ (S k).2 = 6)) → AW E (ax_cal E d) t_X12_whereAt (24, [.ref 68, .int (nI a), .int t, .int (S k).1, .int f, .int (nI k), g], [.int (J 74 6), .int (nI k)], ax_h J) (fun r' g => r' = some (.int (S nw).1) ∧ g = ax_h J) := by
    intro j
    induction j with
    | zero =>
      intro k hk f g hf
      refine bt rfl (by rw [hw]; exact nI_le (by omega) (by omega)) ?_
      repeat refine bs rfl ?_
      exact br rfl ⟨by rw [show k = nw by omega], rfl⟩
    | succ j ih =>
      intro k hk f g hf
      obtain ⟨v1, v2, v3⟩ := hv k (by omega)
      have hT5 := (hT k (by omega)).2.1
      have ih := ih (k + 1) (by omega)
      rw [hS, nI_succ] at ih
      have hff : f ≤ V 5 k ↔ (S k).2 ≤ V 5 k := by
        rcases hf with e | ⟨e, e2⟩
        · rw [e]
        · rw [e, e2, i_le, i_le, show (0 : Int32).toInt = 0 from by decide, show (6 : Int32).toInt = 6 from by decide]
          omega
      refine bf rfl (by rw [hw]; exact nI_ge (by omega) (by omega)) ?_
      repeat refine bs rfl ?_
      refine bld rfl (7 + 3 * k) (ix_7 k) (by omega) (by omega) ?_
      repeat refine bs rfl ?_
      rw [v1]
      refine bb rfl (fun c1 => ?_) (fun c1 => ?_)
      · repeat refine bs rfl ?_
        refine bld rfl (7 + 3 * k + 1) (by rw [ix_7, nI_1]) (by omega) (by omega) ?_
        repeat refine bs rfl ?_
        rw [v2]
        refine bb rfl (fun c2 => ?_) (fun c2 => ?_)
        · repeat refine bs rfl ?_
          rw [if_neg (fun q => Int32.not_lt.mpr q.2.1 c2)] at ih
          exact ih f _ hf
        · repeat refine bs rfl ?_
          refine bld rfl (7 + 3 * k + 1) (by rw [ix_7, nI_1]) (by omega) (by omega) ?_
          repeat refine bs rfl ?_
          rw [v2]
          refine bb rfl (fun c3 => ?_) (fun c3 => ?_)
          · repeat refine bs rfl ?_
            rw [if_neg (fun q => Int32.not_lt.mpr (hff.mpr q.2.2) c3)] at ih
            exact ih f _ hf
          · repeat refine bs rfl ?_
            refine bld rfl (7 + 3 * k + 2) (by rw [ix_7, ix_2]) (by omega) (by omega) ?_
            repeat refine bs rfl ?_
            refine bld rfl (7 + 3 * k + 1) (by rw [ix_7, nI_1]) (by omega) (by omega) ?_
            repeat refine bs rfl ?_
            rw [v2, v3]
            rw [if_pos ⟨c1, Int32.not_lt.mp c2, hff.mp (Int32.not_lt.mp c3)⟩] at ih
            exact ih _ _ (Or.inl rfl)
      · repeat refine bs rfl ?_
        rw [if_neg (fun q => c1 q.1)] at ih
        exact ih f _ hf
  repeat refine bs rfl ?_
  refine bld rfl (3 * a) (ix_3 a) (by omega) (by omega) ?_
  rw [hx]
  repeat refine bs rfl ?_
  have l0 := loop nw 0 (Nat.zero_add _) 0 (.float 0) (by rw [← hs]; exact Or.inr ⟨rfl, rfl⟩)
  rw [show (S 0).1 = V 0 a by rw [← hs]; rfl] at l0
  exact l0
theorem m_longBy (hok : sp_Ok N V) (hr : RM J N V) {a : Nat} (ha : a < N 0) (t c : Int32) : ax_cal E (d + 2) n_X12_longBy [.ref 68, .int (nI a), .int t, .int c] (ax_h J) = some (some (.int (sp_by V a t c)), ax_h J) := by
  have h6 := hok.1
  have hh : J 69 (3 * a + 1) = V 1 a := (hr.2.1 a ha).2.1
  have hkk : J 69 (3 * a + 2) = V 2 a := (hr.2.1 a ha).2.2.1
  have e7 : t ≤ 7 ↔ t < 8 := by rw [i_le, i_lt, show (7 : Int32).toInt = 7 from by decide, show (8 : Int32).toInt = 8 from by decide]; omega
  have e17 : 17 ≤ t ↔ 16 < t := by rw [i_le, i_lt, show (17 : Int32).toInt = 17 from by decide, show (16 : Int32).toInt = 16 from by decide]; omega
  unfold sp_by
  generalize hf : sp_full V a t = f
  unfold sp_full at hf
  generalize hz : sp_noon t = zn at hf
  have tail : ∀ (x1 x2 x3 x : Int32), x = f → AW E (ax_cal E (d + 1)) t_X12_longBy (89, [.ref 68, .int (nI a), .int t, .int c, .int x1, .int x2, .int x3, .int x], [.int c, .int x], ax_h J) (fun r' g => r' = some (.int (if c < f then f - c else 0)) ∧ g = ax_h J) := by
    intro x1 x2 x3 x hx
    subst hx
    refine bb rfl (fun q => ?_) (fun q => ?_)
    · repeat refine bs rfl ?_
      exact br rfl ⟨by rw [if_neg (Int32.not_lt.mpr q)], rfl⟩
    · repeat refine bs rfl ?_
      exact br rfl ⟨by rw [if_pos (Int32.not_le.mp q)], rfl⟩
  refine ax_of (t := t_X12_longBy) (ls := [.ref 68, .int (nI a), .int t, .int c, .float 0, .float 0, .float 0, .float 0]) rfl ⟨rfl, Nat.le_of_ble_eq_true rfl⟩ rfl ?_
  repeat refine bs rfl ?_
  refine bld rfl (3 * a + 1) (ix_31 a) (by omega) (by omega) ?_
  repeat refine bs rfl ?_
  refine bc rfl (c_fromNoon _ 68 t) ?_
  repeat refine bs rfl ?_
  refine bld rfl (3 * a + 2) (ix_32 a) (by omega) (by omega) ?_
  rw [hh, hkk, hz]
  repeat refine bs rfl ?_
  refine bb rfl (fun q1 => ?_) (fun q1 => ?_)
  · repeat refine bs rfl ?_
    refine bb rfl (fun k2 => ?_) (fun k2 => ?_)
    · repeat refine bs rfl ?_
      exact tail _ _ _ _ (by rw [← hf, if_pos k2])
    · repeat refine bs rfl ?_
      refine bb rfl (fun k3 => ?_) (fun k3 => ?_)
      · repeat refine bs rfl ?_
        exact tail _ _ _ _ (by rw [← hf, if_neg k2, if_pos ⟨k3, Or.inl (e7.mpr q1)⟩])
      · repeat refine bs rfl ?_
        exact tail _ _ _ _ (by rw [← hf, if_neg k2, if_neg (fun w => k3 w.1)])
  · repeat refine bs rfl ?_
    refine bb rfl (fun q2 => ?_) (fun q2 => ?_)
    · repeat refine bs rfl ?_
      refine bb rfl (fun k2 => ?_) (fun k2 => ?_)
      · repeat refine bs rfl ?_
        exact tail _ _ _ _ (by rw [← hf, if_pos k2])
      · repeat refine bs rfl ?_
        refine bb rfl (fun k3 => ?_) (fun k3 => ?_)
        · repeat refine bs rfl ?_
          exact tail _ _ _ _ (by rw [← hf, if_neg k2, if_neg (fun w => w.2.elim (fun w => q1 (e7.mp w)) (fun w => Int32.not_lt.mpr q2 (e17.mp w)))])
        · repeat refine bs rfl ?_
          exact tail _ _ _ _ (by rw [← hf, if_neg k2, if_neg (fun w => k3 w.1)])
    · repeat refine bs rfl ?_
      refine bb rfl (fun k2 => ?_) (fun k2 => ?_)
      · repeat refine bs rfl ?_
        exact tail _ _ _ _ (by rw [← hf, if_pos k2])
      · repeat refine bs rfl ?_
        refine bb rfl (fun k3 => ?_) (fun k3 => ?_)
        · repeat refine bs rfl ?_
          exact tail _ _ _ _ (by rw [← hf, if_neg k2, if_pos ⟨k3, Or.inr (e17.mpr (Int32.not_le.mp q2))⟩])
        · repeat refine bs rfl ?_
          exact tail _ _ _ _ (by rw [← hf, if_neg k2, if_neg (fun w => k3 w.1)])
theorem m_longAt (hok : sp_Ok N V) (hr : RM J N V) {a : Nat} (ha : a < N 0) (t : Int32) : ax_cal E (d + 3) n_X12_longAt [.ref 68, .int (nI a), .int t] (ax_h J) = some (some (.int (sp_len V a t)), ax_h J) := by
  have h6 := hok.1
  have hc : J 74 a = V 3 a := (hr.2.1 a ha).2.2.2
  refine ax_of (t := t_X12_longAt) (ls := [.ref 68, .int (nI a), .int t]) rfl ⟨rfl, Nat.le_of_ble_eq_true rfl⟩ rfl ?_
  repeat refine bs rfl ?_
  refine bld rfl a (ix_0 a) (by omega) (by omega) ?_
  rw [hc]
  repeat refine bs rfl ?_
  refine bc rfl (m_longBy hok hr ha t (V 3 a)) ?_
  repeat refine bs rfl ?_
  exact br rfl ⟨rfl, rfl⟩
theorem m_wayAt (hok : sp_Ok N V) (hr : RM J N V) {a : Nat} (ha : a < N 0) (t : Int32) : ax_cal E (d + 1) n_X12_wayAt [.ref 68, .int (nI a), .int t] (ax_h J) = some (some (.int (sp_way V a t)), ax_h J) := by
  have h6 := hok.1
  have hkk : J 69 (3 * a + 2) = V 2 a := (hr.2.1 a ha).2.2.1
  unfold sp_way
  refine ax_of (t := t_X12_wayAt) (ls := [.ref 68, .int (nI a), .int t, .float 0]) rfl ⟨rfl, Nat.le_of_ble_eq_true rfl⟩ rfl ?_
  repeat refine bs rfl ?_
  refine bld rfl (3 * a + 2) (ix_32 a) (by omega) (by omega) ?_
  rw [hkk]
  repeat refine bs rfl ?_
  refine bb rfl (fun c => ?_) (fun c => ?_)
  · rw [if_pos c]
    repeat refine bs rfl ?_
    refine bb rfl (fun c2 => ?_) (fun c2 => ?_)
    · repeat refine bs rfl ?_
      exact br rfl ⟨by rw [if_neg (Int32.not_lt.mpr c2)], rfl⟩
    · repeat refine bs rfl ?_
      exact br rfl ⟨by rw [if_pos (Int32.not_le.mp c2)], rfl⟩
  · rw [if_neg c]
    repeat refine bs rfl ?_
    refine bb rfl (fun c2 => ?_) (fun c2 => ?_)
    · repeat refine bs rfl ?_
      exact br rfl ⟨by rw [if_neg (Int32.not_lt.mpr c2)], rfl⟩
    · repeat refine bs rfl ?_
      exact br rfl ⟨by rw [if_pos (Int32.not_le.mp c2)], rfl⟩
theorem m_endAt (hok : sp_Ok N V) (hr : RM J N V) {a : Nat} (ha : a < N 0) (t : Int32) : ax_cal E (d + 4) n_X12_endAt [.ref 68, .int (nI a), .int t] (ax_h J) = some (some (.int (sp_end N V a t)), ax_h J) := by
  refine ax_of (t := t_X12_endAt) (ls := [.ref 68, .int (nI a), .int t]) rfl ⟨rfl, Nat.le_of_ble_eq_true rfl⟩ rfl ?_
  repeat refine bs rfl ?_
  refine bc rfl (m_whereAt hok hr ha _) ?_
  repeat refine bs rfl ?_
  refine bc rfl (m_wayAt hok hr ha _) ?_
  repeat refine bs rfl ?_
  refine bc rfl (m_longAt hok hr ha _) ?_
  repeat refine bs rfl ?_
  exact br rfl ⟨rfl, rfl⟩
theorem m_lowAt (hok : sp_Ok N V) (hr : RM J N V) {a : Nat} (ha : a < N 0) (t : Int32) : ax_cal E (d + 5) n_X12_lowAt [.ref 68, .int (nI a), .int t] (ax_h J) = some (some (.int (sp_low N V a t)), ax_h J) := by
  refine ax_of (t := t_X12_lowAt) (ls := [.ref 68, .int (nI a), .int t]) rfl ⟨rfl, Nat.le_of_ble_eq_true rfl⟩ rfl ?_
  repeat refine bs rfl ?_
  refine bc rfl (m_wayAt hok hr ha _) ?_
  repeat refine bs rfl ?_
  refine bb rfl (fun c => ?_) (fun c => ?_)
  · repeat refine bs rfl ?_
    refine bc rfl (m_whereAt hok hr ha _) ?_
    repeat refine bs rfl ?_
    exact br rfl ⟨by rw [sp_low, if_pos c], rfl⟩
  · repeat refine bs rfl ?_
    refine bc rfl (m_endAt hok hr ha _) ?_
    repeat refine bs rfl ?_
    exact br rfl ⟨by rw [sp_low, if_neg c], rfl⟩
theorem m_highAt (hok : sp_Ok N V) (hr : RM J N V) {a : Nat} (ha : a < N 0) (t : Int32) : ax_cal E (d + 5) n_X12_highAt [.ref 68, .int (nI a), .int t] (ax_h J) = some (some (.int (sp_high N V a t)), ax_h J) := by
  refine ax_of (t := t_X12_highAt) (ls := [.ref 68, .int (nI a), .int t]) rfl ⟨rfl, Nat.le_of_ble_eq_true rfl⟩ rfl ?_
  repeat refine bs rfl ?_
  refine bc rfl (m_wayAt hok hr ha _) ?_
  repeat refine bs rfl ?_
  refine bb rfl (fun c => ?_) (fun c => ?_)
  · repeat refine bs rfl ?_
    refine bc rfl (m_endAt hok hr ha _) ?_
    repeat refine bs rfl ?_
    exact br rfl ⟨by rw [sp_high, if_pos c], rfl⟩
  · repeat refine bs rfl ?_
    refine bc rfl (m_whereAt hok hr ha _) ?_
    repeat refine bs rfl ?_
    exact br rfl ⟨by rw [sp_high, if_neg c], rfl⟩
theorem i_or0 (x : Int32) : x ||| 0 = x := by
  apply Int32.toBitVec_inj.mp
  simp
theorem sp_rch_self (x way len : Int32) : sp_rch x way len x = false := by
  have e : (x - x) * way = 0 := by rw [Int32.sub_self, Int32.zero_mul]
  simp [sp_rch, e]
theorem m_standOn (hok : sp_Ok N V) (hr : RM J N V) {a : Nat} (ha : a < N 0) (t len : Int32) : ax_cal E (d + 2) n_X12_standOn [.ref 68, .int (nI a), .int t, .int len] (ax_h J) = some (some (.int (sp_on (fun j => sp_cell N V j t) (sp_way V a t) len a (N 0))), ax_h J) := by
  have h6 := hok.1
  have hn : J 68 0 = nI (N 0) := hr.1
  unfold sp_on
  generalize hp : (fun j => sp_rch (sp_cell N V a t) (sp_way V a t) len (sp_cell N V j t)) = p
  refine ax_of (t := t_X12_standOn) (ls := [.ref 68, .int (nI a), .int t, .int len, .float 0, .float 0]) rfl ⟨rfl, Nat.le_of_ble_eq_true rfl⟩ rfl ?_
  have loop : ∀ (j i : Nat), i + j = N 0 → AW E (ax_cal E (d + 1)) t_X12_standOn (12, [.ref 68, .int (nI a), .int t, .int len, .int (sp_or p i), .int (nI i)], [.int (J 68 0), .int (nI i)], ax_h J) (fun r' g => r' = some (.int (sp_or p (N 0))) ∧ g = ax_h J) := by
    intro j
    induction j with
    | zero =>
      intro i hi
      refine bt rfl (by rw [hn]; exact nI_le (by omega) (by omega)) ?_
      repeat refine bs rfl ?_
      exact br rfl ⟨by rw [show i = N 0 by omega], rfl⟩
    | succ j ih =>
      intro i hi
      have hia : i < N 0 := by omega
      have ih := ih (i + 1) (by omega)
      rw [sp_or, nI_succ] at ih
      have hpi : p i = sp_rch (sp_cell N V a t) (sp_way V a t) len (sp_cell N V i t) := by rw [← hp]
      refine bf rfl (by rw [hn]; exact nI_ge (by omega) (by omega)) ?_
      repeat refine bs rfl ?_
      refine bb rfl (fun c => ?_) (fun c => ?_)
      · have hia : i = a := (nI_eq (by omega) (by omega)).mp c
        repeat refine bs rfl ?_
        rw [if_neg (by rw [hpi, hia, sp_rch_self]; decide), ← i_or0 (sp_or p i)] at ih
        exact ih
      · repeat refine bs rfl ?_
        refine bc rfl (m_whereAt hok hr ha _) ?_
        repeat refine bs rfl ?_
        refine bc rfl (m_wayAt hok hr ha _) ?_
        repeat refine bs rfl ?_
        refine bc rfl (m_whereAt hok hr hia _) ?_
        repeat refine bs rfl ?_
        refine bc rfl (c_reaches _ _ _ _ _) ?_
        repeat refine bs rfl ?_
        refine bz rfl (fun q => ?_) (fun q => ?_)
        · repeat refine bs rfl ?_
          rw [if_neg (by rw [hpi]; exact q), ← i_or0 (sp_or p i)] at ih
          exact ih
        · repeat refine bs rfl ?_
          rw [if_pos (by rw [hpi]; exact q)] at ih
          exact ih
  repeat refine bs rfl ?_
  exact loop (N 0) 0 (Nat.zero_add _)
theorem m_standsAt (hok : sp_Ok N V) (hr : RM J N V) {a : Nat} (ha : a < N 0) (t : Int32) : ax_cal E (d + 4) n_X12_standsAt [.ref 68, .int (nI a), .int t] (ax_h J) = some (some (.int (sp_st N V a t)), ax_h J) := by
  refine ax_of (t := t_X12_standsAt) (ls := [.ref 68, .int (nI a), .int t]) rfl ⟨rfl, Nat.le_of_ble_eq_true rfl⟩ rfl ?_
  repeat refine bs rfl ?_
  refine bc rfl (m_longAt hok hr ha _) ?_
  repeat refine bs rfl ?_
  refine bc rfl (m_standOn hok hr ha _ _) ?_
  repeat refine bs rfl ?_
  exact br rfl ⟨rfl, rfl⟩
theorem m_isPerson (hok : sp_Ok N V) (hr : RM J N V) (i : Int32) : ax_cal E (d + 2) n_X12_isPerson [.ref 68, .int i] (ax_h J) = some (some (.int (if 0 ≤ i ∧ i < nI (N 0) then 1 else 0)), ax_h J) := by
  have h6 := hok.1
  have hn : J 68 0 = nI (N 0) := hr.1
  have e : (0 ≤ i ∧ i < nI (N 0)) ↔ (0 ≤ i ∧ i ≤ nI (N 0) - 1) := by
    have e1 : (1 : Int32).toInt = 1 := by decide
    have e2 : (nI (N 0)).toInt = N 0 := nI_toInt (by omega)
    have e3 : (nI (N 0) - 1).toInt = N 0 - 1 := by rw [i_sub (by omega) (by omega), e1, e2]
    rw [i_lt, i_le (b := nI (N 0) - 1), e2, e3]
    constructor <;> rintro ⟨h1, h2⟩ <;> exact ⟨h1, by omega⟩
  refine ax_of (t := t_X12_isPerson) (ls := [.ref 68, .int i]) rfl ⟨rfl, Nat.le_of_ble_eq_true rfl⟩ rfl ?_
  repeat refine bs rfl ?_
  rw [hn]
  refine bc rfl (c_in _ i 0 (nI (N 0) - 1)) ?_
  repeat refine bs rfl ?_
  refine brz rfl ⟨?_, rfl⟩
  simp only [e]
end MST
