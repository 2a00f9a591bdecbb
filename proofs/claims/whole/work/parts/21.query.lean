/-! contracts: the simple questions, both sides -/
def sp_where (N : Nat → Nat) (V : Nat → Nat → Int32) (i t : Int32) : Int32 := if (0 ≤ i ∧ i < nI (N 0)) ∧ (6 ≤ t ∧ t ≤ 18) then sp_cell N V i.toNatClampNeg t else -1
def sp_stands (N : Nat → Nat) (V : Nat → Nat → Int32) (i t : Int32) : Int32 := if (0 ≤ i ∧ i < nI (N 0)) ∧ (6 ≤ t ∧ t ≤ 18) then sp_st N V i.toNatClampNeg t else -1
def sp_cov (N : Nat → Nat) (V : Nat → Nat → Int32) (x t : Int32) : Int32 := sp_or (fun i => sp_rch (sp_cell N V i t) (sp_way V i t) (sp_len V i t) x) (N 0)
def sp_covers (N : Nat → Nat) (V : Nat → Nat → Int32) (x t : Int32) : Int32 := if (0 ≤ x ∧ x ≤ 60) ∧ (6 ≤ t ∧ t ≤ 18) then sp_cov N V x t else -1
def sp_person (N : Nat → Nat) (V : Nat → Nat → Int32) (i what : Int32) : Int32 := if 0 ≤ i ∧ i < nI (N 0) then (if what = 0 then V 1 i.toNatClampNeg else if what = 1 then V 2 i.toNatClampNeg else if what = 2 then V 3 i.toNatClampNeg + 9 else -1) else -1
def sp_shadow (N : Nat → Nat) (V : Nat → Nat → Int32) (i t what : Int32) : Int32 := if (0 ≤ i ∧ i < nI (N 0)) ∧ (6 ≤ t ∧ t ≤ 18) ∧ (0 ≤ what ∧ what ≤ 2) then (if what = 0 then sp_len V i.toNatClampNeg t else if sp_len V i.toNatClampNeg t = 0 then -4 else 200 + (if what = 1 then sp_low N V i.toNatClampNeg t else sp_high N V i.toNatClampNeg t)) else -1
/-- the sum of who stand on a shadow, from 6 on, n hours -/
def sp_wear (N : Nat → Nat) (V : Nat → Nat → Int32) (a : Nat) : Nat → Int32
  | 0 => 0
  | n + 1 => sp_wear N V a n + sp_bc (sp_st N V a (nI (6 + n)))
def sp_wearT (N : Nat → Nat) (V : Nat → Nat → Int32) (i t : Int32) : Int32 := if (0 ≤ i ∧ i < nI (N 0)) ∧ (6 ≤ t ∧ t ≤ 18) then sp_wear N V i.toNatClampNeg (t.toNatClampNeg - 5) else -1
section QC
variable {E : ax_E} {d : Nat} {tl : List (Nat × Nat)} {rtl : List (List (Option Nat))} {J : Nat → Nat → Int32} {N : Nat → Nat} {V : Nat → Nat → Int32}
theorem c_where (hok : sp_Ok N V) (hr : RC 30 J N V) (i t : Int32) : ax_cal E (d + 3) n_X11_where [.ref 0, .int i, .int t] (ax_hC tl rtl J) = some (some (.int (sp_where N V i t)), ax_hC tl rtl J) := by
  have h6 := hok.1
  unfold sp_where
  refine ax_of (t := t_X11_where) (ls := [.ref 0, .int i, .int t]) rfl ⟨rfl, Nat.le_of_ble_eq_true rfl⟩ rfl ?_
  repeat refine bs rfl ?_
  refine bc rfl (c_isPerson hok hr i) ?_
  repeat refine bs rfl ?_
  refine bz rfl (fun p => ?_) (fun p => ?_)
  · repeat refine bs rfl ?_
    exact br rfl ⟨by rw [if_neg (fun q => p q.1)], rfl⟩
  · obtain ⟨a, ha, rfl⟩ := i_ps (by omega) p.1 p.2
    have e := nI_clamp (n := a) (by omega)
    repeat refine bs rfl ?_
    refine bc rfl (c_isHour _ t) ?_
    repeat refine bs rfl ?_
    refine bz rfl (fun p2 => ?_) (fun p2 => ?_)
    · repeat refine bs rfl ?_
      exact br rfl ⟨by rw [if_neg (fun q => p2 q.2)], rfl⟩
    · repeat refine bs rfl ?_
      refine bc rfl (c_cellOf hok hr ha t) ?_
      repeat refine bs rfl ?_
      exact br rfl ⟨by rw [if_pos ⟨p, p2⟩, e], rfl⟩
theorem c_stands (hok : sp_Ok N V) (hr : RC 30 J N V) (i t : Int32) : ∃ f, ax_cal E (d + 5) n_X11_stands [.ref 0, .int i, .int t] (ax_hC tl rtl J) = some (some (.int (sp_stands N V i t)), ax_hC tl rtl (va_up J 43 f)) := by
  have h6 := hok.1
  unfold sp_stands
  by_cases p : (0 ≤ i ∧ i < nI (N 0)) ∧ (6 ≤ t ∧ t ≤ 18)
  · obtain ⟨a, ha, rfl⟩ := i_ps (by omega) p.1.1 p.1.2
    obtain ⟨k, h1, h2, rfl⟩ := i_hr p.2.1 p.2.2
    have e := nI_clamp (n := a) (by omega)
    obtain ⟨f, hf⟩ := c_standersAt (E := E) (d := d) (tl := tl) (rtl := rtl) hok hr ha h1 h2
    refine ⟨f, ?_⟩
    rw [if_pos p, e]
    refine ax_of (t := t_X11_stands) (ls := [.ref 0, .int (nI a), .int (nI k)]) rfl ⟨rfl, Nat.le_of_ble_eq_true rfl⟩ rfl ?_
    repeat refine bs rfl ?_
    refine bc rfl (c_isPerson hok hr _) ?_
    repeat refine bs rfl ?_
    refine bz rfl (fun q => absurd p.1 q) (fun _ => ?_)
    repeat refine bs rfl ?_
    refine bc rfl (c_isHour _ _) ?_
    repeat refine bs rfl ?_
    refine bz rfl (fun q => absurd p.2 q) (fun _ => ?_)
    repeat refine bs rfl ?_
    refine bc rfl hf ?_
    repeat refine bs rfl ?_
    exact br rfl ⟨rfl, rfl⟩
  · refine ⟨J 43, ?_⟩
    rw [if_neg p, ax_up_id]
    refine ax_of (t := t_X11_stands) (ls := [.ref 0, .int i, .int t]) rfl ⟨rfl, Nat.le_of_ble_eq_true rfl⟩ rfl ?_
    repeat refine bs rfl ?_
    refine bc rfl (c_isPerson hok hr _) ?_
    repeat refine bs rfl ?_
    refine bz rfl (fun _ => ?_) (fun p1 => ?_)
    · repeat refine bs rfl ?_
      exact br rfl ⟨rfl, rfl⟩
    · repeat refine bs rfl ?_
      refine bc rfl (c_isHour _ _) ?_
      repeat refine bs rfl ?_
      refine bz rfl (fun _ => ?_) (fun p2 => absurd ⟨p1, p2⟩ p)
      repeat refine bs rfl ?_
      exact br rfl ⟨rfl, rfl⟩
theorem c_covers (hok : sp_Ok N V) (hr : RC 30 J N V) (x t : Int32) : ax_cal E (d + 4) n_X11_covers [.ref 0, .int x, .int t] (ax_hC tl rtl J) = some (some (.int (sp_covers N V x t)), ax_hC tl rtl J) := by
  unfold sp_covers
  refine ax_of (t := t_X11_covers) (ls := [.ref 0, .int x, .int t]) rfl ⟨rfl, Nat.le_of_ble_eq_true rfl⟩ rfl ?_
  repeat refine bs rfl ?_
  refine bc rfl (c_isCell _ x) ?_
  repeat refine bs rfl ?_
  refine bz rfl (fun p => ?_) (fun p => ?_)
  · repeat refine bs rfl ?_
    exact br rfl ⟨by rw [if_neg (fun q => p q.1)], rfl⟩
  · repeat refine bs rfl ?_
    refine bc rfl (c_isHour _ t) ?_
    repeat refine bs rfl ?_
    refine bz rfl (fun p2 => ?_) (fun p2 => ?_)
    · repeat refine bs rfl ?_
      exact br rfl ⟨by rw [if_neg (fun q => p2 q.2)], rfl⟩
    · obtain ⟨k, h1, h2, rfl⟩ := i_hr p2.1 p2.2
      repeat refine bs rfl ?_
      refine bc rfl (c_coverersOf hok hr h1 h2 x) ?_
      repeat refine bs rfl ?_
      exact br rfl ⟨by rw [if_pos ⟨p, p2⟩]; rfl, rfl⟩
theorem c_shadow (hok : sp_Ok N V) (hr : RC 30 J N V) (i t what : Int32) : ax_cal E (d + 5) n_X11_shadow [.ref 0, .int i, .int t, .int what] (ax_hC tl rtl J) = some (some (.int (sp_shadow N V i t what)), ax_hC tl rtl J) := by
  have h6 := hok.1
  unfold sp_shadow
  refine ax_of (t := t_X11_shadow) (ls := [.ref 0, .int i, .int t, .int what, .float 0]) rfl ⟨rfl, Nat.le_of_ble_eq_true rfl⟩ rfl ?_
  repeat refine bs rfl ?_
  refine bc rfl (c_isPerson hok hr i) ?_
  repeat refine bs rfl ?_
  refine bz rfl (fun p => ?_) (fun p => ?_)
  · repeat refine bs rfl ?_
    exact br rfl ⟨by rw [if_neg (fun q => p q.1)], rfl⟩
  · obtain ⟨a, ha, rfl⟩ := i_ps (by omega) p.1 p.2
    have e := nI_clamp (n := a) (by omega)
    repeat refine bs rfl ?_
    refine bc rfl (c_isHour _ t) ?_
    repeat refine bs rfl ?_
    refine bz rfl (fun p2 => ?_) (fun p2 => ?_)
    · repeat refine bs rfl ?_
      exact br rfl ⟨by rw [if_neg (fun q => p2 q.2.1)], rfl⟩
    · obtain ⟨k, h1, h2, rfl⟩ := i_hr p2.1 p2.2
      repeat refine bs rfl ?_
      refine bb rfl (fun c1 => ?_) (fun c1 => ?_)
      · repeat refine bs rfl ?_
        exact br rfl ⟨by rw [if_neg (fun q => Int32.not_lt.mpr q.2.2.1 c1)], rfl⟩
      · repeat refine bs rfl ?_
        refine bb rfl (fun c2 => ?_) (fun c2 => ?_)
        · rw [if_pos ⟨p, p2, Int32.not_lt.mp c1, c2⟩, e]
          repeat refine bs rfl ?_
          refine bc rfl (c_lengthOf hok hr ha h1 h2) ?_
          repeat refine bs rfl ?_
          refine bb rfl (fun c3 => ?_) (fun c3 => ?_)
          · repeat refine bs rfl ?_
            exact br rfl ⟨by rw [if_pos c3], rfl⟩
          · rw [if_neg c3]
            repeat refine bs rfl ?_
            refine bb rfl (fun c4 => ?_) (fun c4 => ?_)
            · repeat refine bs rfl ?_
              exact br rfl ⟨by rw [if_pos c4], rfl⟩
            · rw [if_neg c4]
              repeat refine bs rfl ?_
              refine bb rfl (fun c5 => ?_) (fun c5 => ?_)
              · repeat refine bs rfl ?_
                refine bc rfl (c_lowEndOf hok hr ha h1 h2) ?_
                repeat refine bs rfl ?_
                exact br rfl ⟨by rw [if_pos c5], rfl⟩
              · repeat refine bs rfl ?_
                refine bc rfl (c_highEndOf hok hr ha h1 h2) ?_
                repeat refine bs rfl ?_
                exact br rfl ⟨by rw [if_neg c5], rfl⟩
        · repeat refine bs rfl ?_
          exact br rfl ⟨by rw [if_neg (fun q => c2 q.2.2.2)], rfl⟩
theorem sw_person {w : Int32} (h0 : ¬ w = 0) (h1 : ¬ w = 1) (h2 : ¬ w = 2) : ax_sw 0 2 [36, 49, 62] 81 w.toInt = 81 := by
  rw [ax_sw, if_pos]
  rw [i_eq, show (0 : Int32).toInt = 0 from by decide] at h0
  rw [i_eq, show (1 : Int32).toInt = 1 from by decide] at h1
  rw [i_eq, show (2 : Int32).toInt = 2 from by decide] at h2
  omega
theorem c_person (hok : sp_Ok N V) (hr : RC 30 J N V) (i what : Int32) : ax_cal E (d + 2) n_X11_person [.ref 0, .int i, .int what] (ax_hC tl rtl J) = some (some (.int (sp_person N V i what)), ax_hC tl rtl J) := by
  have h6 := hok.1
  unfold sp_person
  refine ax_of (t := t_X11_person) (ls := [.ref 0, .int i, .int what]) rfl ⟨rfl, Nat.le_of_ble_eq_true rfl⟩ rfl ?_
  repeat refine bs rfl ?_
  refine bc rfl (c_isPerson hok hr i) ?_
  repeat refine bs rfl ?_
  refine bz rfl (fun p => ?_) (fun p => ?_)
  · repeat refine bs rfl ?_
    exact br rfl ⟨by rw [if_neg p], rfl⟩
  · obtain ⟨a, ha, rfl⟩ := i_ps (by omega) p.1 p.2
    have e := nI_clamp (n := a) (by omega)
    obtain ⟨-, v1, v2, v3⟩ := hr.2.1 a ha
    rw [if_pos p, e]
    refine bs rfl ?_
    refine bs rfl ?_
    by_cases w0 : what = 0
    · subst w0
      rw [show ax_sw 0 2 [36, 49, 62] 81 (0 : Int32).toInt = 36 from by decide]
      repeat (first | refine bs rfl ?_ | refine bld rfl _ rfl (by omega) (by omega) ?_)
      exact br rfl ⟨by rw [if_pos rfl, ← v1], rfl⟩
    · by_cases w1 : what = 1
      · subst w1
        rw [show ax_sw 0 2 [36, 49, 62] 81 (1 : Int32).toInt = 49 from by decide]
        repeat (first | refine bs rfl ?_ | refine bld rfl _ rfl (by omega) (by omega) ?_)
        exact br rfl ⟨by rw [if_neg w0, if_pos rfl, ← v2], rfl⟩
      · by_cases w2 : what = 2
        · subst w2
          rw [show ax_sw 0 2 [36, 49, 62] 81 (2 : Int32).toInt = 62 from by decide]
          repeat (first | refine bs rfl ?_ | refine bld rfl _ rfl (by omega) (by omega) ?_)
          exact br rfl ⟨by rw [if_neg w0, if_neg w1, if_pos rfl, ← v3], rfl⟩
        · rw [sw_person w0 w1 w2]
          repeat (first | refine bs rfl ?_ | refine bld rfl _ rfl (by omega) (by omega) ?_)
          exact br rfl ⟨by rw [if_neg w0, if_neg w1, if_neg w2], rfl⟩
end QC
