/-! contracts: wear, light, first, broken -/
def sp_light (N : Nat → Nat) (V : Nat → Nat → Int32) (t : Int32) : Nat → Int32
  | 0 => 0
  | x + 1 => if sp_cov N V (nI x) t = 0 then sp_light N V t x + 1 else sp_light N V t x
def sp_lightT (N : Nat → Nat) (V : Nat → Nat → Int32) (t : Int32) : Int32 := if 6 ≤ t ∧ t ≤ 18 then sp_light N V t 61 else -1
/-- the first hour and person of which a shadow is stood on: by hours from 6 + n on (m of them left), by persons from i on -/
def sp_fi (N : Nat → Nat) (V : Nat → Nat → Int32) (what : Int32) (n : Nat) : Nat → Nat → Option Int32
  | 0, _ => none
  | m + 1, i => if sp_st N V i (nI (6 + n)) = 0 then sp_fi N V what n m (i + 1) else some (if what = 0 then nI (6 + n) else if what = 1 then nI i else nI (sp_ctz (sp_orN (fun j => sp_rch (sp_cell N V i (nI (6 + n))) (sp_way V i (nI (6 + n))) (sp_len V i (nI (6 + n))) (sp_cell N V j (nI (6 + n)))) (N 0))))
def sp_ff (N : Nat → Nat) (V : Nat → Nat → Int32) (what : Int32) : Nat → Nat → Int32
  | 0, _ => -4
  | m + 1, n => match sp_fi N V what n (N 0) 0 with
    | some r => r
    | none => sp_ff N V what m (n + 1)
def sp_first (N : Nat → Nat) (V : Nat → Nat → Int32) (what : Int32) : Int32 := if 0 ≤ what ∧ what ≤ 2 then sp_ff N V what 13 0 else -1
def sp_brk (V : Nat → Nat → Int32) : Nat → Nat → Int32
  | 0, _ => -4
  | m + 1, k => if V 9 k < sp_len V (V 7 k).toNatClampNeg (V 8 k) then nI k else sp_brk V m (k + 1)
theorem sp_stN (N : Nat → Nat) (V : Nat → Nat → Int32) (h6 : N 0 ≤ 6) (a : Nat) (t : Int32) : ∃ s, s < 64 ∧ sp_st N V a t = nI s ∧ s = sp_orN (fun j => sp_rch (sp_cell N V a t) (sp_way V a t) (sp_len V a t) (sp_cell N V j t)) (N 0) :=
  ⟨_, (sp_or_lt _ h6).2, (sp_or_lt _ h6).1, rfl⟩
section HC
variable {E : ax_E} {d : Nat} {tl : List (Nat × Nat)} {rtl : List (List (Option Nat))} {J : Nat → Nat → Int32} {N : Nat → Nat} {V : Nat → Nat → Int32}
theorem c_wear (hok : sp_Ok N V) (hr : RC 30 J N V) (i t : Int32) : ∃ f, ax_cal E (d + 5) n_X11_wear [.ref 0, .int i, .int t] (ax_hC tl rtl J) = some (some (.int (sp_wearT N V i t)), ax_hC tl rtl (va_up J 43 f)) := by
  have h6 := hok.1
  unfold sp_wearT
  suffices H : ∃ r g, ax_cal E (d + 5) n_X11_wear [.ref 0, .int i, .int t] (ax_hC tl rtl J) = some (r, g) ∧ (r = some (.int (if (0 ≤ i ∧ i < nI (N 0)) ∧ (6 ≤ t ∧ t ≤ 18) then sp_wear N V i.toNatClampNeg (t.toNatClampNeg - 5) else -1)) ∧ ∃ f, g = ax_hC tl rtl (va_up J 43 f)) by
    obtain ⟨r, g, e, rfl, f, rfl⟩ := H
    exact ⟨f, e⟩
  refine ax_ofQ (t := t_X11_wear) (ls := [.ref 0, .int i, .int t, .float 0, .float 0]) rfl ⟨rfl, Nat.le_of_ble_eq_true rfl⟩ rfl ?_
  repeat refine bs rfl ?_
  refine bc rfl (c_isPerson hok hr i) ?_
  repeat refine bs rfl ?_
  refine bz rfl (fun p => ?_) (fun p => ?_)
  · repeat refine bs rfl ?_
    exact br rfl ⟨by rw [if_neg (fun q => p q.1)], J 43, by rw [ax_up_id]⟩
  · obtain ⟨a, ha, rfl⟩ := i_ps (by omega) p.1 p.2
    have e := nI_clamp (n := a) (by omega)
    repeat refine bs rfl ?_
    refine bc rfl (c_isHour _ t) ?_
    repeat refine bs rfl ?_
    refine bz rfl (fun p2 => ?_) (fun p2 => ?_)
    · repeat refine bs rfl ?_
      exact br rfl ⟨by rw [if_neg (fun q => p2 q.2)], J 43, by rw [ax_up_id]⟩
    · obtain ⟨k, h1, h2, rfl⟩ := i_hr p2.1 p2.2
      have e2 := nI_clamp (n := k) (by omega)
      rw [if_pos ⟨p, p2⟩, e, e2]
      have loop : ∀ (j n : Nat), 6 + n + j = k + 1 → ∀ f, AW E (ax_cal E (d + 4)) t_X11_wear (26, [.ref 0, .int (nI a), .int (nI k), .int (sp_wear N V a n), .int (nI (6 + n))], [.int (nI k), .int (nI (6 + n))], ax_hC tl rtl (va_up J 43 f)) (fun r g => r = some (.int (sp_wear N V a (k - 5))) ∧ ∃ f, g = ax_hC tl rtl (va_up J 43 f)) := by
        intro j
        induction j with
        | zero =>
          intro n hn f
          refine bt rfl (nI_lt (by omega) (by omega)) ?_
          repeat refine bs rfl ?_
          exact br rfl ⟨by rw [show n = k - 5 by omega], f, rfl⟩
        | succ j ih =>
          intro n hn f
          have ih := ih (n + 1) (by omega)
          rw [sp_wear, show 6 + (n + 1) = 6 + n + 1 by omega, nI_succ] at ih
          obtain ⟨f2, hf2⟩ := c_standersAt (E := E) (d := d) (tl := tl) (rtl := rtl) hok (rc43 (f := f) hr) ha (show 6 ≤ 6 + n by omega) (show 6 + n ≤ 18 by omega)
          rw [bx_uu] at hf2
          refine bf rfl (nI_nlt (by omega) (by omega)) ?_
          repeat refine bs rfl ?_
          refine bc rfl hf2 ?_
          repeat refine bs rfl ?_
          refine bc rfl (c_bitCount _ _) ?_
          repeat refine bs rfl ?_
          exact ih f2
      have l0 := loop (k - 5) 0 (by omega) (J 43)
      rw [ax_up_id] at l0
      repeat refine bs rfl ?_
      exact l0
theorem c_light (hok : sp_Ok N V) (hr : RC 30 J N V) (t : Int32) : ax_cal E (d + 4) n_X11_light [.ref 0, .int t] (ax_hC tl rtl J) = some (some (.int (sp_lightT N V t)), ax_hC tl rtl J) := by
  unfold sp_lightT
  refine ax_of (t := t_X11_light) (ls := [.ref 0, .int t, .float 0, .float 0]) rfl ⟨rfl, Nat.le_of_ble_eq_true rfl⟩ rfl ?_
  repeat refine bs rfl ?_
  refine bc rfl (c_isHour _ t) ?_
  repeat refine bs rfl ?_
  refine bz rfl (fun p => ?_) (fun p => ?_)
  · repeat refine bs rfl ?_
    exact br rfl ⟨by rw [if_neg p], rfl⟩
  · obtain ⟨k, h1, h2, rfl⟩ := i_hr p.1 p.2
    rw [if_pos p]
    have loop : ∀ (j x : Nat), x + j = 61 → AW E (ax_cal E (d + 3)) t_X11_light (16, [.ref 0, .int (nI k), .int (sp_light N V (nI k) x), .int (nI x)], [.int 60, .int (nI x)], ax_hC tl rtl J) (fun r' g => r' = some (.int (sp_light N V (nI k) 61)) ∧ g = ax_hC tl rtl J) := by
      intro j
      induction j with
      | zero =>
        intro x hx
        refine bt rfl (nI_lt (a := 60) (by omega) (by omega)) ?_
        repeat refine bs rfl ?_
        exact br rfl ⟨by rw [show x = 61 by omega], rfl⟩
      | succ j ih =>
        intro x hx
        have ih := ih (x + 1) (by omega)
        rw [sp_light, nI_succ] at ih
        refine bf rfl (nI_nlt (a := 60) (by omega) (by omega)) ?_
        repeat refine bs rfl ?_
        refine bc rfl (c_coverersOf hok hr h1 h2 (nI x)) ?_
        repeat refine bs rfl ?_
        refine bb rfl (fun c => ?_) (fun c => ?_)
        · repeat refine bs rfl ?_
          rw [if_pos (show sp_cov N V (nI x) (nI k) = 0 from c)] at ih
          exact ih
        · repeat refine bs rfl ?_
          rw [if_neg (show ¬ sp_cov N V (nI x) (nI k) = 0 from c)] at ih
          exact ih
    iterate 6 refine bs rfl ?_
    exact loop 61 0 (by omega)
theorem c_firstBroken (hok : sp_Ok N V) (hr : RC 30 J N V) : ax_cal E (d + 3) n_X7_firstBroken [.ref 31] (ax_hC tl rtl J) = some (some (.int (sp_brk V (N 2) 0)), ax_hC tl rtl J) := by
  have h6 := hok.2.2.1
  have h60 := hok.1
  have hn : J 31 9 = nI (N 2) := hr.2.2.2.2.1
  have hv : ∀ k, k < N 2 → J 40 k = V 7 k ∧ J 41 k = V 8 k ∧ J 42 k = V 9 k := hr.2.2.2.2.2.1
  have ho := hok.2.2.2.2.2.2.2.2.1
  refine ax_of (t := t_X7_firstBroken) (ls := [.ref 31, .float 0]) rfl ⟨rfl, Nat.le_of_ble_eq_true rfl⟩ rfl ?_
  have loop : ∀ (j k : Nat), k + j = N 2 → AW E (ax_cal E (d + 2)) t_X7_firstBroken (7, [.ref 31, .int (nI k)], [.int (J 31 9), .int (nI k)], ax_hC tl rtl J) (fun r' g => r' = some (.int (sp_brk V j k)) ∧ g = ax_hC tl rtl J) := by
    intro j
    induction j with
    | zero =>
      intro k hk
      refine bt rfl (by rw [hn]; exact nI_le (by omega) (by omega)) ?_
      repeat refine bs rfl ?_
      exact br rfl ⟨rfl, rfl⟩
    | succ j ih =>
      intro k hk
      have ih := ih (k + 1) (by omega)
      rw [nI_succ] at ih
      obtain ⟨v1, v2, v3⟩ := hv k (by omega)
      obtain ⟨⟨a, ha, e1⟩, e2, -⟩ := ho k (by omega)
      obtain ⟨q, e3, e4, -⟩ := i_nn (x := V 8 k) (by omega)
      have ec := nI_clamp (n := a) (by omega)
      refine bf rfl (by rw [hn]; exact nI_ge (by omega) (by omega)) ?_
      repeat (first | refine bs rfl ?_ | refine bld rfl _ rfl (by omega) (by omega) ?_)
      rw [v1, v2, e1, e3]
      refine bc rfl (c_lengthOf hok hr ha (by omega) (by omega)) ?_
      repeat (first | refine bs rfl ?_ | refine bld rfl _ rfl (by omega) (by omega) ?_)
      rw [v3]
      refine bb rfl (fun c => ?_) (fun c => ?_)
      · repeat (first | refine bs rfl ?_ | refine bld rfl _ rfl (by omega) (by omega) ?_)
        rw [sp_brk, if_neg (by rw [e1, e3, ec]; exact Int32.not_lt.mpr c)]
        exact ih
      · repeat (first | refine bs rfl ?_ | refine bld rfl _ rfl (by omega) (by omega) ?_)
        exact br rfl ⟨by rw [sp_brk, if_pos (by rw [e1, e3, ec]; exact Int32.not_le.mp c)], rfl⟩
  repeat (first | refine bs rfl ?_ | refine bld rfl _ rfl (by omega) (by omega) ?_)
  exact loop (N 2) 0 (Nat.zero_add _)
theorem c_broken (hok : sp_Ok N V) (hr : RC 30 J N V) : ax_cal E (d + 4) n_X11_broken [.ref 0] (ax_hC tl rtl J) = some (some (.int (sp_brk V (N 2) 0)), ax_hC tl rtl J) := by
  refine ax_of (t := t_X11_broken) (ls := [.ref 0]) rfl ⟨rfl, Nat.le_of_ble_eq_true rfl⟩ rfl ?_
  repeat refine bs rfl ?_
  refine bc rfl (c_firstBroken hok hr) ?_
  repeat refine bs rfl ?_
  exact br rfl ⟨rfl, rfl⟩
end HC
