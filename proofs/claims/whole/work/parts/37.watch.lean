/-! contracts: watchers (class) -/
/-- the lowest upper end of the shadows, of the first i, that lie wholly above a cell -/
def sp_nw (N : Nat → Nat) (V : Nat → Nat → Int32) (t ab : Int32) : Nat → Int32
  | 0 => 1000
  | i + 1 => if 0 < sp_len V i t ∧ ab < sp_low N V i t then (if sp_high N V i t < sp_nw N V t ab i then sp_high N V i t else sp_nw N V t ab i) else sp_nw N V t ab i
/-- how many watchers, at most n, from a cell on -/
def sp_wn (N : Nat → Nat) (V : Nat → Nat → Int32) (t : Int32) : Nat → Int32 → Nat
  | 0, _ => 0
  | n + 1, x => if x = 1000 then 0 else sp_wn N V t n (sp_nw N V t x (N 0)) + 1
def sp_wtOk (t w : Int32) : Prop := (6 ≤ t ∧ t ≤ 18) ∧ 0 ≤ w ∧ w ≤ 1
def sp_wt (N : Nat → Nat) (V : Nat → Nat → Int32) (t w : Int32) : Int32 := if sp_nw N V t (-1000) (N 0) = 1000 then -4 else if w = 1 then sp_nw N V t (-1000) (N 0) + 200 else nI (sp_wn N V t 6 (sp_nw N V t (-1000) (N 0)))
section WC
variable {E : ax_E} {d : Nat} {tl : List (Nat × Nat)} {rtl : List (List (Option Nat))} {J : Nat → Nat → Int32} {N : Nat → Nat} {V : Nat → Nat → Int32}
theorem c_nextWatcher (hok : sp_Ok N V) (hr : RC 30 J N V) {k : Nat} (h1 : 6 ≤ k) (h2 : k ≤ 18) (ab : Int32) : ax_cal E (d + 5) n_X7_nextWatcher [.ref 31, .int (nI k), .int ab] (ax_hC tl rtl J) = some (some (.int (sp_nw N V (nI k) ab (N 0))), ax_hC tl rtl J) := by
  have h6 := hok.1
  have hn : J 31 8 = nI (N 0) := hr.1
  refine ax_of (t := t_X7_nextWatcher) (ls := [.ref 31, .int (nI k), .int ab, .float 0, .float 0]) rfl ⟨rfl, Nat.le_of_ble_eq_true rfl⟩ rfl ?_
  have loop : ∀ (j i : Nat), i + j = N 0 → AW E (ax_cal E (d + 4)) t_X7_nextWatcher (13, [.ref 31, .int (nI k), .int ab, .int (sp_nw N V (nI k) ab i), .int (nI i)], [.int (J 31 8), .int (nI i)], ax_hC tl rtl J) (fun r g => r = some (.int (sp_nw N V (nI k) ab (N 0))) ∧ g = ax_hC tl rtl J) := by
    intro j
    induction j with
    | zero =>
      intro i hi
      refine bt rfl (by rw [hn]; exact nI_le (by omega) (by omega)) ?_
      repeat refine bs rfl ?_
      exact br rfl ⟨by rw [show i = N 0 by omega], rfl⟩
    | succ j ih =>
      intro i hi
      have ih := ih (i + 1) (by omega)
      rw [nI_succ, sp_nw] at ih
      refine bf rfl (by rw [hn]; exact nI_ge (by omega) (by omega)) ?_
      repeat refine bs rfl ?_
      refine bc rfl (c_lengthOf hok hr (show i < N 0 by omega) h1 h2) ?_
      repeat refine bs rfl ?_
      refine bb rfl (fun c1 => ?_) (fun c1 => ?_)
      · rw [if_neg (fun q => absurd q.1 (Int32.not_lt.mpr c1))] at ih
        repeat refine bs rfl ?_
        exact ih
      · repeat refine bs rfl ?_
        refine bc rfl (c_lowEndOf hok hr (show i < N 0 by omega) h1 h2) ?_
        repeat refine bs rfl ?_
        refine bb rfl (fun c2 => ?_) (fun c2 => ?_)
        · rw [if_neg (fun q => absurd q.2 (Int32.not_lt.mpr c2))] at ih
          repeat refine bs rfl ?_
          exact ih
        · rw [if_pos ⟨Int32.not_le.mp c1, Int32.not_le.mp c2⟩] at ih
          repeat refine bs rfl ?_
          refine bc rfl (c_highEndOf hok hr (show i < N 0 by omega) h1 h2) ?_
          repeat refine bs rfl ?_
          exact ih
  have l0 := loop (N 0) 0 (Nat.zero_add _)
  repeat refine bs rfl ?_
  exact l0
theorem c_watchB (t w : Int32) (hb : ¬ sp_wtOk t w) : ax_cal E (d + 6) n_X11_watchers [.ref 0, .int t, .int w] (ax_hC tl rtl J) = some (some (.int (-1)), ax_hC tl rtl J) := by
  refine ax_of (t := t_X11_watchers) (ls := [.ref 0, .int t, .int w, .float 0, .float 0, .float 0, .float 0]) rfl ⟨rfl, Nat.le_of_ble_eq_true rfl⟩ rfl ?_
  repeat refine bs rfl ?_
  refine bc rfl (c_isHour _ t) ?_
  repeat refine bs rfl ?_
  refine bz rfl (fun p => ?_) (fun p => ?_)
  · repeat refine bs rfl ?_
    exact br rfl ⟨rfl, rfl⟩
  · repeat refine bs rfl ?_
    refine bb rfl (fun c1 => ?_) (fun c1 => ?_)
    · repeat refine bs rfl ?_
      exact br rfl ⟨rfl, rfl⟩
    · repeat refine bs rfl ?_
      refine bf rfl (fun q => hb ⟨p, Int32.not_lt.mp c1, q⟩) ?_
      repeat refine bs rfl ?_
      exact br rfl ⟨rfl, rfl⟩
theorem c_watch (hok : sp_Ok N V) (hr : RC 30 J N V) {k : Nat} (h1 : 6 ≤ k) (h2 : k ≤ 18) (w : Int32) (hb : sp_wtOk (nI k) w) : ax_cal E (d + 6) n_X11_watchers [.ref 0, .int (nI k), .int w] (ax_hC tl rtl J) = some (some (.int (sp_wt N V (nI k) w)), ax_hC tl rtl J) := by
  unfold sp_wt
  refine ax_of (t := t_X11_watchers) (ls := [.ref 0, .int (nI k), .int w, .float 0, .float 0, .float 0, .float 0]) rfl ⟨rfl, Nat.le_of_ble_eq_true rfl⟩ rfl ?_
  repeat refine bs rfl ?_
  refine bc rfl (c_isHour _ (nI k)) ?_
  repeat refine bs rfl ?_
  refine bz rfl (fun p => absurd hb.1 p) (fun p => ?_)
  repeat refine bs rfl ?_
  refine bf rfl (Int32.not_lt.mpr hb.2.1) ?_
  repeat refine bs rfl ?_
  refine bt rfl hb.2.2 ?_
  repeat refine bs rfl ?_
  refine bc rfl (c_nextWatcher hok hr h1 h2 (-1000)) ?_
  generalize hlow : sp_nw N V (nI k) (-1000) (N 0) = low
  repeat refine bs rfl ?_
  refine bb rfl (fun c1 => ?_) (fun c1 => ?_)
  · repeat refine bs rfl ?_
    exact br rfl ⟨by rw [if_pos c1], rfl⟩
  · rw [if_neg c1]
    repeat refine bs rfl ?_
    refine bb rfl (fun c2 => ?_) (fun c2 => ?_)
    · repeat refine bs rfl ?_
      exact br rfl ⟨by rw [if_pos c2], rfl⟩
    · rw [if_neg c2]
      have loop : ∀ (j n : Nat), n + j = 6 → ∀ (mny : Nat) (x : Int32), AW E (ax_cal E (d + 5)) t_X11_watchers (67, [.ref 0, .int (nI k), .int w, .int low, .int (nI mny), .int x, .int (nI n)], [.int 6, .int (nI n)], ax_hC tl rtl J) (fun r g => r = some (.int (nI (mny + sp_wn N V (nI k) j x))) ∧ g = ax_hC tl rtl J) := by
        intro j
        induction j with
        | zero =>
          intro n hn mny x
          refine bt rfl (nI_le (a := 6) (b := n) (by omega) (by omega)) ?_
          repeat refine bs rfl ?_
          exact br rfl ⟨rfl, rfl⟩
        | succ j ih =>
          intro n hn mny x
          have ih := ih (n + 1) (by omega) (mny + 1) (sp_nw N V (nI k) x (N 0))
          rw [nI_succ n, nI_succ mny, Nat.add_assoc, Nat.add_comm 1] at ih
          refine bf rfl (nI_ge (b := 6) (a := n) (by omega) (by omega)) ?_
          rw [sp_wn]
          repeat refine bs rfl ?_
          refine bb rfl (fun c3 => ?_) (fun c3 => ?_)
          · rw [if_pos c3]
            repeat refine bs rfl ?_
            exact br rfl ⟨rfl, rfl⟩
          · rw [if_neg c3]
            repeat refine bs rfl ?_
            refine bc rfl (c_nextWatcher hok hr h1 h2 x) ?_
            repeat refine bs rfl ?_
            exact ih
      have l0 := loop 6 0 (by omega) 0 low
      rw [Nat.zero_add] at l0
      iterate 8 refine bs rfl ?_
      exact l0
end WC
