/-! contracts: small static methods -/
section LEAF
variable {E : ax_E} {d : Nat}
theorem c_isHour (h : ax_H) (t : Int32) : ax_cal E (d + 1) n_X11_isHour [.int t] h = some (some (.int (if 6 ≤ t ∧ t ≤ 18 then 1 else 0)), h) := by
  refine ax_of (t := t_X11_isHour) (ls := [.int t]) rfl ⟨rfl, Nat.le_of_ble_eq_true rfl⟩ rfl ?_
  repeat refine bs rfl ?_
  refine bb rfl (fun c => ?_) (fun c => ?_)
  · repeat refine bs rfl ?_
    refine br rfl ⟨?_, rfl⟩
    rw [if_neg (fun q => Int32.not_lt.mpr q.1 c)]
  · repeat refine bs rfl ?_
    refine bb rfl (fun c2 => ?_) (fun c2 => ?_)
    · repeat refine bs rfl ?_
      refine br rfl ⟨?_, rfl⟩
      rw [if_neg (fun q => Int32.not_lt.mpr q.2 c2)]
    · repeat refine bs rfl ?_
      refine br rfl ⟨?_, rfl⟩
      rw [if_pos ⟨Int32.not_lt.mp c, Int32.not_lt.mp c2⟩]
theorem c_isCell (h : ax_H) (x : Int32) : ax_cal E (d + 1) n_X11_isCell [.int x] h = some (some (.int (if 0 ≤ x ∧ x ≤ 60 then 1 else 0)), h) := by
  refine ax_of (t := t_X11_isCell) (ls := [.int x]) rfl ⟨rfl, Nat.le_of_ble_eq_true rfl⟩ rfl ?_
  repeat refine bs rfl ?_
  refine bb rfl (fun c => ?_) (fun c => ?_)
  · repeat refine bs rfl ?_
    refine br rfl ⟨?_, rfl⟩
    rw [if_neg (fun q => Int32.not_lt.mpr q.1 c)]
  · repeat refine bs rfl ?_
    refine bb rfl (fun c2 => ?_) (fun c2 => ?_)
    · repeat refine bs rfl ?_
      refine br rfl ⟨?_, rfl⟩
      rw [if_neg (fun q => Int32.not_lt.mpr q.2 c2)]
    · repeat refine bs rfl ?_
      refine br rfl ⟨?_, rfl⟩
      rw [if_pos ⟨Int32.not_lt.mp c, Int32.not_lt.mp c2⟩]
theorem c_isWithin (h : ax_H) (x a b : Int32) : ax_cal E (d + 1) n_X11_isWithin [.int x, .int a, .int b] h = some (some (.int (if a ≤ x ∧ x ≤ b then 1 else 0)), h) := by
  refine ax_of (t := t_X11_isWithin) (ls := [.int x, .int a, .int b]) rfl ⟨rfl, Nat.le_of_ble_eq_true rfl⟩ rfl ?_
  repeat refine bs rfl ?_
  refine bb rfl (fun c => ?_) (fun c => ?_)
  · repeat refine bs rfl ?_
    refine br rfl ⟨?_, rfl⟩
    rw [if_neg (fun q => Int32.not_lt.mpr q.1 c)]
  · repeat refine bs rfl ?_
    refine bb rfl (fun c2 => ?_) (fun c2 => ?_)
    · repeat refine bs rfl ?_
      refine br rfl ⟨?_, rfl⟩
      rw [if_neg (fun q => Int32.not_lt.mpr q.2 c2)]
    · repeat refine bs rfl ?_
      refine br rfl ⟨?_, rfl⟩
      rw [if_pos ⟨Int32.not_lt.mp c, Int32.not_lt.mp c2⟩]
theorem c_in (h : ax_H) (x a b : Int32) : ax_cal E (d + 1) n_X12_in [.int x, .int a, .int b] h = some (some (.int (if a ≤ x ∧ x ≤ b then 1 else 0)), h) := by
  refine ax_of (t := t_X12_in) (ls := [.int x, .int a, .int b]) rfl ⟨rfl, Nat.le_of_ble_eq_true rfl⟩ rfl ?_
  repeat refine bs rfl ?_
  refine bb rfl (fun c => ?_) (fun c => ?_)
  · repeat refine bs rfl ?_
    refine br rfl ⟨?_, rfl⟩
    rw [if_neg (fun q => Int32.not_lt.mpr q.1 c)]
  · repeat refine bs rfl ?_
    refine bb rfl (fun c2 => ?_) (fun c2 => ?_)
    · repeat refine bs rfl ?_
      refine br rfl ⟨?_, rfl⟩
      rw [if_neg (fun q => Int32.not_lt.mpr q.2 c2)]
    · repeat refine bs rfl ?_
      refine br rfl ⟨?_, rfl⟩
      rw [if_pos ⟨Int32.not_lt.mp c, Int32.not_lt.mp c2⟩]
theorem c_mIsHour (h : ax_H) (t : Int32) : ax_cal E (d + 2) n_X12_isHour [.int t] h = some (some (.int (if 6 ≤ t ∧ t ≤ 18 then 1 else 0)), h) := by
  refine ax_of (t := t_X12_isHour) (ls := [.int t]) rfl ⟨rfl, Nat.le_of_ble_eq_true rfl⟩ rfl ?_
  repeat refine bs rfl ?_
  refine bc rfl (c_in h t 6 18) ?_
  repeat refine bs rfl ?_
  exact brz rfl ⟨rfl, rfl⟩
theorem c_areHours (h : ax_H) (a b : Int32) : ax_cal E (d + 2) n_X11_areHours [.int a, .int b] h = some (some (.int (if (6 ≤ a ∧ a ≤ 18) ∧ (6 ≤ b ∧ b ≤ 18) ∧ a ≤ b then 1 else 0)), h) := by
  refine ax_of (t := t_X11_areHours) (ls := [.int a, .int b]) rfl ⟨rfl, Nat.le_of_ble_eq_true rfl⟩ rfl ?_
  repeat refine bs rfl ?_
  refine bc rfl (c_isHour h a) ?_
  repeat refine bs rfl ?_
  refine bz rfl (fun p => ?_) (fun p => ?_)
  · repeat refine bs rfl ?_
    refine br rfl ⟨?_, rfl⟩
    rw [if_neg (fun q => p q.1)]
  · repeat refine bs rfl ?_
    refine bc rfl (c_isHour h b) ?_
    repeat refine bs rfl ?_
    refine bz rfl (fun p2 => ?_) (fun p2 => ?_)
    · repeat refine bs rfl ?_
      refine br rfl ⟨?_, rfl⟩
      rw [if_neg (fun q => p2 q.2.1)]
    · repeat refine bs rfl ?_
      refine bb rfl (fun c2 => ?_) (fun c2 => ?_)
      · repeat refine bs rfl ?_
        refine br rfl ⟨?_, rfl⟩
        rw [if_neg (fun q => Int32.not_lt.mpr q.2.2 c2)]
      · repeat refine bs rfl ?_
        refine br rfl ⟨?_, rfl⟩
        rw [if_pos ⟨p, p2, Int32.not_lt.mp c2⟩]
theorem c_reaches (h : ax_H) (fr way len x : Int32) : ax_cal E (d + 1) n_X12_reaches [.int fr, .int way, .int len, .int x] h = some (some (.int (if sp_rch fr way len x = true then 1 else 0)), h) := by
  refine ax_of (t := t_X12_reaches) (ls := [.int fr, .int way, .int len, .int x, .float 0]) rfl ⟨rfl, Nat.le_of_ble_eq_true rfl⟩ rfl ?_
  repeat refine bs rfl ?_
  refine bb rfl (fun c => ?_) (fun c => ?_)
  · repeat refine bs rfl ?_
    refine br rfl ⟨?_, rfl⟩
    rw [if_neg (by simp only [sp_rch, decide_eq_true_eq]; exact fun q => Int32.not_lt.mpr c q.1)]
  · repeat refine bs rfl ?_
    refine bb rfl (fun c2 => ?_) (fun c2 => ?_)
    · repeat refine bs rfl ?_
      refine br rfl ⟨?_, rfl⟩
      rw [if_neg (by simp only [sp_rch, decide_eq_true_eq]; exact fun q => Int32.not_lt.mpr q.2 c2)]
    · repeat refine bs rfl ?_
      refine br rfl ⟨?_, rfl⟩
      rw [if_pos (by simp only [sp_rch, decide_eq_true_eq]; exact ⟨Int32.not_le.mp c, Int32.not_lt.mp c2⟩)]
theorem c_fromNoon (h : ax_H) (q : Nat) (t : Int32) : ax_cal E (d + 1) n_X12_fromNoon [.ref q, .int t] h = some (some (.int (sp_noon t)), h) := by
  refine ax_of (t := t_X12_fromNoon) (ls := [.ref q, .int t]) rfl ⟨rfl, Nat.le_of_ble_eq_true rfl⟩ rfl ?_
  repeat refine bs rfl ?_
  refine bb rfl (fun c => ?_) (fun c => ?_)
  · repeat refine bs rfl ?_
    refine br rfl ⟨?_, rfl⟩
    rw [sp_noon, if_neg (Int32.not_lt.mpr c)]
  · repeat refine bs rfl ?_
    refine br rfl ⟨?_, rfl⟩
    rw [sp_noon, if_pos (Int32.not_le.mp c)]
theorem c_most (h : ax_H) (a b : Int32) : ax_cal E (d + 1) n_X12_most [.int a, .int b] h = some (some (.int (if b < a then a else b)), h) := by
  refine ax_of (t := t_X12_most) (ls := [.int a, .int b]) rfl ⟨rfl, Nat.le_of_ble_eq_true rfl⟩ rfl ?_
  repeat refine bs rfl ?_
  refine bb rfl (fun c => ?_) (fun c => ?_)
  · repeat refine bs rfl ?_
    refine br rfl ⟨?_, rfl⟩
    rw [if_neg (Int32.not_lt.mpr c)]
  · repeat refine bs rfl ?_
    refine br rfl ⟨?_, rfl⟩
    rw [if_pos (Int32.not_le.mp c)]
theorem c_has (h : ax_H) (s k : Int32) : ax_cal E (d + 1) n_X12_has [.int s, .int k] h = some (some (.int (if (s >>> (k &&& 31)) &&& 1 = 1 then 1 else 0)), h) := by
  refine ax_of (t := t_X12_has) (ls := [.int s, .int k]) rfl ⟨rfl, Nat.le_of_ble_eq_true rfl⟩ rfl ?_
  repeat refine bs rfl ?_
  refine bb rfl (fun c => ?_) (fun c => ?_)
  · repeat refine bs rfl ?_
    refine br rfl ⟨?_, rfl⟩
    rw [if_pos c]
  · repeat refine bs rfl ?_
    refine br rfl ⟨?_, rfl⟩
    rw [if_neg c]
end LEAF
