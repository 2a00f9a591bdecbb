theorem c_isHour {E : ax_E} {d : Nat} (h : ax_H) (t : Int32) : ax_cal E (d + 1) n_X11_isHour [.int t] h = some (some (.int (if 6 ≤ t ∧ t ≤ 18 then 1 else 0)), h) := by
  refine ax_of (t := t_X11_isHour) (ls := [.int t]) rfl ⟨rfl, by decide⟩ rfl ?_
  repeat refine ax_s rfl ?_
  refine ax_b rfl (fun c => ?_) (fun c => ?_)
  · repeat refine ax_s rfl ?_
    refine ax_rt rfl (by decide) ⟨?_, rfl⟩
    rw [if_neg (fun q => Int32.not_lt.mpr q.1 c)]
  · repeat refine ax_s rfl ?_
    refine ax_b rfl (fun c2 => ?_) (fun c2 => ?_)
    · repeat refine ax_s rfl ?_
      refine ax_rt rfl (by decide) ⟨?_, rfl⟩
      rw [if_neg (fun q => Int32.not_lt.mpr q.2 c2)]
    · repeat refine ax_s rfl ?_
      refine ax_rt rfl (by decide) ⟨?_, rfl⟩
      rw [if_pos ⟨Int32.not_lt.mp c, Int32.not_lt.mp c2⟩]
/-- where walks lead: the cell, and the latest hour -/
def sp_wk (wI wT wX : Nat → Int32) (i t home : Int32) : Nat → Int32 × Int32
  | 0 => (home, 6)
  | k + 1 => if wI k = i ∧ wT k ≤ t ∧ (sp_wk wI wT wX i t home k).2 ≤ wT k then (wX k, wT k) else sp_wk wI wT wX i t home k
theorem c_cellAfterWalks {E : ax_E} {d : Nat} {tl : List (Nat × Nat)} {rtl : List (List (Option Nat))} (I : Nat → Nat → Int32) (i t home : Int32) (nw : Nat) (hn : nw ≤ 9) (hw : I 35 4 = nI nw) : ax_cal E (d + 1) n_X5_cellAfterWalks [.ref 35, .int i, .int t, .int home] (ax_hC tl rtl I) = some (some (.int (sp_wk (I 37) (I 38) (I 39) i t home nw).1), (ax_hC tl rtl I)) := by
  refine ax_of (t := t_X5_cellAfterWalks) (ls := [.ref 35, .int i, .int t, .int home, .float 0, .float 0, .float 0]) rfl ⟨rfl, by decide⟩ rfl ?_
  have loop : ∀ (j k : Nat), k + j = nw → AW E (ax_cal E d) t_X5_cellAfterWalks (16, [.ref 35, .int i, .int t, .int home, .int (sp_wk (I 37) (I 38) (I 39) i t home k).1, .int (sp_wk (I 37) (I 38) (I 39) i t home k).2, .int (nI k)], [.int (I 35 4), .int (nI k)], ax_hC tl rtl I) (fun r' g => r' = some (.int (sp_wk (I 37) (I 38) (I 39) i t home nw).1) ∧ g = ax_hC tl rtl I) := by
    intro j
    induction j with
    | zero =>
      intro k hk
      refine ax_bt rfl (by rw [hw]; exact nI_le (by omega) (by omega)) ?_
      repeat refine ax_s rfl ?_
      exact ax_r rfl ⟨by rw [show k = nw by omega]; rfl, rfl⟩
    | succ j ih =>
      intro k hk
      have ih := ih (k + 1) (by omega)
      rw [sp_wk, nI_succ] at ih
      refine ax_bf rfl (by rw [hw]; exact nI_ge (by omega) (by omega)) ?_
      repeat refine ax_s rfl ?_
      refine ax_ld rfl k rfl (by omega) (by omega) ?_
      repeat refine ax_s rfl ?_
      refine ax_b rfl (fun c1 => ?_) (fun c1 => ?_)
      · repeat refine ax_s rfl ?_
        refine ax_ld rfl k rfl (by omega) (by omega) ?_
        repeat refine ax_s rfl ?_
        refine ax_b rfl (fun c2 => ?_) (fun c2 => ?_)
        · repeat refine ax_s rfl ?_
          rw [if_neg (fun q => Int32.not_lt.mpr q.2.1 c2)] at ih
          exact ih
        · repeat refine ax_s rfl ?_
          refine ax_ld rfl k rfl (by omega) (by omega) ?_
          repeat refine ax_s rfl ?_
          refine ax_b rfl (fun c3 => ?_) (fun c3 => ?_)
          · repeat refine ax_s rfl ?_
            rw [if_neg (fun q => Int32.not_lt.mpr q.2.2 c3)] at ih
            exact ih
          · repeat refine ax_s rfl ?_
            refine ax_ld rfl k rfl (by omega) (by omega) ?_
            repeat refine ax_s rfl ?_
            refine ax_ld rfl k rfl (by omega) (by omega) ?_
            repeat refine ax_s rfl ?_
            rw [if_pos ⟨c1, Int32.not_lt.mp c2, Int32.not_lt.mp c3⟩] at ih
            exact ih
      · repeat refine ax_s rfl ?_
        rw [if_neg (fun q => c1 q.1)] at ih
        exact ih
  repeat refine ax_s rfl ?_
  exact loop nw 0 (Nat.zero_add _)
