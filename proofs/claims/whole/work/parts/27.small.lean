/-! contracts: count, poplar, write, wipe -/
/-- the text, as the class holds it -/
def RTc (J : Nat → Nat → Int32) (nt : Nat) (tx : Nat → Int32) : Prop := nt ≤ 200 ∧ J 1 1 = nI nt ∧ (∀ k, k < nt → J 2 k = tx k) ∧ ∀ k, k < nt → 32 ≤ (tx k).toInt ∧ (tx k).toInt ≤ 126
/-- the text, as the reference holds it -/
def RTm (J : Nat → Nat → Int32) (nt : Nat) (tx : Nat → Int32) : Prop := nt ≤ 200 ∧ J 68 18 = nI nt ∧ (∀ k, k < nt → J 78 k = tx k) ∧ ∀ k, k < nt → 32 ≤ (tx k).toInt ∧ (tx k).toInt ≤ 126
def sp_cnt (f : Nat → Int32) (what : Int32) : Int32 := if 0 ≤ what.toInt ∧ what.toInt ≤ 9 then f what.toInt.toNat else -1
theorem sw_in {ts : List Nat} {d j : Nat} (hj : j ≤ 9) : ax_sw 0 9 ts d (nI j).toInt = (ax_nth ts j).getD d := by
  rw [nI_toInt (by omega)]
  unfold ax_sw
  rw [if_neg (by omega), show ((j : Int) - 0).toNat = j by omega]
theorem sw_out {ts : List Nat} {d : Nat} {x : Int} (h : ¬ (0 ≤ x ∧ x ≤ 9)) : ax_sw 0 9 ts d x = d := by
  unfold ax_sw
  rw [if_pos (by omega)]
def sp_poplar (n m : Int32) : Int32 := if (1 ≤ n ∧ n ≤ 99) ∧ 1 ≤ m ∧ m ≤ 9 then n - 1 - (n - 1) / (m + 1) * (m + 1) else -1
theorem i_mp1 {m : Int32} (h : 1 ≤ m ∧ m ≤ 9) : ¬ m + 1 = 0 := by
  have h1 := i_le.mp h.1
  have h2 := i_le.mp h.2
  have e1 : (1 : Int32).toInt = 1 := by decide
  have e9 : (9 : Int32).toInt = 9 := by decide
  intro q
  have q := i_eq.mp q
  rw [i_add (by omega) (by omega), show (0 : Int32).toInt = 0 from by decide] at q
  omega
theorem i_chr {x : Int32} (h : 32 ≤ x ∧ x ≤ 126) : (x.toUInt32 % 65536).toInt32 = x := by
  have h1 := i_le.mp h.1
  have h2 := i_le.mp h.2
  have e1 : (32 : Int32).toInt = 32 := by decide
  have e9 : (126 : Int32).toInt = 126 := by decide
  obtain ⟨j, rfl, hj, -⟩ := i_nn (x := x) (by omega)
  have H : ∀ j : Fin 127, ((nI j.val).toUInt32 % 65536).toInt32 = nI j.val := by decide +kernel
  exact H ⟨j, by omega⟩
theorem i_nar {x : Int32} (h : 32 ≤ x ∧ x ≤ 126) : vp_nar .char x = x := by
  have e := pk_vc x
  rw [i_chr h] at e
  exact e
section MC
variable {E : ax_E} {d : Nat} {tl : List (Nat × Nat)} {rtl : List (List (Option Nat))} {J : Nat → Nat → Int32} {nt : Nat} {tx f : Nat → Int32}
theorem c_count (hf : J 31 8 = f 0 ∧ J 35 4 = f 1 ∧ J 31 9 = f 2 ∧ J 44 4 = f 3 ∧ J 44 5 = f 4 ∧ J 44 6 = f 5 ∧ J 20 2 = f 6 ∧ J 5 2 = f 7 ∧ J 8 1 = f 8 ∧ J 1 1 = f 9) (what : Int32) : ax_cal E (d + 1) n_X11_count [.ref 0, .int what] (ax_hC tl rtl J) = some (some (.int (sp_cnt f what)), ax_hC tl rtl J) := by
  obtain ⟨e0, e1, e2, e3, e4, e5, e6, e7, e8, e9⟩ := hf
  unfold sp_cnt
  refine ax_of (t := t_X11_count) (ls := [.ref 0, .int what]) rfl ⟨rfl, Nat.le_of_ble_eq_true rfl⟩ rfl ?_
  iterate 2 refine bs rfl ?_
  by_cases hw : 0 ≤ what.toInt ∧ what.toInt ≤ 9
  · rw [if_pos hw]
    obtain ⟨j, rfl, hj, hb⟩ := i_nn hw.1
    rw [sw_in (by omega), show (nI j).toInt.toNat = j by omega]
    have h9 : j ≤ 9 := by omega
    clear hw hj hb
    match j, h9 with
    | 0, _ =>
      show AW E _ _ (56, _, _, _) _
      repeat refine bs rfl ?_
      exact br rfl ⟨by rw [← e0], rfl⟩
    | 1, _ =>
      show AW E _ _ (67, _, _, _) _
      repeat refine bs rfl ?_
      exact br rfl ⟨by rw [← e1], rfl⟩
    | 2, _ =>
      show AW E _ _ (81, _, _, _) _
      repeat refine bs rfl ?_
      exact br rfl ⟨by rw [← e2], rfl⟩
    | 3, _ =>
      show AW E _ _ (92, _, _, _) _
      repeat refine bs rfl ?_
      exact br rfl ⟨by rw [← e3], rfl⟩
    | 4, _ =>
      show AW E _ _ (103, _, _, _) _
      repeat refine bs rfl ?_
      exact br rfl ⟨by rw [← e4], rfl⟩
    | 5, _ =>
      show AW E _ _ (114, _, _, _) _
      repeat refine bs rfl ?_
      exact br rfl ⟨by rw [← e5], rfl⟩
    | 6, _ =>
      show AW E _ _ (125, _, _, _) _
      repeat refine bs rfl ?_
      exact br rfl ⟨by rw [← e6], rfl⟩
    | 7, _ =>
      show AW E _ _ (133, _, _, _) _
      repeat refine bs rfl ?_
      exact br rfl ⟨by rw [← e7], rfl⟩
    | 8, _ =>
      show AW E _ _ (141, _, _, _) _
      repeat refine bs rfl ?_
      exact br rfl ⟨by rw [← e8], rfl⟩
    | 9, _ =>
      show AW E _ _ (149, _, _, _) _
      repeat refine bs rfl ?_
      exact br rfl ⟨by rw [← e9], rfl⟩
    | n + 10, h => exact absurd h (by omega)
  · rw [if_neg hw, sw_out hw]
    repeat refine bs rfl ?_
    exact br rfl ⟨rfl, rfl⟩
theorem c_poplar (n m : Int32) : ax_cal E (d + 1) n_X11_poplar [.ref 0, .int n, .int m] (ax_hC tl rtl J) = some (some (.int (sp_poplar n m)), ax_hC tl rtl J) := by
  unfold sp_poplar
  refine ax_of (t := t_X11_poplar) (ls := [.ref 0, .int n, .int m]) rfl ⟨rfl, Nat.le_of_ble_eq_true rfl⟩ rfl ?_
  repeat refine bs rfl ?_
  refine bb rfl (fun c1 => ?_) (fun c1 => ?_)
  · repeat refine bs rfl ?_
    exact br rfl ⟨by rw [if_neg (fun q => Int32.not_lt.mpr q.1.1 c1)], rfl⟩
  · repeat refine bs rfl ?_
    refine bb rfl (fun c2 => ?_) (fun c2 => ?_)
    · repeat refine bs rfl ?_
      exact br rfl ⟨by rw [if_neg (fun q => Int32.not_lt.mpr q.1.2 c2)], rfl⟩
    · repeat refine bs rfl ?_
      refine bb rfl (fun c3 => ?_) (fun c3 => ?_)
      · repeat refine bs rfl ?_
        exact br rfl ⟨by rw [if_neg (fun q => Int32.not_lt.mpr q.2.1 c3)], rfl⟩
      · repeat refine bs rfl ?_
        refine bb rfl (fun c4 => ?_) (fun c4 => ?_)
        · have hq : 1 ≤ m ∧ m ≤ 9 := ⟨Int32.not_lt.mp c3, c4⟩
          repeat refine bs rfl ?_
          refine bf rfl (i_mp1 hq) ?_
          repeat refine bs rfl ?_
          exact br rfl ⟨by rw [if_pos ⟨⟨Int32.not_lt.mp c1, Int32.not_lt.mp c2⟩, hq⟩], rfl⟩
        · repeat refine bs rfl ?_
          exact br rfl ⟨by rw [if_neg (fun q => c4 q.2.2)], rfl⟩
theorem c_wipe (ht : RTc J nt tx) : ax_cal E (d + 1) n_X11_wipe [.ref 0] (ax_hC tl rtl J) = some (some (.int (nI nt)), ax_hC tl rtl (va_up J 1 (upd (J 1) 1 0))) := by
  refine ax_of (t := t_X11_wipe) (ls := [.ref 0, .float 0]) rfl ⟨rfl, Nat.le_of_ble_eq_true rfl⟩ rfl ?_
  repeat refine bs rfl ?_
  exact br rfl ⟨by rw [ht.2.1], rfl⟩
theorem c_tadd (ht : RTc J nt tx) (hn : nt < 200) {x : Int32} (hx : 32 ≤ x ∧ x ≤ 126) : ax_cal E (d + 1) n_X8_add [.ref 1, .int x] (ax_hC tl rtl J) = some (some (.int 1), ax_hC tl rtl (va_up (va_up J 2 (upd (J 2) nt x)) 1 (upd (J 1) 1 (nI nt + 1)))) := by
  have h2 : J 1 1 = nI nt := ht.2.1
  refine ax_of (t := t_X8_add) (ls := [.ref 1, .int x]) rfl ⟨rfl, Nat.le_of_ble_eq_true rfl⟩ rfl ?_
  repeat refine bs rfl ?_
  refine bt rfl (by rw [h2]; exact nI_lt (b := 200) hn (by omega)) ?_
  repeat refine bs rfl ?_
  refine bsto rfl nt h2 (by omega) (by omega) ?_
  rw [i_nar hx]
  repeat refine bs rfl ?_
  exact br rfl ⟨rfl, by rw [show (va_up J 2 (upd (J 2) nt x)) 1 1 = nI nt from h2]; rfl⟩
theorem c_taddF (ht : RTc J nt tx) (hn : ¬ nt < 200) (x : Int32) : ax_cal E (d + 1) n_X8_add [.ref 1, .int x] (ax_hC tl rtl J) = some (some (.int 0), ax_hC tl rtl J) := by
  have h2 : J 1 1 = nI nt := ht.2.1
  have h6 := ht.1
  refine ax_of (t := t_X8_add) (ls := [.ref 1, .int x]) rfl ⟨rfl, Nat.le_of_ble_eq_true rfl⟩ rfl ?_
  repeat refine bs rfl ?_
  refine bf rfl (by rw [h2]; exact nI_nlt (b := 200) (by omega) (by omega)) ?_
  repeat refine bs rfl ?_
  exact br rfl ⟨rfl, rfl⟩
theorem c_writeB (x : Int32) (h : ¬ (32 ≤ x ∧ x ≤ 126)) : ax_cal E (d + 2) n_X11_write [.ref 0, .int x] (ax_hC tl rtl J) = some (some (.int (-1)), ax_hC tl rtl J) := by
  refine ax_of (t := t_X11_write) (ls := [.ref 0, .int x]) rfl ⟨rfl, Nat.le_of_ble_eq_true rfl⟩ rfl ?_
  repeat refine bs rfl ?_
  refine bb rfl (fun c1 => ?_) (fun c1 => ?_)
  · repeat refine bs rfl ?_
    exact br rfl ⟨rfl, rfl⟩
  · repeat refine bs rfl ?_
    refine bf rfl (fun q => h ⟨Int32.not_lt.mp c1, q⟩) ?_
    repeat refine bs rfl ?_
    exact br rfl ⟨rfl, rfl⟩
theorem c_writeF (ht : RTc J nt tx) (hn : ¬ nt < 200) {x : Int32} (h : 32 ≤ x ∧ x ≤ 126) : ax_cal E (d + 2) n_X11_write [.ref 0, .int x] (ax_hC tl rtl J) = some (some (.int (-3)), ax_hC tl rtl J) := by
  refine ax_of (t := t_X11_write) (ls := [.ref 0, .int x]) rfl ⟨rfl, Nat.le_of_ble_eq_true rfl⟩ rfl ?_
  repeat refine bs rfl ?_
  refine bf rfl (Int32.not_lt.mpr h.1) ?_
  repeat refine bs rfl ?_
  refine bt rfl h.2 ?_
  repeat refine bs rfl ?_
  refine bc rfl (c_taddF ht hn _) ?_
  repeat refine bs rfl ?_
  exact br rfl ⟨rfl, rfl⟩
theorem c_write (ht : RTc J nt tx) (hn : nt < 200) {x : Int32} (h : 32 ≤ x ∧ x ≤ 126) : ax_cal E (d + 2) n_X11_write [.ref 0, .int x] (ax_hC tl rtl J) = some (some (.int (nI nt + 1)), ax_hC tl rtl (va_up (va_up J 2 (upd (J 2) nt x)) 1 (upd (J 1) 1 (nI nt + 1)))) := by
  have ha := c_tadd (E := E) (d := d) (tl := tl) (rtl := rtl) ht hn h
  rw [← i_chr h] at ha
  refine ax_of (t := t_X11_write) (ls := [.ref 0, .int x]) rfl ⟨rfl, Nat.le_of_ble_eq_true rfl⟩ rfl ?_
  repeat refine bs rfl ?_
  refine bf rfl (Int32.not_lt.mpr h.1) ?_
  repeat refine bs rfl ?_
  refine bt rfl h.2 ?_
  repeat refine bs rfl ?_
  refine bc rfl ha ?_
  rw [i_chr h]
  repeat refine bs rfl ?_
  exact br rfl ⟨rfl, rfl⟩
end MC
section MM
variable {E : ax_E} {d : Nat} {J : Nat → Nat → Int32} {nt : Nat} {tx f : Nat → Int32}
theorem m_count (hf : J 68 0 = f 0 ∧ J 74 6 = f 1 ∧ J 68 2 = f 2 ∧ J 68 4 = f 3 ∧ J 68 6 = f 4 ∧ J 68 8 = f 5 ∧ J 68 15 = f 6 ∧ J 68 11 = f 7 ∧ J 68 13 = f 8 ∧ J 68 18 = f 9) (what : Int32) : ax_cal E (d + 1) n_X12_count [.ref 68, .int what] (ax_h J) = some (some (.int (sp_cnt f what)), ax_h J) := by
  obtain ⟨e0, e1, e2, e3, e4, e5, e6, e7, e8, e9⟩ := hf
  unfold sp_cnt
  refine ax_of (t := t_X12_count) (ls := [.ref 68, .int what]) rfl ⟨rfl, Nat.le_of_ble_eq_true rfl⟩ rfl ?_
  iterate 2 refine bs rfl ?_
  by_cases hw : 0 ≤ what.toInt ∧ what.toInt ≤ 9
  · rw [if_pos hw]
    obtain ⟨j, rfl, hj, hb⟩ := i_nn hw.1
    rw [sw_in (by omega), show (nI j).toInt.toNat = j by omega]
    have h9 : j ≤ 9 := by omega
    clear hw hj hb
    match j, h9 with
    | 0, _ =>
      show AW E _ _ (56, _, _, _) _
      repeat refine bs rfl ?_
      exact br rfl ⟨by rw [← e0], rfl⟩
    | 1, _ =>
      show AW E _ _ (61, _, _, _) _
      repeat refine bs rfl ?_
      exact br rfl ⟨by rw [← e1]; rfl, rfl⟩
    | 2, _ =>
      show AW E _ _ (69, _, _, _) _
      repeat refine bs rfl ?_
      exact br rfl ⟨by rw [← e2], rfl⟩
    | 3, _ =>
      show AW E _ _ (74, _, _, _) _
      repeat refine bs rfl ?_
      exact br rfl ⟨by rw [← e3], rfl⟩
    | 4, _ =>
      show AW E _ _ (79, _, _, _) _
      repeat refine bs rfl ?_
      exact br rfl ⟨by rw [← e4], rfl⟩
    | 5, _ =>
      show AW E _ _ (84, _, _, _) _
      repeat refine bs rfl ?_
      exact br rfl ⟨by rw [← e5], rfl⟩
    | 6, _ =>
      show AW E _ _ (89, _, _, _) _
      repeat refine bs rfl ?_
      exact br rfl ⟨by rw [← e6], rfl⟩
    | 7, _ =>
      show AW E _ _ (94, _, _, _) _
      repeat refine bs rfl ?_
      exact br rfl ⟨by rw [← e7], rfl⟩
    | 8, _ =>
      show AW E _ _ (99, _, _, _) _
      repeat refine bs rfl ?_
      exact br rfl ⟨by rw [← e8], rfl⟩
    | 9, _ =>
      show AW E _ _ (104, _, _, _) _
      repeat refine bs rfl ?_
      exact br rfl ⟨by rw [← e9], rfl⟩
    | n + 10, h => exact absurd h (by omega)
  · rw [if_neg hw, sw_out hw]
    repeat refine bs rfl ?_
    exact br rfl ⟨rfl, rfl⟩
theorem m_poplar (n m : Int32) : ax_cal E (d + 2) n_X12_poplar [.ref 68, .int n, .int m] (ax_h J) = some (some (.int (sp_poplar n m)), ax_h J) := by
  unfold sp_poplar
  refine ax_of (t := t_X12_poplar) (ls := [.ref 68, .int n, .int m]) rfl ⟨rfl, Nat.le_of_ble_eq_true rfl⟩ rfl ?_
  repeat refine bs rfl ?_
  refine bc rfl (c_in _ n 1 99) ?_
  repeat refine bs rfl ?_
  refine bz rfl (fun p => ?_) (fun p => ?_)
  · repeat refine bs rfl ?_
    exact br rfl ⟨by rw [if_neg (fun q => p q.1)], rfl⟩
  · repeat refine bs rfl ?_
    refine bc rfl (c_in _ m 1 9) ?_
    repeat refine bs rfl ?_
    refine bz rfl (fun p2 => ?_) (fun p2 => ?_)
    · repeat refine bs rfl ?_
      exact br rfl ⟨by rw [if_neg (fun q => p2 q.2)], rfl⟩
    · repeat refine bs rfl ?_
      refine bf rfl (i_mp1 p2) ?_
      repeat refine bs rfl ?_
      exact br rfl ⟨by rw [if_pos ⟨p, p2⟩], rfl⟩
theorem m_wipe (ht : RTm J nt tx) : ax_cal E (d + 1) n_X12_wipe [.ref 68] (ax_h J) = some (some (.int (nI nt)), ax_h (va_up J 68 (upd (J 68) 18 0))) := by
  refine ax_of (t := t_X12_wipe) (ls := [.ref 68, .float 0]) rfl ⟨rfl, Nat.le_of_ble_eq_true rfl⟩ rfl ?_
  repeat refine bs rfl ?_
  exact br rfl ⟨by rw [ht.2.1], rfl⟩
theorem m_writeB (x : Int32) (h : ¬ (32 ≤ x ∧ x ≤ 126)) : ax_cal E (d + 2) n_X12_write [.ref 68, .int x] (ax_h J) = some (some (.int (-1)), ax_h J) := by
  refine ax_of (t := t_X12_write) (ls := [.ref 68, .int x]) rfl ⟨rfl, Nat.le_of_ble_eq_true rfl⟩ rfl ?_
  repeat refine bs rfl ?_
  refine bc rfl (c_in _ x 32 126) ?_
  repeat refine bs rfl ?_
  refine bz rfl (fun p => ?_) (fun p => absurd p h)
  repeat refine bs rfl ?_
  exact br rfl ⟨rfl, rfl⟩
theorem m_writeF (ht : RTm J nt tx) (hn : ¬ nt < 200) {x : Int32} (h : 32 ≤ x ∧ x ≤ 126) : ax_cal E (d + 2) n_X12_write [.ref 68, .int x] (ax_h J) = some (some (.int (-3)), ax_h J) := by
  have h2 : J 68 18 = nI nt := ht.2.1
  have h6 := ht.1
  refine ax_of (t := t_X12_write) (ls := [.ref 68, .int x]) rfl ⟨rfl, Nat.le_of_ble_eq_true rfl⟩ rfl ?_
  repeat refine bs rfl ?_
  refine bc rfl (c_in _ x 32 126) ?_
  repeat refine bs rfl ?_
  refine bz rfl (fun p => absurd h p) (fun p => ?_)
  repeat refine bs rfl ?_
  refine bt rfl (by rw [h2, show nt = 200 by omega]; rfl) ?_
  repeat refine bs rfl ?_
  exact br rfl ⟨rfl, rfl⟩
theorem m_write (ht : RTm J nt tx) (hn : nt < 200) {x : Int32} (h : 32 ≤ x ∧ x ≤ 126) : ax_cal E (d + 2) n_X12_write [.ref 68, .int x] (ax_h J) = some (some (.int (nI nt + 1)), ax_h (va_up (va_up J 78 (upd (J 78) nt x)) 68 (upd (J 68) 18 (nI nt + 1)))) := by
  have h2 : J 68 18 = nI nt := ht.2.1
  refine ax_of (t := t_X12_write) (ls := [.ref 68, .int x]) rfl ⟨rfl, Nat.le_of_ble_eq_true rfl⟩ rfl ?_
  repeat refine bs rfl ?_
  refine bc rfl (c_in _ x 32 126) ?_
  repeat refine bs rfl ?_
  refine bz rfl (fun p => absurd h p) (fun p => ?_)
  repeat refine bs rfl ?_
  refine bf rfl (by rw [h2]; exact fun q => absurd ((nI_eq (b := 200) (by omega) (by omega)).mp q) (by omega)) ?_
  repeat refine bs rfl ?_
  refine bsto rfl nt h2 (by omega) (by omega) ?_
  repeat refine bs rfl ?_
  refine br rfl ⟨?_, ?_⟩
  · show some (Value.int (J 68 18 + 1)) = _
    rw [h2]
  · rw [show (va_up J 78 (upd (J 78) nt x)) 68 18 = nI nt from h2]
    rfl
end MM
