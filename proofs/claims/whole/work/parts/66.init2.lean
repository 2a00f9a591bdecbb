/-! constructors: the class, the reference -/
def tx0 (k : Nat) : Int32 := ax_tb.getD k 0
theorem tx0_rg : ∀ k : Fin 97, 32 ≤ (tx0 k.val).toInt ∧ (tx0 k.val).toInt ≤ 126 := by decide +kernel
def N0 : Nat → Nat := (ps_all tx0 97).2.1
def V0 : Nat → Nat → Int32 := (ps_all tx0 97).2.2
theorem tx0_none : (ps_all tx0 97).1 = none := by decide +kernel
theorem n0_0 : N0 0 = 4 := by decide +kernel
theorem n0_1 : N0 1 = 1 := by decide +kernel
theorem n0_2 : N0 2 = 2 := by decide +kernel
theorem n0_3 : N0 3 = 4 := by decide +kernel
theorem n0_4 : N0 4 = 2 := by decide +kernel
theorem n0_5 : N0 5 = 3 := by decide +kernel
theorem v0_0_0 : V0 0 0 = 10 := by decide +kernel
theorem v0_0_1 : V0 0 1 = 16 := by decide +kernel
theorem v0_0_2 : V0 0 2 = 30 := by decide +kernel
theorem v0_0_3 : V0 0 3 = 33 := by decide +kernel
theorem v0_1_0 : V0 1 0 = 4 := by decide +kernel
theorem v0_1_1 : V0 1 1 = 2 := by decide +kernel
theorem v0_1_2 : V0 1 2 = 6 := by decide +kernel
theorem v0_1_3 : V0 1 3 = 3 := by decide +kernel
theorem v0_2_0 : V0 2 0 = 0 := by decide +kernel
theorem v0_2_1 : V0 2 1 = 1 := by decide +kernel
theorem v0_2_2 : V0 2 2 = 2 := by decide +kernel
theorem v0_2_3 : V0 2 3 = 3 := by decide +kernel
theorem v0_3_0 : V0 3 0 = 0 := by decide +kernel
theorem v0_3_1 : V0 3 1 = 0 := by decide +kernel
theorem v0_3_2 : V0 3 2 = 3 := by decide +kernel
theorem v0_3_3 : V0 3 3 = 1 := by decide +kernel
theorem v0_4_0 : V0 4 0 = 1 := by decide +kernel
theorem v0_5_0 : V0 5 0 = 14 := by decide +kernel
theorem v0_6_0 : V0 6 0 = 12 := by decide +kernel
theorem v0_7_0 : V0 7 0 = 0 := by decide +kernel
theorem v0_7_1 : V0 7 1 = 2 := by decide +kernel
theorem v0_8_0 : V0 8 0 = 8 := by decide +kernel
theorem v0_8_1 : V0 8 1 = 16 := by decide +kernel
theorem v0_9_0 : V0 9 0 = 6 := by decide +kernel
theorem v0_9_1 : V0 9 1 = 9 := by decide +kernel
theorem v0_10_0 : V0 10 0 = 5 := by decide +kernel
theorem v0_10_1 : V0 10 1 = 3 := by decide +kernel
theorem v0_10_2 : V0 10 2 = 8 := by decide +kernel
theorem v0_10_3 : V0 10 3 = 2 := by decide +kernel
theorem v0_11_0 : V0 11 0 = 6 := by decide +kernel
theorem v0_11_1 : V0 11 1 = 9 := by decide +kernel
theorem v0_12_0 : V0 12 0 = 2 := by decide +kernel
theorem v0_12_1 : V0 12 1 = 3 := by decide +kernel
theorem v0_12_2 : V0 12 2 = 1 := by decide +kernel
theorem v0_13_0 : V0 13 0 = 4 := by decide +kernel
theorem v0_13_1 : V0 13 1 = 3 := by decide +kernel
theorem v0_13_2 : V0 13 2 = 6 := by decide +kernel
section PT
variable {E : ax_E} {d : Nat} {tl : List (Nat × Nat)} {rtl : List (List (Option Nat))} {J : Nat → Nat → Int32}
theorem x_length (h : ax_H) : ax_cal E (d + 1) n_J0_length_8abf5 [.retAddr 1] h = some (some (.int 97), h) := rfl
theorem x_charAt (h : ax_H) {n : Nat} (hn : n < 97) : ax_cal E (d + 1) n_J0_charAt_5068e [.retAddr 1, .int (nI n)] h = some (some (.int (tx0 n)), h) := by
  show (if nI n < 0 ∨ 97 ≤ (nI n).toNatClampNeg then none else some (some (Value.int (ax_tb.getD (nI n).toNatClampNeg 0)), h)) = _
  rw [if_neg (nI_in hn (by omega)), nI_clamp (by omega)]
  rfl
theorem c_putText (h0 : J 1 1 = 0) : ∃ G, ax_cal E (d + 2) n_X8_put [.ref 1, .retAddr 1] (ax_hC tl rtl J) = some (none, ax_hC tl rtl G) ∧ (∀ q, q ≠ 1 → q ≠ 2 → G q = J q) ∧ RTc G 97 tx0 := by
  suffices H : ∃ r g, ax_cal E (d + 2) n_X8_put [.ref 1, .retAddr 1] (ax_hC tl rtl J) = some (r, g) ∧ (r = none ∧ ∃ G, g = ax_hC tl rtl G ∧ (∀ q, q ≠ 1 → q ≠ 2 → G q = J q) ∧ RTc G 97 tx0) by
    obtain ⟨r, g, e, rfl, G, rfl, h⟩ := H
    exact ⟨G, e, h⟩
  refine ax_ofQ (t := t_X8_put) (ls := [.ref 1, .retAddr 1, .float 0]) rfl ⟨rfl, Nat.le_of_ble_eq_true rfl⟩ rfl ?_
  have loop : ∀ (j n : Nat), n + j = 97 → ∀ G : Nat → Nat → Int32, (∀ q, q ≠ 1 → q ≠ 2 → G q = J q) → RTc G n tx0 → AW E (ax_cal E (d + 1)) t_X8_put (4, [.ref 1, .retAddr 1, .int (nI n)], [.retAddr 1, .int (nI n)], ax_hC tl rtl G) (fun r g => r = none ∧ ∃ G, g = ax_hC tl rtl G ∧ (∀ q, q ≠ 1 → q ≠ 2 → G q = J q) ∧ RTc G 97 tx0) := by
    intro j
    induction j with
    | zero =>
      intro n hn G k1 k2
      refine bc rfl (x_length _) ?_
      refine bt rfl (nI_le (a := 97) (by omega) (by omega)) ?_
      repeat refine bs rfl ?_
      exact br rfl ⟨rfl, G, rfl, k1, by rw [show 97 = n by omega]; exact k2⟩
    | succ j ih =>
      intro n hn G k1 k2
      have ih := ih (n + 1) (by omega)
      rw [nI_succ] at ih
      refine bc rfl (x_length _) ?_
      refine bf rfl (nI_ge (b := 97) (by omega) (by omega)) ?_
      repeat refine bs rfl ?_
      refine bc rfl (x_charAt _ (by omega)) ?_
      repeat refine bs rfl ?_
      have hrg := tx0_rg ⟨n, by omega⟩
      have e1 : (32 : Int32).toInt = 32 := by decide
      have e2 : (126 : Int32).toInt = 126 := by decide
      refine bc rfl (c_tadd k2 (by omega) (x := tx0 n) ⟨i_le.mpr (by rw [e1]; exact hrg.1), i_le.mpr (by rw [e2]; exact hrg.2)⟩) ?_
      iterate 5 refine bs rfl ?_
      refine ih _ (fun q q1 q2 => by rw [va_up_ne _ _ q1, va_up_ne _ _ q2, k1 q q1 q2]) ⟨by omega, ?_, fun k hk => ?_, fun k hk => tx0_rg ⟨k, by omega⟩⟩
      · show nI n + 1 = _
        rw [nI_succ]
      · show upd (G 2) n (tx0 n) k = _
        by_cases e : k = n
        · rw [e, pk_us]
        · rw [pk_un e]
          exact k2.2.2.1 k (by omega)
  have l0 := loop 97 0 rfl J (fun _ _ _ => rfl) ⟨by omega, h0, fun k hk => absurd hk (by omega), fun k hk => absurd hk (by omega)⟩
  iterate 4 refine bs rfl ?_
  exact l0
theorem c_init : ∃ G, ax_cal E (d + 5) n_X11_init [.ref 0] ([(11, 9)], zI, ax_Rt [[]]) = some (none, ax_hC [] [] G) ∧ RC 30 G N0 V0 ∧ sp_Ok N0 V0 ∧ G 1 1 = 0 ∧ G 5 2 = 0 ∧ G 8 1 = 0 ∧ G 20 2 = 0 ∧ G 23 3 = 0 ∧ G 27 2 = 0 := by
  suffices H : ∃ r g, ax_cal E (d + 5) n_X11_init [.ref 0] ([(11, 9)], zI, ax_Rt [[]]) = some (r, g) ∧ (r = none ∧ ∃ G, g = ax_hC [] [] G ∧ RC 30 G N0 V0 ∧ sp_Ok N0 V0 ∧ G 1 1 = 0 ∧ G 5 2 = 0 ∧ G 8 1 = 0 ∧ G 20 2 = 0 ∧ G 23 3 = 0 ∧ G 27 2 = 0) by
    obtain ⟨r, g, e, rfl, G, rfl, h⟩ := H
    exact ⟨G, e, h⟩
  refine ax_ofQ (t := t_X11_init) (ls := [.ref 0]) rfl ⟨rfl, Nat.le_of_ble_eq_true rfl⟩ rfl ?_
  have key : AW E (ax_cal E (d + 4)) t_X11_init (103, [.ref 0], [], ax_hC [] [] zI) (fun r g => r = none ∧ ∃ G, g = ax_hC [] [] G ∧ RC 30 G N0 V0 ∧ sp_Ok N0 V0 ∧ G 1 1 = 0 ∧ G 5 2 = 0 ∧ G 8 1 = 0 ∧ G 20 2 = 0 ∧ G 23 3 = 0 ∧ G 27 2 = 0) := by
    obtain ⟨G, e1, g1, g2⟩ := c_putText (E := E) (d := d + 2) (tl := []) (rtl := []) (J := zI) rfl
    obtain ⟨r, g, e2, rfl, G2, rfl, k1, k2⟩ := c_readInto30 (E := E) (d := d) (tl := []) (rtl := []) g2
    obtain ⟨k2, k3⟩ := k2 tx0_none
    rw [tx0_none] at e2
    have hz : ∀ q, q ≠ 1 → q ≠ 2 → q ≠ 4 → q < 30 → ∀ k, G2 q k = 0 := fun q q1 q2 q4 q30 k => by
      rw [k1 q q4 (Or.inl q30), g1 q q1 q2]
      rfl
    repeat refine bs rfl ?_
    refine bc rfl e1 ?_
    repeat refine bs rfl ?_
    refine bc rfl e2 ?_
    repeat refine bs rfl ?_
    exact br rfl ⟨rfl, _, rfl, k2, k3, rfl, hz 5 (by decide) (by decide) (by decide) (by decide) 2, hz 8 (by decide) (by decide) (by decide) (by decide) 1, hz 20 (by decide) (by decide) (by decide) (by decide) 2, hz 23 (by decide) (by decide) (by decide) (by decide) 3, hz 27 (by decide) (by decide) (by decide) (by decide) 2⟩
  repeat (first | refine bnw rfl rfl ?_ | refine bpr rfl ?_ | refine bs rfl ?_)
  refine bc rfl in_1 ?_
  repeat (first | refine bnw rfl rfl ?_ | refine bpr rfl ?_ | refine bs rfl ?_)
  refine bc rfl in_2 ?_
  repeat (first | refine bnw rfl rfl ?_ | refine bpr rfl ?_ | refine bs rfl ?_)
  refine bc rfl in_3 ?_
  repeat (first | refine bnw rfl rfl ?_ | refine bpr rfl ?_ | refine bs rfl ?_)
  refine bc rfl in_6 ?_
  repeat (first | refine bnw rfl rfl ?_ | refine bpr rfl ?_ | refine bs rfl ?_)
  refine bc rfl in_7 ?_
  repeat (first | refine bnw rfl rfl ?_ | refine bpr rfl ?_ | refine bs rfl ?_)
  refine bc rfl in_8 ?_
  repeat (first | refine bnw rfl rfl ?_ | refine bpr rfl ?_ | refine bs rfl ?_)
  refine bc rfl in_9 ?_
  repeat (first | refine bnw rfl rfl ?_ | refine bpr rfl ?_ | refine bs rfl ?_)
  refine bc rfl in_13 ?_
  repeat (first | refine bnw rfl rfl ?_ | refine bpr rfl ?_ | refine bs rfl ?_)
  refine bc rfl in_17 ?_
  refine bpr rfl ?_
  exact key
end PT
section MI
variable {E : ax_E} {d : Nat} {J : Nat → Nat → Int32}
theorem m_lays69 {n : Nat} (hn : n + 2 < 18) (i t x : Int32) : ax_cal E (d + 1) n_X12_lays [.ref 69, .int (nI n), .int i, .int t, .int x] (ax_h J) = some (none, ax_h (va_up J 69 (upd (upd (upd (J 69) n i) (n + 1) t) (n + 2) x))) := by
  refine ax_of (t := t_X12_lays) (ls := [.ref 69, .int (nI n), .int i, .int t, .int x]) rfl ⟨rfl, Nat.le_of_ble_eq_true rfl⟩ rfl ?_
  repeat refine bs rfl ?_
  refine bsto rfl n rfl (by omega) (by omega) ?_
  repeat refine bs rfl ?_
  refine bsto rfl (n + 1) (nI_1 n) (by omega) (by omega) ?_
  repeat refine bs rfl ?_
  refine bsto rfl (n + 2) (ix_2 n) (by omega) (by omega) ?_
  repeat refine bs rfl ?_
  refine br rfl ⟨rfl, ?_⟩
  rw [bx_uu, bx_uu, va_up_self, va_up_self]
theorem m_lays70 {n : Nat} (hn : n + 2 < 18) (i t x : Int32) : ax_cal E (d + 1) n_X12_lays [.ref 70, .int (nI n), .int i, .int t, .int x] (ax_h J) = some (none, ax_h (va_up J 70 (upd (upd (upd (J 70) n i) (n + 1) t) (n + 2) x))) := by
  refine ax_of (t := t_X12_lays) (ls := [.ref 70, .int (nI n), .int i, .int t, .int x]) rfl ⟨rfl, Nat.le_of_ble_eq_true rfl⟩ rfl ?_
  repeat refine bs rfl ?_
  refine bsto rfl n rfl (by omega) (by omega) ?_
  repeat refine bs rfl ?_
  refine bsto rfl (n + 1) (nI_1 n) (by omega) (by omega) ?_
  repeat refine bs rfl ?_
  refine bsto rfl (n + 2) (ix_2 n) (by omega) (by omega) ?_
  repeat refine bs rfl ?_
  refine br rfl ⟨rfl, ?_⟩
  rw [bx_uu, bx_uu, va_up_self, va_up_self]
theorem m_lays71 {n : Nat} (hn : n + 2 < 7) (i t x : Int32) : ax_cal E (d + 1) n_X12_lays [.ref 71, .int (nI n), .int i, .int t, .int x] (ax_h J) = some (none, ax_h (va_up J 71 (upd (upd (upd (J 71) n i) (n + 1) t) (n + 2) x))) := by
  refine ax_of (t := t_X12_lays) (ls := [.ref 71, .int (nI n), .int i, .int t, .int x]) rfl ⟨rfl, Nat.le_of_ble_eq_true rfl⟩ rfl ?_
  repeat refine bs rfl ?_
  refine bsto rfl n rfl (by omega) (by omega) ?_
  repeat refine bs rfl ?_
  refine bsto rfl (n + 1) (nI_1 n) (by omega) (by omega) ?_
  repeat refine bs rfl ?_
  refine bsto rfl (n + 2) (ix_2 n) (by omega) (by omega) ?_
  repeat refine bs rfl ?_
  refine br rfl ⟨rfl, ?_⟩
  rw [bx_uu, bx_uu, va_up_self, va_up_self]
theorem m_lays73 {n : Nat} (hn : n + 2 < 12) (i t x : Int32) : ax_cal E (d + 1) n_X12_lays [.ref 73, .int (nI n), .int i, .int t, .int x] (ax_h J) = some (none, ax_h (va_up J 73 (upd (upd (upd (J 73) n i) (n + 1) t) (n + 2) x))) := by
  refine ax_of (t := t_X12_lays) (ls := [.ref 73, .int (nI n), .int i, .int t, .int x]) rfl ⟨rfl, Nat.le_of_ble_eq_true rfl⟩ rfl ?_
  repeat refine bs rfl ?_
  refine bsto rfl n rfl (by omega) (by omega) ?_
  repeat refine bs rfl ?_
  refine bsto rfl (n + 1) (nI_1 n) (by omega) (by omega) ?_
  repeat refine bs rfl ?_
  refine bsto rfl (n + 2) (ix_2 n) (by omega) (by omega) ?_
  repeat refine bs rfl ?_
  refine br rfl ⟨rfl, ?_⟩
  rw [bx_uu, bx_uu, va_up_self, va_up_self]
set_option maxHeartbeats 20000000 in
theorem m_init (G : Nat → Nat → Int32) : ∃ J, ax_cal E (d + 2) n_X12_init [.ref 68] (ax_shC ++ [(12, 38)], va_up G 68 (fun _ => 0), ax_Rt (ax_rC ++ [[]])) = some (none, ax_h J) ∧ (∀ q, q < 68 → J q = G q) ∧ RM J N0 V0 ∧ J 68 18 = 0 ∧ J 68 11 = 0 ∧ J 68 13 = 0 ∧ J 68 15 = 0 := by
  suffices H : ∃ r g, ax_cal E (d + 2) n_X12_init [.ref 68] (ax_shC ++ [(12, 38)], va_up G 68 (fun _ => 0), ax_Rt (ax_rC ++ [[]])) = some (r, g) ∧ (r = none ∧ ∃ J, g = ax_h J ∧ (∀ q, q < 68 → J q = G q) ∧ RM J N0 V0 ∧ J 68 18 = 0 ∧ J 68 11 = 0 ∧ J 68 13 = 0 ∧ J 68 15 = 0) by
    obtain ⟨r, g, e, rfl, G, rfl, h⟩ := H
    exact ⟨G, e, h⟩
  have key : ∀ I : Nat → Nat → Int32, (∀ q, q < 68 → I q = G q) → I 68 18 = 0 → I 68 11 = 0 → I 68 13 = 0 → I 68 15 = 0 → I 68 0 = 4 → I 68 2 = 2 → I 68 4 = 4 → I 68 6 = 2 → I 68 8 = 3 → (∀ k, I 74 k = 0) → AW E (ax_cal E (d + 1)) t_X12_init (189, [.ref 68], [.int 0, .int 4, .int 10, .int 0, .ref 69], ax_h I) (fun r g => r = none ∧ ∃ J, g = ax_h J ∧ (∀ q, q < 68 → J q = G q) ∧ RM J N0 V0 ∧ J 68 18 = 0 ∧ J 68 11 = 0 ∧ J 68 13 = 0 ∧ J 68 15 = 0) := by
    intro I hI z18 z11 z13 z15 i0 i2 i4 i6 i8 z74
    repeat refine bs rfl ?_
    refine bc rfl (show ax_cal E (d + 1) n_X12_lays [.ref 69, .int 0, .int 10, .int 4, .int 0] _ = _ from m_lays69 (n := 0) (by omega) 10 4 0) ?_
    repeat refine bs rfl ?_
    refine bc rfl (show ax_cal E (d + 1) n_X12_lays [.ref 69, .int 3, .int 16, .int 2, .int 1] _ = _ from m_lays69 (n := 3) (by omega) 16 2 1) ?_
    repeat refine bs rfl ?_
    refine bc rfl (show ax_cal E (d + 1) n_X12_lays [.ref 69, .int 6, .int 30, .int 6, .int 2] _ = _ from m_lays69 (n := 6) (by omega) 30 6 2) ?_
    repeat refine bs rfl ?_
    refine bc rfl (show ax_cal E (d + 1) n_X12_lays [.ref 69, .int 9, .int 33, .int 3, .int 3] _ = _ from m_lays69 (n := 9) (by omega) 33 3 3) ?_
    repeat refine bs rfl ?_
    refine bc rfl (show ax_cal E (d + 1) n_X12_lays [.ref 74, .int 7, .int 1, .int 14, .int 12] _ = _ from m_lays74 (n := 7) (by omega) 1 14 12) ?_
    repeat refine bs rfl ?_
    refine bc rfl (show ax_cal E (d + 1) n_X12_lays [.ref 70, .int 0, .int 0, .int 8, .int 6] _ = _ from m_lays70 (n := 0) (by omega) 0 8 6) ?_
    repeat refine bs rfl ?_
    refine bc rfl (show ax_cal E (d + 1) n_X12_lays [.ref 70, .int 3, .int 2, .int 16, .int 9] _ = _ from m_lays70 (n := 3) (by omega) 2 16 9) ?_
    repeat refine bs rfl ?_
    refine bc rfl (show ax_cal E (d + 1) n_X12_lays [.ref 71, .int 0, .int 5, .int 3, .int 8] _ = _ from m_lays71 (n := 0) (by omega) 5 3 8) ?_
    repeat refine bs rfl ?_
    refine bc rfl (show ax_cal E (d + 1) n_X12_lays [.ref 73, .int 0, .int 2, .int 4, .int 3] _ = _ from m_lays73 (n := 0) (by omega) 2 4 3) ?_
    repeat refine bs rfl ?_
    refine bc rfl (show ax_cal E (d + 1) n_X12_lays [.ref 73, .int 3, .int 3, .int 1, .int 6] _ = _ from m_lays73 (n := 3) (by omega) 3 1 6) ?_
    repeat refine bs rfl ?_
    refine br rfl ⟨rfl, _, rfl, fun q hq => ?_, ?_, z18, z11, z13, z15⟩
    · repeat rw [va_up_ne _ _ (by omega)]
      exact hI q hq
    refine ⟨?_, ?_, ?_, ?_, ?_, ?_, ?_, ?_, ?_, ?_, ?_, ?_⟩
    · rw [n0_0]; exact i0
    · intro i hi
      rw [n0_0] at hi
      match i, hi with
      | 0, _ => exact ⟨(by rw [v0_0_0]; first | rfl | exact z74 _), (by rw [v0_1_0]; first | rfl | exact z74 _), (by rw [v0_2_0]; first | rfl | exact z74 _), (by rw [v0_3_0]; first | rfl | exact z74 _)⟩
      | 1, _ => exact ⟨(by rw [v0_0_1]; first | rfl | exact z74 _), (by rw [v0_1_1]; first | rfl | exact z74 _), (by rw [v0_2_1]; first | rfl | exact z74 _), (by rw [v0_3_1]; first | rfl | exact z74 _)⟩
      | 2, _ => exact ⟨(by rw [v0_0_2]; first | rfl | exact z74 _), (by rw [v0_1_2]; first | rfl | exact z74 _), (by rw [v0_2_2]; first | rfl | exact z74 _), (by rw [v0_3_2]; first | rfl | exact z74 _)⟩
      | 3, _ => exact ⟨(by rw [v0_0_3]; first | rfl | exact z74 _), (by rw [v0_1_3]; first | rfl | exact z74 _), (by rw [v0_2_3]; first | rfl | exact z74 _), (by rw [v0_3_3]; first | rfl | exact z74 _)⟩
      | n + 4, h => exact absurd h (by omega)
    · rw [n0_1]; rfl
    · intro i hi
      rw [n0_1] at hi
      match i, hi with
      | 0, _ => exact ⟨(by rw [v0_4_0]; first | rfl | exact z74 _), (by rw [v0_5_0]; first | rfl | exact z74 _), (by rw [v0_6_0]; first | rfl | exact z74 _)⟩
      | n + 1, h => exact absurd h (by omega)
    · rw [n0_2]; exact i2
    · intro i hi
      rw [n0_2] at hi
      match i, hi with
      | 0, _ => exact ⟨(by rw [v0_7_0]; first | rfl | exact z74 _), (by rw [v0_8_0]; first | rfl | exact z74 _), (by rw [v0_9_0]; first | rfl | exact z74 _)⟩
      | 1, _ => exact ⟨(by rw [v0_7_1]; first | rfl | exact z74 _), (by rw [v0_8_1]; first | rfl | exact z74 _), (by rw [v0_9_1]; first | rfl | exact z74 _)⟩
      | n + 2, h => exact absurd h (by omega)
    · rw [n0_3]; exact i4
    · intro i hi
      rw [n0_3] at hi
      match i, hi with
      | 0, _ => exact (by rw [v0_10_0]; first | rfl | exact z74 _)
      | 1, _ => exact (by rw [v0_10_1]; first | rfl | exact z74 _)
      | 2, _ => exact (by rw [v0_10_2]; first | rfl | exact z74 _)
      | 3, _ => exact (by rw [v0_10_3]; first | rfl | exact z74 _)
      | n + 4, h => exact absurd h (by omega)
    · rw [n0_4]; exact i6
    · intro i hi
      rw [n0_4] at hi
      match i, hi with
      | 0, _ => exact (by rw [v0_11_0]; first | rfl | exact z74 _)
      | 1, _ => exact (by rw [v0_11_1]; first | rfl | exact z74 _)
      | n + 2, h => exact absurd h (by omega)
    · rw [n0_5]; exact i8
    · intro i hi
      rw [n0_5] at hi
      match i, hi with
      | 0, _ => exact ⟨(by rw [v0_12_0]; first | rfl | exact z74 _), (by rw [v0_13_0]; first | rfl | exact z74 _)⟩
      | 1, _ => exact ⟨(by rw [v0_12_1]; first | rfl | exact z74 _), (by rw [v0_13_1]; first | rfl | exact z74 _)⟩
      | 2, _ => exact ⟨(by rw [v0_12_2]; first | rfl | exact z74 _), (by rw [v0_13_2]; first | rfl | exact z74 _)⟩
      | n + 3, h => exact absurd h (by omega)
  refine ax_ofQ (t := t_X12_init) (ls := [.ref 68]) rfl ⟨rfl, Nat.le_of_ble_eq_true rfl⟩ rfl ?_
  repeat (first | refine bnI rfl rfl ?_ | refine bpr rfl ?_ | refine bs rfl ?_)
  refine key _ (fun q hq => ?_) ?_ ?_ ?_ ?_ ?_ ?_ ?_ ?_ ?_ (fun k => ?_)
  · repeat
      refine (va_up_ne _ _ ?_).trans ?_
      · intro e
        rw [e] at hq
        exact absurd hq (by decide)
    rfl
  · rfl
  · rfl
  · rfl
  · rfl
  · rfl
  · rfl
  · rfl
  · rfl
  · rfl
  · rfl
end MI
