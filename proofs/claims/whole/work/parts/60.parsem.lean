/-! contracts of the reference: letterAt, isFigure, readNumbers, isTold -/
section PM
variable {E : ax_E} {d : Nat} {J : Nat → Nat → Int32} {nt : Nat} {tx : Nat → Int32}
def ps_L (tx : Nat → Int32) (nt k : Nat) : Int32 := if k < nt then tx k else -1
theorem RTm_of {G : Nat → Nat → Int32} (h1 : G 68 18 = J 68 18) (h2 : G 78 = J 78) (ht : RTm J nt tx) : RTm G nt tx := by
  unfold RTm at ht ⊢
  rw [h1, h2]
  exact ht
theorem ps_L_fg (tx : Nat → Int32) (nt k : Nat) : (48 ≤ ps_L tx nt k ∧ ps_L tx nt k ≤ 57) ↔ ps_fg tx nt k = true := by
  unfold ps_L ps_fg
  rw [decide_eq_true_eq]
  by_cases c : k < nt
  · rw [if_pos c]
    exact ⟨fun h => ⟨c, h⟩, fun h => h.2⟩
  · rw [if_neg c]
    exact ⟨fun h => absurd h.1 (by decide), fun h => absurd h.1 c⟩
theorem ps_L_is (tx : Nat → Int32) (nt k : Nat) {c : Int32} (hc : ¬ (-1 : Int32) = c) : ps_L tx nt k = c ↔ ps_is tx nt k c = true := by
  unfold ps_L ps_is
  rw [decide_eq_true_eq]
  by_cases e : k < nt
  · rw [if_pos e]
    exact ⟨fun h => ⟨e, h⟩, fun h => h.2⟩
  · rw [if_neg e]
    exact ⟨fun h => absurd h hc, fun h => absurd h.1 e⟩
theorem m_letterAt (ht : RTm J nt tx) {k : Nat} (hk : k < 2 ^ 31) : ax_cal E (d + 1) n_X12_letterAt [.ref 68, .int (nI k)] (ax_h J) = some (some (.int (ps_L tx nt k)), ax_h J) := by
  have h200 := ht.1
  have hn : J 68 18 = nI nt := ht.2.1
  unfold ps_L
  refine ax_of (t := t_X12_letterAt) (ls := [.ref 68, .int (nI k)]) rfl ⟨rfl, Nat.le_of_ble_eq_true rfl⟩ rfl ?_
  repeat refine bs rfl ?_
  by_cases c : k < nt
  · refine bf rfl (by rw [hn]; exact nI_ge c (by omega)) ?_
    repeat (first | refine bs rfl ?_ | refine bld rfl _ rfl (by omega) (by omega) ?_)
    rw [ht.2.2.1 k c, if_pos c]
    exact br rfl ⟨rfl, rfl⟩
  · refine bt rfl (by rw [hn]; exact nI_le (by omega) hk) ?_
    repeat refine bs rfl ?_
    rw [if_neg c]
    exact br rfl ⟨rfl, rfl⟩
theorem m_isFigure (h : ax_H) (x : Int32) : ax_cal E (d + 2) n_X12_isFigure [.int x] h = some (some (.int (if 48 ≤ x ∧ x ≤ 57 then 1 else 0)), h) := by
  refine ax_of (t := t_X12_isFigure) (ls := [.int x]) rfl ⟨rfl, Nat.le_of_ble_eq_true rfl⟩ rfl ?_
  repeat refine bs rfl ?_
  refine bc rfl (c_in _ x 48 57) ?_
  exact brz rfl ⟨rfl, rfl⟩
theorem m_isTold {k : Nat} (hk : k < 4) (x y : Int32) : ax_cal E (d + 2) n_X12_isTold [.ref 68, .int (nI k), .int x, .int y] (ax_h J) = some (some (.int (if x ≤ J 79 k ∧ J 79 k ≤ y then 1 else 0)), ax_h J) := by
  refine ax_of (t := t_X12_isTold) (ls := [.ref 68, .int (nI k), .int x, .int y]) rfl ⟨rfl, Nat.le_of_ble_eq_true rfl⟩ rfl ?_
  repeat (first | refine bs rfl ?_ | refine bld rfl _ rfl (by omega) (by omega) ?_)
  refine bc rfl (c_in _ (J 79 k) x y) ?_
  exact brz rfl ⟨rfl, rfl⟩
theorem i_asb (x y z : Int32) : x + y - z = x + (y - z) := by
  rw [Int32.sub_eq_add_neg, Int32.sub_eq_add_neg, Int32.add_assoc]
/-- what readNumbers leaves behind -/
def ps_QM (J : Nat → Nat → Int32) (many : Nat) (e : Option (Nat × (Nat → Int32))) (r : Option Value) (g : ax_H) : Prop := ∃ G, g = ax_h G ∧ (∀ q, q ≠ 68 → q ≠ 79 → G q = J q) ∧ (∀ k, k ≠ 19 → G 68 k = J 68 k) ∧ match e with
  | none => r = some (.int 0)
  | some x => r = some (.int 1) ∧ G 68 19 = nI x.1 ∧ ∀ i, i < many → G 79 i = x.2 i
theorem m_readNumbers (ht : RTm J nt tx) {p many : Nat} (h19 : J 68 19 = nI p) (hp : p ≤ nt) (h4 : many ≤ 4) : ∃ r g, ax_cal E (d + 3) n_X12_readNumbers [.ref 68, .int (nI many)] (ax_h J) = some (r, g) ∧ ps_QM J many (ps_nums tx nt many 0 p (fun _ => 0)) r g := by
  have h200 := ht.1
  refine ax_ofQ (t := t_X12_readNumbers) (ls := [.ref 68, .int (nI many), .float 0]) rfl ⟨rfl, Nat.le_of_ble_eq_true rfl⟩ rfl ?_
  have loop : ∀ (l k p' : Nat), k + l = many → p' ≤ nt → ∀ (G : Nat → Nat → Int32) (a : Nat → Int32), (∀ q, q ≠ 68 → q ≠ 79 → G q = J q) → (∀ k, k ≠ 19 → G 68 k = J 68 k) → G 68 19 = nI p' → (∀ i, i < k → G 79 i = a i) → AW E (ax_cal E (d + 2)) t_X12_readNumbers (4, [.ref 68, .int (nI many), .int (nI k)], [.int (nI many), .int (nI k)], ax_h G) (ps_QM J many (ps_nums tx nt l k p' a)) := by
    intro l
    induction l with
    | zero =>
      intro k p' hk hp' G a k1 k2 k3 k4
      refine bt rfl (nI_le (by omega) (by omega)) ?_
      repeat refine bs rfl ?_
      exact br rfl ⟨G, rfl, k1, k2, rfl, k3, fun i hi => k4 i (by omega)⟩
    | succ l ih =>
      intro k p' hk hp' G a k1 k2 k3 k4
      have hG : RTm G nt tx := RTm_of (k2 18 (by decide)) (k1 78 (by decide) (by decide)) ht
      have hl1 := m_letterAt (E := E) (d := d + 1) hG (k := p') (by omega)
      rw [← k3] at hl1
      have hpn : p' + 1 < 2 ^ 31 := by omega
      refine bf rfl (nI_ge (by omega) (by omega)) ?_
      rw [ps_nums]
      repeat refine bs rfl ?_
      refine bc rfl hl1 ?_
      repeat refine bs rfl ?_
      refine bc rfl (m_isFigure _ _) ?_
      repeat refine bs rfl ?_
      by_cases c1 : ps_fg tx nt p' = true
      · rw [if_pos ((ps_L_fg tx nt p').mpr c1)]
        have ep : ps_L tx nt p' = tx p' := if_pos (of_decide_eq_true c1).1
        -- behind the number: the sign that ends it
        have tail : ∀ (q : Nat) (G' : Nat → Nat → Int32), q = ps_nx tx nt p' → q ≤ nt + 2 → (∀ q, q ≠ 68 → q ≠ 79 → G' q = J q) → (∀ k, k ≠ 19 → G' 68 k = J 68 k) → G' 68 19 = nI q → (∀ i, i < k + 1 → G' 79 i = upd a k (ps_vl tx nt p') i) → AW E (ax_cal E (d + 2)) t_X12_readNumbers (106, [.ref 68, .int (nI many), .int (nI k)], [.int (G' 68 19), .ref 68], ax_h G') (ps_QM J many (if ps_fg tx nt p' = true ∧ ps_is tx nt (ps_nx tx nt p') (if l = 0 then 59 else 44) = true then ps_nums tx nt l (k + 1) (ps_nx tx nt p' + 1) (upd a k (ps_vl tx nt p')) else none)) := by
          intro q G' hq hqn m1 m2 m3 m4
          have hG' : RTm G' nt tx := RTm_of (m2 18 (by decide)) (m1 78 (by decide) (by decide)) ht
          have hl2 := m_letterAt (E := E) (d := d + 1) hG' (k := q) (by omega)
          rw [← m3] at hl2
          have ih := ih (k + 1) (q + 1) (by omega)
          rw [nI_succ k] at ih
          rw [← hq]
          refine bc rfl hl2 ?_
          repeat refine bs rfl ?_
          have fin : q + 1 ≤ nt → AW E (ax_cal E (d + 2)) t_X12_readNumbers (128, [.ref 68, .int (nI many), .int (nI k)], [], ax_h G') (ps_QM J many (ps_nums tx nt l (k + 1) (q + 1) (upd a k (ps_vl tx nt p')))) := by
            intro hq1
            repeat refine bs rfl ?_
            exact ih hq1 (va_up G' 68 (upd (G' 68) 19 (G' 68 19 + 1))) _ (fun q q1 q2 => by rw [va_up_ne _ _ q1, m1 q q1 q2]) (fun x hx => by show upd (G' 68) 19 _ x = _; rw [pk_un hx, m2 x hx]) (by show G' 68 19 + 1 = _; rw [m3, nI_succ]) m4
          by_cases cl : l = 0
          · have hmk : nI many - 1 ≤ nI k := by rw [show many = k + 1 by omega, nI_pred]; exact Int32.le_refl _
            refine bt rfl hmk ?_
            repeat refine bs rfl ?_
            rw [if_pos cl]
            by_cases cs : ps_is tx nt q 59 = true
            · rw [if_pos ⟨c1, cs⟩]
              refine bt rfl ((ps_L_is tx nt q (by decide)).mpr cs) ?_
              exact fin (by have := of_decide_eq_true cs; omega)
            · rw [if_neg (show ¬ (ps_fg tx nt p' = true ∧ ps_is tx nt q 59 = true) from fun h => cs h.2)]
              refine bf rfl (fun h => cs ((ps_L_is tx nt q (by decide)).mp h)) ?_
              repeat refine bs rfl ?_
              exact br rfl ⟨G', rfl, m1, m2, rfl⟩
          · have hmk : ¬ nI many - 1 ≤ nI k := by
              rw [show many = (many - 1) + 1 by omega, nI_pred]
              exact nI_ge (by omega) (by omega)
            refine bf rfl hmk ?_
            repeat refine bs rfl ?_
            rw [if_neg cl]
            by_cases cs : ps_is tx nt q 44 = true
            · rw [if_pos ⟨c1, cs⟩]
              refine bt rfl ((ps_L_is tx nt q (by decide)).mpr cs) ?_
              exact fin (by have := of_decide_eq_true cs; omega)
            · rw [if_neg (show ¬ (ps_fg tx nt p' = true ∧ ps_is tx nt q 44 = true) from fun h => cs h.2)]
              refine bf rfl (fun h => cs ((ps_L_is tx nt q (by decide)).mp h)) ?_
              repeat refine bs rfl ?_
              exact br rfl ⟨G', rfl, m1, m2, rfl⟩
        repeat refine bs rfl ?_
        refine bc rfl hl1 ?_
        rw [ep]
        repeat refine bs rfl ?_
        refine bsto rfl k rfl (by omega) (by omega) ?_
        have hG2 : RTm (va_up (va_up G 79 (upd (G 79) k (tx p' - 48))) 68 (upd (G 68) 19 (G 68 19 + 1))) nt tx := RTm_of (show G 68 18 = J 68 18 from k2 18 (by decide)) (show G 78 = J 78 from k1 78 (by decide) (by decide)) ht
        have hl3 := m_letterAt (E := E) (d := d + 1) hG2 (k := p' + 1) hpn
        rw [nI_succ, ← k3] at hl3
        repeat refine bs rfl ?_
        refine bc rfl hl3 ?_
        repeat refine bs rfl ?_
        refine bc rfl (m_isFigure _ _) ?_
        repeat refine bs rfl ?_
        by_cases c2 : ps_fg tx nt (p' + 1) = true
        · rw [if_pos ((ps_L_fg tx nt (p' + 1)).mpr c2)]
          have ep2 : ps_L tx nt (p' + 1) = tx (p' + 1) := if_pos (of_decide_eq_true c2).1
          have hvl : ps_vl tx nt p' = 10 * (tx p' - 48) + (tx (p' + 1) - 48) := if_pos c2
          have hnx : ps_nx tx nt p' = p' + 2 := if_pos c2
          repeat (first | refine bs rfl ?_ | refine bld rfl _ rfl (by omega) (by omega) ?_)
          rw [show (va_up (va_up G 79 (upd (G 79) k (tx p' - 48))) 68 (upd (G 68) 19 (G 68 19 + 1))) 79 k = tx p' - 48 from pk_us]
          refine bc rfl hl3 ?_
          rw [ep2]
          repeat refine bs rfl ?_
          rw [i_asb]
          refine bsto rfl k rfl (by omega) (by omega) ?_
          iterate 9 refine bs rfl ?_
          refine tail (p' + 2) _ hnx.symm (by omega) ?_ ?_ ?_ ?_
          · intro q q1 q2
            rw [va_up_ne _ _ q1, va_up_ne _ _ q2, va_up_ne _ _ q1, va_up_ne _ _ q2, k1 q q1 q2]
          · intro x hx
            show upd (upd (G 68) 19 _) 19 _ x = _
            rw [pk_un hx, pk_un hx, k2 x hx]
          · show G 68 19 + 1 + 1 = _
            rw [k3, show p' + 2 = p' + 1 + 1 by omega, nI_succ, nI_succ]
          · intro i hi
            show upd (upd (G 79) k (tx p' - 48)) k (10 * (tx p' - 48) + (tx (p' + 1) - 48)) i = _
            rw [hvl]
            by_cases e : i = k
            · rw [e, pk_us, pk_us]
            · rw [pk_un e, pk_un e, pk_un e]
              exact k4 i (by omega)
        · rw [if_neg (fun h => c2 ((ps_L_fg tx nt (p' + 1)).mp h))]
          have hvl : ps_vl tx nt p' = tx p' - 48 := if_neg c2
          have hnx : ps_nx tx nt p' = p' + 1 := if_neg c2
          iterate 4 refine bs rfl ?_
          refine tail (p' + 1) _ hnx.symm (by omega) ?_ ?_ ?_ ?_
          · intro q q1 q2
            rw [va_up_ne _ _ q1, va_up_ne _ _ q2, k1 q q1 q2]
          · intro x hx
            show upd (G 68) 19 _ x = _
            rw [pk_un hx, k2 x hx]
          · show G 68 19 + 1 = _
            rw [k3, nI_succ]
          · intro i hi
            show upd (G 79) k (tx p' - 48) i = _
            rw [hvl]
            by_cases e : i = k
            · rw [e, pk_us, pk_us]
            · rw [pk_un e, pk_un e]
              exact k4 i (by omega)
      · rw [if_neg (fun h => c1 ((ps_L_fg tx nt p').mp h)), if_neg (show ¬ (ps_fg tx nt p' = true ∧ ps_is tx nt (ps_nx tx nt p') (if l = 0 then 59 else 44) = true) from fun h => c1 h.1)]
        repeat refine bs rfl ?_
        exact br rfl ⟨G, rfl, k1, k2, rfl⟩
  have l0 := loop many 0 p (Nat.zero_add _) hp J (fun _ => 0) (fun _ _ _ => rfl) (fun _ _ => rfl) h19 (fun i hi => absurd hi (by omega))
  iterate 4 refine bs rfl ?_
  exact l0
end PM
