/-! contracts of the class: signAt, figureAt, numbersOf, readNumbers -/
section PC
variable {E : ax_E} {d : Nat} {tl : List (Nat × Nat)} {rtl : List (List (Option Nat))} {J : Nat → Nat → Int32} {nt : Nat} {tx : Nat → Int32}
theorem ps_rg (ht : RTc J nt tx) {k : Nat} (hk : k < nt) : 32 ≤ tx k ∧ tx k ≤ 126 := by
  have h := ht.2.2.2 k hk
  have e1 : (32 : Int32).toInt = 32 := by decide
  have e2 : (126 : Int32).toInt = 126 := by decide
  exact ⟨i_le.mpr (by omega), i_le.mpr (by omega)⟩
theorem RTc_of {G : Nat → Nat → Int32} (h : ∀ q, q < 3 → G q = J q) (ht : RTc J nt tx) : RTc G nt tx := by
  unfold RTc at ht ⊢
  rw [h 1 (by decide), h 2 (by decide)]
  exact ht
theorem c_signAt (ht : RTc J nt tx) {k : Nat} (hk : k < 2 ^ 31) : ax_cal E (d + 1) n_X8_signAt [.ref 1, .int (nI k)] (ax_hC tl rtl J) = some (some (.int (if k < nt then tx k else 0)), ax_hC tl rtl J) := by
  have h200 := ht.1
  have hn : J 1 1 = nI nt := ht.2.1
  refine ax_of (t := t_X8_signAt) (ls := [.ref 1, .int (nI k)]) rfl ⟨rfl, Nat.le_of_ble_eq_true rfl⟩ rfl ?_
  repeat refine bs rfl ?_
  refine bf rfl (nI_pos hk) ?_
  repeat refine bs rfl ?_
  by_cases c : k < nt
  · refine bf rfl (by rw [hn]; exact nI_ge c (by omega)) ?_
    repeat (first | refine bs rfl ?_ | refine bld rfl _ rfl (by omega) (by omega) ?_)
    rw [ht.2.2.1 k c, if_pos c]
    exact brt rfl (i_nar (ps_rg ht c)) ⟨rfl, rfl⟩
  · refine bt rfl (by rw [hn]; exact nI_le (by omega) hk) ?_
    repeat refine bs rfl ?_
    rw [if_neg c]
    exact br rfl ⟨rfl, rfl⟩
theorem c_figureAt (ht : RTc J nt tx) {k : Nat} (hk : k < 2 ^ 31) : ax_cal E (d + 2) n_X9_figureAt [.ref 1, .int (nI k)] (ax_hC tl rtl J) = some (some (.int (if ps_fg tx nt k = true then tx k - 48 else -4)), ax_hC tl rtl J) := by
  refine ax_of (t := t_X9_figureAt) (ls := [.ref 1, .int (nI k), .float 0]) rfl ⟨rfl, Nat.le_of_ble_eq_true rfl⟩ rfl ?_
  repeat refine bs rfl ?_
  refine bc rfl (c_signAt ht hk) ?_
  by_cases c : k < nt
  · rw [if_pos c]
    repeat refine bs rfl ?_
    refine bb rfl (fun c1 => ?_) (fun c1 => ?_)
    · repeat refine bs rfl ?_
      exact br rfl ⟨by rw [if_neg (fun q => absurd (of_decide_eq_true q).2.1 (Int32.not_le.mpr c1))], rfl⟩
    · repeat refine bs rfl ?_
      refine bb rfl (fun c2 => ?_) (fun c2 => ?_)
      · repeat refine bs rfl ?_
        exact br rfl ⟨by rw [if_neg (fun q => absurd (of_decide_eq_true q).2.2 (Int32.not_le.mpr c2))], rfl⟩
      · repeat refine bs rfl ?_
        exact br rfl ⟨by rw [if_pos (show ps_fg tx nt k = true from decide_eq_true ⟨c, Int32.not_lt.mp c1, Int32.not_lt.mp c2⟩)], rfl⟩
  · rw [if_neg c]
    repeat refine bs rfl ?_
    exact br rfl ⟨by rw [if_neg (fun q => c (of_decide_eq_true q).1)], rfl⟩
theorem ps_sw1 : ∀ j : Fin 127, (j.val = 102 ∨ j.val = 108 ∨ j.val = 111 ∨ j.val = 112 ∨ j.val = 114 ∨ j.val = 119) ∨ ax_sw 102 119 [92, 96, 96, 96, 96, 96, 90, 96, 96, 94, 88, 96, 94, 96, 96, 96, 96, 90] 96 (nI j.val).toInt = 96 := by decide +kernel
theorem ps_sw {ts : List Nat} {e : Nat} (H : ∀ j : Fin 127, (j.val = 102 ∨ j.val = 108 ∨ j.val = 111 ∨ j.val = 112 ∨ j.val = 114 ∨ j.val = 119) ∨ ax_sw 102 119 ts e (nI j.val).toInt = e) {j : Nat} (hj : j < 127) (n1 : j ≠ 102) (n2 : j ≠ 108) (n3 : j ≠ 111) (n4 : j ≠ 112) (n5 : j ≠ 114) (n6 : j ≠ 119) : ax_sw 102 119 ts e (nI j).toInt = e := by
  rcases H ⟨j, hj⟩ with h | h
  · have h : j = 102 ∨ j = 108 ∨ j = 111 ∨ j = 112 ∨ j = 114 ∨ j = 119 := h
    omega
  · exact h
/-- one of the six letters, or none of them -/
theorem ps_letter {c : Int32} (h : 32 ≤ c ∧ c ≤ 126) : c = 112 ∨ c = 119 ∨ c = 108 ∨ c = 102 ∨ c = 114 ∨ c = 111 ∨ (ps_many c = 0 ∧ ∃ j, j < 127 ∧ c = nI j ∧ j ≠ 102 ∧ j ≠ 108 ∧ j ≠ 111 ∧ j ≠ 112 ∧ j ≠ 114 ∧ j ≠ 119) := by
  by_cases h1 : c = 112
  · exact Or.inl h1
  by_cases h2 : c = 119
  · exact Or.inr (Or.inl h2)
  by_cases h3 : c = 108
  · exact Or.inr (Or.inr (Or.inl h3))
  by_cases h4 : c = 102
  · exact Or.inr (Or.inr (Or.inr (Or.inl h4)))
  by_cases h5 : c = 114
  · exact Or.inr (Or.inr (Or.inr (Or.inr (Or.inl h5))))
  by_cases h6 : c = 111
  · exact Or.inr (Or.inr (Or.inr (Or.inr (Or.inr (Or.inl h6)))))
  refine Or.inr (Or.inr (Or.inr (Or.inr (Or.inr (Or.inr ⟨?_, ?_⟩)))))
  · unfold ps_many
    rw [if_neg h1, if_neg h2, if_neg h3, if_neg h4, if_neg h5, if_neg h6]
  · have a := i_bt (p := 32) (q := 126) h (by decide) (by decide)
    obtain ⟨j, e, hj, -⟩ := i_nn (x := c) (by omega)
    refine ⟨j, by omega, e, fun q => h4 (by rw [e, q]; rfl), fun q => h3 (by rw [e, q]; rfl), fun q => h6 (by rw [e, q]; rfl), fun q => h1 (by rw [e, q]; rfl), fun q => h5 (by rw [e, q]; rfl), fun q => h2 (by rw [e, q]; rfl)⟩
theorem c_numbersOf (h : ax_H) {c : Int32} (hc : 32 ≤ c ∧ c ≤ 126) : ax_cal E (d + 1) n_X9_numbersOf [.int c] h = some (some (.int (nI (ps_many c))), h) := by
  refine ax_of (t := t_X9_numbersOf) (ls := [.int c]) rfl ⟨rfl, Nat.le_of_ble_eq_true rfl⟩ rfl ?_
  iterate 2 refine bs rfl ?_
  rcases ps_letter hc with rfl | rfl | rfl | rfl | rfl | rfl | ⟨h0, j, hj, rfl, n1, n2, n3, n4, n5, n6⟩
  · show AW E _ _ (88, _, _, _) _
    repeat refine bs rfl ?_
    exact br rfl ⟨rfl, rfl⟩
  · show AW E _ _ (90, _, _, _) _
    repeat refine bs rfl ?_
    exact br rfl ⟨rfl, rfl⟩
  · show AW E _ _ (90, _, _, _) _
    repeat refine bs rfl ?_
    exact br rfl ⟨rfl, rfl⟩
  · show AW E _ _ (92, _, _, _) _
    repeat refine bs rfl ?_
    exact br rfl ⟨rfl, rfl⟩
  · show AW E _ _ (94, _, _, _) _
    repeat refine bs rfl ?_
    exact br rfl ⟨rfl, rfl⟩
  · show AW E _ _ (94, _, _, _) _
    repeat refine bs rfl ?_
    exact br rfl ⟨rfl, rfl⟩
  · rw [ps_sw ps_sw1 hj n1 n2 n3 n4 n5 n6, h0]
    repeat refine bs rfl ?_
    exact br rfl ⟨rfl, rfl⟩
theorem i_fig {tx : Nat → Int32} {nt k : Nat} (h : ps_fg tx nt k = true) : ¬ tx k - 48 = -4 := by
  have h := of_decide_eq_true h
  have a := i_bt (p := 48) (q := 57) h.2 (by decide) (by decide)
  intro q
  have q := i_eq.mp q
  rw [i_sub (by have e : (48 : Int32).toInt = 48 := by decide
                omega) (by have e : (48 : Int32).toInt = 48 := by decide
                           omega), show (48 : Int32).toInt = 48 from by decide, show (-4 : Int32).toInt = -4 from by decide] at q
  omega
/-- what readNumbers leaves behind -/
def ps_Q (tl : List (Nat × Nat)) (rtl : List (List (Option Nat))) (J : Nat → Nat → Int32) (many : Nat) (e : Option (Nat × (Nat → Int32))) (r : Option Value) (g : ax_H) : Prop := ∃ G, g = ax_hC tl rtl G ∧ (∀ q, q ≠ 4 → G q = J q) ∧ match e with
  | none => r = some (.int (-4))
  | some x => r = some (.int (nI x.1)) ∧ ∀ i, i < many → G 4 i = x.2 i
theorem c_readNumbers (ht : RTc J nt tx) {p many : Nat} (hp : p ≤ nt) (h1 : 1 ≤ many) (h4 : many ≤ 4) : ∃ r g, ax_cal E (d + 3) n_X9_readNumbers [.ref 3, .ref 1, .int (nI p), .int (nI many)] (ax_hC tl rtl J) = some (r, g) ∧ ps_Q tl rtl J many (ps_nums tx nt many 0 p (fun _ => 0)) r g := by
  have h200 := ht.1
  refine ax_ofQ (t := t_X9_readNumbers) (ls := [.ref 3, .ref 1, .int (nI p), .int (nI many), .float 0, .float 0, .float 0, .float 0]) rfl ⟨rfl, Nat.le_of_ble_eq_true rfl⟩ rfl ?_
  have loop : ∀ (l k p' : Nat), k + l = many → p' ≤ nt → ∀ (x6 x7 : Value) (G : Nat → Nat → Int32) (a : Nat → Int32), (∀ q, q ≠ 4 → G q = J q) → (∀ i, i < k → G 4 i = a i) → AW E (ax_cal E (d + 2)) t_X9_readNumbers (22, [.ref 3, .ref 1, .int (nI p), .int (nI many), .int (nI p'), .int (nI k), x6, x7], [.int (nI many), .int (nI k)], ax_hC tl rtl G) (ps_Q tl rtl J many (ps_nums tx nt l k p' a)) := by
    intro l
    induction l with
    | zero =>
      intro k p' hk hp' x6 x7 G a k1 k2
      refine bt rfl (nI_le (by omega) (by omega)) ?_
      repeat refine bs rfl ?_
      exact br rfl ⟨G, rfl, k1, rfl, fun i hi => k2 i (by omega)⟩
    | succ l ih =>
      intro k p' hk hp' x6 x7 G a k1 k2
      have hG : RTc G nt tx := RTc_of (fun q hq => k1 q (by omega)) ht
      have hf1 := c_figureAt (E := E) (d := d) (tl := tl) (rtl := rtl) hG (k := p') (by omega)
      have hf2 := c_figureAt (E := E) (d := d) (tl := tl) (rtl := rtl) hG (k := p' + 1) (by omega)
      rw [nI_succ] at hf2
      refine bf rfl (nI_ge (by omega) (by omega)) ?_
      rw [ps_nums]
      by_cases c1 : ps_fg tx nt p' = true
      · rw [if_pos c1] at hf1
        have hl : k + 1 = many ↔ l = 0 := by omega
        -- behind the number: the sign that ends it
        have tail : ∀ (q : Nat) (x7 : Int32) (G' : Nat → Nat → Int32), q = ps_nx tx nt p' → q ≤ nt + 2 → (∀ q, q ≠ 4 → G' q = J q) → (∀ i, i < k + 1 → G' 4 i = upd a k (ps_vl tx nt p') i) → AW E (ax_cal E (d + 2)) t_X9_readNumbers (91, [.ref 3, .ref 1, .int (nI p), .int (nI many), .int (nI q), .int (nI k), .int (tx p' - 48), .int x7], [], ax_hC tl rtl G') (ps_Q tl rtl J many (if ps_fg tx nt p' = true ∧ ps_is tx nt (ps_nx tx nt p') (if l = 0 then 59 else 44) = true then ps_nums tx nt l (k + 1) (ps_nx tx nt p' + 1) (upd a k (ps_vl tx nt p')) else none)) := by
          intro q x7 G' hq hqn m1 m2
          have hG' : RTc G' nt tx := RTc_of (fun q hq => m1 q (by omega)) ht
          have ih := ih (k + 1) (q + 1) (by omega)
          rw [nI_succ, nI_succ] at ih
          rw [← hq]
          have e59 : ¬ (0 : Int32) = 59 := by decide
          have e44 : ¬ (0 : Int32) = 44 := by decide
          repeat refine bs rfl ?_
          refine bc rfl (c_signAt hG' (k := q) (by omega)) ?_
          repeat refine bs rfl ?_
          by_cases cl : l = 0
          · have hmk : nI k = nI many - 1 := by rw [show many = k + 1 by omega, nI_pred]
            refine bt rfl hmk ?_
            repeat refine bs rfl ?_
            rw [if_pos cl] at *
            by_cases cs : ps_is tx nt q 59 = true
            · have cs' := of_decide_eq_true cs
              rw [if_pos cs'.1, if_pos ⟨c1, cs⟩]
              refine bt rfl cs'.2 ?_
              repeat refine bs rfl ?_
              exact ih (by omega) _ _ G' _ m1 m2
            · rw [if_neg (show ¬ (ps_fg tx nt p' = true ∧ ps_is tx nt q 59 = true) from fun h => cs h.2)]
              refine bf rfl (fun h => ?_) ?_
              · by_cases cq : q < nt
                · rw [if_pos cq] at h
                  exact cs (decide_eq_true ⟨cq, h⟩)
                · rw [if_neg cq] at h
                  exact e59 h
              · repeat refine bs rfl ?_
                exact br rfl ⟨G', rfl, m1, rfl⟩
          · have hmk : ¬ nI k = nI many - 1 := by
              rw [show many = (many - 1) + 1 by omega, nI_pred, nI_eq (by omega) (by omega)]
              omega
            refine bf rfl hmk ?_
            repeat refine bs rfl ?_
            rw [if_neg cl] at *
            by_cases cs : ps_is tx nt q 44 = true
            · have cs' := of_decide_eq_true cs
              rw [if_pos cs'.1, if_pos ⟨c1, cs⟩]
              refine bt rfl cs'.2 ?_
              repeat refine bs rfl ?_
              exact ih (by omega) _ _ G' _ m1 m2
            · rw [if_neg (show ¬ (ps_fg tx nt p' = true ∧ ps_is tx nt q 44 = true) from fun h => cs h.2)]
              refine bf rfl (fun h => ?_) ?_
              · by_cases cq : q < nt
                · rw [if_pos cq] at h
                  exact cs (decide_eq_true ⟨cq, h⟩)
                · rw [if_neg cq] at h
                  exact e44 h
              · repeat refine bs rfl ?_
                exact br rfl ⟨G', rfl, m1, rfl⟩
        repeat refine bs rfl ?_
        refine bc rfl hf1 ?_
        repeat refine bs rfl ?_
        refine bf rfl (i_fig c1) ?_
        repeat refine bs rfl ?_
        refine bc rfl hf2 ?_
        by_cases c2 : ps_fg tx nt (p' + 1) = true
        · rw [if_pos c2]
          have hvl : ps_vl tx nt p' = 10 * (tx p' - 48) + (tx (p' + 1) - 48) := if_pos c2
          have hnx : ps_nx tx nt p' = p' + 2 := if_pos c2
          repeat refine bs rfl ?_
          refine bf rfl (i_fig c2) ?_
          repeat refine bs rfl ?_
          refine bsto rfl k rfl (by omega) (by omega) ?_
          refine bs rfl ?_
          have t0 := tail (p' + 2) (tx (p' + 1) - 48) (va_up G 4 (upd (G 4) k (10 * (tx p' - 48) + (tx (p' + 1) - 48)))) hnx.symm (by omega) (fun q hq => by rw [va_up_ne _ _ hq, k1 q hq]) (by
            intro i hi
            show upd (G 4) k _ i = _
            rw [hvl]
            by_cases e : i = k
            · rw [e, pk_us, pk_us]
            · rw [pk_un e, pk_un e]
              exact k2 i (by omega))
          rw [show nI (p' + 2) = nI p' + 1 + 1 by rw [show p' + 2 = (p' + 1) + 1 by omega, nI_succ, nI_succ]] at t0
          exact t0
        · rw [if_neg c2]
          have hvl : ps_vl tx nt p' = tx p' - 48 := if_neg c2
          have hnx : ps_nx tx nt p' = p' + 1 := if_neg c2
          repeat refine bs rfl ?_
          refine bsto rfl k rfl (by omega) (by omega) ?_
          refine bs rfl ?_
          have t0 := tail (p' + 1) (-4) (va_up G 4 (upd (G 4) k (tx p' - 48))) hnx.symm (by omega) (fun q hq => by rw [va_up_ne _ _ hq, k1 q hq]) (by
            intro i hi
            show upd (G 4) k _ i = _
            rw [hvl]
            by_cases e : i = k
            · rw [e, pk_us, pk_us]
            · rw [pk_un e, pk_un e]
              exact k2 i (by omega))
          rw [nI_succ] at t0
          exact t0
      · rw [if_neg c1] at hf1
        rw [if_neg (fun h => c1 h.1)]
        repeat refine bs rfl ?_
        refine bc rfl hf1 ?_
        repeat refine bs rfl ?_
        exact br rfl ⟨G, rfl, k1, rfl⟩
  have l0 := loop many 0 p (Nat.zero_add _) hp (.float 0) (.float 0) J (fun _ => 0) (fun _ _ => rfl) (fun i hi => absurd hi (by omega))
  repeat refine bs rfl ?_
  refine bf rfl (nI_nlt (b := 1) (by omega) (by omega)) ?_
  repeat refine bs rfl ?_
  refine bt rfl (nI_le (b := 4) (by omega) (by omega)) ?_
  repeat refine bs rfl ?_
  exact l0
end PC
