/-! contracts of the class: a text is read into the shop at 49 -/
section RD49
variable {E : ax_E} {d : Nat} {tl : List (Nat × Nat)} {rtl : List (List (Option Nat))} {J : Nat → Nat → Int32} {N : Nat → Nat} {V : Nat → Nat → Int32} {nt : Nat} {tx : Nat → Int32}
theorem c_clear49 : ∃ G, ax_cal E (d + 2) n_X3_clear [.ref 49] (ax_hC tl rtl J) = some (none, ax_hC tl rtl G) ∧ (∀ q, q < 49 ∨ 67 < q → G q = J q) ∧ RC 49 G (fun _ => 0) (fun _ _ => 0) := by
  suffices H : ∃ r g, ax_cal E (d + 2) n_X3_clear [.ref 49] (ax_hC tl rtl J) = some (r, g) ∧ (r = none ∧ ∃ G, g = ax_hC tl rtl G ∧ (∀ q, q < 49 ∨ 67 < q → G q = J q) ∧ RC 49 G (fun _ => 0) (fun _ _ => 0)) by
    obtain ⟨r, g, e, rfl, G, rfl, h⟩ := H
    exact ⟨G, e, h⟩
  have h1 : ∀ J : Nat → Nat → Int32, ax_cal E (d + 1) n_X7_clear [.ref 50] (ax_hC tl rtl J) = some (none, ax_hC tl rtl (va_up (va_up (va_up J 50 (upd (J 50) 8 0)) 50 (upd (upd (J 50) 8 0) 9 0)) 54 (upd (J 54) 4 0))) := by
    intro J
    refine ax_of (t := t_X7_clear) (ls := [.ref 50]) rfl ⟨rfl, Nat.le_of_ble_eq_true rfl⟩ rfl ?_
    repeat refine bs rfl ?_
    exact br rfl ⟨rfl, rfl⟩
  have h2 : ∀ J : Nat → Nat → Int32, ax_cal E (d + 1) n_X6_clear [.ref 63] (ax_hC tl rtl J) = some (none, ax_hC tl rtl (va_up (va_up (va_up J 63 (upd (J 63) 4 0)) 63 (upd (upd (J 63) 4 0) 5 0)) 63 (upd (upd (upd (J 63) 4 0) 5 0) 6 0))) := by
    intro J
    refine ax_of (t := t_X6_clear) (ls := [.ref 63]) rfl ⟨rfl, Nat.le_of_ble_eq_true rfl⟩ rfl ?_
    repeat refine bs rfl ?_
    exact br rfl ⟨rfl, rfl⟩
  refine ax_ofQ (t := t_X3_clear) (ls := [.ref 49]) rfl ⟨rfl, Nat.le_of_ble_eq_true rfl⟩ rfl ?_
  repeat refine bs rfl ?_
  refine bc rfl (h1 _) ?_
  repeat refine bs rfl ?_
  refine bc rfl (h2 _) ?_
  repeat refine bs rfl ?_
  refine br rfl ⟨rfl, _, rfl, fun q hq => ?_, ?_⟩
  · rw [va_up_ne _ _ (by omega), va_up_ne _ _ (by omega), va_up_ne _ _ (by omega), va_up_ne _ _ (by omega), va_up_ne _ _ (by omega), va_up_ne _ _ (by omega)]
  · exact ⟨rfl, fun i hi => absurd hi (Nat.not_lt_zero _), rfl, fun i hi => absurd hi (Nat.not_lt_zero _), rfl, fun i hi => absurd hi (Nat.not_lt_zero _), rfl, fun i hi => absurd hi (Nat.not_lt_zero _), rfl, fun i hi => absurd hi (Nat.not_lt_zero _), rfl, fun i hi => absurd hi (Nat.not_lt_zero _)⟩
theorem c_addItem49 (hok : sp_Ok N V) (hr : RC 49 J N V) {c : Int32} (hc : 32 ≤ c ∧ c ≤ 126) (h0 : ps_many c ≠ 0) {a : Nat → Int32} (ha : ∀ i, i < ps_many c → J 4 i = a i) : ∃ G, ax_cal E (d + 3) n_X9_addItem [.ref 3, .ref 49, .int c] (ax_hC tl rtl J) = some (some (.int (if (ps_add c N V a).isSome = true then 1 else 0)), ax_hC tl rtl G) ∧ (∀ q, q < 49 ∨ 67 < q → G q = J q) ∧ (∀ q, ps_add c N V a = some q → RC 49 G q.1 q.2) := by
  suffices H : ∃ r g, ax_cal E (d + 3) n_X9_addItem [.ref 3, .ref 49, .int c] (ax_hC tl rtl J) = some (r, g) ∧ (r = some (.int (if (ps_add c N V a).isSome = true then 1 else 0)) ∧ ∃ G, g = ax_hC tl rtl G ∧ (∀ q, q < 49 ∨ 67 < q → G q = J q) ∧ (∀ q, ps_add c N V a = some q → RC 49 G q.1 q.2)) by
    obtain ⟨r, g, e, rfl, G, rfl, h⟩ := H
    exact ⟨G, e, h⟩
  refine ax_ofQ (t := t_X9_addItem) (ls := [.ref 3, .ref 49, .int c, .float 0, .float 0]) rfl ⟨rfl, Nat.le_of_ble_eq_true rfl⟩ rfl ?_
  iterate 8 refine bs rfl ?_
  rcases ps_letter hc with rfl | rfl | rfl | rfl | rfl | rfl | ⟨h0', -⟩
  · have ea : ps_add 112 N V a = if ps_okp N a = true then some (ps_N N 0, ps_V4 V 0 (N 0) (a 0) (a 1) (a 2) (a 3)) else none := if_pos rfl
    have e0 : J 4 0 = a 0 := ha 0 (by decide)
    have e1 : J 4 1 = a 1 := ha 1 (by decide)
    have e2 : J 4 2 = a 2 := ha 2 (by decide)
    have e3 : J 4 3 = a 3 := ha 3 (by decide)
    obtain ⟨G, g1, g2, g3⟩ := c_addPerson49 (E := E) (d := d) (tl := tl) (rtl := rtl) hok hr (J 4)
    have eo : ps_okp N (J 4) = ps_okp N a := by unfold ps_okp; rw [e0, e1, e2, e3]
    rw [eo] at g1 g3
    rw [e0, e1, e2, e3] at g3
    rw [ea]
    show AW E _ _ (100, _, _, _) _
    repeat refine bs rfl ?_
    refine bc rfl g1 ?_
    by_cases hy : ps_okp N a = true
    · rw [if_pos hy, if_pos hy]
      repeat refine bs rfl ?_
      exact br rfl ⟨rfl, G, rfl, g2, fun q hq => by cases hq; exact g3 hy⟩
    · rw [if_neg hy, if_neg hy]
      repeat refine bs rfl ?_
      exact br rfl ⟨rfl, G, rfl, g2, fun q hq => by cases hq⟩
  · have ea : ps_add 119 N V a = if ps_okh (N 1) 9 N a = true then some (ps_N N 1, ps_V3 V 4 (N 1) (a 0) (a 1) (a 2)) else none := (if_neg (by decide)).trans (if_pos rfl)
    have e0 : J 4 0 = a 0 := ha 0 (by decide)
    have e1 : J 4 1 = a 1 := ha 1 (by decide)
    have e2 : J 4 2 = a 2 := ha 2 (by decide)
    have eo : ps_okh (N 1) 9 N (J 4) = ps_okh (N 1) 9 N a := by unfold ps_okh; rw [e0, e1, e2]
    rw [ea, ← eo, ← e0, ← e1, ← e2]
    have no : ¬ ps_okh (N 1) 9 N (J 4) = true → AW E (ax_cal E (d + 2)) t_X9_addItem (198, [.ref 3, .ref 49, .int 119, .ref 50, .ref 63], [], ax_hC tl rtl J) (fun r g => r = some (.int (if (if ps_okh (N 1) 9 N (J 4) = true then some (ps_N N 1, ps_V3 V 4 (N 1) (J 4 0) (J 4 1) (J 4 2)) else none).isSome = true then 1 else 0)) ∧ ∃ G, g = ax_hC tl rtl G ∧ (∀ q, q < 49 ∨ 67 < q → G q = J q) ∧ (∀ q, (if ps_okh (N 1) 9 N (J 4) = true then some (ps_N N 1, ps_V3 V 4 (N 1) (J 4 0) (J 4 1) (J 4 2)) else none) = some q → RC 49 G q.1 q.2)) := by
      intro hno
      rw [if_neg hno]
      repeat refine bs rfl ?_
      exact br rfl ⟨rfl, J, rfl, fun _ _ => rfl, fun q hq => by cases hq⟩
    show AW E _ _ (129, _, _, _) _
    repeat refine bs rfl ?_
    refine bc rfl (c_hasPerson49 hok hr (J 4 0)) ?_
    repeat refine bs rfl ?_
    refine bz rfl (fun p => no (fun q => p (of_decide_eq_true q).2.1)) (fun k1 => ?_)
    repeat refine bs rfl ?_
    refine bc rfl (c_isHour _ (J 4 1)) ?_
    repeat refine bs rfl ?_
    refine bz rfl (fun p => no (fun q => p (of_decide_eq_true q).2.2.1)) (fun k2 => ?_)
    repeat refine bs rfl ?_
    refine bc rfl (c_isCell _ (J 4 2)) ?_
    repeat refine bs rfl ?_
    refine bz rfl (fun p => no (fun q => p (of_decide_eq_true q).2.2.2)) (fun k3 => ?_)
    repeat refine bs rfl ?_
    by_cases k0 : N 1 < 9
    · obtain ⟨G, g1, g2, g3⟩ := c_addWalk49 (E := E) (d := d + 1) (tl := tl) (rtl := rtl) hr k0 (J 4)
      refine bc rfl g1 ?_
      rw [if_pos (show ps_okh (N 1) 9 N (J 4) = true from decide_eq_true ⟨k0, k1, k2, k3⟩)]
      repeat refine bs rfl ?_
      exact br rfl ⟨rfl, G, rfl, g2, fun q hq => by cases hq; exact g3⟩
    · refine bc rfl (c_addWalkF49 hr k0 hok.2.1 _ _ _) ?_
      refine bs rfl ?_
      exact no (fun q => k0 (of_decide_eq_true q).1)
  · have ea : ps_add 108 N V a = if ps_okh (N 2) 6 N a = true then some (ps_N N 2, ps_V3 V 7 (N 2) (a 0) (a 1) (a 2)) else none := (if_neg (by decide)).trans ((if_neg (by decide)).trans (if_pos rfl))
    have e0 : J 4 0 = a 0 := ha 0 (by decide)
    have e1 : J 4 1 = a 1 := ha 1 (by decide)
    have e2 : J 4 2 = a 2 := ha 2 (by decide)
    obtain ⟨G, g1, g2, g3⟩ := c_addLaw49 (E := E) (d := d) (tl := tl) (rtl := rtl) hok hr (J 4)
    have eo : ps_okh (N 2) 6 N (J 4) = ps_okh (N 2) 6 N a := by unfold ps_okh; rw [e0, e1, e2]
    rw [eo] at g1 g3
    rw [e0, e1, e2] at g3
    rw [ea]
    show AW E _ _ (200, _, _, _) _
    repeat refine bs rfl ?_
    refine bc rfl g1 ?_
    by_cases hy : ps_okh (N 2) 6 N a = true
    · rw [if_pos hy, if_pos hy]
      repeat refine bs rfl ?_
      exact br rfl ⟨rfl, G, rfl, g2, fun q hq => by cases hq; exact g3 hy⟩
    · rw [if_neg hy, if_neg hy]
      repeat refine bs rfl ?_
      exact br rfl ⟨rfl, G, rfl, g2, fun q hq => by cases hq⟩
  · have ea : ps_add 102 N V a = if ps_okf N a = true then some (ps_N N 5, ps_V2 V 12 (N 5) (a 0) (a 1)) else none := (if_neg (by decide)).trans ((if_neg (by decide)).trans ((if_neg (by decide)).trans (if_pos rfl)))
    have e0 : J 4 0 = a 0 := ha 0 (by decide)
    have e1 : J 4 1 = a 1 := ha 1 (by decide)
    obtain ⟨G, g1, g2, g3⟩ := c_addFitting49 (E := E) (d := d) (tl := tl) (rtl := rtl) hok hr (J 4)
    have eo : ps_okf N (J 4) = ps_okf N a := by unfold ps_okf; rw [e0, e1]
    rw [eo] at g1 g3
    rw [e0, e1] at g3
    rw [ea]
    show AW E _ _ (247, _, _, _) _
    repeat refine bs rfl ?_
    refine bc rfl g1 ?_
    by_cases hy : ps_okf N a = true
    · rw [if_pos hy, if_pos hy]
      repeat refine bs rfl ?_
      exact br rfl ⟨rfl, G, rfl, g2, fun q hq => by cases hq; exact g3 hy⟩
    · rw [if_neg hy, if_neg hy]
      repeat refine bs rfl ?_
      exact br rfl ⟨rfl, G, rfl, g2, fun q hq => by cases hq⟩
  · have ea : ps_add 114 N V a = if ps_ok1 (N 3) 7 40 a = true then some (ps_N N 3, ps_V1 V 10 (N 3) (a 0)) else none := (if_neg (by decide)).trans ((if_neg (by decide)).trans ((if_neg (by decide)).trans ((if_neg (by decide)).trans (if_pos rfl))))
    have e0 : J 4 0 = a 0 := ha 0 (by decide)
    obtain ⟨G, g1, g2, g3⟩ := c_addRemnant49 (E := E) (d := d) (tl := tl) (rtl := rtl) hok hr (J 4)
    have eo : ps_ok1 (N 3) 7 40 (J 4) = ps_ok1 (N 3) 7 40 a := by unfold ps_ok1; rw [e0]
    rw [eo] at g1 g3
    rw [e0] at g3
    rw [ea]
    show AW E _ _ (223, _, _, _) _
    repeat refine bs rfl ?_
    refine bc rfl g1 ?_
    by_cases hy : ps_ok1 (N 3) 7 40 a = true
    · rw [if_pos hy, if_pos hy]
      repeat refine bs rfl ?_
      exact br rfl ⟨rfl, G, rfl, g2, fun q hq => by cases hq; exact g3 hy⟩
    · rw [if_neg hy, if_neg hy]
      repeat refine bs rfl ?_
      exact br rfl ⟨rfl, G, rfl, g2, fun q hq => by cases hq⟩
  · have ea : ps_add 111 N V a = if ps_ok1 (N 4) 3 60 a = true then some (ps_N N 4, ps_V1 V 11 (N 4) (a 0)) else none := (if_neg (by decide)).trans ((if_neg (by decide)).trans ((if_neg (by decide)).trans ((if_neg (by decide)).trans ((if_neg (by decide)).trans (if_pos rfl)))))
    have e0 : J 4 0 = a 0 := ha 0 (by decide)
    obtain ⟨G, g1, g2, g3⟩ := c_addOrder49 (E := E) (d := d) (tl := tl) (rtl := rtl) hok hr (J 4)
    have eo : ps_ok1 (N 4) 3 60 (J 4) = ps_ok1 (N 4) 3 60 a := by unfold ps_ok1; rw [e0]
    rw [eo] at g1 g3
    rw [e0] at g3
    rw [ea]
    show AW E _ _ (235, _, _, _) _
    repeat refine bs rfl ?_
    refine bc rfl g1 ?_
    by_cases hy : ps_ok1 (N 4) 3 60 a = true
    · rw [if_pos hy, if_pos hy]
      repeat refine bs rfl ?_
      exact br rfl ⟨rfl, G, rfl, g2, fun q hq => by cases hq; exact g3 hy⟩
    · rw [if_neg hy, if_neg hy]
      repeat refine bs rfl ?_
      exact br rfl ⟨rfl, G, rfl, g2, fun q hq => by cases hq⟩
  · exact absurd h0' h0
/-- what a reading leaves behind -/
def ps_R49 (tl : List (Nat × Nat)) (rtl : List (List (Option Nat))) (J : Nat → Nat → Int32) (F : Option Nat × (Nat → Nat) × (Nat → Nat → Int32)) (r : Option Value) (g : ax_H) : Prop := r = some (.int (ps_ans F.1)) ∧ ∃ G, g = ax_hC tl rtl G ∧ (∀ q, q ≠ 4 → (q < 49 ∨ 67 < q) → G q = J q) ∧ (F.1 = none → RC 49 G F.2.1 F.2.2 ∧ sp_Ok F.2.1 F.2.2)
theorem c_readInto49 (ht : RTc J nt tx) : ∃ r g, ax_cal E (d + 4) n_X9_readInto [.ref 3, .ref 1, .ref 49] (ax_hC tl rtl J) = some (r, g) ∧ ps_R49 tl rtl J (ps_all tx nt) r g := by
  have h200 := ht.1
  refine ax_ofQ (t := t_X9_readInto) (ls := [.ref 3, .ref 1, .ref 49, .float 0, .float 0, .float 0, .float 0]) rfl ⟨rfl, Nat.le_of_ble_eq_true rfl⟩ rfl ?_
  have loop : ∀ (j p n : Nat), nt ≤ p + j → n ≤ p → p ≤ nt → ∀ (x5 x6 : Value) (G : Nat → Nat → Int32) (N : Nat → Nat) (V : Nat → Nat → Int32), (∀ q, q ≠ 4 → (q < 49 ∨ 67 < q) → G q = J q) → RC 49 G N V → sp_Ok N V → AW E (ax_cal E (d + 3)) t_X9_readInto (14, [.ref 3, .ref 1, .ref 49, .int (nI p), .int (nI n), x5, x6], [.int 200, .int (nI n)], ax_hC tl rtl G) (ps_R49 tl rtl J (ps_run tx nt j p N V)) := by
    intro j
    induction j with
    | zero =>
      intro p n h1 h2 h3 x5 x6 G N V k1 hr hok
      have hG : RTc G nt tx := RTc_of (fun q hq => k1 q (by omega) (by omega)) ht
      by_cases c : n < 200
      · refine bf rfl (nI_ge (b := 200) c (by omega)) ?_
        repeat refine bs rfl ?_
        refine bt rfl (by rw [hG.2.1]; exact nI_le (by omega) (by omega)) ?_
        repeat refine bs rfl ?_
        exact br rfl ⟨rfl, G, rfl, k1, fun _ => ⟨hr, hok⟩⟩
      · refine bt rfl (nI_le (a := 200) (by omega) (by omega)) ?_
        repeat refine bs rfl ?_
        exact br rfl ⟨rfl, G, rfl, k1, fun _ => ⟨hr, hok⟩⟩
    | succ j ih =>
      intro p n h1 h2 h3 x5 x6 G N V k1 hr hok
      have hG : RTc G nt tx := RTc_of (fun q hq => k1 q (by omega) (by omega)) ht
      rw [ps_run]
      by_cases c : p < nt
      · have hrg := ps_rg hG c
        rw [if_pos c]
        refine bf rfl (nI_ge (b := 200) (by omega) (by omega)) ?_
        repeat refine bs rfl ?_
        refine bf rfl (by rw [hG.2.1]; exact nI_ge c (by omega)) ?_
        repeat refine bs rfl ?_
        refine bc rfl (c_signAt hG (by omega)) ?_
        rw [if_pos c]
        repeat refine bs rfl ?_
        refine bc rfl (c_numbersOf _ hrg) ?_
        repeat refine bs rfl ?_
        have hdone : ∀ (x6 : Value) (G' : Nat → Nat → Int32), (∀ q, q ≠ 4 → (q < 49 ∨ 67 < q) → G' q = J q) → AW E (ax_cal E (d + 3)) t_X9_readInto (64, [.ref 3, .ref 1, .ref 49, .int (nI p), .int (nI n), .int (tx p), x6], [], ax_hC tl rtl G') (ps_R49 tl rtl J (some p, N, V)) := by
          intro x6 G' m1
          repeat refine bs rfl ?_
          exact br rfl ⟨rfl, G', rfl, m1, fun h => by cases h⟩
        by_cases h0 : ps_many (tx p) = 0
        · have hi : ps_item tx nt p N V = none := by
            unfold ps_item
            rw [h0, ps_nums]
            show (match ps_add (tx p) N V (fun _ => 0) with
              | none => none
              | some q => some (p + 1, q)) = none
            rw [ps_add_0 h0]
          rw [hi, h0]
          refine bc rfl (c_readNumbers0 (nI p + 1)) ?_
          iterate 4 refine bs rfl ?_
          exact hdone _ G k1
        · have h4 : ps_many (tx p) ≤ 4 := by
            unfold ps_many
            repeat' split
            all_goals omega
          obtain ⟨r, g, e1, G', rfl, m1, m2⟩ := c_readNumbers (E := E) (d := d) (tl := tl) (rtl := rtl) hG (p := p + 1) (many := ps_many (tx p)) (by omega) (by omega) h4
          rw [nI_succ] at e1
          refine bc rfl e1 ?_
          have hG1 : ∀ q, q ≠ 4 → (q < 49 ∨ 67 < q) → G' q = J q := fun q q1 q2 => (m1 q q1).trans (k1 q q1 q2)
          have hr' : RC 49 G' N V := by
            unfold RC at hr ⊢
            rw [m1 (49 + 1) (by decide), m1 (49 + 2) (by decide), m1 (49 + 3) (by decide), m1 (49 + 4) (by decide), m1 (49 + 5) (by decide), m1 (49 + 6) (by decide), m1 (49 + 7) (by decide), m1 (49 + 8) (by decide), m1 (49 + 9) (by decide), m1 (49 + 10) (by decide), m1 (49 + 11) (by decide), m1 (49 + 12) (by decide), m1 (49 + 14) (by decide), m1 (49 + 15) (by decide), m1 (49 + 16) (by decide), m1 (49 + 17) (by decide), m1 (49 + 18) (by decide)]
            exact hr
          cases hn : ps_nums tx nt (ps_many (tx p)) 0 (p + 1) (fun _ => 0) with
          | none =>
            rw [hn] at m2
            have m2 : r = some (.int (-4)) := m2
            subst m2
            have hi : ps_item tx nt p N V = none := by unfold ps_item; rw [hn]
            rw [hi]
            iterate 4 refine bs rfl ?_
            exact hdone _ G' hG1
          | some e =>
            rw [hn] at m2
            obtain ⟨m2, m3⟩ : r = some (.int (nI e.1)) ∧ ∀ i, i < ps_many (tx p) → G' 4 i = e.2 i := m2
            subst m2
            have hle := ps_nums_le hn (by omega)
            repeat refine bs rfl ?_
            refine bf rfl (nI_m4 (by omega)) ?_
            obtain ⟨G2, g1, g2, g3⟩ := c_addItem49 (E := E) (d := d) (tl := tl) (rtl := rtl) hok hr' hrg h0 m3
            have hG2 : ∀ q, q ≠ 4 → (q < 49 ∨ 67 < q) → G2 q = J q := fun q q1 q2 => (g2 q q2).trans (hG1 q q1 q2)
            repeat refine bs rfl ?_
            refine bc rfl g1 ?_
            cases ha : ps_add (tx p) N V e.2 with
            | none =>
              have hi : ps_item tx nt p N V = none := by
                unfold ps_item
                rw [hn]
                show (match ps_add (tx p) N V e.2 with
                  | none => none
                  | some q => some (e.1, q)) = none
                rw [ha]
              rw [hi]
              refine bs rfl ?_
              exact hdone _ G2 hG2
            | some q =>
              have hi : ps_item tx nt p N V = some (e.1, q) := by
                unfold ps_item
                rw [hn]
                show (match ps_add (tx p) N V e.2 with
                  | none => none
                  | some q => some (e.1, q)) = some (e.1, q)
                rw [ha]
              rw [hi]
              have ih := ih e.1 (n + 1) (by omega) (by omega) (by omega) (.int (tx p)) (.int (nI e.1)) G2 q.1 q.2 hG2 (g3 q ha) (ps_add_ok hok ha)
              rw [nI_succ] at ih
              repeat refine bs rfl ?_
              exact ih
      · rw [if_neg c]
        by_cases c2 : n < 200
        · refine bf rfl (nI_ge (b := 200) c2 (by omega)) ?_
          repeat refine bs rfl ?_
          refine bt rfl (by rw [hG.2.1]; exact nI_le (by omega) (by omega)) ?_
          repeat refine bs rfl ?_
          exact br rfl ⟨rfl, G, rfl, k1, fun _ => ⟨hr, hok⟩⟩
        · refine bt rfl (nI_le (a := 200) (by omega) (by omega)) ?_
          repeat refine bs rfl ?_
          exact br rfl ⟨rfl, G, rfl, k1, fun _ => ⟨hr, hok⟩⟩
  obtain ⟨G, g1, g2, g3⟩ := c_clear49 (E := E) (d := d + 1) (tl := tl) (rtl := rtl) (J := J)
  have l0 := loop nt 0 0 (by omega) (by omega) (by omega) (.float 0) (.float 0) G (fun _ => 0) (fun _ _ => 0) (fun q _ hq => g2 q hq) g3 sp_Ok0
  repeat refine bs rfl ?_
  refine bc rfl g1 ?_
  iterate 6 refine bs rfl ?_
  exact l0
end RD49
