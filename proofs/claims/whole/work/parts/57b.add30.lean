/-! contracts of the class: the items of the shop at 30 -/
section AD30
variable {E : ax_E} {d : Nat} {tl : List (Nat × Nat)} {rtl : List (List (Option Nat))} {J : Nat → Nat → Int32} {N : Nat → Nat} {V : Nat → Nat → Int32}
theorem c_hasPerson30 (hok : sp_Ok N V) (hr : RC 30 J N V) (i : Int32) : ax_cal E (d + 1) n_X7_hasPerson [.ref 31, .int i] (ax_hC tl rtl J) = some (some (.int (if 0 ≤ i ∧ i < nI (N 0) then 1 else 0)), ax_hC tl rtl J) := by
  have hn : J 31 8 = nI (N 0) := hr.1
  refine ax_of (t := t_X7_hasPerson) (ls := [.ref 31, .int i]) rfl ⟨rfl, Nat.le_of_ble_eq_true rfl⟩ rfl ?_
  repeat refine bs rfl ?_
  refine bb rfl (fun c1 => ?_) (fun c1 => ?_)
  · repeat refine bs rfl ?_
    exact br rfl ⟨by rw [if_neg (fun q => Int32.not_lt.mpr q.1 c1)], rfl⟩
  · repeat refine bs rfl ?_
    refine bb rfl (fun c2 => ?_) (fun c2 => ?_)
    · rw [hn] at c2
      repeat refine bs rfl ?_
      exact br rfl ⟨by rw [if_neg (fun q => Int32.not_lt.mpr c2 q.2)], rfl⟩
    · rw [hn] at c2
      repeat refine bs rfl ?_
      exact br rfl ⟨by rw [if_pos ⟨Int32.not_lt.mp c1, Int32.not_le.mp c2⟩], rfl⟩
theorem c_addPerson30 (hok : sp_Ok N V) (hr : RC 30 J N V) (a : Nat → Int32) : ∃ G, ax_cal E (d + 2) n_X7_addPerson [.ref 31, .int (a 0), .int (a 1), .int (a 2), .int (a 3)] (ax_hC tl rtl J) = some (some (.int (if ps_okp N a = true then 1 else 0)), ax_hC tl rtl G) ∧ (∀ q, q < 30 ∨ 48 < q → G q = J q) ∧ (ps_okp N a = true → RC 30 G (ps_N N 0) (ps_V4 V 0 (N 0) (a 0) (a 1) (a 2) (a 3))) := by
  suffices H : ∃ r g, ax_cal E (d + 2) n_X7_addPerson [.ref 31, .int (a 0), .int (a 1), .int (a 2), .int (a 3)] (ax_hC tl rtl J) = some (r, g) ∧ (r = some (.int (if ps_okp N a = true then 1 else 0)) ∧ ∃ G, g = ax_hC tl rtl G ∧ (∀ q, q < 30 ∨ 48 < q → G q = J q) ∧ (ps_okp N a = true → RC 30 G (ps_N N 0) (ps_V4 V 0 (N 0) (a 0) (a 1) (a 2) (a 3)))) by
    obtain ⟨r, g, e, rfl, G, rfl, h⟩ := H
    exact ⟨G, e, h⟩
  have h6 := hok.1
  have hn : J 31 8 = nI (N 0) := hr.1
  refine ax_ofQ (t := t_X7_addPerson) (ls := [.ref 31, .int (a 0), .int (a 1), .int (a 2), .int (a 3)]) rfl ⟨rfl, Nat.le_of_ble_eq_true rfl⟩ rfl ?_
  have no : ¬ ps_okp N a = true → AW E (ax_cal E (d + 1)) t_X7_addPerson (46, [.ref 31, .int (a 0), .int (a 1), .int (a 2), .int (a 3)], [], ax_hC tl rtl J) (fun r g => r = some (.int (if ps_okp N a = true then 1 else 0)) ∧ ∃ G, g = ax_hC tl rtl G ∧ (∀ q, q < 30 ∨ 48 < q → G q = J q) ∧ (ps_okp N a = true → RC 30 G (ps_N N 0) (ps_V4 V 0 (N 0) (a 0) (a 1) (a 2) (a 3)))) := by
    intro hno
    rw [if_neg hno]
    repeat refine bs rfl ?_
    exact br rfl ⟨rfl, J, rfl, fun _ _ => rfl, fun h => absurd h hno⟩
  repeat refine bs rfl ?_
  by_cases k0 : N 0 < 6
  · refine bf rfl (by rw [hn]; exact nI_ge (b := 6) k0 (by omega)) ?_
    repeat refine bs rfl ?_
    refine bc rfl (c_isCell _ (a 0)) ?_
    repeat refine bs rfl ?_
    refine bz rfl (fun p => no (fun q => p (of_decide_eq_true q).2.1)) (fun k1 => ?_)
    repeat refine bs rfl ?_
    refine bc rfl (c_isWithin _ (a 1) 1 9) ?_
    repeat refine bs rfl ?_
    refine bz rfl (fun p => no (fun q => p (of_decide_eq_true q).2.2.1)) (fun k2 => ?_)
    repeat refine bs rfl ?_
    refine bc rfl (c_isWithin _ (a 2) 0 3) ?_
    repeat refine bs rfl ?_
    refine bz rfl (fun p => no (fun q => p (of_decide_eq_true q).2.2.2.1)) (fun k3 => ?_)
    repeat refine bs rfl ?_
    refine bc rfl (c_isWithin _ (a 3) 0 20) ?_
    repeat refine bs rfl ?_
    refine bz rfl (fun p => no (fun q => p (of_decide_eq_true q).2.2.2.2)) (fun k4 => ?_)
    have hy : ps_okp N a = true := decide_eq_true ⟨k0, k1, k2, k3, k4⟩
    rw [if_pos hy]
    repeat refine bs rfl ?_
    refine bsto rfl (N 0) hn (by omega) (by omega) ?_
    repeat refine bs rfl ?_
    refine bsto rfl (N 0) hn (by omega) (by omega) ?_
    repeat refine bs rfl ?_
    refine bsto rfl (N 0) hn (by omega) (by omega) ?_
    repeat refine bs rfl ?_
    refine bsto rfl (N 0) hn (by omega) (by omega) ?_
    repeat refine bs rfl ?_
    refine br rfl ⟨rfl, _, rfl, fun q hq => ?_, fun _ => ?_⟩
    · rw [va_up_ne _ _ (by omega), va_up_ne _ _ (by omega), va_up_ne _ _ (by omega), va_up_ne _ _ (by omega), va_up_ne _ _ (by omega)]
    · refine ⟨?_, ?_, hr.2.2.1, hr.2.2.2.1, hr.2.2.2.2.1, hr.2.2.2.2.2.1, hr.2.2.2.2.2.2.1, hr.2.2.2.2.2.2.2.1, hr.2.2.2.2.2.2.2.2.1, hr.2.2.2.2.2.2.2.2.2.1, hr.2.2.2.2.2.2.2.2.2.2.1, hr.2.2.2.2.2.2.2.2.2.2.2⟩
      · show J 31 8 + 1 = nI (N 0 + 1)
        rw [hn, nI_succ]
      · intro i hi
        have hi : i < N 0 + 1 := hi
        show upd (J 32) (N 0) (a 0) i = upd (V 0) (N 0) (a 0) i ∧ upd (J 33) (N 0) (a 1) i = upd (V 1) (N 0) (a 1) i ∧ upd (J 34) (N 0) (a 2) i = upd (V 2) (N 0) (a 2) i ∧ upd (J 36) (N 0) (a 3) i = upd (V 3) (N 0) (a 3) i
        by_cases e : i = N 0
        · rw [e, pk_us, pk_us, pk_us, pk_us, pk_us, pk_us, pk_us, pk_us]
          exact ⟨rfl, rfl, rfl, rfl⟩
        · rw [pk_un e, pk_un e, pk_un e, pk_un e, pk_un e, pk_un e, pk_un e, pk_un e]
          exact hr.2.1 i (by omega)
  · refine bt rfl (by rw [hn]; exact nI_le (a := 6) (by omega) (by omega)) ?_
    exact no (fun q => k0 (of_decide_eq_true q).1)
theorem c_addLaw30 (hok : sp_Ok N V) (hr : RC 30 J N V) (a : Nat → Int32) : ∃ G, ax_cal E (d + 2) n_X7_addLaw [.ref 31, .int (a 0), .int (a 1), .int (a 2)] (ax_hC tl rtl J) = some (some (.int (if ps_okh (N 2) 6 N a = true then 1 else 0)), ax_hC tl rtl G) ∧ (∀ q, q < 30 ∨ 48 < q → G q = J q) ∧ (ps_okh (N 2) 6 N a = true → RC 30 G (ps_N N 2) (ps_V3 V 7 (N 2) (a 0) (a 1) (a 2))) := by
  suffices H : ∃ r g, ax_cal E (d + 2) n_X7_addLaw [.ref 31, .int (a 0), .int (a 1), .int (a 2)] (ax_hC tl rtl J) = some (r, g) ∧ (r = some (.int (if ps_okh (N 2) 6 N a = true then 1 else 0)) ∧ ∃ G, g = ax_hC tl rtl G ∧ (∀ q, q < 30 ∨ 48 < q → G q = J q) ∧ (ps_okh (N 2) 6 N a = true → RC 30 G (ps_N N 2) (ps_V3 V 7 (N 2) (a 0) (a 1) (a 2)))) by
    obtain ⟨r, g, e, rfl, G, rfl, h⟩ := H
    exact ⟨G, e, h⟩
  have h6 := hok.2.2.1
  have hn : J 31 9 = nI (N 2) := hr.2.2.2.2.1
  refine ax_ofQ (t := t_X7_addLaw) (ls := [.ref 31, .int (a 0), .int (a 1), .int (a 2)]) rfl ⟨rfl, Nat.le_of_ble_eq_true rfl⟩ rfl ?_
  have no : ¬ ps_okh (N 2) 6 N a = true → AW E (ax_cal E (d + 1)) t_X7_addLaw (34, [.ref 31, .int (a 0), .int (a 1), .int (a 2)], [], ax_hC tl rtl J) (fun r g => r = some (.int (if ps_okh (N 2) 6 N a = true then 1 else 0)) ∧ ∃ G, g = ax_hC tl rtl G ∧ (∀ q, q < 30 ∨ 48 < q → G q = J q) ∧ (ps_okh (N 2) 6 N a = true → RC 30 G (ps_N N 2) (ps_V3 V 7 (N 2) (a 0) (a 1) (a 2)))) := by
    intro hno
    rw [if_neg hno]
    repeat refine bs rfl ?_
    exact br rfl ⟨rfl, J, rfl, fun _ _ => rfl, fun h => absurd h hno⟩
  repeat refine bs rfl ?_
  by_cases k0 : N 2 < 6
  · refine bf rfl (by rw [hn]; exact nI_ge (b := 6) k0 (by omega)) ?_
    repeat refine bs rfl ?_
    refine bc rfl (c_hasPerson30 hok hr (a 0)) ?_
    repeat refine bs rfl ?_
    refine bz rfl (fun p => no (fun q => p (of_decide_eq_true q).2.1)) (fun k1 => ?_)
    repeat refine bs rfl ?_
    refine bc rfl (c_isHour _ (a 1)) ?_
    repeat refine bs rfl ?_
    refine bz rfl (fun p => no (fun q => p (of_decide_eq_true q).2.2.1)) (fun k2 => ?_)
    repeat refine bs rfl ?_
    refine bc rfl (c_isWithin _ (a 2) 0 60) ?_
    repeat refine bs rfl ?_
    refine bz rfl (fun p => no (fun q => p (of_decide_eq_true q).2.2.2)) (fun k3 => ?_)
    have hy : ps_okh (N 2) 6 N a = true := decide_eq_true ⟨k0, k1, k2, k3⟩
    rw [if_pos hy]
    repeat refine bs rfl ?_
    refine bsto rfl (N 2) hn (by omega) (by omega) ?_
    repeat refine bs rfl ?_
    refine bsto rfl (N 2) hn (by omega) (by omega) ?_
    repeat refine bs rfl ?_
    refine bsto rfl (N 2) hn (by omega) (by omega) ?_
    repeat refine bs rfl ?_
    refine br rfl ⟨rfl, _, rfl, fun q hq => ?_, fun _ => ?_⟩
    · rw [va_up_ne _ _ (by omega), va_up_ne _ _ (by omega), va_up_ne _ _ (by omega), va_up_ne _ _ (by omega)]
    · refine ⟨hr.1, hr.2.1, hr.2.2.1, hr.2.2.2.1, ?_, ?_, hr.2.2.2.2.2.2.1, hr.2.2.2.2.2.2.2.1, hr.2.2.2.2.2.2.2.2.1, hr.2.2.2.2.2.2.2.2.2.1, hr.2.2.2.2.2.2.2.2.2.2.1, hr.2.2.2.2.2.2.2.2.2.2.2⟩
      · show J 31 9 + 1 = nI (N 2 + 1)
        rw [hn, nI_succ]
      · intro i hi
        have hi : i < N 2 + 1 := hi
        show upd (J 40) (N 2) (a 0) i = upd (V 7) (N 2) (a 0) i ∧ upd (J 41) (N 2) (a 1) i = upd (V 8) (N 2) (a 1) i ∧ upd (J 42) (N 2) (a 2) i = upd (V 9) (N 2) (a 2) i
        by_cases e : i = N 2
        · rw [e, pk_us, pk_us, pk_us, pk_us, pk_us, pk_us]
          exact ⟨rfl, rfl, rfl⟩
        · rw [pk_un e, pk_un e, pk_un e, pk_un e, pk_un e, pk_un e]
          exact hr.2.2.2.2.2.1 i (by omega)
  · refine bt rfl (by rw [hn]; exact nI_le (a := 6) (by omega) (by omega)) ?_
    exact no (fun q => k0 (of_decide_eq_true q).1)
theorem c_addWalk30 (hr : RC 30 J N V) (h9 : N 1 < 9) (a : Nat → Int32) : ∃ G, ax_cal E (d + 1) n_X5_addWalk [.ref 35, .int (a 0), .int (a 1), .int (a 2)] (ax_hC tl rtl J) = some (some (.int 1), ax_hC tl rtl G) ∧ (∀ q, q < 30 ∨ 48 < q → G q = J q) ∧ RC 30 G (ps_N N 1) (ps_V3 V 4 (N 1) (a 0) (a 1) (a 2)) := by
  suffices H : ∃ r g, ax_cal E (d + 1) n_X5_addWalk [.ref 35, .int (a 0), .int (a 1), .int (a 2)] (ax_hC tl rtl J) = some (r, g) ∧ (r = some (.int 1) ∧ ∃ G, g = ax_hC tl rtl G ∧ (∀ q, q < 30 ∨ 48 < q → G q = J q) ∧ RC 30 G (ps_N N 1) (ps_V3 V 4 (N 1) (a 0) (a 1) (a 2))) by
    obtain ⟨r, g, e, rfl, G, rfl, h⟩ := H
    exact ⟨G, e, h⟩
  have hn : J 35 4 = nI (N 1) := hr.2.2.1
  refine ax_ofQ (t := t_X5_addWalk) (ls := [.ref 35, .int (a 0), .int (a 1), .int (a 2)]) rfl ⟨rfl, Nat.le_of_ble_eq_true rfl⟩ rfl ?_
  repeat refine bs rfl ?_
  refine bt rfl (by rw [hn]; exact nI_lt (b := 9) h9 (by omega)) ?_
  repeat refine bs rfl ?_
  refine bsto rfl (N 1) hn (by omega) (by omega) ?_
  repeat refine bs rfl ?_
  refine bsto rfl (N 1) hn (by omega) (by omega) ?_
  repeat refine bs rfl ?_
  refine bsto rfl (N 1) hn (by omega) (by omega) ?_
  repeat refine bs rfl ?_
  refine br rfl ⟨rfl, _, rfl, fun q hq => ?_, ?_⟩
  · rw [va_up_ne _ _ (by omega), va_up_ne _ _ (by omega), va_up_ne _ _ (by omega), va_up_ne _ _ (by omega)]
  · refine ⟨hr.1, hr.2.1, ?_, ?_, hr.2.2.2.2.1, hr.2.2.2.2.2.1, hr.2.2.2.2.2.2.1, hr.2.2.2.2.2.2.2.1, hr.2.2.2.2.2.2.2.2.1, hr.2.2.2.2.2.2.2.2.2.1, hr.2.2.2.2.2.2.2.2.2.2.1, hr.2.2.2.2.2.2.2.2.2.2.2⟩
    · show J 35 4 + 1 = nI (N 1 + 1)
      rw [hn, nI_succ]
    · intro i hi
      have hi : i < N 1 + 1 := hi
      show upd (J 37) (N 1) (a 0) i = upd (V 4) (N 1) (a 0) i ∧ upd (J 38) (N 1) (a 1) i = upd (V 5) (N 1) (a 1) i ∧ upd (J 39) (N 1) (a 2) i = upd (V 6) (N 1) (a 2) i
      by_cases e : i = N 1
      · rw [e, pk_us, pk_us, pk_us, pk_us, pk_us, pk_us]
        exact ⟨rfl, rfl, rfl⟩
      · rw [pk_un e, pk_un e, pk_un e, pk_un e, pk_un e, pk_un e]
        exact hr.2.2.2.1 i (by omega)
theorem c_addWalkF30 (hr : RC 30 J N V) (h9 : ¬ N 1 < 9) (hb : N 1 ≤ 9) (x y z : Int32) : ax_cal E (d + 1) n_X5_addWalk [.ref 35, .int x, .int y, .int z] (ax_hC tl rtl J) = some (some (.int 0), ax_hC tl rtl J) := by
  have hn : J 35 4 = nI (N 1) := hr.2.2.1
  refine ax_of (t := t_X5_addWalk) (ls := [.ref 35, .int x, .int y, .int z]) rfl ⟨rfl, Nat.le_of_ble_eq_true rfl⟩ rfl ?_
  repeat refine bs rfl ?_
  refine bf rfl (by rw [hn]; exact nI_nlt (b := 9) (by omega) (by omega)) ?_
  repeat refine bs rfl ?_
  exact br rfl ⟨rfl, rfl⟩
theorem c_addRemnant30 (hok : sp_Ok N V) (hr : RC 30 J N V) (a : Nat → Int32) : ∃ G, ax_cal E (d + 2) n_X6_addRemnant [.ref 44, .int (a 0)] (ax_hC tl rtl J) = some (some (.int (if ps_ok1 (N 3) 7 40 a = true then 1 else 0)), ax_hC tl rtl G) ∧ (∀ q, q < 30 ∨ 48 < q → G q = J q) ∧ (ps_ok1 (N 3) 7 40 a = true → RC 30 G (ps_N N 3) (ps_V1 V 10 (N 3) (a 0))) := by
  suffices H : ∃ r g, ax_cal E (d + 2) n_X6_addRemnant [.ref 44, .int (a 0)] (ax_hC tl rtl J) = some (r, g) ∧ (r = some (.int (if ps_ok1 (N 3) 7 40 a = true then 1 else 0)) ∧ ∃ G, g = ax_hC tl rtl G ∧ (∀ q, q < 30 ∨ 48 < q → G q = J q) ∧ (ps_ok1 (N 3) 7 40 a = true → RC 30 G (ps_N N 3) (ps_V1 V 10 (N 3) (a 0)))) by
    obtain ⟨r, g, e, rfl, G, rfl, h⟩ := H
    exact ⟨G, e, h⟩
  have h7 := hok.2.2.2.1
  have hn : J 44 4 = nI (N 3) := hr.2.2.2.2.2.2.1
  refine ax_ofQ (t := t_X6_addRemnant) (ls := [.ref 44, .int (a 0)]) rfl ⟨rfl, Nat.le_of_ble_eq_true rfl⟩ rfl ?_
  have no : ¬ ps_ok1 (N 3) 7 40 a = true → AW E (ax_cal E (d + 1)) t_X6_addRemnant (19, [.ref 44, .int (a 0)], [], ax_hC tl rtl J) (fun r g => r = some (.int (if ps_ok1 (N 3) 7 40 a = true then 1 else 0)) ∧ ∃ G, g = ax_hC tl rtl G ∧ (∀ q, q < 30 ∨ 48 < q → G q = J q) ∧ (ps_ok1 (N 3) 7 40 a = true → RC 30 G (ps_N N 3) (ps_V1 V 10 (N 3) (a 0)))) := by
    intro hno
    rw [if_neg hno]
    repeat refine bs rfl ?_
    exact br rfl ⟨rfl, J, rfl, fun _ _ => rfl, fun h => absurd h hno⟩
  repeat refine bs rfl ?_
  by_cases k0 : N 3 < 7
  · refine bf rfl (by rw [hn]; exact nI_ge (b := 7) k0 (by omega)) ?_
    repeat refine bs rfl ?_
    refine bc rfl (c_isWithin _ (a 0) 1 40) ?_
    repeat refine bs rfl ?_
    refine bz rfl (fun p => no (fun q => p (of_decide_eq_true q).2)) (fun k1 => ?_)
    have hy : ps_ok1 (N 3) 7 40 a = true := decide_eq_true ⟨k0, k1⟩
    rw [if_pos hy]
    repeat refine bs rfl ?_
    refine bsto rfl (N 3) hn (by omega) (by omega) ?_
    repeat refine bs rfl ?_
    refine br rfl ⟨rfl, _, rfl, fun q hq => ?_, fun _ => ?_⟩
    · rw [va_up_ne _ _ (by omega), va_up_ne _ _ (by omega)]
    · refine ⟨hr.1, hr.2.1, hr.2.2.1, hr.2.2.2.1, hr.2.2.2.2.1, hr.2.2.2.2.2.1, ?_, ?_, hr.2.2.2.2.2.2.2.2.1, hr.2.2.2.2.2.2.2.2.2.1, hr.2.2.2.2.2.2.2.2.2.2.1, hr.2.2.2.2.2.2.2.2.2.2.2⟩
      · show J 44 4 + 1 = nI (N 3 + 1)
        rw [hn, nI_succ]
      · intro i hi
        have hi : i < N 3 + 1 := hi
        show upd (J 45) (N 3) (a 0) i = upd (V 10) (N 3) (a 0) i
        by_cases e : i = N 3
        · rw [e, pk_us, pk_us]
        · rw [pk_un e, pk_un e]
          exact hr.2.2.2.2.2.2.2.1 i (by omega)
  · refine bt rfl (by rw [hn]; exact nI_le (a := 7) (by omega) (by omega)) ?_
    exact no (fun q => k0 (of_decide_eq_true q).1)
theorem c_addOrder30 (hok : sp_Ok N V) (hr : RC 30 J N V) (a : Nat → Int32) : ∃ G, ax_cal E (d + 2) n_X6_addOrder [.ref 44, .int (a 0)] (ax_hC tl rtl J) = some (some (.int (if ps_ok1 (N 4) 3 60 a = true then 1 else 0)), ax_hC tl rtl G) ∧ (∀ q, q < 30 ∨ 48 < q → G q = J q) ∧ (ps_ok1 (N 4) 3 60 a = true → RC 30 G (ps_N N 4) (ps_V1 V 11 (N 4) (a 0))) := by
  suffices H : ∃ r g, ax_cal E (d + 2) n_X6_addOrder [.ref 44, .int (a 0)] (ax_hC tl rtl J) = some (r, g) ∧ (r = some (.int (if ps_ok1 (N 4) 3 60 a = true then 1 else 0)) ∧ ∃ G, g = ax_hC tl rtl G ∧ (∀ q, q < 30 ∨ 48 < q → G q = J q) ∧ (ps_ok1 (N 4) 3 60 a = true → RC 30 G (ps_N N 4) (ps_V1 V 11 (N 4) (a 0)))) by
    obtain ⟨r, g, e, rfl, G, rfl, h⟩ := H
    exact ⟨G, e, h⟩
  have h7 := hok.2.2.2.2.1
  have hn : J 44 5 = nI (N 4) := hr.2.2.2.2.2.2.2.2.1
  refine ax_ofQ (t := t_X6_addOrder) (ls := [.ref 44, .int (a 0)]) rfl ⟨rfl, Nat.le_of_ble_eq_true rfl⟩ rfl ?_
  have no : ¬ ps_ok1 (N 4) 3 60 a = true → AW E (ax_cal E (d + 1)) t_X6_addOrder (18, [.ref 44, .int (a 0)], [], ax_hC tl rtl J) (fun r g => r = some (.int (if ps_ok1 (N 4) 3 60 a = true then 1 else 0)) ∧ ∃ G, g = ax_hC tl rtl G ∧ (∀ q, q < 30 ∨ 48 < q → G q = J q) ∧ (ps_ok1 (N 4) 3 60 a = true → RC 30 G (ps_N N 4) (ps_V1 V 11 (N 4) (a 0)))) := by
    intro hno
    rw [if_neg hno]
    repeat refine bs rfl ?_
    exact br rfl ⟨rfl, J, rfl, fun _ _ => rfl, fun h => absurd h hno⟩
  repeat refine bs rfl ?_
  by_cases k0 : N 4 < 3
  · refine bf rfl (by rw [hn]; exact nI_ge (b := 3) k0 (by omega)) ?_
    repeat refine bs rfl ?_
    refine bc rfl (c_isWithin _ (a 0) 1 60) ?_
    repeat refine bs rfl ?_
    refine bz rfl (fun p => no (fun q => p (of_decide_eq_true q).2)) (fun k1 => ?_)
    have hy : ps_ok1 (N 4) 3 60 a = true := decide_eq_true ⟨k0, k1⟩
    rw [if_pos hy]
    repeat refine bs rfl ?_
    refine bsto rfl (N 4) hn (by omega) (by omega) ?_
    repeat refine bs rfl ?_
    refine br rfl ⟨rfl, _, rfl, fun q hq => ?_, fun _ => ?_⟩
    · rw [va_up_ne _ _ (by omega), va_up_ne _ _ (by omega)]
    · refine ⟨hr.1, hr.2.1, hr.2.2.1, hr.2.2.2.1, hr.2.2.2.2.1, hr.2.2.2.2.2.1, hr.2.2.2.2.2.2.1, hr.2.2.2.2.2.2.2.1, ?_, ?_, hr.2.2.2.2.2.2.2.2.2.2.1, hr.2.2.2.2.2.2.2.2.2.2.2⟩
      · show J 44 5 + 1 = nI (N 4 + 1)
        rw [hn, nI_succ]
      · intro i hi
        have hi : i < N 4 + 1 := hi
        show upd (J 46) (N 4) (a 0) i = upd (V 11) (N 4) (a 0) i
        by_cases e : i = N 4
        · rw [e, pk_us, pk_us]
        · rw [pk_un e, pk_un e]
          exact hr.2.2.2.2.2.2.2.2.2.1 i (by omega)
  · refine bt rfl (by rw [hn]; exact nI_le (a := 3) (by omega) (by omega)) ?_
    exact no (fun q => k0 (of_decide_eq_true q).1)
theorem c_addFitting30 (hok : sp_Ok N V) (hr : RC 30 J N V) (a : Nat → Int32) : ∃ G, ax_cal E (d + 2) n_X6_addFitting [.ref 44, .int (a 0), .int (a 1)] (ax_hC tl rtl J) = some (some (.int (if ps_okf N a = true then 1 else 0)), ax_hC tl rtl G) ∧ (∀ q, q < 30 ∨ 48 < q → G q = J q) ∧ (ps_okf N a = true → RC 30 G (ps_N N 5) (ps_V2 V 12 (N 5) (a 0) (a 1))) := by
  suffices H : ∃ r g, ax_cal E (d + 2) n_X6_addFitting [.ref 44, .int (a 0), .int (a 1)] (ax_hC tl rtl J) = some (r, g) ∧ (r = some (.int (if ps_okf N a = true then 1 else 0)) ∧ ∃ G, g = ax_hC tl rtl G ∧ (∀ q, q < 30 ∨ 48 < q → G q = J q) ∧ (ps_okf N a = true → RC 30 G (ps_N N 5) (ps_V2 V 12 (N 5) (a 0) (a 1)))) by
    obtain ⟨r, g, e, rfl, G, rfl, h⟩ := H
    exact ⟨G, e, h⟩
  have h7 := hok.2.2.2.2.2.1
  have hn : J 44 6 = nI (N 5) := hr.2.2.2.2.2.2.2.2.2.2.1
  refine ax_ofQ (t := t_X6_addFitting) (ls := [.ref 44, .int (a 0), .int (a 1)]) rfl ⟨rfl, Nat.le_of_ble_eq_true rfl⟩ rfl ?_
  have no : ¬ ps_okf N a = true → AW E (ax_cal E (d + 1)) t_X6_addFitting (29, [.ref 44, .int (a 0), .int (a 1)], [], ax_hC tl rtl J) (fun r g => r = some (.int (if ps_okf N a = true then 1 else 0)) ∧ ∃ G, g = ax_hC tl rtl G ∧ (∀ q, q < 30 ∨ 48 < q → G q = J q) ∧ (ps_okf N a = true → RC 30 G (ps_N N 5) (ps_V2 V 12 (N 5) (a 0) (a 1)))) := by
    intro hno
    rw [if_neg hno]
    repeat refine bs rfl ?_
    exact br rfl ⟨rfl, J, rfl, fun _ _ => rfl, fun h => absurd h hno⟩
  repeat refine bs rfl ?_
  by_cases k0 : N 5 < 6
  · refine bf rfl (by rw [hn]; exact nI_ge (b := 6) k0 (by omega)) ?_
    repeat refine bs rfl ?_
    refine bc rfl (c_isWithin _ (a 0) 1 9) ?_
    repeat refine bs rfl ?_
    refine bz rfl (fun p => no (fun q => p (of_decide_eq_true q).2.1)) (fun k1 => ?_)
    repeat refine bs rfl ?_
    refine bc rfl (c_isWithin _ (a 1) 1 60) ?_
    repeat refine bs rfl ?_
    refine bz rfl (fun p => no (fun q => p (of_decide_eq_true q).2.2)) (fun k2 => ?_)
    have hy : ps_okf N a = true := decide_eq_true ⟨k0, k1, k2⟩
    rw [if_pos hy]
    repeat refine bs rfl ?_
    refine bsto rfl (N 5) hn (by omega) (by omega) ?_
    repeat refine bs rfl ?_
    refine bsto rfl (N 5) hn (by omega) (by omega) ?_
    repeat refine bs rfl ?_
    refine br rfl ⟨rfl, _, rfl, fun q hq => ?_, fun _ => ?_⟩
    · rw [va_up_ne _ _ (by omega), va_up_ne _ _ (by omega), va_up_ne _ _ (by omega)]
    · refine ⟨hr.1, hr.2.1, hr.2.2.1, hr.2.2.2.1, hr.2.2.2.2.1, hr.2.2.2.2.2.1, hr.2.2.2.2.2.2.1, hr.2.2.2.2.2.2.2.1, hr.2.2.2.2.2.2.2.2.1, hr.2.2.2.2.2.2.2.2.2.1, ?_, ?_⟩
      · show J 44 6 + 1 = nI (N 5 + 1)
        rw [hn, nI_succ]
      · intro i hi
        have hi : i < N 5 + 1 := hi
        show upd (J 47) (N 5) (a 0) i = upd (V 12) (N 5) (a 0) i ∧ upd (J 48) (N 5) (a 1) i = upd (V 13) (N 5) (a 1) i
        by_cases e : i = N 5
        · rw [e, pk_us, pk_us, pk_us, pk_us]
          exact ⟨rfl, rfl⟩
        · rw [pk_un e, pk_un e, pk_un e, pk_un e]
          exact hr.2.2.2.2.2.2.2.2.2.2.2 i (by omega)
  · refine bt rfl (by rw [hn]; exact nI_le (a := 6) (by omega) (by omega)) ?_
    exact no (fun q => k0 (of_decide_eq_true q).1)
end AD30
