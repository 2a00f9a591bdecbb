/-! contracts of the class: changes (add, dropOldest, takeBack), alter, walk, undo -/
/-- a state of the class (its cells from o on) holds n walks and T -/
def SC (o : Nat) (J : Nat → Nat → Int32) (np n : Nat) (T : Nat → Nat → Int32) : Prop := J o 4 = nI n ∧ (∀ i, i < np → J (o + 1) i = T 3 i) ∧ ∀ k, k < n → J (o + 2) k = T 4 k ∧ J (o + 3) k = T 5 k ∧ J (o + 4) k = T 6 k
/-- a stretch of an array of the reference holds n walks and T -/
def SM (c b : Nat) (J : Nat → Nat → Int32) (np n : Nat) (T : Nat → Nat → Int32) : Prop := J c (b + 6) = nI n ∧ (∀ i, i < np → J c (b + i) = T 3 i) ∧ ∀ k, k < n → J c (b + (7 + 3 * k)) = T 4 k ∧ J c (b + (7 + 3 * k + 1)) = T 5 k ∧ J c (b + (7 + 3 * k + 2)) = T 6 k
section CH
variable {E : ax_E} {d : Nat} {tl : List (Nat × Nat)} {rtl : List (List (Option Nat))} {J : Nat → Nat → Int32} {N : Nat → Nat} {V : Nat → Nat → Int32} {m : Nat}
theorem c_drop (hm : J 5 2 = nI (m + 1)) (h8 : m + 1 ≤ 8) : ∃ G, ax_cal E (d + 1) n_X0_dropOldest [.ref 5] (ax_hC tl rtl J) = some (none, ax_hC tl rtl G) ∧ (∀ q, q ≠ 5 → q ≠ 6 → q ≠ 7 → G q = J q) ∧ G 5 2 = nI m ∧ ∀ k, k < m → G 6 k = J 6 (k + 1) ∧ G 7 k = J 7 (k + 1) := by
  suffices H : ∃ r g, ax_cal E (d + 1) n_X0_dropOldest [.ref 5] (ax_hC tl rtl J) = some (r, g) ∧ (r = none ∧ ∃ G, g = ax_hC tl rtl G ∧ (∀ q, q ≠ 5 → q ≠ 6 → q ≠ 7 → G q = J q) ∧ G 5 2 = nI m ∧ ∀ k, k < m → G 6 k = J 6 (k + 1) ∧ G 7 k = J 7 (k + 1)) by
    obtain ⟨r, g, e, rfl, G, rfl, h⟩ := H
    exact ⟨G, e, h⟩
  refine ax_ofQ (t := t_X0_dropOldest) (ls := [.ref 5, .float 0]) rfl ⟨rfl, Nat.le_of_ble_eq_true rfl⟩ rfl ?_
  have loop : ∀ (j n : Nat), n + j = m → ∀ G : Nat → Nat → Int32, (∀ q, q ≠ 6 → q ≠ 7 → G q = J q) → (∀ k, k < n → G 6 k = J 6 (k + 1) ∧ G 7 k = J 7 (k + 1)) → (∀ k, n ≤ k → G 6 k = J 6 k ∧ G 7 k = J 7 k) → AW E (ax_cal E d) t_X0_dropOldest (7, [.ref 5, .int (nI (n + 1))], [.int (G 5 2), .int (nI (n + 1))], ax_hC tl rtl G) (fun r g => r = none ∧ ∃ G, g = ax_hC tl rtl G ∧ (∀ q, q ≠ 5 → q ≠ 6 → q ≠ 7 → G q = J q) ∧ G 5 2 = nI m ∧ ∀ k, k < m → G 6 k = J 6 (k + 1) ∧ G 7 k = J 7 (k + 1)) := by
    intro j
    induction j with
    | zero =>
      intro n hn G hG h1 h2
      have h5 : G 5 2 = nI (m + 1) := by rw [hG 5 (by decide) (by decide), hm]
      refine bt rfl (by rw [h5]; exact nI_le (by omega) (by omega)) ?_
      repeat refine bs rfl ?_
      refine br rfl ⟨rfl, _, rfl, ?_, ?_, ?_⟩
      · intro q a b c
        rw [va_up_ne _ _ a, hG q b c]
      · show G 5 2 - 1 = nI m
        rw [h5, nI_pred]
      · intro k hk
        exact h1 k (by omega)
    | succ j ih =>
      intro n hn G hG h1 h2
      have h5 : G 5 2 = nI (m + 1) := by rw [hG 5 (by decide) (by decide), hm]
      have ih := ih (n + 1) (by omega)
      rw [nI_succ (n + 1)] at ih
      refine bf rfl (by rw [h5]; exact nI_ge (by omega) (by omega)) ?_
      repeat (first | refine bs rfl ?_ | refine bld rfl _ rfl (by omega) (by omega) ?_)
      refine bsto rfl n (nI_pred n) (by omega) (by omega) ?_
      repeat (first | refine bs rfl ?_ | refine bld rfl _ rfl (by omega) (by omega) ?_)
      refine bsto rfl n (nI_pred n) (by omega) (by omega) ?_
      repeat (first | refine bs rfl ?_ | refine bld rfl _ rfl (by omega) (by omega) ?_)
      refine ih _ ?_ ?_ ?_
      · intro q a b
        rw [va_up_ne _ _ b, va_up_ne _ _ a, hG q a b]
      · intro k hk
        show upd (G 6) n (G 6 (n + 1)) k = _ ∧ upd (G 7) n (G 7 (n + 1)) k = _
        by_cases e : k = n
        · subst e
          rw [pk_us, pk_us]
          exact h2 (k + 1) (by omega)
        · rw [pk_un e, pk_un e]
          exact h1 k (by omega)
      · intro k hk
        show upd (G 6) n (G 6 (n + 1)) k = _ ∧ upd (G 7) n (G 7 (n + 1)) k = _
        rw [pk_un (by omega), pk_un (by omega)]
        exact h2 k (by omega)
  iterate 5 refine bs rfl ?_
  exact loop m 0 (Nat.zero_add _) J (fun q _ _ => rfl) (fun k hk => absurd hk (by omega)) (fun k _ => ⟨rfl, rfl⟩)
theorem c_chadd1 (hm : J 5 2 = nI m) (h8 : m < 8) (who was : Int32) : ax_cal E (d + 2) n_X0_add [.ref 5, .int who, .int was] (ax_hC tl rtl J) = some (none, ax_hC tl rtl (va_up (va_up (va_up J 6 (upd (J 6) m who)) 7 (upd (J 7) m was)) 5 (upd (J 5) 2 (nI m + 1)))) := by
  refine ax_of (t := t_X0_add) (ls := [.ref 5, .int who, .int was]) rfl ⟨rfl, Nat.le_of_ble_eq_true rfl⟩ rfl ?_
  repeat refine bs rfl ?_
  refine bt rfl (by rw [hm]; exact nI_lt (b := 8) h8 (by omega)) ?_
  repeat refine bs rfl ?_
  refine bsto rfl m hm (by omega) (by omega) ?_
  repeat refine bs rfl ?_
  refine bsto rfl m hm (by omega) (by omega) ?_
  repeat refine bs rfl ?_
  exact br rfl ⟨rfl, by rw [show (va_up (va_up J 6 (upd (J 6) m who)) 7 (upd ((va_up J 6 (upd (J 6) m who)) 7) m was)) 5 2 = nI m from hm]; rfl⟩
/-- a change is added: those before it lie o places on -/
theorem c_chadd (hm : J 5 2 = nI m) (h8 : m ≤ 8) (who was : Int32) : ∃ G o m', ax_cal E (d + 2) n_X0_add [.ref 5, .int who, .int was] (ax_hC tl rtl J) = some (none, ax_hC tl rtl G) ∧ m' + o = m ∧ (if m < 8 then o = 0 else o = 1) ∧ (∀ q, q ≠ 5 → q ≠ 6 → q ≠ 7 → G q = J q) ∧ G 5 2 = nI (m' + 1) ∧ (∀ k, k < m' → G 6 k = J 6 (k + o) ∧ G 7 k = J 7 (k + o)) ∧ G 6 m' = who ∧ G 7 m' = was := by
  by_cases c8 : m < 8
  · refine ⟨_, 0, m, c_chadd1 hm c8 who was, rfl, by rw [if_pos c8], ?_, ?_, ?_, ?_, ?_⟩
    · intro q a b c
      rw [va_up_ne _ _ a, va_up_ne _ _ c, va_up_ne _ _ b]
    · show nI m + 1 = _
      rw [nI_1]
    · intro k hk
      show upd (J 6) m who k = _ ∧ upd (J 7) m was k = _
      rw [pk_un (by omega), pk_un (by omega)]
      exact ⟨rfl, rfl⟩
    · show upd (J 6) m who m = _
      rw [pk_us]
    · show upd (J 7) m was m = _
      rw [pk_us]
  · have e8 : m = 8 := by omega
    subst e8
    obtain ⟨G, eG, hq, h5, hk⟩ := c_drop (E := E) (d := d) (tl := tl) (rtl := rtl) (J := J) (m := 7) hm (by omega)
    refine ⟨va_up (va_up (va_up G 6 (upd (G 6) 7 who)) 7 (upd (G 7) 7 was)) 5 (upd (G 5) 2 (nI 7 + 1)), 1, 7, ?_, rfl, rfl, ?_, rfl, ?_, ?_, ?_⟩
    · refine ax_of (t := t_X0_add) (ls := [.ref 5, .int who, .int was]) rfl ⟨rfl, Nat.le_of_ble_eq_true rfl⟩ rfl ?_
      repeat refine bs rfl ?_
      refine bf rfl (by rw [hm]; exact nI_nlt (a := 8) (b := 8) (by omega) (by omega)) ?_
      repeat refine bs rfl ?_
      refine bc rfl eG ?_
      repeat refine bs rfl ?_
      refine bsto rfl 7 h5 (by omega) (by omega) ?_
      repeat refine bs rfl ?_
      refine bsto rfl 7 h5 (by omega) (by omega) ?_
      repeat refine bs rfl ?_
      exact br rfl ⟨rfl, by rw [show (va_up (va_up G 6 (upd (G 6) 7 who)) 7 (upd ((va_up G 6 (upd (G 6) 7 who)) 7) 7 was)) 5 2 = nI 7 from h5]; rfl⟩
    · intro q a b c
      rw [va_up_ne _ _ a, va_up_ne _ _ c, va_up_ne _ _ b, hq q a b c]
    · intro k hk'
      show upd (G 6) 7 who k = _ ∧ upd (G 7) 7 was k = _
      rw [pk_un (by omega), pk_un (by omega)]
      exact hk k hk'
    · show upd (G 6) 7 who 7 = _
      rw [pk_us]
    · show upd (G 7) 7 was 7 = _
      rw [pk_us]
theorem c_addWalk (hm : J 35 4 = nI m) (h9 : m < 9) (i t x : Int32) : ax_cal E (d + 1) n_X5_addWalk [.ref 35, .int i, .int t, .int x] (ax_hC tl rtl J) = some (some (.int 1), ax_hC tl rtl (va_up (va_up (va_up (va_up J 37 (upd (J 37) m i)) 38 (upd (J 38) m t)) 39 (upd (J 39) m x)) 35 (upd (J 35) 4 (nI m + 1)))) := by
  refine ax_of (t := t_X5_addWalk) (ls := [.ref 35, .int i, .int t, .int x]) rfl ⟨rfl, Nat.le_of_ble_eq_true rfl⟩ rfl ?_
  repeat refine bs rfl ?_
  refine bt rfl (by rw [hm]; exact nI_lt (b := 9) h9 (by omega)) ?_
  repeat refine bs rfl ?_
  refine bsto rfl m hm (by omega) (by omega) ?_
  repeat refine bs rfl ?_
  refine bsto rfl m hm (by omega) (by omega) ?_
  repeat refine bs rfl ?_
  refine bsto rfl m hm (by omega) (by omega) ?_
  repeat refine bs rfl ?_
  refine br rfl ⟨rfl, ?_⟩
  rw [← hm]
  rfl
theorem c_addWalkF (hm : J 35 4 = nI 9) (i t x : Int32) : ax_cal E (d + 1) n_X5_addWalk [.ref 35, .int i, .int t, .int x] (ax_hC tl rtl J) = some (some (.int 0), ax_hC tl rtl J) := by
  refine ax_of (t := t_X5_addWalk) (ls := [.ref 35, .int i, .int t, .int x]) rfl ⟨rfl, Nat.le_of_ble_eq_true rfl⟩ rfl ?_
  repeat refine bs rfl ?_
  refine bf rfl (by rw [hm]; exact nI_nlt (a := 9) (b := 9) (by omega) (by omega)) ?_
  repeat refine bs rfl ?_
  exact br rfl ⟨rfl, rfl⟩
theorem c_alterB (hok : sp_Ok N V) (hr : RC 30 J N V) (i c : Int32) (h : ¬ ((0 ≤ i ∧ i < nI (N 0)) ∧ 0 ≤ c ∧ c ≤ 29)) : ax_cal E (d + 3) n_X11_alter [.ref 0, .int i, .int c] (ax_hC tl rtl J) = some (some (.int (-1)), ax_hC tl rtl J) := by
  refine ax_of (t := t_X11_alter) (ls := [.ref 0, .int i, .int c, .float 0, .float 0]) rfl ⟨rfl, Nat.le_of_ble_eq_true rfl⟩ rfl ?_
  repeat refine bs rfl ?_
  refine bc rfl (c_isPerson hok hr i) ?_
  repeat refine bs rfl ?_
  refine bz rfl (fun p => ?_) (fun p => ?_)
  · repeat refine bs rfl ?_
    exact br rfl ⟨rfl, rfl⟩
  · repeat refine bs rfl ?_
    refine bb rfl (fun c1 => ?_) (fun c1 => ?_)
    · repeat refine bs rfl ?_
      exact br rfl ⟨rfl, rfl⟩
    · repeat refine bs rfl ?_
      refine bf rfl (fun q => h ⟨p, Int32.not_lt.mp c1, q⟩) ?_
      repeat refine bs rfl ?_
      exact br rfl ⟨rfl, rfl⟩
theorem c_alter (hok : sp_Ok N V) (hr : RC 30 J N V) (hm : J 5 2 = nI m) (h8 : m ≤ 8) {a : Nat} (ha : a < N 0) (c : Int32) (h : 0 ≤ c ∧ c ≤ 29) : ∃ G o m', ax_cal E (d + 3) n_X11_alter [.ref 0, .int (nI a), .int c] (ax_hC tl rtl J) = some (some (.int (V 3 a + 9)), ax_hC tl rtl G) ∧ m' + o = m ∧ (if m < 8 then o = 0 else o = 1) ∧ (∀ q, q ≠ 5 → q ≠ 6 → q ≠ 7 → G q = va_up J 36 (upd (J 36) a (c - 9)) q) ∧ G 5 2 = nI (m' + 1) ∧ (∀ k, k < m' → G 6 k = J 6 (k + o) ∧ G 7 k = J 7 (k + o)) ∧ G 6 m' = nI a ∧ G 7 m' = V 3 a := by
  have h6 := hok.1
  have v3 : J 36 a = V 3 a := (hr.2.1 a ha).2.2.2
  obtain ⟨G, o, m', e, rest⟩ := c_chadd (E := E) (d := d) (tl := tl) (rtl := rtl) (J := va_up J 36 (upd (J 36) a (c - 9))) (m := m) hm h8 (nI a) (V 3 a)
  refine ⟨G, o, m', ?_, rest⟩
  refine ax_of (t := t_X11_alter) (ls := [.ref 0, .int (nI a), .int c, .float 0, .float 0]) rfl ⟨rfl, Nat.le_of_ble_eq_true rfl⟩ rfl ?_
  repeat refine bs rfl ?_
  refine bc rfl (c_isPerson hok hr (nI a)) ?_
  repeat refine bs rfl ?_
  refine bz rfl (fun p => absurd ⟨nI_pos' (by omega), nI_lt ha (by omega)⟩ p) (fun p => ?_)
  repeat refine bs rfl ?_
  refine bf rfl (Int32.not_lt.mpr h.1) ?_
  repeat refine bs rfl ?_
  refine bt rfl h.2 ?_
  repeat (first | refine bs rfl ?_ | refine bld rfl _ rfl (by omega) (by omega) ?_)
  rw [v3]
  repeat refine bs rfl ?_
  refine bsto rfl a rfl (by omega) (by omega) ?_
  repeat refine bs rfl ?_
  refine bc rfl e ?_
  repeat refine bs rfl ?_
  exact br rfl ⟨rfl, rfl⟩
def sp_walkOk (N : Nat → Nat) (i t x : Int32) : Prop := (0 ≤ i ∧ i < nI (N 0)) ∧ (6 ≤ t ∧ t ≤ 18) ∧ 0 ≤ x ∧ x ≤ 60
theorem c_walkB (hok : sp_Ok N V) (hr : RC 30 J N V) (i t x : Int32) (h : ¬ sp_walkOk N i t x) : ax_cal E (d + 3) n_X11_walk [.ref 0, .int i, .int t, .int x] (ax_hC tl rtl J) = some (some (.int (-1)), ax_hC tl rtl J) := by
  refine ax_of (t := t_X11_walk) (ls := [.ref 0, .int i, .int t, .int x]) rfl ⟨rfl, Nat.le_of_ble_eq_true rfl⟩ rfl ?_
  repeat refine bs rfl ?_
  refine bc rfl (c_isPerson hok hr i) ?_
  repeat refine bs rfl ?_
  refine bz rfl (fun p => ?_) (fun p => ?_)
  · repeat refine bs rfl ?_
    exact br rfl ⟨rfl, rfl⟩
  · repeat refine bs rfl ?_
    refine bc rfl (c_isHour _ t) ?_
    repeat refine bs rfl ?_
    refine bz rfl (fun p2 => ?_) (fun p2 => ?_)
    · repeat refine bs rfl ?_
      exact br rfl ⟨rfl, rfl⟩
    · repeat refine bs rfl ?_
      refine bc rfl (c_isCell _ x) ?_
      repeat refine bs rfl ?_
      refine bz rfl (fun p3 => ?_) (fun p3 => absurd ⟨p, p2, p3⟩ h)
      repeat refine bs rfl ?_
      exact br rfl ⟨rfl, rfl⟩
theorem c_walkF (hok : sp_Ok N V) (hr : RC 30 J N V) (i t x : Int32) (h : sp_walkOk N i t x) (h9 : ¬ N 1 < 9) : ax_cal E (d + 3) n_X11_walk [.ref 0, .int i, .int t, .int x] (ax_hC tl rtl J) = some (some (.int (-3)), ax_hC tl rtl J) := by
  have hm : J 35 4 = nI (N 1) := hr.2.2.1
  have h91 := hok.2.1
  have e9 : N 1 = 9 := by omega
  rw [e9] at hm
  refine ax_of (t := t_X11_walk) (ls := [.ref 0, .int i, .int t, .int x]) rfl ⟨rfl, Nat.le_of_ble_eq_true rfl⟩ rfl ?_
  repeat refine bs rfl ?_
  refine bc rfl (c_isPerson hok hr i) ?_
  repeat refine bs rfl ?_
  refine bz rfl (fun p => absurd h.1 p) (fun p => ?_)
  repeat refine bs rfl ?_
  refine bc rfl (c_isHour _ t) ?_
  repeat refine bs rfl ?_
  refine bz rfl (fun p => absurd h.2.1 p) (fun p => ?_)
  repeat refine bs rfl ?_
  refine bc rfl (c_isCell _ x) ?_
  repeat refine bs rfl ?_
  refine bz rfl (fun p => absurd h.2.2 p) (fun p => ?_)
  repeat refine bs rfl ?_
  refine bc rfl (c_addWalkF hm i t x) ?_
  repeat refine bs rfl ?_
  exact br rfl ⟨rfl, rfl⟩
theorem c_walk (hok : sp_Ok N V) (hr : RC 30 J N V) (hm : J 5 2 = nI m) (h8 : m ≤ 8) (i t x : Int32) (h : sp_walkOk N i t x) (h9 : N 1 < 9) : ∃ G o m', ax_cal E (d + 3) n_X11_walk [.ref 0, .int i, .int t, .int x] (ax_hC tl rtl J) = some (some (.int (nI (N 1) + 1)), ax_hC tl rtl G) ∧ m' + o = m ∧ (if m < 8 then o = 0 else o = 1) ∧ (∀ q, q ≠ 5 → q ≠ 6 → q ≠ 7 → G q = (va_up (va_up (va_up (va_up J 37 (upd (J 37) (N 1) i)) 38 (upd (J 38) (N 1) t)) 39 (upd (J 39) (N 1) x)) 35 (upd (J 35) 4 (nI (N 1) + 1))) q) ∧ G 5 2 = nI (m' + 1) ∧ (∀ k, k < m' → G 6 k = J 6 (k + o) ∧ G 7 k = J 7 (k + o)) ∧ G 6 m' = -1 ∧ G 7 m' = 0 := by
  have hw : J 35 4 = nI (N 1) := hr.2.2.1
  obtain ⟨G, o, m', e, a1, a2, hq, rest⟩ := c_chadd (E := E) (d := d) (tl := tl) (rtl := rtl) (J := va_up (va_up (va_up (va_up J 37 (upd (J 37) (N 1) i)) 38 (upd (J 38) (N 1) t)) 39 (upd (J 39) (N 1) x)) 35 (upd (J 35) 4 (nI (N 1) + 1))) (m := m) hm h8 (-1) 0
  refine ⟨G, o, m', ?_, a1, a2, hq, rest⟩
  have hG : G 35 4 = nI (N 1) + 1 := by rw [hq 35 (by decide) (by decide) (by decide)]; rfl
  refine ax_of (t := t_X11_walk) (ls := [.ref 0, .int i, .int t, .int x]) rfl ⟨rfl, Nat.le_of_ble_eq_true rfl⟩ rfl ?_
  repeat refine bs rfl ?_
  refine bc rfl (c_isPerson hok hr i) ?_
  repeat refine bs rfl ?_
  refine bz rfl (fun p => absurd h.1 p) (fun p => ?_)
  repeat refine bs rfl ?_
  refine bc rfl (c_isHour _ t) ?_
  repeat refine bs rfl ?_
  refine bz rfl (fun p => absurd h.2.1 p) (fun p => ?_)
  repeat refine bs rfl ?_
  refine bc rfl (c_isCell _ x) ?_
  repeat refine bs rfl ?_
  refine bz rfl (fun p => absurd h.2.2 p) (fun p => ?_)
  repeat refine bs rfl ?_
  refine bc rfl (c_addWalk hw h9 i t x) ?_
  repeat refine bs rfl ?_
  refine bc rfl e ?_
  repeat refine bs rfl ?_
  exact br rfl ⟨by rw [hG], rfl⟩
theorem c_undo0 (hm : J 5 2 = 0) : ax_cal E (d + 2) n_X11_undo [.ref 0] (ax_hC tl rtl J) = some (some (.int (-2)), ax_hC tl rtl J) := by
  have e : ax_cal E (d + 1) n_X0_takeBack [.ref 5, .ref 35] (ax_hC tl rtl J) = some (some (.int 0), ax_hC tl rtl J) := by
    refine ax_of (t := t_X0_takeBack) (ls := [.ref 5, .ref 35]) rfl ⟨rfl, Nat.le_of_ble_eq_true rfl⟩ rfl ?_
    repeat refine bs rfl ?_
    refine bt rfl hm ?_
    repeat refine bs rfl ?_
    exact br rfl ⟨rfl, rfl⟩
  refine ax_of (t := t_X11_undo) (ls := [.ref 0]) rfl ⟨rfl, Nat.le_of_ble_eq_true rfl⟩ rfl ?_
  repeat refine bs rfl ?_
  refine bc rfl e ?_
  repeat refine bs rfl ?_
  exact br rfl ⟨rfl, rfl⟩
/-- a walk is undone -/
theorem c_undoW (hm : J 5 2 = nI (m + 1)) (h8 : m < 8) (hw : J 6 m = -1) : ax_cal E (d + 2) n_X11_undo [.ref 0] (ax_hC tl rtl J) = some (some (.int (nI m)), ax_hC tl rtl (va_up (va_up J 5 (upd (J 5) 2 (nI m))) 35 (upd (J 35) 4 (J 35 4 - 1)))) := by
  have e : ax_cal E (d + 1) n_X0_takeBack [.ref 5, .ref 35] (ax_hC tl rtl J) = some (some (.int 1), ax_hC tl rtl (va_up (va_up J 5 (upd (J 5) 2 (nI m))) 35 (upd (J 35) 4 (J 35 4 - 1)))) := by
    refine ax_of (t := t_X0_takeBack) (ls := [.ref 5, .ref 35]) rfl ⟨rfl, Nat.le_of_ble_eq_true rfl⟩ rfl ?_
    repeat refine bs rfl ?_
    refine bf rfl (by rw [hm]; exact nI_ne0 (by omega) (by omega)) ?_
    repeat refine bs rfl ?_
    rw [hm, nI_pred]
    refine bld rfl m rfl (by omega) (by omega) ?_
    repeat refine bs rfl ?_
    refine bt rfl hw ?_
    repeat refine bs rfl ?_
    exact br rfl ⟨rfl, rfl⟩
  refine ax_of (t := t_X11_undo) (ls := [.ref 0]) rfl ⟨rfl, Nat.le_of_ble_eq_true rfl⟩ rfl ?_
  repeat refine bs rfl ?_
  refine bc rfl e ?_
  repeat refine bs rfl ?_
  exact br rfl ⟨rfl, rfl⟩
/-- a change of what is taken in is undone -/
theorem c_undoA (hm : J 5 2 = nI (m + 1)) (h8 : m < 8) {a : Nat} (ha : a < 6) (hw : J 6 m = nI a) : ax_cal E (d + 2) n_X11_undo [.ref 0] (ax_hC tl rtl J) = some (some (.int (nI m)), ax_hC tl rtl (va_up (va_up J 5 (upd (J 5) 2 (nI m))) 36 (upd (J 36) a (J 7 m)))) := by
  have e : ax_cal E (d + 1) n_X0_takeBack [.ref 5, .ref 35] (ax_hC tl rtl J) = some (some (.int 1), ax_hC tl rtl (va_up (va_up J 5 (upd (J 5) 2 (nI m))) 36 (upd (J 36) a (J 7 m)))) := by
    refine ax_of (t := t_X0_takeBack) (ls := [.ref 5, .ref 35]) rfl ⟨rfl, Nat.le_of_ble_eq_true rfl⟩ rfl ?_
    repeat refine bs rfl ?_
    refine bf rfl (by rw [hm]; exact nI_ne0 (by omega) (by omega)) ?_
    repeat refine bs rfl ?_
    rw [hm, nI_pred]
    refine bld rfl m rfl (by omega) (by omega) ?_
    repeat refine bs rfl ?_
    refine bf rfl (show ¬ J 6 m = -1 by rw [hw]; exact fun q => absurd (i_eq.mp q) (by rw [nI_toInt (by omega), show (-1 : Int32).toInt = -1 from by decide]; omega)) ?_
    repeat refine bs rfl ?_
    refine bld rfl m rfl (by omega) (by omega) ?_
    repeat refine bs rfl ?_
    refine bld rfl m rfl (by omega) (by omega) ?_
    refine bsto rfl a hw (by omega) (by omega) ?_
    repeat refine bs rfl ?_
    exact br rfl ⟨rfl, rfl⟩
  refine ax_of (t := t_X11_undo) (ls := [.ref 0]) rfl ⟨rfl, Nat.le_of_ble_eq_true rfl⟩ rfl ?_
  repeat refine bs rfl ?_
  refine bc rfl e ?_
  repeat refine bs rfl ?_
  exact br rfl ⟨rfl, rfl⟩
end CH
