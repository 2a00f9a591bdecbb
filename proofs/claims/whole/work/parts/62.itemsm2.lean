/-! contracts of the reference: persons, walks, laws -/
theorem RMr_rw {J : Nat → Nat → Int32} {N : Nat → Nat} {V : Nat → Nat → Int32} {G : Nat → Nat → Int32} (h : ∀ q, 79 < q → q < 86 → G q = J q) (h8 : ∀ k, 19 < k → G 68 k = J 68 k) (hr : RMr J N V) : RMr G N V := by
  unfold RMr at hr ⊢
  rw [h 80 (by decide) (by decide), h 81 (by decide) (by decide), h 82 (by decide) (by decide), h 83 (by decide) (by decide), h 84 (by decide) (by decide), h 85 (by decide) (by decide), h8 21 (by decide), h8 23 (by decide), h8 25 (by decide), h8 27 (by decide), h8 29 (by decide)]
  exact hr
section IM2
variable {E : ax_E} {d : Nat} {J : Nat → Nat → Int32} {N : Nat → Nat} {V : Nat → Nat → Int32} {nt : Nat} {tx : Nat → Int32}
theorem m_hourOf {n0 : Nat} (hn : J 68 21 = nI n0) (h6 : n0 ≤ 6) : ax_cal E (d + 3) n_X12_isHourOfOne [.ref 68] (ax_h J) = some (some (.int (if (0 ≤ J 79 0 ∧ J 79 0 < nI n0) ∧ (6 ≤ J 79 1 ∧ J 79 1 ≤ 18) ∧ (0 ≤ J 79 2 ∧ J 79 2 ≤ 60) then 1 else 0)), ax_h J) := by
  refine ax_of (t := t_X12_isHourOfOne) (ls := [.ref 68]) rfl ⟨rfl, Nat.le_of_ble_eq_true rfl⟩ rfl ?_
  repeat refine bs rfl ?_
  refine bc rfl (m_isTold (k := 0) (by decide) 0 (J 68 21 - 1)) ?_
  repeat refine bs rfl ?_
  refine bz rfl (fun q => ?_) (fun k1 => ?_)
  · rw [hn, i_lt1 (by omega)] at q
    repeat refine bs rfl ?_
    exact br rfl ⟨by rw [if_neg (fun h => q h.1)], rfl⟩
  · rw [hn, i_lt1 (by omega)] at k1
    repeat refine bs rfl ?_
    refine bc rfl (m_isTold (k := 1) (by decide) 6 18) ?_
    repeat refine bs rfl ?_
    refine bz rfl (fun q => ?_) (fun k2 => ?_)
    · repeat refine bs rfl ?_
      exact br rfl ⟨by rw [if_neg (fun h => q h.2.1)], rfl⟩
    · repeat refine bs rfl ?_
      refine bc rfl (m_isTold (k := 2) (by decide) 0 60) ?_
      repeat refine bs rfl ?_
      refine bz rfl (fun q => ?_) (fun k3 => ?_)
      · repeat refine bs rfl ?_
        exact br rfl ⟨by rw [if_neg (fun h => q h.2.2)], rfl⟩
      · repeat refine bs rfl ?_
        exact br rfl ⟨by rw [if_pos ⟨k1, k2, k3⟩], rfl⟩
theorem m_lawOf (ht : RTm J nt tx) (hr : RMr J N V) (hok : sp_Ok N V) {p : Nat} (h19 : J 68 19 = nI p) (hp : p ≤ nt) : ∃ r g, ax_cal E (d + 4) n_X12_readLawOf [.ref 68] (ax_h J) = some (r, g) ∧ ps_RM J (ps_after tx nt 108 3 p N V) r g := by
  have h0 := hok.1
  have h7 := hok.2.2.1
  have hn : J 68 23 = nI (N 2) := hr.2.2.2.2.1
  refine ax_ofQ (t := t_X12_readLawOf) (ls := [.ref 68]) rfl ⟨rfl, Nat.le_of_ble_eq_true rfl⟩ rfl ?_
  have no : ps_after tx nt 108 3 p N V = none → ∀ G, ps_fr J G → AW E (ax_cal E (d + 3)) t_X12_readLawOf (24, [.ref 68], [], ax_h G) (ps_RM J (ps_after tx nt 108 3 p N V)) := by
    intro h0 G hG
    rw [h0]
    repeat refine bs rfl ?_
    exact br rfl ⟨G, rfl, hG, rfl⟩
  repeat refine bs rfl ?_
  by_cases k0 : N 2 < 6
  · refine bf rfl (by rw [hn]; exact nI_neq (b := 6) k0 (by omega)) ?_
    obtain ⟨r, g, e1, G, rfl, m1, m2, m3⟩ := m_readNumbers (E := E) (d := d) ht (many := 3) h19 hp (by decide)
    repeat refine bs rfl ?_
    refine bc rfl e1 ?_
    cases hnn : ps_nums tx nt 3 0 p (fun _ => 0) with
    | none =>
      rw [hnn] at m3
      have m3 : r = some (.int 0) := m3
      subst m3
      refine bs rfl ?_
      exact no (ps_after_n hnn) G (ps_fr_n m1 m2)
    | some e =>
      rw [hnn] at m3
      obtain ⟨m3, m4, m5⟩ : r = some (.int 1) ∧ G 68 19 = nI e.1 ∧ ∀ i, i < 3 → G 79 i = e.2 i := m3
      subst m3
      have hr' := RMr_of m1 m2 hr
      have e0 : G 79 0 = e.2 0 := m5 0 (by decide)
      have e1 : G 79 1 = e.2 1 := m5 1 (by decide)
      have e2 : G 79 2 = e.2 2 := m5 2 (by decide)
      have ea := ps_after_s (c := 108) (N := N) (V := V) hnn
      rw [ps_add_l] at ea
      repeat refine bs rfl ?_
      refine bc rfl (m_hourOf hr'.1 h0) ?_
      repeat refine bs rfl ?_
      refine bz rfl (fun q => ?_) (fun k1 => ?_)
      · refine no ?_ G (ps_fr_n m1 m2)
        rw [ea, if_neg (fun h => q (by rw [e0, e1, e2]; exact (of_decide_eq_true h).2))]
      · rw [ea, if_pos (show ps_okh (N 2) 6 N e.2 = true from decide_eq_true ⟨k0, by rw [← e0, ← e1, ← e2]; exact k1⟩)]
        have hn' : G 68 23 = nI (N 2) := hr'.2.2.2.2.1
        have hfr : (3 : Int32) * G 68 23 = nI (3 * N 2) := by rw [hn']; exact ix_3 _
        obtain ⟨G3, g1, p1, p2, p3⟩ := m_put81_79 (E := E) (d := d + 2) (J := G) (fr := 3 * N 2) (n := 3) (by omega) (by omega)
        rw [← hfr] at g1
        repeat refine bs rfl ?_
        refine bc rfl g1 ?_
        repeat refine bs rfl ?_
        refine br rfl ⟨_, rfl, ⟨fun q hq => ?_, fun k hk => ?_⟩, rfl, ?_, ?_⟩
        · rw [va_up_ne _ _ (by omega), p1 q (by omega), m1 q (by omega) (by omega)]
        · show upd (G3 68) 23 _ k = _
          rw [pk_un (by omega), p1 68 (by decide), m2 k (by omega)]
        · show G3 68 19 = _
          rw [p1 68 (by decide), m4]
        · refine ⟨?_, ?_, ?_, ?_, ?_, ?_, ?_, ?_, ?_, ?_, ?_, ?_⟩
          · show G3 68 21 = _
            rw [p1 68 (by decide)]
            exact hr'.1
          · show ∀ i, i < N 0 → G3 80 (3 * i) = V 0 i ∧ G3 80 (3 * i + 1) = V 1 i ∧ G3 80 (3 * i + 2) = V 2 i ∧ G3 85 i = V 3 i
            rw [p1 80 (by decide), p1 85 (by decide)]
            exact hr'.2.1
          · show G3 85 6 = _
            rw [p1 85 (by decide)]
            exact hr'.2.2.1
          · show ∀ k, k < N 1 → G3 85 (7 + 3 * k) = V 4 k ∧ G3 85 (7 + 3 * k + 1) = V 5 k ∧ G3 85 (7 + 3 * k + 2) = V 6 k
            rw [p1 85 (by decide)]
            exact hr'.2.2.2.1
          · show G3 68 23 + 1 = nI (N 2 + 1)
            rw [p1 68 (by decide), hn', nI_succ]
          · intro i hi
            have hi : i < N 2 + 1 := hi
            show G3 81 (3 * i) = upd (V 7) (N 2) (e.2 0) i ∧ G3 81 (3 * i + 1) = upd (V 8) (N 2) (e.2 1) i ∧ G3 81 (3 * i + 2) = upd (V 9) (N 2) (e.2 2) i
            by_cases q : i = N 2
            · have q0 := p2 0 (by decide)
              have q1 := p2 1 (by decide)
              have q2 := p2 2 (by decide)
              rw [Nat.add_zero] at q0
              rw [q, pk_us, pk_us, pk_us, q0, q1, q2]
              exact ⟨e0, e1, e2⟩
            · rw [pk_un q, pk_un q, pk_un q, p3 (3 * i) (by omega), p3 (3 * i + 1) (by omega), p3 (3 * i + 2) (by omega)]
              exact hr'.2.2.2.2.2.1 i (by omega)
          · show G3 68 25 = _
            rw [p1 68 (by decide)]
            exact hr'.2.2.2.2.2.2.1
          · show ∀ k, k < N 3 → G3 82 k = V 10 k
            rw [p1 82 (by decide)]
            exact hr'.2.2.2.2.2.2.2.1
          · show G3 68 27 = _
            rw [p1 68 (by decide)]
            exact hr'.2.2.2.2.2.2.2.2.1
          · show ∀ k, k < N 4 → G3 83 k = V 11 k
            rw [p1 83 (by decide)]
            exact hr'.2.2.2.2.2.2.2.2.2.1
          · show G3 68 29 = _
            rw [p1 68 (by decide)]
            exact hr'.2.2.2.2.2.2.2.2.2.2.1
          · show ∀ k, k < N 5 → G3 84 (2 * k) = V 12 k ∧ G3 84 (2 * k + 1) = V 13 k
            rw [p1 84 (by decide)]
            exact hr'.2.2.2.2.2.2.2.2.2.2.2
  · refine bt rfl (by rw [hn, show N 2 = 6 by omega]; rfl) ?_
    exact no (ps_after_f (fun a => by rw [ps_add_l, if_neg (fun h => k0 (of_decide_eq_true h).1)])) J ps_fr_refl
theorem m_walkOf (ht : RTm J nt tx) (hr : RMr J N V) (hok : sp_Ok N V) {p : Nat} (h19 : J 68 19 = nI p) (hp : p ≤ nt) : ∃ r g, ax_cal E (d + 4) n_X12_readWalk [.ref 68] (ax_h J) = some (r, g) ∧ ps_RM J (ps_after tx nt 119 3 p N V) r g := by
  have h0 := hok.1
  have h7 := hok.2.1
  have hn : J 85 6 = nI (N 1) := hr.2.2.1
  refine ax_ofQ (t := t_X12_readWalk) (ls := [.ref 68]) rfl ⟨rfl, Nat.le_of_ble_eq_true rfl⟩ rfl ?_
  have no : ps_after tx nt 119 3 p N V = none → ∀ G, ps_fr J G → AW E (ax_cal E (d + 3)) t_X12_readWalk (27, [.ref 68], [], ax_h G) (ps_RM J (ps_after tx nt 119 3 p N V)) := by
    intro h0 G hG
    rw [h0]
    repeat refine bs rfl ?_
    exact br rfl ⟨G, rfl, hG, rfl⟩
  repeat refine bs rfl ?_
  by_cases k0 : N 1 < 9
  · refine bf rfl (show ¬ J 85 6 = 9 by rw [hn]; exact nI_neq (b := 9) k0 (by omega)) ?_
    obtain ⟨r, g, e1, G, rfl, m1, m2, m3⟩ := m_readNumbers (E := E) (d := d) ht (many := 3) h19 hp (by decide)
    repeat refine bs rfl ?_
    refine bc rfl e1 ?_
    cases hnn : ps_nums tx nt 3 0 p (fun _ => 0) with
    | none =>
      rw [hnn] at m3
      have m3 : r = some (.int 0) := m3
      subst m3
      refine bs rfl ?_
      exact no (ps_after_n hnn) G (ps_fr_n m1 m2)
    | some e =>
      rw [hnn] at m3
      obtain ⟨m3, m4, m5⟩ : r = some (.int 1) ∧ G 68 19 = nI e.1 ∧ ∀ i, i < 3 → G 79 i = e.2 i := m3
      subst m3
      have hr' := RMr_of m1 m2 hr
      have e0 : G 79 0 = e.2 0 := m5 0 (by decide)
      have e1 : G 79 1 = e.2 1 := m5 1 (by decide)
      have e2 : G 79 2 = e.2 2 := m5 2 (by decide)
      have ea := ps_after_s (c := 119) (N := N) (V := V) hnn
      rw [ps_add_w] at ea
      repeat refine bs rfl ?_
      refine bc rfl (m_hourOf hr'.1 h0) ?_
      repeat refine bs rfl ?_
      refine bz rfl (fun q => ?_) (fun k1 => ?_)
      · refine no ?_ G (ps_fr_n m1 m2)
        rw [ea, if_neg (fun h => q (by rw [e0, e1, e2]; exact (of_decide_eq_true h).2))]
      · rw [ea, if_pos (show ps_okh (N 1) 9 N e.2 = true from decide_eq_true ⟨k0, by rw [← e0, ← e1, ← e2]; exact k1⟩)]
        have hn' : G 85 6 = nI (N 1) := hr'.2.2.1
        have hfr : (7 : Int32) + 3 * G 85 6 = nI (7 + 3 * N 1) := by rw [hn']; exact ix_7 _
        obtain ⟨G3, g1, p1, p2, p3⟩ := m_put85_79 (E := E) (d := d + 2) (J := G) (fr := 7 + 3 * N 1) (n := 3) (by omega) (by omega)
        rw [← hfr] at g1
        repeat refine bs rfl ?_
        refine bc rfl g1 ?_
        repeat refine bs rfl ?_
        have h856 : G3 85 6 = nI (N 1) := by rw [p3 6 (by omega), hn']
        refine br rfl ⟨_, rfl, ⟨fun q hq => ?_, fun k hk => ?_⟩, rfl, ?_, ?_⟩
        · rw [va_up_ne _ _ (by omega), p1 q (by omega), m1 q (by omega) (by omega)]
        · show G3 68 k = _
          rw [p1 68 (by decide), m2 k (by omega)]
        · show G3 68 19 = _
          rw [p1 68 (by decide), m4]
        · refine ⟨?_, ?_, ?_, ?_, ?_, ?_, ?_, ?_, ?_, ?_, ?_, ?_⟩
          · show G3 68 21 = _
            rw [p1 68 (by decide)]
            exact hr'.1
          · intro i hi
            have hi : i < N 0 := hi
            show G3 80 (3 * i) = V 0 i ∧ G3 80 (3 * i + 1) = V 1 i ∧ G3 80 (3 * i + 2) = V 2 i ∧ upd (G3 85) 6 (G3 85 6 + 1) i = V 3 i
            rw [p1 80 (by decide), pk_un (by omega), p3 i (by omega)]
            exact hr'.2.1 i hi
          · show G3 85 6 + 1 = nI (N 1 + 1)
            rw [h856, nI_succ]
          · intro i hi
            have hi : i < N 1 + 1 := hi
            show upd (G3 85) 6 (G3 85 6 + 1) (7 + 3 * i) = upd (V 4) (N 1) (e.2 0) i ∧ upd (G3 85) 6 (G3 85 6 + 1) (7 + 3 * i + 1) = upd (V 5) (N 1) (e.2 1) i ∧ upd (G3 85) 6 (G3 85 6 + 1) (7 + 3 * i + 2) = upd (V 6) (N 1) (e.2 2) i
            rw [pk_un (show 7 + 3 * i ≠ 6 by omega), pk_un (show 7 + 3 * i + 1 ≠ 6 by omega), pk_un (show 7 + 3 * i + 2 ≠ 6 by omega)]
            by_cases q : i = N 1
            · have q0 := p2 0 (by decide)
              have q1 := p2 1 (by decide)
              have q2 := p2 2 (by decide)
              rw [Nat.add_zero] at q0
              rw [q, pk_us, pk_us, pk_us, q0, q1, q2]
              exact ⟨e0, e1, e2⟩
            · rw [pk_un q, pk_un q, pk_un q, p3 (7 + 3 * i) (by omega), p3 (7 + 3 * i + 1) (by omega), p3 (7 + 3 * i + 2) (by omega)]
              exact hr'.2.2.2.1 i (by omega)
          · show G3 68 23 = _
            rw [p1 68 (by decide)]
            exact hr'.2.2.2.2.1
          · show ∀ k, k < N 2 → G3 81 (3 * k) = V 7 k ∧ G3 81 (3 * k + 1) = V 8 k ∧ G3 81 (3 * k + 2) = V 9 k
            rw [p1 81 (by decide)]
            exact hr'.2.2.2.2.2.1
          · show G3 68 25 = _
            rw [p1 68 (by decide)]
            exact hr'.2.2.2.2.2.2.1
          · show ∀ k, k < N 3 → G3 82 k = V 10 k
            rw [p1 82 (by decide)]
            exact hr'.2.2.2.2.2.2.2.1
          · show G3 68 27 = _
            rw [p1 68 (by decide)]
            exact hr'.2.2.2.2.2.2.2.2.1
          · show ∀ k, k < N 4 → G3 83 k = V 11 k
            rw [p1 83 (by decide)]
            exact hr'.2.2.2.2.2.2.2.2.2.1
          · show G3 68 29 = _
            rw [p1 68 (by decide)]
            exact hr'.2.2.2.2.2.2.2.2.2.2.1
          · show ∀ k, k < N 5 → G3 84 (2 * k) = V 12 k ∧ G3 84 (2 * k + 1) = V 13 k
            rw [p1 84 (by decide)]
            exact hr'.2.2.2.2.2.2.2.2.2.2.2
  · refine bt rfl (show J 85 6 = 9 by rw [hn, show N 1 = 9 by omega]; rfl) ?_
    exact no (ps_after_f (fun a => by rw [ps_add_w, if_neg (fun h => k0 (of_decide_eq_true h).1)])) J ps_fr_refl
theorem m_personOf (ht : RTm J nt tx) (hr : RMr J N V) (hok : sp_Ok N V) {p : Nat} (h19 : J 68 19 = nI p) (hp : p ≤ nt) : ∃ r g, ax_cal E (d + 4) n_X12_readPersonOf [.ref 68] (ax_h J) = some (r, g) ∧ ps_RM J (ps_after tx nt 112 4 p N V) r g := by
  have h0 := hok.1
  have h1 := hok.2.1
  have hn : J 68 21 = nI (N 0) := hr.1
  refine ax_ofQ (t := t_X12_readPersonOf) (ls := [.ref 68]) rfl ⟨rfl, Nat.le_of_ble_eq_true rfl⟩ rfl ?_
  have no : ps_after tx nt 112 4 p N V = none → ∀ G, ps_fr J G → AW E (ax_cal E (d + 3)) t_X12_readPersonOf (60, [.ref 68], [], ax_h G) (ps_RM J (ps_after tx nt 112 4 p N V)) := by
    intro h0 G hG
    rw [h0]
    repeat refine bs rfl ?_
    exact br rfl ⟨G, rfl, hG, rfl⟩
  repeat refine bs rfl ?_
  by_cases k0 : N 0 < 6
  · refine bf rfl (by rw [hn]; exact nI_neq (b := 6) k0 (by omega)) ?_
    obtain ⟨r, g, e1, G, rfl, m1, m2, m3⟩ := m_readNumbers (E := E) (d := d) ht (many := 4) h19 hp (by decide)
    repeat refine bs rfl ?_
    refine bc rfl e1 ?_
    cases hnn : ps_nums tx nt 4 0 p (fun _ => 0) with
    | none =>
      rw [hnn] at m3
      have m3 : r = some (.int 0) := m3
      subst m3
      refine bs rfl ?_
      exact no (ps_after_n hnn) G (ps_fr_n m1 m2)
    | some e =>
      rw [hnn] at m3
      obtain ⟨m3, m4, m5⟩ : r = some (.int 1) ∧ G 68 19 = nI e.1 ∧ ∀ i, i < 4 → G 79 i = e.2 i := m3
      subst m3
      have hr' := RMr_of m1 m2 hr
      have e0 : G 79 0 = e.2 0 := m5 0 (by decide)
      have e1 : G 79 1 = e.2 1 := m5 1 (by decide)
      have e2 : G 79 2 = e.2 2 := m5 2 (by decide)
      have e3 : G 79 3 = e.2 3 := m5 3 (by decide)
      have ea := ps_after_s (c := 112) (N := N) (V := V) hnn
      rw [ps_add_p] at ea
      repeat refine bs rfl ?_
      refine bc rfl (m_isTold (k := 0) (by decide) 0 60) ?_
      repeat refine bs rfl ?_
      refine bz rfl (fun q => no (by rw [ea, if_neg (fun h => q (by rw [e0]; exact (of_decide_eq_true h).2.1))]) G (ps_fr_n m1 m2)) (fun k1 => ?_)
      repeat refine bs rfl ?_
      refine bc rfl (m_isTold (k := 1) (by decide) 1 9) ?_
      repeat refine bs rfl ?_
      refine bz rfl (fun q => no (by rw [ea, if_neg (fun h => q (by rw [e1]; exact (of_decide_eq_true h).2.2.1))]) G (ps_fr_n m1 m2)) (fun k2 => ?_)
      repeat refine bs rfl ?_
      refine bc rfl (m_isTold (k := 2) (by decide) 0 3) ?_
      repeat refine bs rfl ?_
      refine bz rfl (fun q => no (by rw [ea, if_neg (fun h => q (by rw [e2]; exact (of_decide_eq_true h).2.2.2.1))]) G (ps_fr_n m1 m2)) (fun k3 => ?_)
      repeat refine bs rfl ?_
      refine bc rfl (m_isTold (k := 3) (by decide) 0 20) ?_
      repeat refine bs rfl ?_
      refine bz rfl (fun q => no (by rw [ea, if_neg (fun h => q (by rw [e3]; exact (of_decide_eq_true h).2.2.2.2))]) G (ps_fr_n m1 m2)) (fun k4 => ?_)
      rw [ea, if_pos (show ps_okp N e.2 = true from decide_eq_true ⟨k0, by rw [← e0]; exact k1, by rw [← e1]; exact k2, by rw [← e2]; exact k3, by rw [← e3]; exact k4⟩)]
      have hn' : G 68 21 = nI (N 0) := hr'.1
      have hfr : (3 : Int32) * G 68 21 = nI (3 * N 0) := by rw [hn']; exact ix_3 _
      obtain ⟨G3, g1, p1, p2, p3⟩ := m_put80_79 (E := E) (d := d + 2) (J := G) (fr := 3 * N 0) (n := 3) (by omega) (by omega)
      have hn3 : G3 68 21 = nI (N 0) := by rw [p1 68 (by decide), hn']
      rw [← hfr] at g1
      repeat refine bs rfl ?_
      refine bc rfl g1 ?_
      repeat refine bs rfl ?_
      refine bsto rfl (N 0) (by rw [hn3]; exact ix_0 _) (by omega) (by omega) ?_
      repeat refine bs rfl ?_
      refine br rfl ⟨_, rfl, ⟨fun q hq => ?_, fun k hk => ?_⟩, rfl, ?_, ?_⟩
      · rw [va_up_ne _ _ (by omega), va_up_ne _ _ (by omega), p1 q (by omega), m1 q (by omega) (by omega)]
      · show upd (G3 68) 21 _ k = _
        rw [pk_un (by omega), p1 68 (by decide), m2 k (by omega)]
      · show G3 68 19 = _
        rw [p1 68 (by decide), m4]
      · refine ⟨?_, ?_, ?_, ?_, ?_, ?_, ?_, ?_, ?_, ?_, ?_, ?_⟩
        · show G3 68 21 + 1 = nI (N 0 + 1)
          rw [hn3, nI_succ]
        · intro i hi
          have hi : i < N 0 + 1 := hi
          show G3 80 (3 * i) = upd (V 0) (N 0) (e.2 0) i ∧ G3 80 (3 * i + 1) = upd (V 1) (N 0) (e.2 1) i ∧ G3 80 (3 * i + 2) = upd (V 2) (N 0) (e.2 2) i ∧ upd (G3 85) (N 0) (G3 79 3) i = upd (V 3) (N 0) (e.2 3) i
          by_cases q : i = N 0
          · have q0 := p2 0 (by decide)
            have q1 := p2 1 (by decide)
            have q2 := p2 2 (by decide)
            rw [Nat.add_zero] at q0
            rw [q, pk_us, pk_us, pk_us, pk_us, pk_us, q0, q1, q2, p1 79 (by decide)]
            exact ⟨e0, e1, e2, e3⟩
          · rw [pk_un q, pk_un q, pk_un q, pk_un q, pk_un q, p3 (3 * i) (by omega), p3 (3 * i + 1) (by omega), p3 (3 * i + 2) (by omega), p1 85 (by decide)]
            exact hr'.2.1 i (by omega)
        · show upd (G3 85) (N 0) (G3 79 3) 6 = _
          rw [pk_un (by omega), p1 85 (by decide)]
          exact hr'.2.2.1
        · intro i hi
          have hi : i < N 1 := hi
          show upd (G3 85) (N 0) (G3 79 3) (7 + 3 * i) = V 4 i ∧ upd (G3 85) (N 0) (G3 79 3) (7 + 3 * i + 1) = V 5 i ∧ upd (G3 85) (N 0) (G3 79 3) (7 + 3 * i + 2) = V 6 i
          rw [pk_un (by omega), pk_un (by omega), pk_un (by omega), p1 85 (by decide)]
          exact hr'.2.2.2.1 i hi
        · show G3 68 23 = _
          rw [p1 68 (by decide)]
          exact hr'.2.2.2.2.1
        · show ∀ k, k < N 2 → G3 81 (3 * k) = V 7 k ∧ G3 81 (3 * k + 1) = V 8 k ∧ G3 81 (3 * k + 2) = V 9 k
          rw [p1 81 (by decide)]
          exact hr'.2.2.2.2.2.1
        · show G3 68 25 = _
          rw [p1 68 (by decide)]
          exact hr'.2.2.2.2.2.2.1
        · show ∀ k, k < N 3 → G3 82 k = V 10 k
          rw [p1 82 (by decide)]
          exact hr'.2.2.2.2.2.2.2.1
        · show G3 68 27 = _
          rw [p1 68 (by decide)]
          exact hr'.2.2.2.2.2.2.2.2.1
        · show ∀ k, k < N 4 → G3 83 k = V 11 k
          rw [p1 83 (by decide)]
          exact hr'.2.2.2.2.2.2.2.2.2.1
        · show G3 68 29 = _
          rw [p1 68 (by decide)]
          exact hr'.2.2.2.2.2.2.2.2.2.2.1
        · show ∀ k, k < N 5 → G3 84 (2 * k) = V 12 k ∧ G3 84 (2 * k + 1) = V 13 k
          rw [p1 84 (by decide)]
          exact hr'.2.2.2.2.2.2.2.2.2.2.2
  · refine bt rfl (by rw [hn, show N 0 = 6 by omega]; rfl) ?_
    exact no (ps_after_f (fun a => by rw [ps_add_p, if_neg (fun h => k0 (of_decide_eq_true h).1)])) J ps_fr_refl
end IM2
