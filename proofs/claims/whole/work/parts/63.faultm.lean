/-! contracts of the reference: readItem, fault -/
theorem ps_sw2 : ∀ j : Fin 127, (j.val = 102 ∨ j.val = 108 ∨ j.val = 111 ∨ j.val = 112 ∨ j.val = 114 ∨ j.val = 119) ∨ ax_sw 102 119 [133, 138, 138, 138, 138, 138, 118, 138, 138, 128, 108, 138, 123, 138, 138, 138, 138, 113] 138 (nI j.val).toInt = 138 := by decide +kernel
theorem ps_item_le {tx : Nat → Int32} {nt p : Nat} {N : Nat → Nat} {V : Nat → Nat → Int32} {q : Nat × (Nat → Nat) × (Nat → Nat → Int32)} (hp : p < nt) (h : ps_item tx nt p N V = some q) : p + 1 ≤ q.1 ∧ q.1 ≤ nt := by
  unfold ps_item at h
  cases hn : ps_nums tx nt (ps_many (tx p)) 0 (p + 1) (fun _ => 0) with
  | none => rw [hn] at h; cases h
  | some e =>
    rw [hn] at h
    have hle := ps_nums_le hn (by omega)
    have h : (match ps_add (tx p) N V e.2 with
      | none => none
      | some q => some (e.1, q)) = some q := h
    cases ha : ps_add (tx p) N V e.2 with
    | none => rw [ha] at h; cases h
    | some x =>
      rw [ha] at h
      cases h
      exact ⟨by omega, hle.2⟩
theorem ps_item_ok {tx : Nat → Int32} {nt p : Nat} {N : Nat → Nat} {V : Nat → Nat → Int32} {q : Nat × (Nat → Nat) × (Nat → Nat → Int32)} (hok : sp_Ok N V) (h : ps_item tx nt p N V = some q) : sp_Ok q.2.1 q.2.2 := by
  unfold ps_item at h
  cases hn : ps_nums tx nt (ps_many (tx p)) 0 (p + 1) (fun _ => 0) with
  | none => rw [hn] at h; cases h
  | some e =>
    rw [hn] at h
    have h : (match ps_add (tx p) N V e.2 with
      | none => none
      | some q => some (e.1, q)) = some q := h
    cases ha : ps_add (tx p) N V e.2 with
    | none => rw [ha] at h; cases h
    | some x =>
      rw [ha] at h
      cases h
      exact ps_add_ok hok ha
section FM
variable {E : ax_E} {d : Nat} {J : Nat → Nat → Int32} {N : Nat → Nat} {V : Nat → Nat → Int32} {nt : Nat} {tx : Nat → Int32}
theorem ps_RM_up {x : Int32} {o : Option (Nat × (Nat → Nat) × (Nat → Nat → Int32))} {r : Option Value} {g : ax_H} (h : ps_RM (va_up J 68 (upd (J 68) 19 x)) o r g) : ps_RM J o r g := by
  obtain ⟨G, e, f, m⟩ := h
  refine ⟨G, e, ⟨fun q hq => ?_, fun k hk => ?_⟩, m⟩
  · rw [f.1 q hq, va_up_ne _ _ (by omega)]
  · rw [f.2 k hk]
    show upd (J 68) 19 x k = _
    rw [pk_un (by omega)]
theorem m_item (ht : RTm J nt tx) (hr : RMr J N V) (hok : sp_Ok N V) {p : Nat} (h19 : J 68 19 = nI p) (hp : p < nt) : ∃ r g, ax_cal E (d + 5) n_X12_readItem [.ref 68] (ax_h J) = some (r, g) ∧ ps_RM J (ps_item tx nt p N V) r g := by
  have h200 := ht.1
  have hl := m_letterAt (E := E) (d := d + 3) ht (k := p) (by omega)
  rw [← h19, show ps_L tx nt p = tx p from if_pos hp] at hl
  have hrg : 32 ≤ tx p ∧ tx p ≤ 126 := by
    have h := ht.2.2.2 p hp
    have e1 : (32 : Int32).toInt = 32 := by decide
    have e2 : (126 : Int32).toInt = 126 := by decide
    exact ⟨i_le.mpr (by omega), i_le.mpr (by omega)⟩
  have ht' : RTm (va_up J 68 (upd (J 68) 19 (J 68 19 + 1))) nt tx := RTm_of rfl rfl ht
  have hr' : RMr (va_up J 68 (upd (J 68) 19 (J 68 19 + 1))) N V := hr
  have h19' : (va_up J 68 (upd (J 68) 19 (J 68 19 + 1))) 68 19 = nI (p + 1) := by
    show J 68 19 + 1 = _
    rw [h19, nI_succ]
  have hit : ps_item tx nt p N V = ps_after tx nt (tx p) (ps_many (tx p)) (p + 1) N V := rfl
  rw [hit]
  refine ax_ofQ (t := t_X12_readItem) (ls := [.ref 68, .float 0]) rfl ⟨rfl, Nat.le_of_ble_eq_true rfl⟩ rfl ?_
  repeat refine bs rfl ?_
  refine bc rfl hl ?_
  iterate 9 refine bs rfl ?_
  have ret : ∀ {pc : Nat} {o : Option (Nat × (Nat → Nat) × (Nat → Nat → Int32))} {r : Option Value} {g : ax_H} {ls : List Value}, (∀ (x : Int32) (h : ax_H), ax_stp E (ax_cal E (d + 4)) t_X12_readItem pc (pc, ls, [.int x], h) = if x = 0 ∨ x = 1 then some (.inr (some (.int x), h)) else none) → ps_RM (va_up J 68 (upd (J 68) 19 (J 68 19 + 1))) o r g → AW E (ax_cal E (d + 4)) t_X12_readItem (pc, ls, r.toList ++ [], g) (ps_RM J o) := by
    intro pc o r g ls hz hQ
    have hQ' := ps_RM_up hQ
    cases o with
    | none =>
      obtain ⟨G, e, f, m⟩ := hQ
      have m : r = some (.int 0) := m
      subst m
      exact brt (hz 0 g) (Or.inl rfl) hQ'
    | some q =>
      obtain ⟨G, e, f, m, m2⟩ := hQ
      have m : r = some (.int 1) := m
      subst m
      exact brt (hz 1 g) (Or.inr rfl) hQ'
  rcases ps_letter hrg with hc | hc | hc | hc | hc | hc | ⟨h0, j, hj, hc, n1, n2, n3, n4, n5, n6⟩
  · rw [hc]
    show AW E _ _ (108, _, _, _) _
    obtain ⟨r, g, e1, hQ⟩ := m_personOf (E := E) (d := d) ht' hr' hok h19' (by omega)
    repeat refine bs rfl ?_
    refine bc rfl e1 ?_
    exact ret (fun _ _ => rfl) hQ
  · rw [hc]
    show AW E _ _ (113, _, _, _) _
    obtain ⟨r, g, e1, hQ⟩ := m_walkOf (E := E) (d := d) ht' hr' hok h19' (by omega)
    repeat refine bs rfl ?_
    refine bc rfl e1 ?_
    exact ret (fun _ _ => rfl) hQ
  · rw [hc]
    show AW E _ _ (118, _, _, _) _
    obtain ⟨r, g, e1, hQ⟩ := m_lawOf (E := E) (d := d) ht' hr' hok h19' (by omega)
    repeat refine bs rfl ?_
    refine bc rfl e1 ?_
    exact ret (fun _ _ => rfl) hQ
  · rw [hc]
    show AW E _ _ (133, _, _, _) _
    obtain ⟨r, g, e1, hQ⟩ := m_fittingOf (E := E) (d := d) ht' hr' hok h19' (by omega)
    repeat refine bs rfl ?_
    refine bc rfl e1 ?_
    exact ret (fun _ _ => rfl) hQ
  · rw [hc]
    show AW E _ _ (123, _, _, _) _
    obtain ⟨r, g, e1, hQ⟩ := m_remnantOf (E := E) (d := d) ht' hr' hok h19' (by omega)
    repeat refine bs rfl ?_
    refine bc rfl e1 ?_
    exact ret (fun _ _ => rfl) hQ
  · rw [hc]
    show AW E _ _ (128, _, _, _) _
    obtain ⟨r, g, e1, hQ⟩ := m_orderOf (E := E) (d := d) ht' hr' hok h19' (by omega)
    repeat refine bs rfl ?_
    refine bc rfl e1 ?_
    exact ret (fun _ _ => rfl) hQ
  · rw [ps_after_f (fun a => ps_add_0 h0), hc, ps_sw ps_sw2 hj n1 n2 n3 n4 n5 n6]
    repeat refine bs rfl ?_
    exact br rfl ⟨_, rfl, ⟨fun q hq => by rw [va_up_ne _ _ (by omega)], fun k hk => by show upd (J 68) 19 _ k = _; rw [pk_un (by omega)]⟩, rfl⟩
/-- what fault leaves behind -/
def ps_RF (J : Nat → Nat → Int32) (F : Option Nat × (Nat → Nat) × (Nat → Nat → Int32)) (r : Option Value) (g : ax_H) : Prop := r = some (.int (ps_ans F.1)) ∧ ∃ G, g = ax_h G ∧ ps_fr J G ∧ (F.1 = none → RMr G F.2.1 F.2.2 ∧ sp_Ok F.2.1 F.2.2)
theorem m_fault (ht : RTm J nt tx) : ∃ r g, ax_cal E (d + 6) n_X12_fault [.ref 68] (ax_h J) = some (r, g) ∧ ps_RF J (ps_all tx nt) r g := by
  have h200 := ht.1
  refine ax_ofQ (t := t_X12_fault) (ls := [.ref 68, .float 0]) rfl ⟨rfl, Nat.le_of_ble_eq_true rfl⟩ rfl ?_
  have loop : ∀ (j p : Nat), nt ≤ p + j → p ≤ nt → ∀ (x1 : Value) (G : Nat → Nat → Int32) (N : Nat → Nat) (V : Nat → Nat → Int32), ps_fr J G → G 68 19 = nI p → RMr G N V → sp_Ok N V → AW E (ax_cal E (d + 5)) t_X12_fault (59, [.ref 68, x1], [.int (G 68 18), .int (G 68 19)], ax_h G) (ps_RF J (ps_run tx nt j p N V)) := by
    intro j
    induction j with
    | zero =>
      intro p h1 h2 x1 G N V hf h19 hr hok
      have hG : RTm G nt tx := RTm_of (hf.2 18 (by decide)) (hf.1 78 (by decide)) ht
      refine bt rfl (by rw [hG.2.1, h19]; exact nI_le (by omega) (by omega)) ?_
      repeat refine bs rfl ?_
      exact br rfl ⟨rfl, G, rfl, hf, fun _ => ⟨hr, hok⟩⟩
    | succ j ih =>
      intro p h1 h2 x1 G N V hf h19 hr hok
      have hG : RTm G nt tx := RTm_of (hf.2 18 (by decide)) (hf.1 78 (by decide)) ht
      rw [ps_run]
      by_cases c : p < nt
      · rw [if_pos c]
        refine bf rfl (by rw [hG.2.1, h19]; exact nI_ge (by omega) (by omega)) ?_
        obtain ⟨r, g, e1, G', rfl, f', m⟩ := m_item (E := E) (d := d) hG hr hok h19 c
        have hf' : ps_fr J G' := ⟨fun q hq => (f'.1 q hq).trans (hf.1 q hq), fun k hk => (f'.2 k hk).trans (hf.2 k hk)⟩
        repeat refine bs rfl ?_
        refine bc rfl e1 ?_
        cases hi : ps_item tx nt p N V with
        | none =>
          rw [hi] at m
          have m : r = some (.int 0) := m
          subst m
          repeat refine bs rfl ?_
          refine br rfl ⟨?_, G', rfl, hf', fun h => by cases h⟩
          rw [h19]
          rfl
        | some q =>
          rw [hi] at m
          obtain ⟨m, m2, m3⟩ : r = some (.int 1) ∧ G' 68 19 = nI q.1 ∧ RMr G' q.2.1 q.2.2 := m
          subst m
          have hle := ps_item_le c hi
          have ih := ih q.1 (by omega) (by omega) (.int (G 68 19)) G' q.2.1 q.2.2 hf' m2 m3 (ps_item_ok hok hi)
          repeat refine bs rfl ?_
          exact ih
      · rw [if_neg c]
        refine bt rfl (by rw [hG.2.1, h19]; exact nI_le (by omega) (by omega)) ?_
        repeat refine bs rfl ?_
        exact br rfl ⟨rfl, G, rfl, hf, fun _ => ⟨hr, hok⟩⟩
  have zero : ∀ (j k : Nat), k + j = 34 → ∀ G : Nat → Nat → Int32, ps_fr J G → G 68 19 = 0 → G 68 21 = 0 → G 68 23 = 0 → G 68 25 = 0 → G 68 27 = 0 → G 68 29 = 0 → (∀ i, i < k → G 85 i = 0) → AW E (ax_cal E (d + 5)) t_X12_fault (35, [.ref 68, .int (nI k)], [.int 34, .int (nI k)], ax_h G) (ps_RF J (ps_all tx nt)) := by
    intro j
    induction j with
    | zero =>
      intro k hk G hf a1 a2 a3 a4 a5 a6 h85
      refine bt rfl (nI_le (a := 34) (by omega) (by omega)) ?_
      have l0 := loop nt 0 (by omega) (by omega) (.int (nI k)) G (fun _ => 0) (fun _ _ => 0) hf a1 ⟨a2, fun i hi => absurd hi (Nat.not_lt_zero _), h85 6 (by omega), fun i hi => absurd hi (Nat.not_lt_zero _), a3, fun i hi => absurd hi (Nat.not_lt_zero _), a4, fun i hi => absurd hi (Nat.not_lt_zero _), a5, fun i hi => absurd hi (Nat.not_lt_zero _), a6, fun i hi => absurd hi (Nat.not_lt_zero _)⟩ sp_Ok0
      repeat refine bs rfl ?_
      exact l0
    | succ j ih =>
      intro k hk G hf a1 a2 a3 a4 a5 a6 h85
      have ih := ih (k + 1) (by omega)
      rw [nI_succ] at ih
      refine bf rfl (nI_ge (b := 34) (by omega) (by omega)) ?_
      repeat refine bs rfl ?_
      refine bsto rfl k rfl (by omega) (by omega) ?_
      repeat refine bs rfl ?_
      refine ih _ ⟨fun q hq => by rw [va_up_ne _ _ (by omega), hf.1 q hq], hf.2⟩ a1 a2 a3 a4 a5 a6 (fun i hi => ?_)
      show upd (G 85) k 0 i = 0
      by_cases e : i = k
      · rw [e, pk_us]
      · rw [pk_un e]
        exact h85 i (by omega)
  iterate 22 refine bs rfl ?_
  refine zero 34 0 rfl _ ⟨fun q hq => ?_, fun k hk => ?_⟩ rfl rfl rfl rfl rfl rfl (fun i hi => absurd hi (by omega))
  · rw [va_up_ne _ _ (by omega), va_up_ne _ _ (by omega), va_up_ne _ _ (by omega), va_up_ne _ _ (by omega), va_up_ne _ _ (by omega), va_up_ne _ _ (by omega)]
  · show upd (upd (upd (upd (upd (upd (J 68) 19 0) 21 0) 23 0) 25 0) 27 0) 29 0 k = _
    rw [pk_un (by omega), pk_un (by omega), pk_un (by omega), pk_un (by omega), pk_un (by omega), pk_un (by omega)]
end FM
