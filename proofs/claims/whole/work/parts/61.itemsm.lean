/-! contracts of the reference: the items -/
/-- the reading rows hold the view -/
def RMr (J : Nat → Nat → Int32) (N : Nat → Nat) (V : Nat → Nat → Int32) : Prop :=
  J 68 21 = nI (N 0) ∧ (∀ i, i < N 0 → J 80 (3 * i) = V 0 i ∧ J 80 (3 * i + 1) = V 1 i ∧ J 80 (3 * i + 2) = V 2 i ∧ J 85 i = V 3 i) ∧
  J 85 6 = nI (N 1) ∧ (∀ k, k < N 1 → J 85 (7 + 3 * k) = V 4 k ∧ J 85 (7 + 3 * k + 1) = V 5 k ∧ J 85 (7 + 3 * k + 2) = V 6 k) ∧
  J 68 23 = nI (N 2) ∧ (∀ k, k < N 2 → J 81 (3 * k) = V 7 k ∧ J 81 (3 * k + 1) = V 8 k ∧ J 81 (3 * k + 2) = V 9 k) ∧
  J 68 25 = nI (N 3) ∧ (∀ k, k < N 3 → J 82 k = V 10 k) ∧ J 68 27 = nI (N 4) ∧ (∀ k, k < N 4 → J 83 k = V 11 k) ∧ J 68 29 = nI (N 5) ∧ (∀ k, k < N 5 → J 84 (2 * k) = V 12 k ∧ J 84 (2 * k + 1) = V 13 k)
theorem RMr_of {J G : Nat → Nat → Int32} {N : Nat → Nat} {V : Nat → Nat → Int32} (h : ∀ q, q ≠ 68 → q ≠ 79 → G q = J q) (h8 : ∀ k, k ≠ 19 → G 68 k = J 68 k) (hr : RMr J N V) : RMr G N V := by
  unfold RMr at hr ⊢
  rw [h 80 (by decide) (by decide), h 81 (by decide) (by decide), h 82 (by decide) (by decide), h 83 (by decide) (by decide), h 84 (by decide) (by decide), h 85 (by decide) (by decide), h8 21 (by decide), h8 23 (by decide), h8 25 (by decide), h8 27 (by decide), h8 29 (by decide)]
  exact hr
/-- cells that a reading leaves alone -/
def ps_fr (J G : Nat → Nat → Int32) : Prop := (∀ q, q < 68 ∨ (68 < q ∧ q < 79) ∨ 85 < q → G q = J q) ∧ (∀ k, k < 19 ∨ 30 < k → G 68 k = J 68 k)
def ps_after (tx : Nat → Int32) (nt : Nat) (c : Int32) (m p : Nat) (N : Nat → Nat) (V : Nat → Nat → Int32) : Option (Nat × (Nat → Nat) × (Nat → Nat → Int32)) :=
  match ps_nums tx nt m 0 p (fun _ => 0) with
  | none => none
  | some e => match ps_add c N V e.2 with
    | none => none
    | some q => some (e.1, q)
def ps_RM (J : Nat → Nat → Int32) (o : Option (Nat × (Nat → Nat) × (Nat → Nat → Int32))) (r : Option Value) (g : ax_H) : Prop := ∃ G, g = ax_h G ∧ ps_fr J G ∧ match o with
  | none => r = some (.int 0)
  | some q => r = some (.int 1) ∧ G 68 19 = nI q.1 ∧ RMr G q.2.1 q.2.2
theorem ps_after_n {tx : Nat → Int32} {nt : Nat} {c : Int32} {m p : Nat} {N : Nat → Nat} {V : Nat → Nat → Int32} (h : ps_nums tx nt m 0 p (fun _ => 0) = none) : ps_after tx nt c m p N V = none := by
  unfold ps_after
  rw [h]
theorem ps_after_s {tx : Nat → Int32} {nt : Nat} {c : Int32} {m p : Nat} {N : Nat → Nat} {V : Nat → Nat → Int32} {e : Nat × (Nat → Int32)} (h : ps_nums tx nt m 0 p (fun _ => 0) = some e) : ps_after tx nt c m p N V = match ps_add c N V e.2 with
    | none => none
    | some q => some (e.1, q) := by
  unfold ps_after
  rw [h]
theorem ps_after_f {tx : Nat → Int32} {nt : Nat} {c : Int32} {m p : Nat} {N : Nat → Nat} {V : Nat → Nat → Int32} (h : ∀ a, ps_add c N V a = none) : ps_after tx nt c m p N V = none := by
  cases hn : ps_nums tx nt m 0 p (fun _ => 0) with
  | none => exact ps_after_n hn
  | some e => rw [ps_after_s hn, h e.2]
theorem ps_add_p {N : Nat → Nat} {V : Nat → Nat → Int32} {a : Nat → Int32} : ps_add 112 N V a = if ps_okp N a = true then some (ps_N N 0, ps_V4 V 0 (N 0) (a 0) (a 1) (a 2) (a 3)) else none := if_pos rfl
theorem ps_add_w {N : Nat → Nat} {V : Nat → Nat → Int32} {a : Nat → Int32} : ps_add 119 N V a = if ps_okh (N 1) 9 N a = true then some (ps_N N 1, ps_V3 V 4 (N 1) (a 0) (a 1) (a 2)) else none := (if_neg (by decide)).trans (if_pos rfl)
theorem ps_add_l {N : Nat → Nat} {V : Nat → Nat → Int32} {a : Nat → Int32} : ps_add 108 N V a = if ps_okh (N 2) 6 N a = true then some (ps_N N 2, ps_V3 V 7 (N 2) (a 0) (a 1) (a 2)) else none := (if_neg (by decide)).trans ((if_neg (by decide)).trans (if_pos rfl))
theorem ps_add_f {N : Nat → Nat} {V : Nat → Nat → Int32} {a : Nat → Int32} : ps_add 102 N V a = if ps_okf N a = true then some (ps_N N 5, ps_V2 V 12 (N 5) (a 0) (a 1)) else none := (if_neg (by decide)).trans ((if_neg (by decide)).trans ((if_neg (by decide)).trans (if_pos rfl)))
theorem ps_add_r {N : Nat → Nat} {V : Nat → Nat → Int32} {a : Nat → Int32} : ps_add 114 N V a = if ps_ok1 (N 3) 7 40 a = true then some (ps_N N 3, ps_V1 V 10 (N 3) (a 0)) else none := (if_neg (by decide)).trans ((if_neg (by decide)).trans ((if_neg (by decide)).trans ((if_neg (by decide)).trans (if_pos rfl))))
theorem ps_add_o {N : Nat → Nat} {V : Nat → Nat → Int32} {a : Nat → Int32} : ps_add 111 N V a = if ps_ok1 (N 4) 3 60 a = true then some (ps_N N 4, ps_V1 V 11 (N 4) (a 0)) else none := (if_neg (by decide)).trans ((if_neg (by decide)).trans ((if_neg (by decide)).trans ((if_neg (by decide)).trans ((if_neg (by decide)).trans (if_pos rfl)))))
theorem nI_neq {a b : Nat} (h : a < b) (hb : b < 2 ^ 31) : ¬ nI a = nI b := fun q => by
  have := (nI_eq (by omega) hb).mp q
  omega
section IM
variable {E : ax_E} {d : Nat} {J : Nat → Nat → Int32} {N : Nat → Nat} {V : Nat → Nat → Int32} {nt : Nat} {tx : Nat → Int32}
theorem ps_fr_refl : ps_fr J J := ⟨fun _ _ => rfl, fun _ _ => rfl⟩
theorem ps_fr_n {G : Nat → Nat → Int32} (h : ∀ q, q ≠ 68 → q ≠ 79 → G q = J q) (h8 : ∀ k, k ≠ 19 → G 68 k = J 68 k) : ps_fr J G := ⟨fun q hq => h q (by omega) (by omega), fun k hk => h8 k (by omega)⟩
theorem m_remnantOf (ht : RTm J nt tx) (hr : RMr J N V) (hok : sp_Ok N V) {p : Nat} (h19 : J 68 19 = nI p) (hp : p ≤ nt) : ∃ r g, ax_cal E (d + 4) n_X12_readRemnantOf [.ref 68] (ax_h J) = some (r, g) ∧ ps_RM J (ps_after tx nt 114 1 p N V) r g := by
  have h7 := hok.2.2.2.1
  have hn : J 68 25 = nI (N 3) := hr.2.2.2.2.2.2.1
  refine ax_ofQ (t := t_X12_readRemnantOf) (ls := [.ref 68]) rfl ⟨rfl, Nat.le_of_ble_eq_true rfl⟩ rfl ?_
  have no : ps_after tx nt 114 1 p N V = none → ∀ G, ps_fr J G → AW E (ax_cal E (d + 3)) t_X12_readRemnantOf (28, [.ref 68], [], ax_h G) (ps_RM J (ps_after tx nt 114 1 p N V)) := by
    intro h0 G hG
    rw [h0]
    repeat refine bs rfl ?_
    exact br rfl ⟨G, rfl, hG, rfl⟩
  repeat refine bs rfl ?_
  by_cases k0 : N 3 < 7
  · refine bf rfl (by rw [hn]; exact nI_neq (b := 7) k0 (by omega)) ?_
    obtain ⟨r, g, e1, G, rfl, m1, m2, m3⟩ := m_readNumbers (E := E) (d := d) ht (many := 1) h19 hp (by decide)
    repeat refine bs rfl ?_
    refine bc rfl e1 ?_
    cases hnn : ps_nums tx nt 1 0 p (fun _ => 0) with
    | none =>
      rw [hnn] at m3
      have m3 : r = some (.int 0) := m3
      subst m3
      refine bs rfl ?_
      exact no (ps_after_n hnn) G (ps_fr_n m1 m2)
    | some e =>
      rw [hnn] at m3
      obtain ⟨m3, m4, m5⟩ : r = some (.int 1) ∧ G 68 19 = nI e.1 ∧ ∀ i, i < 1 → G 79 i = e.2 i := m3
      subst m3
      have hr' := RMr_of m1 m2 hr
      have e0 : G 79 0 = e.2 0 := m5 0 (by decide)
      have ea := ps_after_s (c := 114) (N := N) (V := V) hnn
      rw [ps_add_r] at ea
      repeat refine bs rfl ?_
      refine bc rfl (m_isTold (k := 0) (by decide) 1 40) ?_
      repeat refine bs rfl ?_
      refine bz rfl (fun q => ?_) (fun k1 => ?_)
      · refine no ?_ G (ps_fr_n m1 m2)
        rw [ea, if_neg (fun h => q (by rw [e0]; exact (of_decide_eq_true h).2))]
      · rw [ea, if_pos (show ps_ok1 (N 3) 7 40 e.2 = true from decide_eq_true ⟨k0, by rw [← e0]; exact k1⟩)]
        have hn' : G 68 25 = nI (N 3) := hr'.2.2.2.2.2.2.1
        repeat refine bs rfl ?_
        refine bsto rfl (N 3) hn' (by omega) (by omega) ?_
        repeat refine bs rfl ?_
        refine br rfl ⟨_, rfl, ⟨fun q hq => ?_, fun k hk => ?_⟩, rfl, m4, ?_⟩
        · rw [va_up_ne _ _ (by omega), va_up_ne _ _ (by omega), m1 q (by omega) (by omega)]
        · show upd (G 68) 25 _ k = _
          rw [pk_un (by omega), m2 k (by omega)]
        · refine ⟨hr'.1, hr'.2.1, hr'.2.2.1, hr'.2.2.2.1, hr'.2.2.2.2.1, hr'.2.2.2.2.2.1, ?_, ?_, hr'.2.2.2.2.2.2.2.2.1, hr'.2.2.2.2.2.2.2.2.2.1, hr'.2.2.2.2.2.2.2.2.2.2.1, hr'.2.2.2.2.2.2.2.2.2.2.2⟩
          · show G 68 25 + 1 = nI (N 3 + 1)
            rw [hn', nI_succ]
          · intro i hi
            have hi : i < N 3 + 1 := hi
            show upd (G 82) (N 3) (G 79 0) i = upd (V 10) (N 3) (e.2 0) i
            rw [e0]
            by_cases q : i = N 3
            · rw [q, pk_us, pk_us]
            · rw [pk_un q, pk_un q]
              exact hr'.2.2.2.2.2.2.2.1 i (by omega)
  · refine bt rfl (by rw [hn, show N 3 = 7 by omega]; rfl) ?_
    exact no (ps_after_f (fun a => by rw [ps_add_r, if_neg (fun h => k0 (of_decide_eq_true h).1)])) J ps_fr_refl
theorem m_orderOf (ht : RTm J nt tx) (hr : RMr J N V) (hok : sp_Ok N V) {p : Nat} (h19 : J 68 19 = nI p) (hp : p ≤ nt) : ∃ r g, ax_cal E (d + 4) n_X12_readOrderOf [.ref 68] (ax_h J) = some (r, g) ∧ ps_RM J (ps_after tx nt 111 1 p N V) r g := by
  have h7 := hok.2.2.2.2.1
  have hn : J 68 27 = nI (N 4) := hr.2.2.2.2.2.2.2.2.1
  refine ax_ofQ (t := t_X12_readOrderOf) (ls := [.ref 68]) rfl ⟨rfl, Nat.le_of_ble_eq_true rfl⟩ rfl ?_
  have no : ps_after tx nt 111 1 p N V = none → ∀ G, ps_fr J G → AW E (ax_cal E (d + 3)) t_X12_readOrderOf (27, [.ref 68], [], ax_h G) (ps_RM J (ps_after tx nt 111 1 p N V)) := by
    intro h0 G hG
    rw [h0]
    repeat refine bs rfl ?_
    exact br rfl ⟨G, rfl, hG, rfl⟩
  repeat refine bs rfl ?_
  by_cases k0 : N 4 < 3
  · refine bf rfl (by rw [hn]; exact nI_neq (b := 3) k0 (by omega)) ?_
    obtain ⟨r, g, e1, G, rfl, m1, m2, m3⟩ := m_readNumbers (E := E) (d := d) ht (many := 1) h19 hp (by decide)
    repeat refine bs rfl ?_
    refine bc rfl e1 ?_
    cases hnn : ps_nums tx nt 1 0 p (fun _ => 0) with
    | none =>
      rw [hnn] at m3
      have m3 : r = some (.int 0) := m3
      subst m3
      refine bs rfl ?_
      exact no (ps_after_n hnn) G (ps_fr_n m1 m2)
    | some e =>
      rw [hnn] at m3
      obtain ⟨m3, m4, m5⟩ : r = some (.int 1) ∧ G 68 19 = nI e.1 ∧ ∀ i, i < 1 → G 79 i = e.2 i := m3
      subst m3
      have hr' := RMr_of m1 m2 hr
      have e0 : G 79 0 = e.2 0 := m5 0 (by decide)
      have ea := ps_after_s (c := 111) (N := N) (V := V) hnn
      rw [ps_add_o] at ea
      repeat refine bs rfl ?_
      refine bc rfl (m_isTold (k := 0) (by decide) 1 60) ?_
      repeat refine bs rfl ?_
      refine bz rfl (fun q => ?_) (fun k1 => ?_)
      · refine no ?_ G (ps_fr_n m1 m2)
        rw [ea, if_neg (fun h => q (by rw [e0]; exact (of_decide_eq_true h).2))]
      · rw [ea, if_pos (show ps_ok1 (N 4) 3 60 e.2 = true from decide_eq_true ⟨k0, by rw [← e0]; exact k1⟩)]
        have hn' : G 68 27 = nI (N 4) := hr'.2.2.2.2.2.2.2.2.1
        repeat refine bs rfl ?_
        refine bsto rfl (N 4) hn' (by omega) (by omega) ?_
        repeat refine bs rfl ?_
        refine br rfl ⟨_, rfl, ⟨fun q hq => ?_, fun k hk => ?_⟩, rfl, m4, ?_⟩
        · rw [va_up_ne _ _ (by omega), va_up_ne _ _ (by omega), m1 q (by omega) (by omega)]
        · show upd (G 68) 27 _ k = _
          rw [pk_un (by omega), m2 k (by omega)]
        · refine ⟨hr'.1, hr'.2.1, hr'.2.2.1, hr'.2.2.2.1, hr'.2.2.2.2.1, hr'.2.2.2.2.2.1, hr'.2.2.2.2.2.2.1, hr'.2.2.2.2.2.2.2.1, ?_, ?_, hr'.2.2.2.2.2.2.2.2.2.2.1, hr'.2.2.2.2.2.2.2.2.2.2.2⟩
          · show G 68 27 + 1 = nI (N 4 + 1)
            rw [hn', nI_succ]
          · intro i hi
            have hi : i < N 4 + 1 := hi
            show upd (G 83) (N 4) (G 79 0) i = upd (V 11) (N 4) (e.2 0) i
            rw [e0]
            by_cases q : i = N 4
            · rw [q, pk_us, pk_us]
            · rw [pk_un q, pk_un q]
              exact hr'.2.2.2.2.2.2.2.2.2.1 i (by omega)
  · refine bt rfl (by rw [hn, show N 4 = 3 by omega]; rfl) ?_
    exact no (ps_after_f (fun a => by rw [ps_add_o, if_neg (fun h => k0 (of_decide_eq_true h).1)])) J ps_fr_refl
theorem m_fittingOf (ht : RTm J nt tx) (hr : RMr J N V) (hok : sp_Ok N V) {p : Nat} (h19 : J 68 19 = nI p) (hp : p ≤ nt) : ∃ r g, ax_cal E (d + 4) n_X12_readFittingOf [.ref 68] (ax_h J) = some (r, g) ∧ ps_RM J (ps_after tx nt 102 2 p N V) r g := by
  have h7 := hok.2.2.2.2.2.1
  have hn : J 68 29 = nI (N 5) := hr.2.2.2.2.2.2.2.2.2.2.1
  refine ax_ofQ (t := t_X12_readFittingOf) (ls := [.ref 68]) rfl ⟨rfl, Nat.le_of_ble_eq_true rfl⟩ rfl ?_
  have no : ps_after tx nt 102 2 p N V = none → ∀ G, ps_fr J G → AW E (ax_cal E (d + 3)) t_X12_readFittingOf (39, [.ref 68], [], ax_h G) (ps_RM J (ps_after tx nt 102 2 p N V)) := by
    intro h0 G hG
    rw [h0]
    repeat refine bs rfl ?_
    exact br rfl ⟨G, rfl, hG, rfl⟩
  repeat refine bs rfl ?_
  by_cases k0 : N 5 < 6
  · refine bf rfl (by rw [hn]; exact nI_neq (b := 6) k0 (by omega)) ?_
    obtain ⟨r, g, e1, G, rfl, m1, m2, m3⟩ := m_readNumbers (E := E) (d := d) ht (many := 2) h19 hp (by decide)
    repeat refine bs rfl ?_
    refine bc rfl e1 ?_
    cases hnn : ps_nums tx nt 2 0 p (fun _ => 0) with
    | none =>
      rw [hnn] at m3
      have m3 : r = some (.int 0) := m3
      subst m3
      refine bs rfl ?_
      exact no (ps_after_n hnn) G (ps_fr_n m1 m2)
    | some e =>
      rw [hnn] at m3
      obtain ⟨m3, m4, m5⟩ : r = some (.int 1) ∧ G 68 19 = nI e.1 ∧ ∀ i, i < 2 → G 79 i = e.2 i := m3
      subst m3
      have hr' := RMr_of m1 m2 hr
      have e0 : G 79 0 = e.2 0 := m5 0 (by decide)
      have e1 : G 79 1 = e.2 1 := m5 1 (by decide)
      have ea := ps_after_s (c := 102) (N := N) (V := V) hnn
      rw [ps_add_f] at ea
      repeat refine bs rfl ?_
      refine bc rfl (m_isTold (k := 0) (by decide) 1 9) ?_
      repeat refine bs rfl ?_
      refine bz rfl (fun q => ?_) (fun k1 => ?_)
      · refine no ?_ G (ps_fr_n m1 m2)
        rw [ea, if_neg (fun h => q (by rw [e0]; exact (of_decide_eq_true h).2.1))]
      · repeat refine bs rfl ?_
        refine bc rfl (m_isTold (k := 1) (by decide) 1 60) ?_
        repeat refine bs rfl ?_
        refine bz rfl (fun q => ?_) (fun k2 => ?_)
        · refine no ?_ G (ps_fr_n m1 m2)
          rw [ea, if_neg (fun h => q (by rw [e1]; exact (of_decide_eq_true h).2.2))]
        · rw [ea, if_pos (show ps_okf N e.2 = true from decide_eq_true ⟨k0, by rw [← e0]; exact k1, by rw [← e1]; exact k2⟩)]
          have hn' : G 68 29 = nI (N 5) := hr'.2.2.2.2.2.2.2.2.2.2.1
          have hfr : (2 : Int32) * G 68 29 = nI (2 * N 5) := by rw [hn']; exact ix_2m _
          obtain ⟨G3, g1, p1, p2, p3⟩ := m_put84_79 (E := E) (d := d + 2) (J := G) (fr := 2 * N 5) (n := 2) (by omega) (by omega)
          rw [← hfr] at g1
          repeat refine bs rfl ?_
          refine bc rfl g1 ?_
          repeat refine bs rfl ?_
          refine br rfl ⟨_, rfl, ⟨fun q hq => ?_, fun k hk => ?_⟩, rfl, ?_, ?_⟩
          · rw [va_up_ne _ _ (by omega), p1 q (by omega), m1 q (by omega) (by omega)]
          · show upd (G3 68) 29 _ k = _
            rw [pk_un (by omega), p1 68 (by decide), m2 k (by omega)]
          · show G3 68 19 = _
            rw [p1 68 (by decide), m4]
          · have hr3 : ∀ q, q ≠ 84 → G3 q = G q := p1
            refine ⟨?_, ?_, ?_, ?_, ?_, ?_, ?_, ?_, ?_, ?_, ?_, ?_⟩
            · show G3 68 21 = _
              rw [hr3 68 (by decide)]
              exact hr'.1
            · show ∀ i, i < N 0 → G3 80 (3 * i) = V 0 i ∧ G3 80 (3 * i + 1) = V 1 i ∧ G3 80 (3 * i + 2) = V 2 i ∧ G3 85 i = V 3 i
              rw [hr3 80 (by decide), hr3 85 (by decide)]
              exact hr'.2.1
            · show G3 85 6 = _
              rw [hr3 85 (by decide)]
              exact hr'.2.2.1
            · show ∀ k, k < N 1 → G3 85 (7 + 3 * k) = V 4 k ∧ G3 85 (7 + 3 * k + 1) = V 5 k ∧ G3 85 (7 + 3 * k + 2) = V 6 k
              rw [hr3 85 (by decide)]
              exact hr'.2.2.2.1
            · show G3 68 23 = _
              rw [hr3 68 (by decide)]
              exact hr'.2.2.2.2.1
            · show ∀ k, k < N 2 → G3 81 (3 * k) = V 7 k ∧ G3 81 (3 * k + 1) = V 8 k ∧ G3 81 (3 * k + 2) = V 9 k
              rw [hr3 81 (by decide)]
              exact hr'.2.2.2.2.2.1
            · show G3 68 25 = _
              rw [hr3 68 (by decide)]
              exact hr'.2.2.2.2.2.2.1
            · show ∀ k, k < N 3 → G3 82 k = V 10 k
              rw [hr3 82 (by decide)]
              exact hr'.2.2.2.2.2.2.2.1
            · show G3 68 27 = _
              rw [hr3 68 (by decide)]
              exact hr'.2.2.2.2.2.2.2.2.1
            · show ∀ k, k < N 4 → G3 83 k = V 11 k
              rw [hr3 83 (by decide)]
              exact hr'.2.2.2.2.2.2.2.2.2.1
            · show G3 68 29 + 1 = nI (N 5 + 1)
              rw [hr3 68 (by decide), hn', nI_succ]
            · intro i hi
              have hi : i < N 5 + 1 := hi
              show G3 84 (2 * i) = upd (V 12) (N 5) (e.2 0) i ∧ G3 84 (2 * i + 1) = upd (V 13) (N 5) (e.2 1) i
              by_cases q : i = N 5
              · have q0 := p2 0 (by decide)
                have q1 := p2 1 (by decide)
                rw [Nat.add_zero] at q0
                rw [q, pk_us, pk_us, q0, q1]
                exact ⟨e0, e1⟩
              · rw [pk_un q, pk_un q, p3 (2 * i) (by omega), p3 (2 * i + 1) (by omega)]
                exact hr'.2.2.2.2.2.2.2.2.2.2.2 i (by omega)
  · refine bt rfl (by rw [hn, show N 5 = 6 by omega]; rfl) ?_
    exact no (ps_after_f (fun a => by rw [ps_add_f, if_neg (fun h => k0 (of_decide_eq_true h).1)])) J ps_fr_refl
end IM
