/-! contracts: taken (class) -/
theorem sp_wk_rg {wI wT wX : Nat → Int32} {i t home : Int32} {P : Int32 → Prop} (h0 : P home) : ∀ n, (∀ k, k < n → P (wX k)) → P (sp_wk wI wT wX i t home n).1
  | 0, _ => h0
  | n + 1, h => by
    rw [sp_wk]
    split
    · exact h n (by omega)
    · exact sp_wk_rg h0 n (fun k hk => h k (by omega))
theorem sp_cell_rg {N : Nat → Nat} {V : Nat → Nat → Int32} (hok : sp_Ok N V) {a : Nat} (ha : a < N 0) (t : Int32) : 0 ≤ (sp_cell N V a t).toInt ∧ (sp_cell N V a t).toInt ≤ 60 := by
  unfold sp_cell
  exact sp_wk_rg (P := fun x => 0 ≤ x.toInt ∧ x.toInt ≤ 60) (hok.2.2.2.2.2.2.1 a ha).1 (N 1) (fun k hk => (hok.2.2.2.2.2.2.2.1 k hk).2.2)
/-- how far a person is, on the way of another's shadow -/
def sp_dist (N : Nat → Nat) (V : Nat → Nat → Int32) (a j : Nat) (t : Int32) : Int32 := (sp_cell N V j t - sp_cell N V a t) * sp_way V a t
theorem sp_dist_rg {N : Nat → Nat} {V : Nat → Nat → Int32} (hok : sp_Ok N V) {a j : Nat} (ha : a < N 0) (hj : j < N 0) (t : Int32) : -60 ≤ (sp_dist N V a j t).toInt ∧ (sp_dist N V a j t).toInt ≤ 60 := by
  have h1 := sp_cell_rg hok ha t
  have h2 := sp_cell_rg hok hj t
  have e : (sp_cell N V j t - sp_cell N V a t).toInt = (sp_cell N V j t).toInt - (sp_cell N V a t).toInt := i_sub (by omega) (by omega)
  unfold sp_dist
  rcases sp_way_pm V a t with w | w
  · rw [w, i_mul (by rw [show (-1 : Int32).toInt = -1 from by decide]; omega) (by rw [show (-1 : Int32).toInt = -1 from by decide]; omega), show (-1 : Int32).toInt = -1 from by decide]
    omega
  · rw [w, i_mul (by rw [show (1 : Int32).toInt = 1 from by decide]; omega) (by rw [show (1 : Int32).toInt = 1 from by decide]; omega), show (1 : Int32).toInt = 1 from by decide]
    omega
/-- c is enough for the first n laws -/
def sp_DL (V : Nat → Nat → Int32) (a n : Nat) (c : Int) : Prop := ∀ k, k < n → V 7 k = nI a → (sp_full V a (V 8 k)).toInt - (V 9 k).toInt ≤ c
/-- c is enough for the first n persons, at an hour -/
def sp_DS (N : Nat → Nat) (V : Nat → Nat → Int32) (a n : Nat) (t : Int32) (c : Int) : Prop := ∀ j, j < n → 0 < (sp_dist N V a j t).toInt → (sp_full V a t).toInt - (sp_dist N V a j t).toInt + 1 ≤ c
/-- c is enough for n hours from k on -/
def sp_DH (N : Nat → Nat) (V : Nat → Nat → Int32) (a k n : Nat) (c : Int) : Prop := ∀ h, h < n → sp_DS N V a (N 0) (nI (k + h)) c
theorem i_max {x y : Int32} : (if x < y then y else x).toInt = if x.toInt < y.toInt then y.toInt else x.toInt := by
  by_cases h : x < y
  · rw [if_pos h, if_pos (i_lt.mp h)]
  · rw [if_neg h, if_neg (fun q => h (i_lt.mpr q))]
section TC
variable {E : ax_E} {d : Nat} {tl : List (Nat × Nat)} {rtl : List (List (Option Nat))} {J : Nat → Nat → Int32} {N : Nat → Nat} {V : Nat → Nat → Int32}
theorem c_needLaws (hok : sp_Ok N V) (hr : RC 30 J N V) {a : Nat} (ha : a < N 0) : ∃ m : Int32, ax_cal E (d + 2) n_X7_neededByLaws [.ref 31, .int (nI a)] (ax_hC tl rtl J) = some (some (.int m), ax_hC tl rtl J) ∧ (0 ≤ m.toInt ∧ m.toInt ≤ 61) ∧ ∀ c : Int, 0 ≤ c → (m.toInt ≤ c ↔ sp_DL V a (N 2) c) := by
  suffices H : ∃ r g, ax_cal E (d + 2) n_X7_neededByLaws [.ref 31, .int (nI a)] (ax_hC tl rtl J) = some (r, g) ∧ (g = ax_hC tl rtl J ∧ ∃ m : Int32, r = some (.int m) ∧ (0 ≤ m.toInt ∧ m.toInt ≤ 61) ∧ ∀ c : Int, 0 ≤ c → (m.toInt ≤ c ↔ sp_DL V a (N 2) c)) by
    obtain ⟨r, g, e, rfl, m, rfl, h⟩ := H
    exact ⟨m, e, h⟩
  have h6 := hok.1
  have h62 := hok.2.2.1
  have hn : J 31 9 = nI (N 2) := hr.2.2.2.2.1
  have hL := hr.2.2.2.2.2.1
  have hK := hok.2.2.2.2.2.2.2.2.1
  refine ax_ofQ (t := t_X7_neededByLaws) (ls := [.ref 31, .int (nI a), .float 0, .float 0]) rfl ⟨rfl, Nat.le_of_ble_eq_true rfl⟩ rfl ?_
  have loop : ∀ (j n : Nat), n + j = N 2 → ∀ m : Int32, (0 ≤ m.toInt ∧ m.toInt ≤ 61) → (∀ c : Int, 0 ≤ c → (m.toInt ≤ c ↔ sp_DL V a n c)) → AW E (ax_cal E (d + 1)) t_X7_neededByLaws (9, [.ref 31, .int (nI a), .int m, .int (nI n)], [.int (J 31 9), .int (nI n)], ax_hC tl rtl J) (fun r g => g = ax_hC tl rtl J ∧ ∃ m : Int32, r = some (.int m) ∧ (0 ≤ m.toInt ∧ m.toInt ≤ 61) ∧ ∀ c : Int, 0 ≤ c → (m.toInt ≤ c ↔ sp_DL V a (N 2) c)) := by
    intro j
    induction j with
    | zero =>
      intro n hn' m hm hc
      refine bt rfl (by rw [hn]; exact nI_le (by omega) (by omega)) ?_
      repeat refine bs rfl ?_
      exact br rfl ⟨rfl, m, rfl, hm, by rw [← show n = N 2 by omega]; exact hc⟩
    | succ j ih =>
      intro n hn' m hm hc
      have ih := ih (n + 1) (by omega)
      rw [nI_succ] at ih
      obtain ⟨v1, v2, v3⟩ := hL n (by omega)
      have hKn := hK n (by omega)
      obtain ⟨q, e3, e4, -⟩ := i_nn (x := V 8 n) (by omega)
      obtain ⟨f, hf, ef⟩ := sp_fullN hok ha (show 6 ≤ q by omega) (show q ≤ 18 by omega)
      have hfi : (sp_full V a (V 8 n)).toInt = f := by rw [e3, ef, nI_toInt (by omega)]
      have hsub : (sp_full V a (nI q) - V 9 n).toInt = f - (V 9 n).toInt := by
        rw [← e3, i_sub (by omega) (by omega), hfi]
      refine bf rfl (by rw [hn]; exact nI_ge (by omega) (by omega)) ?_
      repeat (first | refine bs rfl ?_ | refine bld rfl _ rfl (by omega) (by omega) ?_)
      rw [v1]
      by_cases c1 : V 7 n = nI a
      · refine bt rfl c1 ?_
        repeat (first | refine bs rfl ?_ | refine bld rfl _ rfl (by omega) (by omega) ?_)
        rw [v2, e3]
        refine bc rfl (c_fullLength hok hr ha (by omega) (by omega)) ?_
        repeat (first | refine bs rfl ?_ | refine bld rfl _ rfl (by omega) (by omega) ?_)
        rw [v3]
        repeat (first | refine bs rfl ?_ | refine bld rfl _ rfl (by omega) (by omega) ?_)
        refine ih _ ?_ ?_
        · rw [i_max, hsub]
          split <;> omega
        · intro c h0
          rw [i_max, hsub]
          have hcc := hc c h0
          constructor
          · intro h k hk hv
            by_cases e : k = n
            · subst e
              rw [hfi]
              split at h <;> omega
            · exact hcc.mp (by split at h <;> omega) k (by omega) hv
          · intro h
            have h2 := hcc.mpr (fun k hk => h k (by omega))
            have h3 := h n (by omega) c1
            rw [hfi] at h3
            split <;> omega
      · refine bf rfl c1 ?_
        repeat (first | refine bs rfl ?_ | refine bld rfl _ rfl (by omega) (by omega) ?_)
        refine ih m hm ?_
        intro c h0
        rw [hc c h0]
        constructor
        · intro h k hk hv
          by_cases e : k = n
          · subst e
            exact absurd hv c1
          · exact h k (by omega) hv
        · intro h k hk
          exact h k (by omega)
  have l0 := loop (N 2) 0 (Nat.zero_add _) 0 (by decide) (fun c h0 => ⟨fun _ k hk => absurd hk (by omega), fun _ => h0⟩)
  iterate 7 refine bs rfl ?_
  exact l0
theorem c_nsInner {G : Nat → Nat → Int32} (hok : sp_Ok N V) (hr : RC 30 G N V) {a k l t : Nat} (ha : a < N 0) (ht6 : 6 ≤ t) (ht : t ≤ 18) (h43 : ∀ i, i < N 0 → G 43 i = sp_cell N V i (nI t)) {P : Int → Prop} {Q : Option Value → ax_H → Prop}
  (hend : ∀ (m : Int32) (l8 : Value), (0 ≤ m.toInt ∧ m.toInt ≤ 61) → (∀ c : Int, 0 ≤ c → (m.toInt ≤ c ↔ P c ∧ sp_DS N V a (N 0) (nI t) c)) → AW E (ax_cal E (d + 3)) t_X7_neededByStanders (82, [.ref 31, .int (nI a), .int (nI k), .int (nI l), .int m, .int (nI t), .ref 43, .int (nI (N 0)), l8], [], ax_hC tl rtl G) Q) :
  ∀ (j i : Nat), i + j = N 0 → ∀ (m : Int32) (l8 : Value), (0 ≤ m.toInt ∧ m.toInt ≤ 61) → (∀ c : Int, 0 ≤ c → (m.toInt ≤ c ↔ P c ∧ sp_DS N V a i (nI t) c)) → AW E (ax_cal E (d + 3)) t_X7_neededByStanders (29, [.ref 31, .int (nI a), .int (nI k), .int (nI l), .int m, .int (nI t), .ref 43, .int (nI i), l8], [.int (G 31 8), .int (nI i)], ax_hC tl rtl G) Q := by
  have h6 := hok.1
  have hn : G 31 8 = nI (N 0) := hr.1
  obtain ⟨f, hf, ef⟩ := sp_fullN hok ha ht6 ht
  have hfi : (sp_full V a (nI t)).toInt = f := by rw [ef, nI_toInt (by omega)]
  have e0 : (0 : Int32).toInt = 0 := by decide
  have e1 : (1 : Int32).toInt = 1 := by decide
  intro j
  induction j with
  | zero =>
    intro i hi m l8 hm hc
    refine bt rfl (by rw [hn]; exact nI_le (by omega) (by omega)) ?_
    have ei : i = N 0 := by omega
    rw [ei]
    rw [ei] at hc
    exact hend m l8 hm hc
  | succ j ih =>
    intro i hi m l8 hm hc
    have ih := ih (i + 1) (by omega)
    rw [nI_succ] at ih
    have hd := sp_dist_rg hok ha (show i < N 0 by omega) (nI t)
    refine bf rfl (by rw [hn]; exact nI_ge (by omega) (by omega)) ?_
    repeat (first | refine bs rfl ?_ | refine bld rfl _ rfl (by omega) (by omega) ?_)
    rw [h43 i (by omega), h43 a ha]
    refine bc rfl (c_wayOf hok hr ha _) ?_
    repeat (first | refine bs rfl ?_ | refine bld rfl _ rfl (by omega) (by omega) ?_)
    by_cases c1 : sp_dist N V a i (nI t) ≤ 0
    · refine bt rfl c1 ?_
      repeat (first | refine bs rfl ?_ | refine bld rfl _ rfl (by omega) (by omega) ?_)
      refine ih m _ hm ?_
      intro c h0
      rw [hc c h0]
      constructor
      · rintro ⟨h1, h2⟩
        refine ⟨h1, fun q hq hp => ?_⟩
        by_cases e : q = i
        · subst e
          have := i_le.mp c1
          omega
        · exact h2 q (by omega) hp
      · rintro ⟨h1, h2⟩
        exact ⟨h1, fun q hq hp => h2 q (by omega) hp⟩
    · refine bf rfl c1 ?_
      have c1' : 0 < (sp_dist N V a i (nI t)).toInt := by
        have := i_lt.mp (Int32.not_le.mp c1)
        omega
      have hs1 : (sp_full V a (nI t) - sp_dist N V a i (nI t)).toInt = f - (sp_dist N V a i (nI t)).toInt := by rw [i_sub (by omega) (by omega), hfi]
      have hs2 : (sp_full V a (nI t) - sp_dist N V a i (nI t) + 1).toInt = f - (sp_dist N V a i (nI t)).toInt + 1 := by rw [i_add (by omega) (by omega), hs1, e1]
      repeat (first | refine bs rfl ?_ | refine bld rfl _ rfl (by omega) (by omega) ?_)
      refine bc rfl (c_fullLength hok hr ha ht6 ht) ?_
      repeat (first | refine bs rfl ?_ | refine bld rfl _ rfl (by omega) (by omega) ?_)
      refine ih (if m < sp_full V a (nI t) - sp_dist N V a i (nI t) + 1 then sp_full V a (nI t) - sp_dist N V a i (nI t) + 1 else m) _ ?_ ?_
      · rw [i_max, hs2]
        split <;> omega
      · intro c h0
        rw [i_max, hs2]
        have hcc := hc c h0
        constructor
        · intro h
          have h2 := hcc.mp (by split at h <;> omega)
          refine ⟨h2.1, fun q hq hp => ?_⟩
          by_cases e : q = i
          · subst e
            rw [hfi]
            split at h <;> omega
          · exact h2.2 q (by omega) hp
        · rintro ⟨h1, h2⟩
          have h3 := hcc.mpr ⟨h1, fun q hq hp => h2 q (by omega) hp⟩
          have h4 := h2 i (by omega) c1'
          rw [hfi] at h4
          split <;> omega
theorem c_needStand (hok : sp_Ok N V) (hr : RC 30 J N V) {a k l : Nat} (ha : a < N 0) (hk : 6 ≤ k) (hkl : k ≤ l) (hl : l ≤ 18) : ∃ (m : Int32) (f : Nat → Int32), ax_cal E (d + 4) n_X7_neededByStanders [.ref 31, .int (nI a), .int (nI k), .int (nI l)] (ax_hC tl rtl J) = some (some (.int m), ax_hC tl rtl (va_up J 43 f)) ∧ (0 ≤ m.toInt ∧ m.toInt ≤ 61) ∧ ∀ c : Int, 0 ≤ c → (m.toInt ≤ c ↔ sp_DH N V a k (l + 1 - k) c) := by
  suffices H : ∃ r g, ax_cal E (d + 4) n_X7_neededByStanders [.ref 31, .int (nI a), .int (nI k), .int (nI l)] (ax_hC tl rtl J) = some (r, g) ∧ ((∃ f, g = ax_hC tl rtl (va_up J 43 f)) ∧ ∃ m : Int32, r = some (.int m) ∧ (0 ≤ m.toInt ∧ m.toInt ≤ 61) ∧ ∀ c : Int, 0 ≤ c → (m.toInt ≤ c ↔ sp_DH N V a k (l + 1 - k) c)) by
    obtain ⟨r, g, e, ⟨f, rfl⟩, m, rfl, h⟩ := H
    exact ⟨m, f, e, h⟩
  have h6 := hok.1
  refine ax_ofQ (t := t_X7_neededByStanders) (ls := [.ref 31, .int (nI a), .int (nI k), .int (nI l), .float 0, .float 0, .float 0, .float 0, .float 0]) rfl ⟨rfl, Nat.le_of_ble_eq_true rfl⟩ rfl ?_
  have outer : ∀ (j n : Nat), k + n + j = l + 1 → ∀ (m : Int32) (l6 l7 l8 : Value) (f : Nat → Int32), (0 ≤ m.toInt ∧ m.toInt ≤ 61) → (∀ c : Int, 0 ≤ c → (m.toInt ≤ c ↔ sp_DH N V a k n c)) → AW E (ax_cal E (d + 3)) t_X7_neededByStanders (9, [.ref 31, .int (nI a), .int (nI k), .int (nI l), .int m, .int (nI (k + n)), l6, l7, l8], [.int (nI l), .int (nI (k + n))], ax_hC tl rtl (va_up J 43 f)) (fun r g => (∃ f, g = ax_hC tl rtl (va_up J 43 f)) ∧ ∃ m : Int32, r = some (.int m) ∧ (0 ≤ m.toInt ∧ m.toInt ≤ 61) ∧ ∀ c : Int, 0 ≤ c → (m.toInt ≤ c ↔ sp_DH N V a k (l + 1 - k) c)) := by
    intro j
    induction j with
    | zero =>
      intro n hn m l6 l7 l8 f hm hc
      refine bt rfl (nI_lt (by omega) (by omega)) ?_
      repeat refine bs rfl ?_
      exact br rfl ⟨⟨f, rfl⟩, m, rfl, hm, by rw [← show n = l + 1 - k by omega]; exact hc⟩
    | succ j ih =>
      intro n hn m l6 l7 l8 f hm hc
      have ih := ih (n + 1) (by omega)
      rw [show k + (n + 1) = k + n + 1 by omega, nI_succ (k + n)] at ih
      obtain ⟨f1, e1, hf1⟩ := c_cellsAt (E := E) (d := d) (tl := tl) (rtl := rtl) hok (rc43 (f := f) hr) (nI (k + n))
      rw [bx_uu] at e1
      refine bf rfl (nI_nlt (by omega) (by omega)) ?_
      repeat refine bs rfl ?_
      refine bc rfl e1 ?_
      have l0 := c_nsInner (E := E) (d := d) (tl := tl) (rtl := rtl) (G := va_up J 43 f1) (k := k) (l := l) hok (rc43 hr) ha (show 6 ≤ k + n by omega) (show k + n ≤ 18 by omega) hf1 (P := sp_DH N V a k n) (Q := fun r g => (∃ f, g = ax_hC tl rtl (va_up J 43 f)) ∧ ∃ m : Int32, r = some (.int m) ∧ (0 ≤ m.toInt ∧ m.toInt ≤ 61) ∧ ∀ c : Int, 0 ≤ c → (m.toInt ≤ c ↔ sp_DH N V a k (l + 1 - k) c)) (by
        intro m2 l8' hm2 hc2
        repeat refine bs rfl ?_
        refine ih m2 _ _ _ f1 hm2 ?_
        intro c h0
        rw [hc2 c h0]
        constructor
        · rintro ⟨h1, h2⟩ h hh
          by_cases e : h = n
          · subst e
            exact h2
          · exact h1 h (by omega)
        · intro h
          exact ⟨fun q hq => h q (by omega), h n (by omega)⟩) (N 0) 0 (Nat.zero_add _) m l8 hm (by
        intro c h0
        rw [hc c h0]
        exact ⟨fun h => ⟨h, fun q hq => absurd hq (by omega)⟩, fun h => h.1⟩)
      repeat refine bs rfl ?_
      exact l0
  have l0 := outer (l + 1 - k) 0 (by omega) 0 (.float 0) (.float 0) (.float 0) (J 43) (by decide) (fun c h0 => ⟨fun _ q hq => absurd hq (by omega), fun _ => h0⟩)
  rw [ax_up_id] at l0
  repeat refine bs rfl ?_
  exact l0
end TC
