/-! contracts of the reference: cut -/
theorem i_lt1 {n : Nat} (hn : n < 2 ^ 31) (r : Int32) : r ≤ nI n - 1 ↔ r < nI n := by
  have e1 : (1 : Int32).toInt = 1 := by decide
  have en := nI_toInt hn
  have es : (nI n - 1).toInt = (n : Int) - 1 := by rw [i_sub (by omega) (by omega), en, e1]
  rw [i_le, i_lt, es, en]
  omega
theorem i_lts {p q c : Nat} (hp : p ≤ 1000) (hq : q ≤ 1000) (hc : c ≤ 1000) : nI p - nI c < nI q - nI c ↔ p < q := by
  rw [i_lt, pk_sub_toInt (by omega) (by omega), pk_sub_toInt (by omega) (by omega)]
  omega
theorem i_eqs {p q c : Nat} (hp : p ≤ 1000) (hq : q ≤ 1000) (hc : c ≤ 1000) : nI p - nI c = nI q - nI c ↔ p = q := by
  rw [i_eq, pk_sub_toInt (by omega) (by omega), pk_sub_toInt (by omega) (by omega)]
  omega
theorem sp_smN {f : Nat → Int32} {b : Nat → Nat} : ∀ {m : Nat}, (∀ x, x < m → f x = nI (b x)) → sp_sm f m = nI (ct_sm b m)
  | 0, _ => rfl
  | m + 1, h => by rw [sp_sm, ct_sm, sp_smN (m := m) (fun x hx => h x (by omega)), h m (by omega), nI_add]
theorem RM_of {J G : Nat → Nat → Int32} {N : Nat → Nat} {V : Nat → Nat → Int32} (h : ∀ q, 68 < q → q < 75 → G q = J q) (h8 : ∀ k, k < 10 → G 68 k = J 68 k) (hr : RM J N V) : RM G N V := by
  unfold RM at hr ⊢
  rw [h 69 (by decide) (by decide), h 70 (by decide) (by decide), h 71 (by decide) (by decide), h 72 (by decide) (by decide), h 73 (by decide) (by decide), h 74 (by decide) (by decide), h8 0 (by decide), h8 2 (by decide), h8 4 (by decide), h8 6 (by decide), h8 8 (by decide)]
  exact hr
/-- what is found so far, as the reference holds it -/
def ct_B (m n : Nat) (a : Nat → Nat) (S best few least : Int32) : Option Nat → Prop
  | none => best = -4
  | some v => best = nI v ∧ few = nI (ct_us m (ct_dg m n v) n) - nI m ∧ least = nI (ct_ln m a (ct_dg m n v) n) - S
section MCU2
variable {E : ax_E} {d : Nat} {J : Nat → Nat → Int32} {N : Nat → Nat} {V : Nat → Nat → Int32}
theorem m_cutB (hok : sp_Ok N V) (hr : RM J N V) (r : Int32) (hb : ¬ sp_cutOk N r) : ax_cal E (d + 2) n_X12_cut [.ref 68, .int r] (ax_h J) = some (some (.int (-1)), ax_h J) := by
  have h7 := hok.2.2.2.1
  have hn3 : J 68 4 = nI (N 3) := hr.2.2.2.2.2.2.1
  refine ax_of (t := t_X12_cut) (ls := [.ref 68, .int r, .float 0, .float 0, .float 0, .float 0, .float 0, .float 0]) rfl ⟨rfl, Nat.le_of_ble_eq_true rfl⟩ rfl ?_
  repeat refine bs rfl ?_
  refine bc rfl (c_in _ r (-2) (J 68 4 - 1)) ?_
  repeat refine bs rfl ?_
  refine bz rfl (fun p => ?_) (fun p => ?_)
  · repeat refine bs rfl ?_
    exact br rfl ⟨rfl, rfl⟩
  · rw [hn3, i_lt1 (by omega)] at p
    exact absurd p hb
theorem m_cut (hok : sp_Ok N V) (hr : RM J N V) (r : Int32) (hb : sp_cutOk N r) : ∃ G o, ax_cal E (d + 2) n_X12_cut [.ref 68, .int r] (ax_h J) = some (some (.int (sp_cutA N V r o)), ax_h G) ∧ sp_cutP N V o ∧ (∀ q, q ≠ 68 → q ≠ 86 → G q = J q) ∧ (∀ k, k ≠ 33 → k ≠ 34 → G 68 k = J 68 k) := by
  suffices H : ∃ r' g', ax_cal E (d + 2) n_X12_cut [.ref 68, .int r] (ax_h J) = some (r', g') ∧ (∃ G o, r' = some (.int (sp_cutA N V r o)) ∧ g' = ax_h G ∧ sp_cutP N V o ∧ (∀ q, q ≠ 68 → q ≠ 86 → G q = J q) ∧ (∀ k, k ≠ 33 → k ≠ 34 → G 68 k = J 68 k)) by
    obtain ⟨r', g', e, G, o, rfl, rfl, h⟩ := H
    exact ⟨G, o, e, h⟩
  have h7 := hok.2.2.2.1
  have h3 := hok.2.2.2.2.1
  have hn3 : J 68 4 = nI (N 3) := hr.2.2.2.2.2.2.1
  have hn4 : J 68 6 = nI (N 4) := hr.2.2.2.2.2.2.2.2.1
  have ha40 : ∀ s, s < N 3 → sp_a V s ≤ 40 := fun s hs => (sp_aE hok hs).2.2
  have hWb : ∀ k, k ≤ N 3 → (N 4 + 1) ^ k ≤ 16384 := by
    intro k hk
    have e1 : (N 4 + 1) ^ k ≤ 4 ^ k := Nat.pow_le_pow_left (by omega) _
    have e2 : 4 ^ k ≤ 4 ^ 7 := Nat.pow_le_pow_right (by omega) (by omega)
    have e3 : (4 : Nat) ^ 7 = 16384 := by decide
    omega
  have hSN : sp_sm (V 11) (N 4) = nI (ct_sm (sp_b V) (N 4)) := sp_smN (fun x hx => (sp_bE hok hx).1)
  have hSb : ct_sm (sp_b V) (N 4) ≤ 60 * N 4 := ct_sm_bd (fun x hx => (sp_bE hok hx).2.2)
  refine ax_ofQ (t := t_X12_cut) (ls := [.ref 68, .int r, .float 0, .float 0, .float 0, .float 0, .float 0, .float 0]) rfl ⟨rfl, Nat.le_of_ble_eq_true rfl⟩ rfl ?_
  repeat refine bs rfl ?_
  refine bc rfl (c_in _ r (-2) (J 68 4 - 1)) ?_
  repeat refine bs rfl ?_
  refine bz rfl (fun p => absurd ⟨hb.1, by rw [hn3, i_lt1 (by omega)]; exact hb.2⟩ p) (fun p => ?_)
  have hW := hWb (N 3) (Nat.le_refl _)
  -- the answer
  have fin : ∀ (best few least : Int32) (x6 x7 : Value) (G : Nat → Nat → Int32) (o : Option Nat), ct_B (N 4) (N 3) (sp_a V) (sp_sm (V 11) (N 4)) best few least o → sp_cutP N V o → (∀ q, q ≠ 68 → q ≠ 86 → G q = J q) → (∀ k, k ≠ 33 → k ≠ 34 → G 68 k = J 68 k) → AW E (ax_cal E (d + 1)) t_X12_cut (161, [.ref 68, .int r, .int (nI ((N 4 + 1) ^ N 3)), .int best, .int few, .int least, x6, x7], [], ax_h G) (fun r' g' => ∃ G o, r' = some (.int (sp_cutA N V r o)) ∧ g' = ax_h G ∧ sp_cutP N V o ∧ (∀ q, q ≠ 68 → q ≠ 86 → G q = J q) ∧ (∀ k, k ≠ 33 → k ≠ 34 → G 68 k = J 68 k)) := by
    intro best few least x6 x7 G o hB hP k1 k2
    cases o with
    | none =>
      have hB0 : best = -4 := hB
      repeat refine bs rfl ?_
      refine bt rfl hB0 ?_
      repeat refine bs rfl ?_
      exact br rfl ⟨G, none, rfl, rfl, hP, k1, k2⟩
    | some v =>
      have hv : v < (N 4 + 1) ^ N 3 := hP.1
      have hB0 : best = nI v := hB.1
      subst hB0
      repeat refine bs rfl ?_
      refine bf rfl (nI_m4 (by omega)) ?_
      obtain ⟨G3, hc, m1, m2, m3, m4, m5⟩ := m_shares (E := E) (d := d) (J := G) hok (RM_of (fun q q1 q2 => k1 q (by omega) (by omega)) (fun k hk => k2 k (by omega) (by omega)) hr) hv
      have hq1 : ∀ q, q ≠ 68 → q ≠ 86 → G3 q = J q := fun q q1 q2 => (m1 q q1 q2).trans (k1 q q1 q2)
      have hq2 : ∀ k, k ≠ 33 → k ≠ 34 → G3 68 k = J 68 k := fun k a b => (m2 k a b).trans (k2 k a b)
      repeat refine bs rfl ?_
      refine bc rfl hc ?_
      repeat refine bs rfl ?_
      refine bb rfl (fun c => ?_) (fun c => ?_)
      · repeat refine bs rfl ?_
        refine br rfl ⟨G3, some v, ?_, rfl, hP, hq1, hq2⟩
        rw [sp_cutA, if_pos c, m3]
      · repeat refine bs rfl ?_
        refine bb rfl (fun c2 => ?_) (fun c2 => ?_)
        · repeat refine bs rfl ?_
          refine br rfl ⟨G3, some v, ?_, rfl, hP, hq1, hq2⟩
          rw [sp_cutA, if_neg c, if_pos c2, m4]
        · obtain ⟨j, hj, rfl⟩ := i_cutr (by omega) hb.1 hb.2 c c2
          have hd := ct_dg_le (N 4) (N 3) v j
          repeat (first | refine bs rfl ?_ | refine bld rfl _ rfl (by omega) (by omega) ?_)
          rw [m5 j hj, hq2 6 (by decide) (by decide), hn4]
          by_cases cc : ct_dg (N 4) (N 3) v j < N 4
          · refine bf rfl (nI_ge (by omega) (by omega)) ?_
            repeat (first | refine bs rfl ?_ | refine bld rfl _ rfl (by omega) (by omega) ?_)
            refine br rfl ⟨G3, some v, ?_, rfl, hP, hq1, hq2⟩
            rw [sp_cutA, if_neg c, if_neg c2, nI_clamp (by omega), m5 j hj, ct_ch, if_pos cc]
          · refine bt rfl (nI_le (by omega) (by omega)) ?_
            repeat (first | refine bs rfl ?_ | refine bld rfl _ rfl (by omega) (by omega) ?_)
            refine br rfl ⟨G3, some v, ?_, rfl, hP, hq1, hq2⟩
            rw [sp_cutA, if_neg c, if_neg c2, nI_clamp (by omega), ct_ch, if_neg cc]
  -- all ways
  have loop2 : ∀ (j w : Nat), w + j = (N 4 + 1) ^ N 3 → ∀ (best few least : Int32) (x7 : Value) (G : Nat → Nat → Int32) (o : Option Nat), ct_B (N 4) (N 3) (sp_a V) (sp_sm (V 11) (N 4)) best few least o → ct_P (fun w => ct_fl (N 4) (N 3) (sp_a V) (sp_b V) (ct_dg (N 4) (N 3) w)) (ct_K (N 4) (N 3) (sp_a V)) w o → (∀ q, q ≠ 68 → q ≠ 86 → G q = J q) → (∀ k, k ≠ 33 → k ≠ 34 → G 68 k = J 68 k) → AW E (ax_cal E (d + 1)) t_X12_cut (59, [.ref 68, .int r, .int (nI ((N 4 + 1) ^ N 3)), .int best, .int few, .int least, .int (nI w), x7], [.int (nI ((N 4 + 1) ^ N 3)), .int (nI w)], ax_h G) (fun r' g' => ∃ G o, r' = some (.int (sp_cutA N V r o)) ∧ g' = ax_h G ∧ sp_cutP N V o ∧ (∀ q, q ≠ 68 → q ≠ 86 → G q = J q) ∧ (∀ k, k ≠ 33 → k ≠ 34 → G 68 k = J 68 k)) := by
    intro j
    induction j with
    | zero =>
      intro w hw best few least x7 G o hB hP k1 k2
      have ew : w = (N 4 + 1) ^ N 3 := by omega
      refine bt rfl (nI_le (by omega) (by omega)) ?_
      exact fin best few least _ x7 G o hB (by rw [ew] at hP; exact hP) k1 k2
    | succ j ih =>
      intro w hw best few least x7 G o hB hP k1 k2
      refine bf rfl (nI_ge (by omega) (by omega)) ?_
      obtain ⟨G3, hc, m1, m2, m3, m4, m5⟩ := m_shares (E := E) (d := d) (J := G) hok (RM_of (fun q q1 q2 => k1 q (by omega) (by omega)) (fun k hk => k2 k (by omega) (by omega)) hr) (show w < (N 4 + 1) ^ N 3 by omega)
      have hq1 : ∀ q, q ≠ 68 → q ≠ 86 → G3 q = J q := fun q q1 q2 => (m1 q q1 q2).trans (k1 q q1 q2)
      have hq2 : ∀ k, k ≠ 33 → k ≠ 34 → G3 68 k = J 68 k := fun k a b => (m2 k a b).trans (k2 k a b)
      have hle : w ≤ w + 1 := by omega
      have leave : ct_P (fun w => ct_fl (N 4) (N 3) (sp_a V) (sp_b V) (ct_dg (N 4) (N 3) w)) (ct_K (N 4) (N 3) (sp_a V)) (w + 1) o → AW E (ax_cal E (d + 1)) t_X12_cut (108, [.ref 68, .int r, .int (nI ((N 4 + 1) ^ N 3)), .int best, .int few, .int least, .int (nI w), x7], [], ax_h G3) (fun r' g' => ∃ G o, r' = some (.int (sp_cutA N V r o)) ∧ g' = ax_h G ∧ sp_cutP N V o ∧ (∀ q, q ≠ 68 → q ≠ 86 → G q = J q) ∧ (∀ k, k ≠ 33 → k ≠ 34 → G 68 k = J 68 k)) := by
        intro hP'
        have ih := ih (w + 1) (by omega) best few least (.int 0) G3 o hB hP' hq1 hq2
        rw [nI_succ] at ih
        repeat refine bs rfl ?_
        exact ih
      have take : ct_fl (N 4) (N 3) (sp_a V) (sp_b V) (ct_dg (N 4) (N 3) w) → (∀ u, o = some u → ct_K (N 4) (N 3) (sp_a V) w < ct_K (N 4) (N 3) (sp_a V) u) → AW E (ax_cal E (d + 1)) t_X12_cut (104, [.ref 68, .int r, .int (nI ((N 4 + 1) ^ N 3)), .int best, .int few, .int least, .int (nI w), x7], [], ax_h G3) (fun r' g' => ∃ G o, r' = some (.int (sp_cutA N V r o)) ∧ g' = ax_h G ∧ sp_cutP N V o ∧ (∀ q, q ≠ 68 → q ≠ 86 → G q = J q) ∧ (∀ k, k ≠ 33 → k ≠ 34 → G 68 k = J 68 k)) := by
        intro hf hu
        have hP' : ct_P (fun w => ct_fl (N 4) (N 3) (sp_a V) (sp_b V) (ct_dg (N 4) (N 3) w)) (ct_K (N 4) (N 3) (sp_a V)) (w + 1) (some w) := ct_P_take (Nat.le_refl _) (Nat.lt_succ_self _) hf (fun x x1 x2 _ => Or.inr (by rw [show x = w by omega]; exact ⟨rfl, Nat.le_refl _⟩)) hP hu
        have ih := ih (w + 1) (by omega) (nI w) (G3 68 33) (G3 68 34) (.int 1) G3 (some w) ⟨rfl, m3, m4⟩ hP' hq1 hq2
        rw [nI_succ] at ih
        repeat refine bs rfl ?_
        exact ih
      repeat refine bs rfl ?_
      refine bc rfl hc ?_
      repeat refine bs rfl ?_
      refine bz rfl (fun p => ?_) (fun p => ?_)
      · refine leave (ct_P_skip hle (fun x x1 x2 hx => p ?_) hP)
        have : x = w := by omega
        rw [this] at hx
        exact ct_flB_iff.mpr hx
      · have hf := ct_flB_iff.mp p
        repeat refine bs rfl ?_
        cases o with
        | none =>
          have hB0 : best = -4 := hB
          refine bt rfl hB0 ?_
          exact take hf (fun u hu => by cases hu)
        | some v =>
          have hv : v < w := hP.1
          have hB0 : best = nI v := hB.1
          have b1 := ct_us_le (m := N 4) (g := ct_dg (N 4) (N 3) v) (N 3)
          have b2 := ct_ln_le (m := N 4) (g := ct_dg (N 4) (N 3) v) (a := sp_a V) (N 3) ha40
          have b3 := ct_us_le (m := N 4) (g := ct_dg (N 4) (N 3) w) (N 3)
          have b4 := ct_ln_le (m := N 4) (g := ct_dg (N 4) (N 3) w) (a := sp_a V) (N 3) ha40
          have hKv : ct_K (N 4) (N 3) (sp_a V) v = ct_us (N 4) (ct_dg (N 4) (N 3) v) (N 3) * 1000 + ct_ln (N 4) (sp_a V) (ct_dg (N 4) (N 3) v) (N 3) := rfl
          have hKw : ct_K (N 4) (N 3) (sp_a V) w = ct_us (N 4) (ct_dg (N 4) (N 3) w) (N 3) * 1000 + ct_ln (N 4) (sp_a V) (ct_dg (N 4) (N 3) w) (N 3) := rfl
          have hno : ct_K (N 4) (N 3) (sp_a V) v ≤ ct_K (N 4) (N 3) (sp_a V) w → ct_P (fun w => ct_fl (N 4) (N 3) (sp_a V) (sp_b V) (ct_dg (N 4) (N 3) w)) (ct_K (N 4) (N 3) (sp_a V)) (w + 1) (some v) := fun hle' => ct_P_worse hle (fun x x1 x2 _ => by rw [show x = w by omega]; exact hle') hP
          have e1 : few = nI (ct_us (N 4) (ct_dg (N 4) (N 3) v) (N 3)) - nI (N 4) := hB.2.1
          have e2 : least = nI (ct_ln (N 4) (sp_a V) (ct_dg (N 4) (N 3) v) (N 3)) - nI (ct_sm (sp_b V) (N 4)) := by rw [hB.2.2, hSN]
          rw [hSN] at m4
          refine bf rfl (by rw [hB0]; exact nI_m4 (by omega)) ?_
          repeat refine bs rfl ?_
          refine bb rfl (fun c => ?_) (fun c => ?_)
          · rw [m3, e1, i_lts (by omega) (by omega) (by omega)] at c
            exact take hf (fun u hu => by cases hu; rw [hKv, hKw]; omega)
          · rw [m3, e1, i_lts (by omega) (by omega) (by omega)] at c
            repeat refine bs rfl ?_
            refine bb rfl (fun c2 => ?_) (fun c2 => ?_)
            · rw [m3, e1, i_eqs (by omega) (by omega) (by omega)] at c2
              repeat refine bs rfl ?_
              refine bb rfl (fun c3 => ?_) (fun c3 => ?_)
              · have c3 : ¬ G3 68 34 < least := Int32.not_lt.mpr c3
                rw [m4, e2, i_lts (by omega) (by omega) (by omega)] at c3
                exact leave (hno (by rw [hKv, hKw]; omega))
              · have c3 : G3 68 34 < least := Int32.not_le.mp c3
                rw [m4, e2, i_lts (by omega) (by omega) (by omega)] at c3
                exact take hf (fun u hu => by cases hu; rw [hKv, hKw]; omega)
            · rw [m3, e1, i_eqs (by omega) (by omega) (by omega)] at c2
              exact leave (hno (by rw [hKv, hKw]; omega))
  have loop1 : ∀ (j k : Nat), k + j = N 3 → AW E (ax_cal E (d + 1)) t_X12_cut (26, [.ref 68, .int r, .int (nI ((N 4 + 1) ^ k)), .int (nI k), .float 0, .float 0, .float 0, .float 0], [.int (J 68 4), .int (nI k)], ax_h J) (fun r' g' => ∃ G o, r' = some (.int (sp_cutA N V r o)) ∧ g' = ax_h G ∧ sp_cutP N V o ∧ (∀ q, q ≠ 68 → q ≠ 86 → G q = J q) ∧ (∀ k, k ≠ 33 → k ≠ 34 → G 68 k = J 68 k)) := by
    intro j
    induction j with
    | zero =>
      intro k hk
      have ek : k = N 3 := by omega
      refine bt rfl (by rw [hn3]; exact nI_le (by omega) (by omega)) ?_
      have l0 := loop2 ((N 4 + 1) ^ N 3) 0 (Nat.zero_add _) (-4) 0 0 (.float 0) J none rfl (fun w hw => absurd hw (by omega)) (fun _ _ _ => rfl) (fun _ _ _ => rfl)
      rw [ek]
      iterate 10 refine bs rfl ?_
      exact l0
    | succ j ih =>
      intro k hk
      have ih := ih (k + 1) (by omega)
      rw [nI_succ, Nat.pow_succ, ← pk_mul, nI_succ, ← hn4] at ih
      refine bf rfl (by rw [hn3]; exact nI_ge (by omega) (by omega)) ?_
      repeat refine bs rfl ?_
      exact ih
  have l0 := loop1 (N 3) 0 (Nat.zero_add _)
  rw [Nat.pow_zero] at l0
  iterate 7 refine bs rfl ?_
  exact l0
end MCU2
