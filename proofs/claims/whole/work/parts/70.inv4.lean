/-! pairs of calls: keep, back -/
section PAL
variable {E : ax_E} {d : Nat} {J : Nat → Nat → Int32} {N : Nat → Nat} {V : Nat → Nat → Int32}
theorem i_two {nk : Nat} (h : nk ≤ 2) : nk = 0 ∨ nk = 1 ∨ nk = 2 := by omega
/-- kept: what the class has copied, and what the reference has -/
theorem KP_push {G G2 : Nat → Nat → Int32} {k : Nat} (hi : IV J N V) (hk2 : k < 2) (hk : ∀ i, i < k → ∃ (n : Nat) (T : Nat → Nat → Int32), SC (10 + 5 * i) J (N 0) n T ∧ SM 76 (34 * i) J (N 0) n T ∧ st_Ok (N 0) n T) (hc : CPY J G 35 (10 + 5 * k)) (g1 : ∀ q, 9 < q → q < 20 → G2 q = G q) (g8 : G2 8 1 = nI (k + 1)) (g13 : G2 68 13 = nI (k + 1)) (g76 : ∀ x, x < 34 * k → G2 76 x = J 76 x) (g76' : ∀ x, x < 34 → G2 76 (34 * k + x) = J 74 x) : KP G2 N := by
  obtain ⟨c1, c2, c3, c4⟩ := hc
  have hr := hi.2.1
  have hm := hi.2.2.1
  have h6 := hi.1.1
  have h9 := hi.1.2.1
  refine ⟨k + 1, by omega, g8, g13, fun i hik => ?_⟩
  by_cases e : i < k
  · obtain ⟨n, T, x, y, z⟩ := hk i e
    have hn9 := z.1
    refine ⟨n, T, ?_, ?_, z⟩
    · unfold SC at x ⊢
      rw [g1 (10 + 5 * i) (by omega) (by omega), g1 (10 + 5 * i + 1) (by omega) (by omega), g1 (10 + 5 * i + 2) (by omega) (by omega), g1 (10 + 5 * i + 3) (by omega) (by omega), g1 (10 + 5 * i + 4) (by omega) (by omega), c1 (10 + 5 * i) (by omega) (by omega) (by omega) (by omega) (by omega), c1 (10 + 5 * i + 1) (by omega) (by omega) (by omega) (by omega) (by omega), c1 (10 + 5 * i + 2) (by omega) (by omega) (by omega) (by omega) (by omega), c1 (10 + 5 * i + 3) (by omega) (by omega) (by omega) (by omega) (by omega), c1 (10 + 5 * i + 4) (by omega) (by omega) (by omega) (by omega) (by omega)]
      exact x
    · refine ⟨?_, fun a ha => ?_, fun a ha => ?_⟩
      · rw [g76 _ (by omega)]; exact y.1
      · rw [g76 _ (by omega)]; exact y.2.1 a ha
      · rw [g76 _ (by omega), g76 _ (by omega), g76 _ (by omega)]; exact y.2.2 a ha
  · have ei : i = k := by omega
    subst ei
    refine ⟨N 1, V, ⟨?_, fun a ha => ?_, fun a ha => ?_⟩, ⟨?_, fun a ha => ?_, fun a ha => ?_⟩, st_Ok_of hi.1⟩
    · rw [g1 _ (by omega) (by omega), c2]; exact hr.2.2.1
    · rw [g1 _ (by omega) (by omega), c3 a (by omega)]; exact (hr.2.1 a ha).2.2.2
    · have h4 := c4 a (by omega)
      rw [g1 _ (by omega) (by omega), g1 _ (by omega) (by omega), g1 _ (by omega) (by omega), h4.1, h4.2.1, h4.2.2]; exact hr.2.2.2.1 a ha
    · rw [g76' 6 (by omega)]; exact hm.2.2.1
    · rw [g76' a (by omega)]; exact (hm.2.1 a ha).2.2.2
    · rw [g76' (7 + 3 * a) (by omega), g76' (7 + 3 * a + 1) (by omega), g76' (7 + 3 * a + 2) (by omega)]; exact hm.2.2.2.1 a ha
theorem p_keepK (hi : IV J N V) {k : Nat} (hk2 : k < 2) (h13 : J 68 13 = nI k) (hk : ∀ i, i < k → ∃ (n : Nat) (T : Nat → Nat → Int32), SC (10 + 5 * i) J (N 0) n T ∧ SM 76 (34 * i) J (N 0) n T ∧ st_Ok (N 0) n T) {G : Nat → Nat → Int32} (e1 : ax_cal E (d + 13) n_X11_keep [.ref 0] (ax_h J) = some (some (.int (nI (k + 1))), ax_h (va_up G 8 (upd (J 8) 1 (nI (k + 1)))))) (hc : CPY J G 35 (10 + 5 * k)) : PR E d n_X11_keep n_X12_keep [] J := by
  have hq : ∀ q, (q < 10 ∨ 19 < q) → G q = J q := fun q h => hc.1 q (by omega) (by omega) (by omega) (by omega) (by omega)
  have h68 : (va_up G 8 (upd (J 8) 1 (nI (k + 1)))) 68 = J 68 := hq 68 (by decide)
  obtain ⟨G2, e2, f1, f2, f3, f4, f5⟩ := m_keep (E := E) (d := d + 12) (J := va_up G 8 (upd (J 8) 1 (nI (k + 1)))) (m := k) (by rw [h68]; exact h13) hk2
  have hG2 : ∀ q, q ≠ 8 → (q < 10 ∨ 19 < q) → q ≠ 68 → q ≠ 76 → G2 q = J q := fun q q8 h q68 q76 => by rw [f1 q q68 q76, va_up_ne _ _ q8, hq q h]
  obtain ⟨i1, i2, i3, i4, i5, i6, i7, i8, i9⟩ := id hi
  refine ⟨_, _, G2, N, V, e1, e2, i1, RC_fr (fun q a b c => hG2 q (by omega) (by omega) (by omega) (by omega)) i2, RM_of (fun q a b => hG2 q (by omega) (by omega) (by omega) (by omega)) (fun x hx => by rw [f2 x (by omega), h68]) i3, TX_fr (hG2 1 (by decide) (by decide) (by decide) (by decide)) (hG2 2 (by decide) (by decide) (by decide) (by decide)) (by rw [f2 18 (by decide), h68]) (hG2 78 (by decide) (by decide) (by decide) (by decide)) i4, SE_fr (hG2 20 (by decide) (by decide) (by decide) (by decide)) (hG2 21 (by decide) (by decide) (by decide) (by decide)) (hG2 22 (by decide) (by decide) (by decide) (by decide)) (by rw [f2 15 (by decide), h68]) (hG2 77 (by decide) (by decide) (by decide) (by decide)) i5, CH_fr (hG2 5 (by decide) (by decide) (by decide) (by decide)) (hG2 6 (by decide) (by decide) (by decide) (by decide)) (hG2 7 (by decide) (by decide) (by decide) (by decide)) (by rw [f2 11 (by decide), h68]) (hG2 75 (by decide) (by decide) (by decide) (by decide)) i6, ?_, CC_fr (hG2 23 (by decide) (by decide) (by decide) (by decide)) (hG2 26 (by decide) (by decide) (by decide) (by decide)) i8, FI_fr (hG2 27 (by decide) (by decide) (by decide) (by decide)) (hG2 29 (by decide) (by decide) (by decide) (by decide)) i9⟩
  refine KP_push hi hk2 hk hc (fun q a b => by rw [f1 q (by omega) (by omega), va_up_ne _ _ (by omega)]) (by rw [f1 8 (by decide) (by decide)]; rfl) f3 (fun x hx => ?_) (fun x hx => ?_)
  · rw [f4 x hx]
    show G 76 x = _
    rw [hq 76 (by decide)]
  · rw [f5 x hx]
    show G 74 x = _
    rw [hq 74 (by decide)]
theorem p_keep (hi : IV J N V) : PR E d n_X11_keep n_X12_keep [] J := by
  obtain ⟨nk, k0, k1, k2, k3⟩ := hi.2.2.2.2.2.2.1
  rcases i_two k0 with rfl | rfl | rfl
  · obtain ⟨G, e1, hc⟩ := c_keep0 (E := E) (d := d + 10) (tl := ax_shM) (rtl := ax_rM) (J := J) k1
    exact p_keepK hi (k := 0) (by omega) k2 k3 e1 hc
  · obtain ⟨G, e1, hc⟩ := c_keep1 (E := E) (d := d + 10) (tl := ax_shM) (rtl := ax_rM) (J := J) k1
    exact p_keepK hi (k := 1) (by omega) k2 k3 e1 hc
  · exact ⟨_, J, J, N, V, c_keepF (E := E) (d := d + 10) (tl := ax_shM) (rtl := ax_rM) k1, m_keepF (E := E) (d := d + 12) k2, hi⟩
theorem p_backK (hi : IV J N V) {k : Nat} (hk2 : k < 2) (h13 : J 68 13 = nI (k + 1)) (hk : ∀ i, i < k + 1 → ∃ (n : Nat) (T : Nat → Nat → Int32), SC (10 + 5 * i) J (N 0) n T ∧ SM 76 (34 * i) J (N 0) n T ∧ st_Ok (N 0) n T) {G : Nat → Nat → Int32} (e1 : ax_cal E (d + 13) n_X11_back [.ref 0] (ax_h J) = some (some (.int (nI k)), ax_h (va_up G 5 (upd (J 5) 2 0)))) (hc : CPY (va_up J 8 (upd (J 8) 1 (nI k))) G (10 + 5 * k) 35) : PR E d n_X11_back n_X12_back [] J := by
  obtain ⟨c1, c2, c3, c4⟩ := hc
  obtain ⟨n, T, x, y, z⟩ := hk k (by omega)
  have hn9 := z.1
  have h6 := hi.1.1
  have hq : ∀ q, q ≠ 8 → (q < 35 ∨ 39 < q) → G q = J q := fun q q8 h => by rw [c1 q (by omega) (by omega) (by omega) (by omega) (by omega), va_up_ne _ _ q8]
  have h68 : (va_up G 5 (upd (J 5) 2 0)) 68 = J 68 := hq 68 (by decide) (by decide)
  obtain ⟨G2, e2, f1, f2, f3, f4, f5⟩ := m_back (E := E) (d := d + 12) (J := va_up G 5 (upd (J 5) 2 0)) (m := k) (by rw [h68]; exact h13) hk2
  have hG2 : ∀ q, q ≠ 5 → q ≠ 8 → (q < 35 ∨ 39 < q) → q ≠ 68 → q ≠ 74 → G2 q = J q := fun q q5 q8 h q68 q74 => by rw [f1 q q68 q74, va_up_ne _ _ q5, hq q q8 h]
  have h5 : G2 5 2 = 0 := by rw [f1 5 (by decide) (by decide)]; rfl
  refine ⟨_, _, G2, st_N N n, st_V V T, e1, e2, IV_st hi ?_ ?_ z ?_ ?_ ?_ ?_⟩
  · intro q q0 q1 q2 q3 q4 q5 q6 q7 q8 q9 q10 q11 q12
    exact hG2 q q1 q4 (by omega) q9 q10
  · intro a a1 a2 a3
    rw [f2 a a2 a3, h68]
  · have hb : ∀ q, 35 ≤ q → q < 40 → G2 q = G q := fun q a b => by rw [f1 q (by omega) (by omega), va_up_ne _ _ (by omega)]
    unfold SC at x ⊢
    rw [hb 35 (by decide) (by decide), hb (35 + 1) (by decide) (by decide), hb (35 + 2) (by decide) (by decide), hb (35 + 3) (by decide) (by decide), hb (35 + 4) (by decide) (by decide)]
    refine ⟨?_, fun a ha => ?_, fun a ha => ?_⟩
    · rw [c2, va_up_ne _ _ (by omega)]; exact x.1
    · rw [c3 a (by omega), va_up_ne _ _ (by omega)]; exact x.2.1 a ha
    · have h4 := c4 a (by omega)
      rw [h4.1, h4.2.1, h4.2.2, va_up_ne _ _ (by omega), va_up_ne _ _ (by omega), va_up_ne _ _ (by omega)]; exact x.2.2 a ha
  · have h76 : (va_up G 5 (upd (J 5) 2 0)) 76 = J 76 := hq 76 (by decide) (by decide)
    refine ⟨?_, fun a ha => ?_, fun a ha => ?_⟩
    · rw [Nat.zero_add, f5 6 (by omega), h76]; exact y.1
    · rw [Nat.zero_add, f5 a (by omega), h76]; exact y.2.1 a ha
    · rw [Nat.zero_add, Nat.zero_add, Nat.zero_add, f5 (7 + 3 * a) (by omega), f5 (7 + 3 * a + 1) (by omega), f5 (7 + 3 * a + 2) (by omega), h76]; exact y.2.2 a ha
  · exact ⟨0, fun _ => n, fun _ => st_V V T, by omega, h5, f4, rfl, rfl, fun a ha => absurd ha (by omega)⟩
  · refine ⟨k, by omega, ?_, f3, fun i hik => ?_⟩
    · rw [f1 8 (by decide) (by decide)]
      show G 8 1 = _
      rw [c1 8 (by decide) (by decide) (by decide) (by decide) (by decide)]
      rfl
    · obtain ⟨n', T', x', y', z'⟩ := hk i (by omega)
      refine ⟨n', T', ?_, ?_, z'⟩
      · unfold SC at x' ⊢
        rw [hG2 (10 + 5 * i) (by omega) (by omega) (by omega) (by omega) (by omega), hG2 (10 + 5 * i + 1) (by omega) (by omega) (by omega) (by omega) (by omega), hG2 (10 + 5 * i + 2) (by omega) (by omega) (by omega) (by omega) (by omega), hG2 (10 + 5 * i + 3) (by omega) (by omega) (by omega) (by omega) (by omega), hG2 (10 + 5 * i + 4) (by omega) (by omega) (by omega) (by omega) (by omega)]
        exact x'
      · unfold SM at y' ⊢
        rw [hG2 76 (by decide) (by decide) (by decide) (by decide) (by decide)]
        exact y'
theorem p_back (hi : IV J N V) : PR E d n_X11_back n_X12_back [] J := by
  obtain ⟨nk, k0, k1, k2, k3⟩ := hi.2.2.2.2.2.2.1
  rcases i_two k0 with rfl | rfl | rfl
  · exact ⟨_, J, J, N, V, c_backF (E := E) (d := d + 10) (tl := ax_shM) (rtl := ax_rM) k1, m_backF (E := E) (d := d + 12) k2, hi⟩
  · obtain ⟨G, e1, hc⟩ := c_back1 (E := E) (d := d + 10) (tl := ax_shM) (rtl := ax_rM) (J := J) k1
    exact p_backK hi (k := 0) (by omega) k2 k3 e1 hc
  · obtain ⟨G, e1, hc⟩ := c_back2 (E := E) (d := d + 10) (tl := ax_shM) (rtl := ax_rM) (J := J) k1
    exact p_backK hi (k := 1) (by omega) k2 k3 e1 hc
end PAL
