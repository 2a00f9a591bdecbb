/-! pairs of calls: alter, walk, undo, keep, back -/
section PAK
variable {E : ax_E} {d : Nat} {J : Nat → Nat → Int32} {N : Nat → Nat} {V : Nat → Nat → Int32}
theorem if_o {m o m' : Nat} (h : m' + o = m) (h2 : if m < 8 then o = 0 else o = 1) (h8 : m ≤ 8) : (m < 8 → o = 0) ∧ (¬ m < 8 → o = 1) ∧ m' < 8 := by
  by_cases c : m < 8
  · rw [if_pos c] at h2
    exact ⟨fun _ => h2, fun q => absurd c q, by omega⟩
  · rw [if_neg c] at h2
    exact ⟨fun q => absurd q c, fun _ => h2, by omega⟩
theorem p_alter (hi : IV J N V) (i c : Int32) : PR E d n_X11_alter n_X12_alter [.int i, .int c] J := by
  have h6 := hi.1.1
  by_cases hb : (0 ≤ i ∧ i < nI (N 0)) ∧ 0 ≤ c ∧ c ≤ 29
  · obtain ⟨a, ha, rfl⟩ := i_ps (n := N 0) (by omega) hb.1.1 hb.1.2
    obtain ⟨m, P, T, c0, c1, c2, c3, c4, c5⟩ := hi.2.2.2.2.2.1
    obtain ⟨G, o, m', e1, g1, g2, g3, g4, g5, g6, g7⟩ := c_alter (E := E) (d := d + 10) (tl := ax_shM) (rtl := ax_rM) hi.1 hi.2.1 c1 c0 ha c hb.2
    have hG : ∀ q, q ≠ 5 → q ≠ 6 → q ≠ 7 → q ≠ 36 → G q = J q := fun q q5 q6 q7 q36 => by rw [g3 q q5 q6 q7, va_up_ne _ _ q36]
    have hG36 : G 36 = upd (J 36) a (c - 9) := g3 36 (by decide) (by decide) (by decide)
    have hrm : RM G N V := RM_of (fun q x y => hG q (by omega) (by omega) (by omega) (by omega)) (fun k hk => by rw [hG 68 (by decide) (by decide) (by decide) (by decide)]) hi.2.2.1
    obtain ⟨G2, o2, m2, e2, f1, f2, f3, f4, f5, f6, f7⟩ := m_alter (E := E) (d := d + 10) (J := G) hi.1 hrm (m := m) (by rw [hG 68 (by decide) (by decide) (by decide) (by decide)]; exact c2) c0 ha c hb.2
    have z1 := if_o g1 g2 c0
    have z2 := if_o f1 f2 c0
    have eo : o2 = o := by
      by_cases q : m < 8
      · rw [z1.1 q, z2.1 q]
      · rw [z1.2.1 q, z2.2.1 q]
    have em : m2 = m' := by omega
    subst eo
    subst em
    have hc := i_bt (p := 0) (q := 29) hb.2 (by decide) (by decide)
    have e9 : (9 : Int32).toInt = 9 := by decide
    have hcv : (c - 9).toInt = c.toInt - 9 := by rw [i_sub (by omega) (by omega), e9]
    have hso := st_Ok_of hi.1
    refine ⟨_, G, _, st_N N (N 1), st_V V (va_up V 3 (upd (V 3) a (c - 9))), e1, e2, IV_st hi ?_ ?_ ⟨hso.1, ?_, hso.2.2⟩ ?_ ?_ ?_ ?_⟩
    · intro q q0 q1 q2 q3 q4 q5 q6 q7 q8 q9 q10 q11 q12
      rw [va_up_ne _ _ q10, f3 q q9 q11, hG q (by omega) (by omega) (by omega) (by omega)]
    · intro k k1 k2 k3
      show G2 68 k = _
      rw [f4 k k2, hG 68 (by decide) (by decide) (by decide) (by decide)]
    · intro x hx
      show -9 ≤ (upd (V 3) a (c - 9) x).toInt ∧ (upd (V 3) a (c - 9) x).toInt ≤ 20
      by_cases q : x = a
      · rw [q, pk_us]; omega
      · rw [pk_un q]; exact hso.2.1 x hx
    · have hr := hi.2.1
      refine ⟨?_, fun x hx => ?_, fun k hk => ?_⟩
      · show G2 35 4 = _
        rw [f3 35 (by decide) (by decide), hG 35 (by decide) (by decide) (by decide) (by decide)]
        exact hr.2.2.1
      · show G2 36 x = upd (V 3) a (c - 9) x
        rw [f3 36 (by decide) (by decide), hG36]
        by_cases q : x = a
        · rw [q, pk_us, pk_us]
        · rw [pk_un q, pk_un q]; exact (hr.2.1 x hx).2.2.2
      · show G2 37 k = V 4 k ∧ G2 38 k = V 5 k ∧ G2 39 k = V 6 k
        rw [f3 37 (by decide) (by decide), hG 37 (by decide) (by decide) (by decide) (by decide), f3 38 (by decide) (by decide), hG 38 (by decide) (by decide) (by decide) (by decide), f3 39 (by decide) (by decide), hG 39 (by decide) (by decide) (by decide) (by decide)]
        exact hr.2.2.2.1 k hk
    · have h74 : G 74 = J 74 := hG 74 (by decide) (by decide) (by decide) (by decide)
      have hr := hi.2.2.1
      have h9 := hi.1.2.1
      refine ⟨?_, fun x hx => ?_, fun k hk => ?_⟩
      · show upd (G 74) a (c - 9) (0 + 6) = _
        rw [pk_un (by omega), h74]
        exact hr.2.2.1
      · show upd (G 74) a (c - 9) (0 + x) = upd (V 3) a (c - 9) x
        rw [Nat.zero_add]
        by_cases q : x = a
        · rw [q, pk_us, pk_us]
        · rw [pk_un q, pk_un q, h74]; exact (hr.2.1 x hx).2.2.2
      · show upd (G 74) a (c - 9) (0 + (7 + 3 * k)) = V 4 k ∧ upd (G 74) a (c - 9) (0 + (7 + 3 * k + 1)) = V 5 k ∧ upd (G 74) a (c - 9) (0 + (7 + 3 * k + 2)) = V 6 k
        rw [pk_un (by omega), pk_un (by omega), pk_un (by omega), h74, Nat.zero_add, Nat.zero_add, Nat.zero_add]
        exact hr.2.2.2.1 k hk
    · have h5 : ∀ q, q = 5 ∨ q = 6 ∨ q = 7 → (va_up G2 74 (upd (G 74) a (c - 9))) q = G q := fun q hq => by rw [va_up_ne _ _ (by omega), f3 q (by omega) (by omega)]
      refine CH_push hi.1 hi.2.2.1 c3 c4 c5 g1 z1.2.2 (by rw [h5 5 (by decide)]; exact g4) f5 (fun k hk => by rw [h5 6 (by decide), h5 7 (by decide)]; exact g5 k hk) (fun k hk => ?_) (fun k hk => ?_) ?_
      · show G2 75 k = _
        rw [f6 k hk, hG 75 (by decide) (by decide) (by decide) (by decide)]
      · show G2 75 (34 * m2 + k) = _
        rw [f7 k hk, hG 74 (by decide) (by decide) (by decide) (by decide)]
      · rw [h5 6 (by decide), h5 7 (by decide), g6, g7]
        exact Or.inr ⟨a, ha, rfl, rfl, rfl, fun x hx hxa => pk_un hxa, fun k hk => ⟨rfl, rfl, rfl⟩⟩
    · refine KP_fr ?_ (fun q x y => ?_) ?_ ?_ hi.2.2.2.2.2.2.1
      · show G2 8 = _
        rw [f3 8 (by decide) (by decide), hG 8 (by decide) (by decide) (by decide) (by decide)]
      · rw [va_up_ne _ _ (by omega), f3 q (by omega) (by omega), hG q (by omega) (by omega) (by omega) (by omega)]
      · show G2 68 13 = _
        rw [f4 13 (by decide), hG 68 (by decide) (by decide) (by decide) (by decide)]
      · show G2 76 = _
        rw [f3 76 (by decide) (by decide), hG 76 (by decide) (by decide) (by decide) (by decide)]
  · exact ⟨_, J, J, N, V, c_alterB (E := E) (d := d + 10) (tl := ax_shM) (rtl := ax_rM) hi.1 hi.2.1 i c hb, m_alterB (E := E) (d := d + 10) hi.1 hi.2.2.1 i c hb, hi⟩
theorem p_walk (hi : IV J N V) (i t x : Int32) : PR E d n_X11_walk n_X12_walk [.int i, .int t, .int x] J := by
  have h6 := hi.1.1
  have h9 := hi.1.2.1
  by_cases hb : sp_walkOk N i t x
  · by_cases hn : N 1 < 9
    · obtain ⟨m, P, T, c0, c1, c2, c3, c4, c5⟩ := hi.2.2.2.2.2.1
      obtain ⟨G, o, m', e1, g1, g2, g3, g4, g5, g6, g7⟩ := c_walk (E := E) (d := d + 10) (tl := ax_shM) (rtl := ax_rM) hi.1 hi.2.1 c1 c0 i t x hb hn
      have hG : ∀ q, q ≠ 5 → q ≠ 6 → q ≠ 7 → q ≠ 35 → q ≠ 37 → q ≠ 38 → q ≠ 39 → G q = J q := fun q q5 q6 q7 q35 q37 q38 q39 => by rw [g3 q q5 q6 q7, va_up_ne _ _ q35, va_up_ne _ _ q39, va_up_ne _ _ q38, va_up_ne _ _ q37]
      have k35 : G 35 4 = nI (N 1) + 1 := by rw [g3 35 (by decide) (by decide) (by decide)]; rfl
      have k37 : G 37 = upd (J 37) (N 1) i := g3 37 (by decide) (by decide) (by decide)
      have k38 : G 38 = upd (J 38) (N 1) t := g3 38 (by decide) (by decide) (by decide)
      have k39 : G 39 = upd (J 39) (N 1) x := g3 39 (by decide) (by decide) (by decide)
      have h68 : G 68 = J 68 := hG 68 (by decide) (by decide) (by decide) (by decide) (by decide) (by decide) (by decide)
      have h74 : G 74 = J 74 := hG 74 (by decide) (by decide) (by decide) (by decide) (by decide) (by decide) (by decide)
      have hrm : RM G N V := RM_of (fun q a b => hG q (by omega) (by omega) (by omega) (by omega) (by omega) (by omega) (by omega)) (fun k hk => by rw [h68]) hi.2.2.1
      obtain ⟨G2, o2, m2, e2, f1, f2, f3, f4, f5, f6, f7⟩ := m_walk (E := E) (d := d + 10) (J := G) hi.1 hrm (m := m) (by rw [h68]; exact c2) c0 i t x hb hn
      have z1 := if_o g1 g2 c0
      have z2 := if_o f1 f2 c0
      have eo : o2 = o := by
        by_cases q : m < 8
        · rw [z1.1 q, z2.1 q]
        · rw [z1.2.1 q, z2.2.1 q]
      have em : m2 = m' := by omega
      subst eo
      subst em
      have hso := st_Ok_of hi.1
      have b1 := i_ps (n := N 0) (by omega) hb.1.1 hb.1.2
      have b2 := i_bt (p := 6) (q := 18) hb.2.1 (by decide) (by decide)
      have b3 := i_bt (p := 0) (q := 60) hb.2.2 (by decide) (by decide)
      refine ⟨_, G, _, st_N N (N 1 + 1), st_V V (ps_V3 V 4 (N 1) i t x), e1, e2, IV_st hi ?_ ?_ ⟨by omega, hso.2.1, fun k hk => ?_⟩ ?_ ?_ ?_ ?_⟩
      · intro q q0 q1 q2 q3 q4 q5 q6 q7 q8 q9 q10 q11 q12
        rw [va_up_ne _ _ q10, f3 q q9 q11, hG q (by omega) (by omega) (by omega) (by omega) (by omega) (by omega) (by omega)]
      · intro k k1 k2 k3
        show G2 68 k = _
        rw [f4 k k2, h68]
      · exact ⟨i_un (P := fun x => ∃ a, a < N 0 ∧ x = nI a) b1 (fun i hi => (hso.2.2 i hi).1) hk, i_un (P := fun x => 6 ≤ x.toInt ∧ x.toInt ≤ 18) b2 (fun i hi => (hso.2.2 i hi).2.1) hk, i_un (P := fun x => 0 ≤ x.toInt ∧ x.toInt ≤ 60) b3 (fun i hi => (hso.2.2 i hi).2.2) hk⟩
      · have hr := hi.2.1
        refine ⟨?_, fun y hy => ?_, fun k hk => ?_⟩
        · show G2 35 4 = _
          rw [f3 35 (by decide) (by decide), k35, nI_succ]
        · show G2 36 y = V 3 y
          rw [f3 36 (by decide) (by decide), hG 36 (by decide) (by decide) (by decide) (by decide) (by decide) (by decide) (by decide)]
          exact (hr.2.1 y hy).2.2.2
        · show G2 37 k = upd (V 4) (N 1) i k ∧ G2 38 k = upd (V 5) (N 1) t k ∧ G2 39 k = upd (V 6) (N 1) x k
          rw [f3 37 (by decide) (by decide), k37, f3 38 (by decide) (by decide), k38, f3 39 (by decide) (by decide), k39]
          by_cases q : k = N 1
          · rw [q, pk_us, pk_us, pk_us, pk_us, pk_us, pk_us]
            exact ⟨rfl, rfl, rfl⟩
          · rw [pk_un q, pk_un q, pk_un q, pk_un q, pk_un q, pk_un q]
            exact hr.2.2.2.1 k (by omega)
      · have hr := hi.2.2.1
        refine ⟨?_, fun y hy => ?_, fun k hk => ?_⟩
        · show nI (N 1) + 1 = _
          rw [nI_succ]
        · show upd (upd (upd (upd (G 74) (7 + 3 * N 1) i) (7 + 3 * N 1 + 1) t) (7 + 3 * N 1 + 2) x) 6 (nI (N 1) + 1) (0 + y) = V 3 y
          rw [pk_un (by omega), pk_un (by omega), pk_un (by omega), pk_un (by omega), h74, Nat.zero_add]
          exact (hr.2.1 y hy).2.2.2
        · show upd (upd (upd (upd (G 74) (7 + 3 * N 1) i) (7 + 3 * N 1 + 1) t) (7 + 3 * N 1 + 2) x) 6 (nI (N 1) + 1) (0 + (7 + 3 * k)) = upd (V 4) (N 1) i k ∧ upd (upd (upd (upd (G 74) (7 + 3 * N 1) i) (7 + 3 * N 1 + 1) t) (7 + 3 * N 1 + 2) x) 6 (nI (N 1) + 1) (0 + (7 + 3 * k + 1)) = upd (V 5) (N 1) t k ∧ upd (upd (upd (upd (G 74) (7 + 3 * N 1) i) (7 + 3 * N 1 + 1) t) (7 + 3 * N 1 + 2) x) 6 (nI (N 1) + 1) (0 + (7 + 3 * k + 2)) = upd (V 6) (N 1) x k
          rw [Nat.zero_add, Nat.zero_add, Nat.zero_add, pk_un (show 7 + 3 * k ≠ 6 by omega), pk_un (show 7 + 3 * k + 1 ≠ 6 by omega), pk_un (show 7 + 3 * k + 2 ≠ 6 by omega)]
          by_cases q : k = N 1
          · subst q
            rw [pk_us, pk_us, pk_us, pk_us, pk_un (show 7 + 3 * N 1 ≠ 7 + 3 * N 1 + 2 by omega), pk_un (show 7 + 3 * N 1 ≠ 7 + 3 * N 1 + 1 by omega), pk_us, pk_un (show 7 + 3 * N 1 + 1 ≠ 7 + 3 * N 1 + 2 by omega), pk_us]
            exact ⟨rfl, rfl, rfl⟩
          · have hk : k < N 1 + 1 := hk
            rw [pk_un (show k ≠ N 1 from q), pk_un (show k ≠ N 1 from q), pk_un (show k ≠ N 1 from q), pk_un (show 7 + 3 * k ≠ 7 + 3 * N 1 + 2 by omega), pk_un (show 7 + 3 * k ≠ 7 + 3 * N 1 + 1 by omega), pk_un (show 7 + 3 * k ≠ 7 + 3 * N 1 by omega), pk_un (show 7 + 3 * k + 1 ≠ 7 + 3 * N 1 + 2 by omega), pk_un (show 7 + 3 * k + 1 ≠ 7 + 3 * N 1 + 1 by omega), pk_un (show 7 + 3 * k + 1 ≠ 7 + 3 * N 1 by omega), pk_un (show 7 + 3 * k + 2 ≠ 7 + 3 * N 1 + 2 by omega), pk_un (show 7 + 3 * k + 2 ≠ 7 + 3 * N 1 + 1 by omega), pk_un (show 7 + 3 * k + 2 ≠ 7 + 3 * N 1 by omega), h74]
            exact hr.2.2.2.1 k (by omega)
      · have h5 : ∀ (f : Nat → Int32) q, q = 5 ∨ q = 6 ∨ q = 7 → (va_up G2 74 f) q = G q := fun f q hq => by rw [va_up_ne _ _ (by omega), f3 q (by omega) (by omega)]
        refine CH_push hi.1 hi.2.2.1 c3 c4 c5 g1 z1.2.2 (by rw [h5 _ 5 (by decide)]; exact g4) f5 (fun k hk => by rw [h5 _ 6 (by decide), h5 _ 7 (by decide)]; exact g5 k hk) (fun k hk => ?_) (fun k hk => ?_) ?_
        · show G2 75 k = _
          rw [f6 k hk, hG 75 (by decide) (by decide) (by decide) (by decide) (by decide) (by decide) (by decide)]
        · show G2 75 (34 * m2 + k) = _
          rw [f7 k hk, h74]
        · rw [h5 _ 6 (by decide), h5 _ 7 (by decide), g6, g7]
          exact Or.inl ⟨rfl, rfl, fun y hy => rfl, fun k hk => ⟨pk_un (by omega), pk_un (by omega), pk_un (by omega)⟩⟩
      · refine KP_fr ?_ (fun q a b => ?_) ?_ ?_ hi.2.2.2.2.2.2.1
        · show G2 8 = _
          rw [f3 8 (by decide) (by decide), hG 8 (by decide) (by decide) (by decide) (by decide) (by decide) (by decide) (by decide)]
        · rw [va_up_ne _ _ (by omega), f3 q (by omega) (by omega), hG q (by omega) (by omega) (by omega) (by omega) (by omega) (by omega) (by omega)]
        · show G2 68 13 = _
          rw [f4 13 (by decide), h68]
        · show G2 76 = _
          rw [f3 76 (by decide) (by decide), hG 76 (by decide) (by decide) (by decide) (by decide) (by decide) (by decide) (by decide)]
    · exact ⟨_, J, J, N, V, c_walkF (E := E) (d := d + 10) (tl := ax_shM) (rtl := ax_rM) hi.1 hi.2.1 i t x hb hn, m_walkF (E := E) (d := d + 10) hi.1 hi.2.2.1 i t x hb hn, hi⟩
  · exact ⟨_, J, J, N, V, c_walkB (E := E) (d := d + 10) (tl := ax_shM) (rtl := ax_rM) hi.1 hi.2.1 i t x hb, m_walkB (E := E) (d := d + 10) hi.1 hi.2.2.1 i t x hb, hi⟩
/-- back to an earlier state: the changes before it -/
theorem CH_pop {G : Nat → Nat → Int32} {m : Nat} {P : Nat → Nat} {T : Nat → Nat → Nat → Int32} (h8 : m < 8) (hD : ∀ k, k < m + 1 → SM 75 (34 * k) J (N 0) (P k) (T k) ∧ st_Ok (N 0) (P k) (T k) ∧ ch_D (N 0) (J 6 k) (J 7 k) (P k) (P (k + 1)) (T k) (T (k + 1))) (g1 : G 5 2 = nI m) (g2 : G 68 11 = nI m) (g6 : G 6 = J 6) (g7 : G 7 = J 7) (g75 : G 75 = J 75) : CH G (st_N N (P m)) (st_V V (T m)) := by
  refine ⟨m, P, fun k => if k = m then st_V V (T m) else T k, by omega, g1, g2, rfl, if_pos rfl, fun k hk => ?_⟩
  obtain ⟨a, b, c⟩ := hD k (by omega)
  show SM 75 (34 * k) G (N 0) (P k) (if k = m then st_V V (T m) else T k) ∧ st_Ok (N 0) (P k) (if k = m then st_V V (T m) else T k) ∧ ch_D (N 0) (G 6 k) (G 7 k) (P k) (P (k + 1)) (if k = m then st_V V (T m) else T k) (if k + 1 = m then st_V V (T m) else T (k + 1))
  rw [if_neg (show ¬ k = m by omega), g6, g7]
  refine ⟨?_, b, ?_⟩
  · unfold SM at a ⊢
    rw [g75]
    exact a
  · by_cases e : k + 1 = m
    · rw [if_pos e]
      rw [e] at c ⊢
      exact c
    · rw [if_neg e]
      exact c
theorem p_undo (hi : IV J N V) : PR E d n_X11_undo n_X12_undo [] J := by
  obtain ⟨m, P, T, c0, c1, c2, c3, c4, c5⟩ := hi.2.2.2.2.2.1
  cases m with
  | zero => exact ⟨_, J, J, N, V, c_undo0 (E := E) (d := d + 11) (tl := ax_shM) (rtl := ax_rM) c1, m_undo0 (E := E) (d := d + 12) c2, hi⟩
  | succ m =>
    obtain ⟨x1, x2, x3⟩ := c5 m (by omega)
    have hr := hi.2.1
    rw [c3, c4] at x3
    -- what the reference does
    have fin : ∀ (G : Nat → Nat → Int32), ax_cal E (d + 13) n_X11_undo [.ref 0] (ax_h J) = some (some (.int (nI m)), ax_h G) → (∀ q, q ≠ 5 → q ≠ 35 → q ≠ 36 → G q = J q) → G 5 2 = nI m → SC 35 G (N 0) (P m) (T m) → PR E d n_X11_undo n_X12_undo [] J := by
      intro G e1 hG h5 hsc
      have h68 : G 68 = J 68 := hG 68 (by decide) (by decide) (by decide)
      obtain ⟨G2, e2, f1, f2, f3, f4⟩ := m_undo (E := E) (d := d + 12) (J := G) (m := m) (by rw [h68]; exact c2) (by omega)
      refine ⟨_, G, G2, st_N N (P m), st_V V (T m), e1, e2, IV_st hi ?_ ?_ x2 ?_ ?_ ?_ ?_⟩
      · intro q q0 q1 q2 q3 q4 q5 q6 q7 q8 q9 q10 q11 q12
        rw [f1 q q9 q10, hG q (by omega) (by omega) (by omega)]
      · intro k k1 k2 k3
        rw [f2 k k2, h68]
      · unfold SC at hsc ⊢
        rw [f1 35 (by decide) (by decide), f1 (35 + 1) (by decide) (by decide), f1 (35 + 2) (by decide) (by decide), f1 (35 + 3) (by decide) (by decide), f1 (35 + 4) (by decide) (by decide)]
        exact hsc
      · have h75 : G 75 = J 75 := hG 75 (by decide) (by decide) (by decide)
        have hP9 := x2.1
        have h6 := hi.1.1
        refine ⟨?_, fun y hy => ?_, fun k hk => ?_⟩
        · rw [Nat.zero_add, f4 6 (by omega), h75]
          exact x1.1
        · rw [Nat.zero_add, f4 y (by omega), h75]
          exact x1.2.1 y hy
        · rw [Nat.zero_add, Nat.zero_add, Nat.zero_add, f4 (7 + 3 * k) (by omega), f4 (7 + 3 * k + 1) (by omega), f4 (7 + 3 * k + 2) (by omega), h75]
          exact x1.2.2 k hk
      · exact CH_pop (by omega) c5 (by rw [f1 5 (by decide) (by decide)]; exact h5) f3 (by rw [f1 6 (by decide) (by decide), hG 6 (by decide) (by decide) (by decide)]) (by rw [f1 7 (by decide) (by decide), hG 7 (by decide) (by decide) (by decide)]) (by rw [f1 75 (by decide) (by decide), hG 75 (by decide) (by decide) (by decide)])
      · exact KP_fr (by rw [f1 8 (by decide) (by decide), hG 8 (by decide) (by decide) (by decide)]) (fun q a b => by rw [f1 q (by omega) (by omega), hG q (by omega) (by omega) (by omega)]) (by rw [f2 13 (by decide), h68]) (by rw [f1 76 (by decide) (by decide), hG 76 (by decide) (by decide) (by decide)]) hi.2.2.2.2.2.2.1
    rcases x3 with ⟨y1, y2, y3, y4⟩ | ⟨a, ha, y1, y2, y3, y4, y5⟩
    · have e1 := c_undoW (E := E) (d := d + 11) (tl := ax_shM) (rtl := ax_rM) c1 (by omega) y1
      refine fin _ e1 (fun q q5 q35 q36 => by rw [va_up_ne _ _ q35, va_up_ne _ _ q5]) rfl ⟨?_, fun i hi' => ?_, fun k hk => ?_⟩
      · show J 35 4 - 1 = _
        rw [show J 35 4 = nI (N 1) from hr.2.2.1, y2, nI_pred]
      · show J 36 i = _
        rw [← y3 i hi']
        exact (hr.2.1 i hi').2.2.2
      · have h := hr.2.2.2.1 k (by omega)
        have h' := y4 k hk
        show J 37 k = _ ∧ J 38 k = _ ∧ J 39 k = _
        rw [← h'.1, ← h'.2.1, ← h'.2.2]
        exact h
    · have h6 := hi.1.1
      have e1 := c_undoA (E := E) (d := d + 11) (tl := ax_shM) (rtl := ax_rM) c1 (by omega) (show a < 6 by omega) y1
      refine fin _ e1 (fun q q5 q35 q36 => by rw [va_up_ne _ _ q36, va_up_ne _ _ q5]) rfl ⟨?_, fun i hi' => ?_, fun k hk => ?_⟩
      · show J 35 4 = _
        rw [show J 35 4 = nI (N 1) from hr.2.2.1, y3]
      · show upd (J 36) a (J 7 m) i = _
        by_cases q : i = a
        · rw [q, pk_us, y2]
        · rw [pk_un q, ← y4 i hi' q]
          exact (hr.2.1 i hi').2.2.2
      · have h := hr.2.2.2.1 k (by omega)
        have h' := y5 k hk
        show J 37 k = _ ∧ J 38 k = _ ∧ J 39 k = _
        rw [← h'.1, ← h'.2.1, ← h'.2.2]
        exact h
end PAK
