/-! what holds between class and reference -/
/-- a state that may be kept -/
def st_Ok (np n : Nat) (T : Nat → Nat → Int32) : Prop := n ≤ 9 ∧ (∀ i, i < np → -9 ≤ (T 3 i).toInt ∧ (T 3 i).toInt ≤ 20) ∧ ∀ k, k < n → (∃ a, a < np ∧ T 4 k = nI a) ∧ (6 ≤ (T 5 k).toInt ∧ (T 5 k).toInt ≤ 18) ∧ (0 ≤ (T 6 k).toInt ∧ (T 6 k).toInt ≤ 60)
def st_N (N : Nat → Nat) (n : Nat) : Nat → Nat := va_up N 1 n
def st_V (V T : Nat → Nat → Int32) : Nat → Nat → Int32 := va_up (va_up (va_up (va_up V 3 (T 3)) 4 (T 4)) 5 (T 5)) 6 (T 6)
/-- what was changed between two states -/
def ch_D (np : Nat) (who was : Int32) (n n' : Nat) (T T' : Nat → Nat → Int32) : Prop :=
  (who = -1 ∧ n' = n + 1 ∧ (∀ i, i < np → T' 3 i = T 3 i) ∧ ∀ k, k < n → T' 4 k = T 4 k ∧ T' 5 k = T 5 k ∧ T' 6 k = T 6 k) ∨
  (∃ a, a < np ∧ who = nI a ∧ was = T 3 a ∧ n' = n ∧ (∀ i, i < np → i ≠ a → T' 3 i = T 3 i) ∧ ∀ k, k < n → T' 4 k = T 4 k ∧ T' 5 k = T 5 k ∧ T' 6 k = T 6 k)
def CH (J : Nat → Nat → Int32) (N : Nat → Nat) (V : Nat → Nat → Int32) : Prop := ∃ (m : Nat) (P : Nat → Nat) (T : Nat → Nat → Nat → Int32), m ≤ 8 ∧ J 5 2 = nI m ∧ J 68 11 = nI m ∧ P m = N 1 ∧ T m = V ∧ ∀ k, k < m → SM 75 (34 * k) J (N 0) (P k) (T k) ∧ st_Ok (N 0) (P k) (T k) ∧ ch_D (N 0) (J 6 k) (J 7 k) (P k) (P (k + 1)) (T k) (T (k + 1))
def KP (J : Nat → Nat → Int32) (N : Nat → Nat) : Prop := ∃ nk, nk ≤ 2 ∧ J 8 1 = nI nk ∧ J 68 13 = nI nk ∧ ∀ k, k < nk → ∃ (n : Nat) (T : Nat → Nat → Int32), SC (10 + 5 * k) J (N 0) n T ∧ SM 76 (34 * k) J (N 0) n T ∧ st_Ok (N 0) n T
def TX (J : Nat → Nat → Int32) : Prop := ∃ nt tx, RTc J nt tx ∧ RTm J nt tx
def SE (J : Nat → Nat → Int32) : Prop := ∃ ns sT sX, RSc J ns sT sX ∧ RSm J ns sT sX
def CC (J : Nat → Nat → Int32) (N : Nat → Nat) (V : Nat → Nat → Int32) : Prop := J 23 3 = 0 ∨ (J 23 3 = 1 ∧ ∃ o, ct_S (N 4) (N 3) (sp_a V) (J 26) (J 23) o ∧ sp_cutP N V o)
def FI (J : Nat → Nat → Int32) (N : Nat → Nat) (V : Nat → Nat → Int32) : Prop := J 27 2 = 0 ∨ (J 27 2 = 1 ∧ ∃ v, ft_S (N 5) (sp_t V) (sp_d V) (J 29) (J 27) (some v) ∧ sp_fitP N V v)
def IV (J : Nat → Nat → Int32) (N : Nat → Nat) (V : Nat → Nat → Int32) : Prop := sp_Ok N V ∧ RC 30 J N V ∧ RM J N V ∧ TX J ∧ SE J ∧ CH J N V ∧ KP J N ∧ CC J N V ∧ FI J N V
/-! each part depends on few cells -/
section FRM
variable {J G : Nat → Nat → Int32} {N : Nat → Nat} {V : Nat → Nat → Int32}
theorem RC_fr (h : ∀ q, 30 < q → q < 49 → q ≠ 43 → G q = J q) (hr : RC 30 J N V) : RC 30 G N V := by
  unfold RC at hr ⊢
  rw [h (30 + 1) (by decide) (by decide) (by decide), h (30 + 2) (by decide) (by decide) (by decide), h (30 + 3) (by decide) (by decide) (by decide), h (30 + 4) (by decide) (by decide) (by decide), h (30 + 5) (by decide) (by decide) (by decide), h (30 + 6) (by decide) (by decide) (by decide), h (30 + 7) (by decide) (by decide) (by decide), h (30 + 8) (by decide) (by decide) (by decide), h (30 + 9) (by decide) (by decide) (by decide), h (30 + 10) (by decide) (by decide) (by decide), h (30 + 11) (by decide) (by decide) (by decide), h (30 + 12) (by decide) (by decide) (by decide), h (30 + 14) (by decide) (by decide) (by decide), h (30 + 15) (by decide) (by decide) (by decide), h (30 + 16) (by decide) (by decide) (by decide), h (30 + 17) (by decide) (by decide) (by decide), h (30 + 18) (by decide) (by decide) (by decide)]
  exact hr
theorem TX_fr (h1 : G 1 = J 1) (h2 : G 2 = J 2) (h18 : G 68 18 = J 68 18) (h78 : G 78 = J 78) (h : TX J) : TX G := by
  unfold TX RTc RTm at h ⊢
  rw [h1, h2, h18, h78]
  exact h
theorem SE_fr (h1 : G 20 = J 20) (h2 : G 21 = J 21) (h3 : G 22 = J 22) (h15 : G 68 15 = J 68 15) (h77 : G 77 = J 77) (h : SE J) : SE G := by
  unfold SE RSc RSm at h ⊢
  rw [h1, h2, h3, h15, h77]
  exact h
theorem CH_fr (h1 : G 5 = J 5) (h2 : G 6 = J 6) (h3 : G 7 = J 7) (h11 : G 68 11 = J 68 11) (h75 : G 75 = J 75) (h : CH J N V) : CH G N V := by
  unfold CH SM at h ⊢
  rw [h1, h2, h3, h11, h75]
  exact h
theorem KP_fr (h8 : G 8 = J 8) (h1 : ∀ q, 9 < q → q < 20 → G q = J q) (h13 : G 68 13 = J 68 13) (h76 : G 76 = J 76) (h : KP J N) : KP G N := by
  obtain ⟨nk, a, b, c, f⟩ := h
  refine ⟨nk, a, by rw [h8]; exact b, by rw [h13]; exact c, fun k hk => ?_⟩
  obtain ⟨n, T, x, y, z⟩ := f k hk
  refine ⟨n, T, ?_, ?_, z⟩
  · unfold SC at x ⊢
    rw [h1 (10 + 5 * k) (by omega) (by omega), h1 (10 + 5 * k + 1) (by omega) (by omega), h1 (10 + 5 * k + 2) (by omega) (by omega), h1 (10 + 5 * k + 3) (by omega) (by omega), h1 (10 + 5 * k + 4) (by omega) (by omega)]
    exact x
  · unfold SM at y ⊢
    rw [h76]
    exact y
theorem CC_fr (h1 : G 23 = J 23) (h2 : G 26 = J 26) (h : CC J N V) : CC G N V := by
  unfold CC at h ⊢
  rw [h1, h2]
  exact h
theorem FI_fr (h1 : G 27 = J 27) (h2 : G 29 = J 29) (h : FI J N V) : FI G N V := by
  unfold FI at h ⊢
  rw [h1, h2]
  exact h
/-- only cells that nothing is told by have changed -/
theorem IV_fr (h : ∀ q, q ≠ 4 → q ≠ 43 → q ≠ 68 → q < 49 ∨ (67 < q ∧ q < 79) → G q = J q) (h8 : ∀ k, k < 19 → G 68 k = J 68 k) (hi : IV J N V) : IV G N V := by
  obtain ⟨i1, i2, i3, i4, i5, i6, i7, i8, i9⟩ := hi
  refine ⟨i1, RC_fr (fun q a b c => h q (by omega) c (by omega) (by omega)) i2, RM_of (fun q a b => h q (by omega) (by omega) (by omega) (by omega)) (fun k hk => h8 k (by omega)) i3, TX_fr (h 1 (by decide) (by decide) (by decide) (by decide)) (h 2 (by decide) (by decide) (by decide) (by decide)) (h8 18 (by decide)) (h 78 (by decide) (by decide) (by decide) (by decide)) i4, SE_fr (h 20 (by decide) (by decide) (by decide) (by decide)) (h 21 (by decide) (by decide) (by decide) (by decide)) (h 22 (by decide) (by decide) (by decide) (by decide)) (h8 15 (by decide)) (h 77 (by decide) (by decide) (by decide) (by decide)) i5, CH_fr (h 5 (by decide) (by decide) (by decide) (by decide)) (h 6 (by decide) (by decide) (by decide) (by decide)) (h 7 (by decide) (by decide) (by decide) (by decide)) (h8 11 (by decide)) (h 75 (by decide) (by decide) (by decide) (by decide)) i6, KP_fr (h 8 (by decide) (by decide) (by decide) (by decide)) (fun q a b => h q (by omega) (by omega) (by omega) (by omega)) (h8 13 (by decide)) (h 76 (by decide) (by decide) (by decide) (by decide)) i7, CC_fr (h 23 (by decide) (by decide) (by decide) (by decide)) (h 26 (by decide) (by decide) (by decide) (by decide)) i8, FI_fr (h 27 (by decide) (by decide) (by decide) (by decide)) (h 29 (by decide) (by decide) (by decide) (by decide)) i9⟩
theorem IV_43 {f : Nat → Int32} (hi : IV J N V) : IV (va_up J 43 f) N V := IV_fr (fun q _ h _ _ => va_up_ne _ _ h) (fun _ _ => rfl) hi
end FRM
/-! a call of the class, and the same call of the reference: the same answer -/
def PR (E : ax_E) (d y1 y2 : Nat) (as : List Value) (J : Nat → Nat → Int32) : Prop := ∃ (v : Int32) (G G' : Nat → Nat → Int32) (N' : Nat → Nat) (V' : Nat → Nat → Int32), ax_cal E (d + 13) y1 (.ref 0 :: as) (ax_h J) = some (some (.int v), ax_h G) ∧ ax_cal E (d + 13) y2 (.ref 68 :: as) (ax_h G) = some (some (.int v), ax_h G') ∧ IV G' N' V'
def PRL (E : ax_E) (d y1 y2 : Nat) (as : List Value) (J : Nat → Nat → Int32) : Prop := ∃ (v : Int64) (G G' : Nat → Nat → Int32) (N' : Nat → Nat) (V' : Nat → Nat → Int32), ax_cal E (d + 13) y1 (.ref 0 :: as) (ax_h J) = some (some (.long v), ax_h G) ∧ ax_cal E (d + 13) y2 (.ref 68 :: as) (ax_h G) = some (some (.long v), ax_h G') ∧ IV G' N' V'
section PAI
variable {E : ax_E} {d : Nat} {J : Nat → Nat → Int32} {N : Nat → Nat} {V : Nat → Nat → Int32}
theorem p_person (hi : IV J N V) (i w : Int32) : PR E d n_X11_person n_X12_person [.int i, .int w] J := ⟨_, J, J, N, V, c_person (E := E) (d := d + 11) (tl := ax_shM) (rtl := ax_rM) hi.1 hi.2.1 i w, m_person (E := E) (d := d + 10) hi.1 hi.2.2.1 i w, hi⟩
theorem p_where (hi : IV J N V) (i t : Int32) : PR E d n_X11_where n_X12_where [.int i, .int t] J := ⟨_, J, J, N, V, c_where (E := E) (d := d + 10) (tl := ax_shM) (rtl := ax_rM) hi.1 hi.2.1 i t, m_where (E := E) (d := d + 10) hi.1 hi.2.2.1 i t, hi⟩
theorem p_shadow (hi : IV J N V) (i t w : Int32) : PR E d n_X11_shadow n_X12_shadow [.int i, .int t, .int w] J := ⟨_, J, J, N, V, c_shadow (E := E) (d := d + 8) (tl := ax_shM) (rtl := ax_rM) hi.1 hi.2.1 i t w, m_shadow (E := E) (d := d + 8) hi.1 hi.2.2.1 i t w, hi⟩
theorem p_covers (hi : IV J N V) (x t : Int32) : PR E d n_X11_covers n_X12_covers [.int x, .int t] J := ⟨_, J, J, N, V, c_covers (E := E) (d := d + 9) (tl := ax_shM) (rtl := ax_rM) hi.1 hi.2.1 x t, m_covers (E := E) (d := d + 9) hi.1 hi.2.2.1 x t, hi⟩
theorem p_stands (hi : IV J N V) (i t : Int32) : PR E d n_X11_stands n_X12_stands [.int i, .int t] J := by
  obtain ⟨f, e⟩ := c_stands (E := E) (d := d + 8) (tl := ax_shM) (rtl := ax_rM) hi.1 hi.2.1 i t
  have hi' := IV_43 (f := f) hi
  exact ⟨_, _, _, N, V, e, m_stands (E := E) (d := d + 8) hi'.1 hi'.2.2.1 i t, hi'⟩
theorem p_wear (hi : IV J N V) (i t : Int32) : PR E d n_X11_wear n_X12_wear [.int i, .int t] J := by
  obtain ⟨f, e⟩ := c_wear (E := E) (d := d + 8) (tl := ax_shM) (rtl := ax_rM) hi.1 hi.2.1 i t
  have hi' := IV_43 (f := f) hi
  exact ⟨_, _, _, N, V, e, m_wear (E := E) (d := d + 8) hi'.1 hi'.2.2.1 i t, hi'⟩
theorem p_first (hi : IV J N V) (w : Int32) : PR E d n_X11_first n_X12_first [.int w] J := by
  obtain ⟨f, e⟩ := c_first (E := E) (d := d + 8) (tl := ax_shM) (rtl := ax_rM) hi.1 hi.2.1 w
  have hi' := IV_43 (f := f) hi
  exact ⟨_, _, _, N, V, e, m_first (E := E) (d := d + 8) hi'.1 hi'.2.2.1 w, hi'⟩
theorem p_broken (hi : IV J N V) : PR E d n_X11_broken n_X12_broken [] J := ⟨_, J, J, N, V, c_broken (E := E) (d := d + 9) (tl := ax_shM) (rtl := ax_rM) hi.1 hi.2.1, m_broken (E := E) (d := d + 9) hi.1 hi.2.2.1, hi⟩
theorem p_light (hi : IV J N V) (t : Int32) : PR E d n_X11_light n_X12_light [.int t] J := ⟨_, J, J, N, V, c_light (E := E) (d := d + 9) (tl := ax_shM) (rtl := ax_rM) hi.1 hi.2.1 t, m_light (E := E) (d := d + 8) hi.1 hi.2.2.1 t, hi⟩
theorem p_poplar (hi : IV J N V) (n m : Int32) : PR E d n_X11_poplar n_X12_poplar [.int n, .int m] J := ⟨_, J, J, N, V, c_poplar (E := E) (d := d + 12) (tl := ax_shM) (rtl := ax_rM) n m, m_poplar (E := E) (d := d + 11) n m, hi⟩
theorem p_whose (hi : IV J N V) : PR E d n_X11_whose n_X12_whose [] J := by
  obtain ⟨ns, sT, sX, h1, h2⟩ := hi.2.2.2.2.1
  exact ⟨_, J, J, N, V, c_whose (E := E) (d := d + 7) (tl := ax_shM) (rtl := ax_rM) hi.1 hi.2.1 h1, m_whose (E := E) (d := d + 8) hi.1 hi.2.2.1 h2, hi⟩
theorem p_look (hi : IV J N V) (w : Int32) : PR E d n_X11_look n_X12_look [.int w] J := by
  obtain ⟨ns, sT, sX, h1, h2⟩ := hi.2.2.2.2.1
  exact ⟨_, J, J, N, V, c_look (E := E) (d := d + 7) (tl := ax_shM) (rtl := ax_rM) hi.1 hi.2.1 h1 w, m_look (E := E) (d := d + 7) hi.1 hi.2.2.1 h2 w, hi⟩
theorem p_day (hi : IV J N V) (z w : Int32) : PR E d n_X11_day n_X12_day [.int z, .int w] J := by
  by_cases hb : sp_dayOk z w
  · obtain ⟨f, e⟩ := c_day (E := E) (d := d + 9) (tl := ax_shM) (rtl := ax_rM) hi.1 hi.2.1 z w hb
    have hi' := IV_43 (f := f) hi
    exact ⟨_, _, _, N, V, e, m_day (E := E) (d := d + 9) hi'.1 hi'.2.2.1 z w hb, hi'⟩
  · exact ⟨_, J, J, N, V, c_dayB (E := E) (d := d + 9) (tl := ax_shM) (rtl := ax_rM) z w hb, m_dayB (E := E) (d := d + 9) z w hb, hi⟩
theorem p_watchers (hi : IV J N V) (t w : Int32) : PR E d n_X11_watchers n_X12_watchers [.int t, .int w] J := by
  by_cases hb : sp_wtOk t w
  · obtain ⟨k, k1, k2, rfl⟩ := i_hr hb.1.1 hb.1.2
    exact ⟨_, J, J, N, V, c_watch (E := E) (d := d + 7) (tl := ax_shM) (rtl := ax_rM) hi.1 hi.2.1 k1 k2 w hb, m_watchers (E := E) (d := d + 6) hi.1 hi.2.2.1 k1 k2 w hb, hi⟩
  · exact ⟨_, J, J, N, V, c_watchB (E := E) (d := d + 7) (tl := ax_shM) (rtl := ax_rM) t w hb, m_watchB (E := E) (d := d + 6) t w hb, hi⟩
theorem p_taken (hi : IV J N V) (i a b : Int32) : PR E d n_X11_taken n_X12_taken [.int i, .int a, .int b] J := by
  have h6 := hi.1.1
  by_cases hb : sp_tkOk N i a b
  · obtain ⟨x, hx, rfl⟩ := i_ps (n := N 0) (by omega) hb.1.1 hb.1.2
    obtain ⟨k, k1, k2, rfl⟩ := i_hr hb.2.1.1 hb.2.1.2
    obtain ⟨l, l1, l2, rfl⟩ := i_hr hb.2.2.1.1 hb.2.2.1.2
    have hkl : k ≤ l := (nI_leI (by omega) (by omega)).mp hb.2.2.2
    obtain ⟨M, f, e, hM, hD⟩ := c_taken (E := E) (d := d + 8) (tl := ax_shM) (rtl := ax_rM) hi.1 hi.2.1 hb hx k1 hkl l2
    have hi' := IV_43 (f := f) hi
    exact ⟨_, _, _, N, V, e, m_taken (E := E) (d := d + 9) hi'.1 hi'.2.2.1 hb hx k1 hkl l2 hM hD, hi'⟩
  · exact ⟨_, J, J, N, V, c_takenB (E := E) (d := d + 8) (tl := ax_shM) (rtl := ax_rM) hi.1 hi.2.1 i a b hb, m_takenB (E := E) (d := d + 9) hi.1 hi.2.2.1 i a b hb, hi⟩
theorem p_clouds (hi : IV J N V) (i a b x q : Int32) : PRL E d n_X11_clouds n_X12_clouds [.int i, .int a, .int b, .int x, .int q] J := by
  have h6 := hi.1.1
  by_cases hb : sp_cldOk N i a b x q
  · obtain ⟨u, hu, rfl⟩ := i_ps (n := N 0) (by omega) hb.1.1 hb.1.2
    obtain ⟨k, k1, k2, rfl⟩ := i_hr hb.2.1.1.1 hb.2.1.1.2
    obtain ⟨l, l1, l2, rfl⟩ := i_hr hb.2.1.2.1.1 hb.2.1.2.1.2
    have hkl : k ≤ l := (nI_leI (by omega) (by omega)).mp hb.2.1.2.2
    have hx := i_bt (p := 0) (q := 10) hb.2.2.1 (by decide) (by decide)
    obtain ⟨y, rfl, hy, -⟩ := i_nn hx.1
    have hq := i_bt (p := 0) (q := 1) hb.2.2.2 (by decide) (by decide)
    have hq01 : q = 0 ∨ q = 1 := by
      have e0 : (0 : Int32).toInt = 0 := by decide
      have e1 : (1 : Int32).toInt = 1 := by decide
      by_cases c : q.toInt = 0
      · exact Or.inl (i_eq.mpr (by omega))
      · exact Or.inr (i_eq.mpr (by omega))
    obtain ⟨f, e⟩ := c_clouds (E := E) (d := d + 8) (tl := ax_shM) (rtl := ax_rM) hi.1 hi.2.1 q hb hu k1 hkl l2 (by omega) hq01
    have hi' := IV_43 (f := f) hi
    exact ⟨_, _, _, N, V, e, m_clouds (E := E) (d := d + 8) hi'.1 hi'.2.2.1 q hb hu k1 hkl l2 (by omega) hq01, hi'⟩
  · exact ⟨_, J, J, N, V, c_cloudsB (E := E) (d := d + 8) (tl := ax_shM) (rtl := ax_rM) hi.1 hi.2.1 i a b x q hb, m_cloudsB (E := E) (d := d + 8) hi.1 hi.2.2.1 i a b x q hb, hi⟩
theorem p_count (hi : IV J N V) (w : Int32) : PR E d n_X11_count n_X12_count [.int w] J := by
  obtain ⟨nt, tx, t1, t2⟩ := hi.2.2.2.1
  obtain ⟨ns, sT, sX, s1, s2⟩ := hi.2.2.2.2.1
  obtain ⟨m, P, T, c0, c1, c2, -⟩ := hi.2.2.2.2.2.1
  obtain ⟨nk, k0, k1, k2, -⟩ := hi.2.2.2.2.2.2.1
  have hr := hi.2.1
  have hm := hi.2.2.1
  have hf1 : J 31 8 = J 31 8 ∧ J 35 4 = J 35 4 := ⟨rfl, rfl⟩
  obtain ⟨f, f0, f1, f2, f3, f4, f5, f6, f7, f8, f9⟩ : ∃ f : Nat → Int32, f 0 = nI (N 0) ∧ f 1 = nI (N 1) ∧ f 2 = nI (N 2) ∧ f 3 = nI (N 3) ∧ f 4 = nI (N 4) ∧ f 5 = nI (N 5) ∧ f 6 = nI ns ∧ f 7 = nI m ∧ f 8 = nI nk ∧ f 9 = nI nt := ⟨fun x => if x = 0 then nI (N 0) else if x = 1 then nI (N 1) else if x = 2 then nI (N 2) else if x = 3 then nI (N 3) else if x = 4 then nI (N 4) else if x = 5 then nI (N 5) else if x = 6 then nI ns else if x = 7 then nI m else if x = 8 then nI nk else nI nt, rfl, rfl, rfl, rfl, rfl, rfl, rfl, rfl, rfl, rfl⟩
  exact ⟨_, J, J, N, V, c_count (E := E) (d := d + 12) (tl := ax_shM) (rtl := ax_rM) (f := f) ⟨by rw [f0]; exact hr.1, by rw [f1]; exact hr.2.2.1, by rw [f2]; exact hr.2.2.2.2.1, by rw [f3]; exact hr.2.2.2.2.2.2.1, by rw [f4]; exact hr.2.2.2.2.2.2.2.2.1, by rw [f5]; exact hr.2.2.2.2.2.2.2.2.2.2.1, by rw [f6]; exact s1.2.1, by rw [f7]; exact c1, by rw [f8]; exact k1, by rw [f9]; exact t1.2.1⟩ w, m_count (E := E) (d := d + 12) (f := f) ⟨by rw [f0]; exact hm.1, by rw [f1]; exact hm.2.2.1, by rw [f2]; exact hm.2.2.2.2.1, by rw [f3]; exact hm.2.2.2.2.2.2.1, by rw [f4]; exact hm.2.2.2.2.2.2.2.2.1, by rw [f5]; exact hm.2.2.2.2.2.2.2.2.2.2.1, by rw [f6]; exact s2.2.1, by rw [f7]; exact c2, by rw [f8]; exact k2, by rw [f9]; exact t2.2.1⟩ w, hi⟩
theorem p_fault (hi : IV J N V) : PR E d n_X11_fault n_X12_fault [] J := by
  obtain ⟨nt, tx, t1, t2⟩ := hi.2.2.2.1
  obtain ⟨G, e, g⟩ := c_fault (E := E) (d := d + 8) (tl := ax_shM) (rtl := ax_rM) t1
  have t2' : RTm G nt tx := RTm_of (by rw [g 68 (by decide) (by decide)]) (g 78 (by decide) (by decide)) t2
  obtain ⟨r, g', e2, hr, G', hg', f, -⟩ := m_fault (E := E) (d := d + 7) t2'
  subst hr
  subst hg'
  refine ⟨_, G, G', N, V, e, e2, IV_fr (fun q q4 q43 q68 hq => ?_) (fun k hk => ?_) hi⟩
  · rw [f.1 q (by omega), g q q4 (by omega)]
  · rw [f.2 k (by omega), g 68 (by decide) (by decide)]
theorem p_cut (hi : IV J N V) (r : Int32) : PR E d n_X11_cut n_X12_cut [.int r] J := by
  by_cases hb : sp_cutOk N r
  · obtain ⟨G, o, e, g1, g2, g3, g4⟩ := c_cut (E := E) (d := d + 2) (tl := ax_shM) (rtl := ax_rM) hi.1 hi.2.1 r hb hi.2.2.2.2.2.2.2.1
    have hrm : RM G N V := RM_of (fun q a b => g1 q (by omega)) (fun k hk => by rw [g1 68 (by decide)]) hi.2.2.1
    obtain ⟨G', o', e2, h1, h2, h3⟩ := m_cut (E := E) (d := d + 11) hi.1 hrm r hb
    have ho : o' = o := ct_P_un h1 g4
    subst ho
    have hiG : IV G N V := by
      obtain ⟨i1, i2, i3, i4, i5, i6, i7, i8, i9⟩ := hi
      exact ⟨i1, RC_fr (fun q a b c => g1 q (by omega)) i2, hrm, TX_fr (g1 1 (by decide)) (g1 2 (by decide)) (by rw [g1 68 (by decide)]) (g1 78 (by decide)) i4, SE_fr (g1 20 (by decide)) (g1 21 (by decide)) (g1 22 (by decide)) (by rw [g1 68 (by decide)]) (g1 77 (by decide)) i5, CH_fr (g1 5 (by decide)) (g1 6 (by decide)) (g1 7 (by decide)) (by rw [g1 68 (by decide)]) (g1 75 (by decide)) i6, KP_fr (g1 8 (by decide)) (fun q a b => g1 q (by omega)) (by rw [g1 68 (by decide)]) (g1 76 (by decide)) i7, Or.inr ⟨g2, o', g3, g4⟩, FI_fr (g1 27 (by decide)) (g1 29 (by decide)) i9⟩
    exact ⟨_, G, G', N, V, e, e2, IV_fr (fun q q4 q43 q68 hq => h2 q q68 (by omega)) (fun k hk => h3 k (by omega) (by omega)) hiG⟩
  · exact ⟨_, J, J, N, V, c_cutB (E := E) (d := d + 12) (tl := ax_shM) (rtl := ax_rM) hi.2.1 r hb, m_cutB (E := E) (d := d + 11) hi.1 hi.2.2.1 r hb, hi⟩
theorem p_fittings (hi : IV J N V) (k : Int32) : PR E d n_X11_fittings n_X12_fittings [.int k] J := by
  by_cases hb : sp_fitOk N k
  · by_cases h0 : N 5 = 0
    · exact ⟨_, J, J, N, V, c_fit0 (E := E) (d := d + 12) (tl := ax_shM) (rtl := ax_rM) hi.1 hi.2.1 k hb h0, m_fit0 (E := E) (d := d + 10) hi.1 hi.2.2.1 k hb h0, hi⟩
    · obtain ⟨G, v, e, g1, g2, g3, g4⟩ := c_fit (E := E) (d := d + 3) (tl := ax_shM) (rtl := ax_rM) hi.1 hi.2.1 k hb h0 hi.2.2.2.2.2.2.2.2
      have hrm : RM G N V := RM_of (fun q a b => g1 q (by omega)) (fun k hk => by rw [g1 68 (by decide)]) hi.2.2.1
      obtain ⟨G', v', e2, h1, h2, h3⟩ := m_fit (E := E) (d := d + 10) hi.1 hrm k hb h0
      have ho : some v' = some v := ct_P_un h1 g4
      cases ho
      have hiG : IV G N V := by
        obtain ⟨i1, i2, i3, i4, i5, i6, i7, i8, i9⟩ := hi
        exact ⟨i1, RC_fr (fun q a b c => g1 q (by omega)) i2, hrm, TX_fr (g1 1 (by decide)) (g1 2 (by decide)) (by rw [g1 68 (by decide)]) (g1 78 (by decide)) i4, SE_fr (g1 20 (by decide)) (g1 21 (by decide)) (g1 22 (by decide)) (by rw [g1 68 (by decide)]) (g1 77 (by decide)) i5, CH_fr (g1 5 (by decide)) (g1 6 (by decide)) (g1 7 (by decide)) (by rw [g1 68 (by decide)]) (g1 75 (by decide)) i6, KP_fr (g1 8 (by decide)) (fun q a b => g1 q (by omega)) (by rw [g1 68 (by decide)]) (g1 76 (by decide)) i7, CC_fr (g1 23 (by decide)) (g1 26 (by decide)) i8, Or.inr ⟨g2, v, g3, g4⟩⟩
      exact ⟨_, G, G', N, V, e, e2, IV_fr (fun q q4 q43 q68 hq => h2 q q68 (by omega)) (fun k hk => h3 k (by omega) (by omega)) hiG⟩
  · exact ⟨_, J, J, N, V, c_fitB (E := E) (d := d + 12) (tl := ax_shM) (rtl := ax_rM) hi.1 hi.2.1 k hb, m_fitB (E := E) (d := d + 10) hi.1 hi.2.2.1 k hb, hi⟩
end PAI
