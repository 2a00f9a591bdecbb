/-! pairs of calls that change what is held -/
section ST
variable {J G : Nat → Nat → Int32} {N : Nat → Nat} {V T : Nat → Nat → Int32} {n : Nat}
theorem sp_Ok_st (hok : sp_Ok N V) (h : st_Ok (N 0) n T) : sp_Ok (st_N N n) (st_V V T) := by
  obtain ⟨k0, k1, k2, k3, k4, k5, kp, kw, kl, kr, ko, kf⟩ := hok
  exact ⟨k0, h.1, k2, k3, k4, k5, fun i hi => ⟨(kp i hi).1, (kp i hi).2.1, (kp i hi).2.2.1, h.2.1 i hi⟩, fun k hk => h.2.2 k hk, kl, kr, ko, kf⟩
theorem st_Ok_of (hok : sp_Ok N V) : st_Ok (N 0) (N 1) V := ⟨hok.2.1, fun i hi => (hok.2.2.2.2.2.2.1 i hi).2.2.2, fun k hk => hok.2.2.2.2.2.2.2.1 k hk⟩
theorem RM_st (hr : RM J N V) (h : ∀ q, 68 < q → q < 74 → G q = J q) (h8 : ∀ k, k < 10 → G 68 k = J 68 k) (hs : SM 74 0 G (N 0) n T) : RM G (st_N N n) (st_V V T) := by
  obtain ⟨s1, s2, s3⟩ := hs
  refine ⟨?_, fun i hi => ?_, ?_, fun k hk => ?_, ?_, ?_, ?_, ?_, ?_, ?_, ?_, ?_⟩
  · rw [h8 0 (by decide)]; exact hr.1
  · have hi : i < N 0 := hi
    have a := hr.2.1 i hi
    have b := s2 i hi
    rw [Nat.zero_add] at b
    rw [h 69 (by decide) (by decide)]
    exact ⟨a.1, a.2.1, a.2.2.1, b⟩
  · exact s1
  · have hk : k < n := hk
    have b := s3 k hk
    rw [Nat.zero_add, Nat.zero_add, Nat.zero_add] at b
    exact b
  · rw [h8 2 (by decide)]; exact hr.2.2.2.2.1
  · rw [h 70 (by decide) (by decide)]; exact hr.2.2.2.2.2.1
  · rw [h8 4 (by decide)]; exact hr.2.2.2.2.2.2.1
  · rw [h 71 (by decide) (by decide)]; exact hr.2.2.2.2.2.2.2.1
  · rw [h8 6 (by decide)]; exact hr.2.2.2.2.2.2.2.2.1
  · rw [h 72 (by decide) (by decide)]; exact hr.2.2.2.2.2.2.2.2.2.1
  · rw [h8 8 (by decide)]; exact hr.2.2.2.2.2.2.2.2.2.2.1
  · rw [h 73 (by decide) (by decide)]; exact hr.2.2.2.2.2.2.2.2.2.2.2
theorem RC_st (hr : RC 30 J N V) (h : ∀ q, 30 < q → q < 49 → q ≠ 43 → (q < 35 ∨ 39 < q) → G q = J q) (hs : SC 35 G (N 0) n T) : RC 30 G (st_N N n) (st_V V T) := by
  obtain ⟨s1, s2, s3⟩ := hs
  refine ⟨?_, fun i hi => ?_, s1, fun k hk => s3 k hk, ?_, ?_, ?_, ?_, ?_, ?_, ?_, ?_⟩
  · rw [h (30 + 1) (by decide) (by decide) (by decide) (by decide)]; exact hr.1
  · have hi : i < N 0 := hi
    have a := hr.2.1 i hi
    rw [h (30 + 2) (by decide) (by decide) (by decide) (by decide), h (30 + 3) (by decide) (by decide) (by decide) (by decide), h (30 + 4) (by decide) (by decide) (by decide) (by decide)]
    exact ⟨a.1, a.2.1, a.2.2.1, s2 i hi⟩
  · rw [h (30 + 1) (by decide) (by decide) (by decide) (by decide)]; exact hr.2.2.2.2.1
  · rw [h (30 + 10) (by decide) (by decide) (by decide) (by decide), h (30 + 11) (by decide) (by decide) (by decide) (by decide), h (30 + 12) (by decide) (by decide) (by decide) (by decide)]; exact hr.2.2.2.2.2.1
  · rw [h (30 + 14) (by decide) (by decide) (by decide) (by decide)]; exact hr.2.2.2.2.2.2.1
  · rw [h (30 + 15) (by decide) (by decide) (by decide) (by decide)]; exact hr.2.2.2.2.2.2.2.1
  · rw [h (30 + 14) (by decide) (by decide) (by decide) (by decide)]; exact hr.2.2.2.2.2.2.2.2.1
  · rw [h (30 + 16) (by decide) (by decide) (by decide) (by decide)]; exact hr.2.2.2.2.2.2.2.2.2.1
  · rw [h (30 + 14) (by decide) (by decide) (by decide) (by decide)]; exact hr.2.2.2.2.2.2.2.2.2.2.1
  · rw [h (30 + 17) (by decide) (by decide) (by decide) (by decide), h (30 + 18) (by decide) (by decide) (by decide) (by decide)]; exact hr.2.2.2.2.2.2.2.2.2.2.2
/-- another state -/
theorem IV_st (hi : IV J N V) (h : ∀ q, q < 79 → q ≠ 5 → q ≠ 6 → q ≠ 7 → q ≠ 8 → (q < 10 ∨ 19 < q) → q ≠ 43 → (q < 35 ∨ 39 < q) → (q < 49 ∨ 67 < q) → q ≠ 68 → q ≠ 74 → q ≠ 75 → q ≠ 76 → G q = J q) (h8 : ∀ k, k < 19 → k ≠ 11 → k ≠ 13 → G 68 k = J 68 k) (hst : st_Ok (N 0) n T) (hc : SC 35 G (N 0) n T) (hm : SM 74 0 G (N 0) n T) (hch : CH G (st_N N n) (st_V V T)) (hkp : KP G N) : IV G (st_N N n) (st_V V T) := by
  obtain ⟨i1, i2, i3, i4, i5, i6, i7, i8, i9⟩ := hi
  have e : ∀ q, q < 79 → q ≠ 5 → q ≠ 6 → q ≠ 7 → q ≠ 8 → (q < 10 ∨ 19 < q) → q ≠ 43 → (q < 35 ∨ 39 < q) → (q < 49 ∨ 67 < q) → q ≠ 68 → q ≠ 74 → q ≠ 75 → q ≠ 76 → G q = J q := h
  refine ⟨sp_Ok_st i1 hst, RC_st i2 (fun q a b c f => h q (by omega) (by omega) (by omega) (by omega) (by omega) (by omega) c f (by omega) (by omega) (by omega) (by omega) (by omega)) hc, RM_st i3 (fun q a b => h q (by omega) (by omega) (by omega) (by omega) (by omega) (by omega) (by omega) (by omega) (by omega) (by omega) (by omega) (by omega) (by omega)) (fun k hk => h8 k (by omega) (by omega) (by omega)) hm, TX_fr (h 1 (by decide) (by decide) (by decide) (by decide) (by decide) (by decide) (by decide) (by decide) (by decide) (by decide) (by decide) (by decide) (by decide)) (h 2 (by decide) (by decide) (by decide) (by decide) (by decide) (by decide) (by decide) (by decide) (by decide) (by decide) (by decide) (by decide) (by decide)) (h8 18 (by decide) (by decide) (by decide)) (h 78 (by decide) (by decide) (by decide) (by decide) (by decide) (by decide) (by decide) (by decide) (by decide) (by decide) (by decide) (by decide) (by decide)) i4, SE_fr (h 20 (by decide) (by decide) (by decide) (by decide) (by decide) (by decide) (by decide) (by decide) (by decide) (by decide) (by decide) (by decide) (by decide)) (h 21 (by decide) (by decide) (by decide) (by decide) (by decide) (by decide) (by decide) (by decide) (by decide) (by decide) (by decide) (by decide) (by decide)) (h 22 (by decide) (by decide) (by decide) (by decide) (by decide) (by decide) (by decide) (by decide) (by decide) (by decide) (by decide) (by decide) (by decide)) (h8 15 (by decide) (by decide) (by decide)) (h 77 (by decide) (by decide) (by decide) (by decide) (by decide) (by decide) (by decide) (by decide) (by decide) (by decide) (by decide) (by decide) (by decide)) i5, hch, hkp, ?_, ?_⟩
  · exact CC_fr (h 23 (by decide) (by decide) (by decide) (by decide) (by decide) (by decide) (by decide) (by decide) (by decide) (by decide) (by decide) (by decide) (by decide)) (h 26 (by decide) (by decide) (by decide) (by decide) (by decide) (by decide) (by decide) (by decide) (by decide) (by decide) (by decide) (by decide) (by decide)) (show CC J (st_N N n) (st_V V T) from i8)
  · exact FI_fr (h 27 (by decide) (by decide) (by decide) (by decide) (by decide) (by decide) (by decide) (by decide) (by decide) (by decide) (by decide) (by decide) (by decide)) (h 29 (by decide) (by decide) (by decide) (by decide) (by decide) (by decide) (by decide) (by decide) (by decide) (by decide) (by decide) (by decide) (by decide)) (show FI J (st_N N n) (st_V V T) from i9)
/-- one change more -/
theorem CH_push {m m' o : Nat} {P : Nat → Nat} {T0 : Nat → Nat → Nat → Int32} (hok : sp_Ok N V) (hrm : RM J N V) (hP : P m = N 1) (hT : T0 m = V) (hD : ∀ k, k < m → SM 75 (34 * k) J (N 0) (P k) (T0 k) ∧ st_Ok (N 0) (P k) (T0 k) ∧ ch_D (N 0) (J 6 k) (J 7 k) (P k) (P (k + 1)) (T0 k) (T0 (k + 1))) (hmo : m' + o = m) (h8 : m' < 8) (g1 : G 5 2 = nI (m' + 1)) (g2 : G 68 11 = nI (m' + 1)) (g3 : ∀ k, k < m' → G 6 k = J 6 (k + o) ∧ G 7 k = J 7 (k + o)) (g4 : ∀ k, k < 34 * m' → G 75 k = J 75 (k + 34 * o)) (g5 : ∀ k, k < 34 → G 75 (34 * m' + k) = J 74 k) (hn : ch_D (N 0) (G 6 m') (G 7 m') (N 1) n V (st_V V T)) : CH G (st_N N n) (st_V V T) := by
  refine ⟨m' + 1, fun k => if k ≤ m' then P (k + o) else n, fun k => if k ≤ m' then T0 (k + o) else st_V V T, by omega, g1, g2, if_neg (by omega), if_neg (by omega), fun k hk => ?_⟩
  have h9 := hok.2.1
  have h6 := hok.1
  show SM 75 (34 * k) G (N 0) (if k ≤ m' then P (k + o) else n) (if k ≤ m' then T0 (k + o) else st_V V T) ∧ st_Ok (N 0) (if k ≤ m' then P (k + o) else n) (if k ≤ m' then T0 (k + o) else st_V V T) ∧ ch_D (N 0) (G 6 k) (G 7 k) (if k ≤ m' then P (k + o) else n) (if k + 1 ≤ m' then P (k + 1 + o) else n) (if k ≤ m' then T0 (k + o) else st_V V T) (if k + 1 ≤ m' then T0 (k + 1 + o) else st_V V T)
  rw [if_pos (show k ≤ m' by omega), if_pos (show k ≤ m' by omega)]
  by_cases e : k < m'
  · rw [if_pos (show k + 1 ≤ m' by omega), if_pos (show k + 1 ≤ m' by omega)]
    obtain ⟨a, b, c⟩ := hD (k + o) (by omega)
    have hP9 := b.1
    rw [(g3 k e).1, (g3 k e).2, show k + 1 + o = k + o + 1 by omega]
    refine ⟨⟨?_, fun i hi => ?_, fun x hx => ?_⟩, b, c⟩
    · rw [g4 (34 * k + 6) (by omega), show 34 * k + 6 + 34 * o = 34 * (k + o) + 6 by omega]
      exact a.1
    · rw [g4 (34 * k + i) (by omega), show 34 * k + i + 34 * o = 34 * (k + o) + i by omega]
      exact a.2.1 i hi
    · rw [g4 (34 * k + (7 + 3 * x)) (by omega), g4 (34 * k + (7 + 3 * x + 1)) (by omega), g4 (34 * k + (7 + 3 * x + 2)) (by omega), show 34 * k + (7 + 3 * x) + 34 * o = 34 * (k + o) + (7 + 3 * x) by omega, show 34 * k + (7 + 3 * x + 1) + 34 * o = 34 * (k + o) + (7 + 3 * x + 1) by omega, show 34 * k + (7 + 3 * x + 2) + 34 * o = 34 * (k + o) + (7 + 3 * x + 2) by omega]
      exact a.2.2 x hx
  · have ek : k = m' := by omega
    subst ek
    rw [if_neg (show ¬ k + 1 ≤ k by omega), if_neg (show ¬ k + 1 ≤ k by omega), hmo, hP, hT]
    refine ⟨⟨?_, fun i hi => ?_, fun x hx => ?_⟩, st_Ok_of hok, hn⟩
    · rw [g5 6 (by omega)]
      exact hrm.2.2.1
    · rw [g5 i (by omega)]
      exact (hrm.2.1 i hi).2.2.2
    · rw [g5 (7 + 3 * x) (by omega), g5 (7 + 3 * x + 1) (by omega), g5 (7 + 3 * x + 2) (by omega)]
      exact hrm.2.2.2.1 x hx
end ST
section PAJ
variable {E : ax_E} {d : Nat} {J : Nat → Nat → Int32} {N : Nat → Nat} {V : Nat → Nat → Int32}
theorem p_write (hi : IV J N V) (x : Int32) : PR E d n_X11_write n_X12_write [.int x] J := by
  obtain ⟨i1, i2, i3, ⟨nt, tx, t1, t2⟩, i5, i6, i7, i8, i9⟩ := hi
  by_cases hb : 32 ≤ x ∧ x ≤ 126
  · by_cases hn : nt < 200
    · have e1 := c_write (E := E) (d := d + 11) (tl := ax_shM) (rtl := ax_rM) t1 hn hb
      have e2 := m_write (E := E) (d := d + 11) (J := va_up (va_up J 2 (upd (J 2) nt x)) 1 (upd (J 1) 1 (nI nt + 1))) t2 hn hb
      have hx := i_bt (p := 32) (q := 126) hb (by decide) (by decide)
      refine ⟨_, _, _, N, V, e1, e2, i1, i2, i3, ⟨nt + 1, upd tx nt x, ⟨by omega, ?_, fun k hk => ?_, fun k hk => ?_⟩, ⟨by omega, ?_, fun k hk => ?_, fun k hk => ?_⟩⟩, i5, i6, KP_fr (J := J) rfl (fun q a b => by rw [va_up_ne _ _ (by omega), va_up_ne _ _ (by omega), va_up_ne _ _ (by omega), va_up_ne _ _ (by omega)]) rfl rfl i7, i8, i9⟩
      · show nI nt + 1 = _
        rw [nI_succ]
      · show upd (J 2) nt x k = _
        by_cases e : k = nt
        · rw [e, pk_us, pk_us]
        · rw [pk_un e, pk_un e]
          exact t1.2.2.1 k (by omega)
      · by_cases e : k = nt
        · rw [e, pk_us]; exact hx
        · rw [pk_un e]; exact t1.2.2.2 k (by omega)
      · show nI nt + 1 = _
        rw [nI_succ]
      · show upd (J 78) nt x k = _
        by_cases e : k = nt
        · rw [e, pk_us, pk_us]
        · rw [pk_un e, pk_un e]
          exact t2.2.2.1 k (by omega)
      · by_cases e : k = nt
        · rw [e, pk_us]; exact hx
        · rw [pk_un e]; exact t1.2.2.2 k (by omega)
    · exact ⟨_, J, J, N, V, c_writeF (E := E) (d := d + 11) (tl := ax_shM) (rtl := ax_rM) t1 hn hb, m_writeF (E := E) (d := d + 11) t2 hn hb, i1, i2, i3, ⟨nt, tx, t1, t2⟩, i5, i6, i7, i8, i9⟩
  · exact ⟨_, J, J, N, V, c_writeB (E := E) (d := d + 11) (tl := ax_shM) (rtl := ax_rM) x hb, m_writeB (E := E) (d := d + 11) x hb, i1, i2, i3, ⟨nt, tx, t1, t2⟩, i5, i6, i7, i8, i9⟩
theorem p_wipe (hi : IV J N V) : PR E d n_X11_wipe n_X12_wipe [] J := by
  obtain ⟨i1, i2, i3, ⟨nt, tx, t1, t2⟩, i5, i6, i7, i8, i9⟩ := hi
  have e1 := c_wipe (E := E) (d := d + 12) (tl := ax_shM) (rtl := ax_rM) t1
  have e2 := m_wipe (E := E) (d := d + 12) (J := va_up J 1 (upd (J 1) 1 0)) t2
  exact ⟨_, _, _, N, V, e1, e2, i1, i2, i3, ⟨0, tx, ⟨by omega, rfl, fun k hk => absurd hk (by omega), fun k hk => absurd hk (by omega)⟩, ⟨by omega, rfl, fun k hk => absurd hk (by omega), fun k hk => absurd hk (by omega)⟩⟩, i5, i6, KP_fr (J := J) rfl (fun q a b => by rw [va_up_ne _ _ (by omega), va_up_ne _ _ (by omega)]) rfl rfl i7, i8, i9⟩
theorem p_seen (hi : IV J N V) (t x : Int32) : PR E d n_X11_seen n_X12_seen [.int t, .int x] J := by
  obtain ⟨i1, i2, i3, i4, ⟨ns, sT, sX, s1, s2⟩, i6, i7, i8, i9⟩ := hi
  by_cases hb : sp_seenOk t x
  · by_cases hn : ns < 6
    · have e1 := c_seen (E := E) (d := d + 11) (tl := ax_shM) (rtl := ax_rM) s1 hn t x hb
      have e2 := m_seen (E := E) (d := d + 10) (J := va_up (va_up (va_up J 21 (upd (J 21) ns t)) 22 (upd (J 22) ns (x - 40))) 20 (upd (J 20) 2 (nI ns + 1))) s2 hn t x hb
      have ht := i_bt (p := 6) (q := 18) hb.1 (by decide) (by decide)
      refine ⟨_, _, _, N, V, e1, e2, i1, i2, i3, i4, ⟨ns + 1, upd sT ns t, upd sX ns (x - 40), ⟨by omega, ?_, fun k hk => ?_, fun k hk => ?_⟩, ⟨by omega, ?_, fun k hk => ?_, fun k hk => ?_⟩⟩, i6, KP_fr (J := J) rfl (fun q a b => by rw [va_up_ne _ _ (by omega), va_up_ne _ _ (by omega), va_up_ne _ _ (by omega), va_up_ne _ _ (by omega), va_up_ne _ _ (by omega)]) rfl rfl i7, i8, i9⟩
      · show nI ns + 1 = _
        rw [nI_succ]
      · show upd (J 21) ns t k = _ ∧ upd (J 22) ns (x - 40) k = _
        by_cases e : k = ns
        · rw [e, pk_us, pk_us, pk_us, pk_us]
          exact ⟨rfl, rfl⟩
        · rw [pk_un e, pk_un e, pk_un e, pk_un e]
          exact s1.2.2.1 k (by omega)
      · by_cases e : k = ns
        · rw [e, pk_us]; exact ht
        · rw [pk_un e]; exact s1.2.2.2 k (by omega)
      · show nI ns + 1 = _
        rw [nI_succ]
      · show upd (upd (J 77) (2 * ns) t) (2 * ns + 1) (x - 40) (2 * k) = _ ∧ upd (upd (J 77) (2 * ns) t) (2 * ns + 1) (x - 40) (2 * k + 1) = _
        by_cases e : k = ns
        · rw [e, pk_us, pk_us, pk_us, pk_un (by omega), pk_us]
          exact ⟨rfl, rfl⟩
        · rw [pk_un (show k ≠ ns from e), pk_un (show k ≠ ns from e), pk_un (show 2 * k ≠ 2 * ns + 1 by omega), pk_un (show 2 * k ≠ 2 * ns by omega), pk_un (show 2 * k + 1 ≠ 2 * ns + 1 by omega), pk_un (show 2 * k + 1 ≠ 2 * ns by omega)]
          exact s2.2.2.1 k (by omega)
      · by_cases e : k = ns
        · rw [e, pk_us]; exact ht
        · rw [pk_un e]; exact s1.2.2.2 k (by omega)
    · exact ⟨_, J, J, N, V, c_seenF (E := E) (d := d + 11) (tl := ax_shM) (rtl := ax_rM) s1 hn t x hb, m_seenF (E := E) (d := d + 10) s2 hn t x hb, i1, i2, i3, i4, ⟨ns, sT, sX, s1, s2⟩, i6, i7, i8, i9⟩
  · exact ⟨_, J, J, N, V, c_seenB (E := E) (d := d + 11) (tl := ax_shM) (rtl := ax_rM) t x hb, m_seenB (E := E) (d := d + 10) t x hb, i1, i2, i3, i4, ⟨ns, sT, sX, s1, s2⟩, i6, i7, i8, i9⟩
theorem p_forget (hi : IV J N V) : PR E d n_X11_forget n_X12_forget [] J := by
  obtain ⟨i1, i2, i3, i4, ⟨ns, sT, sX, s1, s2⟩, i6, i7, i8, i9⟩ := hi
  have e1 := c_forget (E := E) (d := d + 12) (tl := ax_shM) (rtl := ax_rM) s1
  have e2 := m_forget (E := E) (d := d + 12) (J := va_up J 20 (upd (J 20) 2 0)) s2
  exact ⟨_, _, _, N, V, e1, e2, i1, i2, i3, i4, ⟨0, sT, sX, ⟨by omega, rfl, fun k hk => absurd hk (by omega), fun k hk => absurd hk (by omega)⟩, ⟨by omega, rfl, fun k hk => absurd hk (by omega), fun k hk => absurd hk (by omega)⟩⟩, i6, KP_fr (J := J) rfl (fun q a b => by rw [va_up_ne _ _ (by omega), va_up_ne _ _ (by omega)]) rfl rfl i7, i8, i9⟩
end PAJ
