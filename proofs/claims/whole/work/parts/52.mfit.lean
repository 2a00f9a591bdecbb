/-! contracts of the reference: arranges -/
def ft_M (N : Nat → Nat) (V : Nat → Nat → Int32) (c : Nat) (J G : Nat → Nat → Int32) : Prop := (∀ q, q ≠ 68 → q ≠ 87 → G q = J q) ∧ (∀ k, k ≠ 36 → k ≠ 37 → G 68 k = J 68 k) ∧ G 68 36 = nI (ft_lt (sp_t V) (sp_d V) (ft_row (N 5) c) (N 5)) ∧ G 68 37 = nI (ft_hr (sp_t V) (sp_d V) (ft_row (N 5) c) (N 5)) ∧ ∀ k, k < N 5 → G 87 k = nI (ft_row (N 5) c k)
theorem ix_2m (a : Nat) : (2 : Int32) * nI a = nI (2 * a) := pk_mul 2 a
theorem ix_2m1 (a : Nat) : (2 : Int32) * nI a + 1 = nI (2 * a + 1) := by rw [ix_2m, nI_1]
section MFI
variable {E : ax_E} {d : Nat} {J : Nat → Nat → Int32} {N : Nat → Nat} {V : Nat → Nat → Int32}
theorem m_arranges (hok : sp_Ok N V) (hr : RM J N V) (h0 : N 5 ≠ 0) {c : Nat} (hc : c < ft_fc (N 5)) : ∃ G, ax_cal E (d + 2) n_X12_arranges [.ref 68, .int (nI c)] (ax_h J) = some (none, ax_h G) ∧ ft_M N V c J G := by
  suffices H : ∃ r' g', ax_cal E (d + 2) n_X12_arranges [.ref 68, .int (nI c)] (ax_h J) = some (r', g') ∧ (r' = none ∧ ∃ G, g' = ax_h G ∧ ft_M N V c J G) by
    obtain ⟨r', g', e, rfl, G, rfl, h⟩ := H
    exact ⟨G, e, h⟩
  have h6 := hok.2.2.2.2.2.1
  have hn5 : J 68 8 = nI (N 5) := hr.2.2.2.2.2.2.2.2.2.2.1
  have h73 : ∀ f, f < N 5 → J 73 (2 * f) = nI (sp_t V f) ∧ J 73 (2 * f + 1) = nI (sp_d V f) := fun f hf => by
    rw [← (sp_tE hok hf).1, ← (sp_tE hok hf).2.1]
    exact hr.2.2.2.2.2.2.2.2.2.2.2 f hf
  have hfb : ∀ k, k ≤ 6 → ft_fc k ≤ 720 := fun k hk => (ft_fin6 ⟨k, by omega⟩).2.1
  have hfn := hfb (N 5) h6
  obtain ⟨g, hg⟩ : ∃ g : Nat → Nat, g = ft_row (N 5) c := ⟨_, rfl⟩
  have hgl : ∀ k, k < N 5 → g k < N 5 := fun k hk => by rw [hg]; exact ft_row_lt h6 hc hk
  have ht9 : ∀ i, i < N 5 → sp_t V (g i) ≤ 9 := fun i hi => (sp_tE hok (hgl i hi)).2.2.1
  have hckb : ∀ k, k ≤ N 5 → ft_ck (sp_t V) g k ≤ 54 := fun k hk => by
    have := ft_ck_le (tt := sp_t V) (g := g) k (fun i hi => ht9 i (by omega))
    omega
  unfold ft_M
  rw [← hg]
  refine ax_ofQ (t := t_X12_arranges) (ls := [.ref 68, .int (nI c), .float 0, .float 0, .float 0, .float 0, .float 0, .float 0, .float 0]) rfl ⟨rfl, Nat.le_of_ble_eq_true rfl⟩ rfl ?_
  have loop2 : ∀ (j k : Nat), k + j = N 5 → ∀ (y7 y8 : Value) (G : Nat → Nat → Int32), (∀ q, q ≠ 68 → q ≠ 87 → G q = J q) → (∀ k, k ≠ 36 → k ≠ 37 → G 68 k = J 68 k) → G 68 36 = nI (ft_lt (sp_t V) (sp_d V) g k) → G 68 37 = nI (ft_hr (sp_t V) (sp_d V) g k) → (∀ i, i < k → G 87 i = nI (g i)) → AW E (ax_cal E (d + 1)) t_X12_arranges (52, [.ref 68, .int (nI c), .int (nI (ft_st (N 5) c k).1), .int (nI (ft_fc (N 5 - k))), .int (nI (ft_st (N 5) c k).2), .int (nI (ft_ck (sp_t V) g k)), .int (nI k), y7, y8], [.int (G 68 8), .int (nI k)], ax_h G) (fun r' g' => r' = none ∧ ∃ G, g' = ax_h G ∧ (∀ q, q ≠ 68 → q ≠ 87 → G q = J q) ∧ (∀ k, k ≠ 36 → k ≠ 37 → G 68 k = J 68 k) ∧ G 68 36 = nI (ft_lt (sp_t V) (sp_d V) g (N 5)) ∧ G 68 37 = nI (ft_hr (sp_t V) (sp_d V) g (N 5)) ∧ ∀ k, k < N 5 → G 87 k = nI (g k)) := by
    intro j
    induction j with
    | zero =>
      intro k hk y7 y8 G k1 k2 k3 k4 k5
      have ek : k = N 5 := by omega
      refine bt rfl (by rw [k2 8 (by decide) (by decide), hn5]; exact nI_le (by omega) (by omega)) ?_
      repeat refine bs rfl ?_
      rw [ek] at k3 k4 k5
      exact br rfl ⟨rfl, G, rfl, k1, k2, k3, k4, k5⟩
    | succ j ih =>
      intro k hk y7 y8 G k1 k2 k3 k4 k5
      have ih := ih (k + 1) (by omega)
      obtain ⟨i1, i2, i3⟩ := ft_inv h6 hc k (by omega)
      have e1 : N 5 - k = (N 5 - (k + 1)) + 1 := by omega
      have e2 : N 5 - 1 - k = N 5 - (k + 1) := by omega
      have hrow : g k = ft_sk (ft_st (N 5) c k).2 6 ((ft_st (N 5) c k).1 / ft_fc (N 5 - (k + 1))) 0 := by rw [hg, ft_row, e2]
      have hst : ft_st (N 5) c (k + 1) = ((ft_st (N 5) c k).1 % ft_fc (N 5 - (k + 1)), (ft_st (N 5) c k).2 ||| 1 <<< g k) := by rw [ft_st, hrow, e2]
      rw [hst] at ih
      have hb1 := hfb (N 5 - k) (by omega)
      have hb2 := hfb (N 5 - (k + 1)) (by omega)
      have hp := ft_fc_pos (N 5 - (k + 1))
      rw [e1, ft_fc] at i1 hb1
      have hgk := hgl k (by omega)
      obtain ⟨t1, t2, t3, t4⟩ := sp_tE hok hgk
      have hck := hckb k (by omega)
      generalize (ft_st (N 5) c k).1 = x at *
      generalize (ft_st (N 5) c k).2 = s at *
      have hxb : x < 720 := by omega
      generalize hF : ft_fc (N 5 - (k + 1)) = F at *
      have h8 : G 68 8 = nI (N 5) := by rw [k2 8 (by decide) (by decide), hn5]
      refine bf rfl (by rw [h8]; exact nI_ge (by omega) (by omega)) ?_
      rw [e1, ft_fc, hF]
      have hsub : G 68 8 - nI k = nI (N 5 - (k + 1) + 1) := by rw [h8, pk_sub (by omega), e1]
      have hdv : nI ((N 5 - (k + 1) + 1) * F) / (G 68 8 - nI k) = nI F := by
        rw [hsub, pk_div (by omega) (by omega) (by omega), Nat.mul_div_cancel_left _ (by omega)]
      have hb5 := ft_fin5 ⟨s, i2⟩ ⟨g k, by omega⟩
      have b2 : nI s ||| (1 <<< (nI (g k) &&& 31)) = nI (s ||| 1 <<< g k) := hb5.2
      have q1 : x / F ≤ x := Nat.div_le_self _ _
      -- behind the search of the free one
      have eT : G 73 (2 * g k) = nI (sp_t V (g k)) := by rw [k1 73 (by decide) (by decide)]; exact (h73 _ hgk).1
      have eD : G 73 (2 * g k + 1) = nI (sp_d V (g k)) := by rw [k1 73 (by decide) (by decide)]; exact (h73 _ hgk).2
      have eck : nI (ft_ck (sp_t V) g (k + 1)) = nI (ft_ck (sp_t V) g k + sp_t V (g k)) := by rw [ft_ck]
      rw [eck, nI_succ] at ih
      have k5' : ∀ i, i < k + 1 → upd (G 87) k (nI (g k)) i = nI (g i) := by
        intro i hi
        by_cases e : i = k
        · rw [e, pk_us]
        · rw [pk_un e]
          exact k5 i (by omega)
      have fin : ∀ (z7 : Int32), AW E (ax_cal E (d + 1)) t_X12_arranges (118, [.ref 68, .int (nI c), .int (nI (x % F)), .int (nI F), .int (nI s), .int (nI (ft_ck (sp_t V) g k)), .int (nI k), .int z7, .int (nI (g k))], [], ax_h G) (fun r' g' => r' = none ∧ ∃ G, g' = ax_h G ∧ (∀ q, q ≠ 68 → q ≠ 87 → G q = J q) ∧ (∀ k, k ≠ 36 → k ≠ 37 → G 68 k = J 68 k) ∧ G 68 36 = nI (ft_lt (sp_t V) (sp_d V) g (N 5)) ∧ G 68 37 = nI (ft_hr (sp_t V) (sp_d V) g (N 5)) ∧ ∀ k, k < N 5 → G 87 k = nI (g k)) := by
        intro z7
        have ih := fun G => ih (.int z7) (.int (nI (g k))) G
        repeat refine bs rfl ?_
        rw [b2]
        refine bsto rfl k rfl (by omega) (by omega) ?_
        repeat refine bs rfl ?_
        refine bld rfl (2 * g k) (ix_2m _) (by omega) (by omega) ?_
        rw [show (va_up G 87 (upd (G 87) k (nI (g k)))) 73 (2 * g k) = nI (sp_t V (g k)) from eT]
        repeat refine bs rfl ?_
        rw [nI_add]
        refine bld rfl (2 * g k + 1) (ix_2m1 _) (by omega) (by omega) ?_
        rw [show (va_up G 87 (upd (G 87) k (nI (g k)))) 73 (2 * g k + 1) = nI (sp_d V (g k)) from eD]
        by_cases cc : sp_d V (g k) < ft_ck (sp_t V) g k + sp_t V (g k)
        · refine bf rfl (nI_ge (by omega) (by omega)) ?_
          repeat refine bs rfl ?_
          refine bld rfl (2 * g k + 1) (ix_2m1 _) (by omega) (by omega) ?_
          refine bf rfl (show ¬ _ ≤ G 73 (2 * g k + 1) by rw [eD]; exact nI_ge (by omega) (by omega)) ?_
          repeat refine bs rfl ?_
          refine bld rfl (2 * g k + 1) (ix_2m1 _) (by omega) (by omega) ?_
          repeat refine bs rfl ?_
          refine ih _ ?_ ?_ ?_ ?_ k5'
          · intro q q1 q2
            rw [va_up_ne _ _ q1, va_up_ne _ _ q1, va_up_ne _ _ q2, k1 q q1 q2]
          · intro q q1 q2
            show upd (upd (G 68) 36 _) 37 _ q = _
            rw [pk_un q2, pk_un q1, k2 q q1 q2]
          · show G 68 36 + 1 = _
            rw [k3, ft_lt, ft_ck, if_pos cc, nI_succ]
          · show G 68 37 + (nI (ft_ck (sp_t V) g k + sp_t V (g k)) - G 73 (2 * g k + 1)) = _
            rw [eD, k4, ft_hr, ft_ck, pk_sub (by omega), nI_add]
        · refine bt rfl (nI_le (by omega) (by omega)) ?_
          repeat refine bs rfl ?_
          refine bld rfl (2 * g k + 1) (ix_2m1 _) (by omega) (by omega) ?_
          refine bt rfl (show _ ≤ G 73 (2 * g k + 1) by rw [eD]; exact nI_le (by omega) (by omega)) ?_
          repeat refine bs rfl ?_
          refine ih _ ?_ ?_ ?_ ?_ k5'
          · intro q q1 q2
            rw [va_up_ne _ _ q1, va_up_ne _ _ q1, va_up_ne _ _ q2, k1 q q1 q2]
          · intro q q1 q2
            show upd (upd (G 68) 36 _) 37 _ q = _
            rw [pk_un q2, pk_un q1, k2 q q1 q2]
          · show G 68 36 + 0 = _
            rw [k3, ft_lt, ft_ck, if_neg cc, Int32.add_zero, Nat.add_zero]
          · show G 68 37 + 0 = _
            rw [k4, ft_hr, ft_ck, Int32.add_zero, show ft_ck (sp_t V) g k + sp_t V (g k) - sp_d V (g k) = 0 by omega, Nat.add_zero]
      have inner : ∀ (j' f q : Nat), f + j' = 6 → q ≤ 720 → ft_sk s j' q f = g k → AW E (ax_cal E (d + 1)) t_X12_arranges (81, [.ref 68, .int (nI c), .int (nI (x % F)), .int (nI F), .int (nI s), .int (nI (ft_ck (sp_t V) g k)), .int (nI k), .int (nI q), .int (nI f)], [.int (nI f), .int (nI s)], ax_h G) (fun r' g' => r' = none ∧ ∃ G, g' = ax_h G ∧ (∀ q, q ≠ 68 → q ≠ 87 → G q = J q) ∧ (∀ k, k ≠ 36 → k ≠ 37 → G 68 k = J 68 k) ∧ G 68 36 = nI (ft_lt (sp_t V) (sp_d V) g (N 5)) ∧ G 68 37 = nI (ft_hr (sp_t V) (sp_d V) g (N 5)) ∧ ∀ k, k < N 5 → G 87 k = nI (g k)) := by
        intro j'
        induction j' with
        | zero =>
          intro f q hf hq hsk
          rw [ft_sk] at hsk
          omega
        | succ j' ih2 =>
          intro f q hf hq hsk
          rw [ft_sk] at hsk
          have hhas := sp_hasN s i2 f (by omega)
          have ih2 := ih2 (f + 1)
          rw [nI_succ] at ih2
          refine bc rfl (c_has _ (nI s) (nI f)) ?_
          repeat refine bs rfl ?_
          refine bz rfl (fun p => ?_) (fun p => ?_)
          · rw [hhas] at p
            rw [if_neg p] at hsk
            have p' : ¬ (nI s >>> (nI f &&& 31)) &&& 1 = 1 := fun h => p (hhas.mp h)
            repeat refine bs rfl ?_
            by_cases q0 : q = 0
            · rw [if_pos q0] at hsk
              refine bt rfl (nI_le (b := 0) (by omega) (by omega)) ?_
              rw [hsk]
              exact fin _
            · rw [if_neg q0] at hsk
              refine bf rfl (nI_nle (by omega) (by omega)) ?_
              repeat refine bs rfl ?_
              refine bc rfl (c_has _ (nI s) (nI f)) ?_
              rw [if_neg p']
              repeat refine bs rfl ?_
              have := ih2 (q - 1) (by omega) (by omega) hsk
              rw [← pk_sub (show 1 ≤ q by omega)] at this
              exact this
          · have p' := hhas.mp p
            rw [if_pos p'] at hsk
            repeat refine bs rfl ?_
            refine bc rfl (c_has _ (nI s) (nI f)) ?_
            rw [if_pos p]
            repeat refine bs rfl ?_
            have := ih2 q (by omega) hq hsk
            rw [show nI q - 0 = nI q from Int32.sub_zero _]
            exact this
      have l0 := inner 6 0 (x / F) rfl (by omega) hrow.symm
      repeat refine bs rfl ?_
      refine bf rfl (by rw [hsub]; exact nI_ne0 (by omega) (by omega)) ?_
      rw [hdv]
      repeat refine bs rfl ?_
      refine bf rfl (nI_ne0 hp (by omega)) ?_
      repeat refine bs rfl ?_
      refine bf rfl (nI_ne0 hp (by omega)) ?_
      rw [pk_rem (by omega) hp (by omega), pk_div (by omega) hp (by omega)]
      iterate 5 refine bs rfl ?_
      exact l0
  have loop1 : ∀ (j i : Nat), i + 1 + j = N 5 → AW E (ax_cal E (d + 1)) t_X12_arranges (13, [.ref 68, .int (nI c), .int (nI c), .int (nI (ft_fc (i + 1))), .int (nI (i + 2)), .float 0, .float 0, .float 0, .float 0], [.int (J 68 8), .int (nI (i + 2))], ax_h J) (fun r' g' => r' = none ∧ ∃ G, g' = ax_h G ∧ (∀ q, q ≠ 68 → q ≠ 87 → G q = J q) ∧ (∀ k, k ≠ 36 → k ≠ 37 → G 68 k = J 68 k) ∧ G 68 36 = nI (ft_lt (sp_t V) (sp_d V) g (N 5)) ∧ G 68 37 = nI (ft_hr (sp_t V) (sp_d V) g (N 5)) ∧ ∀ k, k < N 5 → G 87 k = nI (g k)) := by
    intro j
    induction j with
    | zero =>
      intro i hi
      have ei : i + 1 = N 5 := by omega
      have l0 := loop2 (N 5) 0 (Nat.zero_add _) (.float 0) (.float 0) (va_up (va_up J 68 (upd (J 68) 36 0)) 68 (upd (upd (J 68) 36 0) 37 0)) (fun q q1 q2 => by rw [va_up_ne _ _ q1, va_up_ne _ _ q1]) (fun q q1 q2 => by show upd (upd (J 68) 36 0) 37 0 q = _; rw [pk_un q2, pk_un q1]) rfl rfl (fun i hi => absurd hi (by omega))
      refine bt rfl (by rw [hn5]; exact nI_lt (by omega) (by omega)) ?_
      rw [ei]
      repeat refine bs rfl ?_
      exact l0
    | succ j ih =>
      intro i hi
      have ih := ih (i + 1) (by omega)
      rw [show i + 1 + 2 = i + 2 + 1 by omega, nI_succ (i + 2), ft_fc, Nat.mul_comm, ← pk_mul] at ih
      refine bf rfl (by rw [hn5]; exact nI_nlt (by omega) (by omega)) ?_
      repeat refine bs rfl ?_
      exact ih
  have l0 := loop1 (N 5 - 1) 0 (by omega)
  repeat refine bs rfl ?_
  exact l0
end MFI
