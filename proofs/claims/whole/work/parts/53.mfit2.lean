/-! contracts of the reference: fittings -/
def ft_B (n : Nat) (tt dd : Nat → Nat) (best least : Int32) : Option Nat → Prop
  | none => least = -1
  | some v => best = nI v ∧ least = nI (ft_K n tt dd v)
section MFI2
variable {E : ax_E} {d : Nat} {J : Nat → Nat → Int32} {N : Nat → Nat} {V : Nat → Nat → Int32}
theorem m_fitB (hok : sp_Ok N V) (hr : RM J N V) (k : Int32) (hb : ¬ sp_fitOk N k) : ax_cal E (d + 3) n_X12_fittings [.ref 68, .int k] (ax_h J) = some (some (.int (-1)), ax_h J) := by
  have h6 := hok.2.2.2.2.2.1
  have hn5 : J 68 8 = nI (N 5) := hr.2.2.2.2.2.2.2.2.2.2.1
  have hmx : (if 0 < nI (N 5) - 1 then nI (N 5) - 1 else 0) = nI (max (N 5) 1) - 1 := (ft_fin6 ⟨N 5, by omega⟩).2.2.2
  refine ax_of (t := t_X12_fittings) (ls := [.ref 68, .int k, .float 0, .float 0, .float 0, .float 0, .float 0]) rfl ⟨rfl, Nat.le_of_ble_eq_true rfl⟩ rfl ?_
  repeat refine bs rfl ?_
  refine bc rfl (c_most _ (J 68 8 - 1) 0) ?_
  repeat refine bs rfl ?_
  refine bc rfl (c_in _ k (-2) _) ?_
  repeat refine bs rfl ?_
  refine bz rfl (fun p => ?_) (fun p => ?_)
  · repeat refine bs rfl ?_
    exact br rfl ⟨rfl, rfl⟩
  · rw [hn5, hmx, i_lt1 (by omega)] at p
    exact absurd p hb
theorem m_fit0 (hok : sp_Ok N V) (hr : RM J N V) (k : Int32) (hb : sp_fitOk N k) (h0 : N 5 = 0) : ax_cal E (d + 3) n_X12_fittings [.ref 68, .int k] (ax_h J) = some (some (.int (-4)), ax_h J) := by
  have h6 := hok.2.2.2.2.2.1
  have hn5 : J 68 8 = nI (N 5) := hr.2.2.2.2.2.2.2.2.2.2.1
  have hmx : (if 0 < nI (N 5) - 1 then nI (N 5) - 1 else 0) = nI (max (N 5) 1) - 1 := (ft_fin6 ⟨N 5, by omega⟩).2.2.2
  refine ax_of (t := t_X12_fittings) (ls := [.ref 68, .int k, .float 0, .float 0, .float 0, .float 0, .float 0]) rfl ⟨rfl, Nat.le_of_ble_eq_true rfl⟩ rfl ?_
  repeat refine bs rfl ?_
  refine bc rfl (c_most _ (J 68 8 - 1) 0) ?_
  repeat refine bs rfl ?_
  refine bc rfl (c_in _ k (-2) _) ?_
  repeat refine bs rfl ?_
  refine bz rfl (fun p => absurd ⟨hb.1, by rw [hn5, hmx, i_lt1 (by omega)]; exact hb.2⟩ p) (fun p => ?_)
  repeat refine bs rfl ?_
  refine bt rfl (by rw [hn5, h0]; rfl) ?_
  repeat refine bs rfl ?_
  exact br rfl ⟨rfl, rfl⟩
theorem m_fit (hok : sp_Ok N V) (hr : RM J N V) (k : Int32) (hb : sp_fitOk N k) (h0 : N 5 ≠ 0) : ∃ G v, ax_cal E (d + 3) n_X12_fittings [.ref 68, .int k] (ax_h J) = some (some (.int (sp_fitA N V k v)), ax_h G) ∧ sp_fitP N V v ∧ (∀ q, q ≠ 68 → q ≠ 87 → G q = J q) ∧ (∀ k, k ≠ 36 → k ≠ 37 → G 68 k = J 68 k) := by
  suffices H : ∃ r' g', ax_cal E (d + 3) n_X12_fittings [.ref 68, .int k] (ax_h J) = some (r', g') ∧ (∃ G v, r' = some (.int (sp_fitA N V k v)) ∧ g' = ax_h G ∧ sp_fitP N V v ∧ (∀ q, q ≠ 68 → q ≠ 87 → G q = J q) ∧ (∀ k, k ≠ 36 → k ≠ 37 → G 68 k = J 68 k)) by
    obtain ⟨r', g', e, G, v, rfl, rfl, h⟩ := H
    exact ⟨G, v, e, h⟩
  have h6 := hok.2.2.2.2.2.1
  have hn5 : J 68 8 = nI (N 5) := hr.2.2.2.2.2.2.2.2.2.2.1
  have hmx : (if 0 < nI (N 5) - 1 then nI (N 5) - 1 else 0) = nI (max (N 5) 1) - 1 := (ft_fin6 ⟨N 5, by omega⟩).2.2.2
  have hfn : ft_fc (N 5) ≤ 720 := (ft_fin6 ⟨N 5, by omega⟩).2.1
  have ht9 : ∀ i, i < N 5 → sp_t V i ≤ 9 := fun i hi => (sp_tE hok hi).2.2.1
  have hKb : ∀ w, w < ft_fc (N 5) → ft_K (N 5) (sp_t V) (sp_d V) w < 10000 := by
    intro w hw
    have a1 := ft_lt_le (tt := sp_t V) (dd := sp_d V) (g := ft_row (N 5) w) (N 5)
    have a2 := ft_hr_le (tt := sp_t V) (dd := sp_d V) (g := ft_row (N 5) w) (N 5) h6 (fun i hi => ht9 _ (ft_row_lt h6 hw hi))
    unfold ft_K
    omega
  refine ax_ofQ (t := t_X12_fittings) (ls := [.ref 68, .int k, .float 0, .float 0, .float 0, .float 0, .float 0]) rfl ⟨rfl, Nat.le_of_ble_eq_true rfl⟩ rfl ?_
  repeat refine bs rfl ?_
  refine bc rfl (c_most _ (J 68 8 - 1) 0) ?_
  repeat refine bs rfl ?_
  refine bc rfl (c_in _ k (-2) _) ?_
  repeat refine bs rfl ?_
  refine bz rfl (fun p => absurd ⟨hb.1, by rw [hn5, hmx, i_lt1 (by omega)]; exact hb.2⟩ p) (fun p => ?_)
  repeat refine bs rfl ?_
  refine bf rfl (by rw [hn5]; exact nI_ne0 (by omega) (by omega)) ?_
  have fin : ∀ (least : Int32) (x5 x6 : Value) (G : Nat → Nat → Int32) (v : Nat), sp_fitP N V v → (∀ q, q ≠ 68 → q ≠ 87 → G q = J q) → (∀ k, k ≠ 36 → k ≠ 37 → G 68 k = J 68 k) → AW E (ax_cal E (d + 2)) t_X12_fittings (134, [.ref 68, .int k, .int (nI (ft_fc (N 5))), .int (nI v), .int least, x5, x6], [], ax_h G) (fun r' g' => ∃ G v, r' = some (.int (sp_fitA N V k v)) ∧ g' = ax_h G ∧ sp_fitP N V v ∧ (∀ q, q ≠ 68 → q ≠ 87 → G q = J q) ∧ (∀ k, k ≠ 36 → k ≠ 37 → G 68 k = J 68 k)) := by
    intro least x5 x6 G v hP k1 k2
    have hv : v < ft_fc (N 5) := hP.1
    obtain ⟨G3, hc, m1, m2, m3, m4, m5⟩ := m_arranges (E := E) (d := d) (J := G) hok (RM_of (fun q q1 q2 => k1 q (by omega) (by omega)) (fun k hk => k2 k (by omega) (by omega)) hr) h0 hv
    have hq1 : ∀ q, q ≠ 68 → q ≠ 87 → G3 q = J q := fun q q1 q2 => (m1 q q1 q2).trans (k1 q q1 q2)
    have hq2 : ∀ k, k ≠ 36 → k ≠ 37 → G3 68 k = J 68 k := fun k a b => (m2 k a b).trans (k2 k a b)
    repeat refine bs rfl ?_
    refine bc rfl hc ?_
    repeat refine bs rfl ?_
    refine bb rfl (fun c => ?_) (fun c => ?_)
    · repeat refine bs rfl ?_
      refine br rfl ⟨G3, v, ?_, rfl, hP, hq1, hq2⟩
      rw [sp_fitA, if_pos c, m3]
    · repeat refine bs rfl ?_
      refine bb rfl (fun c2 => ?_) (fun c2 => ?_)
      · repeat refine bs rfl ?_
        refine br rfl ⟨G3, v, ?_, rfl, hP, hq1, hq2⟩
        rw [sp_fitA, if_neg c, if_pos c2, m4]
      · obtain ⟨j, hj, rfl⟩ := i_cutr (by omega) hb.1 hb.2 c c2
        have hj : j < N 5 := by omega
        repeat (first | refine bs rfl ?_ | refine bld rfl _ rfl (by omega) (by omega) ?_)
        refine br rfl ⟨G3, v, ?_, rfl, hP, hq1, hq2⟩
        rw [sp_fitA, if_neg c, if_neg c2, nI_clamp (by omega), m5 j hj]
  have loop2 : ∀ (j w : Nat), w + j = ft_fc (N 5) → ∀ (best least : Int32) (x6 : Value) (G : Nat → Nat → Int32) (o : Option Nat), ft_B (N 5) (sp_t V) (sp_d V) best least o → ct_P (fun _ => True) (ft_K (N 5) (sp_t V) (sp_d V)) w o → (∀ q, q ≠ 68 → q ≠ 87 → G q = J q) → (∀ k, k ≠ 36 → k ≠ 37 → G 68 k = J 68 k) → AW E (ax_cal E (d + 2)) t_X12_fittings (64, [.ref 68, .int k, .int (nI (ft_fc (N 5))), .int best, .int least, .int (nI w), x6], [.int (nI (ft_fc (N 5))), .int (nI w)], ax_h G) (fun r' g' => ∃ G v, r' = some (.int (sp_fitA N V k v)) ∧ g' = ax_h G ∧ sp_fitP N V v ∧ (∀ q, q ≠ 68 → q ≠ 87 → G q = J q) ∧ (∀ k, k ≠ 36 → k ≠ 37 → G 68 k = J 68 k)) := by
    intro j
    induction j with
    | zero =>
      intro w hw best least x6 G o hB hP k1 k2
      have ew : w = ft_fc (N 5) := by omega
      rw [ew] at hP
      refine bt rfl (nI_le (by omega) (by omega)) ?_
      cases o with
      | none => exact absurd trivial (hP 0 (ft_fc_pos _))
      | some v =>
        have hB1 : best = nI v := hB.1
        subst hB1
        exact fin least _ x6 G v hP k1 k2
    | succ j ih =>
      intro w hw best least x6 G o hB hP k1 k2
      have hwf : w < ft_fc (N 5) := by omega
      have hKw := hKb w hwf
      refine bf rfl (nI_ge (by omega) (by omega)) ?_
      obtain ⟨G3, hc, m1, m2, m3, m4, m5⟩ := m_arranges (E := E) (d := d) (J := G) hok (RM_of (fun q q1 q2 => k1 q (by omega) (by omega)) (fun k hk => k2 k (by omega) (by omega)) hr) h0 hwf
      have hq1 : ∀ q, q ≠ 68 → q ≠ 87 → G3 q = J q := fun q q1 q2 => (m1 q q1 q2).trans (k1 q q1 q2)
      have hq2 : ∀ k, k ≠ 36 → k ≠ 37 → G3 68 k = J 68 k := fun k a b => (m2 k a b).trans (k2 k a b)
      have hwo : (1000 : Int32) * G3 68 36 + G3 68 37 = nI (ft_K (N 5) (sp_t V) (sp_d V) w) := by
        rw [m3, m4, show (1000 : Int32) = nI 1000 from rfl, pk_mul, nI_add, Nat.mul_comm]
        rfl
      have hle : w ≤ w + 1 := by omega
      have ih := ih (w + 1) (by omega)
      rw [nI_succ] at ih
      repeat refine bs rfl ?_
      refine bc rfl hc ?_
      repeat refine bs rfl ?_
      rw [hwo]
      cases o with
      | none =>
        have hB0 : least = -1 := hB
        subst hB0
        repeat refine bs rfl ?_
        exact ih _ _ _ G3 (some w) ⟨rfl, rfl⟩ (ct_P_take (Nat.le_refl _) (Nat.lt_succ_self _) trivial (fun x x1 x2 _ => Or.inr (by rw [show x = w by omega]; exact ⟨rfl, Nat.le_refl _⟩)) hP (fun u hu => by cases hu)) hq1 hq2
      | some v =>
        have hB1 : best = nI v := hB.1
        have hB2 : least = nI (ft_K (N 5) (sp_t V) (sp_d V) v) := hB.2
        subst hB1
        subst hB2
        have hv : v < w := hP.1
        have hKv := hKb v (by omega)
        refine bf rfl (nI_pos (by omega)) ?_
        repeat refine bs rfl ?_
        by_cases cc : ft_K (N 5) (sp_t V) (sp_d V) v ≤ ft_K (N 5) (sp_t V) (sp_d V) w
        · refine bt rfl (nI_le cc (by omega)) ?_
          repeat refine bs rfl ?_
          refine bf rfl (nI_pos (by omega)) ?_
          repeat refine bs rfl ?_
          refine bt rfl (nI_le cc (by omega)) ?_
          repeat refine bs rfl ?_
          exact ih _ _ _ G3 (some v) ⟨rfl, rfl⟩ (ct_P_worse hle (fun x x1 x2 _ => by rw [show x = w by omega]; exact cc) hP) hq1 hq2
        · refine bf rfl (nI_ge (by omega) (by omega)) ?_
          repeat refine bs rfl ?_
          refine bf rfl (nI_pos (by omega)) ?_
          repeat refine bs rfl ?_
          refine bf rfl (nI_ge (by omega) (by omega)) ?_
          repeat refine bs rfl ?_
          exact ih _ _ _ G3 (some w) ⟨rfl, rfl⟩ (ct_P_take (Nat.le_refl _) (Nat.lt_succ_self _) trivial (fun x x1 x2 _ => Or.inr (by rw [show x = w by omega]; exact ⟨rfl, Nat.le_refl _⟩)) hP (fun u hu => by cases hu; omega)) hq1 hq2
  have loop1 : ∀ (j i : Nat), i + 1 + j = N 5 → AW E (ax_cal E (d + 2)) t_X12_fittings (40, [.ref 68, .int k, .int (nI (ft_fc (i + 1))), .int (nI (i + 2)), .float 0, .float 0, .float 0], [.int (J 68 8), .int (nI (i + 2))], ax_h J) (fun r' g' => ∃ G v, r' = some (.int (sp_fitA N V k v)) ∧ g' = ax_h G ∧ sp_fitP N V v ∧ (∀ q, q ≠ 68 → q ≠ 87 → G q = J q) ∧ (∀ k, k ≠ 36 → k ≠ 37 → G 68 k = J 68 k)) := by
    intro j
    induction j with
    | zero =>
      intro i hi
      have ei : i + 1 = N 5 := by omega
      have l0 := loop2 (ft_fc (N 5)) 0 (Nat.zero_add _) 0 (-1) (.float 0) J none rfl (fun w hw => absurd hw (by omega)) (fun _ _ _ => rfl) (fun _ _ _ => rfl)
      refine bt rfl (by rw [hn5]; exact nI_lt (by omega) (by omega)) ?_
      rw [ei]
      iterate 8 refine bs rfl ?_
      exact l0
    | succ j ih =>
      intro i hi
      have ih := ih (i + 1) (by omega)
      rw [show i + 1 + 2 = i + 2 + 1 by omega, nI_succ (i + 2), ft_fc, Nat.mul_comm, ← pk_mul] at ih
      refine bf rfl (by rw [hn5]; exact nI_nlt (by omega) (by omega)) ?_
      repeat refine bs rfl ?_
      exact ih
  have l0 := loop1 (N 5 - 1) 0 (by omega)
  repeat refine bs rfl ?_
  exact l0
end MFI2
