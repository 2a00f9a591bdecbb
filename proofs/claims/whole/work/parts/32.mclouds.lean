/-! contracts of the reference: clouds -/
theorem lg_pos {z : Nat} (h0 : 0 < z) (h : z < 2 ^ 63) : ¬ lg_cmp (lN z) 0 ≤ 0 := by
  have a3 : 0 < lN z := (pk_lLT (a := 0) (by omega) h).mpr h0
  unfold lg_cmp
  rw [if_pos a3]
  decide
section CCM
variable {E : ax_E} {d : Nat} {J : Nat → Nat → Int32} {N : Nat → Nat} {V : Nat → Nat → Int32}
theorem m_cloudsB (hok : sp_Ok N V) (hr : RM J N V) (i a b x q : Int32) (hb : ¬ sp_cldOk N i a b x q) : ax_cal E (d + 5) n_X12_clouds [.ref 68, .int i, .int a, .int b, .int x, .int q] (ax_h J) = some (some (.long (-1)), ax_h J) := by
  refine ax_of (t := t_X12_clouds) (ls := [.ref 68, .int i, .int a, .int b, .int x, .int q, .float 0, .float 0, .float 0, .float 0, .float 0, .float 0, .float 0, .float 0, .float 0, .float 0]) rfl ⟨rfl, Nat.le_of_ble_eq_true rfl⟩ rfl ?_
  repeat refine bs rfl ?_
  refine bc rfl (m_isPerson hok hr i) ?_
  repeat refine bs rfl ?_
  refine bz rfl (fun p => ?_) (fun p => ?_)
  · repeat refine bs rfl ?_
    exact br rfl ⟨rfl, rfl⟩
  · repeat refine bs rfl ?_
    refine bc rfl (c_mIsHour _ a) ?_
    repeat refine bs rfl ?_
    refine bz rfl (fun p2 => ?_) (fun p2 => ?_)
    · repeat refine bs rfl ?_
      exact br rfl ⟨rfl, rfl⟩
    · repeat refine bs rfl ?_
      refine bc rfl (c_mIsHour _ b) ?_
      repeat refine bs rfl ?_
      refine bz rfl (fun p3 => ?_) (fun p3 => ?_)
      · repeat refine bs rfl ?_
        exact br rfl ⟨rfl, rfl⟩
      · repeat refine bs rfl ?_
        refine bb rfl (fun c1 => ?_) (fun c1 => ?_)
        · repeat refine bs rfl ?_
          exact br rfl ⟨rfl, rfl⟩
        · repeat refine bs rfl ?_
          refine bc rfl (c_in _ x 0 10) ?_
          repeat refine bs rfl ?_
          refine bz rfl (fun p4 => ?_) (fun p4 => ?_)
          · repeat refine bs rfl ?_
            exact br rfl ⟨rfl, rfl⟩
          · repeat refine bs rfl ?_
            refine bc rfl (c_in _ q 0 1) ?_
            repeat refine bs rfl ?_
            refine bz rfl (fun p5 => ?_) (fun p5 => absurd ⟨p, ⟨p2, p3, Int32.not_lt.mp c1⟩, p4, p5⟩ hb)
            repeat refine bs rfl ?_
            exact br rfl ⟨rfl, rfl⟩
/-- Euclid's loop -/
theorem m_euclid {g : ax_H} {i a b x A B : Nat} {q : Int32} {Q : Option Value → ax_H → Prop} (D : Nat)
  (hend : ∀ l14 : Value, AW E (ax_cal E d) t_X12_clouds (132, [.ref 68, .int (nI i), .int (nI a), .int (nI b), .int (nI x), .int q, .long (lN A), .float 0, .long (lN B), .float 0, .long (lN D), .float 0, .long (lN 0), .float 0, l14, .float 0], [], g) Q) :
  ∀ z y : Nat, z < 2 ^ 62 → y < 2 ^ 62 → Nat.gcd y z = D → ∀ l14 : Value, AW E (ax_cal E d) t_X12_clouds (111, [.ref 68, .int (nI i), .int (nI a), .int (nI b), .int (nI x), .int q, .long (lN A), .float 0, .long (lN B), .float 0, .long (lN y), .float 0, .long (lN z), .float 0, l14, .float 0], [.int (lg_cmp (lN z) 0)], g) Q := by
  intro z
  induction z using Nat.strongRecOn with
  | _ z ih =>
    intro y hz hy hD l14
    by_cases h0 : z = 0
    · subst h0
      rw [Nat.gcd_zero_right] at hD
      subst hD
      refine bs rfl ?_
      exact hend l14
    · refine bf rfl (lg_pos (by omega) (by omega)) ?_
      iterate 2 refine bs rfl ?_
      refine bf rfl (fun q => absurd ((pk_lEQ (b := 0) (by omega) (by omega)).mp q) h0) ?_
      rw [pk_lRem (by omega) (by omega) (by omega)]
      iterate 9 refine bs rfl ?_
      have hlt := Nat.mod_lt y (Nat.pos_of_ne_zero h0)
      exact ih (y % z) hlt z (by omega) hz (by rw [← hD, Nat.gcd_comm y z, Nat.gcd_rec z y, Nat.gcd_comm]) _
theorem m_clouds (hok : sp_Ok N V) (hr : RM J N V) {a k l x : Nat} (q : Int32) (hb : sp_cldOk N (nI a) (nI k) (nI l) (nI x) q) (ha : a < N 0) (hk : 6 ≤ k) (hkl : k ≤ l) (hl : l ≤ 18) (hx : x ≤ 10) (hq : q = 0 ∨ q = 1) : ax_cal E (d + 5) n_X12_clouds [.ref 68, .int (nI a), .int (nI k), .int (nI l), .int (nI x), .int q] (ax_h J) = some (some (.long (sp_cld N V a k l x q)), ax_h J) := by
  have h6 := hok.1
  have hx4 : (nI x).toInt64 = lN x := nI_l (by omega)
  have h10 : ∀ w, lN w * 10 = lN (w * 10) := fun w => lN_mul w 10
  have loop : ∀ (j n : Nat), k + n + j = l + 1 → AW E (ax_cal E (d + 4)) t_X12_clouds (64, [.ref 68, .int (nI a), .int (nI k), .int (nI l), .int (nI x), .int q, .long (lN (x ^ sp_hits N V a k n)), .float 0, .long (lN (10 ^ sp_hits N V a k n)), .float 0, .int (nI (k + n)), .float 0, .float 0, .float 0, .float 0, .float 0], [.int (nI l), .int (nI (k + n))], ax_h J) (fun r g => r = some (.long (sp_cld N V a k l x q)) ∧ g = ax_h J) := by
    intro j
    induction j with
    | zero =>
      intro n hn
      have en : n = l + 1 - k := by omega
      have hc := sp_hits_le N V a k n
      have hc13 : sp_hits N V a k n ≤ 13 := by omega
      have b2 : 10 ^ sp_hits N V a k n ≤ 10 ^ 13 := Nat.pow_le_pow_right (by omega) hc13
      have b1 : x ^ sp_hits N V a k n ≤ 10 ^ sp_hits N V a k n := Nat.pow_le_pow_left hx _
      have b3 : 0 < 10 ^ sp_hits N V a k n := Nat.pow_pos (by omega)
      have bD : 0 < Nat.gcd (x ^ sp_hits N V a k n) (10 ^ sp_hits N V a k n) := Nat.gcd_pos_of_pos_right _ b3
      have bD2 : Nat.gcd (x ^ sp_hits N V a k n) (10 ^ sp_hits N V a k n) ≤ 10 ^ sp_hits N V a k n := Nat.gcd_le_right _ b3
      obtain ⟨q1, q2⟩ := sp_gcd2 ⟨x, by omega⟩ ⟨sp_hits N V a k n, by omega⟩
      dsimp only at q1 q2
      unfold sp_cld
      rw [← en]
      generalize sp_hits N V a k n = c at *
      refine bt rfl (nI_lt (by omega) (by omega)) ?_
      iterate 7 refine bs rfl ?_
      refine m_euclid (Nat.gcd (x ^ c) (10 ^ c)) ?_ (10 ^ c) (x ^ c) (by omega) (by omega) rfl _
      intro l14
      rcases hq with rfl | rfl
      · repeat refine bs rfl ?_
        refine bf rfl (fun w => absurd ((pk_lEQ (b := 0) (by omega) (by omega)).mp w) (by omega)) ?_
        rw [pk_lDiv (by omega) bD (by omega)]
        repeat refine bs rfl ?_
        exact br rfl ⟨by rw [q1]; rfl, rfl⟩
      · repeat refine bs rfl ?_
        refine bf rfl (fun w => absurd ((pk_lEQ (b := 0) (by omega) (by omega)).mp w) (by omega)) ?_
        rw [pk_lDiv (by omega) bD (by omega)]
        repeat refine bs rfl ?_
        exact br rfl ⟨by rw [q2]; rfl, rfl⟩
    | succ j ih =>
      intro n hn
      have ih := ih (n + 1) (by omega)
      rw [show k + (n + 1) = k + n + 1 by omega, nI_succ (k + n), sp_hits] at ih
      obtain ⟨s, hs, es, -⟩ := sp_stN N V h6 a (nI (k + n))
      refine bf rfl (nI_nlt (by omega) (by omega)) ?_
      repeat refine bs rfl ?_
      refine bc rfl (m_standsAt hok hr ha (nI (k + n))) ?_
      repeat refine bs rfl ?_
      by_cases c1 : sp_st N V a (nI (k + n)) = 0
      · rw [if_pos c1] at ih
        refine bt rfl (by rw [c1]; decide) ?_
        repeat refine bs rfl ?_
        exact ih
      · rw [if_neg c1, Nat.pow_succ, Nat.pow_succ, ← lN_mul, ← h10, ← hx4] at ih
        refine bf rfl (by rw [es] at c1 ⊢; exact nI_nle (Nat.pos_of_ne_zero (fun w => c1 (by rw [w]; rfl))) (by omega)) ?_
        repeat refine bs rfl ?_
        exact ih
  refine ax_of (t := t_X12_clouds) (ls := [.ref 68, .int (nI a), .int (nI k), .int (nI l), .int (nI x), .int q, .float 0, .float 0, .float 0, .float 0, .float 0, .float 0, .float 0, .float 0, .float 0, .float 0]) rfl ⟨rfl, Nat.le_of_ble_eq_true rfl⟩ rfl ?_
  repeat refine bs rfl ?_
  refine bc rfl (m_isPerson hok hr (nI a)) ?_
  repeat refine bs rfl ?_
  refine bz rfl (fun p => absurd hb.1 p) (fun p => ?_)
  repeat refine bs rfl ?_
  refine bc rfl (c_mIsHour _ (nI k)) ?_
  repeat refine bs rfl ?_
  refine bz rfl (fun p => absurd hb.2.1.1 p) (fun p => ?_)
  repeat refine bs rfl ?_
  refine bc rfl (c_mIsHour _ (nI l)) ?_
  repeat refine bs rfl ?_
  refine bz rfl (fun p => absurd hb.2.1.2.1 p) (fun p => ?_)
  repeat refine bs rfl ?_
  refine bf rfl (Int32.not_lt.mpr hb.2.1.2.2) ?_
  repeat refine bs rfl ?_
  refine bc rfl (c_in _ (nI x) 0 10) ?_
  repeat refine bs rfl ?_
  refine bz rfl (fun p => absurd hb.2.2.1 p) (fun p => ?_)
  repeat refine bs rfl ?_
  refine bc rfl (c_in _ q 0 1) ?_
  repeat refine bs rfl ?_
  refine bz rfl (fun p => absurd hb.2.2.2 p) (fun p => ?_)
  have l0 := loop (l + 1 - k) 0 (by omega)
  repeat refine bs rfl ?_
  exact l0
end CCM
