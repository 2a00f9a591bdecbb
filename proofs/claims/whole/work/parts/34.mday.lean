/-! contracts of the reference: day -/
/-- how many of the first k pairs stand one on the other -/
def sp_pk (N : Nat → Nat) (V : Nat → Nat → Int32) (z t : Int32) : Nat → Nat
  | 0 => 0
  | k + 1 => sp_pk N V z t k + (if sp_dp V z t (k / N 0) (k % N 0) = true then 1 else 0)
theorem sp_pk_le (N : Nat → Nat) (V : Nat → Nat → Int32) (z t : Int32) : ∀ k, sp_pk N V z t k ≤ k
  | 0 => Nat.le_refl _
  | k + 1 => by
    have := sp_pk_le N V z t k
    rw [sp_pk]
    split <;> omega
theorem sp_pk_at (N : Nat → Nat) (V : Nat → Nat → Int32) (z t : Int32) : ∀ i j, j ≤ N 0 → sp_pk N V z t (i * N 0 + j) = sp_dr N V z t i + sp_ct (sp_dp V z t i) j
  | 0, 0, _ => by rw [Nat.zero_mul]; rfl
  | i + 1, 0, _ => by
    have e := sp_pk_at N V z t i (N 0) (Nat.le_refl _)
    rw [Nat.succ_mul, Nat.add_zero, e, sp_dr]
    rfl
  | i, j + 1, h => by
    have e := sp_pk_at N V z t i j (by omega)
    have hp : 0 < N 0 := by omega
    have e1 : (i * N 0 + j) / N 0 = i := by rw [Nat.add_comm, Nat.add_mul_div_right _ _ hp, Nat.div_eq_of_lt (by omega), Nat.zero_add]
    have e2 : (i * N 0 + j) % N 0 = j := by rw [Nat.add_comm, Nat.add_mul_mod_self_right, Nat.mod_eq_of_lt (by omega)]
    rw [← Nat.add_assoc, sp_pk, sp_ct, e, e1, e2, Nat.add_assoc]
theorem sp_pk_all (N : Nat → Nat) (V : Nat → Nat → Int32) (z t : Int32) : sp_pk N V z t (N 0 * N 0) = sp_dr N V z t (N 0) := by
  have e := sp_pk_at N V z t (N 0) 0 (Nat.zero_le _)
  rw [Nat.add_zero] at e
  rw [e]
  rfl
theorem sp_dp_self (V : Nat → Nat → Int32) (z t : Int32) (i : Nat) : sp_dp V z t i i = false := by
  unfold sp_dp sp_rch
  rw [Int32.sub_self, Int32.zero_mul]
  exact decide_eq_false (fun q => absurd q.1 (by decide))
/-- the first hour so far, k pairs into an hour -/
def sp_fk (N : Nat → Nat) (V : Nat → Nat → Int32) (z : Int32) (n k : Nat) : Int32 := if sp_df N V z n = -4 ∧ 0 < sp_pk N V z (nI (6 + n)) k then nI (6 + n) else sp_df N V z n
section DM
variable {E : ax_E} {d : Nat} {J : Nat → Nat → Int32} {N : Nat → Nat} {V : Nat → Nat → Int32}
theorem m_drawn (h : ax_H) (z t i : Int32) : ax_cal E (d + 1) n_X12_drawn [.int z, .int t, .int i] h = some (some (.int (sp_drw z t i)), h) := by
  refine ax_of (t := t_X12_drawn) (ls := [.int z, .int t, .int i, .float 0, .float 0]) rfl ⟨rfl, Nat.le_of_ble_eq_true rfl⟩ rfl ?_
  repeat refine bs rfl ?_
  exact br rfl ⟨rfl, rfl⟩
theorem m_dayB (z w : Int32) (hb : ¬ sp_dayOk z w) : ax_cal E (d + 4) n_X12_day [.ref 68, .int z, .int w] (ax_h J) = some (some (.int (-1)), ax_h J) := by
  refine ax_of (t := t_X12_day) (ls := [.ref 68, .int z, .int w, .float 0, .float 0, .float 0, .float 0, .float 0, .float 0, .float 0]) rfl ⟨rfl, Nat.le_of_ble_eq_true rfl⟩ rfl ?_
  repeat refine bs rfl ?_
  refine bc rfl (c_in _ z 0 9999) ?_
  repeat refine bs rfl ?_
  refine bz rfl (fun p => ?_) (fun p => ?_)
  · repeat refine bs rfl ?_
    exact br rfl ⟨rfl, rfl⟩
  · repeat refine bs rfl ?_
    refine bc rfl (c_in _ w 0 1) ?_
    repeat refine bs rfl ?_
    refine bz rfl (fun p2 => ?_) (fun p2 => absurd ⟨p, p2⟩ hb)
    repeat refine bs rfl ?_
    exact br rfl ⟨rfl, rfl⟩
theorem m_day (hok : sp_Ok N V) (hr : RM J N V) (z w : Int32) (hb : sp_dayOk z w) : ax_cal E (d + 4) n_X12_day [.ref 68, .int z, .int w] (ax_h J) = some (some (.int (sp_dayV N V z w)), ax_h J) := by
  have h6 := hok.1
  have hn : J 68 0 = nI (N 0) := hr.1
  refine ax_of (t := t_X12_day) (ls := [.ref 68, .int z, .int w, .float 0, .float 0, .float 0, .float 0, .float 0, .float 0, .float 0]) rfl ⟨rfl, Nat.le_of_ble_eq_true rfl⟩ rfl ?_
  have outer : ∀ (m n : Nat), n + m = 13 → ∀ (l6 l7 l8 l9 : Value), AW E (ax_cal E (d + 3)) t_X12_day (36, [.ref 68, .int z, .int w, .int (nI (sp_dt N V z n)), .int (sp_df N V z n), .int (nI (6 + n)), l6, l7, l8, l9], [.int 18, .int (nI (6 + n))], ax_h J) (fun r g => r = some (.int (sp_dayV N V z w)) ∧ g = ax_h J) := by
    intro m
    induction m with
    | zero =>
      intro n hn' l6 l7 l8 l9
      have e13 : n = 13 := by omega
      unfold sp_dayV
      rw [← e13]
      refine bt rfl (nI_lt (a := 18) (b := 6 + n) (by omega) (by omega)) ?_
      repeat refine bs rfl ?_
      refine bb rfl (fun c1 => ?_) (fun c1 => ?_)
      · repeat refine bs rfl ?_
        exact br rfl ⟨by rw [if_pos c1], rfl⟩
      · repeat refine bs rfl ?_
        exact br rfl ⟨by rw [if_neg c1], rfl⟩
    | succ m ihm =>
      intro n hn' l6 l7 l8 l9
      have ihm := ihm (n + 1) (by omega)
      rw [show 6 + (n + 1) = 6 + n + 1 by omega, nI_succ (6 + n), sp_dt, sp_df] at ihm
      have hlt := sp_dt_le N V z h6 n
      have hnn : N 0 * N 0 ≤ 36 := Nat.mul_le_mul h6 h6
      have hJ : J 68 0 * J 68 0 = nI (N 0 * N 0) := by rw [hn, pk_mul]
      refine bf rfl (nI_nlt (b := 6 + n) (a := 18) (by omega) (by omega)) ?_
      have inner : ∀ (j k : Nat), k + j = N 0 * N 0 → ∀ (l7 l8 l9 : Value), AW E (ax_cal E (d + 3)) t_X12_day (53, [.ref 68, .int z, .int w, .int (nI (sp_dt N V z n + sp_pk N V z (nI (6 + n)) k)), .int (sp_fk N V z n k), .int (nI (6 + n)), .int (nI k), l7, l8, l9], [.int (J 68 0 * J 68 0), .int (nI k)], ax_h J) (fun r g => r = some (.int (sp_dayV N V z w)) ∧ g = ax_h J) := by
        intro j
        induction j with
        | zero =>
          intro k hk l7 l8 l9
          have ek : k = N 0 * N 0 := by omega
          refine bt rfl (by rw [hJ]; exact nI_le (by omega) (by omega)) ?_
          unfold sp_fk
          rw [ek, sp_pk_all]
          repeat refine bs rfl ?_
          exact ihm _ _ _ _
        | succ j ih =>
          intro k hk l7 l8 l9
          have ih := ih (k + 1) (by omega)
          have hp : 0 < N 0 := by
            rcases Nat.eq_zero_or_pos (N 0) with e | e
            · rw [e] at hk; omega
            · exact e
          have hi : k / N 0 < N 0 := Nat.div_lt_of_lt_mul (by omega)
          have hw : k % N 0 < N 0 := Nat.mod_lt _ hp
          have hpk := sp_pk_le N V z (nI (6 + n)) k
          rw [nI_succ k, sp_pk] at ih
          refine bf rfl (by rw [hJ]; exact nI_ge (by omega) (by omega)) ?_
          repeat refine bs rfl ?_
          refine bf rfl (by rw [hn]; exact nI_ne0 hp (by omega)) ?_
          repeat refine bs rfl ?_
          refine bf rfl (by rw [hn]; exact nI_ne0 hp (by omega)) ?_
          rw [hn, pk_div (by omega) hp (by omega), pk_mul, ← pk_mul (k / N 0) (N 0), ← pk_div (a := k) (by omega) hp (by omega), pk_rem (by omega) hp (by omega), pk_div (by omega) hp (by omega)]
          repeat refine bs rfl ?_
          have off : sp_dp V z (nI (6 + n)) (k / N 0) (k % N 0) = false → AW E (ax_cal E (d + 3)) t_X12_day (123, [.ref 68, .int z, .int w, .int (nI (sp_dt N V z n + sp_pk N V z (nI (6 + n)) k)), .int (sp_fk N V z n k), .int (nI (6 + n)), .int (nI k), .int (nI (k / N 0)), .int (nI (k % N 0)), l9], [], ax_h J) (fun r g => r = some (.int (sp_dayV N V z w)) ∧ g = ax_h J) := by
            intro ho
            rw [ho, if_neg (by decide), Nat.add_zero] at ih
            have ef : sp_fk N V z n (k + 1) = sp_fk N V z n k := by
              have e1 : sp_pk N V z (nI (6 + n)) (k + 1) = sp_pk N V z (nI (6 + n)) k := by rw [sp_pk, ho]; rfl
              unfold sp_fk
              rw [e1]
            rw [ef] at ih
            repeat refine bs rfl ?_
            rw [Int32.add_zero]
            exact ih _ _ _
          by_cases c1 : k / N 0 = k % N 0
          · refine bt rfl (by rw [c1]) ?_
            exact off (by rw [c1]; exact sp_dp_self V z _ _)
          · refine bf rfl (fun q => c1 ((nI_eq (by omega) (by omega)).mp q)) ?_
            repeat refine bs rfl ?_
            refine bc rfl (m_drawn _ z (nI (6 + n)) (nI (k / N 0))) ?_
            repeat refine bs rfl ?_
            refine bc rfl (m_wayAt hok hr hi (nI (6 + n))) ?_
            repeat refine bs rfl ?_
            refine bc rfl (m_longAt hok hr hi (nI (6 + n))) ?_
            repeat refine bs rfl ?_
            refine bc rfl (m_drawn _ z (nI (6 + n)) (nI (k % N 0))) ?_
            repeat refine bs rfl ?_
            refine bc rfl (c_reaches _ _ _ _ _) ?_
            repeat refine bs rfl ?_
            refine bz rfl (fun p => ?_) (fun p => ?_)
            · exact off (by cases hv : sp_dp V z (nI (6 + n)) (k / N 0) (k % N 0) with
                | false => rfl
                | true => exact absurd hv p)
            · have ho : sp_dp V z (nI (6 + n)) (k / N 0) (k % N 0) = true := p
              rw [ho, if_pos rfl, ← Nat.add_assoc, nI_succ] at ih
              repeat refine bs rfl ?_
              by_cases c2 : sp_df N V z n = -4 ∧ ¬ 0 < sp_pk N V z (nI (6 + n)) k
              · have e0 : sp_fk N V z n k = -4 := by unfold sp_fk; rw [if_neg (fun q => c2.2 q.2)]; exact c2.1
                have e1 : sp_fk N V z n (k + 1) = nI (6 + n) := by unfold sp_fk; rw [sp_pk, ho, if_pos ⟨c2.1, by rw [if_pos rfl]; omega⟩]
                rw [e1] at ih
                refine bt rfl e0 ?_
                repeat refine bs rfl ?_
                exact ih _ _ _
              · have e1 : sp_fk N V z n (k + 1) = sp_fk N V z n k := by
                  unfold sp_fk
                  rw [sp_pk, ho]
                  by_cases c3 : sp_df N V z n = -4
                  · have c4 : 0 < sp_pk N V z (nI (6 + n)) k := Decidable.byContradiction (fun q => c2 ⟨c3, q⟩)
                    rw [if_pos ⟨c3, by rw [if_pos rfl]; omega⟩, if_pos ⟨c3, c4⟩]
                  · rw [if_neg (fun q => c3 q.1), if_neg (fun q => c3 q.1)]
                have e0 : ¬ sp_fk N V z n k = -4 := by
                  unfold sp_fk
                  by_cases c3 : sp_df N V z n = -4
                  · have c4 : 0 < sp_pk N V z (nI (6 + n)) k := Decidable.byContradiction (fun q => c2 ⟨c3, q⟩)
                    rw [if_pos ⟨c3, c4⟩]
                    exact nI_m4 (by omega)
                  · rw [if_neg (fun q => c3 q.1)]
                    exact c3
                rw [e1] at ih
                refine bf rfl e0 ?_
                repeat refine bs rfl ?_
                exact ih _ _ _
      have ef0 : sp_fk N V z n 0 = sp_df N V z n := by
        unfold sp_fk
        rw [if_neg (fun q => absurd q.2 (by show ¬ 0 < 0; omega))]
      have l0 := inner (N 0 * N 0) 0 (Nat.zero_add _) l7 l8 l9
      rw [show sp_dt N V z n + sp_pk N V z (nI (6 + n)) 0 = sp_dt N V z n from rfl, ef0] at l0
      repeat refine bs rfl ?_
      exact l0
  repeat refine bs rfl ?_
  refine bc rfl (c_in _ z 0 9999) ?_
  repeat refine bs rfl ?_
  refine bz rfl (fun p => absurd hb.1 p) (fun p => ?_)
  repeat refine bs rfl ?_
  refine bc rfl (c_in _ w 0 1) ?_
  repeat refine bs rfl ?_
  refine bz rfl (fun p => absurd hb.2 p) (fun p => ?_)
  have l0 := outer 13 0 (by omega) (.float 0) (.float 0) (.float 0) (.float 0)
  iterate 8 refine bs rfl ?_
  exact l0
end DM
