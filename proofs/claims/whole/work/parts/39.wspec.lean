/-! watchers: what both sides count -/
section WS
variable {N : Nat → Nat} {V : Nat → Nat → Int32}
/-- a shadow that is there, wholly above a cell -/
def sp_wp (N : Nat → Nat) (V : Nat → Nat → Int32) (t ab : Int32) (i : Nat) : Bool := decide (0 < sp_len V i t ∧ ab < sp_low N V i t)
theorem sp_len_rg (hok : sp_Ok N V) {a k : Nat} (ha : a < N 0) (h1 : 6 ≤ k) (h2 : k ≤ 18) : 0 ≤ (sp_len V a (nI k)).toInt ∧ (sp_len V a (nI k)).toInt ≤ 63 := by
  obtain ⟨f, hf, ef⟩ := sp_fullN hok ha h1 h2
  have hfi : (sp_full V a (nI k)).toInt = f := by rw [ef, nI_toInt (by omega)]
  have h3 := (hok.2.2.2.2.2.2.1 a ha).2.2.2
  unfold sp_len sp_by
  by_cases h : V 3 a < sp_full V a (nI k)
  · have h' := i_lt.mp h
    rw [if_pos h, i_sub (by omega) (by omega), hfi]
    omega
  · rw [if_neg h]
    decide
theorem sp_lh (hok : sp_Ok N V) {a k : Nat} (ha : a < N 0) (h1 : 6 ≤ k) (h2 : k ≤ 18) (hl : 0 < (sp_len V a (nI k)).toInt) : -1000 < (sp_low N V a (nI k)).toInt ∧ (sp_low N V a (nI k)).toInt ≤ (sp_high N V a (nI k)).toInt ∧ (sp_high N V a (nI k)).toInt < 1000 := by
  have hc := sp_cell_rg hok ha (nI k)
  have hL := sp_len_rg hok ha h1 h2
  have em : (-1 : Int32).toInt = -1 := by decide
  have e1 : (1 : Int32).toInt = 1 := by decide
  unfold sp_low sp_high sp_end
  rcases sp_way_pm V a (nI k) with w | w
  · have em2 : ((-1 : Int32) * sp_len V a (nI k)).toInt = -1 * (sp_len V a (nI k)).toInt := by rw [i_mul (by rw [em]; omega) (by rw [em]; omega), em]
    rw [w, if_neg (by decide), if_neg (by decide), i_add (by omega) (by omega), em2, i_sub (by omega) (by omega), e1]
    omega
  · have em2 : ((1 : Int32) * sp_len V a (nI k)).toInt = 1 * (sp_len V a (nI k)).toInt := by rw [i_mul (by rw [e1]; omega) (by rw [e1]; omega), e1]
    rw [w, if_pos (by decide), if_pos (by decide), i_add (by omega) (by omega), i_add (by omega) (by omega), em2, e1]
    omega
theorem sp_wp_iff {t ab : Int32} {i : Nat} : sp_wp N V t ab i = true ↔ 0 < (sp_len V i t).toInt ∧ ab.toInt < (sp_low N V i t).toInt := by
  unfold sp_wp
  rw [decide_eq_true_iff, i_lt, i_lt, show (0 : Int32).toInt = 0 from by decide]
theorem sp_nw_low {t ab : Int32} : ∀ n i, i < n → sp_wp N V t ab i = true → (sp_nw N V t ab n).toInt ≤ (sp_high N V i t).toInt
  | n + 1, i, hi, hp => by
    rw [sp_nw]
    by_cases e : i = n
    · subst e
      rw [if_pos (of_decide_eq_true hp), apply_ite Int32.toInt]
      by_cases h : sp_high N V i t < sp_nw N V t ab i
      · rw [if_pos h]; omega
      · rw [if_neg h]
        exact i_le.mp (Int32.not_lt.mp h)
    · have ih := sp_nw_low n i (by omega) hp
      split
      · split
        · rename_i h
          have := i_lt.mp h
          omega
        · exact ih
      · exact ih
theorem sp_nw_is {t ab : Int32} : ∀ n, sp_nw N V t ab n = 1000 ∨ ∃ i, i < n ∧ sp_wp N V t ab i = true ∧ sp_nw N V t ab n = sp_high N V i t
  | 0 => Or.inl rfl
  | n + 1 => by
    have ih := sp_nw_is (t := t) (ab := ab) n
    rw [sp_nw]
    split
    · rename_i h
      split
      · exact Or.inr ⟨n, by omega, decide_eq_true h, rfl⟩
      · rcases ih with e | ⟨i, hi, hp, e⟩
        · exact Or.inl e
        · exact Or.inr ⟨i, by omega, hp, e⟩
    · rcases ih with e | ⟨i, hi, hp, e⟩
      · exact Or.inl e
      · exact Or.inr ⟨i, by omega, hp, e⟩
theorem sp_ct_0 {p : Nat → Bool} : ∀ n, sp_ct p n = 0 → ∀ i, i < n → p i = false
  | n + 1, h, i, hi => by
    rw [sp_ct] at h
    by_cases e : i = n
    · subst e
      cases hv : p i with
      | false => rfl
      | true => rw [hv, if_pos rfl] at h; omega
    · exact sp_ct_0 n (by omega) i (by omega)
theorem sp_ct_mono {p q : Nat → Bool} (h : ∀ i, p i = true → q i = true) : ∀ n, sp_ct p n ≤ sp_ct q n
  | 0 => Nat.le_refl _
  | n + 1 => by
    have ih := sp_ct_mono h n
    have hn := h n
    rw [sp_ct, sp_ct]
    cases hv : p n with
    | false => rw [if_neg (by decide)]; omega
    | true => rw [hn hv, if_pos rfl]; omega
theorem sp_ct_less {p q : Nat → Bool} (h : ∀ i, p i = true → q i = true) {a : Nat} (h1 : p a = false) (h2 : q a = true) : ∀ n, a < n → sp_ct p n < sp_ct q n
  | n + 1, ha => by
    have hn := h n
    rw [sp_ct, sp_ct]
    by_cases e : a = n
    · subst e
      have := sp_ct_mono h a
      rw [h1, h2, if_neg (by decide), if_pos rfl]
      omega
    · have ih := sp_ct_less h h1 h2 n (by omega)
      cases hv : p n with
      | false => rw [if_neg (by decide)]; omega
      | true => rw [hn hv, if_pos rfl]; omega
end WS
