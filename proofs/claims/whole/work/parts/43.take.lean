/-! contracts of the class: Cutting.take -/
section CT
variable {E : ax_E} {d : Nat} {tl : List (Nat × Nat)} {rtl : List (List (Option Nat))} {J : Nat → Nat → Int32} {n3 : Nat}
theorem c_take (hn : J 44 4 = nI n3) (h7 : n3 ≤ 7) (used len : Int32) : ∃ G, ax_cal E (d + 1) n_X1_take [.ref 23, .ref 44, .int used, .int len] (ax_hC tl rtl J) = some (none, ax_hC tl rtl G) ∧ (∀ q, q ≠ 23 → q ≠ 26 → G q = J q) ∧ G 23 = upd (upd (upd (J 23) 4 1) 5 used) 6 len ∧ ∀ k, k < n3 → G 26 k = J 25 k := by
  suffices H : ∃ r g, ax_cal E (d + 1) n_X1_take [.ref 23, .ref 44, .int used, .int len] (ax_hC tl rtl J) = some (r, g) ∧ (r = none ∧ ∃ G, g = ax_hC tl rtl G ∧ (∀ q, q ≠ 23 → q ≠ 26 → G q = J q) ∧ G 23 = upd (upd (upd (J 23) 4 1) 5 used) 6 len ∧ ∀ k, k < n3 → G 26 k = J 25 k) by
    obtain ⟨r, g, e, rfl, G, rfl, h⟩ := H
    exact ⟨G, e, h⟩
  refine ax_ofQ (t := t_X1_take) (ls := [.ref 23, .ref 44, .int used, .int len, .float 0]) rfl ⟨rfl, Nat.le_of_ble_eq_true rfl⟩ rfl ?_
  have loop : ∀ (j n : Nat), n + j = n3 → ∀ G : Nat → Nat → Int32, (∀ q, q ≠ 23 → q ≠ 26 → G q = J q) → G 23 = upd (upd (upd (J 23) 4 1) 5 used) 6 len → (∀ k, k < n → G 26 k = J 25 k) → AW E (ax_cal E d) t_X1_take (24, [.ref 23, .ref 44, .int used, .int len, .int (nI n)], [.int (G 44 4), .int (nI n)], ax_hC tl rtl G) (fun r g => r = none ∧ ∃ G, g = ax_hC tl rtl G ∧ (∀ q, q ≠ 23 → q ≠ 26 → G q = J q) ∧ G 23 = upd (upd (upd (J 23) 4 1) 5 used) 6 len ∧ ∀ k, k < n3 → G 26 k = J 25 k) := by
    intro j
    induction j with
    | zero =>
      intro n hn' G h1 h2 h3
      refine bt rfl (by rw [h1 44 (by decide) (by decide), hn]; exact nI_le (by omega) (by omega)) ?_
      repeat refine bs rfl ?_
      exact br rfl ⟨rfl, G, rfl, h1, h2, fun k hk => h3 k (by omega)⟩
    | succ j ih =>
      intro n hn' G h1 h2 h3
      have ih := ih (n + 1) (by omega)
      rw [nI_succ] at ih
      refine bf rfl (by rw [h1 44 (by decide) (by decide), hn]; exact nI_ge (by omega) (by omega)) ?_
      repeat (first | refine bs rfl ?_ | refine bld rfl _ rfl (by omega) (by omega) ?_)
      refine bsto rfl n rfl (by omega) (by omega) ?_
      repeat refine bs rfl ?_
      refine ih _ ?_ h2 ?_
      · intro q a b
        rw [va_up_ne _ _ b, h1 q a b]
      · intro k hk
        show upd (G 26) n (G 25 n) k = _
        by_cases e : k = n
        · subst e
          rw [pk_us, h1 25 (by decide) (by decide)]
        · rw [pk_un e]
          exact h3 k (by omega)
  iterate 14 refine bs rfl ?_
  refine loop n3 0 (Nat.zero_add _) _ ?_ rfl (fun k hk => absurd hk (by omega))
  intro q a b
  rw [va_up_ne _ _ a, va_up_ne _ _ a, va_up_ne _ _ a]
end CT
