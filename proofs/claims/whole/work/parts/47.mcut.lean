/-! contracts of the reference: shares -/
/-- are the first k orders filled -/
def ct_flB (n : Nat) (a b g : Nat → Nat) : Nat → Bool
  | 0 => true
  | k + 1 => ct_flB n a b g k && decide (b k ≤ ct_gt a g k n)
theorem ct_flB_iff {n : Nat} {a b g : Nat → Nat} : ∀ {m : Nat}, ct_flB n a b g m = true ↔ ct_fl m n a b g
  | 0 => ⟨fun _ o ho => absurd ho (by omega), fun _ => rfl⟩
  | m + 1 => by
    rw [ct_flB, Bool.and_eq_true, decide_eq_true_eq, ct_flB_iff]
    constructor
    · intro h o ho
      by_cases e : o = m
      · rw [e]; exact h.2
      · exact h.1 o (by omega)
    · intro h
      exact ⟨fun o ho => h o (by omega), h m (by omega)⟩
theorem i_ssub (x y z : Int32) : x - y - z = x - (y + z) := by
  rw [Int32.sub_eq_add_neg, Int32.sub_eq_add_neg x, Int32.sub_eq_add_neg x, Int32.neg_add, Int32.sub_eq_add_neg, Int32.add_assoc]
section MCU
variable {E : ax_E} {d : Nat} {J : Nat → Nat → Int32} {N : Nat → Nat} {V : Nat → Nat → Int32}
/-- what shares leaves behind -/
def ct_M (N : Nat → Nat) (V : Nat → Nat → Int32) (w : Nat) (J G : Nat → Nat → Int32) : Prop := (∀ q, q ≠ 68 → q ≠ 86 → G q = J q) ∧ (∀ k, k ≠ 33 → k ≠ 34 → G 68 k = J 68 k) ∧ G 68 33 = nI (ct_us (N 4) (ct_dg (N 4) (N 3) w) (N 3)) - nI (N 4) ∧ G 68 34 = nI (ct_ln (N 4) (sp_a V) (ct_dg (N 4) (N 3) w) (N 3)) - sp_sm (V 11) (N 4) ∧ ∀ r, r < N 3 → G 86 r = nI (ct_dg (N 4) (N 3) w r)
theorem m_shares (hok : sp_Ok N V) (hr : RM J N V) {w : Nat} (hw : w < (N 4 + 1) ^ N 3) : ∃ G, ax_cal E (d + 1) n_X12_shares [.ref 68, .int (nI w)] (ax_h J) = some (some (.int (if ct_flB (N 3) (sp_a V) (sp_b V) (ct_dg (N 4) (N 3) w) (N 4) = true then 1 else 0)), ax_h G) ∧ ct_M N V w J G := by
  suffices H : ∃ r' g', ax_cal E (d + 1) n_X12_shares [.ref 68, .int (nI w)] (ax_h J) = some (r', g') ∧ (r' = some (.int (if ct_flB (N 3) (sp_a V) (sp_b V) (ct_dg (N 4) (N 3) w) (N 4) = true then 1 else 0)) ∧ ∃ G, g' = ax_h G ∧ ct_M N V w J G) by
    obtain ⟨r', g', e, rfl, G, rfl, h⟩ := H
    exact ⟨G, e, h⟩
  have h7 := hok.2.2.2.1
  have h3 := hok.2.2.2.2.1
  have hn3 : J 68 4 = nI (N 3) := hr.2.2.2.2.2.2.1
  have hn4 : J 68 6 = nI (N 4) := hr.2.2.2.2.2.2.2.2.1
  have h71 : ∀ s, s < N 3 → J 71 s = nI (sp_a V s) := fun s hs => by rw [← (sp_aE hok hs).1]; exact hr.2.2.2.2.2.2.2.1 s hs
  have h72 : ∀ s, s < N 4 → J 72 s = V 11 s := fun s hs => hr.2.2.2.2.2.2.2.2.2.1 s hs
  have ha40 : ∀ s, s < N 3 → sp_a V s ≤ 40 := fun s hs => (sp_aE hok hs).2.2
  have hwb : w < 16384 := by
    have e1 : (N 4 + 1) ^ N 3 ≤ 4 ^ N 3 := Nat.pow_le_pow_left (by omega) _
    have e2 : 4 ^ N 3 ≤ 4 ^ 7 := Nat.pow_le_pow_right (by omega) h7
    have e3 : (4 : Nat) ^ 7 = 16384 := by decide
    omega
  obtain ⟨g, hg⟩ : ∃ g : Nat → Nat, g = ct_dg (N 4) (N 3) w := ⟨_, rfl⟩
  have hgm : ∀ s, g s ≤ N 4 := fun s => by rw [hg]; exact ct_dg_le _ _ _ _
  unfold ct_M
  rw [← hg]
  refine ax_ofQ (t := t_X12_shares) (ls := [.ref 68, .int (nI w), .float 0, .float 0, .float 0, .float 0, .float 0, .float 0, .float 0]) rfl ⟨rfl, Nat.le_of_ble_eq_true rfl⟩ rfl ?_
  -- the orders
  have loop2 : ∀ (j k : Nat), k + j = N 4 → ∀ (x7 x8 : Value) (G : Nat → Nat → Int32), x7.category = 1 → (∀ q, q ≠ 86 → G q = J q) → (∀ r, r < N 3 → G 86 r = nI (g r)) → AW E (ax_cal E d) t_X12_shares (114, [.ref 68, .int (nI w), .int (nI 0), .int (nI (ct_us (N 4) g (N 3))), .int (nI (ct_ln (N 4) (sp_a V) g (N 3)) - sp_sm (V 11) k), .int (if ct_flB (N 3) (sp_a V) (sp_b V) g k = true then 1 else 0), .int (nI k), x7, x8], [.int (G 68 6), .int (nI k)], ax_h G) (fun r' g' => r' = some (.int (if ct_flB (N 3) (sp_a V) (sp_b V) g (N 4) = true then 1 else 0)) ∧ ∃ G, g' = ax_h G ∧ (∀ q, q ≠ 68 → q ≠ 86 → G q = J q) ∧ (∀ k, k ≠ 33 → k ≠ 34 → G 68 k = J 68 k) ∧ G 68 33 = nI (ct_us (N 4) g (N 3)) - nI (N 4) ∧ G 68 34 = nI (ct_ln (N 4) (sp_a V) g (N 3)) - sp_sm (V 11) (N 4) ∧ ∀ r, r < N 3 → G 86 r = nI (g r)) := by
    intro j
    induction j with
    | zero =>
      intro k hk x7 x8 G _ k1 k2
      have ek : k = N 4 := by omega
      refine bt rfl (by rw [k1 68 (by decide), hn4]; exact nI_le (by omega) (by omega)) ?_
      repeat refine bs rfl ?_
      refine brz rfl ⟨by rw [ek], _, rfl, ?_, ?_, ?_, ?_, k2⟩
      · intro q q1 q2
        rw [va_up_ne _ _ q1, va_up_ne _ _ q1, k1 q q2]
      · intro q q1 q2
        show upd (upd (G 68) 33 _) 34 _ q = _
        rw [pk_un q2, pk_un q1, k1 68 (by decide)]
      · show nI (ct_us (N 4) g (N 3)) - G 68 6 = _
        rw [k1 68 (by decide), hn4]
      · show nI (ct_ln (N 4) (sp_a V) g (N 3)) - sp_sm (V 11) k = _
        rw [ek]
    | succ j ih =>
      intro k hk x7 x8 G hx7 k1 k2
      have ih := ih (k + 1) (by omega)
      rw [nI_succ] at ih
      refine bf rfl (by rw [k1 68 (by decide), hn4]; exact nI_ge (by omega) (by omega)) ?_
      have inner : ∀ (i r : Nat), r + i = N 3 → AW E (ax_cal E d) t_X12_shares (129, [.ref 68, .int (nI w), .int (nI 0), .int (nI (ct_us (N 4) g (N 3))), .int (nI (ct_ln (N 4) (sp_a V) g (N 3)) - sp_sm (V 11) k), .int (if ct_flB (N 3) (sp_a V) (sp_b V) g k = true then 1 else 0), .int (nI k), .int (nI (ct_gt (sp_a V) g k r)), .int (nI r)], [.int (G 68 4), .int (nI r)], ax_h G) (fun r' g' => r' = some (.int (if ct_flB (N 3) (sp_a V) (sp_b V) g (N 4) = true then 1 else 0)) ∧ ∃ G, g' = ax_h G ∧ (∀ q, q ≠ 68 → q ≠ 86 → G q = J q) ∧ (∀ k, k ≠ 33 → k ≠ 34 → G 68 k = J 68 k) ∧ G 68 33 = nI (ct_us (N 4) g (N 3)) - nI (N 4) ∧ G 68 34 = nI (ct_ln (N 4) (sp_a V) g (N 3)) - sp_sm (V 11) (N 4) ∧ ∀ r, r < N 3 → G 86 r = nI (g r)) := by
        intro i
        induction i with
        | zero =>
          intro r hrr
          have er : r = N 3 := by omega
          have hb := (sp_bE hok (show k < N 4 by omega))
          have hgb : ct_gt (sp_a V) g k r ≤ 40 * r := ct_gt_le r (fun s hs => ha40 s (by omega))
          have e72 : G 72 k = V 11 k := by rw [k1 72 (by decide), h72 k (by omega)]
          refine bt rfl (by rw [k1 68 (by decide), hn3]; exact nI_le (by omega) (by omega)) ?_
          have fin := ih (.int (nI (ct_gt (sp_a V) g k r))) (.int (nI r)) G rfl k1 k2
          rw [sp_sm, ← i_ssub, ← e72] at fin
          repeat refine bs rfl ?_
          refine bz rfl (fun p => ?_) (fun p => ?_)
          · rw [ct_flB, Bool.eq_false_iff.mpr p, Bool.false_and] at fin
            repeat (first | refine bs rfl ?_ | refine bld rfl _ rfl (by omega) (by omega) ?_)
            exact fin
          · rw [ct_flB, p, Bool.true_and] at fin
            repeat (first | refine bs rfl ?_ | refine bld rfl _ rfl (by omega) (by omega) ?_)
            refine bb rfl (fun c => ?_) (fun c => ?_)
            · rw [e72, hb.1] at c
              have c := (nI_ltI (by omega) (by omega)).mp c
              rw [er] at c
              rw [decide_eq_false (show ¬ sp_b V k ≤ ct_gt (sp_a V) g k (N 3) by omega)] at fin
              repeat (first | refine bs rfl ?_ | refine bld rfl _ rfl (by omega) (by omega) ?_)
              exact fin
            · rw [e72, hb.1] at c
              have c : sp_b V k ≤ ct_gt (sp_a V) g k r := by
                apply Classical.byContradiction
                intro q
                exact c (nI_lt (by omega) (by omega))
              rw [er] at c
              rw [decide_eq_true c] at fin
              repeat (first | refine bs rfl ?_ | refine bld rfl _ rfl (by omega) (by omega) ?_)
              exact fin
        | succ i ih2 =>
          intro r hrr
          have ih2 := ih2 (r + 1) (by omega)
          rw [nI_succ, ct_gt] at ih2
          have hgr := hgm r
          refine bf rfl (by rw [k1 68 (by decide), hn3]; exact nI_ge (by omega) (by omega)) ?_
          repeat (first | refine bs rfl ?_ | refine bld rfl _ rfl (by omega) (by omega) ?_)
          rw [k2 r (by omega)]
          refine bb rfl (fun c => ?_) (fun c => ?_)
          · have c := (nI_eq (by omega) (by omega)).mp c
            rw [if_pos c, ← nI_add, ← h71 r (by omega), ← k1 71 (by decide)] at ih2
            repeat (first | refine bs rfl ?_ | refine bld rfl _ rfl (by omega) (by omega) ?_)
            exact ih2
          · have c : ¬ g r = k := fun q => c (by rw [q])
            rw [if_neg c, ← nI_add] at ih2
            repeat (first | refine bs rfl ?_ | refine bld rfl _ rfl (by omega) (by omega) ?_)
            exact ih2
      have l0 := inner (N 3) 0 (Nat.zero_add _)
      cases x7 with
      | long z => cases hx7
      | double z => cases hx7
      | _ =>
        repeat refine bs rfl ?_
        exact l0
  have loop1 : ∀ (t : Nat), t ≤ N 3 → ∀ (G : Nat → Nat → Int32), (∀ q, q ≠ 86 → G q = J q) → (∀ r, t ≤ r → r < N 3 → G 86 r = nI (g r)) → AW E (ax_cal E d) t_X12_shares (17, [.ref 68, .int (nI w), .int (nI (w / (N 4 + 1) ^ (N 3 - t))), .int (nI (ct_us (N 4) g (N 3) - ct_us (N 4) g t)), .int (nI (ct_ln (N 4) (sp_a V) g (N 3) - ct_ln (N 4) (sp_a V) g t)), .int (nI t + (-1)), .float 0, .float 0, .float 0], [.int (nI t + (-1))], ax_h G) (fun r' g' => r' = some (.int (if ct_flB (N 3) (sp_a V) (sp_b V) g (N 4) = true then 1 else 0)) ∧ ∃ G, g' = ax_h G ∧ (∀ q, q ≠ 68 → q ≠ 86 → G q = J q) ∧ (∀ k, k ≠ 33 → k ≠ 34 → G 68 k = J 68 k) ∧ G 68 33 = nI (ct_us (N 4) g (N 3)) - nI (N 4) ∧ G 68 34 = nI (ct_ln (N 4) (sp_a V) g (N 3)) - sp_sm (V 11) (N 4) ∧ ∀ r, r < N 3 → G 86 r = nI (g r)) := by
    intro t
    induction t with
    | zero =>
      intro _ G k1 k2
      have l0 := loop2 (N 4) 0 (Nat.zero_add _) (.float 0) (.float 0) G rfl k1 (fun r hr => k2 r (by omega) hr)
      rw [sp_sm, show nI (ct_ln (N 4) (sp_a V) g (N 3)) - 0 = nI (ct_ln (N 4) (sp_a V) g (N 3)) from Int32.sub_zero _] at l0
      rw [Nat.sub_zero, Nat.div_eq_of_lt hw, ct_us, ct_ln, Nat.sub_zero, Nat.sub_zero]
      repeat refine bs rfl ?_
      exact l0
    | succ t ih =>
      intro ht G k1 k2
      have hgt := hgm t
      rw [pk_m1]
      refine bf rfl (nI_pos (by omega)) ?_
      have e68 : G 68 6 + 1 = nI (N 4 + 1) := by rw [k1 68 (by decide), hn4]; exact (nI_succ _).symm
      have hq : w / (N 4 + 1) ^ (N 3 - (t + 1)) ≤ w := Nat.div_le_self _ _
      have hdg : w / (N 4 + 1) ^ (N 3 - (t + 1)) % (N 4 + 1) = g t := by
        rw [hg]
        unfold ct_dg
        rw [show N 3 - 1 - t = N 3 - (t + 1) by omega]
      have hdv : w / (N 4 + 1) ^ (N 3 - (t + 1)) / (N 4 + 1) = w / (N 4 + 1) ^ (N 3 - t) := by
        rw [Nat.div_div_eq_div_mul, ← Nat.pow_succ, show (N 3 - (t + 1)).succ = N 3 - t by omega]
      have hu : ct_us (N 4) g (N 3) - ct_us (N 4) g t = ct_us (N 4) g (N 3) - ct_us (N 4) g (t + 1) + (if g t < N 4 then 1 else 0) := by
        have := ct_us_mono (m := N 4) (g := g) (r := t + 1) (N 3 - (t + 1))
        rw [show t + 1 + (N 3 - (t + 1)) = N 3 by omega] at this
        rw [ct_us] at this ⊢
        omega
      have hl : ct_ln (N 4) (sp_a V) g (N 3) - ct_ln (N 4) (sp_a V) g t = ct_ln (N 4) (sp_a V) g (N 3) - ct_ln (N 4) (sp_a V) g (t + 1) + (if g t < N 4 then sp_a V t else 0) := by
        have := ct_ln_mono (m := N 4) (a := sp_a V) (g := g) (r := t + 1) (N 3 - (t + 1))
        rw [show t + 1 + (N 3 - (t + 1)) = N 3 by omega] at this
        rw [ct_ln] at this ⊢
        omega
      generalize hy : w / (N 4 + 1) ^ (N 3 - (t + 1)) = y at *
      generalize ct_us (N 4) g (N 3) - ct_us (N 4) g (t + 1) = u1 at *
      generalize ct_ln (N 4) (sp_a V) g (N 3) - ct_ln (N 4) (sp_a V) g (t + 1) = l1 at *
      have ih := fun G a b => ih (by omega) G a b
      rw [hu, hl, ← nI_add, ← nI_add, ← hdv, ← pk_div (by omega) (by omega) (by omega), ← e68] at ih
      have hrem : nI y - nI y / (G 68 6 + 1) * (G 68 6 + 1) = nI (g t) := by rw [e68, pk_rem (by omega) (by omega) (by omega), hdg]
      have hne : ¬ G 68 6 + 1 = 0 := by rw [e68]; exact nI_ne0 (by omega) (by omega)
      repeat refine bs rfl ?_
      refine bf rfl hne ?_
      repeat refine bs rfl ?_
      refine bsto rfl t rfl (by omega) (by omega) ?_
      rw [hrem]
      repeat refine bs rfl ?_
      refine bf rfl hne ?_
      have kk : ∀ r, t ≤ r → r < N 3 → (va_up G 86 (upd (G 86) t (nI (g t)))) 86 r = nI (g r) := by
        intro r r1 r2
        show upd (G 86) t (nI (g t)) r = _
        by_cases e : r = t
        · rw [e, pk_us]
        · rw [pk_un e]
          exact k2 r (by omega) r2
      have ih := ih (va_up G 86 (upd (G 86) t (nI (g t)))) (fun q hq => by rw [va_up_ne _ _ hq, k1 q hq]) kk
      have rd : upd (G 86) t (nI (g t)) t = nI (g t) := pk_us
      have h4 : G 68 6 = nI (N 4) := by rw [k1 68 (by decide), hn4]
      rw [h4] at ih
      repeat (first | refine bs rfl ?_ | refine bld rfl _ rfl (by omega) (by omega) ?_)
      rw [show (va_up G 86 (upd (G 86) t (nI (g t)))) 86 t = nI (g t) from rd, show (va_up G 86 (upd (G 86) t (nI (g t)))) 68 6 = nI (N 4) from h4]
      by_cases cc : g t < N 4
      · rw [if_pos cc, if_pos cc, ← h71 t (by omega), ← k1 71 (by decide)] at ih
        refine bf rfl (nI_ge (by omega) (by omega)) ?_
        repeat (first | refine bs rfl ?_ | refine bld rfl _ rfl (by omega) (by omega) ?_)
        rw [show (va_up G 86 (upd (G 86) t (nI (g t)))) 86 t = nI (g t) from rd, show (va_up G 86 (upd (G 86) t (nI (g t)))) 68 6 = nI (N 4) from h4]
        refine bf rfl (nI_ge (by omega) (by omega)) ?_
        iterate 3 refine bs rfl ?_
        refine bld rfl t rfl (by omega) (by omega) ?_
        iterate 6 refine bs rfl ?_
        exact ih
      · rw [if_neg cc, if_neg cc] at ih
        refine bt rfl (nI_le (by omega) (by omega)) ?_
        repeat (first | refine bs rfl ?_ | refine bld rfl _ rfl (by omega) (by omega) ?_)
        rw [show (va_up G 86 (upd (G 86) t (nI (g t)))) 86 t = nI (g t) from rd, show (va_up G 86 (upd (G 86) t (nI (g t)))) 68 6 = nI (N 4) from h4]
        refine bt rfl (nI_le (by omega) (by omega)) ?_
        iterate 6 refine bs rfl ?_
        exact ih
  have l0 := loop1 (N 3) (Nat.le_refl _) J (fun _ _ => rfl) (fun r a b => absurd b (by omega))
  rw [Nat.sub_self, Nat.sub_self, Nat.sub_self, Nat.pow_zero, Nat.div_one, ← Int32.sub_eq_add_neg, ← hn3] at l0
  repeat refine bs rfl ?_
  exact l0
end MCU
