/-! contracts: clouds -/
/-- at how many of n hours from ta on a shadow is stood on -/
def sp_hits (N : Nat → Nat) (V : Nat → Nat → Int32) (a ta : Nat) : Nat → Nat
  | 0 => 0
  | n + 1 => if sp_st N V a (nI (ta + n)) = 0 then sp_hits N V a ta n else sp_hits N V a ta n + 1
theorem sp_hits_le (N : Nat → Nat) (V : Nat → Nat → Int32) (a ta : Nat) : ∀ n, sp_hits N V a ta n ≤ n
  | 0 => Nat.le_refl _
  | n + 1 => by
    have := sp_hits_le N V a ta n
    rw [sp_hits]
    split <;> omega
def sp_cldOk (N : Nat → Nat) (i a b x p : Int32) : Prop := (0 ≤ i ∧ i < nI (N 0)) ∧ ((6 ≤ a ∧ a ≤ 18) ∧ (6 ≤ b ∧ b ≤ 18) ∧ a ≤ b) ∧ (0 ≤ x ∧ x ≤ 10) ∧ 0 ≤ p ∧ p ≤ 1
def sp_cld (N : Nat → Nat) (V : Nat → Nat → Int32) (a k l x : Nat) (p : Int32) : Int64 := lN (((if p = 0 then x else 10) / Nat.gcd x 10) ^ sp_hits N V a k (l + 1 - k))
theorem sp_gcd1 : ∀ x : Fin 11, (nI x.val / nI (Nat.gcd x.val 10)).toInt64 = lN (x.val / Nat.gcd x.val 10) ∧ ((10 : Int32) / nI (Nat.gcd x.val 10)).toInt64 = lN (10 / Nat.gcd x.val 10) ∧ 0 < Nat.gcd x.val 10 ∧ Nat.gcd x.val 10 ≤ 10 := by decide +kernel
theorem sp_gcd2 : ∀ x : Fin 11, ∀ c : Fin 14, x.val ^ c.val / Nat.gcd (x.val ^ c.val) (10 ^ c.val) = (x.val / Nat.gcd x.val 10) ^ c.val ∧ 10 ^ c.val / Nat.gcd (x.val ^ c.val) (10 ^ c.val) = (10 / Nat.gcd x.val 10) ^ c.val := by decide +kernel
section CC
variable {E : ax_E} {d : Nat} {tl : List (Nat × Nat)} {rtl : List (List (Option Nat))} {J : Nat → Nat → Int32} {N : Nat → Nat} {V : Nat → Nat → Int32}
theorem c_comDiv (h : ax_H) : ∀ x : Nat, x ≤ 10 → ax_cal E (d + 1) n_X11_commonDivisor [.int (nI x), .int 10] h = some (some (.int (nI (Nat.gcd x 10))), h)
  | 0, _ => by
    refine ax_of (t := t_X11_commonDivisor) (ls := [.int (nI 0), .int 10, .float 0]) rfl ⟨rfl, Nat.le_of_ble_eq_true rfl⟩ rfl ?_
    repeat refine bs rfl ?_
    exact br rfl ⟨rfl, rfl⟩
  | 1, _ => by
    refine ax_of (t := t_X11_commonDivisor) (ls := [.int (nI 1), .int 10, .float 0]) rfl ⟨rfl, Nat.le_of_ble_eq_true rfl⟩ rfl ?_
    repeat refine bs rfl ?_
    exact br rfl ⟨rfl, rfl⟩
  | 2, _ => by
    refine ax_of (t := t_X11_commonDivisor) (ls := [.int (nI 2), .int 10, .float 0]) rfl ⟨rfl, Nat.le_of_ble_eq_true rfl⟩ rfl ?_
    repeat refine bs rfl ?_
    exact br rfl ⟨rfl, rfl⟩
  | 3, _ => by
    refine ax_of (t := t_X11_commonDivisor) (ls := [.int (nI 3), .int 10, .float 0]) rfl ⟨rfl, Nat.le_of_ble_eq_true rfl⟩ rfl ?_
    repeat refine bs rfl ?_
    exact br rfl ⟨rfl, rfl⟩
  | 4, _ => by
    refine ax_of (t := t_X11_commonDivisor) (ls := [.int (nI 4), .int 10, .float 0]) rfl ⟨rfl, Nat.le_of_ble_eq_true rfl⟩ rfl ?_
    repeat refine bs rfl ?_
    exact br rfl ⟨rfl, rfl⟩
  | 5, _ => by
    refine ax_of (t := t_X11_commonDivisor) (ls := [.int (nI 5), .int 10, .float 0]) rfl ⟨rfl, Nat.le_of_ble_eq_true rfl⟩ rfl ?_
    repeat refine bs rfl ?_
    exact br rfl ⟨rfl, rfl⟩
  | 6, _ => by
    refine ax_of (t := t_X11_commonDivisor) (ls := [.int (nI 6), .int 10, .float 0]) rfl ⟨rfl, Nat.le_of_ble_eq_true rfl⟩ rfl ?_
    repeat refine bs rfl ?_
    exact br rfl ⟨rfl, rfl⟩
  | 7, _ => by
    refine ax_of (t := t_X11_commonDivisor) (ls := [.int (nI 7), .int 10, .float 0]) rfl ⟨rfl, Nat.le_of_ble_eq_true rfl⟩ rfl ?_
    repeat refine bs rfl ?_
    exact br rfl ⟨rfl, rfl⟩
  | 8, _ => by
    refine ax_of (t := t_X11_commonDivisor) (ls := [.int (nI 8), .int 10, .float 0]) rfl ⟨rfl, Nat.le_of_ble_eq_true rfl⟩ rfl ?_
    repeat refine bs rfl ?_
    exact br rfl ⟨rfl, rfl⟩
  | 9, _ => by
    refine ax_of (t := t_X11_commonDivisor) (ls := [.int (nI 9), .int 10, .float 0]) rfl ⟨rfl, Nat.le_of_ble_eq_true rfl⟩ rfl ?_
    repeat refine bs rfl ?_
    exact br rfl ⟨rfl, rfl⟩
  | 10, _ => by
    refine ax_of (t := t_X11_commonDivisor) (ls := [.int (nI 10), .int 10, .float 0]) rfl ⟨rfl, Nat.le_of_ble_eq_true rfl⟩ rfl ?_
    repeat refine bs rfl ?_
    exact br rfl ⟨rfl, rfl⟩
  | n + 11, h => absurd h (by omega)
theorem c_cloudsB (hok : sp_Ok N V) (hr : RC 30 J N V) (i a b x q : Int32) (hb : ¬ sp_cldOk N i a b x q) : ax_cal E (d + 5) n_X11_clouds [.ref 0, .int i, .int a, .int b, .int x, .int q] (ax_hC tl rtl J) = some (some (.long (-1)), ax_hC tl rtl J) := by
  refine ax_of (t := t_X11_clouds) (ls := [.ref 0, .int i, .int a, .int b, .int x, .int q, .float 0, .float 0, .float 0, .float 0, .float 0, .float 0]) rfl ⟨rfl, Nat.le_of_ble_eq_true rfl⟩ rfl ?_
  repeat refine bs rfl ?_
  refine bc rfl (c_isPerson hok hr i) ?_
  repeat refine bs rfl ?_
  refine bz rfl (fun p => ?_) (fun p => ?_)
  · repeat refine bs rfl ?_
    exact br rfl ⟨rfl, rfl⟩
  · repeat refine bs rfl ?_
    refine bc rfl (c_areHours _ a b) ?_
    repeat refine bs rfl ?_
    refine bz rfl (fun p2 => ?_) (fun p2 => ?_)
    · repeat refine bs rfl ?_
      exact br rfl ⟨rfl, rfl⟩
    · repeat refine bs rfl ?_
      refine bb rfl (fun c1 => ?_) (fun c1 => ?_)
      · repeat refine bs rfl ?_
        exact br rfl ⟨rfl, rfl⟩
      · repeat refine bs rfl ?_
        refine bb rfl (fun c2 => ?_) (fun c2 => ?_)
        · repeat refine bs rfl ?_
          exact br rfl ⟨rfl, rfl⟩
        · repeat refine bs rfl ?_
          refine bb rfl (fun c3 => ?_) (fun c3 => ?_)
          · repeat refine bs rfl ?_
            exact br rfl ⟨rfl, rfl⟩
          · repeat refine bs rfl ?_
            refine bf rfl (fun c4 => hb ⟨p, p2, ⟨Int32.not_lt.mp c1, Int32.not_lt.mp c2⟩, Int32.not_lt.mp c3, c4⟩) ?_
            repeat refine bs rfl ?_
            exact br rfl ⟨rfl, rfl⟩
theorem c_clouds (hok : sp_Ok N V) (hr : RC 30 J N V) {a k l x : Nat} (q : Int32) (hb : sp_cldOk N (nI a) (nI k) (nI l) (nI x) q) (ha : a < N 0) (hk : 6 ≤ k) (hkl : k ≤ l) (hl : l ≤ 18) (hx : x ≤ 10) (hq : q = 0 ∨ q = 1) : ∃ f, ax_cal E (d + 5) n_X11_clouds [.ref 0, .int (nI a), .int (nI k), .int (nI l), .int (nI x), .int q] (ax_hC tl rtl J) = some (some (.long (sp_cld N V a k l x q)), ax_hC tl rtl (va_up J 43 f)) := by
  suffices H : ∃ r g, ax_cal E (d + 5) n_X11_clouds [.ref 0, .int (nI a), .int (nI k), .int (nI l), .int (nI x), .int q] (ax_hC tl rtl J) = some (r, g) ∧ (r = some (.long (sp_cld N V a k l x q)) ∧ ∃ f, g = ax_hC tl rtl (va_up J 43 f)) by
    obtain ⟨r, g, e, rfl, f, rfl⟩ := H
    exact ⟨f, e⟩
  have h6 := hok.1
  obtain ⟨g1, g2, g3, g4⟩ := sp_gcd1 ⟨x, by omega⟩
  dsimp only at g1 g2 g3 g4
  have loop : ∀ (B j n : Nat), k + n + j = l + 1 → ∀ f, AW E (ax_cal E (d + 4)) t_X11_clouds (79, [.ref 0, .int (nI a), .int (nI k), .int (nI l), .int (nI x), .int q, .int (nI (Nat.gcd x 10)), .long (lN B), .float 0, .long (lN (B ^ sp_hits N V a k n)), .float 0, .int (nI (k + n))], [.int (nI l), .int (nI (k + n))], ax_hC tl rtl (va_up J 43 f)) (fun r g => r = some (.long (lN (B ^ sp_hits N V a k (l + 1 - k)))) ∧ ∃ f, g = ax_hC tl rtl (va_up J 43 f)) := by
    intro B j
    induction j with
    | zero =>
      intro n hn f
      refine bt rfl (nI_lt (by omega) (by omega)) ?_
      repeat refine bs rfl ?_
      exact br rfl ⟨by rw [show n = l + 1 - k by omega], f, rfl⟩
    | succ j ih =>
      intro n hn f
      have ih := ih (n + 1) (by omega)
      rw [show k + (n + 1) = k + n + 1 by omega, nI_succ (k + n), sp_hits] at ih
      obtain ⟨f2, hf2⟩ := c_standersAt (E := E) (d := d) (tl := tl) (rtl := rtl) hok (rc43 (f := f) hr) ha (show 6 ≤ k + n by omega) (show k + n ≤ 18 by omega)
      rw [bx_uu] at hf2
      refine bf rfl (nI_nlt (by omega) (by omega)) ?_
      repeat refine bs rfl ?_
      refine bc rfl hf2 ?_
      repeat refine bs rfl ?_
      refine bb rfl (fun c1 => ?_) (fun c1 => ?_)
      · rw [if_pos c1] at ih
        repeat refine bs rfl ?_
        exact ih f2
      · rw [if_neg c1, Nat.pow_succ, ← lN_mul] at ih
        repeat refine bs rfl ?_
        exact ih f2
  refine ax_ofQ (t := t_X11_clouds) (ls := [.ref 0, .int (nI a), .int (nI k), .int (nI l), .int (nI x), .int q, .float 0, .float 0, .float 0, .float 0, .float 0, .float 0]) rfl ⟨rfl, Nat.le_of_ble_eq_true rfl⟩ rfl ?_
  repeat refine bs rfl ?_
  refine bc rfl (c_isPerson hok hr (nI a)) ?_
  repeat refine bs rfl ?_
  refine bz rfl (fun p => absurd hb.1 p) (fun p => ?_)
  repeat refine bs rfl ?_
  refine bc rfl (c_areHours _ (nI k) (nI l)) ?_
  repeat refine bs rfl ?_
  refine bz rfl (fun p => absurd hb.2.1 p) (fun p => ?_)
  repeat refine bs rfl ?_
  refine bf rfl (Int32.not_lt.mpr hb.2.2.1.1) ?_
  repeat refine bs rfl ?_
  refine bf rfl (Int32.not_lt.mpr hb.2.2.1.2) ?_
  rcases hq with rfl | rfl
  · repeat refine bs rfl ?_
    refine bc rfl (c_comDiv _ x hx) ?_
    repeat refine bs rfl ?_
    refine bf rfl (nI_ne0 g3 (by omega)) ?_
    have l0 := loop (x / Nat.gcd x 10) (l + 1 - k) 0 (by omega) (J 43)
    rw [ax_up_id, ← g1] at l0
    repeat refine bs rfl ?_
    exact l0
  · repeat refine bs rfl ?_
    refine bc rfl (c_comDiv _ x hx) ?_
    repeat refine bs rfl ?_
    refine bf rfl (nI_ne0 g3 (by omega)) ?_
    have l0 := loop (10 / Nat.gcd x 10) (l + 1 - k) 0 (by omega) (J 43)
    rw [ax_up_id, ← g2] at l0
    repeat refine bs rfl ?_
    exact l0
end CC
