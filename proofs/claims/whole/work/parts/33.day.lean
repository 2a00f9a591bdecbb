/-! contracts: day -/
def sp_q (z t i : Int32) : Int64 := 7919 * z.toInt64 + 6151 * t.toInt64 + 3571 * i.toInt64 + 1
def sp_lr (x y : Int64) : Int64 := x - x / y * y
def sp_drw (z t i : Int32) : Int32 := (sp_lr (sp_lr (sp_q z t i * sp_q z t i) 65521) 61).toInt32
/-- at drawn cells j stands on i's shadow -/
def sp_dp (V : Nat → Nat → Int32) (z t : Int32) (i j : Nat) : Bool := sp_rch (sp_drw z t (nI i)) (sp_way V i t) (sp_len V i t) (sp_drw z t (nI j))
/-- how many stand on the shadows of the first i -/
def sp_dr (N : Nat → Nat) (V : Nat → Nat → Int32) (z t : Int32) : Nat → Nat
  | 0 => 0
  | i + 1 => sp_dr N V z t i + sp_ct (sp_dp V z t i) (N 0)
def sp_dt (N : Nat → Nat) (V : Nat → Nat → Int32) (z : Int32) : Nat → Nat
  | 0 => 0
  | n + 1 => sp_dt N V z n + sp_dr N V z (nI (6 + n)) (N 0)
def sp_df (N : Nat → Nat) (V : Nat → Nat → Int32) (z : Int32) : Nat → Int32
  | 0 => -4
  | n + 1 => if sp_df N V z n = -4 ∧ 0 < sp_dr N V z (nI (6 + n)) (N 0) then nI (6 + n) else sp_df N V z n
theorem sp_ct_le (p : Nat → Bool) : ∀ n, sp_ct p n ≤ n
  | 0 => Nat.le_refl _
  | n + 1 => by
    have := sp_ct_le p n
    rw [sp_ct]
    split <;> omega
theorem sp_dr_le (N : Nat → Nat) (V : Nat → Nat → Int32) (z t : Int32) (h6 : N 0 ≤ 6) : ∀ i, sp_dr N V z t i ≤ 6 * i
  | 0 => Nat.le_refl _
  | i + 1 => by
    have h1 := sp_dr_le N V z t h6 i
    have h2 := sp_ct_le (sp_dp V z t i) (N 0)
    rw [sp_dr]
    omega
theorem sp_dt_le (N : Nat → Nat) (V : Nat → Nat → Int32) (z : Int32) (h6 : N 0 ≤ 6) : ∀ n, sp_dt N V z n ≤ 36 * n
  | 0 => Nat.le_refl _
  | n + 1 => by
    have h1 := sp_dt_le N V z h6 n
    have h2 := sp_dr_le N V z (nI (6 + n)) h6 (N 0)
    rw [sp_dt]
    omega
theorem nI_m4 {n : Nat} (h : n < 2 ^ 31) : ¬ nI n = -4 := fun q => by
  have q := i_eq.mp q
  rw [nI_toInt h, show (-4 : Int32).toInt = -4 from by decide] at q
  omega
theorem sp_df_dt (N : Nat → Nat) (V : Nat → Nat → Int32) (z : Int32) : ∀ n, n ≤ 13 → sp_df N V z n = -4 → sp_dt N V z n = 0
  | 0, _, _ => rfl
  | n + 1, h13, h => by
    rw [sp_df] at h
    by_cases c : sp_df N V z n = -4 ∧ 0 < sp_dr N V z (nI (6 + n)) (N 0)
    · rw [if_pos c] at h
      exact absurd h (nI_m4 (by omega))
    · rw [if_neg c] at h
      have e := sp_df_dt N V z n (by omega) h
      rw [sp_dt, e]
      have : ¬ 0 < sp_dr N V z (nI (6 + n)) (N 0) := fun q => c ⟨h, q⟩
      omega
def sp_dayOk (z w : Int32) : Prop := (0 ≤ z ∧ z ≤ 9999) ∧ 0 ≤ w ∧ w ≤ 1
def sp_dayV (N : Nat → Nat) (V : Nat → Nat → Int32) (z w : Int32) : Int32 := if w = 0 then nI (sp_dt N V z 13) else sp_df N V z 13
section DC
variable {E : ax_E} {d : Nat} {tl : List (Nat × Nat)} {rtl : List (List (Option Nat))} {J : Nat → Nat → Int32} {N : Nat → Nat} {V : Nat → Nat → Int32}
theorem c_drawnCells (hok : sp_Ok N V) (hr : RC 30 J N V) (z t : Int32) : ∃ f : Nat → Int32, ax_cal E (d + 1) n_X7_drawnCells [.ref 31, .int z, .int t] (ax_hC tl rtl J) = some (some (.ref 43), ax_hC tl rtl (va_up J 43 f)) ∧ ∀ i, i < N 0 → f i = sp_drw z t (nI i) := by
  have h6 := hok.1
  have hn : J 31 8 = nI (N 0) := hr.1
  suffices H : ∃ r g, ax_cal E (d + 1) n_X7_drawnCells [.ref 31, .int z, .int t] (ax_hC tl rtl J) = some (r, g) ∧ (r = some (.ref 43) ∧ ∃ f, g = ax_hC tl rtl (va_up J 43 f) ∧ ∀ i, i < N 0 → f i = sp_drw z t (nI i)) by
    obtain ⟨r, g, e, rfl, f, rfl, h⟩ := H
    exact ⟨f, e, h⟩
  refine ax_ofQ (t := t_X7_drawnCells) (ls := [.ref 31, .int z, .int t, .float 0, .float 0, .float 0]) rfl ⟨rfl, Nat.le_of_ble_eq_true rfl⟩ rfl ?_
  have loop : ∀ (j i : Nat), i + j = N 0 → ∀ (f : Nat → Int32) (l4 : Value), (∀ k, k < i → f k = sp_drw z t (nI k)) → AW E (ax_cal E d) t_X7_drawnCells (7, [.ref 31, .int z, .int t, .int (nI i), l4, .float 0], [.int (J 31 8), .int (nI i)], ax_hC tl rtl (va_up J 43 f)) (fun r g => r = some (.ref 43) ∧ ∃ f, g = ax_hC tl rtl (va_up J 43 f) ∧ ∀ i, i < N 0 → f i = sp_drw z t (nI i)) := by
    intro j
    induction j with
    | zero =>
      intro i hi f l4 hf
      refine bt rfl (by rw [hn]; exact nI_le (by omega) (by omega)) ?_
      repeat refine bs rfl ?_
      exact br rfl ⟨rfl, f, rfl, fun k hk => hf k (by omega)⟩
    | succ j ih =>
      intro i hi f l4 hf
      have ih := ih (i + 1) (by omega)
      rw [nI_succ] at ih
      refine bf rfl (by rw [hn]; exact nI_ge (by omega) (by omega)) ?_
      repeat refine bs rfl ?_
      refine bsto rfl i rfl (by omega) (by omega) ?_
      rw [bx_uu, va_up_self]
      repeat refine bs rfl ?_
      refine ih _ _ ?_
      intro k hk
      by_cases e : k = i
      · subst e
        rw [pk_us]
        rfl
      · rw [pk_un e]
        exact hf k (by omega)
  have l0 := loop (N 0) 0 (Nat.zero_add _) (J 43) (.float 0) (fun k hk => absurd hk (by omega))
  rw [ax_up_id] at l0
  repeat refine bs rfl ?_
  exact l0
theorem c_dayB (z w : Int32) (hb : ¬ sp_dayOk z w) : ax_cal E (d + 4) n_X11_day [.ref 0, .int z, .int w] (ax_hC tl rtl J) = some (some (.int (-1)), ax_hC tl rtl J) := by
  refine ax_of (t := t_X11_day) (ls := [.ref 0, .int z, .int w, .float 0, .float 0, .float 0, .float 0, .float 0]) rfl ⟨rfl, Nat.le_of_ble_eq_true rfl⟩ rfl ?_
  repeat refine bs rfl ?_
  refine bb rfl (fun c1 => ?_) (fun c1 => ?_)
  · repeat refine bs rfl ?_
    exact br rfl ⟨rfl, rfl⟩
  · repeat refine bs rfl ?_
    refine bb rfl (fun c2 => ?_) (fun c2 => ?_)
    · repeat refine bs rfl ?_
      exact br rfl ⟨rfl, rfl⟩
    · repeat refine bs rfl ?_
      refine bb rfl (fun c3 => ?_) (fun c3 => ?_)
      · repeat refine bs rfl ?_
        exact br rfl ⟨rfl, rfl⟩
      · repeat refine bs rfl ?_
        refine bf rfl (fun c4 => hb ⟨⟨Int32.not_lt.mp c1, Int32.not_lt.mp c2⟩, Int32.not_lt.mp c3, c4⟩) ?_
        repeat refine bs rfl ?_
        exact br rfl ⟨rfl, rfl⟩
theorem c_day (hok : sp_Ok N V) (hr : RC 30 J N V) (z w : Int32) (hb : sp_dayOk z w) : ∃ f, ax_cal E (d + 4) n_X11_day [.ref 0, .int z, .int w] (ax_hC tl rtl J) = some (some (.int (sp_dayV N V z w)), ax_hC tl rtl (va_up J 43 f)) := by
  suffices H : ∃ r g, ax_cal E (d + 4) n_X11_day [.ref 0, .int z, .int w] (ax_hC tl rtl J) = some (r, g) ∧ (r = some (.int (sp_dayV N V z w)) ∧ ∃ f, g = ax_hC tl rtl (va_up J 43 f)) by
    obtain ⟨r, g, e, rfl, f, rfl⟩ := H
    exact ⟨f, e⟩
  have h6 := hok.1
  have hn : J 31 8 = nI (N 0) := hr.1
  refine ax_ofQ (t := t_X11_day) (ls := [.ref 0, .int z, .int w, .float 0, .float 0, .float 0, .float 0, .float 0]) rfl ⟨rfl, Nat.le_of_ble_eq_true rfl⟩ rfl ?_
  have outer : ∀ (m n : Nat), n + m = 13 → ∀ (l6 l7 : Value) (f : Nat → Int32), AW E (ax_cal E (d + 3)) t_X11_day (36, [.ref 0, .int z, .int w, .int (nI (sp_dt N V z n)), .int (sp_df N V z n), .int (nI (6 + n)), l6, l7], [.int 18, .int (nI (6 + n))], ax_hC tl rtl (va_up J 43 f)) (fun r g => r = some (.int (sp_dayV N V z w)) ∧ ∃ f, g = ax_hC tl rtl (va_up J 43 f)) := by
    intro m
    induction m with
    | zero =>
      intro n hn' l6 l7 f
      have e13 : n = 13 := by omega
      unfold sp_dayV
      rw [← e13]
      refine bt rfl (nI_lt (a := 18) (b := 6 + n) (by omega) (by omega)) ?_
      repeat refine bs rfl ?_
      refine bb rfl (fun c1 => ?_) (fun c1 => ?_)
      · repeat refine bs rfl ?_
        exact br rfl ⟨by rw [if_pos c1], f, rfl⟩
      · repeat refine bs rfl ?_
        exact br rfl ⟨by rw [if_neg c1], f, rfl⟩
    | succ m ihm =>
      intro n hn' l6 l7 f
      have ihm := ihm (n + 1) (by omega)
      rw [show 6 + (n + 1) = 6 + n + 1 by omega, nI_succ (6 + n), sp_dt, sp_df] at ihm
      have hle := sp_dr_le N V z (nI (6 + n)) h6 (N 0)
      have hlt := sp_dt_le N V z h6 n
      obtain ⟨f1, e1, hf1⟩ := c_drawnCells (E := E) (d := d + 2) (tl := tl) (rtl := rtl) hok (rc43 (f := f) hr) z (nI (6 + n))
      rw [bx_uu] at e1
      refine bf rfl (nI_nlt (b := 6 + n) (a := 18) (by omega) (by omega)) ?_
      repeat refine bs rfl ?_
      refine bc rfl e1 ?_
      have inner : ∀ (j i : Nat), i + j = N 0 → AW E (ax_cal E (d + 3)) t_X11_day (69, [.ref 0, .int z, .int w, .int (nI (sp_dt N V z n + sp_dr N V z (nI (6 + n)) i)), .int (sp_df N V z n), .int (nI (6 + n)), .ref 43, .int (nI i)], [.int (J 31 8), .int (nI i)], ax_hC tl rtl (va_up J 43 f1)) (fun r g => r = some (.int (sp_dayV N V z w)) ∧ ∃ f, g = ax_hC tl rtl (va_up J 43 f)) := by
        intro j
        induction j with
        | zero =>
          intro i hi
          have ei : i = N 0 := by omega
          refine bt rfl (by rw [hn]; exact nI_le (by omega) (by omega)) ?_
          rw [ei]
          repeat refine bs rfl ?_
          by_cases c1 : sp_df N V z n = -4
          · refine bt rfl c1 ?_
            have h0 := sp_df_dt N V z n (by omega) c1
            repeat refine bs rfl ?_
            by_cases c2 : 0 < sp_dr N V z (nI (6 + n)) (N 0)
            · rw [if_pos ⟨c1, c2⟩] at ihm
              refine bf rfl (nI_nle (by omega) (by omega)) ?_
              repeat refine bs rfl ?_
              exact ihm _ _ f1
            · rw [if_neg (fun q => c2 q.2)] at ihm
              refine bt rfl (by rw [show sp_dt N V z n + sp_dr N V z (nI (6 + n)) (N 0) = 0 by omega]; decide) ?_
              repeat refine bs rfl ?_
              exact ihm _ _ f1
          · rw [if_neg (fun q => c1 q.1)] at ihm
            refine bf rfl c1 ?_
            repeat refine bs rfl ?_
            exact ihm _ _ f1
        | succ j ih =>
          intro i hi
          have ih := ih (i + 1) (by omega)
          have hbc : sp_bc (sp_on (va_up J 43 f1 43) (sp_way V i (nI (6 + n))) (sp_len V i (nI (6 + n))) i (N 0)) = nI (sp_ct (sp_dp V z (nI (6 + n)) i) (N 0)) := by
            unfold sp_on
            rw [(sp_or_lt _ h6).1, sp_bc_pop _ (sp_or_lt _ h6).2, sp_pop_or _ h6]
            congr 1
            apply sp_ct_cong
            intro k hk
            show sp_rch (f1 i) _ _ (f1 k) = _
            rw [hf1 i (by omega), hf1 k hk]
            rfl
          rw [nI_succ, sp_dr, ← Nat.add_assoc, ← nI_add] at ih
          refine bf rfl (by rw [hn]; exact nI_ge (by omega) (by omega)) ?_
          repeat refine bs rfl ?_
          refine bc rfl (c_standersOn hok (rc43 hr) (show i < N 0 by omega) (show 6 ≤ 6 + n by omega) (show 6 + n ≤ 18 by omega)) ?_
          repeat refine bs rfl ?_
          refine bc rfl (c_bitCount _ _) ?_
          rw [hbc]
          repeat refine bs rfl ?_
          exact ih
      have l0 := inner (N 0) 0 (Nat.zero_add _)
      rw [show sp_dt N V z n + sp_dr N V z (nI (6 + n)) 0 = sp_dt N V z n from rfl] at l0
      repeat refine bs rfl ?_
      exact l0
  repeat refine bs rfl ?_
  refine bf rfl (Int32.not_lt.mpr hb.1.1) ?_
  repeat refine bs rfl ?_
  refine bf rfl (Int32.not_lt.mpr hb.1.2) ?_
  repeat refine bs rfl ?_
  refine bf rfl (Int32.not_lt.mpr hb.2.1) ?_
  repeat refine bs rfl ?_
  refine bt rfl hb.2.2 ?_
  have l0 := outer 13 0 (by omega) (.float 0) (.float 0) (J 43)
  rw [ax_up_id] at l0
  iterate 8 refine bs rfl ?_
  exact l0
end DC
