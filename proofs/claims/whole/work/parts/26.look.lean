/-! contracts: look, seen, forget; the reference's whose, look, seen, forget -/
theorem bit2 : ∀ s, s < 64 → ∀ i, i < 6 → ∀ k, k < 6 → ((((nI s >>> (nI i &&& 31)) &&& (nI s >>> (nI k &&& 31))) &&& 1 = 1) ↔ (s.testBit i = true ∧ s.testBit k = true)) := by decide +kernel
theorem nI_mx {a b : Nat} (ha : a < 2 ^ 31) (hb : b < 2 ^ 31) : (if nI a < nI b then nI b else nI a) = nI (if a < b then b else a) := by
  by_cases h : a < b
  · rw [if_pos h, if_pos (nI_lt h hb)]
  · rw [if_neg h, if_neg (nI_nlt (by omega) ha)]
def sp_mo (N : Nat → Nat) (V : Nat → Nat → Int32) (s k : Nat) : Nat := sp_most N V s (nI k) (N 0)
/-- the best hour of 6 to 6 + n -/
def sp_best (N : Nat → Nat) (V : Nat → Nat → Int32) (s : Nat) : Nat → Nat
  | 0 => 6
  | n + 1 => if sp_mo N V s (7 + n) < sp_mo N V s (sp_best N V s n) then 7 + n else sp_best N V s n
theorem sp_best_le (N : Nat → Nat) (V : Nat → Nat → Int32) (s : Nat) : ∀ n, 6 ≤ sp_best N V s n ∧ sp_best N V s n ≤ 6 + n
  | 0 => ⟨Nat.le_refl _, Nat.le_refl _⟩
  | n + 1 => by
    have := sp_best_le N V s n
    rw [sp_best]
    split <;> omega
def sp_look (N : Nat → Nat) (V : Nat → Nat → Int32) (ns : Nat) (sT sX : Nat → Int32) (what : Int32) : Int32 := if 0 ≤ what ∧ what ≤ 1 then (if sp_who N V ns sT sX = 0 then -4 else if what = 0 then nI (sp_best N V (sp_orN (fun a => sp_fits N V sT sX a ns) (N 0)) 12) else nI (sp_mo N V (sp_orN (fun a => sp_fits N V sT sX a ns) (N 0)) (sp_best N V (sp_orN (fun a => sp_fits N V sT sX a ns) (N 0)) 12))) else -1
section LC
variable {E : ax_E} {d : Nat} {tl : List (Nat × Nat)} {rtl : List (List (Option Nat))} {J : Nat → Nat → Int32} {N : Nat → Nat} {V : Nat → Nat → Int32} {ns : Nat} {sT sX : Nat → Int32}
theorem c_mostAlike (hok : sp_Ok N V) (hr : RC 30 J N V) {s k : Nat} (hs : s < 64) (h1 : 6 ≤ k) (h2 : k ≤ 18) : ax_cal E (d + 4) n_X4_mostAlike [.ref 31, .int (nI s), .int (nI k)] (ax_hC tl rtl J) = some (some (.int (nI (sp_mo N V s k))), ax_hC tl rtl J) := by
  have h6 := hok.1
  have hn : J 31 8 = nI (N 0) := hr.1
  unfold sp_mo
  refine ax_of (t := t_X4_mostAlike) (ls := [.ref 31, .int (nI s), .int (nI k), .float 0, .float 0, .float 0, .float 0, .float 0]) rfl ⟨rfl, Nat.le_of_ble_eq_true rfl⟩ rfl ?_
  have outer : ∀ (m i : Nat), i + m = N 0 → ∀ (l5 l6 l7 : Value) (g5 g6 : Int32), (l5 = .float 0 ∨ l5 = .int g5) → (l6 = .float 0 ∨ l6 = .int g6) → AW E (ax_cal E (d + 3)) t_X4_mostAlike (11, [.ref 31, .int (nI s), .int (nI k), .int (nI (sp_most N V s (nI k) i)), .int (nI i), l5, l6, l7], [.int (J 31 8), .int (nI i)], ax_hC tl rtl J) (fun r' g => r' = some (.int (nI (sp_most N V s (nI k) (N 0)))) ∧ g = ax_hC tl rtl J) := by
    intro m
    induction m with
    | zero =>
      intro i hi l5 l6 l7 g5 g6 hl5 hl6
      refine bt rfl (by rw [hn]; exact nI_le (by omega) (by omega)) ?_
      repeat refine bs rfl ?_
      exact br rfl ⟨by rw [show i = N 0 by omega], rfl⟩
    | succ m ihm =>
      intro i hi l5 l6 l7 g5 g6 hl5 hl6
      have hia : i < N 0 := by omega
      refine bf rfl (by rw [hn]; exact nI_ge (by omega) (by omega)) ?_
      have inner : ∀ (j q : Nat), q + j = N 0 → ∀ l7 : Value, AW E (ax_cal E (d + 3)) t_X4_mostAlike (26, [.ref 31, .int (nI s), .int (nI k), .int (nI (sp_most N V s (nI k) i)), .int (nI i), .int (nI (sp_ali N V s (nI k) i q)), .int (nI q), l7], [.int (J 31 8), .int (nI q)], ax_hC tl rtl J) (fun r' g => r' = some (.int (nI (sp_most N V s (nI k) (N 0)))) ∧ g = ax_hC tl rtl J) := by
        intro j
        induction j with
        | zero =>
          intro q hq l7
          have eq : q = N 0 := by omega
          subst eq
          refine bt rfl (by rw [hn]; exact nI_le (by omega) (by omega)) ?_
          have l0 := ihm (i + 1) (by omega) (.int (nI (sp_ali N V s (nI k) i (N 0)))) (.int (nI (N 0))) l7 _ _ (Or.inr rfl) (Or.inr rfl)
          have b1 := sp_most_le N V s (nI k) i
          have b2 := sp_ali_le N V s (nI k) i (N 0)
          rw [nI_succ, sp_most, ← nI_mx (by omega) (by omega)] at l0
          repeat refine bs rfl ?_
          exact l0
        | succ j ih =>
          intro q hq l7
          have ih := ih (q + 1) (by omega)
          have hqa : q < N 0 := by omega
          rw [nI_succ, sp_ali] at ih
          refine bf rfl (by rw [hn]; exact nI_ge (by omega) (by omega)) ?_
          repeat refine bs rfl ?_
          refine bb rfl (fun c1 => ?_) (fun c1 => ?_)
          · have c1' := (bit2 s hs i (by omega) q (by omega)).mp c1
            repeat refine bs rfl ?_
            refine bc rfl (c_endOf hok hr hia h1 h2) ?_
            repeat refine bs rfl ?_
            refine bc rfl (c_endOf hok hr hqa h1 h2) ?_
            repeat refine bs rfl ?_
            refine bb rfl (fun c2 => ?_) (fun c2 => ?_)
            · rw [if_pos ⟨c1'.1, c1'.2, c2⟩, nI_succ] at ih
              repeat refine bs rfl ?_
              exact ih _
            · rw [if_neg (fun w => c2 w.2.2)] at ih
              repeat refine bs rfl ?_
              exact ih _
          · rw [if_neg (fun w => c1 ((bit2 s hs i (by omega) q (by omega)).mpr ⟨w.1, w.2.1⟩))] at ih
            repeat refine bs rfl ?_
            exact ih _
      have l0 := inner (N 0) 0 (Nat.zero_add _) l7
      rcases hl5 with rfl | rfl
      · rcases hl6 with rfl | rfl
        · repeat refine bs rfl ?_
          exact l0
        · repeat refine bs rfl ?_
          exact l0
      · rcases hl6 with rfl | rfl
        · repeat refine bs rfl ?_
          exact l0
        · repeat refine bs rfl ?_
          exact l0
  repeat refine bs rfl ?_
  exact outer (N 0) 0 (Nat.zero_add _) _ _ _ 0 0 (Or.inl rfl) (Or.inl rfl)
theorem c_look (hok : sp_Ok N V) (hr : RC 30 J N V) (hs : RSc J ns sT sX) (what : Int32) : ax_cal E (d + 6) n_X11_look [.ref 0, .int what] (ax_hC tl rtl J) = some (some (.int (sp_look N V ns sT sX what)), ax_hC tl rtl J) := by
  have h6 := hok.1
  unfold sp_look
  have hw := sp_or_lt (fun a => sp_fits N V sT sX a ns) h6
  have hsus := c_suspects (E := E) (d := d) (tl := tl) (rtl := rtl) hok hr hs
  have ew : sp_who N V ns sT sX = nI (sp_orN (fun a => sp_fits N V sT sX a ns) (N 0)) := hw.1
  generalize hS : sp_orN (fun a => sp_fits N V sT sX a ns) (N 0) = S at *
  rw [ew] at hsus ⊢
  refine ax_of (t := t_X11_look) (ls := [.ref 0, .int what, .float 0, .float 0, .float 0, .float 0, .float 0]) rfl ⟨rfl, Nat.le_of_ble_eq_true rfl⟩ rfl ?_
  repeat refine bs rfl ?_
  refine bb rfl (fun c1 => ?_) (fun c1 => ?_)
  · repeat refine bs rfl ?_
    exact br rfl ⟨by rw [if_neg (fun q => Int32.not_lt.mpr q.1 c1)], rfl⟩
  · repeat refine bs rfl ?_
    refine bb rfl (fun c2 => ?_) (fun c2 => ?_)
    · rw [if_pos ⟨Int32.not_lt.mp c1, c2⟩]
      repeat refine bs rfl ?_
      refine bc rfl hsus ?_
      repeat refine bs rfl ?_
      refine bb rfl (fun c3 => ?_) (fun c3 => ?_)
      · repeat refine bs rfl ?_
        exact br rfl ⟨by rw [if_pos c3], rfl⟩
      · rw [if_neg c3]
        have loop : ∀ (j n : Nat), n + j = 12 → ∀ l6 : Value, AW E (ax_cal E (d + 5)) t_X11_look (48, [.ref 0, .int what, .int (nI S), .int (nI (sp_best N V S n)), .int (nI (sp_mo N V S (sp_best N V S n))), .int (nI (7 + n)), l6], [.int 18, .int (nI (7 + n))], ax_hC tl rtl J) (fun r' g => r' = some (.int (if what = 0 then nI (sp_best N V S 12) else nI (sp_mo N V S (sp_best N V S 12)))) ∧ g = ax_hC tl rtl J) := by
          intro j
          induction j with
          | zero =>
            intro n hn l6
            have en : n = 12 := by omega
            refine bt rfl (nI_lt (a := 18) (by omega) (by omega)) ?_
            repeat refine bs rfl ?_
            refine bb rfl (fun c4 => ?_) (fun c4 => ?_)
            · repeat refine bs rfl ?_
              exact br rfl ⟨by rw [if_pos c4, en], rfl⟩
            · repeat refine bs rfl ?_
              exact br rfl ⟨by rw [if_neg c4, en], rfl⟩
          | succ j ih =>
            intro n hn l6
            have ih := ih (n + 1) (by omega)
            rw [show 7 + (n + 1) = 7 + n + 1 by omega, nI_succ, sp_best] at ih
            have b0 := sp_best_le N V S n
            have b1 : sp_mo N V S (7 + n) ≤ N 0 := sp_most_le _ _ _ _ _
            have b2 : sp_mo N V S (sp_best N V S n) ≤ N 0 := sp_most_le _ _ _ _ _
            refine bf rfl (nI_nlt (a := 18) (by omega) (by omega)) ?_
            repeat refine bs rfl ?_
            refine bc rfl (c_mostAlike hok hr hw.2 (show 6 ≤ 7 + n by omega) (show 7 + n ≤ 18 by omega)) ?_
            repeat refine bs rfl ?_
            refine bb rfl (fun c4 => ?_) (fun c4 => ?_)
            · have c4' := (nI_leI (by omega) (by omega)).mp c4
              rw [if_neg (by omega)] at ih
              repeat refine bs rfl ?_
              exact ih _
            · have c4' : ¬ _ := fun q => c4 ((nI_leI (by omega) (by omega)).mpr q)
              rw [if_pos (by omega)] at ih
              repeat refine bs rfl ?_
              exact ih _
        have b1 : sp_mo N V S 6 ≤ N 0 := sp_most_le _ _ _ _ _
        have l0 := fun v => loop 12 0 (by omega) (.int v)
        repeat refine bs rfl ?_
        refine bc rfl (c_mostAlike hok hr hw.2 (k := 6) (by omega) (by omega)) ?_
        repeat refine bs rfl ?_
        refine bf rfl (nI_ge (b := 7) (by omega) (by omega)) ?_
        iterate 8 refine bs rfl ?_
        exact l0 _
    · repeat refine bs rfl ?_
      exact br rfl ⟨by rw [if_neg (fun q => c2 q.2)], rfl⟩
theorem c_forget (hs : RSc J ns sT sX) : ax_cal E (d + 1) n_X11_forget [.ref 0] (ax_hC tl rtl J) = some (some (.int (nI ns)), ax_hC tl rtl (va_up J 20 (upd (J 20) 2 0))) := by
  refine ax_of (t := t_X11_forget) (ls := [.ref 0, .float 0]) rfl ⟨rfl, Nat.le_of_ble_eq_true rfl⟩ rfl ?_
  repeat refine bs rfl ?_
  exact br rfl ⟨by rw [hs.2.1], rfl⟩
theorem c_sadd (hs : RSc J ns sT sX) (hn : ns < 6) (t x : Int32) : ax_cal E (d + 1) n_X4_add [.ref 20, .int t, .int x] (ax_hC tl rtl J) = some (some (.int 1), ax_hC tl rtl (va_up (va_up (va_up J 21 (upd (J 21) ns t)) 22 (upd (J 22) ns x)) 20 (upd (J 20) 2 (nI ns + 1)))) := by
  have h2 : J 20 2 = nI ns := hs.2.1
  refine ax_of (t := t_X4_add) (ls := [.ref 20, .int t, .int x]) rfl ⟨rfl, Nat.le_of_ble_eq_true rfl⟩ rfl ?_
  repeat refine bs rfl ?_
  refine bt rfl (by rw [h2]; exact nI_lt (b := 6) hn (by omega)) ?_
  repeat refine bs rfl ?_
  refine bsto rfl ns h2 (by omega) (by omega) ?_
  repeat refine bs rfl ?_
  refine bsto rfl ns h2 (by omega) (by omega) ?_
  repeat refine bs rfl ?_
  exact br rfl ⟨rfl, by rw [show (va_up (va_up J 21 (upd (J 21) ns t)) 22 (upd ((va_up J 21 (upd (J 21) ns t)) 22) ns x)) 20 2 = nI ns from h2]; rfl⟩
theorem c_saddF (hs : RSc J ns sT sX) (hn : ¬ ns < 6) (t x : Int32) : ax_cal E (d + 1) n_X4_add [.ref 20, .int t, .int x] (ax_hC tl rtl J) = some (some (.int 0), ax_hC tl rtl J) := by
  have h2 : J 20 2 = nI ns := hs.2.1
  have h6 := hs.1
  refine ax_of (t := t_X4_add) (ls := [.ref 20, .int t, .int x]) rfl ⟨rfl, Nat.le_of_ble_eq_true rfl⟩ rfl ?_
  repeat refine bs rfl ?_
  refine bf rfl (by rw [h2]; exact nI_nlt (b := 6) (by omega) (by omega)) ?_
  repeat refine bs rfl ?_
  exact br rfl ⟨rfl, rfl⟩
def sp_seenOk (t x : Int32) : Prop := (6 ≤ t ∧ t ≤ 18) ∧ (0 ≤ x ∧ x ≤ 140)
theorem c_seenB (t x : Int32) (h : ¬ sp_seenOk t x) : ax_cal E (d + 2) n_X11_seen [.ref 0, .int t, .int x] (ax_hC tl rtl J) = some (some (.int (-1)), ax_hC tl rtl J) := by
  refine ax_of (t := t_X11_seen) (ls := [.ref 0, .int t, .int x]) rfl ⟨rfl, Nat.le_of_ble_eq_true rfl⟩ rfl ?_
  repeat refine bs rfl ?_
  refine bc rfl (c_isHour _ t) ?_
  repeat refine bs rfl ?_
  refine bz rfl (fun p => ?_) (fun p => ?_)
  · repeat refine bs rfl ?_
    exact br rfl ⟨rfl, rfl⟩
  · repeat refine bs rfl ?_
    refine bb rfl (fun c1 => ?_) (fun c1 => ?_)
    · repeat refine bs rfl ?_
      exact br rfl ⟨rfl, rfl⟩
    · repeat refine bs rfl ?_
      refine bb rfl (fun c2 => absurd ⟨p, Int32.not_lt.mp c1, c2⟩ h) (fun c2 => ?_)
      repeat refine bs rfl ?_
      exact br rfl ⟨rfl, rfl⟩
theorem c_seenF (hs : RSc J ns sT sX) (hn : ¬ ns < 6) (t x : Int32) (h : sp_seenOk t x) : ax_cal E (d + 2) n_X11_seen [.ref 0, .int t, .int x] (ax_hC tl rtl J) = some (some (.int (-3)), ax_hC tl rtl J) := by
  refine ax_of (t := t_X11_seen) (ls := [.ref 0, .int t, .int x]) rfl ⟨rfl, Nat.le_of_ble_eq_true rfl⟩ rfl ?_
  repeat refine bs rfl ?_
  refine bc rfl (c_isHour _ t) ?_
  repeat refine bs rfl ?_
  refine bz rfl (fun p => absurd h.1 p) (fun p => ?_)
  repeat refine bs rfl ?_
  refine bf rfl (Int32.not_lt.mpr h.2.1) ?_
  repeat refine bs rfl ?_
  refine bt rfl h.2.2 ?_
  repeat refine bs rfl ?_
  refine bc rfl (c_saddF hs hn t (x - 40)) ?_
  repeat refine bs rfl ?_
  exact br rfl ⟨rfl, rfl⟩
theorem c_seen (hs : RSc J ns sT sX) (hn : ns < 6) (t x : Int32) (h : sp_seenOk t x) : ax_cal E (d + 2) n_X11_seen [.ref 0, .int t, .int x] (ax_hC tl rtl J) = some (some (.int (nI ns + 1)), ax_hC tl rtl (va_up (va_up (va_up J 21 (upd (J 21) ns t)) 22 (upd (J 22) ns (x - 40))) 20 (upd (J 20) 2 (nI ns + 1)))) := by
  refine ax_of (t := t_X11_seen) (ls := [.ref 0, .int t, .int x]) rfl ⟨rfl, Nat.le_of_ble_eq_true rfl⟩ rfl ?_
  repeat refine bs rfl ?_
  refine bc rfl (c_isHour _ t) ?_
  repeat refine bs rfl ?_
  refine bz rfl (fun p => absurd h.1 p) (fun p => ?_)
  repeat refine bs rfl ?_
  refine bf rfl (Int32.not_lt.mpr h.2.1) ?_
  repeat refine bs rfl ?_
  refine bt rfl h.2.2 ?_
  repeat refine bs rfl ?_
  refine bc rfl (c_sadd hs hn t (x - 40)) ?_
  repeat refine bs rfl ?_
  exact br rfl ⟨rfl, rfl⟩
end LC
section LM
variable {E : ax_E} {d : Nat} {J : Nat → Nat → Int32} {N : Nat → Nat} {V : Nat → Nat → Int32} {ns : Nat} {sT sX : Nat → Int32}
theorem ix_d (a : Nat) : (2 : Int32) * nI a = nI (2 * a) := pk_mul 2 a
theorem ix_d1 (a : Nat) : (2 : Int32) * nI a + 1 = nI (2 * a + 1) := by rw [ix_d, nI_1]
theorem m_forget (hs : RSm J ns sT sX) : ax_cal E (d + 1) n_X12_forget [.ref 68] (ax_h J) = some (some (.int (nI ns)), ax_h (va_up J 68 (upd (J 68) 15 0))) := by
  refine ax_of (t := t_X12_forget) (ls := [.ref 68, .float 0]) rfl ⟨rfl, Nat.le_of_ble_eq_true rfl⟩ rfl ?_
  repeat refine bs rfl ?_
  exact br rfl ⟨by rw [hs.2.1], rfl⟩
theorem m_seenB (t x : Int32) (h : ¬ sp_seenOk t x) : ax_cal E (d + 3) n_X12_seen [.ref 68, .int t, .int x] (ax_h J) = some (some (.int (-1)), ax_h J) := by
  refine ax_of (t := t_X12_seen) (ls := [.ref 68, .int t, .int x]) rfl ⟨rfl, Nat.le_of_ble_eq_true rfl⟩ rfl ?_
  repeat refine bs rfl ?_
  refine bc rfl (c_mIsHour _ t) ?_
  repeat refine bs rfl ?_
  refine bz rfl (fun p => ?_) (fun p => ?_)
  · repeat refine bs rfl ?_
    exact br rfl ⟨rfl, rfl⟩
  · repeat refine bs rfl ?_
    refine bc rfl (c_in _ x 0 140) ?_
    repeat refine bs rfl ?_
    refine bz rfl (fun p2 => ?_) (fun p2 => absurd ⟨p, p2⟩ h)
    repeat refine bs rfl ?_
    exact br rfl ⟨rfl, rfl⟩
theorem m_seenF (hs : RSm J ns sT sX) (hn : ¬ ns < 6) (t x : Int32) (h : sp_seenOk t x) : ax_cal E (d + 3) n_X12_seen [.ref 68, .int t, .int x] (ax_h J) = some (some (.int (-3)), ax_h J) := by
  have h2 : J 68 15 = nI ns := hs.2.1
  have h6 := hs.1
  refine ax_of (t := t_X12_seen) (ls := [.ref 68, .int t, .int x]) rfl ⟨rfl, Nat.le_of_ble_eq_true rfl⟩ rfl ?_
  repeat refine bs rfl ?_
  refine bc rfl (c_mIsHour _ t) ?_
  repeat refine bs rfl ?_
  refine bz rfl (fun p => absurd h.1 p) (fun p => ?_)
  repeat refine bs rfl ?_
  refine bc rfl (c_in _ x 0 140) ?_
  repeat refine bs rfl ?_
  refine bz rfl (fun p => absurd h.2 p) (fun p => ?_)
  repeat refine bs rfl ?_
  refine bt rfl (by rw [h2, show ns = 6 by omega]; rfl) ?_
  repeat refine bs rfl ?_
  exact br rfl ⟨rfl, rfl⟩
theorem m_seen (hs : RSm J ns sT sX) (hn : ns < 6) (t x : Int32) (h : sp_seenOk t x) : ax_cal E (d + 3) n_X12_seen [.ref 68, .int t, .int x] (ax_h J) = some (some (.int (nI ns + 1)), ax_h (va_up (va_up J 77 (upd (upd (J 77) (2 * ns) t) (2 * ns + 1) (x - 40))) 68 (upd (J 68) 15 (nI ns + 1)))) := by
  have h2 : J 68 15 = nI ns := hs.2.1
  refine ax_of (t := t_X12_seen) (ls := [.ref 68, .int t, .int x]) rfl ⟨rfl, Nat.le_of_ble_eq_true rfl⟩ rfl ?_
  repeat refine bs rfl ?_
  refine bc rfl (c_mIsHour _ t) ?_
  repeat refine bs rfl ?_
  refine bz rfl (fun p => absurd h.1 p) (fun p => ?_)
  repeat refine bs rfl ?_
  refine bc rfl (c_in _ x 0 140) ?_
  repeat refine bs rfl ?_
  refine bz rfl (fun p => absurd h.2 p) (fun p => ?_)
  repeat refine bs rfl ?_
  refine bf rfl (by rw [h2]; exact fun q => absurd ((nI_eq (b := 6) (by omega) (by omega)).mp q) (by omega)) ?_
  repeat refine bs rfl ?_
  refine bsto rfl (2 * ns) (by rw [h2]; exact ix_d ns) (by omega) (by omega) ?_
  repeat refine bs rfl ?_
  refine bsto rfl (2 * ns + 1) (by show (2 : Int32) * J 68 15 + 1 = _; rw [h2]; exact ix_d1 ns) (by omega) (by omega) ?_
  repeat refine bs rfl ?_
  refine br rfl ⟨?_, ?_⟩
  · show some (Value.int (J 68 15 + 1)) = _
    rw [h2]
  · rw [bx_uu, va_up_self, ← h2]
    rfl
theorem m_whose (hok : sp_Ok N V) (hr : RM J N V) (hs : RSm J ns sT sX) : ax_cal E (d + 5) n_X12_whose [.ref 68] (ax_h J) = some (some (.int (sp_who N V ns sT sX)), ax_h J) := by
  have h6 := hok.1
  have hn : J 68 0 = nI (N 0) := hr.1
  obtain ⟨h6s, hns, hv, hT⟩ := hs
  unfold sp_who
  refine ax_of (t := t_X12_whose) (ls := [.ref 68, .float 0, .float 0, .float 0, .float 0]) rfl ⟨rfl, Nat.le_of_ble_eq_true rfl⟩ rfl ?_
  have outer : ∀ (m i : Nat), i + m = N 0 → ∀ (l3 l4 : Value) (g3 : Int32), (l3 = .float 0 ∨ l3 = .int g3) → AW E (ax_cal E (d + 4)) t_X12_whose (9, [.ref 68, .int (sp_or (fun a => sp_fits N V sT sX a ns) i), .int (nI i), l3, l4], [.int (J 68 0), .int (nI i)], ax_h J) (fun r' g => r' = some (.int (sp_or (fun a => sp_fits N V sT sX a ns) (N 0))) ∧ g = ax_h J) := by
    intro m
    induction m with
    | zero =>
      intro i hi l3 l4 g3 hl
      refine bt rfl (by rw [hn]; exact nI_le (by omega) (by omega)) ?_
      repeat refine bs rfl ?_
      exact br rfl ⟨by rw [show i = N 0 by omega], rfl⟩
    | succ m ihm =>
      intro i hi l3 l4 g3 hl
      have hia : i < N 0 := by omega
      refine bf rfl (by rw [hn]; exact nI_ge (by omega) (by omega)) ?_
      have inner : ∀ (j k : Nat), k + j = ns → AW E (ax_cal E (d + 4)) t_X12_whose (23, [.ref 68, .int (sp_or (fun a => sp_fits N V sT sX a ns) i), .int (nI i), .int (if sp_fits N V sT sX i k = true then 1 else 0), .int (nI k)], [.int (J 68 15), .int (nI k)], ax_h J) (fun r' g => r' = some (.int (sp_or (fun a => sp_fits N V sT sX a ns) (N 0))) ∧ g = ax_h J) := by
        intro j
        induction j with
        | zero =>
          intro k hk
          have ek : k = ns := by omega
          refine bt rfl (by rw [hns]; exact nI_le (by omega) (by omega)) ?_
          repeat refine bs rfl ?_
          have l0 := ihm (i + 1) (by omega) (.int (if sp_fits N V sT sX i k = true then 1 else 0)) (.int (nI k)) _ (Or.inr rfl)
          rw [sp_or, nI_succ] at l0
          refine bz rfl (fun p => ?_) (fun p => ?_)
          · rw [if_neg (by rw [← ek]; exact p), ← i_or0 (sp_or _ i)] at l0
            repeat refine bs rfl ?_
            exact l0
          · rw [if_pos (by rw [← ek]; exact p)] at l0
            repeat refine bs rfl ?_
            exact l0
        | succ j ih =>
          intro k hk
          have ih := ih (k + 1) (by omega)
          rw [nI_succ, sp_fits] at ih
          obtain ⟨v1, v2⟩ := hv k (by omega)
          refine bf rfl (by rw [hns]; exact nI_ge (by omega) (by omega)) ?_
          repeat refine bs rfl ?_
          refine bz rfl (fun p => ?_) (fun p => ?_)
          · rw [show sp_fits N V sT sX i k = false from by simpa using p] at ih
            repeat refine bs rfl ?_
            exact ih
          · rw [p] at ih
            repeat refine bs rfl ?_
            refine bld rfl (2 * k) (ix_d k) (by omega) (by omega) ?_
            rw [v1]
            repeat refine bs rfl ?_
            refine bc rfl (m_endAt hok hr hia (sT k)) ?_
            repeat refine bs rfl ?_
            refine bld rfl (2 * k + 1) (ix_d1 k) (by omega) (by omega) ?_
            rw [v2]
            repeat refine bs rfl ?_
            refine bb rfl (fun c => ?_) (fun c => ?_)
            · rw [decide_eq_true c] at ih
              repeat refine bs rfl ?_
              exact ih
            · rw [decide_eq_false c] at ih
              repeat refine bs rfl ?_
              exact ih
      have l0 := inner ns 0 (Nat.zero_add _)
      rcases hl with rfl | rfl
      · repeat refine bs rfl ?_
        exact l0
      · repeat refine bs rfl ?_
        exact l0
  repeat refine bs rfl ?_
  exact outer (N 0) 0 (Nat.zero_add _) _ _ 0 (Or.inl rfl)
theorem m_alike (hok : sp_Ok N V) (hr : RM J N V) {s : Nat} (hs : s < 64) (k : Nat) : ax_cal E (d + 5) n_X12_alike [.ref 68, .int (nI s), .int (nI k)] (ax_h J) = some (some (.int (nI (sp_mo N V s k))), ax_h J) := by
  have h6 := hok.1
  have hn : J 68 0 = nI (N 0) := hr.1
  unfold sp_mo
  refine ax_of (t := t_X12_alike) (ls := [.ref 68, .int (nI s), .int (nI k), .float 0, .float 0, .float 0, .float 0]) rfl ⟨rfl, Nat.le_of_ble_eq_true rfl⟩ rfl ?_
  have outer : ∀ (m i : Nat), i + m = N 0 → ∀ (l5 l6 : Value) (g5 : Int32), (l5 = .float 0 ∨ l5 = .int g5) → AW E (ax_cal E (d + 4)) t_X12_alike (11, [.ref 68, .int (nI s), .int (nI k), .int (nI (sp_most N V s (nI k) i)), .int (nI i), l5, l6], [.int (J 68 0), .int (nI i)], ax_h J) (fun r' g => r' = some (.int (nI (sp_most N V s (nI k) (N 0)))) ∧ g = ax_h J) := by
    intro m
    induction m with
    | zero =>
      intro i hi l5 l6 g5 hl5
      refine bt rfl (by rw [hn]; exact nI_le (by omega) (by omega)) ?_
      repeat refine bs rfl ?_
      exact br rfl ⟨by rw [show i = N 0 by omega], rfl⟩
    | succ m ihm =>
      intro i hi l5 l6 g5 hl5
      have hia : i < N 0 := by omega
      refine bf rfl (by rw [hn]; exact nI_ge (by omega) (by omega)) ?_
      have inner : ∀ (j q : Nat), q + j = N 0 → AW E (ax_cal E (d + 4)) t_X12_alike (26, [.ref 68, .int (nI s), .int (nI k), .int (nI (sp_most N V s (nI k) i)), .int (nI i), .int (nI (sp_ali N V s (nI k) i q)), .int (nI q)], [.int (J 68 0), .int (nI q)], ax_h J) (fun r' g => r' = some (.int (nI (sp_most N V s (nI k) (N 0)))) ∧ g = ax_h J) := by
        intro j
        induction j with
        | zero =>
          intro q hq
          have eq : q = N 0 := by omega
          subst eq
          refine bt rfl (by rw [hn]; exact nI_le (by omega) (by omega)) ?_
          have l0 := ihm (i + 1) (by omega) (.int (nI (sp_ali N V s (nI k) i (N 0)))) (.int (nI (N 0))) _ (Or.inr rfl)
          have b1 := sp_most_le N V s (nI k) i
          have b2 := sp_ali_le N V s (nI k) i (N 0)
          rw [nI_succ, sp_most] at l0
          repeat refine bs rfl ?_
          refine bb rfl (fun c => ?_) (fun c => ?_)
          · have c' := (nI_leI (by omega) (by omega)).mp c
            rw [if_neg (by omega)] at l0
            repeat refine bs rfl ?_
            exact l0
          · have c' : ¬ _ := fun q => c ((nI_leI (by omega) (by omega)).mpr q)
            rw [if_pos (by omega)] at l0
            repeat refine bs rfl ?_
            exact l0
        | succ j ih =>
          intro q hq
          have ih := ih (q + 1) (by omega)
          have hqa : q < N 0 := by omega
          rw [nI_succ, sp_ali] at ih
          refine bf rfl (by rw [hn]; exact nI_ge (by omega) (by omega)) ?_
          have no : ¬ (s.testBit i = true ∧ s.testBit q = true ∧ sp_end N V i (nI k) = sp_end N V q (nI k)) → AW E (ax_cal E (d + 4)) t_X12_alike (26, [.ref 68, .int (nI s), .int (nI k), .int (nI (sp_most N V s (nI k) i)), .int (nI i), .int (nI (sp_ali N V s (nI k) i q) + 0), .int (nI q + 1)], [.int (J 68 0), .int (nI q + 1)], ax_h J) (fun r' g => r' = some (.int (nI (sp_most N V s (nI k) (N 0)))) ∧ g = ax_h J) := by
            intro hno
            rw [if_neg hno] at ih
            rw [Int32.add_zero]
            exact ih
          repeat refine bs rfl ?_
          refine bc rfl (c_has _ _ _) ?_
          repeat refine bs rfl ?_
          refine bz rfl (fun p => ?_) (fun p => ?_)
          · have no := no (fun w => p ((sp_hasN s hs i (by omega)).mpr w.1))
            repeat refine bs rfl ?_
            exact no
          · repeat refine bs rfl ?_
            refine bc rfl (c_has _ _ _) ?_
            repeat refine bs rfl ?_
            refine bz rfl (fun p2 => ?_) (fun p2 => ?_)
            · have no := no (fun w => p2 ((sp_hasN s hs q (by omega)).mpr w.2.1))
              repeat refine bs rfl ?_
              exact no
            · repeat refine bs rfl ?_
              refine bc rfl (m_endAt hok hr hia (nI k)) ?_
              repeat refine bs rfl ?_
              refine bc rfl (m_endAt hok hr hqa (nI k)) ?_
              repeat refine bs rfl ?_
              refine bb rfl (fun c => ?_) (fun c => ?_)
              · rw [if_pos ⟨(sp_hasN s hs i (by omega)).mp p, (sp_hasN s hs q (by omega)).mp p2, c⟩, nI_succ] at ih
                repeat refine bs rfl ?_
                exact ih
              · have no := no (fun w => c w.2.2)
                repeat refine bs rfl ?_
                exact no
      have l0 := inner (N 0) 0 (Nat.zero_add _)
      rcases hl5 with rfl | rfl
      · repeat refine bs rfl ?_
        exact l0
      · repeat refine bs rfl ?_
        exact l0
  repeat refine bs rfl ?_
  exact outer (N 0) 0 (Nat.zero_add _) _ _ 0 (Or.inl rfl)
theorem m_look (hok : sp_Ok N V) (hr : RM J N V) (hs : RSm J ns sT sX) (what : Int32) : ax_cal E (d + 6) n_X12_look [.ref 68, .int what] (ax_h J) = some (some (.int (sp_look N V ns sT sX what)), ax_h J) := by
  have h6 := hok.1
  unfold sp_look
  have hw := sp_or_lt (fun a => sp_fits N V sT sX a ns) h6
  have hsus := m_whose (E := E) (d := d) hok hr hs
  have ew : sp_who N V ns sT sX = nI (sp_orN (fun a => sp_fits N V sT sX a ns) (N 0)) := hw.1
  generalize hS : sp_orN (fun a => sp_fits N V sT sX a ns) (N 0) = S at *
  rw [ew] at hsus ⊢
  refine ax_of (t := t_X12_look) (ls := [.ref 68, .int what, .float 0, .float 0, .float 0]) rfl ⟨rfl, Nat.le_of_ble_eq_true rfl⟩ rfl ?_
  repeat refine bs rfl ?_
  refine bc rfl (c_in _ what 0 1) ?_
  repeat refine bs rfl ?_
  refine bz rfl (fun p => ?_) (fun p => ?_)
  · repeat refine bs rfl ?_
    exact br rfl ⟨by rw [if_neg p], rfl⟩
  · rw [if_pos p]
    repeat refine bs rfl ?_
    refine bc rfl hsus ?_
    repeat refine bs rfl ?_
    refine bb rfl (fun c3 => ?_) (fun c3 => ?_)
    · repeat refine bs rfl ?_
      exact br rfl ⟨by rw [if_pos c3], rfl⟩
    · rw [if_neg c3]
      have loop : ∀ (j n : Nat), n + j = 12 → AW E (ax_cal E (d + 5)) t_X12_look (34, [.ref 68, .int what, .int (nI S), .int (nI (sp_best N V S n)), .int (nI (7 + n))], [.int 18, .int (nI (7 + n))], ax_h J) (fun r' g => r' = some (.int (if what = 0 then nI (sp_best N V S 12) else nI (sp_mo N V S (sp_best N V S 12)))) ∧ g = ax_h J) := by
        intro j
        induction j with
        | zero =>
          intro n hn
          have en : n = 12 := by omega
          refine bt rfl (nI_lt (a := 18) (by omega) (by omega)) ?_
          repeat refine bs rfl ?_
          refine bb rfl (fun c4 => ?_) (fun c4 => ?_)
          · repeat refine bs rfl ?_
            exact br rfl ⟨by rw [if_pos c4, en], rfl⟩
          · repeat refine bs rfl ?_
            refine bc rfl (m_alike hok hr hw.2 _) ?_
            repeat refine bs rfl ?_
            exact br rfl ⟨by rw [if_neg c4, en], rfl⟩
        | succ j ih =>
          intro n hn
          have ih := ih (n + 1) (by omega)
          rw [show 7 + (n + 1) = 7 + n + 1 by omega, nI_succ, sp_best] at ih
          have b1 : sp_mo N V S (7 + n) ≤ N 0 := sp_most_le _ _ _ _ _
          have b2 : sp_mo N V S (sp_best N V S n) ≤ N 0 := sp_most_le _ _ _ _ _
          refine bf rfl (nI_nlt (a := 18) (by omega) (by omega)) ?_
          repeat refine bs rfl ?_
          refine bc rfl (m_alike hok hr hw.2 (7 + n)) ?_
          repeat refine bs rfl ?_
          refine bc rfl (m_alike hok hr hw.2 (sp_best N V S n)) ?_
          repeat refine bs rfl ?_
          refine bb rfl (fun c4 => ?_) (fun c4 => ?_)
          · have c4' := (nI_leI (by omega) (by omega)).mp c4
            rw [if_neg (by omega)] at ih
            repeat refine bs rfl ?_
            exact ih
          · have c4' : ¬ _ := fun q => c4 ((nI_leI (by omega) (by omega)).mpr q)
            rw [if_pos (by omega)] at ih
            repeat refine bs rfl ?_
            exact ih
      iterate 6 refine bs rfl ?_
      exact loop 12 0 (by omega)
end LM
