/-! contracts: first (class); seen, forget, whose, look -/
/-- what is seen: both sides hold it -/
def RS (J : Nat → Nat → Int32) (ns : Nat) (sT sX : Nat → Int32) : Prop := ns ≤ 6 ∧ J 20 2 = nI ns ∧ J 68 15 = nI ns ∧ (∀ k, k < ns → J 21 k = sT k ∧ J 22 k = sX k ∧ J 77 (2 * k) = sT k ∧ J 77 (2 * k + 1) = sX k) ∧ ∀ k, k < ns → 6 ≤ (sT k).toInt ∧ (sT k).toInt ≤ 18
/-- the class's half -/
def RSc (J : Nat → Nat → Int32) (ns : Nat) (sT sX : Nat → Int32) : Prop := ns ≤ 6 ∧ J 20 2 = nI ns ∧ (∀ k, k < ns → J 21 k = sT k ∧ J 22 k = sX k) ∧ ∀ k, k < ns → 6 ≤ (sT k).toInt ∧ (sT k).toInt ≤ 18
def RSm (J : Nat → Nat → Int32) (ns : Nat) (sT sX : Nat → Int32) : Prop := ns ≤ 6 ∧ J 68 15 = nI ns ∧ (∀ k, k < ns → J 77 (2 * k) = sT k ∧ J 77 (2 * k + 1) = sX k) ∧ ∀ k, k < ns → 6 ≤ (sT k).toInt ∧ (sT k).toInt ≤ 18
def sp_fits (N : Nat → Nat) (V : Nat → Nat → Int32) (sT sX : Nat → Int32) (a : Nat) : Nat → Bool
  | 0 => true
  | k + 1 => sp_fits N V sT sX a k && decide (sp_end N V a (sT k) = sX k)
def sp_who (N : Nat → Nat) (V : Nat → Nat → Int32) (ns : Nat) (sT sX : Nat → Int32) : Int32 := sp_or (fun a => sp_fits N V sT sX a ns) (N 0)
/-- how many of a set have their ends where person i has it, at an hour -/
def sp_ali (N : Nat → Nat) (V : Nat → Nat → Int32) (s : Nat) (t : Int32) (i : Nat) : Nat → Nat
  | 0 => 0
  | k + 1 => if s.testBit i = true ∧ s.testBit k = true ∧ sp_end N V i t = sp_end N V k t then sp_ali N V s t i k + 1 else sp_ali N V s t i k
def sp_most (N : Nat → Nat) (V : Nat → Nat → Int32) (s : Nat) (t : Int32) : Nat → Nat
  | 0 => 0
  | i + 1 => if sp_most N V s t i < sp_ali N V s t i (N 0) then sp_ali N V s t i (N 0) else sp_most N V s t i
theorem sp_ali_le (N : Nat → Nat) (V : Nat → Nat → Int32) (s : Nat) (t : Int32) (i : Nat) : ∀ k, sp_ali N V s t i k ≤ k
  | 0 => Nat.le_refl _
  | k + 1 => by
    have := sp_ali_le N V s t i k
    rw [sp_ali]
    split <;> omega
theorem sp_most_le (N : Nat → Nat) (V : Nat → Nat → Int32) (s : Nat) (t : Int32) : ∀ i, sp_most N V s t i ≤ N 0
  | 0 => Nat.zero_le _
  | i + 1 => by
    have := sp_most_le N V s t i
    have h2 := sp_ali_le N V s t i (N 0)
    rw [sp_most]
    split <;> omega
section SC1
variable {E : ax_E} {d : Nat} {tl : List (Nat × Nat)} {rtl : List (List (Option Nat))} {J : Nat → Nat → Int32} {N : Nat → Nat} {V : Nat → Nat → Int32} {ns : Nat} {sT sX : Nat → Int32}
theorem c_first (hok : sp_Ok N V) (hr : RC 30 J N V) (what : Int32) : ∃ f, ax_cal E (d + 5) n_X11_first [.ref 0, .int what] (ax_hC tl rtl J) = some (some (.int (sp_first N V what)), ax_hC tl rtl (va_up J 43 f)) := by
  have h6 := hok.1
  have hn : J 31 8 = nI (N 0) := hr.1
  unfold sp_first
  suffices H : ∃ r g, ax_cal E (d + 5) n_X11_first [.ref 0, .int what] (ax_hC tl rtl J) = some (r, g) ∧ (r = some (.int (if 0 ≤ what ∧ what ≤ 2 then sp_ff N V what 13 0 else -1)) ∧ ∃ f, g = ax_hC tl rtl (va_up J 43 f)) by
    obtain ⟨r, g, e, rfl, f, rfl⟩ := H
    exact ⟨f, e⟩
  refine ax_ofQ (t := t_X11_first) (ls := [.ref 0, .int what, .float 0, .float 0, .float 0]) rfl ⟨rfl, Nat.le_of_ble_eq_true rfl⟩ rfl ?_
  repeat refine bs rfl ?_
  refine bb rfl (fun c1 => ?_) (fun c1 => ?_)
  · repeat refine bs rfl ?_
    exact br rfl ⟨by rw [if_neg (fun q => Int32.not_lt.mpr q.1 c1)], J 43, by rw [ax_up_id]⟩
  · repeat refine bs rfl ?_
    refine bb rfl (fun c2 => ?_) (fun c2 => ?_)
    · rw [if_pos ⟨Int32.not_lt.mp c1, c2⟩]
      have outer : ∀ (m n : Nat), n + m = 13 → ∀ (g3 : Int32) (l3 l4 : Value) (f : Nat → Int32), (l3 = .float 0 ∨ l3 = .int g3) → AW E (ax_cal E (d + 4)) t_X11_first (17, [.ref 0, .int what, .int (nI (6 + n)), l3, l4], [.int 18, .int (nI (6 + n))], ax_hC tl rtl (va_up J 43 f)) (fun r' g => r' = some (.int (sp_ff N V what m n)) ∧ ∃ f, g = ax_hC tl rtl (va_up J 43 f)) := by
        intro m
        induction m with
        | zero =>
          intro n hn' g3 l3 l4 f hl
          refine bt rfl (nI_lt (a := 18) (b := 6 + n) (by omega) (by omega)) ?_
          repeat refine bs rfl ?_
          exact br rfl ⟨rfl, f, rfl⟩
        | succ m ihm =>
          intro n hn' g3 l3 l4 f hl
          refine bf rfl (nI_nlt (b := 6 + n) (a := 18) (by omega) (by omega)) ?_
          have inner : ∀ (j i : Nat), i + j = N 0 → ∀ (l4 : Value) (f : Nat → Int32), AW E (ax_cal E (d + 4)) t_X11_first (33, [.ref 0, .int what, .int (nI (6 + n)), .int (nI i), l4], [.int (J 31 8), .int (nI i)], ax_hC tl rtl (va_up J 43 f)) (fun r' g => r' = some (.int (match sp_fi N V what n j i with | some r => r | none => sp_ff N V what m (n + 1))) ∧ ∃ f, g = ax_hC tl rtl (va_up J 43 f)) := by
            intro j
            induction j with
            | zero =>
              intro i hi l4 f
              refine bt rfl (by rw [hn]; exact nI_le (by omega) (by omega)) ?_
              have l0 := ihm (n + 1) (by omega) (nI i) (.int (nI i)) l4 f (Or.inr rfl)
              rw [show 6 + (n + 1) = 6 + n + 1 by omega, nI_succ] at l0
              repeat refine bs rfl ?_
              exact l0
            | succ j ih =>
              intro i hi l4 f
              have ih := ih (i + 1) (by omega)
              rw [nI_succ] at ih
              obtain ⟨s, hs, es, es2⟩ := sp_stN N V h6 i (nI (6 + n))
              obtain ⟨f2, hst⟩ := c_standersAt (E := E) (d := d) (tl := tl) (rtl := rtl) hok (rc43 (f := f) hr) (show i < N 0 by omega) (show 6 ≤ 6 + n by omega) (show 6 + n ≤ 18 by omega)
              rw [es, bx_uu] at hst
              refine bf rfl (by rw [hn]; exact nI_ge (by omega) (by omega)) ?_
              repeat refine bs rfl ?_
              refine bc rfl hst ?_
              repeat refine bs rfl ?_
              rw [sp_fi]
              by_cases hz : s = 0
              · subst hz
                rw [if_pos (by rw [es]; rfl)]
                repeat refine bs rfl ?_
                exact ih _ f2
              · rw [if_neg (by rw [es]; exact nI_ne0 (by omega) (by omega))]
                refine bf rfl (nI_ne0 (by omega) (by omega)) ?_
                repeat refine bs rfl ?_
                refine bb rfl (fun c1 => ?_) (fun c1 => ?_)
                · repeat refine bs rfl ?_
                  exact br rfl ⟨by rw [if_pos c1], f2, rfl⟩
                · repeat refine bs rfl ?_
                  refine bb rfl (fun c2 => ?_) (fun c2 => ?_)
                  · repeat refine bs rfl ?_
                    exact br rfl ⟨by rw [if_neg c1, if_pos c2], f2, rfl⟩
                  · repeat refine bs rfl ?_
                    refine bc rfl (c_ntz _ hs hz) ?_
                    repeat refine bs rfl ?_
                    exact br rfl ⟨by rw [if_neg c1, if_neg c2, ← es2], f2, rfl⟩
          rw [sp_ff]
          have l0 := inner (N 0) 0 (Nat.zero_add _) l4 f
          rcases hl with rfl | rfl
          · repeat refine bs rfl ?_
            exact l0
          · repeat refine bs rfl ?_
            exact l0
      have l0 := outer 13 0 (by omega) 0 (.float 0) (.float 0) (J 43) (Or.inl rfl)
      rw [ax_up_id] at l0
      iterate 4 refine bs rfl ?_
      exact l0
    · repeat refine bs rfl ?_
      exact br rfl ⟨by rw [if_neg (fun q => c2 q.2)], J 43, by rw [ax_up_id]⟩
theorem c_fits (hok : sp_Ok N V) (hr : RC 30 J N V) (hs : RSc J ns sT sX) {a : Nat} (ha : a < N 0) : ax_cal E (d + 4) n_X4_fits [.ref 20, .ref 31, .int (nI a)] (ax_hC tl rtl J) = some (some (.int (if sp_fits N V sT sX a ns = true then 1 else 0)), ax_hC tl rtl J) := by
  obtain ⟨h6, hn, hv, hT⟩ := hs
  refine ax_of (t := t_X4_fits) (ls := [.ref 20, .ref 31, .int (nI a), .float 0]) rfl ⟨rfl, Nat.le_of_ble_eq_true rfl⟩ rfl ?_
  have loop : ∀ (j k : Nat), k + j = ns → sp_fits N V sT sX a k = true → AW E (ax_cal E (d + 3)) t_X4_fits (7, [.ref 20, .ref 31, .int (nI a), .int (nI k)], [.int (J 20 2), .int (nI k)], ax_hC tl rtl J) (fun r' g => r' = some (.int (if sp_fits N V sT sX a ns = true then 1 else 0)) ∧ g = ax_hC tl rtl J) := by
    intro j
    induction j with
    | zero =>
      intro k hk hf
      refine bt rfl (by rw [hn]; exact nI_le (by omega) (by omega)) ?_
      repeat refine bs rfl ?_
      exact br rfl ⟨by rw [← show k = ns by omega, if_pos hf], rfl⟩
    | succ j ih =>
      intro k hk hf
      have ih := ih (k + 1) (by omega)
      rw [nI_succ, sp_fits, hf] at ih
      obtain ⟨v1, v2⟩ := hv k (by omega)
      obtain ⟨q, e3, e4, -⟩ := i_nn (x := sT k) (by have := hT k (by omega); omega)
      have hT := hT k (by omega)
      refine bf rfl (by rw [hn]; exact nI_ge (by omega) (by omega)) ?_
      repeat (first | refine bs rfl ?_ | refine bld rfl _ rfl (by omega) (by omega) ?_)
      rw [v1, e3]
      refine bc rfl (c_endOf hok hr ha (by omega) (by omega)) ?_
      repeat (first | refine bs rfl ?_ | refine bld rfl _ rfl (by omega) (by omega) ?_)
      rw [v2, ← e3]
      refine bb rfl (fun c => ?_) (fun c => ?_)
      · repeat (first | refine bs rfl ?_ | refine bld rfl _ rfl (by omega) (by omega) ?_)
        exact ih (by simp [c])
      · repeat (first | refine bs rfl ?_ | refine bld rfl _ rfl (by omega) (by omega) ?_)
        refine br rfl ⟨?_, rfl⟩
        have hno : ∀ m, sp_fits N V sT sX a (k + 1 + m) = false := by
          intro m
          induction m with
          | zero => simp [sp_fits, c]
          | succ m im => rw [show k + 1 + (m + 1) = k + 1 + m + 1 by omega, sp_fits, im]; rfl
        rw [show ns = k + 1 + j by omega, hno j]
        rfl
  repeat refine bs rfl ?_
  exact loop ns 0 (Nat.zero_add _) rfl
theorem c_suspects (hok : sp_Ok N V) (hr : RC 30 J N V) (hs : RSc J ns sT sX) : ax_cal E (d + 5) n_X4_suspects [.ref 20, .ref 31] (ax_hC tl rtl J) = some (some (.int (sp_who N V ns sT sX)), ax_hC tl rtl J) := by
  have h6 := hok.1
  have hn : J 31 8 = nI (N 0) := hr.1
  unfold sp_who
  refine ax_of (t := t_X4_suspects) (ls := [.ref 20, .ref 31, .float 0, .float 0]) rfl ⟨rfl, Nat.le_of_ble_eq_true rfl⟩ rfl ?_
  have loop : ∀ (j i : Nat), i + j = N 0 → AW E (ax_cal E (d + 4)) t_X4_suspects (9, [.ref 20, .ref 31, .int (sp_or (fun a => sp_fits N V sT sX a ns) i), .int (nI i)], [.int (J 31 8), .int (nI i)], ax_hC tl rtl J) (fun r' g => r' = some (.int (sp_or (fun a => sp_fits N V sT sX a ns) (N 0))) ∧ g = ax_hC tl rtl J) := by
    intro j
    induction j with
    | zero =>
      intro i hi
      refine bt rfl (by rw [hn]; exact nI_le (by omega) (by omega)) ?_
      repeat refine bs rfl ?_
      exact br rfl ⟨by rw [show i = N 0 by omega], rfl⟩
    | succ j ih =>
      intro i hi
      have ih := ih (i + 1) (by omega)
      rw [sp_or, nI_succ] at ih
      refine bf rfl (by rw [hn]; exact nI_ge (by omega) (by omega)) ?_
      repeat refine bs rfl ?_
      refine bc rfl (c_fits hok hr hs (show i < N 0 by omega)) ?_
      repeat refine bs rfl ?_
      refine bz rfl (fun p => ?_) (fun p => ?_)
      · repeat refine bs rfl ?_
        rw [if_neg p] at ih
        exact ih
      · repeat refine bs rfl ?_
        rw [if_pos p] at ih
        exact ih
  repeat refine bs rfl ?_
  exact loop (N 0) 0 (Nat.zero_add _)
theorem c_whose (hok : sp_Ok N V) (hr : RC 30 J N V) (hs : RSc J ns sT sX) : ax_cal E (d + 6) n_X11_whose [.ref 0] (ax_hC tl rtl J) = some (some (.int (sp_who N V ns sT sX)), ax_hC tl rtl J) := by
  refine ax_of (t := t_X11_whose) (ls := [.ref 0]) rfl ⟨rfl, Nat.le_of_ble_eq_true rfl⟩ rfl ?_
  repeat refine bs rfl ?_
  refine bc rfl (c_suspects hok hr hs) ?_
  repeat refine bs rfl ?_
  exact br rfl ⟨rfl, rfl⟩
end SC1
