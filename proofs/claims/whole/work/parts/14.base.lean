/-! the library's two methods on the text constant; the calls -/
def ax_ext : ax_XT := fun y as h => if y = n_J0_length_8abf5 then (match as with
    | [.retAddr 1] => some (some (.int 97), h)
    | _ => none)
  else if y = n_J0_charAt_5068e then (match as with
    | [.retAddr 1, .int i] => if i < 0 ∨ 97 ≤ i.toNatClampNeg then none else some (some (.int (ax_tb.getD i.toNatClampNeg 0)), h)
    | _ => none)
  else none
theorem ax_extMono : ax_XtMono ax_ext := by
  intro y as h r h' e
  have hh : h' = h := by
    unfold ax_ext at e
    split at e
    · split at e
      · exact (Prod.mk.inj (Option.some.inj e)).2.symm
      · cases e
    · split at e
      · split at e
        · split at e
          · cases e
          · exact (Prod.mk.inj (Option.some.inj e)).2.symm
        · cases e
      · cases e
  rw [hh]
  exact ⟨Nat.le_refl _, Nat.le_refl _⟩
noncomputable def ax_cal (E : ax_E) (d : Nat) : ax_Cal := ax_calG ax_PRf ax_ext E d
section OF
variable {E : ax_E} {d y nL : Nat} {t : ax_T} {as ls : List Value} {h : ax_H}
theorem ax_ofQ {Q : Option Value → ax_H → Prop} (hp : ax_PRf y = some (t, nL)) (hc : ax_cats as = as.length ∧ as.length ≤ nL) (hl : ax_ent as nL = ls) (k : AW E (ax_cal E d) t (0, ls, [], h) Q) : ∃ r h', ax_cal E (d + 1) y as h = some (r, h') ∧ Q r h' := by
  subst hl
  obtain ⟨n, r, g, a, b⟩ := k
  refine ⟨r, g, ?_, b⟩
  show (match ax_PRf y with
    | some q => if ax_cats as = as.length ∧ as.length ≤ q.2 then ax_res E (ax_calG ax_PRf ax_ext E d) q.1 (0, ax_ent as q.2, [], h) else none
    | none => ax_ext y as h) = _
  rw [hp]
  show (if ax_cats as = as.length ∧ as.length ≤ nL then ax_res E (ax_calG ax_PRf ax_ext E d) t (0, ax_ent as nL, [], h) else none) = _
  rw [if_pos hc]
  exact ax_res_to a
theorem ax_of {r : Option Value} {h' : ax_H} (hp : ax_PRf y = some (t, nL)) (hc : ax_cats as = as.length ∧ as.length ≤ nL) (hl : ax_ent as nL = ls) (k : AW E (ax_cal E d) t (0, ls, [], h) (fun r' g => r' = r ∧ g = h')) : ax_cal E (d + 1) y as h = some (r, h') := by
  obtain ⟨r', g, a, rfl, rfl⟩ := ax_ofQ hp hc hl k
  exact a
end OF
/-! the cells: 0 to 67 the class's, 68 to 87 the reference's (printed by wip/whole/gen_heap.py) -/
def ax_shC : List (Nat × Nat) := [(11, 9), (8, 2), (101, 200), (9, 1), (100, 4), (0, 3), (100, 8), (100, 8), (2, 2), (102, 2), (5, 5), (100, 6), (100, 9), (100, 9), (100, 9), (5, 5), (100, 6), (100, 9), (100, 9), (100, 9), (4, 3), (100, 6), (100, 6), (1, 7), (100, 3), (100, 7), (100, 7), (10, 6), (100, 6), (100, 6), (3, 2), (7, 10), (100, 6), (100, 6), (100, 6), (5, 5), (100, 6), (100, 9), (100, 9), (100, 9), (100, 6), (100, 6), (100, 6), (100, 6), (6, 7), (100, 7), (100, 3), (100, 6), (100, 6), (3, 2), (7, 10), (100, 6), (100, 6), (100, 6), (5, 5), (100, 6), (100, 9), (100, 9), (100, 9), (100, 6), (100, 6), (100, 6), (100, 6), (6, 7), (100, 7), (100, 3), (100, 6), (100, 6)]
def ax_shM : List (Nat × Nat) := [(12, 38), (100, 18), (100, 18), (100, 7), (100, 3), (100, 12), (100, 34), (100, 272), (100, 68), (100, 12), (100, 200), (100, 4), (100, 18), (100, 18), (100, 7), (100, 3), (100, 12), (100, 34), (100, 7), (100, 6)]
def ax_rC : List (List (Option Nat)) := [[some 1, some 3, some 5, some 8, some 20, some 23, some 27, some 30, some 49], [some 2], [], [some 4], [], [some 6, some 7], [], [], [some 9], [some 10, some 15], [some 11, some 12, some 13, some 14], [], [], [], [], [some 16, some 17, some 18, some 19], [], [], [], [], [some 21, some 22], [], [], [some 24, some 25, some 26], [], [], [], [some 28, some 29], [], [], [some 31, some 44], [some 32, some 33, some 34, some 35, some 40, some 41, some 42, some 43], [], [], [], [some 36, some 37, some 38, some 39], [], [], [], [], [], [], [], [], [some 45, some 46, some 47, some 48], [], [], [], [], [some 50, some 63], [some 51, some 52, some 53, some 54, some 59, some 60, some 61, some 62], [], [], [], [some 55, some 56, some 57, some 58], [], [], [], [], [], [], [], [], [some 64, some 65, some 66, some 67], [], [], [], []]
def ax_rM : List (List (Option Nat)) := [[none, some 69, none, some 70, none, some 71, none, some 72, none, some 73, some 74, none, some 75, none, some 76, none, some 77, some 78, none, none, some 79, none, some 80, none, some 81, none, some 82, none, some 83, none, some 84, some 85, some 86, none, none, some 87], [], [], [], [], [], [], [], [], [], [], [], [], [], [], [], [], [], [], []]
def ax_Rt (t : List (List (Option Nat))) (q k : Nat) : Option Nat := match ax_nth t q with
  | some r => match ax_nth r k with
    | some v => v
    | none => none
  | none => none
/-- the heap behind the class's constructor (and more) -/
abbrev ax_hC (tl : List (Nat × Nat)) (rtl : List (List (Option Nat))) (I : Nat → Nat → Int32) : ax_H := (ax_shC ++ tl, I, ax_Rt (ax_rC ++ rtl))
/-- the heap behind both constructors -/
abbrev ax_h (I : Nat → Nat → Int32) : ax_H := (ax_shC ++ ax_shM, I, ax_Rt (ax_rC ++ ax_rM))
/-! the rules of a run, at a place that is written out -/
def ax_stp (E : ax_E) (cal : ax_Cal) (t : ax_T) (pc : Nat) (S : ax_S) : Option (ax_S ⊕ ax_R) := match ax_row t pc with
  | some a => a E cal S
  | none => none
section RUL
variable {E : ax_E} {cal : ax_Cal} {t : ax_T} {pc : Nat} {l0 s0 : List Value} {g0 : ax_H} {S' S1 S2 : ax_S} {Q : Option Value → ax_H → Prop}
theorem bs (h : ax_stp E cal t pc (pc, l0, s0, g0) = some (.inl S')) (k : AW E cal t S' Q) : AW E cal t (pc, l0, s0, g0) Q := ax_s h k
theorem bb {c : Prop} [Decidable c] (h : ax_stp E cal t pc (pc, l0, s0, g0) = if c then some (.inl S1) else some (.inl S2)) (k1 : c → AW E cal t S1 Q) (k2 : ¬ c → AW E cal t S2 Q) : AW E cal t (pc, l0, s0, g0) Q := ax_b h k1 k2
theorem bt {c : Prop} [Decidable c] {o : Option (ax_S ⊕ ax_R)} (h : ax_stp E cal t pc (pc, l0, s0, g0) = if c then some (.inl S1) else o) (hc : c) (k1 : AW E cal t S1 Q) : AW E cal t (pc, l0, s0, g0) Q := ax_bt h hc k1
theorem bf {c : Prop} [Decidable c] {o : Option (ax_S ⊕ ax_R)} (h : ax_stp E cal t pc (pc, l0, s0, g0) = if c then o else some (.inl S2)) (hc : ¬ c) (k2 : AW E cal t S2 Q) : AW E cal t (pc, l0, s0, g0) Q := ax_bf h hc k2
theorem bc {y n : Nat} {as ls rest : List Value} {h0 : ax_H} {r : Option Value} {h' : ax_H} (h : ax_stp E cal t pc (pc, l0, s0, g0) = ax_back (cal y as h0) n ls rest) (hc : cal y as h0 = some (r, h')) (k : AW E cal t (n, ls, r.toList ++ rest, h') Q) : AW E cal t (pc, l0, s0, g0) Q := ax_c (q := (r, h')) h hc k
theorem br {r : Option Value} {g : ax_H} (h : ax_stp E cal t pc (pc, l0, s0, g0) = some (.inr (r, g))) (k : Q r g) : AW E cal t (pc, l0, s0, g0) Q := ax_r h k
theorem brt {c : Prop} [Decidable c] {o : Option (ax_S ⊕ ax_R)} {r : Option Value} {g : ax_H} (h : ax_stp E cal t pc (pc, l0, s0, g0) = if c then some (.inr (r, g)) else o) (hc : c) (k : Q r g) : AW E cal t (pc, l0, s0, g0) Q := ax_rt h hc k
/-- a test of a boolean -/
theorem bz {P : Prop} [Decidable P] (h : ax_stp E cal t pc (pc, l0, s0, g0) = if (if P then (1 : Int32) else 0) = 0 then some (.inl S1) else some (.inl S2)) (k1 : ¬ P → AW E cal t S1 Q) (k2 : P → AW E cal t S2 Q) : AW E cal t (pc, l0, s0, g0) Q := by
  by_cases p : P
  · exact bs (by rw [h, if_pos p]; rfl) (k2 p)
  · exact bs (by rw [h, if_neg p]; rfl) (k1 p)
/-- a boolean is returned -/
theorem brz {P : Prop} [Decidable P] {g : ax_H} (h : ax_stp E cal t pc (pc, l0, s0, g0) = if (if P then (1 : Int32) else 0) = 0 ∨ (if P then (1 : Int32) else 0) = 1 then some (.inr (some (.int (if P then (1 : Int32) else 0)), g)) else none) (k : Q (some (.int (if P then (1 : Int32) else 0))) g) : AW E cal t (pc, l0, s0, g0) Q := by
  refine brt h ?_ k
  by_cases p : P
  · exact Or.inr (if_pos p)
  · exact Or.inl (if_neg p)
/-- an array is read at a place that is known -/
theorem bld {i : Int32} {N n : Nat} {f : Nat → Int32} {ls st : List Value} {g : ax_H} (h : ax_stp E cal t pc (pc, l0, s0, g0) = if i < 0 ∨ N ≤ i.toNatClampNeg then none else some (.inl (n, ls, .int (f i.toNatClampNeg) :: st, g))) (j : Nat) (hi : i = nI j) (hj : j < N) (hN : N < 2 ^ 31) (k : AW E cal t (n, ls, .int (f j) :: st, g) Q) : AW E cal t (pc, l0, s0, g0) Q := by
  subst hi
  have e := nI_clamp (n := j) (by omega)
  refine bf h (vp_in_nI hj hN) ?_
  rw [e]
  exact k
/-- an array is written at a place that is known -/
theorem bsto {i x : Int32} {N n q : Nat} {ls st : List Value} {sh : List (Nat × Nat)} {I : Nat → Nat → Int32} {R : Nat → Nat → Option Nat} (h : ax_stp E cal t pc (pc, l0, s0, g0) = if i < 0 ∨ N ≤ i.toNatClampNeg then none else some (.inl (n, ls, st, sh, va_up I q (upd (I q) i.toNatClampNeg x), R))) (j : Nat) (hi : i = nI j) (hj : j < N) (hN : N < 2 ^ 31) (k : AW E cal t (n, ls, st, sh, va_up I q (upd (I q) j x), R) Q) : AW E cal t (pc, l0, s0, g0) Q := by
  subst hi
  have e := nI_clamp (n := j) (by omega)
  refine bf h (vp_in_nI hj hN) ?_
  rw [e]
  exact k
end RUL
