/-! constructors of the class -/
def zI : Nat → Nat → Int32 := fun _ _ => 0
def ax_set1 : List (Option Nat) → Nat → Nat → List (Option Nat)
  | [], 0, x => [some x]
  | [], k + 1, x => none :: ax_set1 [] k x
  | _ :: l, 0, x => some x :: l
  | a :: l, k + 1, x => a :: ax_set1 l k x
def ax_set2 : List (List (Option Nat)) → Nat → Nat → Nat → List (List (Option Nat))
  | [], 0, k, x => [ax_set1 [] k x]
  | [], q + 1, k, x => [] :: ax_set2 [] q k x
  | r :: l, 0, k, x => ax_set1 r k x :: l
  | r :: l, q + 1, k, x => r :: ax_set2 l q k x
def ax_g1 (l : List (Option Nat)) (k : Nat) : Option Nat := match ax_nth l k with
  | some v => v
  | none => none
theorem ax_g1_set : ∀ (l : List (Option Nat)) (k x j : Nat), ax_g1 (ax_set1 l k x) j = if j = k then some x else ax_g1 l j
  | [], 0, x, 0 => rfl
  | [], 0, x, j + 1 => by rw [if_neg (by omega)]; rfl
  | [], k + 1, x, 0 => by rw [if_neg (by omega)]; rfl
  | [], k + 1, x, j + 1 => by
    have := ax_g1_set [] k x j
    show ax_g1 (ax_set1 [] k x) j = _
    rw [this]
    by_cases e : j = k
    · rw [if_pos e, if_pos (by omega)]
    · rw [if_neg e, if_neg (by omega)]; rfl
  | a :: l, 0, x, 0 => rfl
  | a :: l, 0, x, j + 1 => by rw [if_neg (by omega)]; rfl
  | a :: l, k + 1, x, 0 => by rw [if_neg (by omega)]; rfl
  | a :: l, k + 1, x, j + 1 => by
    have := ax_g1_set l k x j
    show ax_g1 (ax_set1 l k x) j = _
    rw [this]
    by_cases e : j = k
    · rw [if_pos e, if_pos (by omega)]
    · rw [if_neg e, if_neg (by omega)]; rfl
theorem ax_Rt_g (t : List (List (Option Nat))) (q k : Nat) : ax_Rt t q k = match ax_nth t q with
    | some r => ax_g1 r k
    | none => none := rfl
theorem ax_Rt_cons (r : List (Option Nat)) (t : List (List (Option Nat))) (q k : Nat) : ax_Rt (r :: t) (q + 1) k = ax_Rt t q k := rfl
theorem ax_Rt_set2 : ∀ (t : List (List (Option Nat))) (q k x i j : Nat), ax_Rt (ax_set2 t q k x) i j = if i = q ∧ j = k then some x else ax_Rt t i j
  | [], 0, k, x, 0, j => by
    show ax_g1 (ax_set1 [] k x) j = _
    rw [ax_g1_set]
    by_cases e : j = k
    · rw [if_pos e, if_pos ⟨rfl, e⟩]
    · rw [if_neg e, if_neg (fun h => e h.2)]; rfl
  | [], 0, k, x, i + 1, j => by rw [if_neg (fun h => by omega)]; rfl
  | [], q + 1, k, x, 0, j => by rw [if_neg (fun h => by omega)]; rfl
  | [], q + 1, k, x, i + 1, j => by
    show ax_Rt (ax_set2 [] q k x) i j = _
    rw [ax_Rt_set2 [] q k x i j]
    by_cases e : i = q ∧ j = k
    · rw [if_pos e, if_pos ⟨by omega, e.2⟩]
    · rw [if_neg e, if_neg (fun h => e ⟨by omega, h.2⟩)]; rfl
  | r :: t, 0, k, x, 0, j => by
    show ax_g1 (ax_set1 r k x) j = _
    rw [ax_g1_set]
    by_cases e : j = k
    · rw [if_pos e, if_pos ⟨rfl, e⟩]
    · rw [if_neg e, if_neg (fun h => e h.2)]; rfl
  | r :: t, 0, k, x, i + 1, j => by rw [if_neg (fun h => by omega)]; rfl
  | r :: t, q + 1, k, x, 0, j => by rw [if_neg (fun h => by omega)]; rfl
  | r :: t, q + 1, k, x, i + 1, j => by
    show ax_Rt (ax_set2 t q k x) i j = _
    rw [ax_Rt_set2 t q k x i j]
    by_cases e : i = q ∧ j = k
    · rw [if_pos e, if_pos ⟨by omega, e.2⟩]; 
    · rw [if_neg e, if_neg (fun h => e ⟨by omega, h.2⟩)]; rfl
theorem ax_Rt_up (t : List (List (Option Nat))) (q k x : Nat) : va_up (ax_Rt t) q (va_up (ax_Rt t q) k (some x)) = ax_Rt (ax_set2 t q k x) := by
  funext i j
  rw [ax_Rt_set2]
  by_cases e : i = q
  · subst e
    rw [va_up_self]
    by_cases e2 : j = k
    · subst e2
      rw [va_up_self, if_pos ⟨rfl, rfl⟩]
    · rw [va_up_ne _ _ e2, if_neg (fun h => e2 h.2)]
  · rw [va_up_ne _ _ e, if_neg (fun h => e h.1)]
theorem ax_Rt_app : ∀ (t : List (List (Option Nat))) (q k : Nat), ax_Rt (t ++ [[]]) q k = ax_Rt t q k
  | [], 0, k => rfl
  | [], q + 1, k => rfl
  | r :: t, 0, k => rfl
  | r :: t, q + 1, k => ax_Rt_app t q k
theorem ax_Rt_out : ∀ (t : List (List (Option Nat))) (k : Nat), ax_Rt t t.length k = none
  | [], k => rfl
  | r :: t, k => ax_Rt_out t k
theorem ax_Rt_new {t : List (List (Option Nat))} {n : Nat} (h : t.length = n) : va_up (ax_Rt t) n (fun _ => none) = ax_Rt (t ++ [[]]) := by
  funext i j
  rw [ax_Rt_app]
  by_cases e : i = n
  · rw [e, va_up_self, ← h, ax_Rt_out]
  · rw [va_up_ne _ _ e]
theorem zI_new (n : Nat) : va_up zI n (fun _ => 0) = zI := ax_up_id zI n
section BN
variable {E : ax_E} {cal : ax_Cal} {t : ax_T} {pc n : Nat} {l0 s0 ls st : List Value} {sh : List (Nat × Nat)} {I : Nat → Nat → Int32} {tab : List (List (Option Nat))} {Q : Option Value → ax_H → Prop}
/-- a new cell, all cells being 0 -/
theorem bnw {v : Value} {c : Nat × Nat} (h : ax_stp E cal t pc (pc, l0, s0, (sh, zI, ax_Rt tab)) = some (.inl (n, ls, v :: st, sh ++ [c], va_up zI sh.length (fun _ => 0), va_up (ax_Rt tab) sh.length (fun _ => none)))) (hl : tab.length = sh.length) (k : AW E cal t (n, ls, v :: st, (sh ++ [c], zI, ax_Rt (tab ++ [[]]))) Q) : AW E cal t (pc, l0, s0, (sh, zI, ax_Rt tab)) Q := by
  refine bs h ?_
  rw [zI_new, ax_Rt_new hl]
  exact k
/-- a new cell -/
theorem bnI {v : Value} {c : Nat × Nat} (h : ax_stp E cal t pc (pc, l0, s0, (sh, I, ax_Rt tab)) = some (.inl (n, ls, v :: st, sh ++ [c], va_up I sh.length (fun _ => 0), va_up (ax_Rt tab) sh.length (fun _ => none)))) (hl : tab.length = sh.length) (k : AW E cal t (n, ls, v :: st, (sh ++ [c], va_up I sh.length (fun _ => 0), ax_Rt (tab ++ [[]]))) Q) : AW E cal t (pc, l0, s0, (sh, I, ax_Rt tab)) Q := by
  refine bs h ?_
  rw [ax_Rt_new hl]
  exact k
theorem bpr {q k x : Nat} (h : ax_stp E cal t pc (pc, l0, s0, (sh, I, ax_Rt tab)) = some (.inl (n, ls, st, sh, I, va_up (ax_Rt tab) q (va_up (ax_Rt tab q) k (some x))))) (k1 : AW E cal t (n, ls, st, (sh, I, ax_Rt (ax_set2 tab q k x))) Q) : AW E cal t (pc, l0, s0, (sh, I, ax_Rt tab)) Q := by
  refine bs h ?_
  rw [ax_Rt_up]
  exact k1
end BN
section INI
variable {E : ax_E} {d : Nat}
theorem in_1 : ax_cal E (d + 1) n_X8_init [.ref 1] ([(11, 9), (8, 2)], zI, ax_Rt [[], []]) = some (none, ([(11, 9), (8, 2), (101, 200)], zI, ax_Rt [[], [some 2], []])) := by
  refine ax_of (t := t_X8_init) (ls := [.ref 1]) rfl ⟨rfl, Nat.le_of_ble_eq_true rfl⟩ rfl ?_
  repeat (first | refine bnw rfl rfl ?_ | refine bpr rfl ?_ | refine bs rfl ?_)
  exact br rfl ⟨rfl, rfl⟩
theorem in_2 : ax_cal E (d + 1) n_X9_init [.ref 3] ([(11, 9), (8, 2), (101, 200), (9, 1)], zI, ax_Rt [[some 1], [some 2], [], []]) = some (none, ([(11, 9), (8, 2), (101, 200), (9, 1), (100, 4)], zI, ax_Rt [[some 1], [some 2], [], [some 4], []])) := by
  refine ax_of (t := t_X9_init) (ls := [.ref 3]) rfl ⟨rfl, Nat.le_of_ble_eq_true rfl⟩ rfl ?_
  repeat (first | refine bnw rfl rfl ?_ | refine bpr rfl ?_ | refine bs rfl ?_)
  exact br rfl ⟨rfl, rfl⟩
theorem in_3 : ax_cal E (d + 1) n_X0_init [.ref 5] ([(11, 9), (8, 2), (101, 200), (9, 1), (100, 4), (0, 3)], zI, ax_Rt [[some 1, some 3], [some 2], [], [some 4], [], []]) = some (none, ([(11, 9), (8, 2), (101, 200), (9, 1), (100, 4), (0, 3), (100, 8), (100, 8)], zI, ax_Rt [[some 1, some 3], [some 2], [], [some 4], [], [some 6, some 7], [], []])) := by
  refine ax_of (t := t_X0_init) (ls := [.ref 5]) rfl ⟨rfl, Nat.le_of_ble_eq_true rfl⟩ rfl ?_
  repeat (first | refine bnw rfl rfl ?_ | refine bpr rfl ?_ | refine bs rfl ?_)
  exact br rfl ⟨rfl, rfl⟩
theorem in_4 : ax_cal E (d + 1) n_X5_init [.ref 10] ([(11, 9), (8, 2), (101, 200), (9, 1), (100, 4), (0, 3), (100, 8), (100, 8), (2, 2), (102, 2), (5, 5)], zI, ax_Rt [[some 1, some 3, some 5], [some 2], [], [some 4], [], [some 6, some 7], [], [], [some 9], [], []]) = some (none, ([(11, 9), (8, 2), (101, 200), (9, 1), (100, 4), (0, 3), (100, 8), (100, 8), (2, 2), (102, 2), (5, 5), (100, 6), (100, 9), (100, 9), (100, 9)], zI, ax_Rt [[some 1, some 3, some 5], [some 2], [], [some 4], [], [some 6, some 7], [], [], [some 9], [], [some 11, some 12, some 13, some 14], [], [], [], []])) := by
  refine ax_of (t := t_X5_init) (ls := [.ref 10]) rfl ⟨rfl, Nat.le_of_ble_eq_true rfl⟩ rfl ?_
  repeat (first | refine bnw rfl rfl ?_ | refine bpr rfl ?_ | refine bs rfl ?_)
  exact br rfl ⟨rfl, rfl⟩
theorem in_5 : ax_cal E (d + 1) n_X5_init [.ref 15] ([(11, 9), (8, 2), (101, 200), (9, 1), (100, 4), (0, 3), (100, 8), (100, 8), (2, 2), (102, 2), (5, 5), (100, 6), (100, 9), (100, 9), (100, 9), (5, 5)], zI, ax_Rt [[some 1, some 3, some 5], [some 2], [], [some 4], [], [some 6, some 7], [], [], [some 9], [some 10], [some 11, some 12, some 13, some 14], [], [], [], [], []]) = some (none, ([(11, 9), (8, 2), (101, 200), (9, 1), (100, 4), (0, 3), (100, 8), (100, 8), (2, 2), (102, 2), (5, 5), (100, 6), (100, 9), (100, 9), (100, 9), (5, 5), (100, 6), (100, 9), (100, 9), (100, 9)], zI, ax_Rt [[some 1, some 3, some 5], [some 2], [], [some 4], [], [some 6, some 7], [], [], [some 9], [some 10], [some 11, some 12, some 13, some 14], [], [], [], [], [some 16, some 17, some 18, some 19], [], [], [], []])) := by
  refine ax_of (t := t_X5_init) (ls := [.ref 15]) rfl ⟨rfl, Nat.le_of_ble_eq_true rfl⟩ rfl ?_
  repeat (first | refine bnw rfl rfl ?_ | refine bpr rfl ?_ | refine bs rfl ?_)
  exact br rfl ⟨rfl, rfl⟩
theorem in_6 : ax_cal E (d + 2) n_X2_init [.ref 8] ([(11, 9), (8, 2), (101, 200), (9, 1), (100, 4), (0, 3), (100, 8), (100, 8), (2, 2)], zI, ax_Rt [[some 1, some 3, some 5], [some 2], [], [some 4], [], [some 6, some 7], [], [], []]) = some (none, ([(11, 9), (8, 2), (101, 200), (9, 1), (100, 4), (0, 3), (100, 8), (100, 8), (2, 2), (102, 2), (5, 5), (100, 6), (100, 9), (100, 9), (100, 9), (5, 5), (100, 6), (100, 9), (100, 9), (100, 9)], zI, ax_Rt [[some 1, some 3, some 5], [some 2], [], [some 4], [], [some 6, some 7], [], [], [some 9], [some 10, some 15], [some 11, some 12, some 13, some 14], [], [], [], [], [some 16, some 17, some 18, some 19], [], [], [], []])) := by
  refine ax_of (t := t_X2_init) (ls := [.ref 8, .float 0]) rfl ⟨rfl, Nat.le_of_ble_eq_true rfl⟩ rfl ?_
  repeat (first | refine bnw rfl rfl ?_ | refine bpr rfl ?_ | refine bs rfl ?_)
  refine bc rfl in_4 ?_
  repeat (first | refine bnw rfl rfl ?_ | refine bpr rfl ?_ | refine bs rfl ?_)
  refine bc rfl in_5 ?_
  repeat (first | refine bnw rfl rfl ?_ | refine bpr rfl ?_ | refine bs rfl ?_)
  exact br rfl ⟨rfl, rfl⟩
theorem in_7 : ax_cal E (d + 1) n_X4_init [.ref 20] ([(11, 9), (8, 2), (101, 200), (9, 1), (100, 4), (0, 3), (100, 8), (100, 8), (2, 2), (102, 2), (5, 5), (100, 6), (100, 9), (100, 9), (100, 9), (5, 5), (100, 6), (100, 9), (100, 9), (100, 9), (4, 3)], zI, ax_Rt [[some 1, some 3, some 5, some 8], [some 2], [], [some 4], [], [some 6, some 7], [], [], [some 9], [some 10, some 15], [some 11, some 12, some 13, some 14], [], [], [], [], [some 16, some 17, some 18, some 19], [], [], [], [], []]) = some (none, ([(11, 9), (8, 2), (101, 200), (9, 1), (100, 4), (0, 3), (100, 8), (100, 8), (2, 2), (102, 2), (5, 5), (100, 6), (100, 9), (100, 9), (100, 9), (5, 5), (100, 6), (100, 9), (100, 9), (100, 9), (4, 3), (100, 6), (100, 6)], zI, ax_Rt [[some 1, some 3, some 5, some 8], [some 2], [], [some 4], [], [some 6, some 7], [], [], [some 9], [some 10, some 15], [some 11, some 12, some 13, some 14], [], [], [], [], [some 16, some 17, some 18, some 19], [], [], [], [], [some 21, some 22], [], []])) := by
  refine ax_of (t := t_X4_init) (ls := [.ref 20]) rfl ⟨rfl, Nat.le_of_ble_eq_true rfl⟩ rfl ?_
  repeat (first | refine bnw rfl rfl ?_ | refine bpr rfl ?_ | refine bs rfl ?_)
  exact br rfl ⟨rfl, rfl⟩
theorem in_8 : ax_cal E (d + 1) n_X1_init [.ref 23] ([(11, 9), (8, 2), (101, 200), (9, 1), (100, 4), (0, 3), (100, 8), (100, 8), (2, 2), (102, 2), (5, 5), (100, 6), (100, 9), (100, 9), (100, 9), (5, 5), (100, 6), (100, 9), (100, 9), (100, 9), (4, 3), (100, 6), (100, 6), (1, 7)], zI, ax_Rt [[some 1, some 3, some 5, some 8, some 20], [some 2], [], [some 4], [], [some 6, some 7], [], [], [some 9], [some 10, some 15], [some 11, some 12, some 13, some 14], [], [], [], [], [some 16, some 17, some 18, some 19], [], [], [], [], [some 21, some 22], [], [], []]) = some (none, ([(11, 9), (8, 2), (101, 200), (9, 1), (100, 4), (0, 3), (100, 8), (100, 8), (2, 2), (102, 2), (5, 5), (100, 6), (100, 9), (100, 9), (100, 9), (5, 5), (100, 6), (100, 9), (100, 9), (100, 9), (4, 3), (100, 6), (100, 6), (1, 7), (100, 3), (100, 7), (100, 7)], zI, ax_Rt [[some 1, some 3, some 5, some 8, some 20], [some 2], [], [some 4], [], [some 6, some 7], [], [], [some 9], [some 10, some 15], [some 11, some 12, some 13, some 14], [], [], [], [], [some 16, some 17, some 18, some 19], [], [], [], [], [some 21, some 22], [], [], [some 24, some 25, some 26], [], [], []])) := by
  refine ax_of (t := t_X1_init) (ls := [.ref 23]) rfl ⟨rfl, Nat.le_of_ble_eq_true rfl⟩ rfl ?_
  repeat (first | refine bnw rfl rfl ?_ | refine bpr rfl ?_ | refine bs rfl ?_)
  exact br rfl ⟨rfl, rfl⟩
theorem in_9 : ax_cal E (d + 1) n_X10_init [.ref 27] ([(11, 9), (8, 2), (101, 200), (9, 1), (100, 4), (0, 3), (100, 8), (100, 8), (2, 2), (102, 2), (5, 5), (100, 6), (100, 9), (100, 9), (100, 9), (5, 5), (100, 6), (100, 9), (100, 9), (100, 9), (4, 3), (100, 6), (100, 6), (1, 7), (100, 3), (100, 7), (100, 7), (10, 6)], zI, ax_Rt [[some 1, some 3, some 5, some 8, some 20, some 23], [some 2], [], [some 4], [], [some 6, some 7], [], [], [some 9], [some 10, some 15], [some 11, some 12, some 13, some 14], [], [], [], [], [some 16, some 17, some 18, some 19], [], [], [], [], [some 21, some 22], [], [], [some 24, some 25, some 26], [], [], [], []]) = some (none, ([(11, 9), (8, 2), (101, 200), (9, 1), (100, 4), (0, 3), (100, 8), (100, 8), (2, 2), (102, 2), (5, 5), (100, 6), (100, 9), (100, 9), (100, 9), (5, 5), (100, 6), (100, 9), (100, 9), (100, 9), (4, 3), (100, 6), (100, 6), (1, 7), (100, 3), (100, 7), (100, 7), (10, 6), (100, 6), (100, 6)], zI, ax_Rt [[some 1, some 3, some 5, some 8, some 20, some 23], [some 2], [], [some 4], [], [some 6, some 7], [], [], [some 9], [some 10, some 15], [some 11, some 12, some 13, some 14], [], [], [], [], [some 16, some 17, some 18, some 19], [], [], [], [], [some 21, some 22], [], [], [some 24, some 25, some 26], [], [], [], [some 28, some 29], [], []])) := by
  refine ax_of (t := t_X10_init) (ls := [.ref 27]) rfl ⟨rfl, Nat.le_of_ble_eq_true rfl⟩ rfl ?_
  repeat (first | refine bnw rfl rfl ?_ | refine bpr rfl ?_ | refine bs rfl ?_)
  exact br rfl ⟨rfl, rfl⟩
theorem in_10 : ax_cal E (d + 1) n_X5_init [.ref 35] ([(11, 9), (8, 2), (101, 200), (9, 1), (100, 4), (0, 3), (100, 8), (100, 8), (2, 2), (102, 2), (5, 5), (100, 6), (100, 9), (100, 9), (100, 9), (5, 5), (100, 6), (100, 9), (100, 9), (100, 9), (4, 3), (100, 6), (100, 6), (1, 7), (100, 3), (100, 7), (100, 7), (10, 6), (100, 6), (100, 6), (3, 2), (7, 10), (100, 6), (100, 6), (100, 6), (5, 5)], zI, ax_Rt [[some 1, some 3, some 5, some 8, some 20, some 23, some 27], [some 2], [], [some 4], [], [some 6, some 7], [], [], [some 9], [some 10, some 15], [some 11, some 12, some 13, some 14], [], [], [], [], [some 16, some 17, some 18, some 19], [], [], [], [], [some 21, some 22], [], [], [some 24, some 25, some 26], [], [], [], [some 28, some 29], [], [], [], [some 32, some 33, some 34], [], [], [], []]) = some (none, ([(11, 9), (8, 2), (101, 200), (9, 1), (100, 4), (0, 3), (100, 8), (100, 8), (2, 2), (102, 2), (5, 5), (100, 6), (100, 9), (100, 9), (100, 9), (5, 5), (100, 6), (100, 9), (100, 9), (100, 9), (4, 3), (100, 6), (100, 6), (1, 7), (100, 3), (100, 7), (100, 7), (10, 6), (100, 6), (100, 6), (3, 2), (7, 10), (100, 6), (100, 6), (100, 6), (5, 5), (100, 6), (100, 9), (100, 9), (100, 9)], zI, ax_Rt [[some 1, some 3, some 5, some 8, some 20, some 23, some 27], [some 2], [], [some 4], [], [some 6, some 7], [], [], [some 9], [some 10, some 15], [some 11, some 12, some 13, some 14], [], [], [], [], [some 16, some 17, some 18, some 19], [], [], [], [], [some 21, some 22], [], [], [some 24, some 25, some 26], [], [], [], [some 28, some 29], [], [], [], [some 32, some 33, some 34], [], [], [], [some 36, some 37, some 38, some 39], [], [], [], []])) := by
  refine ax_of (t := t_X5_init) (ls := [.ref 35]) rfl ⟨rfl, Nat.le_of_ble_eq_true rfl⟩ rfl ?_
  repeat (first | refine bnw rfl rfl ?_ | refine bpr rfl ?_ | refine bs rfl ?_)
  exact br rfl ⟨rfl, rfl⟩
theorem in_11 : ax_cal E (d + 2) n_X7_init [.ref 31] ([(11, 9), (8, 2), (101, 200), (9, 1), (100, 4), (0, 3), (100, 8), (100, 8), (2, 2), (102, 2), (5, 5), (100, 6), (100, 9), (100, 9), (100, 9), (5, 5), (100, 6), (100, 9), (100, 9), (100, 9), (4, 3), (100, 6), (100, 6), (1, 7), (100, 3), (100, 7), (100, 7), (10, 6), (100, 6), (100, 6), (3, 2), (7, 10)], zI, ax_Rt [[some 1, some 3, some 5, some 8, some 20, some 23, some 27], [some 2], [], [some 4], [], [some 6, some 7], [], [], [some 9], [some 10, some 15], [some 11, some 12, some 13, some 14], [], [], [], [], [some 16, some 17, some 18, some 19], [], [], [], [], [some 21, some 22], [], [], [some 24, some 25, some 26], [], [], [], [some 28, some 29], [], [], [], []]) = some (none, ([(11, 9), (8, 2), (101, 200), (9, 1), (100, 4), (0, 3), (100, 8), (100, 8), (2, 2), (102, 2), (5, 5), (100, 6), (100, 9), (100, 9), (100, 9), (5, 5), (100, 6), (100, 9), (100, 9), (100, 9), (4, 3), (100, 6), (100, 6), (1, 7), (100, 3), (100, 7), (100, 7), (10, 6), (100, 6), (100, 6), (3, 2), (7, 10), (100, 6), (100, 6), (100, 6), (5, 5), (100, 6), (100, 9), (100, 9), (100, 9), (100, 6), (100, 6), (100, 6), (100, 6)], zI, ax_Rt [[some 1, some 3, some 5, some 8, some 20, some 23, some 27], [some 2], [], [some 4], [], [some 6, some 7], [], [], [some 9], [some 10, some 15], [some 11, some 12, some 13, some 14], [], [], [], [], [some 16, some 17, some 18, some 19], [], [], [], [], [some 21, some 22], [], [], [some 24, some 25, some 26], [], [], [], [some 28, some 29], [], [], [], [some 32, some 33, some 34, some 35, some 40, some 41, some 42, some 43], [], [], [], [some 36, some 37, some 38, some 39], [], [], [], [], [], [], [], []])) := by
  refine ax_of (t := t_X7_init) (ls := [.ref 31]) rfl ⟨rfl, Nat.le_of_ble_eq_true rfl⟩ rfl ?_
  repeat (first | refine bnw rfl rfl ?_ | refine bpr rfl ?_ | refine bs rfl ?_)
  refine bc rfl in_10 ?_
  repeat (first | refine bnw rfl rfl ?_ | refine bpr rfl ?_ | refine bs rfl ?_)
  exact br rfl ⟨rfl, rfl⟩
theorem in_12 : ax_cal E (d + 1) n_X6_init [.ref 44] ([(11, 9), (8, 2), (101, 200), (9, 1), (100, 4), (0, 3), (100, 8), (100, 8), (2, 2), (102, 2), (5, 5), (100, 6), (100, 9), (100, 9), (100, 9), (5, 5), (100, 6), (100, 9), (100, 9), (100, 9), (4, 3), (100, 6), (100, 6), (1, 7), (100, 3), (100, 7), (100, 7), (10, 6), (100, 6), (100, 6), (3, 2), (7, 10), (100, 6), (100, 6), (100, 6), (5, 5), (100, 6), (100, 9), (100, 9), (100, 9), (100, 6), (100, 6), (100, 6), (100, 6), (6, 7)], zI, ax_Rt [[some 1, some 3, some 5, some 8, some 20, some 23, some 27], [some 2], [], [some 4], [], [some 6, some 7], [], [], [some 9], [some 10, some 15], [some 11, some 12, some 13, some 14], [], [], [], [], [some 16, some 17, some 18, some 19], [], [], [], [], [some 21, some 22], [], [], [some 24, some 25, some 26], [], [], [], [some 28, some 29], [], [], [some 31], [some 32, some 33, some 34, some 35, some 40, some 41, some 42, some 43], [], [], [], [some 36, some 37, some 38, some 39], [], [], [], [], [], [], [], [], []]) = some (none, ([(11, 9), (8, 2), (101, 200), (9, 1), (100, 4), (0, 3), (100, 8), (100, 8), (2, 2), (102, 2), (5, 5), (100, 6), (100, 9), (100, 9), (100, 9), (5, 5), (100, 6), (100, 9), (100, 9), (100, 9), (4, 3), (100, 6), (100, 6), (1, 7), (100, 3), (100, 7), (100, 7), (10, 6), (100, 6), (100, 6), (3, 2), (7, 10), (100, 6), (100, 6), (100, 6), (5, 5), (100, 6), (100, 9), (100, 9), (100, 9), (100, 6), (100, 6), (100, 6), (100, 6), (6, 7), (100, 7), (100, 3), (100, 6), (100, 6)], zI, ax_Rt [[some 1, some 3, some 5, some 8, some 20, some 23, some 27], [some 2], [], [some 4], [], [some 6, some 7], [], [], [some 9], [some 10, some 15], [some 11, some 12, some 13, some 14], [], [], [], [], [some 16, some 17, some 18, some 19], [], [], [], [], [some 21, some 22], [], [], [some 24, some 25, some 26], [], [], [], [some 28, some 29], [], [], [some 31], [some 32, some 33, some 34, some 35, some 40, some 41, some 42, some 43], [], [], [], [some 36, some 37, some 38, some 39], [], [], [], [], [], [], [], [], [some 45, some 46, some 47, some 48], [], [], [], []])) := by
  refine ax_of (t := t_X6_init) (ls := [.ref 44]) rfl ⟨rfl, Nat.le_of_ble_eq_true rfl⟩ rfl ?_
  repeat (first | refine bnw rfl rfl ?_ | refine bpr rfl ?_ | refine bs rfl ?_)
  exact br rfl ⟨rfl, rfl⟩
theorem in_13 : ax_cal E (d + 3) n_X3_init [.ref 30] ([(11, 9), (8, 2), (101, 200), (9, 1), (100, 4), (0, 3), (100, 8), (100, 8), (2, 2), (102, 2), (5, 5), (100, 6), (100, 9), (100, 9), (100, 9), (5, 5), (100, 6), (100, 9), (100, 9), (100, 9), (4, 3), (100, 6), (100, 6), (1, 7), (100, 3), (100, 7), (100, 7), (10, 6), (100, 6), (100, 6), (3, 2)], zI, ax_Rt [[some 1, some 3, some 5, some 8, some 20, some 23, some 27], [some 2], [], [some 4], [], [some 6, some 7], [], [], [some 9], [some 10, some 15], [some 11, some 12, some 13, some 14], [], [], [], [], [some 16, some 17, some 18, some 19], [], [], [], [], [some 21, some 22], [], [], [some 24, some 25, some 26], [], [], [], [some 28, some 29], [], [], []]) = some (none, ([(11, 9), (8, 2), (101, 200), (9, 1), (100, 4), (0, 3), (100, 8), (100, 8), (2, 2), (102, 2), (5, 5), (100, 6), (100, 9), (100, 9), (100, 9), (5, 5), (100, 6), (100, 9), (100, 9), (100, 9), (4, 3), (100, 6), (100, 6), (1, 7), (100, 3), (100, 7), (100, 7), (10, 6), (100, 6), (100, 6), (3, 2), (7, 10), (100, 6), (100, 6), (100, 6), (5, 5), (100, 6), (100, 9), (100, 9), (100, 9), (100, 6), (100, 6), (100, 6), (100, 6), (6, 7), (100, 7), (100, 3), (100, 6), (100, 6)], zI, ax_Rt [[some 1, some 3, some 5, some 8, some 20, some 23, some 27], [some 2], [], [some 4], [], [some 6, some 7], [], [], [some 9], [some 10, some 15], [some 11, some 12, some 13, some 14], [], [], [], [], [some 16, some 17, some 18, some 19], [], [], [], [], [some 21, some 22], [], [], [some 24, some 25, some 26], [], [], [], [some 28, some 29], [], [], [some 31, some 44], [some 32, some 33, some 34, some 35, some 40, some 41, some 42, some 43], [], [], [], [some 36, some 37, some 38, some 39], [], [], [], [], [], [], [], [], [some 45, some 46, some 47, some 48], [], [], [], []])) := by
  refine ax_of (t := t_X3_init) (ls := [.ref 30]) rfl ⟨rfl, Nat.le_of_ble_eq_true rfl⟩ rfl ?_
  repeat (first | refine bnw rfl rfl ?_ | refine bpr rfl ?_ | refine bs rfl ?_)
  refine bc rfl in_11 ?_
  repeat (first | refine bnw rfl rfl ?_ | refine bpr rfl ?_ | refine bs rfl ?_)
  refine bc rfl in_12 ?_
  repeat (first | refine bnw rfl rfl ?_ | refine bpr rfl ?_ | refine bs rfl ?_)
  exact br rfl ⟨rfl, rfl⟩
theorem in_14 : ax_cal E (d + 1) n_X5_init [.ref 54] ([(11, 9), (8, 2), (101, 200), (9, 1), (100, 4), (0, 3), (100, 8), (100, 8), (2, 2), (102, 2), (5, 5), (100, 6), (100, 9), (100, 9), (100, 9), (5, 5), (100, 6), (100, 9), (100, 9), (100, 9), (4, 3), (100, 6), (100, 6), (1, 7), (100, 3), (100, 7), (100, 7), (10, 6), (100, 6), (100, 6), (3, 2), (7, 10), (100, 6), (100, 6), (100, 6), (5, 5), (100, 6), (100, 9), (100, 9), (100, 9), (100, 6), (100, 6), (100, 6), (100, 6), (6, 7), (100, 7), (100, 3), (100, 6), (100, 6), (3, 2), (7, 10), (100, 6), (100, 6), (100, 6), (5, 5)], zI, ax_Rt [[some 1, some 3, some 5, some 8, some 20, some 23, some 27, some 30], [some 2], [], [some 4], [], [some 6, some 7], [], [], [some 9], [some 10, some 15], [some 11, some 12, some 13, some 14], [], [], [], [], [some 16, some 17, some 18, some 19], [], [], [], [], [some 21, some 22], [], [], [some 24, some 25, some 26], [], [], [], [some 28, some 29], [], [], [some 31, some 44], [some 32, some 33, some 34, some 35, some 40, some 41, some 42, some 43], [], [], [], [some 36, some 37, some 38, some 39], [], [], [], [], [], [], [], [], [some 45, some 46, some 47, some 48], [], [], [], [], [], [some 51, some 52, some 53], [], [], [], []]) = some (none, ([(11, 9), (8, 2), (101, 200), (9, 1), (100, 4), (0, 3), (100, 8), (100, 8), (2, 2), (102, 2), (5, 5), (100, 6), (100, 9), (100, 9), (100, 9), (5, 5), (100, 6), (100, 9), (100, 9), (100, 9), (4, 3), (100, 6), (100, 6), (1, 7), (100, 3), (100, 7), (100, 7), (10, 6), (100, 6), (100, 6), (3, 2), (7, 10), (100, 6), (100, 6), (100, 6), (5, 5), (100, 6), (100, 9), (100, 9), (100, 9), (100, 6), (100, 6), (100, 6), (100, 6), (6, 7), (100, 7), (100, 3), (100, 6), (100, 6), (3, 2), (7, 10), (100, 6), (100, 6), (100, 6), (5, 5), (100, 6), (100, 9), (100, 9), (100, 9)], zI, ax_Rt [[some 1, some 3, some 5, some 8, some 20, some 23, some 27, some 30], [some 2], [], [some 4], [], [some 6, some 7], [], [], [some 9], [some 10, some 15], [some 11, some 12, some 13, some 14], [], [], [], [], [some 16, some 17, some 18, some 19], [], [], [], [], [some 21, some 22], [], [], [some 24, some 25, some 26], [], [], [], [some 28, some 29], [], [], [some 31, some 44], [some 32, some 33, some 34, some 35, some 40, some 41, some 42, some 43], [], [], [], [some 36, some 37, some 38, some 39], [], [], [], [], [], [], [], [], [some 45, some 46, some 47, some 48], [], [], [], [], [], [some 51, some 52, some 53], [], [], [], [some 55, some 56, some 57, some 58], [], [], [], []])) := by
  refine ax_of (t := t_X5_init) (ls := [.ref 54]) rfl ⟨rfl, Nat.le_of_ble_eq_true rfl⟩ rfl ?_
  repeat (first | refine bnw rfl rfl ?_ | refine bpr rfl ?_ | refine bs rfl ?_)
  exact br rfl ⟨rfl, rfl⟩
theorem in_15 : ax_cal E (d + 2) n_X7_init [.ref 50] ([(11, 9), (8, 2), (101, 200), (9, 1), (100, 4), (0, 3), (100, 8), (100, 8), (2, 2), (102, 2), (5, 5), (100, 6), (100, 9), (100, 9), (100, 9), (5, 5), (100, 6), (100, 9), (100, 9), (100, 9), (4, 3), (100, 6), (100, 6), (1, 7), (100, 3), (100, 7), (100, 7), (10, 6), (100, 6), (100, 6), (3, 2), (7, 10), (100, 6), (100, 6), (100, 6), (5, 5), (100, 6), (100, 9), (100, 9), (100, 9), (100, 6), (100, 6), (100, 6), (100, 6), (6, 7), (100, 7), (100, 3), (100, 6), (100, 6), (3, 2), (7, 10)], zI, ax_Rt [[some 1, some 3, some 5, some 8, some 20, some 23, some 27, some 30], [some 2], [], [some 4], [], [some 6, some 7], [], [], [some 9], [some 10, some 15], [some 11, some 12, some 13, some 14], [], [], [], [], [some 16, some 17, some 18, some 19], [], [], [], [], [some 21, some 22], [], [], [some 24, some 25, some 26], [], [], [], [some 28, some 29], [], [], [some 31, some 44], [some 32, some 33, some 34, some 35, some 40, some 41, some 42, some 43], [], [], [], [some 36, some 37, some 38, some 39], [], [], [], [], [], [], [], [], [some 45, some 46, some 47, some 48], [], [], [], [], [], []]) = some (none, ([(11, 9), (8, 2), (101, 200), (9, 1), (100, 4), (0, 3), (100, 8), (100, 8), (2, 2), (102, 2), (5, 5), (100, 6), (100, 9), (100, 9), (100, 9), (5, 5), (100, 6), (100, 9), (100, 9), (100, 9), (4, 3), (100, 6), (100, 6), (1, 7), (100, 3), (100, 7), (100, 7), (10, 6), (100, 6), (100, 6), (3, 2), (7, 10), (100, 6), (100, 6), (100, 6), (5, 5), (100, 6), (100, 9), (100, 9), (100, 9), (100, 6), (100, 6), (100, 6), (100, 6), (6, 7), (100, 7), (100, 3), (100, 6), (100, 6), (3, 2), (7, 10), (100, 6), (100, 6), (100, 6), (5, 5), (100, 6), (100, 9), (100, 9), (100, 9), (100, 6), (100, 6), (100, 6), (100, 6)], zI, ax_Rt [[some 1, some 3, some 5, some 8, some 20, some 23, some 27, some 30], [some 2], [], [some 4], [], [some 6, some 7], [], [], [some 9], [some 10, some 15], [some 11, some 12, some 13, some 14], [], [], [], [], [some 16, some 17, some 18, some 19], [], [], [], [], [some 21, some 22], [], [], [some 24, some 25, some 26], [], [], [], [some 28, some 29], [], [], [some 31, some 44], [some 32, some 33, some 34, some 35, some 40, some 41, some 42, some 43], [], [], [], [some 36, some 37, some 38, some 39], [], [], [], [], [], [], [], [], [some 45, some 46, some 47, some 48], [], [], [], [], [], [some 51, some 52, some 53, some 54, some 59, some 60, some 61, some 62], [], [], [], [some 55, some 56, some 57, some 58], [], [], [], [], [], [], [], []])) := by
  refine ax_of (t := t_X7_init) (ls := [.ref 50]) rfl ⟨rfl, Nat.le_of_ble_eq_true rfl⟩ rfl ?_
  repeat (first | refine bnw rfl rfl ?_ | refine bpr rfl ?_ | refine bs rfl ?_)
  refine bc rfl in_14 ?_
  repeat (first | refine bnw rfl rfl ?_ | refine bpr rfl ?_ | refine bs rfl ?_)
  exact br rfl ⟨rfl, rfl⟩
theorem in_16 : ax_cal E (d + 1) n_X6_init [.ref 63] ([(11, 9), (8, 2), (101, 200), (9, 1), (100, 4), (0, 3), (100, 8), (100, 8), (2, 2), (102, 2), (5, 5), (100, 6), (100, 9), (100, 9), (100, 9), (5, 5), (100, 6), (100, 9), (100, 9), (100, 9), (4, 3), (100, 6), (100, 6), (1, 7), (100, 3), (100, 7), (100, 7), (10, 6), (100, 6), (100, 6), (3, 2), (7, 10), (100, 6), (100, 6), (100, 6), (5, 5), (100, 6), (100, 9), (100, 9), (100, 9), (100, 6), (100, 6), (100, 6), (100, 6), (6, 7), (100, 7), (100, 3), (100, 6), (100, 6), (3, 2), (7, 10), (100, 6), (100, 6), (100, 6), (5, 5), (100, 6), (100, 9), (100, 9), (100, 9), (100, 6), (100, 6), (100, 6), (100, 6), (6, 7)], zI, ax_Rt [[some 1, some 3, some 5, some 8, some 20, some 23, some 27, some 30], [some 2], [], [some 4], [], [some 6, some 7], [], [], [some 9], [some 10, some 15], [some 11, some 12, some 13, some 14], [], [], [], [], [some 16, some 17, some 18, some 19], [], [], [], [], [some 21, some 22], [], [], [some 24, some 25, some 26], [], [], [], [some 28, some 29], [], [], [some 31, some 44], [some 32, some 33, some 34, some 35, some 40, some 41, some 42, some 43], [], [], [], [some 36, some 37, some 38, some 39], [], [], [], [], [], [], [], [], [some 45, some 46, some 47, some 48], [], [], [], [], [some 50], [some 51, some 52, some 53, some 54, some 59, some 60, some 61, some 62], [], [], [], [some 55, some 56, some 57, some 58], [], [], [], [], [], [], [], [], []]) = some (none, ([(11, 9), (8, 2), (101, 200), (9, 1), (100, 4), (0, 3), (100, 8), (100, 8), (2, 2), (102, 2), (5, 5), (100, 6), (100, 9), (100, 9), (100, 9), (5, 5), (100, 6), (100, 9), (100, 9), (100, 9), (4, 3), (100, 6), (100, 6), (1, 7), (100, 3), (100, 7), (100, 7), (10, 6), (100, 6), (100, 6), (3, 2), (7, 10), (100, 6), (100, 6), (100, 6), (5, 5), (100, 6), (100, 9), (100, 9), (100, 9), (100, 6), (100, 6), (100, 6), (100, 6), (6, 7), (100, 7), (100, 3), (100, 6), (100, 6), (3, 2), (7, 10), (100, 6), (100, 6), (100, 6), (5, 5), (100, 6), (100, 9), (100, 9), (100, 9), (100, 6), (100, 6), (100, 6), (100, 6), (6, 7), (100, 7), (100, 3), (100, 6), (100, 6)], zI, ax_Rt [[some 1, some 3, some 5, some 8, some 20, some 23, some 27, some 30], [some 2], [], [some 4], [], [some 6, some 7], [], [], [some 9], [some 10, some 15], [some 11, some 12, some 13, some 14], [], [], [], [], [some 16, some 17, some 18, some 19], [], [], [], [], [some 21, some 22], [], [], [some 24, some 25, some 26], [], [], [], [some 28, some 29], [], [], [some 31, some 44], [some 32, some 33, some 34, some 35, some 40, some 41, some 42, some 43], [], [], [], [some 36, some 37, some 38, some 39], [], [], [], [], [], [], [], [], [some 45, some 46, some 47, some 48], [], [], [], [], [some 50], [some 51, some 52, some 53, some 54, some 59, some 60, some 61, some 62], [], [], [], [some 55, some 56, some 57, some 58], [], [], [], [], [], [], [], [], [some 64, some 65, some 66, some 67], [], [], [], []])) := by
  refine ax_of (t := t_X6_init) (ls := [.ref 63]) rfl ⟨rfl, Nat.le_of_ble_eq_true rfl⟩ rfl ?_
  repeat (first | refine bnw rfl rfl ?_ | refine bpr rfl ?_ | refine bs rfl ?_)
  exact br rfl ⟨rfl, rfl⟩
theorem in_17 : ax_cal E (d + 3) n_X3_init [.ref 49] ([(11, 9), (8, 2), (101, 200), (9, 1), (100, 4), (0, 3), (100, 8), (100, 8), (2, 2), (102, 2), (5, 5), (100, 6), (100, 9), (100, 9), (100, 9), (5, 5), (100, 6), (100, 9), (100, 9), (100, 9), (4, 3), (100, 6), (100, 6), (1, 7), (100, 3), (100, 7), (100, 7), (10, 6), (100, 6), (100, 6), (3, 2), (7, 10), (100, 6), (100, 6), (100, 6), (5, 5), (100, 6), (100, 9), (100, 9), (100, 9), (100, 6), (100, 6), (100, 6), (100, 6), (6, 7), (100, 7), (100, 3), (100, 6), (100, 6), (3, 2)], zI, ax_Rt [[some 1, some 3, some 5, some 8, some 20, some 23, some 27, some 30], [some 2], [], [some 4], [], [some 6, some 7], [], [], [some 9], [some 10, some 15], [some 11, some 12, some 13, some 14], [], [], [], [], [some 16, some 17, some 18, some 19], [], [], [], [], [some 21, some 22], [], [], [some 24, some 25, some 26], [], [], [], [some 28, some 29], [], [], [some 31, some 44], [some 32, some 33, some 34, some 35, some 40, some 41, some 42, some 43], [], [], [], [some 36, some 37, some 38, some 39], [], [], [], [], [], [], [], [], [some 45, some 46, some 47, some 48], [], [], [], [], []]) = some (none, ([(11, 9), (8, 2), (101, 200), (9, 1), (100, 4), (0, 3), (100, 8), (100, 8), (2, 2), (102, 2), (5, 5), (100, 6), (100, 9), (100, 9), (100, 9), (5, 5), (100, 6), (100, 9), (100, 9), (100, 9), (4, 3), (100, 6), (100, 6), (1, 7), (100, 3), (100, 7), (100, 7), (10, 6), (100, 6), (100, 6), (3, 2), (7, 10), (100, 6), (100, 6), (100, 6), (5, 5), (100, 6), (100, 9), (100, 9), (100, 9), (100, 6), (100, 6), (100, 6), (100, 6), (6, 7), (100, 7), (100, 3), (100, 6), (100, 6), (3, 2), (7, 10), (100, 6), (100, 6), (100, 6), (5, 5), (100, 6), (100, 9), (100, 9), (100, 9), (100, 6), (100, 6), (100, 6), (100, 6), (6, 7), (100, 7), (100, 3), (100, 6), (100, 6)], zI, ax_Rt [[some 1, some 3, some 5, some 8, some 20, some 23, some 27, some 30], [some 2], [], [some 4], [], [some 6, some 7], [], [], [some 9], [some 10, some 15], [some 11, some 12, some 13, some 14], [], [], [], [], [some 16, some 17, some 18, some 19], [], [], [], [], [some 21, some 22], [], [], [some 24, some 25, some 26], [], [], [], [some 28, some 29], [], [], [some 31, some 44], [some 32, some 33, some 34, some 35, some 40, some 41, some 42, some 43], [], [], [], [some 36, some 37, some 38, some 39], [], [], [], [], [], [], [], [], [some 45, some 46, some 47, some 48], [], [], [], [], [some 50, some 63], [some 51, some 52, some 53, some 54, some 59, some 60, some 61, some 62], [], [], [], [some 55, some 56, some 57, some 58], [], [], [], [], [], [], [], [], [some 64, some 65, some 66, some 67], [], [], [], []])) := by
  refine ax_of (t := t_X3_init) (ls := [.ref 49]) rfl ⟨rfl, Nat.le_of_ble_eq_true rfl⟩ rfl ?_
  repeat (first | refine bnw rfl rfl ?_ | refine bpr rfl ?_ | refine bs rfl ?_)
  refine bc rfl in_15 ?_
  repeat (first | refine bnw rfl rfl ?_ | refine bpr rfl ?_ | refine bs rfl ?_)
  refine bc rfl in_16 ?_
  repeat (first | refine bnw rfl rfl ?_ | refine bpr rfl ?_ | refine bs rfl ?_)
  exact br rfl ⟨rfl, rfl⟩
theorem in_shC : ([(11, 9), (8, 2), (101, 200), (9, 1), (100, 4), (0, 3), (100, 8), (100, 8), (2, 2), (102, 2), (5, 5), (100, 6), (100, 9), (100, 9), (100, 9), (5, 5), (100, 6), (100, 9), (100, 9), (100, 9), (4, 3), (100, 6), (100, 6), (1, 7), (100, 3), (100, 7), (100, 7), (10, 6), (100, 6), (100, 6), (3, 2), (7, 10), (100, 6), (100, 6), (100, 6), (5, 5), (100, 6), (100, 9), (100, 9), (100, 9), (100, 6), (100, 6), (100, 6), (100, 6), (6, 7), (100, 7), (100, 3), (100, 6), (100, 6), (3, 2), (7, 10), (100, 6), (100, 6), (100, 6), (5, 5), (100, 6), (100, 9), (100, 9), (100, 9), (100, 6), (100, 6), (100, 6), (100, 6), (6, 7), (100, 7), (100, 3), (100, 6), (100, 6)] : List (Nat × Nat)) = ax_shC := rfl
theorem in_rC : ax_Rt [[some 1, some 3, some 5, some 8, some 20, some 23, some 27, some 30, some 49], [some 2], [], [some 4], [], [some 6, some 7], [], [], [some 9], [some 10, some 15], [some 11, some 12, some 13, some 14], [], [], [], [], [some 16, some 17, some 18, some 19], [], [], [], [], [some 21, some 22], [], [], [some 24, some 25, some 26], [], [], [], [some 28, some 29], [], [], [some 31, some 44], [some 32, some 33, some 34, some 35, some 40, some 41, some 42, some 43], [], [], [], [some 36, some 37, some 38, some 39], [], [], [], [], [], [], [], [], [some 45, some 46, some 47, some 48], [], [], [], [], [some 50, some 63], [some 51, some 52, some 53, some 54, some 59, some 60, some 61, some 62], [], [], [], [some 55, some 56, some 57, some 58], [], [], [], [], [], [], [], [], [some 64, some 65, some 66, some 67], [], [], [], []] = ax_Rt (ax_rC ++ []) := rfl
end INI
