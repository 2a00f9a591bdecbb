/-! the abstract heap as a world of the kit's -/
abbrev ax_G : Type := va_G × ClassId × ClassId × ClassId
abbrev ax_Z : Type := (Nat → Nat) × Nat × Nat
def ax_rv (z : ax_Z) : Value → Value
  | .ref k => .ref (z.1 k)
  | .retAddr k => .ref (if k = 0 then z.2.1 else z.2.2)
  | v => v
theorem ax_rv_cat (z : ax_Z) (v : Value) : (ax_rv z v).category = v.category := by cases v <;> rfl
theorem ax_cats_map (z : ax_Z) : ∀ l : List Value, ((l.map (ax_rv z)).map fun v => v.category).sum = ax_cats l
  | [] => rfl
  | v :: l => by
    rw [List.map_cons, List.map_cons, List.sum_cons, ax_cats_map z l, ax_rv_cat]; rfl
/-- which fields hold references, a class a row (by vwCl) -/
def ax_rft : List (List Bool) := [[true, true, false], [true, true, true, false, false, false, false], [true, false], [true, true], [true, true, false], [true, true, true, true, false], [true, true, true, true, false, false, false], [true, true, true, true, true, true, true, true, false, false], [true, false], [true], [true, true, false, false, false, false], [true, true, true, true, true, true, true, true, true], [false, true, false, true, false, true, false, true, false, true, true, false, true, false, true, false, true, true, false, false, true, false, true, false, true, false, true, false, true, false, true, true, true, false, false, true, false, false]]
def ax_isr (ci k : Nat) : Bool := match ax_nth ax_rft ci with
  | some l => match ax_nth l k with
    | some b => b
    | none => false
  | none => false
def ax_fs (rz : Nat → Nat) (ci N : Nat) (f : Nat → Int32) (r : Nat → Option Nat) : List Value := (List.range N).map (fun k => if ax_isr ci k = true then va_rf ((r k).map rz) else .int (f k))
def ax_cell (G : ax_G) (rz : Nat → Nat) (c : Nat × Nat) (f : Nat → Int32) (r : Nat → Option Nat) : va_E :=
  if c.1 = 100 then .inl (G.2.1, c.2, .inl f) else if c.1 = 101 then .inl (G.2.2.1, c.2, .inl f) else if c.1 = 102 then .inl (G.2.2.2, c.2, .inr (.inr (.inr (.inr (fun j => (r j).map rz))))) else .inr (c.1, ax_fs rz c.1 c.2 f r)
def ax_ws (G : ax_G) (rz : Nat → Nat) (h : ax_H) : va_W := (List.range h.1.length).map (fun i => (rz i, ax_cell G rz ((ax_nth h.1 i).getD (0, 0)) (h.2.1 i) (h.2.2 i)))
def ax_tys (G : ax_G) : List (ClassId × FieldType) := [(G.2.1, .int), (G.2.2.1, .char), (G.2.2.2, .object "ShadowTailor$State")]
def ax_ok (G : ax_G) (base : Nat) (rz : Nat → Nat) (h : ax_H) (H : Heap) : Prop :=
  H.size = base + h.1.length ∧ (∀ i, base ≤ rz i) ∧ (∀ i j, rz i = rz j → i = j) ∧ (∀ i, h.1.length ≤ i → rz i = base + i) ∧ va_P G.1 vwCl (ax_ws G rz h) H
def ax_slt (h : ax_H) : Nat := (h.1.map (fun q => q.2)).sum
theorem ax_nth_lt {α : Type} {l : List α} {i : Nat} {c : α} (h : ax_nth l i = some c) : i < l.length := by
  rw [ax_nth_eq] at h; exact (List.getElem?_eq_some_iff.mp h).1
theorem ax_ws_len (G : ax_G) (rz : Nat → Nat) (h : ax_H) : (ax_ws G rz h).length = h.1.length := by simp [ax_ws]
theorem ax_ws_i (G : ax_G) (rz : Nat → Nat) (h : ax_H) {i : Nat} (hl : i < h.1.length) : (ax_ws G rz h)[i]? = some (rz i, ax_cell G rz ((ax_nth h.1 i).getD (0, 0)) (h.2.1 i) (h.2.2 i)) := by
  simp [ax_ws, List.getElem?_map, hl]
theorem ax_ws_get (G : ax_G) (rz : Nat → Nat) {h : ax_H} {i : Nat} {c : Nat × Nat} (hc : ax_nth h.1 i = some c) : (ax_ws G rz h)[i]? = some (rz i, ax_cell G rz c (h.2.1 i) (h.2.2 i)) := by
  rw [ax_ws_i G rz h (ax_nth_lt hc), hc]; rfl
theorem ax_ws_at (G : ax_G) (rz : Nat → Nat) (h : ax_H) {i : Nat} {q : Nat × va_E} (hq : (ax_ws G rz h)[i]? = some q) : i < h.1.length ∧ q.1 = rz i := by
  have hl : i < h.1.length := by rw [← ax_ws_len G rz h]; exact (List.getElem?_eq_some_iff.mp hq).1
  refine ⟨hl, ?_⟩
  rw [ax_ws_i G rz h hl] at hq
  rw [← Option.some.inj hq]
theorem ax_D {G : ax_G} {base : Nat} {rz : Nat → Nat} {h : ax_H} {H : Heap} (hk : ax_ok G base rz h H) : va_D (fun q => base ≤ q) (ax_ws G rz h) := by
  refine ⟨fun i j p q hp hq hpq => ?_, fun k q hq => ?_⟩
  · exact hk.2.2.1 i j (by rw [← (ax_ws_at G rz h hp).2, ← (ax_ws_at G rz h hq).2]; exact hpq)
  · show base ≤ q.1
    rw [(ax_ws_at G rz h hq).2]; exact hk.2.1 k
theorem ax_ws_set (G : ax_G) (rz : Nat → Nat) {sh : List (Nat × Nat)} {I : Nat → Nat → Int32} {R : Nat → Nat → Option Nat} {i : Nat} {c : Nat × Nat} (hc : ax_nth sh i = some c) (f : Nat → Int32) (r : Nat → Option Nat) :
    (ax_ws G rz (sh, I, R)).set i (rz i, ax_cell G rz c f r) = ax_ws G rz (sh, va_up I i f, va_up R i r) := by
  have hl := ax_nth_lt hc
  apply List.ext_getElem?
  intro j
  by_cases hj : j = i
  · subst hj
    rw [List.getElem?_set_self (by rw [ax_ws_len]; exact hl), ax_ws_get G rz (h := (sh, va_up I j f, va_up R j r)) hc]
    show some (rz j, ax_cell G rz c f r) = some (rz j, ax_cell G rz c (va_up I j f j) (va_up R j r j))
    rw [va_up_self, va_up_self]
  · rw [List.getElem?_set_ne (Ne.symm hj)]
    by_cases hjl : j < sh.length
    · rw [ax_ws_i G rz (sh, I, R) hjl, ax_ws_i G rz (sh, va_up I i f, va_up R i r) hjl]
      show some (rz j, ax_cell G rz _ (I j) (R j)) = some (rz j, ax_cell G rz _ (va_up I i f j) (va_up R i r j))
      rw [va_up_ne _ _ hj, va_up_ne _ _ hj]
    · rw [List.getElem?_eq_none (by rw [ax_ws_len]; exact Nat.le_of_not_lt hjl), List.getElem?_eq_none (by rw [ax_ws_len]; exact Nat.le_of_not_lt hjl)]
theorem ax_up_id {α : Type} (f : Nat → α) (i : Nat) : va_up f i (f i) = f := by
  funext j
  by_cases h : j = i
  · subst h; rw [va_up_self]
  · rw [va_up_ne _ _ h]
theorem ax_nth_app {α : Type} (l : List α) (c : α) {i : Nat} (h : i < l.length) : ax_nth (l ++ [c]) i = ax_nth l i := by
  rw [ax_nth_eq, ax_nth_eq, List.getElem?_append_left h]
theorem ax_nth_end {α : Type} (l : List α) (c : α) : ax_nth (l ++ [c]) l.length = some c := by
  rw [ax_nth_eq, List.getElem?_append_right (Nat.le_refl _), Nat.sub_self]; rfl
theorem ax_ws_push (G : ax_G) (rz : Nat → Nat) (sh : List (Nat × Nat)) (I : Nat → Nat → Int32) (R : Nat → Nat → Option Nat) (c : Nat × Nat) (f : Nat → Int32) (r : Nat → Option Nat) :
    ax_ws G rz (sh ++ [c], va_up I sh.length f, va_up R sh.length r) = ax_ws G rz (sh, I, R) ++ [(rz sh.length, ax_cell G rz c f r)] := by
  apply List.ext_getElem?
  intro j
  rcases Nat.lt_trichotomy j sh.length with hj | hj | hj
  · rw [List.getElem?_append_left (by rw [ax_ws_len]; exact hj), ax_ws_i G rz (sh, I, R) hj, ax_ws_i G rz (sh ++ [c], va_up I sh.length f, va_up R sh.length r) (by simp; omega)]
    show some (rz j, ax_cell G rz ((ax_nth (sh ++ [c]) j).getD (0, 0)) (va_up I sh.length f j) (va_up R sh.length r j)) = _
    rw [ax_nth_app sh c hj, va_up_ne _ _ (Nat.ne_of_lt hj), va_up_ne _ _ (Nat.ne_of_lt hj)]
  · subst hj
    rw [List.getElem?_append_right (by rw [ax_ws_len]; exact Nat.le_refl _), ax_ws_len, Nat.sub_self, ax_ws_get G rz (h := (sh ++ [c], va_up I sh.length f, va_up R sh.length r)) (ax_nth_end sh c)]
    show some (rz sh.length, ax_cell G rz c (va_up I sh.length f sh.length) (va_up R sh.length r sh.length)) = _
    rw [va_up_self, va_up_self]; rfl
  · rw [List.getElem?_eq_none (by rw [ax_ws_len]; simp; omega), List.getElem?_eq_none (by rw [List.length_append, ax_ws_len]; simp; omega)]
theorem ax_fs_at (rz : Nat → Nat) (ci : Nat) {N k : Nat} (hk : k < N) (f : Nat → Int32) (r : Nat → Option Nat) : (ax_fs rz ci N f r)[k]? = some (if ax_isr ci k = true then va_rf ((r k).map rz) else .int (f k)) := by
  simp [ax_fs, List.getElem?_map, hk]
theorem ax_fs_len (rz : Nat → Nat) (ci N : Nat) (f : Nat → Int32) (r : Nat → Option Nat) : (ax_fs rz ci N f r).length = N := by simp [ax_fs]
theorem ax_fs_i (rz : Nat → Nat) (ci N : Nat) {k : Nat} (h0 : ax_isr ci k = false) (f : Nat → Int32) (r : Nat → Option Nat) (x : Int32) : (ax_fs rz ci N f r).set k (.int x) = ax_fs rz ci N (upd f k x) r := by
  apply List.ext_getElem?
  intro j
  by_cases hj : j < N
  · by_cases e : j = k
    · subst e
      rw [List.getElem?_set_self (by rw [ax_fs_len]; exact hj), ax_fs_at rz ci hj, h0]
      simp [upd]
    · rw [List.getElem?_set_ne (Ne.symm e), ax_fs_at rz ci hj, ax_fs_at rz ci hj]
      simp [upd, e]
  · rw [List.getElem?_eq_none (by rw [List.length_set, ax_fs_len]; omega), List.getElem?_eq_none (by rw [ax_fs_len]; omega)]
theorem ax_fs_r (rz : Nat → Nat) (ci N : Nat) {k : Nat} (h0 : ax_isr ci k = true) (f : Nat → Int32) (r : Nat → Option Nat) (x : Nat) : (ax_fs rz ci N f r).set k (.ref (rz x)) = ax_fs rz ci N f (va_up r k (some x)) := by
  apply List.ext_getElem?
  intro j
  by_cases hj : j < N
  · by_cases e : j = k
    · subst e
      rw [List.getElem?_set_self (by rw [ax_fs_len]; exact hj), ax_fs_at rz ci hj, h0]
      simp [va_up, va_rf]
    · rw [List.getElem?_set_ne (Ne.symm e), ax_fs_at rz ci hj, ax_fs_at rz ci hj]
      simp [va_up, e]
  · rw [List.getElem?_eq_none (by rw [List.length_set, ax_fs_len]; omega), List.getElem?_eq_none (by rw [ax_fs_len]; omega)]
/-! locals -/
def ax_loc (z : ax_Z) (nL : Nat) (Ls : Array Slot) (ls : List Value) : Prop := ls.length = nL ∧ lv_has Ls nL [] ∧ ∀ (i : Nat) (v : Value), ls[i]? = some v → v ≠ .float 0 → Ls[i]? = some (.val (ax_rv z v))
def ax_lv (z : ax_Z) (ls : List Value) : List (Nat × Value) := (List.range ls.length).filterMap (fun i => match ls[i]? with
  | some v => if v = .float 0 then none else some (i, ax_rv z v)
  | none => none)
theorem ax_lv_mem {z : ax_Z} {ls : List Value} {i : Nat} {v : Value} (h : ls[i]? = some v) (hv : v ≠ .float 0) : (i, ax_rv z v) ∈ ax_lv z ls := by
  refine List.mem_filterMap.mpr ⟨i, List.mem_range.mpr (List.getElem?_eq_some_iff.mp h).1, ?_⟩
  simp [h, hv]
theorem ax_lv_has {z : ax_Z} {nL : Nat} {Ls : Array Slot} {ls : List Value} (h : ax_loc z nL Ls ls) : lv_has Ls nL (ax_lv z ls) := by
  refine ⟨h.2.1.1, h.2.1.2.1, fun q hq => ?_⟩
  obtain ⟨i, -, hi⟩ := List.mem_filterMap.mp hq
  cases hl : ls[i]? with
  | none => rw [hl] at hi; cases hi
  | some v =>
    rw [hl] at hi
    by_cases hv : v = .float 0
    · simp [hv] at hi
    · simp [hv] at hi
      rw [← hi]
      exact h.2.2 i v hl hv
theorem ax_loc_ld {z : ax_Z} {nL : Nat} {Ls : Array Slot} {ls : List Value} (h : ax_loc z nL Ls ls) {i : Nat} {v : Value} (hi : ax_nth ls i = some v) (hv : v ≠ .float 0) : Ls[i]? = some (.val (ax_rv z v)) := h.2.2 i v (by rw [← ax_nth_eq]; exact hi) hv
theorem ax_ok1_at {ls : List Value} {i : Nat} (h : ax_ok1 ls i = true) {j : Nat} {w : Value} (hj : ls[j]? = some w) : ¬ (j + 1 = i ∧ w.category = 2) := by
  intro q
  obtain ⟨rfl, hc⟩ := q
  simp only [ax_ok1, ax_nth_eq, hj] at h
  simp [hc] at h
theorem ax_loc_st1 {z : ax_Z} {nL i : Nat} {Ls' : Array Slot} {ls : List Value} {v : Value} (hn : ls.length = nL) (hk : ax_ok1 ls i = true) (h' : lv_has Ls' nL ((i, ax_rv z v) :: (ax_lv z ls).filter (fun q => !(q.1 == i) && !(q.1 + 1 == i && q.2.category == 2)))) : ax_loc z nL Ls' (ls.set i v) := by
  refine ⟨by rw [List.length_set]; exact hn, ⟨h'.1, h'.2.1, fun q hq => by cases hq⟩, fun j w hj hw => ?_⟩
  by_cases e : j = i
  · subst e
    have hl : j < ls.length := by
      have := (List.getElem?_eq_some_iff.mp hj).1
      rw [List.length_set] at this
      exact this
    rw [List.getElem?_set_self hl] at hj
    cases hj
    exact h'.2.2 (j, ax_rv z v) List.mem_cons_self
  · rw [List.getElem?_set_ne (Ne.symm e)] at hj
    have h2 := ax_ok1_at hk hj
    refine h'.2.2 (j, ax_rv z w) (List.mem_cons_of_mem _ (List.mem_filter.mpr ⟨ax_lv_mem hj hw, ?_⟩))
    have hb : ¬ (j + 1 = i ∧ (ax_rv z w).category = 2) := by rw [ax_rv_cat]; exact h2
    simp [e]
    by_cases h3 : j + 1 = i
    · exact Or.inr (fun h4 => hb ⟨h3, h4⟩)
    · exact Or.inl h3
theorem ax_loc_st2 {z : ax_Z} {nL i : Nat} {Ls' : Array Slot} {ls : List Value} {v : Value} (hn : ls.length = nL) (hk : ax_ok1 ls i = true) (h' : lv_has Ls' nL ((i, ax_rv z v) :: (ax_lv z ls).filter (fun q => !(q.1 == i) && (!(q.1 == i + 1) && !(q.1 + 1 == i && q.2.category == 2))))) : ax_loc z nL Ls' ((ls.set i v).set (i + 1) (.float 0)) := by
  refine ⟨by rw [List.length_set, List.length_set]; exact hn, ⟨h'.1, h'.2.1, fun q hq => by cases hq⟩, fun j w hj hw => ?_⟩
  by_cases e1 : j = i + 1
  · subst e1
    have hl : i + 1 < (ls.set i v).length := by
      have := (List.getElem?_eq_some_iff.mp hj).1
      rw [List.length_set] at this
      exact this
    rw [List.getElem?_set_self hl] at hj
    exact absurd (Option.some.inj hj).symm hw
  · rw [List.getElem?_set_ne (Ne.symm e1)] at hj
    by_cases e : j = i
    · subst e
      have hl : j < ls.length := by
        have := (List.getElem?_eq_some_iff.mp hj).1
        rw [List.length_set] at this
        exact this
      rw [List.getElem?_set_self hl] at hj
      cases hj
      exact h'.2.2 (j, ax_rv z v) List.mem_cons_self
    · rw [List.getElem?_set_ne (Ne.symm e)] at hj
      have h2 := ax_ok1_at hk hj
      refine h'.2.2 (j, ax_rv z w) (List.mem_cons_of_mem _ (List.mem_filter.mpr ⟨ax_lv_mem hj hw, ?_⟩))
      have hb : ¬ (j + 1 = i ∧ (ax_rv z w).category = 2) := by rw [ax_rv_cat]; exact h2
      simp [e, e1]
      by_cases h3 : j + 1 = i
      · exact Or.inr (fun h4 => hb ⟨h3, h4⟩)
      · exact Or.inl h3
