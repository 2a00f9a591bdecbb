/-! THE ABSTRACT MACHINE: a state is (pc, locals, stack, (shape, ints, refs)); a reference is the number of its cell; .retAddr 0 is the script, .retAddr 1 the text constant; .float 0 stands for a local that isn't set -/
abbrev ax_H : Type := List (Nat × Nat) × (Nat → Nat → Int32) × (Nat → Nat → Option Nat)
abbrev ax_S : Type := Nat × List Value × List Value × ax_H
abbrev ax_R : Type := Option Value × ax_H
abbrev ax_E : Type := Nat × (Nat → Int32)
abbrev ax_Cal : Type := Nat → List Value → ax_H → Option ax_R
abbrev ax_Act : Type := ax_E → ax_Cal → ax_S → Option (ax_S ⊕ ax_R)
def ax_nth {α : Type} : List α → Nat → Option α
  | [], _ => none
  | a :: _, 0 => some a
  | _ :: l, n + 1 => ax_nth l n
theorem ax_nth_eq {α : Type} : ∀ (l : List α) (i : Nat), ax_nth l i = l[i]?
  | [], _ => rfl
  | _ :: _, 0 => rfl
  | _ :: l, n + 1 => by rw [ax_nth, ax_nth_eq l n]; rfl
abbrev ax_T : Type := List (List (Option ax_Act))
/-- the row at a place: rows lie in sixteens -/
def ax_row (t : ax_T) (pc : Nat) : Option ax_Act := match ax_nth t (pc / 16) with
  | some r => match ax_nth r (pc % 16) with
    | some a => a
    | none => none
  | none => none
/-- a store at a place cuts no long that lies there -/
def ax_ok1 (ls : List Value) : Nat → Bool
  | 0 => true
  | j + 1 => match ax_nth ls j with
    | some v => !(v.category == 2)
    | none => true
def ax_cats : List Value → Nat
  | [] => 0
  | v :: r => v.category + ax_cats r
-- constants, loads, stores
def a_iconst (v : Int32) (n : Nat) : ax_Act := fun _ _ S => match S with
  | (_, ls, st, h) => some (.inl (n, ls, .int v :: st, h))
def a_lconst (v : Int64) (n : Nat) : ax_Act := fun _ _ S => match S with
  | (_, ls, st, h) => some (.inl (n, ls, .long v :: st, h))
def a_ldcs (n : Nat) : ax_Act := fun _ _ S => match S with
  | (_, ls, st, h) => some (.inl (n, ls, .retAddr 1 :: st, h))
def a_iload (i n : Nat) : ax_Act := fun _ _ S => match S with
  | (_, ls, st, h) => match ax_nth ls i with
    | some (.int x) => some (.inl (n, ls, .int x :: st, h))
    | _ => none
def a_lload (i n : Nat) : ax_Act := fun _ _ S => match S with
  | (_, ls, st, h) => match ax_nth ls i with
    | some (.long x) => some (.inl (n, ls, .long x :: st, h))
    | _ => none
def a_aload (i n : Nat) : ax_Act := fun _ _ S => match S with
  | (_, ls, st, h) => match ax_nth ls i with
    | some (.ref x) => some (.inl (n, ls, .ref x :: st, h))
    | some (.retAddr x) => some (.inl (n, ls, .retAddr x :: st, h))
    | _ => none
def a_istore (i n : Nat) : ax_Act := fun _ _ S => match S with
  | (_, ls, .int x :: st, h) => if ax_ok1 ls i = true then some (.inl (n, ls.set i (.int x), st, h)) else none
  | _ => none
def a_lstore (i n : Nat) : ax_Act := fun _ _ S => match S with
  | (_, ls, .long x :: st, h) => if ax_ok1 ls i = true then some (.inl (n, (ls.set i (.long x)).set (i + 1) (.float 0), st, h)) else none
  | _ => none
def a_astore (i n : Nat) : ax_Act := fun _ _ S => match S with
  | (_, ls, .ref x :: st, h) => if ax_ok1 ls i = true then some (.inl (n, ls.set i (.ref x), st, h)) else none
  | _ => none
def a_iinc (i : Nat) (k : Int32) (n : Nat) : ax_Act := fun _ _ S => match S with
  | (_, ls, st, h) => match ax_nth ls i with
    | some (.int x) => if ax_ok1 ls i = true then some (.inl (n, ls.set i (.int (x + k)), st, h)) else none
    | _ => none
-- stack
def a_dup (n : Nat) : ax_Act := fun _ _ S => match S with
  | (_, ls, v :: st, h) => if v.category = 1 then some (.inl (n, ls, v :: v :: st, h)) else none
  | _ => none
def a_dup2 (n : Nat) : ax_Act := fun _ _ S => match S with
  | (_, ls, v :: w :: st, h) => if v.category = 1 ∧ w.category = 1 then some (.inl (n, ls, v :: w :: v :: w :: st, h)) else none
  | _ => none
def a_pop (n : Nat) : ax_Act := fun _ _ S => match S with
  | (_, ls, v :: st, h) => if v.category = 1 then some (.inl (n, ls, st, h)) else none
  | _ => none
-- arithmetic
def a_iadd (n : Nat) : ax_Act := fun _ _ S => match S with
  | (_, ls, .int y :: .int x :: st, h) => some (.inl (n, ls, .int (x + y) :: st, h))
  | _ => none
def a_isub (n : Nat) : ax_Act := fun _ _ S => match S with
  | (_, ls, .int y :: .int x :: st, h) => some (.inl (n, ls, .int (x - y) :: st, h))
  | _ => none
def a_imul (n : Nat) : ax_Act := fun _ _ S => match S with
  | (_, ls, .int y :: .int x :: st, h) => some (.inl (n, ls, .int (x * y) :: st, h))
  | _ => none
def a_iand (n : Nat) : ax_Act := fun _ _ S => match S with
  | (_, ls, .int y :: .int x :: st, h) => some (.inl (n, ls, .int (x &&& y) :: st, h))
  | _ => none
def a_ior (n : Nat) : ax_Act := fun _ _ S => match S with
  | (_, ls, .int y :: .int x :: st, h) => some (.inl (n, ls, .int (x ||| y) :: st, h))
  | _ => none
def a_ixor (n : Nat) : ax_Act := fun _ _ S => match S with
  | (_, ls, .int y :: .int x :: st, h) => some (.inl (n, ls, .int (x ^^^ y) :: st, h))
  | _ => none
def a_ishl (n : Nat) : ax_Act := fun _ _ S => match S with
  | (_, ls, .int y :: .int x :: st, h) => some (.inl (n, ls, .int (x <<< (y &&& 31)) :: st, h))
  | _ => none
def a_ishr (n : Nat) : ax_Act := fun _ _ S => match S with
  | (_, ls, .int y :: .int x :: st, h) => some (.inl (n, ls, .int (x >>> (y &&& 31)) :: st, h))
  | _ => none
def a_iushr (n : Nat) : ax_Act := fun _ _ S => match S with
  | (_, ls, .int y :: .int x :: st, h) => some (.inl (n, ls, .int (x.toUInt32 >>> (y.toUInt32 &&& Int32.toUInt32 31)).toInt32 :: st, h))
  | _ => none
def a_idiv (n : Nat) : ax_Act := fun _ _ S => match S with
  | (_, ls, .int y :: .int x :: st, h) => if y = 0 then none else some (.inl (n, ls, .int (x / y) :: st, h))
  | _ => none
def a_irem (n : Nat) : ax_Act := fun _ _ S => match S with
  | (_, ls, .int y :: .int x :: st, h) => if y = 0 then none else some (.inl (n, ls, .int (x - x / y * y) :: st, h))
  | _ => none
def a_ineg (n : Nat) : ax_Act := fun _ _ S => match S with
  | (_, ls, .int x :: st, h) => some (.inl (n, ls, .int (-x) :: st, h))
  | _ => none
def a_i2l (n : Nat) : ax_Act := fun _ _ S => match S with
  | (_, ls, .int x :: st, h) => some (.inl (n, ls, .long x.toInt64 :: st, h))
  | _ => none
def a_l2i (n : Nat) : ax_Act := fun _ _ S => match S with
  | (_, ls, .long x :: st, h) => some (.inl (n, ls, .int x.toInt32 :: st, h))
  | _ => none
def a_i2c (n : Nat) : ax_Act := fun _ _ S => match S with
  | (_, ls, .int x :: st, h) => some (.inl (n, ls, .int (x.toUInt32 % 65536).toInt32 :: st, h))
  | _ => none
def a_ladd (n : Nat) : ax_Act := fun _ _ S => match S with
  | (_, ls, .long y :: .long x :: st, h) => some (.inl (n, ls, .long (x + y) :: st, h))
  | _ => none
def a_lmul (n : Nat) : ax_Act := fun _ _ S => match S with
  | (_, ls, .long y :: .long x :: st, h) => some (.inl (n, ls, .long (x * y) :: st, h))
  | _ => none
def a_ldiv (n : Nat) : ax_Act := fun _ _ S => match S with
  | (_, ls, .long y :: .long x :: st, h) => if y = 0 then none else some (.inl (n, ls, .long (x / y) :: st, h))
  | _ => none
def a_lrem (n : Nat) : ax_Act := fun _ _ S => match S with
  | (_, ls, .long y :: .long x :: st, h) => if y = 0 then none else some (.inl (n, ls, .long (x - x / y * y) :: st, h))
  | _ => none
def a_lcmp (n : Nat) : ax_Act := fun _ _ S => match S with
  | (_, ls, .long y :: .long x :: st, h) => some (.inl (n, ls, .int (lg_cmp x y) :: st, h))
  | _ => none
-- branches
def a_goto (t : Nat) : ax_Act := fun _ _ S => match S with
  | (_, ls, st, h) => some (.inl (t, ls, st, h))
def a_ceq (t n : Nat) : ax_Act := fun _ _ S => match S with
  | (_, ls, .int y :: .int x :: st, h) => if x = y then some (.inl (t, ls, st, h)) else some (.inl (n, ls, st, h))
  | _ => none
def a_cne (t n : Nat) : ax_Act := fun _ _ S => match S with
  | (_, ls, .int y :: .int x :: st, h) => if x = y then some (.inl (n, ls, st, h)) else some (.inl (t, ls, st, h))
  | _ => none
def a_clt (t n : Nat) : ax_Act := fun _ _ S => match S with
  | (_, ls, .int y :: .int x :: st, h) => if x < y then some (.inl (t, ls, st, h)) else some (.inl (n, ls, st, h))
  | _ => none
def a_cge (t n : Nat) : ax_Act := fun _ _ S => match S with
  | (_, ls, .int y :: .int x :: st, h) => if y ≤ x then some (.inl (t, ls, st, h)) else some (.inl (n, ls, st, h))
  | _ => none
def a_cgt (t n : Nat) : ax_Act := fun _ _ S => match S with
  | (_, ls, .int y :: .int x :: st, h) => if y < x then some (.inl (t, ls, st, h)) else some (.inl (n, ls, st, h))
  | _ => none
def a_cle (t n : Nat) : ax_Act := fun _ _ S => match S with
  | (_, ls, .int y :: .int x :: st, h) => if x ≤ y then some (.inl (t, ls, st, h)) else some (.inl (n, ls, st, h))
  | _ => none
def a_zeq (t n : Nat) : ax_Act := fun _ _ S => match S with
  | (_, ls, .int x :: st, h) => if x = 0 then some (.inl (t, ls, st, h)) else some (.inl (n, ls, st, h))
  | _ => none
def a_zne (t n : Nat) : ax_Act := fun _ _ S => match S with
  | (_, ls, .int x :: st, h) => if x = 0 then some (.inl (n, ls, st, h)) else some (.inl (t, ls, st, h))
  | _ => none
def a_zlt (t n : Nat) : ax_Act := fun _ _ S => match S with
  | (_, ls, .int x :: st, h) => if x < 0 then some (.inl (t, ls, st, h)) else some (.inl (n, ls, st, h))
  | _ => none
def a_zge (t n : Nat) : ax_Act := fun _ _ S => match S with
  | (_, ls, .int x :: st, h) => if 0 ≤ x then some (.inl (t, ls, st, h)) else some (.inl (n, ls, st, h))
  | _ => none
def a_zgt (t n : Nat) : ax_Act := fun _ _ S => match S with
  | (_, ls, .int x :: st, h) => if 0 < x then some (.inl (t, ls, st, h)) else some (.inl (n, ls, st, h))
  | _ => none
def a_zle (t n : Nat) : ax_Act := fun _ _ S => match S with
  | (_, ls, .int x :: st, h) => if x ≤ 0 then some (.inl (t, ls, st, h)) else some (.inl (n, ls, st, h))
  | _ => none
/-- where a table's row leads -/
def ax_sw (lo hi : Int) (ts : List Nat) (d : Nat) (x : Int) : Nat := if x < lo ∨ hi < x then d else (ax_nth ts (x - lo).toNat).getD d
def a_tsw (lo hi : Int) (ts : List Nat) (d : Nat) : ax_Act := fun _ _ S => match S with
  | (_, ls, .int x :: st, h) => some (.inl (ax_sw lo hi ts d x.toInt, ls, st, h))
  | _ => none
-- objects and arrays
def a_getI (ci N k n : Nat) : ax_Act := fun _ _ S => match S with
  | (_, ls, .ref q :: st, sh, I, R) => match ax_nth sh q with
    | some c => if c = (ci, N) then some (.inl (n, ls, .int (I q k) :: st, sh, I, R)) else none
    | none => none
  | _ => none
def a_getR (ci N k n : Nat) : ax_Act := fun _ _ S => match S with
  | (_, ls, .ref q :: st, sh, I, R) => match ax_nth sh q with
    | some c => if c = (ci, N) then match R q k with
      | some j => some (.inl (n, ls, .ref j :: st, sh, I, R))
      | none => none
      else none
    | none => none
  | _ => none
def a_putI (ci N k n : Nat) : ax_Act := fun _ _ S => match S with
  | (_, ls, .int x :: .ref q :: st, sh, I, R) => match ax_nth sh q with
    | some c => if c = (ci, N) then some (.inl (n, ls, st, sh, va_up I q (upd (I q) k x), R)) else none
    | none => none
  | _ => none
def a_putZ (ci N k n : Nat) : ax_Act := fun _ _ S => match S with
  | (_, ls, .int x :: .ref q :: st, sh, I, R) => match ax_nth sh q with
    | some c => if c = (ci, N) ∧ (x = 0 ∨ x = 1) then some (.inl (n, ls, st, sh, va_up I q (upd (I q) k x), R)) else none
    | none => none
  | _ => none
def a_putR (ci N k n : Nat) : ax_Act := fun _ _ S => match S with
  | (_, ls, .ref x :: .ref q :: st, sh, I, R) => match ax_nth sh q with
    | some c => if c = (ci, N) then some (.inl (n, ls, st, sh, I, va_up R q (va_up (R q) k (some x)))) else none
    | none => none
  | _ => none
def a_iald (n : Nat) : ax_Act := fun _ _ S => match S with
  | (_, ls, .int i :: .ref q :: st, sh, I, R) => match ax_nth sh q with
    | some c => if c.1 = 100 then (if i < 0 ∨ c.2 ≤ i.toNatClampNeg then none else some (.inl (n, ls, .int (I q i.toNatClampNeg) :: st, sh, I, R))) else none
    | none => none
  | _ => none
def a_sald (n : Nat) : ax_Act := fun E _ S => match S with
  | (_, ls, .int i :: .retAddr 0 :: st, h) => if i < 0 ∨ E.1 ≤ i.toNatClampNeg then none else some (.inl (n, ls, .int (E.2 i.toNatClampNeg) :: st, h))
  | _ => none
def a_slen (n : Nat) : ax_Act := fun E _ S => match S with
  | (_, ls, .retAddr 0 :: st, h) => some (.inl (n, ls, .int (Int32.ofNat E.1) :: st, h))
  | _ => none
def a_cald (n : Nat) : ax_Act := fun _ _ S => match S with
  | (_, ls, .int i :: .ref q :: st, sh, I, R) => match ax_nth sh q with
    | some c => if c.1 = 101 then (if i < 0 ∨ c.2 ≤ i.toNatClampNeg then none else some (.inl (n, ls, .int (I q i.toNatClampNeg) :: st, sh, I, R))) else none
    | none => none
  | _ => none
def a_aald (n : Nat) : ax_Act := fun _ _ S => match S with
  | (_, ls, .int i :: .ref q :: st, sh, I, R) => match ax_nth sh q with
    | some c => if c.1 = 102 then (if i < 0 ∨ c.2 ≤ i.toNatClampNeg then none else match R q i.toNatClampNeg with
      | some j => some (.inl (n, ls, .ref j :: st, sh, I, R))
      | none => none) else none
    | none => none
  | _ => none
def a_iast (n : Nat) : ax_Act := fun _ _ S => match S with
  | (_, ls, .int x :: .int i :: .ref q :: st, sh, I, R) => match ax_nth sh q with
    | some c => if c.1 = 100 then (if i < 0 ∨ c.2 ≤ i.toNatClampNeg then none else some (.inl (n, ls, st, sh, va_up I q (upd (I q) i.toNatClampNeg x), R))) else none
    | none => none
  | _ => none
def a_cast (n : Nat) : ax_Act := fun _ _ S => match S with
  | (_, ls, .int x :: .int i :: .ref q :: st, sh, I, R) => match ax_nth sh q with
    | some c => if c.1 = 101 then (if i < 0 ∨ c.2 ≤ i.toNatClampNeg then none else some (.inl (n, ls, st, sh, va_up I q (upd (I q) i.toNatClampNeg (vp_nar .char x)), R))) else none
    | none => none
  | _ => none
def a_aast (n : Nat) : ax_Act := fun _ _ S => match S with
  | (_, ls, .ref x :: .int i :: .ref q :: st, sh, I, R) => match ax_nth sh q with
    | some c => if c.1 = 102 ∧ ax_nth sh x = some (5, 5) then (if i < 0 ∨ c.2 ≤ i.toNatClampNeg then none else some (.inl (n, ls, st, sh, I, va_up R q (va_up (R q) i.toNatClampNeg (some x))))) else none
    | none => none
  | _ => none
/-- System.arraycopy over two int arrays, whole places from 0 on -/
def a_acpy (n : Nat) : ax_Act := fun _ _ S => match S with
  | (_, ls, .int c :: .int dp :: .ref b :: .int sp :: .ref a :: st, sh, I, R) => match ax_nth sh a, ax_nth sh b with
    | some ca, some cb => if ca.1 = 100 ∧ cb.1 = 100 ∧ sp = 0 ∧ dp = 0 ∧ ¬ c < 0 ∧ c.toNatClampNeg ≤ ca.2 ∧ c.toNatClampNeg ≤ cb.2 ∧ ax_cats st ≤ 8 then some (.inl (n, ls, st, sh, va_up I b (va_cpy (I a) (I b) 0 0 c.toNatClampNeg), R)) else none
    | _, _ => none
  | _ => none
-- making
def a_new (ci N n : Nat) : ax_Act := fun _ _ S => match S with
  | (_, ls, st, sh, I, R) => some (.inl (n, ls, .ref sh.length :: st, sh ++ [(ci, N)], va_up I sh.length (fun _ => 0), va_up R sh.length (fun _ => none)))
def a_newa (kd N n : Nat) : ax_Act := fun _ _ S => match S with
  | (_, ls, .int x :: st, sh, I, R) => if x = Int32.ofNat N then some (.inl (n, ls, .ref sh.length :: st, sh ++ [(kd, N)], va_up I sh.length (fun _ => 0), va_up R sh.length (fun _ => none))) else none
  | _ => none
-- calls
def ax_back (o : Option ax_R) (n : Nat) (ls rest : List Value) : Option (ax_S ⊕ ax_R) := match o with
  | none => none
  | some q => some (.inl (n, ls, q.1.toList ++ rest, q.2))
def a_callS (y k n : Nat) : ax_Act := fun _ cal S => match S with
  | (_, ls, st, h) => if k ≤ st.length ∧ ax_cats (st.drop k) ≤ 8 then ax_back (cal y (st.take k).reverse h) n ls (st.drop k) else none
/-- a call on an object of the class ci: k arguments beside it -/
def a_callV (ci N y k n : Nat) : ax_Act := fun _ cal S => match S with
  | (_, ls, st, h) => match ax_nth st k with
    | some (.ref q) => if ax_nth h.1 q = some (ci, N) ∧ ax_cats (st.drop (k + 1)) ≤ 8 then ax_back (cal y (st.take (k + 1)).reverse h) n ls (st.drop (k + 1)) else none
    | _ => none
def a_oinit (n : Nat) : ax_Act := fun _ _ S => match S with
  | (_, ls, .ref _ :: st, h) => if ax_cats st ≤ 8 then some (.inl (n, ls, st, h)) else none
  | _ => none
-- returns
def a_iret : ax_Act := fun _ _ S => match S with
  | (_, _, [.int x], h) => some (.inr (some (.int x), h))
  | _ => none
def a_zret : ax_Act := fun _ _ S => match S with
  | (_, _, [.int x], h) => if x = 0 ∨ x = 1 then some (.inr (some (.int x), h)) else none
  | _ => none
def a_cret : ax_Act := fun _ _ S => match S with
  | (_, _, [.int x], h) => if vp_nar .char x = x then some (.inr (some (.int x), h)) else none
  | _ => none
def a_lret : ax_Act := fun _ _ S => match S with
  | (_, _, [.long x], h) => some (.inr (some (.long x), h))
  | _ => none
def a_aret : ax_Act := fun _ _ S => match S with
  | (_, _, [.ref x], h) => some (.inr (some (.ref x), h))
  | _ => none
def a_vret : ax_Act := fun _ _ S => match S with
  | (_, _, [], h) => some (.inr (none, h))
  | _ => none
/-- a step, a run -/
def ax_step (E : ax_E) (cal : ax_Cal) (t : ax_T) (S : ax_S) : Option (ax_S ⊕ ax_R) := match ax_row t S.1 with
  | some a => a E cal S
  | none => none
def ax_run (E : ax_E) (cal : ax_Cal) (t : ax_T) : Nat → ax_S → Option ax_R
  | 0, _ => none
  | n + 1, S => match ax_step E cal t S with
    | some (.inl S') => ax_run E cal t n S'
    | some (.inr r) => some r
    | none => none
theorem ax_run_more {E : ax_E} {cal : ax_Cal} {t : ax_T} : ∀ {n : Nat} {S : ax_S} {r : ax_R}, ax_run E cal t n S = some r → ∀ k, ax_run E cal t (n + k) S = some r
  | 0, S, r, h, k => by cases h
  | n + 1, S, r, h, k => by
    rw [show n + 1 + k = (n + k) + 1 by omega, ax_run]
    rw [ax_run] at h
    cases hs : ax_step E cal t S with
    | none => rw [hs] at h; cases h
    | some o =>
      rw [hs] at h
      cases o with
      | inl S' => exact ax_run_more h k
      | inr q => exact h
theorem ax_run_one {E : ax_E} {cal : ax_Cal} {t : ax_T} {n n' : Nat} {S : ax_S} {r r' : ax_R} (h : ax_run E cal t n S = some r) (h' : ax_run E cal t n' S = some r') : r = r' := by
  have a := ax_run_more h n'
  have b := ax_run_more h' n
  rw [Nat.add_comm n' n, a] at b
  exact Option.some.inj b
/-- the run from a state on ends, with Q -/
def AW (E : ax_E) (cal : ax_Cal) (t : ax_T) (S : ax_S) (Q : Option Value → ax_H → Prop) : Prop := ∃ n r h, ax_run E cal t n S = some (r, h) ∧ Q r h
section AXR
variable {E : ax_E} {cal : ax_Cal} {t : ax_T} {S S' S1 S2 : ax_S} {Q : Option Value → ax_H → Prop}
theorem ax_s (h : ax_step E cal t S = some (.inl S')) (k : AW E cal t S' Q) : AW E cal t S Q := by
  obtain ⟨n, r, g, a, b⟩ := k
  exact ⟨n + 1, r, g, by rw [ax_run, h]; exact a, b⟩
theorem ax_b {c : Prop} [Decidable c] (h : ax_step E cal t S = if c then some (.inl S1) else some (.inl S2)) (k1 : c → AW E cal t S1 Q) (k2 : ¬ c → AW E cal t S2 Q) : AW E cal t S Q := by
  by_cases hc : c
  · exact ax_s (by rw [h, if_pos hc]) (k1 hc)
  · exact ax_s (by rw [h, if_neg hc]) (k2 hc)
/-- a test that is known -/
theorem ax_bt {c : Prop} [Decidable c] {o : Option (ax_S ⊕ ax_R)} (h : ax_step E cal t S = if c then some (.inl S1) else o) (hc : c) (k1 : AW E cal t S1 Q) : AW E cal t S Q := ax_s (by rw [h, if_pos hc]) k1
theorem ax_bf {c : Prop} [Decidable c] {o : Option (ax_S ⊕ ax_R)} (h : ax_step E cal t S = if c then o else some (.inl S2)) (hc : ¬ c) (k2 : AW E cal t S2 Q) : AW E cal t S Q := ax_s (by rw [h, if_neg hc]) k2
/-- a call -/
theorem ax_c {y n : Nat} {as ls rest : List Value} {h0 : ax_H} {q : ax_R} (h : ax_step E cal t S = ax_back (cal y as h0) n ls rest) (hc : cal y as h0 = some q) (k : AW E cal t (n, ls, q.1.toList ++ rest, q.2) Q) : AW E cal t S Q := ax_s (by rw [h, hc]; rfl) k
theorem ax_r {r : Option Value} {g : ax_H} (h : ax_step E cal t S = some (.inr (r, g))) (k : Q r g) : AW E cal t S Q := ⟨1, r, g, by rw [ax_run, h], k⟩
theorem ax_rt {c : Prop} [Decidable c] {o : Option (ax_S ⊕ ax_R)} {r : Option Value} {g : ax_H} (h : ax_step E cal t S = if c then some (.inr (r, g)) else o) (hc : c) (k : Q r g) : AW E cal t S Q := ax_r (by rw [h, if_pos hc]) k
theorem ax_mono {Q' : Option Value → ax_H → Prop} (k : AW E cal t S Q') (h : ∀ r g, Q' r g → Q r g) : AW E cal t S Q := by
  obtain ⟨n, r, g, a, b⟩ := k
  exact ⟨n, r, g, a, h r g b⟩
end AXR
/-- a number of steps without a return -/
def ax_go (E : ax_E) (cal : ax_Cal) (t : ax_T) : Nat → ax_S → ax_S → Prop
  | 0, S, S' => S = S'
  | n + 1, S, S' => ∃ S1, ax_step E cal t S = some (.inl S1) ∧ ax_go E cal t n S1 S'
