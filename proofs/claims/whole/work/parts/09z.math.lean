/-! Math.max, Math.min, Math.abs: the kit's own rows -/
def a_mmax (n : Nat) : ax_Act := fun _ _ S => match S with
  | (_, ls, .int y :: .int x :: st, h) => if ax_cats st ≤ 8 then some (.inl (n, ls, .int (if x < y then y else x) :: st, h)) else none
  | _ => none
def a_mmin (n : Nat) : ax_Act := fun _ _ S => match S with
  | (_, ls, .int y :: .int x :: st, h) => if ax_cats st ≤ 8 then some (.inl (n, ls, .int (if y < x then y else x) :: st, h)) else none
  | _ => none
def a_mabs (n : Nat) : ax_Act := fun _ _ S => match S with
  | (_, ls, .int x :: st, h) => if ax_cats st ≤ 8 then some (.inl (n, ls, .int (if 0 ≤ x then x else 0 - x) :: st, h)) else none
  | _ => none
section SMM
variable {ME : Nat → Option ax_M} {ini : Bool} {own : String} {cc : ByteArray} {nL : Nat} {ret : Option FieldType} {pc : Nat}
theorem sm_mmax {n idx : Nat} (hd : decode cc pc = .ok (.invokestatic idx, 3)) (hw : Cond.methodLink own idx Lib.Math.max.name ∈ ax_tbl) (hw2 : Cond.static Lib.Math.max.name ∈ ax_tbl) (hw3 : Cond.initialized "java/lang/Math" ∈ ax_tbl) (hw4 : Cond.code Lib.Math.max.name Lib.Math.max.code 2 (some .int) ∈ ax_tbl) (hn : n = pc + 3) : ax_Sim ME ini own cc nL ret pc (a_mmax n) := by
  subst hn
  intro E cal ls st h o ho
  simp only [a_mmax] at ho
  split at ho
  · rename_i y x st1 h1 he
    cases he
    split at ho
    · rename_i h8
      cases ho
      refine ⟨fun _ => ⟨Nat.le_refl _, Nat.le_refl _⟩, fun p l e R s m args below meth c G base z Q h0 F hC hcl hsl _ _ w H locs Ls cells slots hk hl hS hcc hss => ?_⟩
      have hcc' : cells + h0.1.length = h.1.length := hcc
      have hss' : slots + ax_slt h0 = ax_slt h := hss
      have hcl' : h.1.length ≤ h0.1.length + R.cells := hcl
      have hsl' : ax_slt h ≤ ax_slt h0 + R.slots := hsl
      have h64 := F.2.2.2.2.2.2.1.2
      exact va_mmax F.1 F.2.1 (by rw [F.2.2.1]; exact hl.2.1.1.symm) F.2.2.2.1 (F.2.2.2.2.1 _ hw) (F.2.2.2.2.1 _ hw2) (F.2.2.2.2.1 _ hw3) (F.2.2.2.2.1 _ hw4) F.2.2.2.2.2.2.1.1 (by rw [ax_cats_map]; omega) (by omega) (by omega) hd (w H locs Ls cells slots hk hl hS hcc hss)
    · cases ho
  · cases ho
theorem sm_mmin {n idx : Nat} (hd : decode cc pc = .ok (.invokestatic idx, 3)) (hw : Cond.methodLink own idx Lib.Math.min.name ∈ ax_tbl) (hw2 : Cond.static Lib.Math.min.name ∈ ax_tbl) (hw3 : Cond.initialized "java/lang/Math" ∈ ax_tbl) (hw4 : Cond.code Lib.Math.min.name Lib.Math.min.code 2 (some .int) ∈ ax_tbl) (hn : n = pc + 3) : ax_Sim ME ini own cc nL ret pc (a_mmin n) := by
  subst hn
  intro E cal ls st h o ho
  simp only [a_mmin] at ho
  split at ho
  · rename_i y x st1 h1 he
    cases he
    split at ho
    · rename_i h8
      cases ho
      refine ⟨fun _ => ⟨Nat.le_refl _, Nat.le_refl _⟩, fun p l e R s m args below meth c G base z Q h0 F hC hcl hsl _ _ w H locs Ls cells slots hk hl hS hcc hss => ?_⟩
      have hcc' : cells + h0.1.length = h.1.length := hcc
      have hss' : slots + ax_slt h0 = ax_slt h := hss
      have hcl' : h.1.length ≤ h0.1.length + R.cells := hcl
      have hsl' : ax_slt h ≤ ax_slt h0 + R.slots := hsl
      have h64 := F.2.2.2.2.2.2.1.2
      exact va_mmin F.1 F.2.1 (by rw [F.2.2.1]; exact hl.2.1.1.symm) F.2.2.2.1 (F.2.2.2.2.1 _ hw) (F.2.2.2.2.1 _ hw2) (F.2.2.2.2.1 _ hw3) (F.2.2.2.2.1 _ hw4) F.2.2.2.2.2.2.1.1 (by rw [ax_cats_map]; omega) (by omega) (by omega) hd (w H locs Ls cells slots hk hl hS hcc hss)
    · cases ho
  · cases ho
theorem sm_mabs {n idx : Nat} (hd : decode cc pc = .ok (.invokestatic idx, 3)) (hw : Cond.methodLink own idx Lib.Math.abs.name ∈ ax_tbl) (hw2 : Cond.static Lib.Math.abs.name ∈ ax_tbl) (hw3 : Cond.initialized "java/lang/Math" ∈ ax_tbl) (hw4 : Cond.code Lib.Math.abs.name Lib.Math.abs.code 1 (some .int) ∈ ax_tbl) (hn : n = pc + 3) : ax_Sim ME ini own cc nL ret pc (a_mabs n) := by
  subst hn
  intro E cal ls st h o ho
  simp only [a_mabs] at ho
  split at ho
  · rename_i x st1 h1 he
    cases he
    split at ho
    · rename_i h8
      cases ho
      refine ⟨fun _ => ⟨Nat.le_refl _, Nat.le_refl _⟩, fun p l e R s m args below meth c G base z Q h0 F hC hcl hsl _ _ w H locs Ls cells slots hk hl hS hcc hss => ?_⟩
      have hcc' : cells + h0.1.length = h.1.length := hcc
      have hss' : slots + ax_slt h0 = ax_slt h := hss
      have hcl' : h.1.length ≤ h0.1.length + R.cells := hcl
      have hsl' : ax_slt h ≤ ax_slt h0 + R.slots := hsl
      have h64 := F.2.2.2.2.2.2.1.2
      exact va_mabs F.1 F.2.1 (by rw [F.2.2.1]; exact hl.2.1.1.symm) F.2.2.2.1 (F.2.2.2.2.1 _ hw) (F.2.2.2.2.1 _ hw2) (F.2.2.2.2.1 _ hw3) (F.2.2.2.2.1 _ hw4) F.2.2.2.2.2.2.1.1 (by rw [ax_cats_map]; omega) (by omega) (by omega) hd (w H locs Ls cells slots hk hl hS hcc hss)
    · cases ho
  · cases ho
end SMM
