/-! SIMULATION: an abstract step is the machine's -/
abbrev ax_M : Type := MethodName × ByteArray × Nat × Option FieldType
def ax_tx : String := "p10,4,0,0;p16,2,1,0;p30,6,2,3;p33,3,3,1;w1,14,12;l0,8,6;l2,16,9;r5;r3;r8;r2;o6;o9;f2,4;f3,3;f1,6;"
def ax_tb : List Int32 := [112, 49, 48, 44, 52, 44, 48, 44, 48, 59, 112, 49, 54, 44, 50, 44, 49, 44, 48, 59, 112, 51, 48, 44, 54, 44, 50, 44, 51, 59, 112, 51, 51, 44, 51, 44, 51, 44, 49, 59, 119, 49, 44, 49, 52, 44, 49, 50, 59, 108, 48, 44, 56, 44, 54, 59, 108, 50, 44, 49, 54, 44, 57, 59, 114, 53, 59, 114, 51, 59, 114, 56, 59, 114, 50, 59, 111, 54, 59, 111, 57, 59, 102, 50, 44, 52, 59, 102, 51, 44, 51, 59, 102, 49, 44, 54, 59]
/-- what is said of the text constant and of the library's statics; nothing of it lies from base on -/
def ax_Y (base str : Nat) (U : State) : Prop := ∃ adV : Nat, vk_R "ShadowTailor" 68 ax_tx str U ∧ vk_S 1 [97] [ax_tb] (fun _ => str) (fun _ => adV) (fun q => base ≤ q) U U.heap ∧ va_Z "java/lang/String" "COMPACT_STRINGS" "Z" (.int 1) (fun q => base ≤ q) U U.heap ∧ va_Zq "jdk/internal/util/Preconditions" "SIOOBE_FORMATTER" "Ljava/util/function/BiFunction;" (fun q => base ≤ q) U U.heap
def ax_X (E : ax_E) (base : Nat) (z : ax_Z) (U : State) : Prop := va_X z.2.1 E.1 E.2 U U.heap ∧ z.2.1 < base ∧ base ≤ U.heap.size ∧ ax_Y base z.2.2 U
theorem ax_X.moved {E : ax_E} {base : Nat} {z : ax_Z} {s U : State} (hW : s.WarmedH U.vm) (hz : base ≤ U.heap.size) (hq : ∀ a : Nat, a < base → U.heap[a]? = s.heap[a]?) (h : ax_X E base z s) : ax_X E base z U := by
  obtain ⟨h1, h2, h3, adV, g1, g2, g3, g4⟩ := h
  have hk : ∀ a : Nat, a < s.heap.size → ¬ (base ≤ a) → U.heap[a]? = s.heap[a]? := fun a _ h => hq a (Nat.lt_of_not_le h)
  exact ⟨(h1.moved hW.alike).kept (hq _ h2), h2, hz, adV, g1.warm hW, (g2.moved hW.alike).kept hk, (g3.moved hW.alike).kept hk, (g4.moved hW.alike).kept hk⟩
theorem ax_kept_warm {w : Cond} (hk : ax_kept w = true) {s U : State} {A A' : Array Value} (hW : s.WarmedH U.vm) (h : w.before A s = true) : w.before A' U = true := by
  cases w with
  | fieldLinkNest a i b n d x => exact va_Nw.use rfl (va_Nw.warmF hW (va_Nw.of rfl h))
  | methodLinkNest a i b n => exact va_Nw.use rfl (va_Nw.warmM hW (va_Nw.of rfl h))
  | arrayOver t => cases t with
    | object n => exact va_AO.use (va_AO.moved hW.alike (va_AO.of h))
    | _ => cases hk
  | _ => exact word_at hW (good_of_word hk) h
def ax_N (U : State) : Prop := ∀ w ∈ ax_tbl, w.before #[] U = true
theorem ax_N.warm {s U : State} {A : Array Value} (hW : s.WarmedH U.vm) (h : ∀ w ∈ ax_tbl, w.before A s = true) : ∀ w ∈ ax_tbl, ∀ A' : Array Value, w.before A' U = true := fun w hw _ => ax_kept_warm (List.mem_filter.mp hw).2 hW (h w hw)
theorem ax_N.use {U : State} (h : ax_N U) (A : Array Value) : ∀ w ∈ ax_tbl, w.before A U = true := fun w hw => ax_N.warm (State.WarmedH.refl U) h w hw A
def ax_Fr (ini : Bool) (own : String) (cc : ByteArray) (nL : Nat) (ret : Option FieldType) (p : Program) (R : Room) (s : State) (m : MethodId) (args : Array Value) (meth : Method) (c : Code) (G : ax_G) (base : Nat) (z : ax_Z) (E : ax_E) : Prop :=
  p.tables.exec = Jvm.exec ∧ c.code = cc ∧ c.maxLocals = nL ∧ s.vm.findClass own = some m.cls ∧ (∀ w ∈ ax_tbl, w.before args s = true) ∧ va_K G.1 vwCl (ax_tys G) s ∧ (1 ≤ R.frames ∧ 64 ≤ R.locals) ∧ (ini = true → meth.name = "<init>") ∧ meth.sig.returnType = ret ∧ ax_X E base z s
def ax_Wt (nL : Nat) (p : Program) (l : Launch) (e : Env) (R : Room) (s : State) (m : MethodId) (args : Array Value) (below : List Frame) (meth : Method) (c : Code) (G : ax_G) (base : Nat) (z : ax_Z) (Q : State → Prop) (h0 : ax_H) (S : ax_S) : Prop :=
  ∀ (H : Heap) (locs : List Loc) (Ls : Array Slot) (cells slots : Nat), ax_ok G base z.1 S.2.2.2 H → ax_loc z nL Ls S.2.1 → va_S (fun q => base ≤ q) s.heap H locs → cells + h0.1.length = S.2.2.2.1.length → slots + ax_slt h0 = ax_slt S.2.2.2 → W p l e R s m args below meth c H locs cells slots Q (F0 m S.1 Ls (S.2.2.1.map (ax_rv z)))
def ax_rc (rt : Option FieldType) (cc : ByteArray) (pc : Nat) : Option Value → Prop
  | some (.int v) => decode cc pc = .ok (.ireturn, 1) ∧ ∃ ty, rt = some ty ∧ narrow ty (.int v) = .int v
  | some (.long _) => decode cc pc = .ok (.lreturn, 1) ∧ rt = some .long
  | some (.ref _) => decode cc pc = .ok (.areturn, 1) ∧ ∃ ty, rt = some ty ∧ ((∃ n, ty = .object n) ∨ ∃ t, ty = .array t)
  | none => decode cc pc = .ok (.return_, 1) ∧ rt = none
  | _ => False
def ax_Ho (cc : ByteArray) (ret : Option FieldType) (p : Program) (l : Launch) (e : Env) (R : Room) (s : State) (m : MethodId) (args : Array Value) (below : List Frame) (meth : Method) (c : Code) (G : ax_G) (base : Nat) (z : ax_Z) (Q : State → Prop) (h0 : ax_H) (r : Option Value) (h : ax_H) : Prop :=
  ∀ (pc : Nat) (H : Heap) (locs : List Loc) (Ls : Array Slot) (cells slots : Nat), ax_ok G base z.1 h H → va_S (fun q => base ≤ q) s.heap H locs → cells + h0.1.length = h.1.length → slots + ax_slt h0 = ax_slt h → ax_rc ret cc pc r → W p l e R s m args below meth c H locs cells slots Q (F0 m pc Ls (r.toList.map (ax_rv z)))
def ax_Pc (G : ax_G) (base : Nat) (z : ax_Z) (E : ax_E) (as : List Value) (h : ax_H) : Array Value → State → Prop := fun v U => v = (as.map (ax_rv z)).toArray ∧ ax_ok G base z.1 h U.heap ∧ va_K G.1 vwCl (ax_tys G) U ∧ ax_X E base z U ∧ ax_N U
def ax_Qc (G : ax_G) (base : Nat) (z : ax_Z) (r : Option Value) (h : ax_H) : Array Value → State → Outcome → State → Prop := fun _ st o t => o = .returned (r.map (ax_rv z)) ∧ ax_ok G base z.1 h t.heap ∧ va_F (fun q => base ≤ q) st t
def ax_wsm (mt : ax_M) : List Cond := [Cond.code mt.1 mt.2.1 mt.2.2.1 mt.2.2.2]
def ax_CalOk (ME : Nat → Option ax_M) (l : Launch) (R : Room) (E : ax_E) (cal : ax_Cal) : Prop := ∀ (y : Nat) (mt : ax_M), ME y = some mt → ∀ (as : List Value) (h : ax_H) (r : Option Value) (h' : ax_H), cal y as h = some (r, h') →
  (h.1.length ≤ h'.1.length ∧ ax_slt h ≤ ax_slt h') ∧ ∀ (G : ax_G) (base : Nat) (z : ax_Z), ∃ rm : Room, rm.cells = h'.1.length - h.1.length ∧ rm.slots = ax_slt h' - ax_slt h ∧ (rm.frames + 1 ≤ R.frames ∧ 8 + (mt.2.2.1 + 11) + rm.locals ≤ R.locals) ∧
    Met l mt.1 (ax_wsm mt) rm (ax_Pc G base z E as h) (ax_Qc G base z r h') (h'.1.length - h.1.length) (ax_slt h' - ax_slt h) (fun q => base ≤ q)
def ax_Mono (cal : ax_Cal) : Prop := ∀ (y : Nat) (as : List Value) (h : ax_H) (r : Option Value) (h' : ax_H), cal y as h = some (r, h') → h.1.length ≤ h'.1.length ∧ ax_slt h ≤ ax_slt h'
def ax_mo (h : ax_H) (o : ax_S ⊕ ax_R) : Prop := match o with
  | .inl S' => h.1.length ≤ S'.2.2.2.1.length ∧ ax_slt h ≤ ax_slt S'.2.2.2
  | .inr q => q.2 = h
def ax_Sim (ME : Nat → Option ax_M) (ini : Bool) (own : String) (cc : ByteArray) (nL : Nat) (ret : Option FieldType) (pc : Nat) (act : ax_Act) : Prop :=
  ∀ (E : ax_E) (cal : ax_Cal) (ls st : List Value) (h : ax_H) (o : ax_S ⊕ ax_R), act E cal (pc, ls, st, h) = some o → (ax_Mono cal → ax_mo h o) ∧
  ∀ (p : Program) (l : Launch) (e : Env) (R : Room) (s : State) (m : MethodId) (args : Array Value) (below : List Frame) (meth : Method) (c : Code) (G : ax_G) (base : Nat) (z : ax_Z) (Q : State → Prop) (h0 : ax_H),
    ax_Fr ini own cc nL ret p R s m args meth c G base z E → ax_CalOk ME l R E cal → match o with
    | .inl S' => S'.2.2.2.1.length ≤ h0.1.length + R.cells → ax_slt S'.2.2.2 ≤ ax_slt h0 + R.slots → h0.1.length ≤ h.1.length → ax_slt h0 ≤ ax_slt h → ax_Wt nL p l e R s m args below meth c G base z Q h0 S' → ax_Wt nL p l e R s m args below meth c G base z Q h0 (pc, ls, st, h)
    | .inr q => ax_Ho cc ret p l e R s m args below meth c G base z Q h0 q.1 h → ax_Wt nL p l e R s m args below meth c G base z Q h0 (pc, ls, st, h)
section SM
variable {ME : Nat → Option ax_M} {ini : Bool} {own : String} {cc : ByteArray} {nL : Nat} {ret : Option FieldType} {pc : Nat}
/-- a step that changes the stack alone -/
theorem sm_pure {act : ax_Act} (hA : ∀ (E : ax_E) (cal : ax_Cal) (ls st : List Value) (h : ax_H) (o : ax_S ⊕ ax_R), act E cal (pc, ls, st, h) = some o → ∃ (n : Nat) (st' : List Value), o = .inl (n, ls, st', h) ∧
    ∀ (p : Program) (l : Launch) (e : Env) (R : Room) (s : State) (m : MethodId) (args : Array Value) (below : List Frame) (meth : Method) (c : Code) (G : ax_G) (base : Nat) (z : ax_Z) (Q : State → Prop), ax_Fr ini own cc nL ret p R s m args meth c G base z E → ∀ (H : Heap) (locs : List Loc) (Ls : Array Slot) (cells slots : Nat), ax_ok G base z.1 h H → ax_loc z nL Ls ls → va_S (fun q => base ≤ q) s.heap H locs →
      W p l e R s m args below meth c H locs cells slots Q (F0 m n Ls (st'.map (ax_rv z))) → W p l e R s m args below meth c H locs cells slots Q (F0 m pc Ls (st.map (ax_rv z)))) : ax_Sim ME ini own cc nL ret pc act := by
  intro E cal ls st h o ho
  obtain ⟨n, st', rfl, k⟩ := hA E cal ls st h o ho
  exact ⟨fun _ => ⟨Nat.le_refl _, Nat.le_refl _⟩, fun p l e R s m args below meth c G base z Q h0 F hC _ _ _ _ w H locs Ls cells slots hk hl hS hc hs => k p l e R s m args below meth c G base z Q F H locs Ls cells slots hk hl hS (w H locs Ls cells slots hk hl hS hc hs)⟩

theorem sm_iconst {k : Int} {v : Int32} {n : Nat} (hd : decode cc pc = .ok (.iconst k, 1)) (hv : Int32.ofInt k = v) (hn : n = pc + 1) : ax_Sim ME ini own cc nL ret pc (a_iconst v n) := by
  subst hn
  refine sm_pure (fun E cal ls st h o ho => ?_)
  cases ho
  exact ⟨_, _, rfl, fun p l e R s m args below meth c G base z Q F H locs Ls cells slots hk hl hS w => lv_iconst F.1 F.2.1 hd hv w⟩
theorem sm_bipush {k : Int} {v : Int32} {n : Nat} (hd : decode cc pc = .ok (.bipush k, 2)) (hv : (Int8.ofInt k).toInt32 = v) (hn : n = pc + 2) : ax_Sim ME ini own cc nL ret pc (a_iconst v n) := by
  subst hn
  refine sm_pure (fun E cal ls st h o ho => ?_)
  cases ho
  exact ⟨_, _, rfl, fun p l e R s m args below meth c G base z Q F H locs Ls cells slots hk hl hS w => lv_bipush F.1 F.2.1 hd hv w⟩
theorem sm_sipush {k : Int} {v : Int32} {n : Nat} (hd : decode cc pc = .ok (.sipush k, 3)) (hv : (Int16.ofInt k).toInt32 = v) (hn : n = pc + 3) : ax_Sim ME ini own cc nL ret pc (a_iconst v n) := by
  subst hn
  refine sm_pure (fun E cal ls st h o ho => ?_)
  cases ho
  exact ⟨_, _, rfl, fun p l e R s m args below meth c G base z Q F H locs Ls cells slots hk hl hS w => lv_sipush F.1 F.2.1 hd hv w⟩
theorem sm_lconst {k : Fin 2} {v : Int64} {n : Nat} (hd : decode cc pc = .ok (.lconst k, 1)) (hv : Int64.ofNat (k : Nat) = v) (hn : n = pc + 1) : ax_Sim ME ini own cc nL ret pc (a_lconst v n) := by
  subst hn
  refine sm_pure (fun E cal ls st h o ho => ?_)
  cases ho
  exact ⟨_, _, rfl, fun p l e R s m args below meth c G base z Q F H locs Ls cells slots hk hl hS w => lv_lconst F.1 F.2.1 hd hv w⟩
theorem sm_ldc2 {k : Nat} {v : Int64} {n : Nat} (hd : decode cc pc = .ok (.ldc2_w k, 3)) (hw : Cond.constantLong own k v ∈ ax_tbl) (hn : n = pc + 3) : ax_Sim ME ini own cc nL ret pc (a_lconst v n) := by
  subst hn
  refine sm_pure (fun E cal ls st h o ho => ?_)
  cases ho
  exact ⟨_, _, rfl, fun p l e R s m args below meth c G base z Q F H locs Ls cells slots hk hl hS w => lv_ldc2 F.1 F.2.1 F.2.2.2.1 (F.2.2.2.2.1 _ hw) hd w⟩
theorem sm_ldcw {k : Nat} {v : Int32} {n : Nat} (hd : decode cc pc = .ok (.ldc_w k, 3)) (hw : Cond.constant own k v ∈ ax_tbl) (hn : n = pc + 3) : ax_Sim ME ini own cc nL ret pc (a_iconst v n) := by
  subst hn
  refine sm_pure (fun E cal ls st h o ho => ?_)
  cases ho
  exact ⟨_, _, rfl, fun p l e R s m args below meth c G base z Q F H locs Ls cells slots hk hl hS w => lv_ldcw F.1 F.2.1 F.2.2.2.1 (F.2.2.2.2.1 _ hw) hd w⟩
theorem sm_ldcs {n : Nat} (hd : decode cc pc = .ok (.ldc 68, 2)) (ho : own = "ShadowTailor") (hn : n = pc + 2) : ax_Sim ME ini own cc nL ret pc (a_ldcs n) := by
  subst hn
  subst ho
  refine sm_pure (fun E cal ls st h o ho => ?_)
  cases ho
  exact ⟨_, _, rfl, fun p l e R s m args below meth c G base z Q F H locs Ls cells slots hk hl hS w => by
    obtain ⟨adV, g1, -⟩ := F.2.2.2.2.2.2.2.2.2.2.2.2
    exact va_ldcS F.1 F.2.1 F.2.2.2.1 g1 hd w⟩
theorem sm_iload {i n : Nat} (hd : decode cc pc = .ok (.iload i, 2)) (hn : n = pc + 2) : ax_Sim ME ini own cc nL ret pc (a_iload i n) := by
  subst hn
  refine sm_pure (fun E cal ls st h o ho => ?_)
  simp only [a_iload] at ho
  split at ho
  · rename_i x hx
    cases ho
    exact ⟨_, _, rfl, fun p l e R s m args below meth c G base z Q F H locs Ls cells slots hk hl hS w => lv_iload F.1 F.2.1 hd (ax_loc_ld hl hx (by simp)) w⟩
  · cases ho
theorem sm_iload_n {i n : Nat} {k : Fin 4} (hd : decode cc pc = .ok (.iload_n k, 1)) (hi : (k : Nat) = i) (hn : n = pc + 1) : ax_Sim ME ini own cc nL ret pc (a_iload i n) := by
  subst hn
  refine sm_pure (fun E cal ls st h o ho => ?_)
  simp only [a_iload] at ho
  split at ho
  · rename_i x hx
    cases ho
    exact ⟨_, _, rfl, fun p l e R s m args below meth c G base z Q F H locs Ls cells slots hk hl hS w => lv_iload_n F.1 F.2.1 hd hi (ax_loc_ld hl hx (by simp)) w⟩
  · cases ho
theorem sm_lload {i n : Nat} (hd : decode cc pc = .ok (.lload i, 2)) (hn : n = pc + 2) : ax_Sim ME ini own cc nL ret pc (a_lload i n) := by
  subst hn
  refine sm_pure (fun E cal ls st h o ho => ?_)
  simp only [a_lload] at ho
  split at ho
  · rename_i x hx
    cases ho
    exact ⟨_, _, rfl, fun p l e R s m args below meth c G base z Q F H locs Ls cells slots hk hl hS w => lv_lload F.1 F.2.1 hd (ax_loc_ld hl hx (by simp)) w⟩
  · cases ho
theorem sm_lload_n {i n : Nat} {k : Fin 4} (hd : decode cc pc = .ok (.lload_n k, 1)) (hi : (k : Nat) = i) (hn : n = pc + 1) : ax_Sim ME ini own cc nL ret pc (a_lload i n) := by
  subst hn
  refine sm_pure (fun E cal ls st h o ho => ?_)
  simp only [a_lload] at ho
  split at ho
  · rename_i x hx
    cases ho
    exact ⟨_, _, rfl, fun p l e R s m args below meth c G base z Q F H locs Ls cells slots hk hl hS w => lv_lload_n F.1 F.2.1 hd hi (ax_loc_ld hl hx (by simp)) w⟩
  · cases ho
theorem sm_aload {i n : Nat} (hd : decode cc pc = .ok (.aload i, 2)) (hn : n = pc + 2) : ax_Sim ME ini own cc nL ret pc (a_aload i n) := by
  subst hn
  refine sm_pure (fun E cal ls st h o ho => ?_)
  simp only [a_aload] at ho
  split at ho
  · rename_i x hx
    cases ho
    exact ⟨_, _, rfl, fun p l e R s m args below meth c G base z Q F H locs Ls cells slots hk hl hS w => lv_aload F.1 F.2.1 hd (ax_loc_ld hl hx (by simp)) w⟩
  · rename_i x hx
    cases ho
    exact ⟨_, _, rfl, fun p l e R s m args below meth c G base z Q F H locs Ls cells slots hk hl hS w => lv_aload F.1 F.2.1 hd (ax_loc_ld hl hx (by simp)) w⟩
  · cases ho
theorem sm_aload_n {i n : Nat} {k : Fin 4} (hd : decode cc pc = .ok (.aload_n k, 1)) (hi : (k : Nat) = i) (hn : n = pc + 1) : ax_Sim ME ini own cc nL ret pc (a_aload i n) := by
  subst hn
  refine sm_pure (fun E cal ls st h o ho => ?_)
  simp only [a_aload] at ho
  split at ho
  · rename_i x hx
    cases ho
    exact ⟨_, _, rfl, fun p l e R s m args below meth c G base z Q F H locs Ls cells slots hk hl hS w => lv_aload_n F.1 F.2.1 hd hi (ax_loc_ld hl hx (by simp)) w⟩
  · rename_i x hx
    cases ho
    exact ⟨_, _, rfl, fun p l e R s m args below meth c G base z Q F H locs Ls cells slots hk hl hS w => lv_aload_n F.1 F.2.1 hd hi (ax_loc_ld hl hx (by simp)) w⟩
  · cases ho
theorem sm_istore {i n : Nat} (hd : decode cc pc = .ok (.istore i, 2)) (hL : i < nL) (hn : n = pc + 2) : ax_Sim ME ini own cc nL ret pc (a_istore i n) := by
  subst hn
  intro E cal ls st h o ho
  simp only [a_istore] at ho
  split at ho
  · rename_i x st1 h1 he
    cases he
    split at ho
    · rename_i hk1
      cases ho
      exact ⟨fun _ => ⟨Nat.le_refl _, Nat.le_refl _⟩, fun p l e R s m args below meth c G base z Q h0 F hC _ _ _ _ w H locs Ls cells slots hk hl hS hc hs => lv_istore F.1 F.2.1 hd (ax_lv_has hl) hL rfl (fun Ls' hl' => w H locs Ls' cells slots hk (ax_loc_st1 hl.1 hk1 hl') hS hc hs)⟩
    · cases ho
  · cases ho
theorem sm_istore_n {i n : Nat} {k : Fin 4} (hd : decode cc pc = .ok (.istore_n k, 1)) (hi : (k : Nat) = i) (hL : i < nL) (hn : n = pc + 1) : ax_Sim ME ini own cc nL ret pc (a_istore i n) := by
  subst hn
  intro E cal ls st h o ho
  simp only [a_istore] at ho
  split at ho
  · rename_i x st1 h1 he
    cases he
    split at ho
    · rename_i hk1
      cases ho
      exact ⟨fun _ => ⟨Nat.le_refl _, Nat.le_refl _⟩, fun p l e R s m args below meth c G base z Q h0 F hC _ _ _ _ w H locs Ls cells slots hk hl hS hc hs => lv_istore_n F.1 F.2.1 hd hi (ax_lv_has hl) hL rfl (fun Ls' hl' => w H locs Ls' cells slots hk (ax_loc_st1 hl.1 hk1 hl') hS hc hs)⟩
    · cases ho
  · cases ho
theorem sm_astore {i n : Nat} (hd : decode cc pc = .ok (.astore i, 2)) (hL : i < nL) (hn : n = pc + 2) : ax_Sim ME ini own cc nL ret pc (a_astore i n) := by
  subst hn
  intro E cal ls st h o ho
  simp only [a_astore] at ho
  split at ho
  · rename_i x st1 h1 he
    cases he
    split at ho
    · rename_i hk1
      cases ho
      exact ⟨fun _ => ⟨Nat.le_refl _, Nat.le_refl _⟩, fun p l e R s m args below meth c G base z Q h0 F hC _ _ _ _ w H locs Ls cells slots hk hl hS hc hs => lv_astore F.1 F.2.1 hd (ax_lv_has hl) hL rfl (fun Ls' hl' => w H locs Ls' cells slots hk (ax_loc_st1 hl.1 hk1 hl') hS hc hs)⟩
    · cases ho
  · cases ho
theorem sm_astore_n {i n : Nat} {k : Fin 4} (hd : decode cc pc = .ok (.astore_n k, 1)) (hi : (k : Nat) = i) (hL : i < nL) (hn : n = pc + 1) : ax_Sim ME ini own cc nL ret pc (a_astore i n) := by
  subst hn
  intro E cal ls st h o ho
  simp only [a_astore] at ho
  split at ho
  · rename_i x st1 h1 he
    cases he
    split at ho
    · rename_i hk1
      cases ho
      exact ⟨fun _ => ⟨Nat.le_refl _, Nat.le_refl _⟩, fun p l e R s m args below meth c G base z Q h0 F hC _ _ _ _ w H locs Ls cells slots hk hl hS hc hs => lv_astore_n F.1 F.2.1 hd hi (ax_lv_has hl) hL rfl (fun Ls' hl' => w H locs Ls' cells slots hk (ax_loc_st1 hl.1 hk1 hl') hS hc hs)⟩
    · cases ho
  · cases ho
theorem sm_lstore {i n : Nat} (hd : decode cc pc = .ok (.lstore i, 2)) (hL : i + 1 < nL) (hn : n = pc + 2) : ax_Sim ME ini own cc nL ret pc (a_lstore i n) := by
  subst hn
  intro E cal ls st h o ho
  simp only [a_lstore] at ho
  split at ho
  · rename_i x st1 h1 he
    cases he
    split at ho
    · rename_i hk1
      cases ho
      exact ⟨fun _ => ⟨Nat.le_refl _, Nat.le_refl _⟩, fun p l e R s m args below meth c G base z Q h0 F hC _ _ _ _ w H locs Ls cells slots hk hl hS hc hs => lv_lstore F.1 F.2.1 hd (ax_lv_has hl) hL rfl (fun Ls' hl' => w H locs Ls' cells slots hk (ax_loc_st2 hl.1 hk1 hl') hS hc hs)⟩
    · cases ho
  · cases ho
theorem sm_lstore_n {i n : Nat} {k : Fin 4} (hd : decode cc pc = .ok (.lstore_n k, 1)) (hi : (k : Nat) = i) (hL : i + 1 < nL) (hn : n = pc + 1) : ax_Sim ME ini own cc nL ret pc (a_lstore i n) := by
  subst hn
  intro E cal ls st h o ho
  simp only [a_lstore] at ho
  split at ho
  · rename_i x st1 h1 he
    cases he
    split at ho
    · rename_i hk1
      cases ho
      exact ⟨fun _ => ⟨Nat.le_refl _, Nat.le_refl _⟩, fun p l e R s m args below meth c G base z Q h0 F hC _ _ _ _ w H locs Ls cells slots hk hl hS hc hs => lv_lstore_n F.1 F.2.1 hd hi (ax_lv_has hl) hL rfl (fun Ls' hl' => w H locs Ls' cells slots hk (ax_loc_st2 hl.1 hk1 hl') hS hc hs)⟩
    · cases ho
  · cases ho
theorem sm_iinc {i n : Nat} {k : Int} {v : Int32} (hd : decode cc pc = .ok (.iinc i k, 3)) (hv : Int32.ofInt k = v) (hL : i < nL) (hn : n = pc + 3) : ax_Sim ME ini own cc nL ret pc (a_iinc i v n) := by
  subst hn
  subst hv
  intro E cal ls st h o ho
  simp only [a_iinc] at ho
  split at ho
  · rename_i x hx
    split at ho
    rename_i hk1
    cases ho
    refine ⟨fun _ => ⟨Nat.le_refl _, Nat.le_refl _⟩, fun p l e R s m args below meth c G base z Q h0 F hC _ _ _ _ w H locs Ls cells slots hk hl hS hc hs => ?_⟩
    rw [ax_nth_eq] at hx
    obtain ⟨k9, h9⟩ := List.getElem?_of_mem (ax_lv_mem (z := z) hx (by simp))
    exact lv_iinc F.1 F.2.1 hd (ax_lv_has hl) h9 rfl hL rfl (fun Ls' hl' => w H locs Ls' cells slots hk (ax_loc_st1 (v := .int (x + Int32.ofInt k)) hl.1 hk1 hl') hS hc hs)
    cases ho
  · cases ho
theorem sm_dup {n : Nat} (hd : decode cc pc = .ok (.dup, 1)) (hn : n = pc + 1) : ax_Sim ME ini own cc nL ret pc (a_dup n) := by
  subst hn
  refine sm_pure (fun E cal ls st h o ho => ?_)
  simp only [a_dup] at ho
  split at ho
  · rename_i v st1 h1 he
    cases he
    split at ho
    · rename_i hc
      cases ho
      exact ⟨_, _, rfl, fun p l e R s m args below meth c G base z Q F H locs Ls cells slots hk hl hS w => lv_dup F.1 F.2.1 hd (by rw [ax_rv_cat]; exact hc) w⟩
    · cases ho
  · cases ho
theorem sm_pop {n : Nat} (hd : decode cc pc = .ok (.pop, 1)) (hn : n = pc + 1) : ax_Sim ME ini own cc nL ret pc (a_pop n) := by
  subst hn
  refine sm_pure (fun E cal ls st h o ho => ?_)
  simp only [a_pop] at ho
  split at ho
  · rename_i v st1 h1 he
    cases he
    split at ho
    · rename_i hc
      cases ho
      exact ⟨_, _, rfl, fun p l e R s m args below meth c G base z Q F H locs Ls cells slots hk hl hS w => lv_pop F.1 F.2.1 hd (by rw [ax_rv_cat]; exact hc) w⟩
    · cases ho
  · cases ho
theorem sm_dup2 {n : Nat} (hd : decode cc pc = .ok (.dup2, 1)) (hn : n = pc + 1) : ax_Sim ME ini own cc nL ret pc (a_dup2 n) := by
  subst hn
  refine sm_pure (fun E cal ls st h o ho => ?_)
  simp only [a_dup2] at ho
  split at ho
  · rename_i v w9 st1 h1 he
    cases he
    split at ho
    · rename_i hc
      cases ho
      exact ⟨_, _, rfl, fun p l e R s m args below meth c G base z Q F H locs Ls cells slots hk hl hS w => lv_dup2_11 F.1 F.2.1 hd (by rw [ax_rv_cat]; exact hc.1) (by rw [ax_rv_cat]; exact hc.2) w⟩
    · cases ho
  · cases ho
theorem sm_iadd {n : Nat} (hd : decode cc pc = .ok (.iadd, 1)) (hn : n = pc + 1) : ax_Sim ME ini own cc nL ret pc (a_iadd n) := by
  subst hn
  refine sm_pure (fun E cal ls st h o ho => ?_)
  simp only [a_iadd] at ho
  split at ho
  · rename_i y x st1 h1 he
    cases he
    cases ho
    exact ⟨_, _, rfl, fun p l e R s m args below meth c G base z Q F H locs Ls cells slots hk hl hS w => lv_iadd F.1 F.2.1 hd w⟩
  · cases ho
theorem sm_isub {n : Nat} (hd : decode cc pc = .ok (.isub, 1)) (hn : n = pc + 1) : ax_Sim ME ini own cc nL ret pc (a_isub n) := by
  subst hn
  refine sm_pure (fun E cal ls st h o ho => ?_)
  simp only [a_isub] at ho
  split at ho
  · rename_i y x st1 h1 he
    cases he
    cases ho
    exact ⟨_, _, rfl, fun p l e R s m args below meth c G base z Q F H locs Ls cells slots hk hl hS w => lv_isub F.1 F.2.1 hd w⟩
  · cases ho
theorem sm_imul {n : Nat} (hd : decode cc pc = .ok (.imul, 1)) (hn : n = pc + 1) : ax_Sim ME ini own cc nL ret pc (a_imul n) := by
  subst hn
  refine sm_pure (fun E cal ls st h o ho => ?_)
  simp only [a_imul] at ho
  split at ho
  · rename_i y x st1 h1 he
    cases he
    cases ho
    exact ⟨_, _, rfl, fun p l e R s m args below meth c G base z Q F H locs Ls cells slots hk hl hS w => lv_imul F.1 F.2.1 hd w⟩
  · cases ho
theorem sm_iand {n : Nat} (hd : decode cc pc = .ok (.iand, 1)) (hn : n = pc + 1) : ax_Sim ME ini own cc nL ret pc (a_iand n) := by
  subst hn
  refine sm_pure (fun E cal ls st h o ho => ?_)
  simp only [a_iand] at ho
  split at ho
  · rename_i y x st1 h1 he
    cases he
    cases ho
    exact ⟨_, _, rfl, fun p l e R s m args below meth c G base z Q F H locs Ls cells slots hk hl hS w => lv_iand F.1 F.2.1 hd w⟩
  · cases ho
theorem sm_ior {n : Nat} (hd : decode cc pc = .ok (.ior, 1)) (hn : n = pc + 1) : ax_Sim ME ini own cc nL ret pc (a_ior n) := by
  subst hn
  refine sm_pure (fun E cal ls st h o ho => ?_)
  simp only [a_ior] at ho
  split at ho
  · rename_i y x st1 h1 he
    cases he
    cases ho
    exact ⟨_, _, rfl, fun p l e R s m args below meth c G base z Q F H locs Ls cells slots hk hl hS w => lv_ior F.1 F.2.1 hd w⟩
  · cases ho
theorem sm_ixor {n : Nat} (hd : decode cc pc = .ok (.ixor, 1)) (hn : n = pc + 1) : ax_Sim ME ini own cc nL ret pc (a_ixor n) := by
  subst hn
  refine sm_pure (fun E cal ls st h o ho => ?_)
  simp only [a_ixor] at ho
  split at ho
  · rename_i y x st1 h1 he
    cases he
    cases ho
    exact ⟨_, _, rfl, fun p l e R s m args below meth c G base z Q F H locs Ls cells slots hk hl hS w => lv_ixor F.1 F.2.1 hd w⟩
  · cases ho
theorem sm_ishl {n : Nat} (hd : decode cc pc = .ok (.ishl, 1)) (hn : n = pc + 1) : ax_Sim ME ini own cc nL ret pc (a_ishl n) := by
  subst hn
  refine sm_pure (fun E cal ls st h o ho => ?_)
  simp only [a_ishl] at ho
  split at ho
  · rename_i y x st1 h1 he
    cases he
    cases ho
    exact ⟨_, _, rfl, fun p l e R s m args below meth c G base z Q F H locs Ls cells slots hk hl hS w => lv_ishl F.1 F.2.1 hd w⟩
  · cases ho
theorem sm_ishr {n : Nat} (hd : decode cc pc = .ok (.ishr, 1)) (hn : n = pc + 1) : ax_Sim ME ini own cc nL ret pc (a_ishr n) := by
  subst hn
  refine sm_pure (fun E cal ls st h o ho => ?_)
  simp only [a_ishr] at ho
  split at ho
  · rename_i y x st1 h1 he
    cases he
    cases ho
    exact ⟨_, _, rfl, fun p l e R s m args below meth c G base z Q F H locs Ls cells slots hk hl hS w => lv_ishr F.1 F.2.1 hd w⟩
  · cases ho
theorem sm_ladd {n : Nat} (hd : decode cc pc = .ok (.ladd, 1)) (hn : n = pc + 1) : ax_Sim ME ini own cc nL ret pc (a_ladd n) := by
  subst hn
  refine sm_pure (fun E cal ls st h o ho => ?_)
  simp only [a_ladd] at ho
  split at ho
  · rename_i y x st1 h1 he
    cases he
    cases ho
    exact ⟨_, _, rfl, fun p l e R s m args below meth c G base z Q F H locs Ls cells slots hk hl hS w => lv_ladd F.1 F.2.1 hd w⟩
  · cases ho
theorem sm_lmul {n : Nat} (hd : decode cc pc = .ok (.lmul, 1)) (hn : n = pc + 1) : ax_Sim ME ini own cc nL ret pc (a_lmul n) := by
  subst hn
  refine sm_pure (fun E cal ls st h o ho => ?_)
  simp only [a_lmul] at ho
  split at ho
  · rename_i y x st1 h1 he
    cases he
    cases ho
    exact ⟨_, _, rfl, fun p l e R s m args below meth c G base z Q F H locs Ls cells slots hk hl hS w => lv_lmul F.1 F.2.1 hd w⟩
  · cases ho
theorem sm_lcmp {n : Nat} (hd : decode cc pc = .ok (.lcmp, 1)) (hn : n = pc + 1) : ax_Sim ME ini own cc nL ret pc (a_lcmp n) := by
  subst hn
  refine sm_pure (fun E cal ls st h o ho => ?_)
  simp only [a_lcmp] at ho
  split at ho
  · rename_i y x st1 h1 he
    cases he
    cases ho
    exact ⟨_, _, rfl, fun p l e R s m args below meth c G base z Q F H locs Ls cells slots hk hl hS w => W.lcmp F.1 F.2.1 hd w⟩
  · cases ho
theorem sm_iushr {n : Nat} (hd : decode cc pc = .ok (.iushr, 1)) (hn : n = pc + 1) : ax_Sim ME ini own cc nL ret pc (a_iushr n) := by
  subst hn
  refine sm_pure (fun E cal ls st h o ho => ?_)
  simp only [a_iushr] at ho
  split at ho
  · rename_i y x st1 h1 he
    cases he
    cases ho
    exact ⟨_, _, rfl, fun p l e R s m args below meth c G base z Q F H locs Ls cells slots hk hl hS w => lv_iushr F.1 F.2.1 hd rfl w⟩
  · cases ho
theorem sm_idiv {n : Nat} (hd : decode cc pc = .ok (.idiv, 1)) (hn : n = pc + 1) : ax_Sim ME ini own cc nL ret pc (a_idiv n) := by
  subst hn
  refine sm_pure (fun E cal ls st h o ho => ?_)
  simp only [a_idiv] at ho
  split at ho
  · rename_i y x st1 h1 he
    cases he
    split at ho
    · cases ho
    · rename_i hne
      cases ho
      exact ⟨_, _, rfl, fun p l e R s m args below meth c G base z Q F H locs Ls cells slots hk hl hS w => lv_idiv F.1 F.2.1 hd hne w⟩
  · cases ho
theorem sm_irem {n : Nat} (hd : decode cc pc = .ok (.irem, 1)) (hn : n = pc + 1) : ax_Sim ME ini own cc nL ret pc (a_irem n) := by
  subst hn
  refine sm_pure (fun E cal ls st h o ho => ?_)
  simp only [a_irem] at ho
  split at ho
  · rename_i y x st1 h1 he
    cases he
    split at ho
    · cases ho
    · rename_i hne
      cases ho
      exact ⟨_, _, rfl, fun p l e R s m args below meth c G base z Q F H locs Ls cells slots hk hl hS w => lv_irem F.1 F.2.1 hd hne w⟩
  · cases ho
theorem sm_ldiv {n : Nat} (hd : decode cc pc = .ok (.ldiv, 1)) (hn : n = pc + 1) : ax_Sim ME ini own cc nL ret pc (a_ldiv n) := by
  subst hn
  refine sm_pure (fun E cal ls st h o ho => ?_)
  simp only [a_ldiv] at ho
  split at ho
  · rename_i y x st1 h1 he
    cases he
    split at ho
    · cases ho
    · rename_i hne
      cases ho
      exact ⟨_, _, rfl, fun p l e R s m args below meth c G base z Q F H locs Ls cells slots hk hl hS w => lv_ldiv F.1 F.2.1 hd hne w⟩
  · cases ho
theorem sm_lrem {n : Nat} (hd : decode cc pc = .ok (.lrem, 1)) (hn : n = pc + 1) : ax_Sim ME ini own cc nL ret pc (a_lrem n) := by
  subst hn
  refine sm_pure (fun E cal ls st h o ho => ?_)
  simp only [a_lrem] at ho
  split at ho
  · rename_i y x st1 h1 he
    cases he
    split at ho
    · cases ho
    · rename_i hne
      cases ho
      exact ⟨_, _, rfl, fun p l e R s m args below meth c G base z Q F H locs Ls cells slots hk hl hS w => lv_lrem F.1 F.2.1 hd hne w⟩
  · cases ho
theorem sm_ineg {n : Nat} (hd : decode cc pc = .ok (.ineg, 1)) (hn : n = pc + 1) : ax_Sim ME ini own cc nL ret pc (a_ineg n) := by
  subst hn
  refine sm_pure (fun E cal ls st h o ho => ?_)
  simp only [a_ineg] at ho
  split at ho
  · rename_i x st1 h1 he
    cases he
    cases ho
    exact ⟨_, _, rfl, fun p l e R s m args below meth c G base z Q F H locs Ls cells slots hk hl hS w => lv_ineg F.1 F.2.1 hd w⟩
  · cases ho
theorem sm_i2l {n : Nat} (hd : decode cc pc = .ok (.i2l, 1)) (hn : n = pc + 1) : ax_Sim ME ini own cc nL ret pc (a_i2l n) := by
  subst hn
  refine sm_pure (fun E cal ls st h o ho => ?_)
  simp only [a_i2l] at ho
  split at ho
  · rename_i x st1 h1 he
    cases he
    cases ho
    exact ⟨_, _, rfl, fun p l e R s m args below meth c G base z Q F H locs Ls cells slots hk hl hS w => lv_i2l F.1 F.2.1 hd rfl w⟩
  · cases ho
theorem sm_l2i {n : Nat} (hd : decode cc pc = .ok (.l2i, 1)) (hn : n = pc + 1) : ax_Sim ME ini own cc nL ret pc (a_l2i n) := by
  subst hn
  refine sm_pure (fun E cal ls st h o ho => ?_)
  simp only [a_l2i] at ho
  split at ho
  · rename_i x st1 h1 he
    cases he
    cases ho
    exact ⟨_, _, rfl, fun p l e R s m args below meth c G base z Q F H locs Ls cells slots hk hl hS w => lv_l2i F.1 F.2.1 hd rfl w⟩
  · cases ho
theorem sm_i2c {n : Nat} (hd : decode cc pc = .ok (.i2c, 1)) (hn : n = pc + 1) : ax_Sim ME ini own cc nL ret pc (a_i2c n) := by
  subst hn
  refine sm_pure (fun E cal ls st h o ho => ?_)
  simp only [a_i2c] at ho
  split at ho
  · rename_i x st1 h1 he
    cases he
    cases ho
    exact ⟨_, _, rfl, fun p l e R s m args below meth c G base z Q F H locs Ls cells slots hk hl hS w => lv_i2c F.1 F.2.1 hd rfl w⟩
  · cases ho
theorem sm_goto {t : Nat} {off : Int} (hd : decode cc pc = .ok (.goto off, 3)) (ht : (pc : Int) + off = (t : Int)) : ax_Sim ME ini own cc nL ret pc (a_goto t) := by
  refine sm_pure (fun E cal ls st h o ho => ?_)
  cases ho
  exact ⟨_, _, rfl, fun p l e R s m args below meth c G base z Q F H locs Ls cells slots hk hl hS w => lv_goto F.1 F.2.1 hd ht w⟩
theorem sm_ceq {t n : Nat} {off : Int} (hd : decode cc pc = .ok (.if_icmp .eq off, 3)) (ht : (pc : Int) + off = (t : Int)) (hn : n = pc + 3) : ax_Sim ME ini own cc nL ret pc (a_ceq t n) := by
  subst hn
  refine sm_pure (fun E cal ls st h o ho => ?_)
  simp only [a_ceq] at ho
  split at ho
  · rename_i y x st1 h1 he
    cases he
    split at ho
    · rename_i hc
      cases ho
      exact ⟨_, _, rfl, fun p l e R s m args below meth c G base z Q F H locs Ls cells slots hk hl hS w => lv_icmp_eq F.1 F.2.1 hd ht (fun _ => w) (fun q => absurd hc q)⟩
    · rename_i hc
      cases ho
      exact ⟨_, _, rfl, fun p l e R s m args below meth c G base z Q F H locs Ls cells slots hk hl hS w => lv_icmp_eq F.1 F.2.1 hd ht (fun q => absurd q hc) (fun _ => w)⟩
  · cases ho
theorem sm_zeq {t n : Nat} {off : Int} (hd : decode cc pc = .ok (.ifCond .eq off, 3)) (ht : (pc : Int) + off = (t : Int)) (hn : n = pc + 3) : ax_Sim ME ini own cc nL ret pc (a_zeq t n) := by
  subst hn
  refine sm_pure (fun E cal ls st h o ho => ?_)
  simp only [a_zeq] at ho
  split at ho
  · rename_i x st1 h1 he
    cases he
    split at ho
    · rename_i hc
      cases ho
      exact ⟨_, _, rfl, fun p l e R s m args below meth c G base z Q F H locs Ls cells slots hk hl hS w => lv_if_eq F.1 F.2.1 hd ht (fun _ => w) (fun q => absurd hc q)⟩
    · rename_i hc
      cases ho
      exact ⟨_, _, rfl, fun p l e R s m args below meth c G base z Q F H locs Ls cells slots hk hl hS w => lv_if_eq F.1 F.2.1 hd ht (fun q => absurd q hc) (fun _ => w)⟩
  · cases ho
theorem sm_cne {t n : Nat} {off : Int} (hd : decode cc pc = .ok (.if_icmp .ne off, 3)) (ht : (pc : Int) + off = (t : Int)) (hn : n = pc + 3) : ax_Sim ME ini own cc nL ret pc (a_cne t n) := by
  subst hn
  refine sm_pure (fun E cal ls st h o ho => ?_)
  simp only [a_cne] at ho
  split at ho
  · rename_i y x st1 h1 he
    cases he
    split at ho
    · rename_i hc
      cases ho
      exact ⟨_, _, rfl, fun p l e R s m args below meth c G base z Q F H locs Ls cells slots hk hl hS w => lv_icmp_ne F.1 F.2.1 hd ht (fun q => absurd hc q) (fun _ => w)⟩
    · rename_i hc
      cases ho
      exact ⟨_, _, rfl, fun p l e R s m args below meth c G base z Q F H locs Ls cells slots hk hl hS w => lv_icmp_ne F.1 F.2.1 hd ht (fun _ => w) (fun q => absurd q hc)⟩
  · cases ho
theorem sm_zne {t n : Nat} {off : Int} (hd : decode cc pc = .ok (.ifCond .ne off, 3)) (ht : (pc : Int) + off = (t : Int)) (hn : n = pc + 3) : ax_Sim ME ini own cc nL ret pc (a_zne t n) := by
  subst hn
  refine sm_pure (fun E cal ls st h o ho => ?_)
  simp only [a_zne] at ho
  split at ho
  · rename_i x st1 h1 he
    cases he
    split at ho
    · rename_i hc
      cases ho
      exact ⟨_, _, rfl, fun p l e R s m args below meth c G base z Q F H locs Ls cells slots hk hl hS w => lv_if_ne F.1 F.2.1 hd ht (fun q => absurd hc q) (fun _ => w)⟩
    · rename_i hc
      cases ho
      exact ⟨_, _, rfl, fun p l e R s m args below meth c G base z Q F H locs Ls cells slots hk hl hS w => lv_if_ne F.1 F.2.1 hd ht (fun _ => w) (fun q => absurd q hc)⟩
  · cases ho
theorem sm_clt {t n : Nat} {off : Int} (hd : decode cc pc = .ok (.if_icmp .lt off, 3)) (ht : (pc : Int) + off = (t : Int)) (hn : n = pc + 3) : ax_Sim ME ini own cc nL ret pc (a_clt t n) := by
  subst hn
  refine sm_pure (fun E cal ls st h o ho => ?_)
  simp only [a_clt] at ho
  split at ho
  · rename_i y x st1 h1 he
    cases he
    split at ho
    · rename_i hc
      cases ho
      exact ⟨_, _, rfl, fun p l e R s m args below meth c G base z Q F H locs Ls cells slots hk hl hS w => lv_icmp_lt F.1 F.2.1 hd ht (fun _ => w) (fun q => absurd hc q)⟩
    · rename_i hc
      cases ho
      exact ⟨_, _, rfl, fun p l e R s m args below meth c G base z Q F H locs Ls cells slots hk hl hS w => lv_icmp_lt F.1 F.2.1 hd ht (fun q => absurd q hc) (fun _ => w)⟩
  · cases ho
theorem sm_zlt {t n : Nat} {off : Int} (hd : decode cc pc = .ok (.ifCond .lt off, 3)) (ht : (pc : Int) + off = (t : Int)) (hn : n = pc + 3) : ax_Sim ME ini own cc nL ret pc (a_zlt t n) := by
  subst hn
  refine sm_pure (fun E cal ls st h o ho => ?_)
  simp only [a_zlt] at ho
  split at ho
  · rename_i x st1 h1 he
    cases he
    split at ho
    · rename_i hc
      cases ho
      exact ⟨_, _, rfl, fun p l e R s m args below meth c G base z Q F H locs Ls cells slots hk hl hS w => lv_if_lt F.1 F.2.1 hd ht (fun _ => w) (fun q => absurd hc q)⟩
    · rename_i hc
      cases ho
      exact ⟨_, _, rfl, fun p l e R s m args below meth c G base z Q F H locs Ls cells slots hk hl hS w => lv_if_lt F.1 F.2.1 hd ht (fun q => absurd q hc) (fun _ => w)⟩
  · cases ho
theorem sm_cge {t n : Nat} {off : Int} (hd : decode cc pc = .ok (.if_icmp .ge off, 3)) (ht : (pc : Int) + off = (t : Int)) (hn : n = pc + 3) : ax_Sim ME ini own cc nL ret pc (a_cge t n) := by
  subst hn
  refine sm_pure (fun E cal ls st h o ho => ?_)
  simp only [a_cge] at ho
  split at ho
  · rename_i y x st1 h1 he
    cases he
    split at ho
    · rename_i hc
      cases ho
      exact ⟨_, _, rfl, fun p l e R s m args below meth c G base z Q F H locs Ls cells slots hk hl hS w => lv_icmp_ge F.1 F.2.1 hd ht (fun _ => w) (fun q => absurd hc q)⟩
    · rename_i hc
      cases ho
      exact ⟨_, _, rfl, fun p l e R s m args below meth c G base z Q F H locs Ls cells slots hk hl hS w => lv_icmp_ge F.1 F.2.1 hd ht (fun q => absurd q hc) (fun _ => w)⟩
  · cases ho
theorem sm_zge {t n : Nat} {off : Int} (hd : decode cc pc = .ok (.ifCond .ge off, 3)) (ht : (pc : Int) + off = (t : Int)) (hn : n = pc + 3) : ax_Sim ME ini own cc nL ret pc (a_zge t n) := by
  subst hn
  refine sm_pure (fun E cal ls st h o ho => ?_)
  simp only [a_zge] at ho
  split at ho
  · rename_i x st1 h1 he
    cases he
    split at ho
    · rename_i hc
      cases ho
      exact ⟨_, _, rfl, fun p l e R s m args below meth c G base z Q F H locs Ls cells slots hk hl hS w => lv_if_ge F.1 F.2.1 hd ht (fun _ => w) (fun q => absurd hc q)⟩
    · rename_i hc
      cases ho
      exact ⟨_, _, rfl, fun p l e R s m args below meth c G base z Q F H locs Ls cells slots hk hl hS w => lv_if_ge F.1 F.2.1 hd ht (fun q => absurd q hc) (fun _ => w)⟩
  · cases ho
theorem sm_cgt {t n : Nat} {off : Int} (hd : decode cc pc = .ok (.if_icmp .gt off, 3)) (ht : (pc : Int) + off = (t : Int)) (hn : n = pc + 3) : ax_Sim ME ini own cc nL ret pc (a_cgt t n) := by
  subst hn
  refine sm_pure (fun E cal ls st h o ho => ?_)
  simp only [a_cgt] at ho
  split at ho
  · rename_i y x st1 h1 he
    cases he
    split at ho
    · rename_i hc
      cases ho
      exact ⟨_, _, rfl, fun p l e R s m args below meth c G base z Q F H locs Ls cells slots hk hl hS w => lv_icmp_gt F.1 F.2.1 hd ht (fun _ => w) (fun q => absurd hc q)⟩
    · rename_i hc
      cases ho
      exact ⟨_, _, rfl, fun p l e R s m args below meth c G base z Q F H locs Ls cells slots hk hl hS w => lv_icmp_gt F.1 F.2.1 hd ht (fun q => absurd q hc) (fun _ => w)⟩
  · cases ho
theorem sm_zgt {t n : Nat} {off : Int} (hd : decode cc pc = .ok (.ifCond .gt off, 3)) (ht : (pc : Int) + off = (t : Int)) (hn : n = pc + 3) : ax_Sim ME ini own cc nL ret pc (a_zgt t n) := by
  subst hn
  refine sm_pure (fun E cal ls st h o ho => ?_)
  simp only [a_zgt] at ho
  split at ho
  · rename_i x st1 h1 he
    cases he
    split at ho
    · rename_i hc
      cases ho
      exact ⟨_, _, rfl, fun p l e R s m args below meth c G base z Q F H locs Ls cells slots hk hl hS w => lv_if_gt F.1 F.2.1 hd ht (fun _ => w) (fun q => absurd hc q)⟩
    · rename_i hc
      cases ho
      exact ⟨_, _, rfl, fun p l e R s m args below meth c G base z Q F H locs Ls cells slots hk hl hS w => lv_if_gt F.1 F.2.1 hd ht (fun q => absurd q hc) (fun _ => w)⟩
  · cases ho
theorem sm_cle {t n : Nat} {off : Int} (hd : decode cc pc = .ok (.if_icmp .le off, 3)) (ht : (pc : Int) + off = (t : Int)) (hn : n = pc + 3) : ax_Sim ME ini own cc nL ret pc (a_cle t n) := by
  subst hn
  refine sm_pure (fun E cal ls st h o ho => ?_)
  simp only [a_cle] at ho
  split at ho
  · rename_i y x st1 h1 he
    cases he
    split at ho
    · rename_i hc
      cases ho
      exact ⟨_, _, rfl, fun p l e R s m args below meth c G base z Q F H locs Ls cells slots hk hl hS w => lv_icmp_le F.1 F.2.1 hd ht (fun _ => w) (fun q => absurd hc q)⟩
    · rename_i hc
      cases ho
      exact ⟨_, _, rfl, fun p l e R s m args below meth c G base z Q F H locs Ls cells slots hk hl hS w => lv_icmp_le F.1 F.2.1 hd ht (fun q => absurd q hc) (fun _ => w)⟩
  · cases ho
theorem sm_zle {t n : Nat} {off : Int} (hd : decode cc pc = .ok (.ifCond .le off, 3)) (ht : (pc : Int) + off = (t : Int)) (hn : n = pc + 3) : ax_Sim ME ini own cc nL ret pc (a_zle t n) := by
  subst hn
  refine sm_pure (fun E cal ls st h o ho => ?_)
  simp only [a_zle] at ho
  split at ho
  · rename_i x st1 h1 he
    cases he
    split at ho
    · rename_i hc
      cases ho
      exact ⟨_, _, rfl, fun p l e R s m args below meth c G base z Q F H locs Ls cells slots hk hl hS w => lv_if_le F.1 F.2.1 hd ht (fun _ => w) (fun q => absurd hc q)⟩
    · rename_i hc
      cases ho
      exact ⟨_, _, rfl, fun p l e R s m args below meth c G base z Q F H locs Ls cells slots hk hl hS w => lv_if_le F.1 F.2.1 hd ht (fun q => absurd q hc) (fun _ => w)⟩
  · cases ho
end SM
