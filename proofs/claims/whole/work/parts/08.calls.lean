/-! SIMULATION: arraycopy, calls -/
theorem ax_goodm {mt : ax_M} (h : Cond.code mt.1 mt.2.1 mt.2.2.1 mt.2.2.2 ∈ ax_tbl) : GoodIn ax_tbl (ax_wsm mt) := fun w hw => by
  rw [List.mem_singleton.mp hw]
  exact ⟨h, Or.inl rfl⟩
theorem ax_warm_of {s U : State} (hv : U.vm = s.vm) : s.WarmedH U.vm := by rw [hv]; exact State.WarmedH.refl s
theorem ax_X.same {E : ax_E} {base : Nat} {z : ax_Z} {s U : State} (hv : U.vm = s.vm) (hh : U.heap = s.heap) (h : ax_X E base z s) : ax_X E base z U := by
  obtain ⟨h1, h2, h3, adV, g1, g2, g3, g4⟩ := h
  have ha : s.vm.Alike U.vm := by rw [hv]; exact Vm.Alike.refl _
  refine ⟨by rw [hh]; exact h1.moved ha, h2, by rw [hh]; exact h3, adV, g1.same hv, by rw [hh]; exact g2.moved ha, by rw [hh]; exact g3.moved ha, by rw [hh]; exact g4.moved ha⟩
theorem ax_blind (G : ax_G) (base : Nat) (z : ax_Z) (E : ax_E) (as : List Value) (h : ax_H) : FrameBlind (ax_Pc G base z E as h) := fun a U g mk q => ⟨q.1, q.2.1, va_K.moved (u := U) (U := U.calling g mk a) (Vm.Alike.refl U.vm) q.2.2.1, ax_X.same (s := U) (U := U.calling g mk a) rfl rfl q.2.2.2.1, fun w hw => ax_N.warm (s := U) (U := U.calling g mk a) (ax_warm_of rfl) q.2.2.2.2 w hw _⟩
/-- what the callee finds -/
theorem ax_pre {own : String} {cc : ByteArray} {nL : Nat} {ini : Bool} {ret : Option FieldType} {p : Program} {R : Room} {s : State} {m : MethodId} {args : Array Value} {meth : Method} {c : Code} {G : ax_G} {base : Nat} {z : ax_Z} {E : ax_E} {H : Heap} {locs : List Loc} {h : ax_H} {as : List Value}
    (F : ax_Fr ini own cc nL ret p R s m args meth c G base z E) (HK : ax_ok G base z.1 h H) (hS : va_S (fun q => base ≤ q) s.heap H locs) : ∀ U : State, U.heap = H → s.WarmedH U.vm → ax_Pc G base z E as h (as.map (ax_rv z)).toArray U := by
  intro U hU hW
  refine ⟨rfl, by rw [hU]; exact HK, va_K.moved hW.alike F.2.2.2.2.2.1, ax_X.moved hW (by rw [hU, HK.1]; omega) (fun a ha => ?_) F.2.2.2.2.2.2.2.2.2, fun w hw => ax_N.warm hW F.2.2.2.2.1 w hw _⟩
  have hb := F.2.2.2.2.2.2.2.2.2.2.2.1
  rw [hU]
  exact hS.2.1 a (by omega) (by show ¬ base ≤ a; omega)
theorem ax_runW {nL : Nat} {p : Program} {l : Launch} {e : Env} {R : Room} {s : State} {m : MethodId} {args : Array Value} {below : List Frame} {meth : Method} {c : Code} {G : ax_G} {base : Nat} {z : ax_Z} {Q : State → Prop} {h0 h' : ax_H} {H : Heap} {locs : List Loc} {cells slots mc ms pc : Nat} {Ls : Array Slot} {st0 rest : List Value} {ls : List Value} {r : Option Value} {a9 : Array Value}
    (hr : va_Run p l e R s m args below meth c H locs cells slots mc ms (F0 m pc Ls st0) (rest.map (ax_rv z)) (ax_Qc G base z r h' a9) (fun q => base ≤ q)) (hb : base ≤ s.heap.size) (hl : ax_loc z nL Ls ls) (hS : va_S (fun q => base ≤ q) s.heap H locs) (hc : cells + mc + h0.1.length = h'.1.length) (hs : slots + ms + ax_slt h0 = ax_slt h')
    (w : ax_Wt nL p l e R s m args below meth c G base z Q h0 (pc + 3, ls, r.toList ++ rest, h')) : W p l e R s m args below meth c H locs cells slots Q (F0 m pc Ls st0) := by
  intro T hT X
  obtain ⟨v, st₀, t, T', L, g0, X', hL, e1, e2, ⟨hv, hok, hz, hk⟩, st⟩ := hr T hT X
  have hv : v = r.map (ax_rv z) := Outcome.returned.inj hv
  subst hv
  rw [g0] at hz hk
  obtain ⟨t2, a1, b1⟩ := w T'.heap (locs ++ L) Ls (cells + mc) (slots + ms) (by rw [e1]; exact hok) hl ⟨Nat.le_trans hS.1 (by rw [e1]; exact hz), fun q g1 g2 => by rw [e1, hk q (Nat.lt_of_lt_of_le g1 hS.1) g2]; exact hS.2.1 q g1 g2, fun q hq => by
      rcases List.mem_append.mp hq with g | g
      · exact hS.2.2 q g
      · exact hL q g⟩ hc hs T' rfl X'
  refine ⟨t2, st t2 ?_, b1⟩
  have e9 : (r.map (ax_rv z)).toList ++ rest.map (ax_rv z) = (r.toList ++ rest).map (ax_rv z) := by
    cases r <;> simp
  show Steps _ _ _ (T'.setTop { F0 m pc Ls st0 with pc := pc + 3, stack := (r.map (ax_rv z)).toList ++ rest.map (ax_rv z) }) t2
  rw [e9]
  exact a1
theorem ax_split {st : List Value} {k : Nat} {v : Value} (h : ax_nth st k = some v) : st = st.take k ++ v :: st.drop (k + 1) ∧ (st.take (k + 1)).reverse = v :: (st.take k).reverse ∧ (st.take k).length = k := by
  rw [ax_nth_eq] at h
  obtain ⟨hk, e⟩ := List.getElem?_eq_some_iff.mp h
  refine ⟨?_, ?_, by rw [List.length_take]; omega⟩
  · conv => lhs; rw [← List.take_append_drop k st]
    rw [List.drop_eq_getElem_cons hk, e]
  · rw [List.take_succ_eq_append_getElem hk, e]; simp
section SC
variable {ME : Nat → Option ax_M} {ini : Bool} {own : String} {cc : ByteArray} {nL : Nat} {ret : Option FieldType} {pc : Nat}
theorem sm_callS {y k n idx : Nat} {mt : ax_M} (hd : decode cc pc = .ok (.invokestatic idx, 3)) (hm : ME y = some mt) (hw : Cond.methodLink own idx mt.1 ∈ ax_tbl) (hw2 : Cond.static mt.1 ∈ ax_tbl) (hw3 : Cond.initialized mt.1.cls ∈ ax_tbl) (hw4 : Cond.code mt.1 mt.2.1 mt.2.2.1 mt.2.2.2 ∈ ax_tbl)
    (hdd : mt.1.cls ≠ "java/lang/invoke/MethodHandle" ∧ mt.1.cls ≠ "java/lang/invoke/VarHandle" ∧ (parseMethodDescriptor mt.1.desc).map (fun d => d.parameters.length) = some k) (hn : n = pc + 3) : ax_Sim ME ini own cc nL ret pc (a_callS y k n) := by
  subst hn
  intro E cal ls st h o ho
  simp only [a_callS] at ho
  split at ho
  · rename_i hk8
    obtain ⟨hk, h8⟩ := hk8
    cases hcal : cal y (st.take k).reverse h with
    | none => rw [hcal] at ho; cases ho
    | some q =>
      rw [hcal] at ho
      cases ho
      obtain ⟨r, h'⟩ := q
      refine ⟨fun hM0 => hM0 y _ h r h' hcal, fun p l e R s m args below meth c G base z Q h0 F hC hcl hsl hc0 hs0 w H locs Ls cells slots HK hl hS hcc hss => ?_⟩
      obtain ⟨hmono, hMet⟩ := hC y mt hm _ h r h' hcal
      obtain ⟨rm, r1, r2, r3, hM⟩ := hMet G base z
      have hcc' : cells + h0.1.length = h.1.length := hcc
      have hss' : slots + ax_slt h0 = ax_slt h := hss
      have hcl' : h'.1.length ≤ h0.1.length + R.cells := hcl
      have hsl' : ax_slt h' ≤ ax_slt h0 + R.slots := hsl
      have hrun := va_runS (As := (st.take k).reverse.map (ax_rv z)) (rest := (st.drop k).map (ax_rv z)) (g := F0 m pc Ls (st.map (ax_rv z))) (n := k) (nL := nL) ⟨F.1, F.2.1, F.2.2.1, F.2.2.2.1, F.2.2.2.2.1⟩ hM ⟨callB_of k F.2.2.2.2.1 (ax_goodm hw4) rfl r1 r2 (F.2.2.2.2.1 _ hw3) (F.2.2.2.2.1 _ hw) hdd r3, F.2.2.2.2.1 _ hw2⟩ ⟨ax_blind _ _ _ _ _ _, ax_pre F HK hS⟩ (locs := locs) (cells := cells) (slots := slots) (e := e) (below := below) (meth := meth)
        rfl (by simp; omega) hl.2.1.1 (by show st.map (ax_rv z) = _; rw [← List.map_reverse, List.reverse_reverse, ← List.map_append, List.take_append_drop]) (by rw [ax_cats_map]; show 2 * 0 + _ ≤ 8; omega) hd (by omega)
      exact ax_runW hrun F.2.2.2.2.2.2.2.2.2.2.2.1 hl hS (by omega) (by omega) w
  · cases ho
theorem sm_callSN {y k n idx : Nat} {host : String} {mt : ax_M} (hd : decode cc pc = .ok (.invokestatic idx, 3)) (hm : ME y = some mt) (hw : Cond.methodLinkNest own idx mt.1 host ∈ ax_tbl) (hw2 : Cond.static mt.1 ∈ ax_tbl) (hw3 : Cond.initialized mt.1.cls ∈ ax_tbl) (hw4 : Cond.code mt.1 mt.2.1 mt.2.2.1 mt.2.2.2 ∈ ax_tbl)
    (hdd : mt.1.cls ≠ "java/lang/invoke/MethodHandle" ∧ mt.1.cls ≠ "java/lang/invoke/VarHandle" ∧ (parseMethodDescriptor mt.1.desc).map (fun d => d.parameters.length) = some k) (hn : n = pc + 3) : ax_Sim ME ini own cc nL ret pc (a_callS y k n) := by
  subst hn
  intro E cal ls st h o ho
  simp only [a_callS] at ho
  split at ho
  · rename_i hk8
    obtain ⟨hk, h8⟩ := hk8
    cases hcal : cal y (st.take k).reverse h with
    | none => rw [hcal] at ho; cases ho
    | some q =>
      rw [hcal] at ho
      cases ho
      obtain ⟨r, h'⟩ := q
      refine ⟨fun hM0 => hM0 y _ h r h' hcal, fun p l e R s m args below meth c G base z Q h0 F hC hcl hsl hc0 hs0 w H locs Ls cells slots HK hl hS hcc hss => ?_⟩
      obtain ⟨hmono, hMet⟩ := hC y mt hm _ h r h' hcal
      obtain ⟨rm, r1, r2, r3, hM⟩ := hMet G base z
      have hcc' : cells + h0.1.length = h.1.length := hcc
      have hss' : slots + ax_slt h0 = ax_slt h := hss
      have hcl' : h'.1.length ≤ h0.1.length + R.cells := hcl
      have hsl' : ax_slt h' ≤ ax_slt h0 + R.slots := hsl
      have hrun := va_runSN (As := (st.take k).reverse.map (ax_rv z)) (rest := (st.drop k).map (ax_rv z)) (g := F0 m pc Ls (st.map (ax_rv z))) (n := k) (nL := nL) ⟨F.1, F.2.1, F.2.2.1, F.2.2.2.1, F.2.2.2.2.1⟩ hM ⟨va_cnB k F.2.2.2.2.1 (ax_goodm hw4) rfl r1 r2 (va_any rfl (F.2.2.2.2.1 _ hw)) (F.2.2.2.2.1 _ hw3) hdd r3, F.2.2.2.2.1 _ hw2, trivial⟩ ⟨ax_blind _ _ _ _ _ _, ax_pre F HK hS⟩ (locs := locs) (cells := cells) (slots := slots) (e := e) (below := below) (meth := meth)
        rfl (by simp; omega) hl.2.1.1 (by show st.map (ax_rv z) = _; rw [← List.map_reverse, List.reverse_reverse, ← List.map_append, List.take_append_drop]) (by rw [ax_cats_map]; show 2 * 0 + _ ≤ 8; omega) hd (by omega)
      exact ax_runW hrun F.2.2.2.2.2.2.2.2.2.2.2.1 hl hS (by omega) (by omega) w
  · cases ho
theorem sm_callV {ci N y k n idx : Nat} {C : String} {T : u_T} {mt : ax_M} (hd : decode cc pc = .ok (.invokevirtual idx, 3)) (hm : ME y = some mt) (hc : vwCl[ci]? = some (C, T, N)) (h100 : ci < 100) (hw : Cond.methodLink own idx mt.1 ∈ ax_tbl) (hw2 : Cond.instanceMethod mt.1 ∈ ax_tbl) (hw3 : Cond.initialized mt.1.cls ∈ ax_tbl) (hw4 : Cond.code mt.1 mt.2.1 mt.2.2.1 mt.2.2.2 ∈ ax_tbl) (hw5 : Cond.selects C mt.1 mt.1 ∈ ax_tbl)
    (hdd : mt.1.cls ≠ "java/lang/invoke/MethodHandle" ∧ mt.1.cls ≠ "java/lang/invoke/VarHandle" ∧ (parseMethodDescriptor mt.1.desc).map (fun d => d.parameters.length) = some k) (hn : n = pc + 3) : ax_Sim ME ini own cc nL ret pc (a_callV ci N y k n) := by
  subst hn
  intro E cal ls st h o ho
  simp only [a_callV] at ho
  split at ho
  · rename_i q hq
    split at ho
    · rename_i hk8
      obtain ⟨hk, h8⟩ := hk8
      obtain ⟨f1, f2, f3⟩ := ax_split hq
      cases hcal : cal y (st.take (k + 1)).reverse h with
      | none => rw [hcal] at ho; cases ho
      | some q9 =>
        rw [hcal] at ho
        cases ho
        obtain ⟨r, h'⟩ := q9
        refine ⟨fun hM0 => hM0 y _ h r h' hcal, fun p l e R s m args below meth c G base z Q h0 F hC hcl hsl hc0 hs0 w H locs Ls cells slots HK hl hS hcc hss => ?_⟩
        obtain ⟨hmono, hMet⟩ := hC y mt hm _ h r h' hcal
        obtain ⟨rm, r1, r2, r3, hM⟩ := hMet G base z
        have hcc' : cells + h0.1.length = h.1.length := hcc
        have hss' : slots + ax_slt h0 = ax_slt h := hss
        have hcl' : h'.1.length ≤ h0.1.length + R.cells := hcl
        have hsl' : ax_slt h' ≤ ax_slt h0 + R.slots := hsl
        have hpre := ax_pre (as := (st.take (k + 1)).reverse) F HK hS
        rw [f2] at hpre hM
        have hrun := va_runV (As := (st.take k).reverse.map (ax_rv z)) (b := z.1 q) (rest := (st.drop (k + 1)).map (ax_rv z)) (g := F0 m pc Ls (st.map (ax_rv z))) (n := k) (nL := nL) (C := C) ⟨F.1, F.2.1, F.2.2.1, F.2.2.2.1, F.2.2.2.2.1⟩ hM ⟨callB_of k F.2.2.2.2.1 (ax_goodm hw4) rfl r1 r2 (F.2.2.2.2.1 _ hw3) (F.2.2.2.2.1 _ hw) hdd r3, F.2.2.2.2.1 _ hw2, F.2.2.2.2.1 _ hw5⟩ ⟨ax_blind _ _ _ _ _ _, va_recv F.2.2.2.2.2.1 HK.2.2.2.2 (q0 := q) hc (by rw [ax_ws_get G z.1 hk, ax_cell_o G z.1 h100]), hpre⟩ (locs := locs) (cells := cells) (slots := slots) (e := e) (below := below) (meth := meth)
          rfl (by simp at f3 ⊢; omega) hl.2.1.1 (by
            show st.map (ax_rv z) = _
            conv => lhs; rw [f1]
            rw [← List.map_reverse, List.reverse_reverse, List.map_append]; rfl) (by rw [ax_cats_map]; show 2 * 0 + _ ≤ 8; omega) hd (by omega)
        exact ax_runW hrun F.2.2.2.2.2.2.2.2.2.2.2.1 hl hS (by omega) (by omega) w
    · cases ho
  · cases ho
theorem sm_callI {ci N y k n idx : Nat} {mt : ax_M} (hd : decode cc pc = .ok (.invokespecial idx, 3)) (hm : ME y = some mt) (hw : Cond.methodLink own idx mt.1 ∈ ax_tbl) (hw2 : Cond.instanceMethod mt.1 ∈ ax_tbl) (hw3 : Cond.initialized mt.1.cls ∈ ax_tbl) (hw4 : Cond.code mt.1 mt.2.1 mt.2.2.1 none ∈ ax_tbl) (hnn : mt.2.2.2 = none) (hin : mt.1.name = "<init>")
    (hdd : mt.1.cls ≠ "java/lang/invoke/MethodHandle" ∧ mt.1.cls ≠ "java/lang/invoke/VarHandle" ∧ (parseMethodDescriptor mt.1.desc).map (fun d => d.parameters.length) = some k) (hn : n = pc + 3) : ax_Sim ME ini own cc nL ret pc (a_callV ci N y k n) := by
  subst hn
  intro E cal ls st h o ho
  simp only [a_callV] at ho
  split at ho
  · rename_i q hq
    split at ho
    · rename_i hk8
      obtain ⟨hk, h8⟩ := hk8
      obtain ⟨f1, f2, f3⟩ := ax_split hq
      cases hcal : cal y (st.take (k + 1)).reverse h with
      | none => rw [hcal] at ho; cases ho
      | some q9 =>
        rw [hcal] at ho
        cases ho
        obtain ⟨r, h'⟩ := q9
        refine ⟨fun hM0 => hM0 y _ h r h' hcal, fun p l e R s m args below meth c G base z Q h0 F hC hcl hsl hc0 hs0 w H locs Ls cells slots HK hl hS hcc hss => ?_⟩
        obtain ⟨hmono, hMet⟩ := hC y mt hm _ h r h' hcal
        obtain ⟨rm, r1, r2, r3, hM⟩ := hMet G base z
        have hcc' : cells + h0.1.length = h.1.length := hcc
        have hss' : slots + ax_slt h0 = ax_slt h := hss
        have hcl' : h'.1.length ≤ h0.1.length + R.cells := hcl
        have hsl' : ax_slt h' ≤ ax_slt h0 + R.slots := hsl
        have hpre := ax_pre (as := (st.take (k + 1)).reverse) F HK hS
        rw [f2] at hpre hM
        have hg : GoodIn ax_tbl (ax_wsm mt) := ax_goodm (by rw [hnn]; exact hw4)
        have hrun := va_runI (As := (st.take k).reverse.map (ax_rv z)) (b := z.1 q) (rest := (st.drop (k + 1)).map (ax_rv z)) (g := F0 m pc Ls (st.map (ax_rv z))) (n := k) (nL := nL) ⟨F.1, F.2.1, F.2.2.1, F.2.2.2.1, F.2.2.2.2.1⟩ hM ⟨callB_of k F.2.2.2.2.1 hg (ws' := []) (by rw [ax_wsm, hnn]) r1 r2 (F.2.2.2.2.1 _ hw3) (F.2.2.2.2.1 _ hw) hdd r3, hin, F.2.2.2.2.1 _ hw2⟩ ⟨ax_blind _ _ _ _ _ _, hpre⟩ (locs := locs) (cells := cells) (slots := slots) (e := e) (below := below) (meth := meth)
          rfl (by simp at f3 ⊢; omega) hl.2.1.1 (by
            show st.map (ax_rv z) = _
            conv => lhs; rw [f1]
            rw [← List.map_reverse, List.reverse_reverse, List.map_append]; rfl) (by rw [ax_cats_map]; show 2 * 0 + _ ≤ 8; omega) hd (by omega)
        exact ax_runW hrun F.2.2.2.2.2.2.2.2.2.2.2.1 hl hS (by omega) (by omega) w
    · cases ho
  · cases ho
theorem sm_callIN {ci N y k n idx : Nat} {host : String} {mt : ax_M} (hd : decode cc pc = .ok (.invokespecial idx, 3)) (hm : ME y = some mt) (hw : Cond.methodLinkNest own idx mt.1 host ∈ ax_tbl) (hw2 : Cond.instanceMethod mt.1 ∈ ax_tbl) (hw3 : Cond.initialized mt.1.cls ∈ ax_tbl) (hw4 : Cond.code mt.1 mt.2.1 mt.2.2.1 none ∈ ax_tbl) (hnn : mt.2.2.2 = none) (hin : mt.1.name = "<init>")
    (hdd : mt.1.cls ≠ "java/lang/invoke/MethodHandle" ∧ mt.1.cls ≠ "java/lang/invoke/VarHandle" ∧ (parseMethodDescriptor mt.1.desc).map (fun d => d.parameters.length) = some k) (hn : n = pc + 3) : ax_Sim ME ini own cc nL ret pc (a_callV ci N y k n) := by
  subst hn
  intro E cal ls st h o ho
  simp only [a_callV] at ho
  split at ho
  · rename_i q hq
    split at ho
    · rename_i hk8
      obtain ⟨hk, h8⟩ := hk8
      obtain ⟨f1, f2, f3⟩ := ax_split hq
      cases hcal : cal y (st.take (k + 1)).reverse h with
      | none => rw [hcal] at ho; cases ho
      | some q9 =>
        rw [hcal] at ho
        cases ho
        obtain ⟨r, h'⟩ := q9
        refine ⟨fun hM0 => hM0 y _ h r h' hcal, fun p l e R s m args below meth c G base z Q h0 F hC hcl hsl hc0 hs0 w H locs Ls cells slots HK hl hS hcc hss => ?_⟩
        obtain ⟨hmono, hMet⟩ := hC y mt hm _ h r h' hcal
        obtain ⟨rm, r1, r2, r3, hM⟩ := hMet G base z
        have hcc' : cells + h0.1.length = h.1.length := hcc
        have hss' : slots + ax_slt h0 = ax_slt h := hss
        have hcl' : h'.1.length ≤ h0.1.length + R.cells := hcl
        have hsl' : ax_slt h' ≤ ax_slt h0 + R.slots := hsl
        have hpre := ax_pre (as := (st.take (k + 1)).reverse) F HK hS
        rw [f2] at hpre hM
        have hg : GoodIn ax_tbl (ax_wsm mt) := ax_goodm (by rw [hnn]; exact hw4)
        have hrun := va_runIN (As := (st.take k).reverse.map (ax_rv z)) (b := z.1 q) (rest := (st.drop (k + 1)).map (ax_rv z)) (g := F0 m pc Ls (st.map (ax_rv z))) (n := k) (nL := nL) ⟨F.1, F.2.1, F.2.2.1, F.2.2.2.1, F.2.2.2.2.1⟩ hM ⟨va_cnB k F.2.2.2.2.1 hg (ws' := []) (by rw [ax_wsm, hnn]) r1 r2 (va_any rfl (F.2.2.2.2.1 _ hw)) (F.2.2.2.2.1 _ hw3) hdd r3, hin, F.2.2.2.2.1 _ hw2⟩ ⟨ax_blind _ _ _ _ _ _, hpre⟩ (locs := locs) (cells := cells) (slots := slots) (e := e) (below := below) (meth := meth)
          rfl (by simp at f3 ⊢; omega) hl.2.1.1 (by
            show st.map (ax_rv z) = _
            conv => lhs; rw [f1]
            rw [← List.map_reverse, List.reverse_reverse, List.map_append]; rfl) (by rw [ax_cats_map]; show 2 * 0 + _ ≤ 8; omega) hd (by omega)
        exact ax_runW hrun F.2.2.2.2.2.2.2.2.2.2.2.1 hl hS (by omega) (by omega) w
    · cases ho
  · cases ho
end SC
