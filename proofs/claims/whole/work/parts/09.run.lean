/-! SIMULATION: whole runs, methods -/
/-- a call on the text constant -/
def a_callX (y k n : Nat) : ax_Act := fun _ cal S => match S with
  | (_, ls, st, h) => match ax_nth st k with
    | some (.retAddr q) => if q = 1 ∧ ax_cats (st.drop (k + 1)) ≤ 8 then ax_back (cal y (st.take (k + 1)).reverse h) n ls (st.drop (k + 1)) else none
    | _ => none
section SR
variable {ME : Nat → Option ax_M} {ini : Bool} {own : String} {cc : ByteArray} {nL : Nat} {ret : Option FieldType} {pc : Nat}
theorem sm_callX {y k n idx : Nat} {mt : ax_M} (hd : decode cc pc = .ok (.invokevirtual idx, 3)) (hm : ME y = some mt) (hw : Cond.methodLink own idx mt.1 ∈ ax_tbl) (hw2 : Cond.instanceMethod mt.1 ∈ ax_tbl) (hw3 : Cond.initialized mt.1.cls ∈ ax_tbl) (hw4 : Cond.code mt.1 mt.2.1 mt.2.2.1 mt.2.2.2 ∈ ax_tbl) (hw5 : Cond.selects "java/lang/String" mt.1 mt.1 ∈ ax_tbl)
    (hdd : mt.1.cls ≠ "java/lang/invoke/MethodHandle" ∧ mt.1.cls ≠ "java/lang/invoke/VarHandle" ∧ (parseMethodDescriptor mt.1.desc).map (fun d => d.parameters.length) = some k) (hn : n = pc + 3) : ax_Sim ME ini own cc nL ret pc (a_callX y k n) := by
  subst hn
  intro E cal ls st h o ho
  simp only [a_callX] at ho
  split at ho
  · rename_i q hq
    split at ho
    · rename_i hk8
      obtain ⟨hk, h8⟩ := hk8
      subst hk
      obtain ⟨f1, f2, f3⟩ := ax_split hq
      cases hcal : cal y (st.take (k + 1)).reverse h with
      | none => rw [hcal] at ho; cases ho
      | some q9 =>
        rw [hcal] at ho
        cases ho
        obtain ⟨r, h'⟩ := q9
        refine ⟨fun hM0 => hM0 y _ h r h' hcal, fun p l e R s m args below meth c G base z Q h0 F hC hcl hsl hc0 hs0 w H locs Ls cells slots HK hl hS hcc hss => ?_⟩
        obtain ⟨hmono, hMet⟩ := hC y mt hm _ h r h' hcal
        obtain ⟨rm, r1, r2, r3, hM⟩ := hMet G base z
        have hcc' : cells + h0.1.length = h.1.length := hcc
        have hss' : slots + ax_slt h0 = ax_slt h := hss
        have hcl' : h'.1.length ≤ h0.1.length + R.cells := hcl
        have hsl' : ax_slt h' ≤ ax_slt h0 + R.slots := hsl
        have hpre := ax_pre (as := (st.take (k + 1)).reverse) F HK hS
        rw [f2] at hpre hM
        obtain ⟨adV, g1, g2, -⟩ := F.2.2.2.2.2.2.2.2.2.2.2.2
        have hrun := va_runV (As := (st.take k).reverse.map (ax_rv z)) (b := z.2.2) (rest := (st.drop (k + 1)).map (ax_rv z)) (g := F0 m pc Ls (st.map (ax_rv z))) (n := k) (nL := nL) (C := "java/lang/String") ⟨F.1, F.2.1, F.2.2.1, F.2.2.2.1, F.2.2.2.2.1⟩ hM ⟨callB_of k F.2.2.2.2.1 (ax_goodm hw4) rfl r1 r2 (F.2.2.2.2.1 _ hw3) (F.2.2.2.2.1 _ hw) hdd r3, F.2.2.2.2.1 _ hw2, F.2.2.2.2.1 _ hw5⟩ ⟨ax_blind _ _ _ _ _ _, vk_recv (i := 0) g2 (by decide) hS, hpre⟩ (locs := locs) (cells := cells) (slots := slots) (e := e) (below := below) (meth := meth)
          rfl (by simp at f3 ⊢; omega) hl.2.1.1 (by
            show st.map (ax_rv z) = _
            conv => lhs; rw [f1]
            rw [← List.map_reverse, List.reverse_reverse, List.map_append]; rfl) (by rw [ax_cats_map]; show 2 * 0 + _ ≤ 8; omega) hd (by omega)
        exact ax_runW hrun F.2.2.2.2.2.2.2.2.2.2.2.1 hl hS (by omega) (by omega) w
    · cases ho
  · cases ho
theorem ax_clamp0 {c : Int32} (h : ¬ c < 0) : c.toInt = (c.toNatClampNeg : Int) := by
  have hz0 : (0 : Int) ≤ c.toInt := by
    have := Int32.not_lt.mp h
    simpa using Int32.le_iff_toInt_le.mp this
  show c.toInt = ((c.toInt.toNat : Nat) : Int)
  omega
theorem sm_acpy {n idx : Nat} (hd : decode cc pc = .ok (.invokestatic idx, 3)) (hw : Cond.methodLink own idx arraycopyName ∈ ax_tbl) (hw2 : Cond.native arraycopyName ∈ ax_tbl) (hw3 : Cond.static arraycopyName ∈ ax_tbl) (hw4 : Cond.initialized "java/lang/System" ∈ ax_tbl) (hn : n = pc + 3) : ax_Sim ME ini own cc nL ret pc (a_acpy n) := by
  subst hn
  intro E cal ls st h o ho
  obtain ⟨sh, I, RR⟩ := h
  simp only [a_acpy] at ho
  split at ho
  · rename_i k dp b sp a st1 sh1 I1 R1 he
    cases he
    split at ho
    · rename_i ca cb ha hb
      split at ho
      · rename_i hcd
        obtain ⟨c1, c2, rfl, rfl, c5, c6, c7, c8⟩ := hcd
        cases ho
        refine ⟨fun _ => ⟨Nat.le_refl _, Nat.le_refl _⟩, fun p l e R s m args below meth c G base z Q h0 F hC _ _ _ _ w H locs Ls cells slots HK hl hS hcc hss => ?_⟩
        have hata := ax_ok_at HK ha
        have hatb := ax_ok_at HK hb
        rw [ax_cell_i G z.1 c1] at hata
        rw [ax_cell_i G z.1 c2] at hatb
        have hA : H[z.1 a]? = some (vp_cell G.2.1 (ca.2, .inl (I a))) := hata
        have hB : H[z.1 b]? = some (vp_cell G.2.1 (cb.2, .inl (I b))) := hatb
        obtain ⟨-, k0, hk0, cm0, hkk0⟩ := (F.2.2.2.2.2.1.2 0 _ rfl).1 ca.2 (fun j => .int (I a j))
        obtain ⟨-, k1, hk1, cm1, hkk1⟩ := (F.2.2.2.2.2.1.2 0 _ rfl).1 cb.2 (fun j => .int (I b j))
        intro T hT X
        have hbb := F.2.1
        subst hbb
        obtain ⟨vm', X', step⟩ := X.arraycopy F.1 F.2.2.2.1 (F.2.2.2.2.1 _ hw) (F.2.2.2.2.1 _ hw2) (F.2.2.2.2.1 _ hw3) (F.2.2.2.2.1 _ hw4) (src := z.1 a) (dst := z.1 b) (cs := vp_cell G.2.1 (ca.2, .inl (I a))) (cd := vp_cell G.2.1 (cb.2, .inl (I b))) (srcPos := 0) (destPos := 0) (n := k) (by rw [hT]; exact hA) (by rw [hT]; exact hB)
          (fun _ h => by cases h) (fun _ h => by cases h) (fun h => by cases h) (fun h => by cases h) hk0 hk1 hkk0 hkk1 (by simp [refKind]) (by decide) (by decide) c5
          (by rw [ax_clamp0 c5]; show ¬ _ > ((arrV _ ca.2 (fun j => .int (I a j))).slots.size : Int); rw [arrV_size]; show ¬ (0 : Int) + _ > _; omega)
          (by rw [ax_clamp0 c5]; show ¬ _ > ((arrV _ cb.2 (fun j => .int (I b j))).slots.size : Int); rw [arrV_size]; show ¬ (0 : Int) + _ > _; omega)
          (fun vm₁ _ i hi => by
            have e : (vp_cell G.2.1 (ca.2, .inl (I a))).slots.getD ((0 : Int32).toNatClampNeg + i) .null = .int (I a ((0 : Int32).toNatClampNeg + i)) := by
              show (arrV _ ca.2 (fun j => .int (I a j))).slots.getD _ _ = _
              rw [Array.getD_eq_getD_getElem?, arrV_read _ _ (by show 0 + i < _; omega)]
              rfl
            refine ⟨?_, ?_⟩
            · rw [e]; rfl
            · rw [e]; exact trivial)
          (g := F0 m pc Ls (.int k :: .int 0 :: .ref (z.1 b) :: .int 0 :: .ref (z.1 a) :: st1.map (ax_rv z))) rfl (by rw [F.2.2.1]; exact hl.2.1.1) (rest := st1.map (ax_rv z)) rfl hd F.2.2.2.2.2.2.1.1 (by
            rw [ax_cats_map]
            have h64 := F.2.2.2.2.2.2.1.2
            have hnw : nativeFrameWords "java/lang/System" "arraycopy" 5 ≤ 20 := by decide +kernel
            show 2 * 0 + _ + _ ≤ _
            omega)
        have e1 : copied (vp_cell G.2.1 (ca.2, .inl (I a))) (vp_cell G.2.1 (cb.2, .inl (I b))) 0 0 k = vp_cell G.2.1 (cb.2, .inl (va_cpy (I a) (I b) 0 0 k.toNatClampNeg)) := va_copied (fun z => .int z) G.2.1 G.2.1 (I a) (I b) (by show 0 + _ ≤ _; omega)
        rw [e1] at X' step
        generalize hv9 : vp_cell G.2.1 (cb.2, .inl (va_cpy (I a) (I b) 0 0 k.toNatClampNeg)) = cell9 at X' step
        have hlt : z.1 b < H.size := (Array.getElem?_eq_some_iff.mp hB).1
        have hheap : ((T.setVm vm').setCell (z.1 b) cell9).heap = H.setIfInBounds (z.1 b) cell9 := by rw [← hT]; rfl
        have oq : ∀ q : Nat, q ≠ z.1 b → (H.setIfInBounds (z.1 b) cell9)[q]? = H[q]? := fun q hq => by simp [Array.getElem?_setIfInBounds, Ne.symm hq]
        have hat1 : va_at G.1 vwCl (z.1 b, ax_cell G z.1 cb (va_cpy (I a) (I b) 0 0 k.toNatClampNeg) (RR b)) (H.setIfInBounds (z.1 b) cell9) := by
          rw [ax_cell_i G z.1 c2, ← hv9]
          show (H.setIfInBounds (z.1 b) _)[z.1 b]? = some _
          simp [Array.getElem?_setIfInBounds, hlt]
        have HK1 := ax_ok_set HK hb hat1 (by simp) oq
        rw [ax_up_id RR b] at HK1
        obtain ⟨t, a1, b1⟩ := w _ _ Ls cells slots HK1 hl ⟨by simp; exact hS.1, fun q g1 g2 => by
            rw [oq q (fun e => g2 (by rw [e]; exact HK.2.1 b))]
            exact hS.2.1 q g1 g2, fun q hq => by
            rcases List.mem_append.mp hq with h | h
            · exact hS.2.2 q h
            · obtain ⟨z9, -, hz⟩ := List.mem_map.mp h
              rw [← hz]
              exact HK.2.1 b⟩ hcc hss _ hheap X'
        exact ⟨t, step t a1, b1⟩
      · cases ho
    · cases ho
  · cases ho
/-- a whole run -/
theorem ax_run_mono {E : ax_E} {cal : ax_Cal} {t : ax_T} (hM : ax_Mono cal) (hT : ∀ (pc : Nat) (act : ax_Act), ax_row t pc = some act → ax_Sim ME ini own cc nL ret pc act) : ∀ (n : Nat) (S : ax_S) (r : Option Value) (hf : ax_H), ax_run E cal t n S = some (r, hf) → S.2.2.2.1.length ≤ hf.1.length ∧ ax_slt S.2.2.2 ≤ ax_slt hf
  | 0, S, r, hf, h => by cases h
  | n + 1, (pc, ls, st, h9), r, hf, h => by
    rw [ax_run] at h
    cases hs : ax_step E cal t (pc, ls, st, h9) with
    | none => rw [hs] at h; cases h
    | some o =>
      rw [hs] at h
      rw [ax_step] at hs
      cases ha : ax_row t (pc, ls, st, h9).1 with
      | none => rw [ha] at hs; cases hs
      | some act =>
        rw [ha] at hs
        have hm := (hT pc act ha E cal ls st h9 o hs).1 hM
        cases o with
        | inl S' =>
          have h2 := ax_run_mono hM hT n S' r hf h
          exact ⟨Nat.le_trans hm.1 h2.1, Nat.le_trans hm.2 h2.2⟩
        | inr q =>
          have e : q = (r, hf) := Option.some.inj h
          have hm : q.2 = h9 := hm
          rw [e] at hm
          have hm : hf = h9 := hm
          subst hm
          exact ⟨Nat.le_refl _, Nat.le_refl _⟩
theorem ax_run_sim {E : ax_E} {cal : ax_Cal} {t : ax_T} (hM : ax_Mono cal) (hT : ∀ (pc : Nat) (act : ax_Act), ax_row t pc = some act → ax_Sim ME ini own cc nL ret pc act) {p : Program} {l : Launch} {e : Env} {R : Room} {s : State} {m : MethodId} {args : Array Value} {below : List Frame} {meth : Method} {c : Code} {G : ax_G} {base : Nat} {z : ax_Z} {Q : State → Prop} {h0 : ax_H}
    (F : ax_Fr ini own cc nL ret p R s m args meth c G base z E) (hC : ax_CalOk ME l R E cal) {r : Option Value} {hf : ax_H} (hcap : hf.1.length ≤ h0.1.length + R.cells) (hscap : ax_slt hf ≤ ax_slt h0 + R.slots) (hH : ax_Ho cc ret p l e R s m args below meth c G base z Q h0 r hf) : ∀ (n : Nat) (S : ax_S), ax_run E cal t n S = some (r, hf) → h0.1.length ≤ S.2.2.2.1.length → ax_slt h0 ≤ ax_slt S.2.2.2 → ax_Wt nL p l e R s m args below meth c G base z Q h0 S
  | 0, S, h, _, _ => by cases h
  | n + 1, (pc, ls, st, h9), h, hl0, hs0 => by
    rw [ax_run] at h
    cases hs : ax_step E cal t (pc, ls, st, h9) with
    | none => rw [hs] at h; cases h
    | some o =>
      rw [hs] at h
      rw [ax_step] at hs
      cases ha : ax_row t (pc, ls, st, h9).1 with
      | none => rw [ha] at hs; cases hs
      | some act =>
        rw [ha] at hs
        obtain ⟨hm, k⟩ := hT pc act ha E cal ls st h9 o hs
        have hm := hm hM
        cases o with
        | inl S' =>
          have h2 := ax_run_mono hM hT n S' r hf h
          exact k p l e R s m args below meth c G base z Q h0 F hC (Nat.le_trans h2.1 hcap) (Nat.le_trans h2.2 hscap) hl0 hs0 (ax_run_sim hM hT F hC hcap hscap hH n S' h (Nat.le_trans hl0 hm.1) (Nat.le_trans hs0 hm.2))
        | inr q =>
          have e9 : q = (r, hf) := Option.some.inj h
          subst e9
          have hm : hf = h9 := hm
          subst hm
          exact k p l e R s m args below meth c G base z Q h0 F hC hH
/-- a part of a run -/
theorem ax_go_sim {E : ax_E} {cal : ax_Cal} {t : ax_T} (hM : ax_Mono cal) (hT : ∀ (pc : Nat) (act : ax_Act), ax_row t pc = some act → ax_Sim ME ini own cc nL ret pc act) {p : Program} {l : Launch} {e : Env} {R : Room} {s : State} {m : MethodId} {args : Array Value} {below : List Frame} {meth : Method} {c : Code} {G : ax_G} {base : Nat} {z : ax_Z} {Q : State → Prop} {h0 : ax_H}
    (F : ax_Fr ini own cc nL ret p R s m args meth c G base z E) (hC : ax_CalOk ME l R E cal) {S1 : ax_S} (hcap : S1.2.2.2.1.length ≤ h0.1.length + R.cells) (hscap : ax_slt S1.2.2.2 ≤ ax_slt h0 + R.slots) (w : ax_Wt nL p l e R s m args below meth c G base z Q h0 S1) : ∀ (n : Nat) (S : ax_S), ax_go E cal t n S S1 → h0.1.length ≤ S.2.2.2.1.length → ax_slt h0 ≤ ax_slt S.2.2.2 → (S.2.2.2.1.length ≤ S1.2.2.2.1.length ∧ ax_slt S.2.2.2 ≤ ax_slt S1.2.2.2) ∧ ax_Wt nL p l e R s m args below meth c G base z Q h0 S
  | 0, S, h, _, _ => by cases h; exact ⟨⟨Nat.le_refl _, Nat.le_refl _⟩, w⟩
  | n + 1, (pc, ls, st, h9), h, hl0, hs0 => by
    obtain ⟨S', hs, h⟩ := h
    rw [ax_step] at hs
    cases ha : ax_row t (pc, ls, st, h9).1 with
    | none => rw [ha] at hs; cases hs
    | some act =>
      rw [ha] at hs
      obtain ⟨hm, k⟩ := hT pc act ha E cal ls st h9 _ hs
      have hm : h9.1.length ≤ S'.2.2.2.1.length ∧ ax_slt h9 ≤ ax_slt S'.2.2.2 := hm hM
      obtain ⟨h2, h3⟩ := ax_go_sim hM hT F hC hcap hscap w n S' h (Nat.le_trans hl0 hm.1) (Nat.le_trans hs0 hm.2)
      exact ⟨⟨Nat.le_trans hm.1 h2.1, Nat.le_trans hm.2 h2.2⟩, k p l e R s m args below meth c G base z Q h0 F hC (Nat.le_trans h2.1 hcap) (Nat.le_trans h2.2 hscap) hl0 hs0 h3⟩
end SR
/-! methods -/
def ax_ent (as : List Value) (nL : Nat) : List Value := as ++ List.replicate (nL - as.length) (.float 0)
noncomputable def ax_res (E : ax_E) (cal : ax_Cal) (t : ax_T) (S : ax_S) : Option ax_R := @dite _ (∃ r, ∃ n, ax_run E cal t n S = some r) (Classical.propDecidable _) (fun h => some (Classical.choose h)) (fun _ => none)
theorem ax_res_of {E : ax_E} {cal : ax_Cal} {t : ax_T} {S : ax_S} {r : ax_R} (h : ax_res E cal t S = some r) : ∃ n, ax_run E cal t n S = some r := by
  unfold ax_res at h
  by_cases q : ∃ r, ∃ n, ax_run E cal t n S = some r
  · rw [dif_pos q] at h
    have := Classical.choose_spec q
    rw [Option.some.inj h] at this
    exact this
  · rw [dif_neg q] at h; cases h
theorem ax_res_to {E : ax_E} {cal : ax_Cal} {t : ax_T} {S : ax_S} {r : ax_R} {n : Nat} (h : ax_run E cal t n S = some r) : ax_res E cal t S = some r := by
  unfold ax_res
  have q : ∃ r, ∃ n, ax_run E cal t n S = some r := ⟨r, n, h⟩
  rw [dif_pos q]
  obtain ⟨n', h'⟩ := Classical.choose_spec q
  rw [ax_run_one h' h]
abbrev ax_PR : Type := Nat → Option (ax_T × Nat)
abbrev ax_XT : Type := Nat → List Value → ax_H → Option ax_R
noncomputable def ax_calG (PR : ax_PR) (XT : ax_XT) (E : ax_E) : Nat → ax_Cal
  | 0 => fun _ _ _ => none
  | d + 1 => fun y as h => match PR y with
    | some q => if ax_cats as = as.length ∧ as.length ≤ q.2 then ax_res E (ax_calG PR XT E d) q.1 (0, ax_ent as q.2, [], h) else none
    | none => XT y as h
theorem ax_cats1 : ∀ (as : List Value), ax_cats as = as.length → ∀ v ∈ as, v.category = 1
  | [], _, v, h => by cases h
  | a :: l, h, v, hv => by
    have h1 : ∀ w : Value, 1 ≤ w.category := fun w => by cases w <;> simp [Value.category]
    have h2 : ∀ l : List Value, l.length ≤ ax_cats l := fun l => by
      induction l with
      | nil => exact Nat.le_refl _
      | cons w l ih => have := h1 w; show l.length + 1 ≤ w.category + ax_cats l; omega
    have h3 := h1 a
    have h4 := h2 l
    have h5 : a.category + ax_cats l = l.length + 1 := h
    rcases List.mem_cons.mp hv with e | e
    · rw [e]; omega
    · exact ax_cats1 l (by omega) v e
theorem ax_args_mem (z : ax_Z) : ∀ (as : List Value) (k i : Nat) (v : Value), (∀ w ∈ as, w.category = 1) → as[i]? = some v → (k + i, ax_rv z v) ∈ lv_args k (as.map (ax_rv z))
  | [], k, i, v, _, h => by simp at h
  | a :: l, k, 0, v, hc, h => by
    simp at h
    subst h
    exact List.mem_cons_self
  | a :: l, k, i + 1, v, hc, h => by
    have ha : ¬ (ax_rv z a).category = 2 := by rw [ax_rv_cat, hc a List.mem_cons_self]; decide
    show (k + (i + 1), ax_rv z v) ∈ (k, ax_rv z a) :: lv_args (if (ax_rv z a).category = 2 then k + 2 else k + 1) (l.map (ax_rv z))
    rw [if_neg ha]
    have := ax_args_mem z l (k + 1) i v (fun w hw => hc w (List.mem_cons_of_mem _ hw)) (by simpa using h)
    rw [show k + (i + 1) = k + 1 + i by omega]
    exact List.mem_cons_of_mem _ this
theorem ax_sl_len (z : ax_Z) : ∀ (as : List Value), (∀ w ∈ as, w.category = 1) → (lg_sl (as.map (ax_rv z))).length = as.length
  | [], _ => rfl
  | a :: l, hc => by
    have ha : ¬ (ax_rv z a).category = 2 := by rw [ax_rv_cat, hc a List.mem_cons_self]; decide
    have ih := ax_sl_len z l (fun w hw => hc w (List.mem_cons_of_mem _ hw))
    simp only [lg_sl, List.map_cons, List.flatMap_cons, if_neg ha] at ih ⊢
    simp [ih]
theorem ax_entry {z : ax_Z} {as : List Value} {nL : Nat} (hc : ax_cats as = as.length) (hn : as.length ≤ nL) (m : MethodId) : ∃ Ls : Array Slot, entryFrame m (as.map (ax_rv z)).toArray nL = F0 m 0 Ls [] ∧ ax_loc z nL Ls (ax_ent as nL) := by
  have h1 := ax_cats1 as hc
  have hlen := ax_sl_len z as h1
  have hl := lv_entry (as.map (ax_rv z)) (n := nL) (by rw [hlen]; exact hn)
  refine ⟨_, lg_entry_eq m (as.map (ax_rv z)) nL, by simp [ax_ent]; omega, ⟨hl.1, hl.2.1, fun q hq => by cases hq⟩, fun i v hi hv => ?_⟩
  by_cases hia : i < as.length
  · rw [ax_ent, List.getElem?_append_left hia] at hi
    have := hl.2.2 (0 + i, ax_rv z v) (ax_args_mem z as 0 i v h1 hi)
    rw [Nat.zero_add] at this
    exact this
  · rw [ax_ent, List.getElem?_append_right (by omega)] at hi
    have := List.mem_of_getElem? hi
    rw [List.mem_replicate] at this
    exact absurd this.2 hv
def ax_rm (d mc ms : Nat) : Room := { frames := d + 1, cells := mc, slots := ms, locals := 45 * d + 100 }
/-- what a table of methods must be -/
def ax_PrOk (ME : Nat → Option ax_M) (PR : ax_PR) : Prop := ∀ (y : Nat) (q : ax_T × Nat), PR y = some q → ∃ mt : ax_M, ME y = some mt ∧ mt.2.2.1 = q.2 ∧ q.2 ≤ 26 ∧ plainName mt.1.cls = true ∧ ∃ ini : Bool, (ini = true → mt.1.name = "<init>") ∧ ∀ (pc : Nat) (act : ax_Act), ax_row q.1 pc = some act → ax_Sim ME ini mt.1.cls mt.2.1 q.2 mt.2.2.2 pc act
def ax_XtOk (ME : Nat → Option ax_M) (PR : ax_PR) (XT : ax_XT) (l : Launch) (E : ax_E) : Prop := ∀ (y : Nat) (mt : ax_M), PR y = none → ME y = some mt → mt.2.2.1 ≤ 26 ∧ ∀ (as : List Value) (h : ax_H) (r : Option Value) (h' : ax_H), XT y as h = some (r, h') → ∀ (d : Nat) (G : ax_G) (base : Nat) (z : ax_Z),
  Met l mt.1 (ax_wsm mt) (ax_rm (d + 1) (h'.1.length - h.1.length) (ax_slt h' - ax_slt h)) (ax_Pc G base z E as h) (ax_Qc G base z r h') (h'.1.length - h.1.length) (ax_slt h' - ax_slt h) (fun q => base ≤ q)
def ax_XtMono (XT : ax_XT) : Prop := ∀ (y : Nat) (as : List Value) (h : ax_H) (r : Option Value) (h' : ax_H), XT y as h = some (r, h') → h.1.length ≤ h'.1.length ∧ ax_slt h ≤ ax_slt h'
theorem ax_cal_mono {ME : Nat → Option ax_M} {PR : ax_PR} {XT : ax_XT} {E : ax_E} (hP : ax_PrOk ME PR) (hX : ax_XtMono XT) : ∀ d, ax_Mono (ax_calG PR XT E d)
  | 0 => fun y as h r h' e => by cases e
  | d + 1 => fun y as h r h' e => by
    simp only [ax_calG] at e
    cases hq : PR y with
    | none => rw [hq] at e; exact hX y as h r h' e
    | some q =>
      rw [hq] at e
      by_cases hc : ax_cats as = as.length ∧ as.length ≤ q.2
      · simp only [if_pos hc] at e
        obtain ⟨n, hn⟩ := ax_res_of e
        obtain ⟨mt, -, -, -, -, ini, -, hT⟩ := hP y q hq
        exact ax_run_mono (ax_cal_mono hP hX d) hT n _ r h' hn
      · simp only [if_neg hc] at e; cases e
theorem ax_cal_ok {ME : Nat → Option ax_M} {PR : ax_PR} {XT : ax_XT} {E : ax_E} (l : Launch) (hP : ax_PrOk ME PR) (hX : ax_XtMono XT) (hXo : ax_XtOk ME PR XT l E) : ∀ (d : Nat) (R : Room), d + 2 ≤ R.frames → 45 * d + 145 ≤ R.locals → ax_CalOk ME l R E (ax_calG PR XT E d)
  | 0, R, _, _ => fun y mt hm as h r h' e => by cases e
  | d + 1, R, hR1, hR2 => fun y mt hm as h r h' e => by
    refine ⟨ax_cal_mono hP hX (d + 1) y as h r h' e, fun G base z => ⟨ax_rm (d + 1) (h'.1.length - h.1.length) (ax_slt h' - ax_slt h), rfl, rfl, ?_⟩⟩
    have hmono := ax_cal_mono hP hX (d + 1) y as h r h' e
    simp only [ax_calG] at e
    cases hq : PR y with
    | none =>
      rw [hq] at e
      obtain ⟨h26, hMt⟩ := hXo y mt hq hm
      exact ⟨⟨hR1, by show 8 + (mt.2.2.1 + 11) + (45 * (d + 1) + 100) ≤ R.locals; omega⟩, hMt as h r h' e d G base z⟩
    | some q =>
      rw [hq] at e
      obtain ⟨mt', hm', hnl, h26, hpl, ini, hin, hT⟩ := hP y q hq
      have hmt : mt = mt' := Option.some.inj (hm.symm.trans hm')
      subst hmt
      refine ⟨⟨hR1, by show 8 + (mt.2.2.1 + 11) + (45 * (d + 1) + 100) ≤ R.locals; omega⟩, ?_⟩
      by_cases hc : ax_cats as = as.length ∧ as.length ≤ q.2
      · simp only [if_pos hc] at e
        obtain ⟨n, hn⟩ := ax_res_of e
        refine Met.ofW (cc := mt.2.1) (maxL := mt.2.2.1) (ret := mt.2.2.2) hpl rfl ?_
        intro p e9 s m args below meth c s₁ B hml hv
        obtain ⟨rfl, hok, hK, hXX, hNN⟩ := hv
        obtain ⟨Ls, hent, hloc⟩ := ax_entry (z := z) hc.1 hc.2 m
        have hb := B.bytes
        have hlocks := B.notSynchronized
        have F : ax_Fr ini mt.1.cls mt.2.1 q.2 mt.2.2.2 p (ax_rm (d + 1) (h'.1.length - h.1.length) (ax_slt h' - ax_slt h)) s m (as.map (ax_rv z)).toArray meth c G base z E := ⟨B.exec, hb, by rw [← hnl]; exact hml, findClass_of_methodNamed B.named, hNN.use _, hK, ⟨by show 1 ≤ d + 1 + 1; omega, by show 64 ≤ 45 * (d + 1) + 100; omega⟩, fun hi => by rw [(name_of_methodNamed B.named B.method).1]; exact hin hi, B.returns, hXX⟩
        have hC := ax_cal_ok l hP hX hXo d (ax_rm (d + 1) (h'.1.length - h.1.length) (ax_slt h' - ax_slt h)) (by show d + 2 ≤ d + 1 + 1; omega) (by show 45 * d + 145 ≤ 45 * (d + 1) + 100; omega)
        rw [hnl, hent]
        have hHo : ax_Ho mt.2.1 mt.2.2.2 p l e9 (ax_rm (d + 1) (h'.1.length - h.1.length) (ax_slt h' - ax_slt h)) s m (as.map (ax_rv z)).toArray below meth c G base z (MQ below (ax_Qc G base z r h') (as.map (ax_rv z)).toArray s (h'.1.length - h.1.length) (ax_slt h' - ax_slt h) (fun q => base ≤ q)) h r h' := by
          intro pc H locs Ls' cells slots hk hS hcc hss hrc
          have ec : cells = h'.1.length - h.1.length := by omega
          have es : slots = ax_slt h' - ax_slt h := by omega
          rw [← ec, ← es]
          have hqq : ∀ t : State, t.heap = H → s.WarmedH t.vm → ax_Qc G base z r h' (as.map (ax_rv z)).toArray s (.returned (r.map (ax_rv z))) t := fun t ht _ => ⟨rfl, by rw [ht]; exact hk, hS.F ht⟩
          cases r with
          | none => exact W.vret B.exec hb (B.returns.trans hrc.2) hqq hS.2.2 hrc.1
          | some v =>
            cases v with
            | int x =>
              obtain ⟨h1, ty, h2, h3⟩ := hrc
              exact W.zret B.exec hb (B.returns.trans h2) h3 hqq hS.2.2 h1
            | long x => exact W.lret B.exec hb (B.returns.trans hrc.2) hqq hS.2.2 hrc.1
            | ref x =>
              obtain ⟨h1, ty, h2, h3⟩ := hrc
              exact W.aret B.exec hb (B.returns.trans h2) h3 (Or.inr ⟨_, rfl⟩) hqq hS.2.2 h1
            | float x => exact absurd hrc (fun h => h)
            | double x => exact absurd hrc (fun h => h)
            | null => exact absurd hrc (fun h => h)
            | retAddr x => exact absurd hrc (fun h => h)
        have hW := ax_run_sim (ax_cal_mono hP hX d) hT F hC (h0 := h) (Q := MQ below (ax_Qc G base z r h') (as.map (ax_rv z)).toArray s (h'.1.length - h.1.length) (ax_slt h' - ax_slt h) (fun q => base ≤ q)) (below := below) (e := e9) (by show h'.1.length ≤ h.1.length + (h'.1.length - h.1.length); omega) (by show ax_slt h' ≤ ax_slt h + (ax_slt h' - ax_slt h); omega) hHo n _ hn (Nat.le_refl _) (Nat.le_refl _)
        exact hW s.heap [] Ls 0 0 hok hloc va_S.rf (Nat.zero_add _) (Nat.zero_add _)
      · simp only [if_neg hc] at e; cases e
