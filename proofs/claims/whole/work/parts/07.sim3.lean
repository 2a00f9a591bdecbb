/-! SIMULATION: making, switches, returns, calls -/
theorem ax_slt_push (sh : List (Nat × Nat)) (c : Nat × Nat) (I I' : Nat → Nat → Int32) (R R' : Nat → Nat → Option Nat) : ax_slt (sh ++ [c], I', R') = ax_slt (sh, I, R) + c.2 := by
  simp [ax_slt]
theorem ax_ok_push {G : ax_G} {base : Nat} {rz : Nat → Nat} {sh : List (Nat × Nat)} {I : Nat → Nat → Int32} {R : Nat → Nat → Option Nat} {H H1 : Heap} {c : Nat × Nat} (hk : ax_ok G base rz (sh, I, R) H)
    (hat : va_at G.1 vwCl (H.size, ax_cell G rz c (fun _ => 0) (fun _ => none)) H1) (hz : H1.size = H.size + 1) (oq : ∀ a : Nat, a < H.size → H1[a]? = H[a]?) : ax_ok G base rz (sh ++ [c], va_up I sh.length (fun _ => 0), va_up R sh.length (fun _ => none)) H1 := by
  have hsz : H.size = base + sh.length := hk.1
  have hr : rz sh.length = H.size := by rw [hsz]; exact hk.2.2.2.1 sh.length (Nat.le_refl _)
  refine ⟨by rw [hz, hsz]; simp; omega, hk.2.1, hk.2.2.1, fun i hi => hk.2.2.2.1 i (by simp at hi; show sh.length ≤ i; omega), ?_⟩
  rw [ax_ws_push]
  refine va_P.app (hk.2.2.2.2.kept (fun k q hq => oq q.1 ((hk.2.2.2.2 k q hq).lt))) ?_
  intro k q hq
  have hz : k < 1 := (List.getElem?_eq_some_iff.mp hq).1
  rw [show k = 0 by omega] at hq
  cases hq
  rw [hr]
  exact hat
section SM3
variable {ME : Nat → Option ax_M} {ini : Bool} {own : String} {cc : ByteArray} {nL : Nat} {ret : Option FieldType} {pc : Nat}
theorem sm_new {ci N n idx : Nat} {C : String} {T : u_T} (hd : decode cc pc = .ok (.new idx, 3)) (hw : Cond.classLink own idx C ∈ ax_tbl) (hw2 : Cond.instantiable C N ∈ ax_tbl) (hw3 : Cond.initialized C ∈ ax_tbl) (hin : ∀ w ∈ u_ws C T N, w ∈ ax_tbl) (ty0 : Nat → FieldType) (hty : ∀ k, k < N → parseFieldDescriptor (T k).2.2.1 = some (ty0 k)) (hc : vwCl[ci]? = some (C, T, N)) (h100 : ci < 100)
    (hdf : ∀ j, j < N → defaultValue (ty0 j) = if ax_isr ci j = true then .null else .int 0) (hn : n = pc + 3) : ax_Sim ME ini own cc nL ret pc (a_new ci N n) := by
  subst hn
  intro E cal ls st h o ho
  obtain ⟨sh, I, RR⟩ := h
  cases ho
  refine ⟨fun _ => ⟨by simp, by rw [ax_slt_push sh (ci, N) I _ RR _]; omega⟩, fun p l e R s m args below meth c G base z Q h0 F hC hcl hsl hc0 hs0 w H locs Ls cells slots HK hl hS hcc hss => ?_⟩
  have hKn := F.2.2.2.2.2.1.1 ci _ hc
  rw [ax_slt_push sh (ci, N) I _ RR _] at hsl
  have hcc' : cells + h0.1.length = sh.length := hcc
  have hss' : slots + ax_slt h0 = ax_slt (sh, I, RR) := hss
  have hcl' : sh.length + 1 ≤ h0.1.length + R.cells := by simpa using hcl
  refine W.newcK F.1 F.2.1 F.2.2.2.1 (F.2.2.2.2.1 _ hw) (F.2.2.2.2.1 _ hw2) (F.2.2.2.2.1 _ hw3) rfl hd (by omega) (by show slots + N ≤ R.slots; have : ax_slt (sh, I, RR) + N ≤ ax_slt h0 + R.slots := hsl; omega) hKn.2.1 rfl fun H1 kC hkC e1 z1 o1 => ?_
  have hat : va_at G.1 vwCl (H.size, ax_cell G z.1 (ci, N) (fun _ => 0) (fun _ => none)) H1 := by
    rw [ax_cell_o G z.1 h100]
    refine ⟨_, hc, (u_born ty0 F.2.2.2.2.1 hin hKn hkC e1 hty).to (fun j hj => ?_)⟩
    rw [hdf j hj]
    show _ = (ax_fs z.1 ci N (fun _ => 0) (fun _ => none)).getD j .null
    rw [List.getD_eq_getElem?_getD, ax_fs_at z.1 ci hj]
    by_cases q : ax_isr ci j = true
    · rw [if_pos q, if_pos q]; rfl
    · rw [if_neg q, if_neg q]; rfl
  have HK1 := ax_ok_push HK hat z1 o1
  have hr : z.1 sh.length = H.size := by rw [HK.1]; exact HK.2.2.2.1 sh.length (Nat.le_refl _)
  have w1 := w H1 locs Ls (cells + 1) (slots + N) HK1 hl ⟨Nat.le_trans hS.1 (by omega), fun q g1 g2 => (o1 q (Nat.lt_of_lt_of_le g1 hS.1)).trans (hS.2.1 q g1 g2), hS.2.2⟩ (by simp; omega) (by rw [ax_slt_push sh (ci, N) I _ RR _]; show slots + N + ax_slt h0 = ax_slt (sh, I, RR) + N; omega)
  rw [← hr]
  exact w1

theorem sm_newai {N n : Nat} (hd : decode cc pc = .ok (.newarray .int, 2)) (hw : Cond.arrayClass .int ∈ ax_tbl) (hN : N ≤ 1000) (hn : n = pc + 2) : ax_Sim ME ini own cc nL ret pc (a_newa 100 N n) := by
  subst hn
  intro E cal ls st h o ho
  obtain ⟨sh, I, RR⟩ := h
  simp only [a_newa] at ho
  split at ho
  · rename_i x st1 sh1 I1 R1 he
    cases he
    split at ho
    · rename_i hx
      cases ho
      subst hx
      refine ⟨fun _ => ⟨by simp, by rw [ax_slt_push sh (100, N) I _ RR _]; omega⟩, fun p l e R s m args below meth c G base z Q h0 F hC hcl hsl hc0 hs0 w H locs Ls cells slots HK hl hS hcc hss => ?_⟩
      rw [ax_slt_push sh (100, N) I _ RR _] at hsl
      have hcc' : cells + h0.1.length = sh.length := hcc
      have hss' : slots + ax_slt h0 = ax_slt (sh, I, RR) := hss
      have hcl' : sh.length + 1 ≤ h0.1.length + R.cells := by simpa using hcl
      have hsl' : ax_slt (sh, I, RR) + N ≤ ax_slt h0 + R.slots := hsl
      have hN2 : N < 2 ^ 31 := by omega
      refine va_newaK (atype := .int) F.1 F.2.1 (F.2.2.2.2.1 _ hw) rfl hd rfl (nI_pos hN2) (nI_clamp hN2) (by show N * componentBytes .int ≤ _; simp [componentBytes]; omega) (by omega) (by omega) rfl fun H1 cA e1 z1 o1 hAr hNm => ?_
      have hcA : cA = G.2.1 := Option.some.inj (hNm.symm.trans (va_nm_int (F.2.2.2.2.2.1.2 0 _ rfl).2))
      subst hcA
      have hat : va_at G.1 vwCl (H.size, ax_cell G z.1 (100, N) (fun _ => 0) (fun _ => none)) H1 := by
        rw [ax_cell_i G z.1 rfl]
        exact e1
      have HK1 := ax_ok_push HK hat z1 o1
      have hr : z.1 sh.length = H.size := by rw [HK.1]; exact HK.2.2.2.1 sh.length (Nat.le_refl _)
      have w1 := w H1 locs Ls (cells + 1) (slots + N) HK1 hl ⟨Nat.le_trans hS.1 (by omega), fun q g1 g2 => (o1 q (Nat.lt_of_lt_of_le g1 hS.1)).trans (hS.2.1 q g1 g2), hS.2.2⟩ (by simp; omega) (by rw [ax_slt_push sh (100, N) I _ RR _]; show slots + N + ax_slt h0 = ax_slt (sh, I, RR) + N; omega)
      rw [← hr]
      exact w1
    · cases ho
  · cases ho
theorem sm_newac {N n : Nat} (hd : decode cc pc = .ok (.newarray .char, 2)) (hw : Cond.arrayClass .char ∈ ax_tbl) (hN : N ≤ 1000) (hn : n = pc + 2) : ax_Sim ME ini own cc nL ret pc (a_newa 101 N n) := by
  subst hn
  intro E cal ls st h o ho
  obtain ⟨sh, I, RR⟩ := h
  simp only [a_newa] at ho
  split at ho
  · rename_i x st1 sh1 I1 R1 he
    cases he
    split at ho
    · rename_i hx
      cases ho
      subst hx
      refine ⟨fun _ => ⟨by simp, by rw [ax_slt_push sh (101, N) I _ RR _]; omega⟩, fun p l e R s m args below meth c G base z Q h0 F hC hcl hsl hc0 hs0 w H locs Ls cells slots HK hl hS hcc hss => ?_⟩
      rw [ax_slt_push sh (101, N) I _ RR _] at hsl
      have hcc' : cells + h0.1.length = sh.length := hcc
      have hss' : slots + ax_slt h0 = ax_slt (sh, I, RR) := hss
      have hcl' : sh.length + 1 ≤ h0.1.length + R.cells := by simpa using hcl
      have hsl' : ax_slt (sh, I, RR) + N ≤ ax_slt h0 + R.slots := hsl
      have hN2 : N < 2 ^ 31 := by omega
      refine va_newaK (atype := .char) F.1 F.2.1 (F.2.2.2.2.1 _ hw) rfl hd rfl (nI_pos hN2) (nI_clamp hN2) (by show N * componentBytes .char ≤ _; simp [componentBytes]; omega) (by omega) (by omega) rfl fun H1 cA e1 z1 o1 hAr hNm => ?_
      have hcA : cA = G.2.2.1 := Option.some.inj (hNm.symm.trans (va_nm_char (F.2.2.2.2.2.1.2 1 _ rfl).2))
      subst hcA
      have hat : va_at G.1 vwCl (H.size, ax_cell G z.1 (101, N) (fun _ => 0) (fun _ => none)) H1 := by
        rw [ax_cell_c G z.1 rfl]
        exact e1
      have HK1 := ax_ok_push HK hat z1 o1
      have hr : z.1 sh.length = H.size := by rw [HK.1]; exact HK.2.2.2.1 sh.length (Nat.le_refl _)
      have w1 := w H1 locs Ls (cells + 1) (slots + N) HK1 hl ⟨Nat.le_trans hS.1 (by omega), fun q g1 g2 => (o1 q (Nat.lt_of_lt_of_le g1 hS.1)).trans (hS.2.1 q g1 g2), hS.2.2⟩ (by simp; omega) (by rw [ax_slt_push sh (101, N) I _ RR _]; show slots + N + ax_slt h0 = ax_slt (sh, I, RR) + N; omega)
      rw [← hr]
      exact w1
    · cases ho
  · cases ho
theorem sm_newq {N n idx : Nat} (hd : decode cc pc = .ok (.anewarray idx, 3)) (hw : Cond.classLink own idx "ShadowTailor$State" ∈ ax_tbl) (hw2 : Cond.arrayOver (.object "ShadowTailor$State") ∈ ax_tbl) (hN : N ≤ 1000) (hn : n = pc + 3) : ax_Sim ME ini own cc nL ret pc (a_newa 102 N n) := by
  subst hn
  intro E cal ls st h o ho
  obtain ⟨sh, I, RR⟩ := h
  simp only [a_newa] at ho
  split at ho
  · rename_i x st1 sh1 I1 R1 he
    cases he
    split at ho
    · rename_i hx
      cases ho
      subst hx
      refine ⟨fun _ => ⟨by simp, by rw [ax_slt_push sh (102, N) I _ RR _]; omega⟩, fun p l e R s m args below meth c G base z Q h0 F hC hcl hsl hc0 hs0 w H locs Ls cells slots HK hl hS hcc hss => ?_⟩
      rw [ax_slt_push sh (102, N) I _ RR _] at hsl
      have hcc' : cells + h0.1.length = sh.length := hcc
      have hss' : slots + ax_slt h0 = ax_slt (sh, I, RR) := hss
      have hcl' : sh.length + 1 ≤ h0.1.length + R.cells := by simpa using hcl
      have hsl' : ax_slt (sh, I, RR) + N ≤ ax_slt h0 + R.slots := hsl
      have hN2 : N < 2 ^ 31 := by omega
      have hcl9 : (Int32.ofNat N).toNatClampNeg = N := nI_clamp hN2
      refine W.anew F.1 F.2.1 F.2.2.2.1 (F.2.2.2.2.1 _ hw) (F.2.2.2.2.1 _ hw2) rfl hd rfl (nI_pos hN2) (by rw [hcl9]; omega) (by omega) (by rw [hcl9]; omega) fun cA kA comp f1 f2 f3 f4 => ?_
      rw [hcl9]
      generalize hH1 : H.push ({ cls := cA, slots := Array.replicate N .null, vm := .none } : Cell) = H1
      have z1 : H1.size = H.size + 1 := by rw [← hH1, Array.size_push]
      have e1 : H1[H.size]? = some (arrV cA N (fun _ => .null)) := by rw [← hH1, Array.getElem?_push_size, ← arrV_new]
      have o1 : ∀ q : Nat, q < H.size → H1[q]? = H[q]? := fun q hq => by rw [← hH1, Array.getElem?_push, if_neg (Nat.ne_of_lt hq)]
      obtain ⟨kA2, comp2, g1, g2, g3, g4⟩ := (F.2.2.2.2.2.1.2 2 _ rfl).2
      have hcA : cA = G.2.2.2 := Option.some.inj (f1.symm.trans g4)
      subst hcA
      have hat : va_at G.1 vwCl (H.size, ax_cell G z.1 (102, N) (fun _ => 0) (fun _ => none)) H1 := by
        rw [ax_cell_r G z.1 rfl]
        exact e1
      have HK1 := ax_ok_push HK hat z1 o1
      have hr : z.1 sh.length = H.size := by rw [HK.1]; exact HK.2.2.2.1 sh.length (Nat.le_refl _)
      have w1 := w H1 locs Ls (cells + 1) (slots + N) HK1 hl ⟨Nat.le_trans hS.1 (by omega), fun q g1 g2 => (o1 q (Nat.lt_of_lt_of_le g1 hS.1)).trans (hS.2.1 q g1 g2), hS.2.2⟩ (by simp; omega) (by rw [ax_slt_push sh (102, N) I _ RR _]; show slots + N + ax_slt h0 = ax_slt (sh, I, RR) + N; omega)
      rw [← hr]
      exact w1
    · cases ho
  · cases ho
theorem sm_aast {n : Nat} (hd : decode cc pc = .ok (.aastore, 1)) (hn : n = pc + 1) : ax_Sim ME ini own cc nL ret pc (a_aast n) := by
  subst hn
  intro E cal ls st h o ho
  obtain ⟨sh, I, RR⟩ := h
  simp only [a_aast] at ho
  split at ho
  · rename_i x i q st1 sh1 I1 R1 he
    cases he
    split at ho
    · rename_i c1 hc1
      split at ho
      · rename_i e1
        obtain ⟨e1, hx5⟩ := e1
        split at ho
        · cases ho
        · rename_i hin
          cases ho
          refine ⟨fun _ => ⟨Nat.le_refl _, Nat.le_refl _⟩, fun p l e R s m args below meth c G base z Q h0 F hC _ _ _ _ w H locs Ls cells slots HK hl hS hcc hss => ?_⟩
          have hat := ax_ok_at HK hc1
          rw [ax_cell_r G z.1 e1] at hat
          have hA : H[z.1 q]? = some (vp_cell _ (c1.2, .inr (.inr (.inr (.inr (fun j => (RR q j).map z.1)))))) := hat
          have hlt : i.toNatClampNeg < c1.2 := Nat.not_le.mp fun q => hin (Or.inr q)
          have hi0 : ¬ i < 0 := fun q => hin (Or.inl q)
          have hatv := ax_ok_at HK hx5
          rw [ax_cell_o G z.1 (by decide : (5 : Nat) < 100)] at hatv
          obtain ⟨r', hr', cellV, g1, g2, g3, -⟩ := hatv
          have hcls := (F.2.2.2.2.2.1.1 5 _ rfl).2
          obtain ⟨kA, comp, k1, k2, k3, -⟩ := (F.2.2.2.2.2.1.2 2 _ rfl).2
          have hcomp : comp = G.1.1 5 := Option.some.inj (k3.symm.trans hcls.1)
          subst hcomp
          obtain ⟨kC, hkC, -⟩ := hcls.2
          refine W.aast F.1 F.2.1 hA (fun q h => by cases h) (fun h => by cases h) k1 k2 rfl hkC ⟨hi0, by show _ < (arrV _ _ _).slots.size; rw [arrV_size]; exact hlt⟩ g1 (fun q h => by rw [g3] at h; cases h) (by rw [g2]; exact hkC) (by rw [g2]; exact va_assign hcls) rfl rfl hd fun H1 e1' z1 oq => ?_
          have hat1 : va_at G.1 vwCl (z.1 q, ax_cell G z.1 c1 (I q) (va_up (RR q) i.toNatClampNeg (some x))) H1 := by
            rw [ax_cell_r G z.1 e1]
            show H1[z.1 q]? = some (vp_cell _ _)
            rw [e1', vp_cell_q, vp_cell_q, arrV_store]
            congr 2
            funext q9
            by_cases hq : q9 = i.toNatClampNeg
            · subst hq
              simp [updV, va_up, va_rf]
            · simp [updV, va_up, hq]
          have HK1 := ax_ok_set HK hc1 hat1 z1 oq
          rw [ax_up_id I q] at HK1
          exact w H1 _ Ls cells slots HK1 hl (hS.put z1 oq (HK.2.1 q)) hcc hss
      · cases ho
    · cases ho
  · cases ho
theorem sm_tsw {lo hi dflt : Int} {offs : Array Int} {len : Nat} {ts : List Nat} {d : Nat} (hd : decode cc pc = .ok (.tableswitch dflt lo hi offs, len)) (hdf : (pc : Int) + dflt = (d : Int)) (hof : offs.toList = ts.map (fun t : Nat => (t : Int) - (pc : Int))) (hln : hi - lo + 1 = (ts.length : Int)) : ax_Sim ME ini own cc nL ret pc (a_tsw lo hi ts d) := by
  refine sm_pure (fun E cal ls st h o ho => ?_)
  simp only [a_tsw] at ho
  split at ho
  · rename_i x st1 h1 he
    cases he
    cases ho
    refine ⟨_, _, rfl, fun p l e R s m args below meth c G base z Q F H locs Ls cells slots hk hl hS w => ?_⟩
    by_cases hx : x.toInt < lo ∨ hi < x.toInt
    · rw [ax_sw, if_pos hx] at w
      exact lv_tableOut F.1 F.2.1 hd hx hdf w
    · have h1 : ¬ x.toInt < lo := fun q => hx (Or.inl q)
      have h2 : ¬ hi < x.toInt := fun q => hx (Or.inr q)
      have hk9 : (x.toInt - lo).toNat < ts.length := by omega
      rw [ax_sw, if_neg hx, ax_nth_eq, List.getElem?_eq_getElem hk9] at w
      refine lv_tableIn F.1 F.2.1 hd h1 h2 (off := (ts[(x.toInt - lo).toNat] : Int) - (pc : Int)) ?_ (tgt := ts[(x.toInt - lo).toNat]) (by omega) w
      rw [← Array.getElem?_toList, hof, List.getElem?_map, List.getElem?_eq_getElem hk9]
      rfl
  · cases ho
-- returns
theorem sm_iret (hd : decode cc pc = .ok (.ireturn, 1)) (hr : ret = some .int) : ax_Sim ME ini own cc nL ret pc a_iret := by
  intro E cal ls st h o ho
  simp only [a_iret] at ho
  split at ho
  · rename_i x h1 he
    cases he
    cases ho
    exact ⟨fun _ => rfl, fun p l e R s m args below meth c G base z Q h0 F hC k H locs Ls cells slots hk hl hS hc hs => k pc H locs Ls cells slots hk hS hc hs ⟨hd, _, hr, rfl⟩⟩
  · cases ho
theorem sm_zret (hd : decode cc pc = .ok (.ireturn, 1)) (hr : ret = some .boolean) : ax_Sim ME ini own cc nL ret pc a_zret := by
  intro E cal ls st h o ho
  simp only [a_zret] at ho
  split at ho
  · rename_i x h1 he
    cases he
    split at ho
    · rename_i hx
      cases ho
      exact ⟨fun _ => rfl, fun p l e R s m args below meth c G base z Q h0 F hC k H locs Ls cells slots hk hl hS hc hs => k pc H locs Ls cells slots hk hS hc hs ⟨hd, _, hr, by rcases hx with rfl | rfl <;> rfl⟩⟩
    · cases ho
  · cases ho
theorem ax_nar_char {x : Int32} (h : vp_nar .char x = x) : narrow .char (.int x) = .int x := by
  have e : narrow .char (.int x) = .int (vp_nar .char x) := rfl
  rw [e, h]
theorem sm_cret (hd : decode cc pc = .ok (.ireturn, 1)) (hr : ret = some .char) : ax_Sim ME ini own cc nL ret pc a_cret := by
  intro E cal ls st h o ho
  simp only [a_cret] at ho
  split at ho
  · rename_i x h1 he
    cases he
    split at ho
    · rename_i hx
      cases ho
      exact ⟨fun _ => rfl, fun p l e R s m args below meth c G base z Q h0 F hC k H locs Ls cells slots hk hl hS hc hs => k pc H locs Ls cells slots hk hS hc hs ⟨hd, _, hr, ax_nar_char hx⟩⟩
    · cases ho
  · cases ho
theorem sm_lret (hd : decode cc pc = .ok (.lreturn, 1)) (hr : ret = some .long) : ax_Sim ME ini own cc nL ret pc a_lret := by
  intro E cal ls st h o ho
  simp only [a_lret] at ho
  split at ho
  · rename_i x h1 he
    cases he
    cases ho
    exact ⟨fun _ => rfl, fun p l e R s m args below meth c G base z Q h0 F hC k H locs Ls cells slots hk hl hS hc hs => k pc H locs Ls cells slots hk hS hc hs ⟨hd, hr⟩⟩
  · cases ho
theorem sm_aret {ty : FieldType} (hd : decode cc pc = .ok (.areturn, 1)) (hr : ret = some (.array ty)) : ax_Sim ME ini own cc nL ret pc a_aret := by
  intro E cal ls st h o ho
  simp only [a_aret] at ho
  split at ho
  · rename_i x h1 he
    cases he
    cases ho
    exact ⟨fun _ => rfl, fun p l e R s m args below meth c G base z Q h0 F hC k H locs Ls cells slots hk hl hS hc hs => k pc H locs Ls cells slots hk hS hc hs ⟨hd, _, hr, Or.inr ⟨_, rfl⟩⟩⟩
  · cases ho
theorem sm_vret (hd : decode cc pc = .ok (.return_, 1)) (hr : ret = none) : ax_Sim ME ini own cc nL ret pc a_vret := by
  intro E cal ls st h o ho
  simp only [a_vret] at ho
  split at ho
  · rename_i h1 he
    cases he
    cases ho
    exact ⟨fun _ => rfl, fun p l e R s m args below meth c G base z Q h0 F hC k H locs Ls cells slots hk hl hS hc hs => k pc H locs Ls cells slots hk hS hc hs ⟨hd, hr⟩⟩
  · cases ho
theorem sm_oinit {n idx : Nat} (hd : decode cc pc = .ok (.invokespecial idx, 3)) (hw : Cond.methodLink own idx Lib.objectInit ∈ ax_tbl) (hw2 : Cond.instanceMethod Lib.objectInit ∈ ax_tbl) (hw3 : Cond.code Lib.objectInit ⟨#[0xb1]⟩ 1 none ∈ ax_tbl) (hn : n = pc + 3) : ax_Sim ME ini own cc nL ret pc (a_oinit n) := by
  subst hn
  refine sm_pure (fun E cal ls st h o ho => ?_)
  simp only [a_oinit] at ho
  split at ho
  · rename_i q st1 h1 he
    cases he
    split at ho
    · rename_i hc8
      cases ho
      refine ⟨_, _, rfl, fun p l e R s m args below meth c G base z Q F H locs Ls cells slots hk hl hS w => ?_⟩
      refine W.objInit F.1 F.2.1 F.2.2.2.1 (F.2.2.2.2.1 _ hw) (F.2.2.2.2.1 _ hw2) (F.2.2.2.2.1 _ hw3) rfl (by rw [F.2.2.1]; exact hl.2.1.1) rfl hd F.2.2.2.2.2.2.1.1 ?_ w
      rw [ax_cats_map]
      have := F.2.2.2.2.2.2.1.2
      show 2 * 0 + _ + 12 ≤ _
      omega
    · cases ho
  · cases ho
end SM3

