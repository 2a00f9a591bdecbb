/-! the library's methods on the text constant -/
def ax_rm2 (d mc ms : Nat) : Room := { frames := d + 4, cells := mc, slots := ms, locals := 45 * d + 100 }
def ax_XtOk2 (ME : Nat → Option ax_M) (PR : ax_PR) (XT : ax_XT) (l : Launch) (E : ax_E) : Prop := ∀ (y : Nat) (mt : ax_M), PR y = none → ME y = some mt → mt.2.2.1 ≤ 26 ∧ ∀ (as : List Value) (h : ax_H) (r : Option Value) (h' : ax_H), XT y as h = some (r, h') → ∀ (d : Nat) (G : ax_G) (base : Nat) (z : ax_Z),
  Met l mt.1 (ax_wsm mt) (ax_rm2 (d + 1) (h'.1.length - h.1.length) (ax_slt h' - ax_slt h)) (ax_Pc G base z E as h) (ax_Qc G base z r h') (h'.1.length - h.1.length) (ax_slt h' - ax_slt h) (fun q => base ≤ q)
theorem ax_cal_ok2 {ME : Nat → Option ax_M} {PR : ax_PR} {XT : ax_XT} {E : ax_E} (l : Launch) (hP : ax_PrOk ME PR) (hX : ax_XtMono XT) (hXo : ax_XtOk2 ME PR XT l E) : ∀ (d : Nat) (R : Room), d + 5 ≤ R.frames → 45 * d + 145 ≤ R.locals → ax_CalOk ME l R E (ax_calG PR XT E d)
  | 0, R, _, _ => fun y mt hm as h r h' e => by cases e
  | d + 1, R, hR1, hR2 => fun y mt hm as h r h' e => by
    refine ⟨ax_cal_mono hP hX (d + 1) y as h r h' e, fun G base z => ⟨ax_rm2 (d + 1) (h'.1.length - h.1.length) (ax_slt h' - ax_slt h), rfl, rfl, ?_⟩⟩
    have hmono := ax_cal_mono hP hX (d + 1) y as h r h' e
    simp only [ax_calG] at e
    cases hq : PR y with
    | none =>
      rw [hq] at e
      obtain ⟨h26, hMt⟩ := hXo y mt hq hm
      exact ⟨⟨hR1, by show 8 + (mt.2.2.1 + 11) + (45 * (d + 1) + 100) ≤ R.locals; omega⟩, hMt as h r h' e d G base z⟩
    | some q =>
      rw [hq] at e
      obtain ⟨mt', hm', hnl, h26, hpl, ini, hin, hT⟩ := hP y q hq
      have hmt : mt = mt' := Option.some.inj (hm.symm.trans hm')
      subst hmt
      refine ⟨⟨hR1, by show 8 + (mt.2.2.1 + 11) + (45 * (d + 1) + 100) ≤ R.locals; omega⟩, ?_⟩
      by_cases hc : ax_cats as = as.length ∧ as.length ≤ q.2
      · simp only [if_pos hc] at e
        obtain ⟨n, hn⟩ := ax_res_of e
        refine Met.ofW (cc := mt.2.1) (maxL := mt.2.2.1) (ret := mt.2.2.2) hpl rfl ?_
        intro p e9 s m args below meth c s₁ B hml hv
        obtain ⟨rfl, hok, hK, hXX, hNN⟩ := hv
        obtain ⟨Ls, hent, hloc⟩ := ax_entry (z := z) hc.1 hc.2 m
        have hb := B.bytes
        have hlocks := B.notSynchronized
        have F : ax_Fr ini mt.1.cls mt.2.1 q.2 mt.2.2.2 p (ax_rm2 (d + 1) (h'.1.length - h.1.length) (ax_slt h' - ax_slt h)) s m (as.map (ax_rv z)).toArray meth c G base z E := ⟨B.exec, hb, by rw [← hnl]; exact hml, findClass_of_methodNamed B.named, hNN.use _, hK, ⟨by show 1 ≤ d + 1 + 4; omega, by show 64 ≤ 45 * (d + 1) + 100; omega⟩, fun hi => by rw [(name_of_methodNamed B.named B.method).1]; exact hin hi, B.returns, hXX⟩
        have hC := ax_cal_ok2 l hP hX hXo d (ax_rm2 (d + 1) (h'.1.length - h.1.length) (ax_slt h' - ax_slt h)) (by show d + 5 ≤ d + 1 + 4; omega) (by show 45 * d + 145 ≤ 45 * (d + 1) + 100; omega)
        rw [hnl, hent]
        have hHo : ax_Ho mt.2.1 mt.2.2.2 p l e9 (ax_rm2 (d + 1) (h'.1.length - h.1.length) (ax_slt h' - ax_slt h)) s m (as.map (ax_rv z)).toArray below meth c G base z (MQ below (ax_Qc G base z r h') (as.map (ax_rv z)).toArray s (h'.1.length - h.1.length) (ax_slt h' - ax_slt h) (fun q => base ≤ q)) h r h' := by
          intro pc H locs Ls' cells slots hk hS hcc hss hrc
          have ec : cells = h'.1.length - h.1.length := by omega
          have es : slots = ax_slt h' - ax_slt h := by omega
          rw [← ec, ← es]
          have hqq : ∀ t : State, t.heap = H → s.WarmedH t.vm → ax_Qc G base z r h' (as.map (ax_rv z)).toArray s (.returned (r.map (ax_rv z))) t := fun t ht _ => ⟨rfl, by rw [ht]; exact hk, hS.F ht⟩
          cases r with
          | none => exact W.vret B.exec hb (B.returns.trans hrc.2) hqq hS.2.2 hrc.1
          | some v =>
            cases v with
            | int x =>
              obtain ⟨h1, ty, h2, h3⟩ := hrc
              exact W.zret B.exec hb (B.returns.trans h2) h3 hqq hS.2.2 h1
            | long x => exact W.lret B.exec hb (B.returns.trans hrc.2) hqq hS.2.2 hrc.1
            | ref x =>
              obtain ⟨h1, ty, h2, h3⟩ := hrc
              exact W.aret B.exec hb (B.returns.trans h2) h3 (Or.inr ⟨_, rfl⟩) hqq hS.2.2 h1
            | float x => exact absurd hrc (fun h => h)
            | double x => exact absurd hrc (fun h => h)
            | null => exact absurd hrc (fun h => h)
            | retAddr x => exact absurd hrc (fun h => h)
        have hW := ax_run_sim (ax_cal_mono hP hX d) hT F hC (h0 := h) (Q := MQ below (ax_Qc G base z r h') (as.map (ax_rv z)).toArray s (h'.1.length - h.1.length) (ax_slt h' - ax_slt h) (fun q => base ≤ q)) (below := below) (e := e9) (by show h'.1.length ≤ h.1.length + (h'.1.length - h.1.length); omega) (by show ax_slt h' ≤ ax_slt h + (ax_slt h' - ax_slt h); omega) hHo n _ hn (Nat.le_refl _) (Nat.le_refl _)
        exact hW s.heap [] Ls 0 0 hok hloc va_S.rf (Nat.zero_add _) (Nat.zero_add _)
      · simp only [if_neg hc] at e; cases e
/-- a contract out of a walk -/
theorem x_metV {l : Launch} {E : ax_E} {mt : ax_M} {as : List Value} {r : Option Value} {h : ax_H} {R : Room} (hR : 1 ≤ R.frames ∧ 64 ≤ R.locals) (hpl : plainName mt.1.cls = true) (hc : ax_cats as = as.length) (hn : as.length ≤ mt.2.2.1)
    (body : ∀ {p : Program} {e : Env} {s : State} {m : MethodId} {args : Array Value} {below : List Frame} {meth : Method} {c : Code} {G : ax_G} {base : Nat} {z : ax_Z} {Q : State → Prop}, ax_Fr false mt.1.cls mt.2.1 mt.2.2.1 mt.2.2.2 p R s m args meth c G base z E → ax_Ho mt.2.1 mt.2.2.2 p l e R s m args below meth c G base z Q h r h → ax_Wt mt.2.2.1 p l e R s m args below meth c G base z Q h (0, ax_ent as mt.2.2.1, [], h)) (G : ax_G) (base : Nat) (z : ax_Z) : Met l mt.1 (ax_wsm mt) R (ax_Pc G base z E as h) (ax_Qc G base z r h) 0 0 (fun q => base ≤ q) := by
  refine Met.ofW (cc := mt.2.1) (maxL := mt.2.2.1) (ret := mt.2.2.2) hpl rfl ?_
  intro p e9 s m args below meth c s₁ B hml hv
  obtain ⟨rfl, hok, hK, hXX, hNN⟩ := hv
  obtain ⟨Ls, hent, hloc⟩ := ax_entry (z := z) hc hn m
  have hb := B.bytes
  have F : ax_Fr false mt.1.cls mt.2.1 mt.2.2.1 mt.2.2.2 p R s m (as.map (ax_rv z)).toArray meth c G base z E := ⟨B.exec, hb, hml, findClass_of_methodNamed B.named, hNN.use _, hK, hR, (fun hi => by cases hi), B.returns, hXX⟩
  rw [hent]
  have hHo : ax_Ho mt.2.1 mt.2.2.2 p l e9 R s m (as.map (ax_rv z)).toArray below meth c G base z (MQ below (ax_Qc G base z r h) (as.map (ax_rv z)).toArray s 0 0 (fun q => base ≤ q)) h r h := by
    intro pc H locs Ls' cells slots hk hS hcc hss hrc
    have ec : cells = 0 := by omega
    have es : slots = 0 := by omega
    subst ec
    subst es
    have hqq : ∀ t : State, t.heap = H → s.WarmedH t.vm → ax_Qc G base z r h (as.map (ax_rv z)).toArray s (.returned (r.map (ax_rv z))) t := fun t ht _ => ⟨rfl, by rw [ht]; exact hk, hS.F ht⟩
    cases r with
    | none => exact W.vret B.exec hb (B.returns.trans hrc.2) hqq hS.2.2 hrc.1
    | some v =>
      cases v with
      | int x =>
        obtain ⟨h1, ty, h2, h3⟩ := hrc
        exact W.zret B.exec hb (B.returns.trans h2) h3 hqq hS.2.2 h1
      | long x => exact W.lret B.exec hb (B.returns.trans hrc.2) hqq hS.2.2 hrc.1
      | ref x =>
        obtain ⟨h1, ty, h2, h3⟩ := hrc
        exact W.aret B.exec hb (B.returns.trans h2) h3 (Or.inr ⟨_, rfl⟩) hqq hS.2.2 h1
      | float x => exact absurd hrc (fun h => h)
      | double x => exact absurd hrc (fun h => h)
      | null => exact absurd hrc (fun h => h)
      | retAddr x => exact absurd hrc (fun h => h)
  exact body F hHo s.heap [] Ls 0 0 hok hloc va_S.rf (Nat.zero_add _) (Nat.zero_add _)
abbrev mtCo : ax_M := (yJ0_coder_7d493, cJ0_coder_7d493, 1, some .byte)
abbrev mtLa : ax_M := (yJ0_isLatin1_aae02, cJ0_isLatin1_aae02, 1, some .boolean)
abbrev mtLe : ax_M := (yJ0_length_8abf5, cJ0_length_8abf5, 1, some .int)
theorem x_coder {l : Launch} {E : ax_E} {h : ax_H} {R : Room} (hR : 1 ≤ R.frames ∧ 64 ≤ R.locals) : ∀ (G : ax_G) (base : Nat) (z : ax_Z), Met l mtCo.1 (ax_wsm mtCo) R (ax_Pc G base z E [.retAddr 1] h) (ax_Qc G base z (some (.int 0)) h) 0 0 (fun q => base ≤ q) := by
  refine x_metV hR (by decide +kernel) rfl (by decide) ?_
  intro p e s m args below meth c G base z Q F hHo H locs Ls cells slots HK hl hS hcc hss
  obtain ⟨hx, hb, hml, hown, hts, hK, -, -, hret, -, -, -, adV, g1, g2, g3, g4⟩ := F
  have hL0 : Ls[0]? = some (.val (.ref z.2.2)) := hl.2.2 0 (.retAddr 1) rfl (by intro q; cases q)
  show W p l e R s m args below meth c H locs cells slots Q (F0 m 0 Ls [])
  refine va_gets hx hb g3 hS hown (ref := "java/lang/String") (index := 38) (hts _ (by decide +kernel)) (fun _ q => q) (by decide +kernel) ?_
  refine lv_if_eq hx hb (off := 10) (tgt := 13) (by decide +kernel) rfl (fun q => absurd q (by decide)) (fun _ => ?_)
  refine lv_aload_n hx hb (k := 0) (i := 0) (by decide +kernel) rfl hL0 ?_
  refine vk_getf hx hb (g2.1 0 (by decide)).2.1 hS hown (ref := "java/lang/String") (index := 15) (hts _ (by decide +kernel)) (fun _ q => q) (by decide +kernel) ?_
  refine lv_goto hx hb (off := 4) (tgt := 14) (by decide +kernel) rfl ?_
  exact hHo 14 H locs Ls cells slots HK hS hcc hss ⟨by decide +kernel, .byte, rfl, by decide⟩
theorem x_latin {l : Launch} {E : ax_E} {h : ax_H} {R : Room} (hR : 1 ≤ R.frames ∧ 64 ≤ R.locals) : ∀ (G : ax_G) (base : Nat) (z : ax_Z), Met l mtLa.1 (ax_wsm mtLa) R (ax_Pc G base z E [.retAddr 1] h) (ax_Qc G base z (some (.int 1)) h) 0 0 (fun q => base ≤ q) := by
  refine x_metV hR (by decide +kernel) rfl (by decide) ?_
  intro p e s m args below meth c G base z Q F hHo H locs Ls cells slots HK hl hS hcc hss
  obtain ⟨hx, hb, hml, hown, hts, hK, -, -, hret, -, -, -, adV, g1, g2, g3, g4⟩ := F
  have hL0 : Ls[0]? = some (.val (.ref z.2.2)) := hl.2.2 0 (.retAddr 1) rfl (by intro q; cases q)
  show W p l e R s m args below meth c H locs cells slots Q (F0 m 0 Ls [])
  refine va_gets hx hb g3 hS hown (ref := "java/lang/String") (index := 38) (hts _ (by decide +kernel)) (fun _ q => q) (by decide +kernel) ?_
  refine lv_if_eq hx hb (off := 14) (tgt := 17) (by decide +kernel) rfl (fun q => absurd q (by decide)) (fun _ => ?_)
  refine lv_aload_n hx hb (k := 0) (i := 0) (by decide +kernel) rfl hL0 ?_
  refine vk_getf hx hb (g2.1 0 (by decide)).2.1 hS hown (ref := "java/lang/String") (index := 15) (hts _ (by decide +kernel)) (fun _ q => q) (by decide +kernel) ?_
  refine lv_if_ne hx hb (off := 7) (tgt := 17) (by decide +kernel) rfl (fun q => absurd rfl q) (fun _ => ?_)
  refine lv_iconst (v := 1) hx hb (show decode cJ0_isLatin1_aae02 13 = .ok (.iconst 1, 1) by decide +kernel) (by decide) ?_
  refine lv_goto hx hb (off := 4) (tgt := 18) (by decide +kernel) rfl ?_
  exact hHo 18 H locs Ls cells slots HK hS hcc hss ⟨by decide +kernel, .boolean, rfl, by decide⟩
/-- the methods that are called on the text constant -/
def x_ME : Nat → Option ax_M := fun y => if y = 0 then some mtCo else if y = 1 then some mtLa else none
def x_cal : ax_Cal := fun y as h => if y = 0 ∧ as = [.retAddr 1] then some (some (.int 0), h) else if y = 1 ∧ as = [.retAddr 1] then some (some (.int 1), h) else none
theorem x_calOk {l : Launch} {E : ax_E} {R : Room} (hR : 4 ≤ R.frames ∧ 140 ≤ R.locals) : ax_CalOk x_ME l R E x_cal := by
  intro y mt hm as h r h' e
  unfold x_cal at e
  by_cases c0 : y = 0 ∧ as = [.retAddr 1]
  · rw [if_pos c0] at e
    obtain ⟨rfl, rfl⟩ := c0
    cases e
    cases hm
    refine ⟨⟨Nat.le_refl _, Nat.le_refl _⟩, fun G base z => ⟨{ frames := 2, cells := 0, slots := 0, locals := 100 }, (Nat.sub_self _).symm, (Nat.sub_self _).symm, ⟨by show 2 + 1 ≤ _; omega, by show 8 + (1 + 11) + 100 ≤ _; omega⟩, ?_⟩⟩
    rw [Nat.sub_self, Nat.sub_self]
    exact x_coder ⟨by decide, by decide⟩ G base z
  · rw [if_neg c0] at e
    by_cases c1 : y = 1 ∧ as = [.retAddr 1]
    · rw [if_pos c1] at e
      obtain ⟨rfl, rfl⟩ := c1
      cases e
      cases hm
      refine ⟨⟨Nat.le_refl _, Nat.le_refl _⟩, fun G base z => ⟨{ frames := 2, cells := 0, slots := 0, locals := 100 }, (Nat.sub_self _).symm, (Nat.sub_self _).symm, ⟨by show 2 + 1 ≤ _; omega, by show 8 + (1 + 11) + 100 ≤ _; omega⟩, ?_⟩⟩
      rw [Nat.sub_self, Nat.sub_self]
      exact x_latin ⟨by decide, by decide⟩ G base z
    · rw [if_neg c1] at e
      cases e
theorem x_length2 {l : Launch} {E : ax_E} {h : ax_H} {R : Room} (hR : 4 ≤ R.frames ∧ 140 ≤ R.locals) : ∀ (G : ax_G) (base : Nat) (z : ax_Z), Met l mtLe.1 (ax_wsm mtLe) R (ax_Pc G base z E [.retAddr 1] h) (ax_Qc G base z (some (.int 97)) h) 0 0 (fun q => base ≤ q) := by
  refine x_metV ⟨by omega, by omega⟩ (by decide +kernel) rfl (by decide) ?_
  intro p e s m args below meth c G base z Q F hHo H locs Ls cells slots HK hl hS hcc hss
  have w9 : ax_Wt 1 p l e R s m args below meth c G base z Q h (9, [.retAddr 1], [.int 0, .int 97], h) := by
    intro H locs Ls cells slots HK hl hS hcc hss
    show W p l e R s m args below meth c H locs cells slots Q (F0 m 9 Ls [.int 0, .int 97])
    refine lv_ishr F.1 F.2.1 (by decide +kernel) ?_
    exact hHo 10 H locs Ls cells slots HK hS hcc hss ⟨by decide +kernel, .int, rfl, by decide⟩
  have w6 : ax_Wt 1 p l e R s m args below meth c G base z Q h (6, [.retAddr 1], [.retAddr 1, .int 97], h) := ((sm_callX (ME := x_ME) (ini := false) (own := RJ0) (cc := cJ0_length_8abf5) (nL := 1) (ret := some .int) (pc := 6) (y := 0) (k := 0) (n := 9) (idx := 335) (mt := mtCo) (by decide +kernel) rfl (by decide +kernel) (by decide +kernel) (by decide +kernel) (by decide +kernel) (by decide +kernel) ⟨by decide +kernel, by decide +kernel, by decide +kernel⟩ rfl) E x_cal [.retAddr 1] [.retAddr 1, .int 97] h (.inl (9, [.retAddr 1], [.int 0, .int 97], h)) rfl).2 p l e R s m args below meth c G base z Q h F (x_calOk hR) (Nat.le_add_right _ _) (Nat.le_add_right _ _) (Nat.le_refl _) (Nat.le_refl _) w9
  obtain ⟨hx, hb, hml, hown, hts, hK, -, -, hret, -, -, -, adV, g1, g2, g3, g4⟩ := id F
  have hL0 : Ls[0]? = some (.val (.ref z.2.2)) := hl.2.2 0 (.retAddr 1) rfl (by intro q; cases q)
  show W p l e R s m args below meth c H locs cells slots Q (F0 m 0 Ls [])
  refine lv_aload_n hx hb (k := 0) (i := 0) (by decide +kernel) rfl hL0 ?_
  refine vk_getf hx hb (g2.1 0 (by decide)).2.2.1 hS hown (ref := "java/lang/String") (index := 9) (hts _ (by decide +kernel)) (fun _ q => q) (by decide +kernel) ?_
  refine va_tlen hx hb (g2.1 0 (by decide)).2.2.2 hS (v := 97) rfl (by decide +kernel) ?_
  refine lv_aload_n hx hb (k := 0) (i := 0) (by decide +kernel) rfl hL0 ?_
  exact w6 H locs Ls cells slots HK hl hS hcc hss
/-! static methods with the text's bytes -/
abbrev mtC3 : ax_M := (yJ3_checkIndex_8e157, cJ3_checkIndex_8e157, 3, some .int)
abbrev mtC0 : ax_M := (yJ0_checkIndex_df160, cJ0_checkIndex_df160, 2, none)
abbrev mtC1 : ax_M := (yJ1_charAt_3b067, cJ1_charAt_3b067, 2, some .char)
abbrev mtCh : ax_M := (yJ0_charAt_5068e, cJ0_charAt_5068e, 2, some .char)
def x_P (G : ax_G) (base : Nat) (z : ax_Z) (E : ax_E) (adV : Nat) (as : List Value) (h : ax_H) : Array Value → State → Prop := fun v U => v = as.toArray ∧ ax_ok G base z.1 h U.heap ∧ va_K G.1 vwCl (ax_tys G) U ∧ ax_X E base z U ∧ ax_N U ∧ va_T .byte adV 97 (fun j => .int (ax_tb.getD j 0)) (fun q => base ≤ q) U U.heap
theorem x_blind (G : ax_G) (base : Nat) (z : ax_Z) (E : ax_E) (adV : Nat) (as : List Value) (h : ax_H) : FrameBlind (x_P G base z E adV as h) := fun a U g mk q => ⟨q.1, q.2.1, va_K.moved (u := U) (U := U.calling g mk a) (Vm.Alike.refl U.vm) q.2.2.1, ax_X.same (s := U) (U := U.calling g mk a) rfl rfl q.2.2.2.1, fun w hw => ax_N.warm (s := U) (U := U.calling g mk a) (ax_warm_of rfl) q.2.2.2.2.1 w hw _, va_T.moved (u := U) (U := U.calling g mk a) (Vm.Alike.refl U.vm) q.2.2.2.2.2⟩
theorem x_pre {G : ax_G} {base : Nat} {z : ax_Z} {E : ax_E} {adV : Nat} {as : List Value} {h : ax_H} {s : State} {args : Array Value} {H : Heap} {locs : List Loc} (hts : ∀ w ∈ ax_tbl, w.before args s = true) (hK : va_K G.1 vwCl (ax_tys G) s) (hX : ax_X E base z s) (hT : va_T .byte adV 97 (fun j => .int (ax_tb.getD j 0)) (fun q => base ≤ q) s s.heap) (HK : ax_ok G base z.1 h H) (hS : va_S (fun q => base ≤ q) s.heap H locs) : ∀ U : State, U.heap = H → s.WarmedH U.vm → x_P G base z E adV as h as.toArray U := by
  intro U hU hW
  have hb := hX.2.2.1
  refine ⟨rfl, by rw [hU]; exact HK, va_K.moved hW.alike hK, ax_X.moved hW (by rw [hU, HK.1]; omega) (fun a ha => ?_) hX, fun w hw => ax_N.warm hW hts w hw _, (va_T.moved hW.alike hT).kept (fun a ha hna => ?_)⟩
  · rw [hU]
    exact hS.2.1 a (by omega) (by show ¬ base ≤ a; omega)
  · rw [hU]
    exact hS.2.1 a ha hna
/-- a static call -/
theorem x_callS {p : Program} {l : Launch} {e : Env} {R : Room} {s : State} {m : MethodId} {args : Array Value} {below : List Frame} {meth : Method} {c : Code} {G : ax_G} {base : Nat} {z : ax_Z} {Q : State → Prop} {E : ax_E} {adV : Nat} {As : List Value} {h : ax_H} {H : Heap} {locs : List Loc} {Ls : Array Slot} {cc : ByteArray} {nL pc k idx : Nat} {own : String} {mt : ax_M} {rm : Room} {r : Option Value} {rest : List Value}
    (hx : p.tables.exec = Jvm.exec) (hb : c.code = cc) (hml : c.maxLocals = nL) (hown : s.vm.findClass own = some m.cls) (hts : ∀ w ∈ ax_tbl, w.before args s = true) (hM : Met l mt.1 (ax_wsm mt) rm (x_P G base z E adV As h) (ax_Qc G base z r h) 0 0 (fun q => base ≤ q)) (r1 : rm.cells = 0) (r2 : rm.slots = 0) (r3 : rm.frames + 1 ≤ R.frames ∧ 8 + (mt.2.2.1 + 11) + rm.locals ≤ R.locals)
    (hd : decode cc pc = .ok (.invokestatic idx, 3)) (hw : Cond.methodLink own idx mt.1 ∈ ax_tbl) (hw2 : Cond.static mt.1 ∈ ax_tbl) (hw3 : Cond.initialized mt.1.cls ∈ ax_tbl) (hw4 : Cond.code mt.1 mt.2.1 mt.2.2.1 mt.2.2.2 ∈ ax_tbl) (hdd : mt.1.cls ≠ "java/lang/invoke/MethodHandle" ∧ mt.1.cls ≠ "java/lang/invoke/VarHandle" ∧ (parseMethodDescriptor mt.1.desc).map (fun d => d.parameters.length) = some k) (hk : As.length = k) (hLs : Ls.size = nL) (hrest : (rest.map fun v => v.category).sum ≤ 8)
    (hK : va_K G.1 vwCl (ax_tys G) s) (hX : ax_X E base z s) (hT : va_T .byte adV 97 (fun j => .int (ax_tb.getD j 0)) (fun q => base ≤ q) s s.heap) (HK : ax_ok G base z.1 h H) (hS : va_S (fun q => base ≤ q) s.heap H locs)
    (w : ∀ (H' : Heap) (locs' : List Loc), ax_ok G base z.1 h H' → va_S (fun q => base ≤ q) s.heap H' locs' → W p l e R s m args below meth c H' locs' 0 0 Q (F0 m (pc + 3) Ls ((r.map (ax_rv z)).toList ++ rest))) : W p l e R s m args below meth c H locs 0 0 Q (F0 m pc Ls (As.reverse ++ rest)) := by
  have hrun := va_runS (As := As) (rest := rest) (g := F0 m pc Ls (As.reverse ++ rest)) (n := k) (nL := nL) ⟨hx, hb, hml, hown, hts⟩ hM ⟨callB_of k hts (ax_goodm hw4) rfl r1 r2 (hts _ hw3) (hts _ hw) hdd r3, hts _ hw2⟩ ⟨x_blind _ _ _ _ _ _ _, x_pre hts hK hX hT HK hS⟩ (locs := locs) (cells := 0) (slots := 0) (e := e) (below := below) (meth := meth)
    rfl hk hLs rfl (by show 2 * 0 + _ ≤ 8; omega) hd (by omega)
  intro T hT' X
  obtain ⟨v, st₀, t, T', L, g0, X', hL, e1, e2, ⟨hv, hok, hz, hk'⟩, st⟩ := hrun T hT' X
  have hv : v = r.map (ax_rv z) := Outcome.returned.inj hv
  subst hv
  rw [g0] at hz hk'
  obtain ⟨t2, a1, b1⟩ := w T'.heap (locs ++ L) (by rw [e1]; exact hok) ⟨Nat.le_trans hS.1 (by rw [e1]; exact hz), fun q g1 g2 => by rw [e1, hk' q (Nat.lt_of_lt_of_le g1 hS.1) g2]; exact hS.2.1 q g1 g2, fun q hq => by
      rcases List.mem_append.mp hq with g | g
      · exact hS.2.2 q g
      · exact hL q g⟩ T' rfl X'
  exact ⟨t2, st t2 a1, b1⟩
