/-! charAt on the text constant -/
section XC
variable {l : Launch} {E : ax_E} {h : ax_H}
theorem x_check3 {R : Room} (G : ax_G) (base : Nat) (z : ax_Z) (adV : Nat) {i : Nat} (hi : i < 97) {w : Value} (hw : w = .null ∨ ∃ t, w = .ref t) : Met l mtC3.1 (ax_wsm mtC3) R (x_P G base z E adV [.int (nI i), .int 97, w] h) (ax_Qc G base z (some (.int (nI i))) h) 0 0 (fun q => base ≤ q) := by
  refine Met.ofW (cc := mtC3.2.1) (maxL := mtC3.2.2.1) (ret := mtC3.2.2.2) (by decide +kernel) rfl ?_
  intro p e s m args below meth c s₁ B hml hv
  obtain ⟨rfl, hok, hK, hXX, hNN, hT⟩ := hv
  have hx := B.exec
  have hb : c.code = cJ3_checkIndex_8e157 := B.bytes
  have hlen : (lg_sl [Value.int (nI i), .int 97, w]).length ≤ 3 := by
    rcases hw with rfl | ⟨t, rfl⟩ <;> exact Nat.le_of_ble_eq_true rfl
  have hl := lv_entry ([Value.int (nI i), .int 97, w]) (n := 3) hlen
  rw [lg_entry_eq]
  generalize (lg_sl ([Value.int (nI i), .int 97, w]) ++ List.replicate (3 - (lg_sl ([Value.int (nI i), .int 97, w])).length) Slot.unset).toArray = ls at hl ⊢
  have h0 : ls[0]? = some (.val (.int (nI i))) := hl.2.2 (0, .int (nI i)) (by simp [lv_args])
  have h1 : ls[1]? = some (.val (.int 97)) := hl.2.2 (1, .int 97) (by simp [lv_args, Value.category])
  have hS : va_S (fun q => base ≤ q) s.heap s.heap [] := va_S.rf
  show W p l e R s m _ below meth c s.heap [] 0 0 _ (F0 m 0 ls [])
  refine lv_iload_n hx hb (k := 0) (i := 0) (by decide +kernel) rfl h0 ?_
  refine lv_if_lt hx hb (off := 8) (tgt := 9) (by decide +kernel) rfl (fun q => absurd q (nI_pos (by omega))) (fun _ => ?_)
  refine lv_iload_n hx hb (k := 0) (i := 0) (by decide +kernel) rfl h0 ?_
  refine lv_iload_n hx hb (k := 1) (i := 1) (by decide +kernel) rfl h1 ?_
  refine lv_icmp_lt hx hb (off := 10) (tgt := 16) (by decide +kernel) rfl (fun _ => ?_) (fun q => absurd (nI_lt (b := 97) hi (by omega)) q)
  refine lv_iload_n hx hb (k := 0) (i := 0) (by decide +kernel) rfl h0 ?_
  exact W.zret hx hb B.returns (ty := .int) rfl (fun t ht _ => ⟨rfl, by rw [ht]; exact hok, hS.F ht⟩) hS.2.2 (by decide +kernel)
theorem x_check0 {R : Room} (hR : 1 ≤ R.frames ∧ 30 ≤ R.locals) (G : ax_G) (base : Nat) (z : ax_Z) (adV : Nat) {i : Nat} (hi : i < 97) : Met l mtC0.1 (ax_wsm mtC0) R (x_P G base z E adV [.int (nI i), .int 97] h) (ax_Qc G base z none h) 0 0 (fun q => base ≤ q) := by
  refine Met.ofW (cc := mtC0.2.1) (maxL := mtC0.2.2.1) (ret := mtC0.2.2.2) (by decide +kernel) rfl ?_
  intro p e s m args below meth c s₁ B hml hv
  obtain ⟨rfl, hok, hK, hXX, hNN, hT⟩ := hv
  have hx := B.exec
  have hb : c.code = cJ0_checkIndex_df160 := B.bytes
  have hown : s.vm.findClass RJ0 = some m.cls := findClass_of_methodNamed B.named
  have hts := hNN.use ([Value.int (nI i), .int 97] : List Value).toArray
  obtain ⟨-, -, -, adV', g1, g2, g3, g4⟩ := id hXX
  have hl := lv_entry ([Value.int (nI i), .int 97]) (n := 2) (Nat.le_of_ble_eq_true rfl)
  rw [lg_entry_eq]
  generalize (lg_sl ([Value.int (nI i), .int 97]) ++ List.replicate (2 - (lg_sl ([Value.int (nI i), .int 97])).length) Slot.unset).toArray = ls at hl ⊢
  have h0 : ls[0]? = some (.val (.int (nI i))) := hl.2.2 (0, .int (nI i)) (by simp [lv_args])
  have h1 : ls[1]? = some (.val (.int 97)) := hl.2.2 (1, .int 97) (by simp [lv_args, Value.category])
  have hS : va_S (fun q => base ≤ q) s.heap s.heap [] := va_S.rf
  have rest : ∀ (w : Value), (w = .null ∨ ∃ t, w = .ref t) → W p l e R s m ([Value.int (nI i), .int 97] : List Value).toArray below meth c s.heap [] 0 0 (MQ below (ax_Qc G base z none h) ([Value.int (nI i), .int 97] : List Value).toArray s 0 0 (fun q => base ≤ q)) (F0 m 5 ls ([Value.int (nI i), .int 97, w].reverse ++ [])) := by
    intro w hw
    refine x_callS (R := R) (k := 3) (idx := 1059) (nL := 2) (own := RJ0) (mt := mtC3) (rm := { frames := 0, cells := 0, slots := 0, locals := 0 }) hx hb hml hown hts (x_check3 G base z adV hi hw) rfl rfl ⟨hR.1, by show 8 + (3 + 11) + 0 ≤ R.locals; omega⟩ (by decide +kernel) (by decide +kernel) (by decide +kernel) (by decide +kernel) (by decide +kernel) ⟨by decide +kernel, by decide +kernel, by decide +kernel⟩ rfl hl.1 (by decide) hK hXX hT hok hS (fun H' locs' HK' hS' => ?_)
    show W p l e R s m _ below meth c H' locs' 0 0 _ (F0 m 8 ls [.int (nI i)])
    refine lv_pop hx hb (by decide +kernel) rfl ?_
    exact W.vret hx hb B.returns (fun t ht _ => ⟨rfl, by rw [ht]; exact HK', hS'.F ht⟩) hS'.2.2 (by decide +kernel)
  show W p l e R s m _ below meth c s.heap [] 0 0 _ (F0 m 0 ls [])
  refine lv_iload_n hx hb (k := 0) (i := 0) (by decide +kernel) rfl h0 ?_
  refine lv_iload_n hx hb (k := 1) (i := 1) (by decide +kernel) rfl h1 ?_
  rcases g4 with hZ | ⟨t, hZ⟩
  · refine va_gets hx hb hZ hS hown (ref := "jdk/internal/util/Preconditions") (index := 1053) (hts _ (by decide +kernel)) (fun _ q => q) (by decide +kernel) ?_
    exact rest .null (Or.inl rfl)
  · refine va_gets hx hb hZ hS hown (ref := "jdk/internal/util/Preconditions") (index := 1053) (hts _ (by decide +kernel)) (fun _ q => q) (by decide +kernel) ?_
    exact rest (.ref t) (Or.inr ⟨t, rfl⟩)
theorem tx_and : ∀ j : Fin 97, ((tx0 j.val &&& 255).toUInt32 % 65536).toInt32 = tx0 j.val ∧ narrow .char (.int (tx0 j.val)) = .int (tx0 j.val) := by decide +kernel
theorem x_char1 {R : Room} (hR : 2 ≤ R.frames ∧ 60 ≤ R.locals) (G : ax_G) (base : Nat) (z : ax_Z) (adV : Nat) {i : Nat} (hi : i < 97) : Met l mtC1.1 (ax_wsm mtC1) R (x_P G base z E adV [.ref adV, .int (nI i)] h) (ax_Qc G base z (some (.int (tx0 i))) h) 0 0 (fun q => base ≤ q) := by
  refine Met.ofW (cc := mtC1.2.1) (maxL := mtC1.2.2.1) (ret := mtC1.2.2.2) (by decide +kernel) rfl ?_
  intro p e s m args below meth c s₁ B hml hv
  obtain ⟨rfl, hok, hK, hXX, hNN, hT⟩ := hv
  have hx := B.exec
  have hb : c.code = cJ1_charAt_3b067 := B.bytes
  have hown : s.vm.findClass RJ1 = some m.cls := findClass_of_methodNamed B.named
  have hts := hNN.use ([Value.ref adV, .int (nI i)] : List Value).toArray
  have hl := lv_entry ([Value.ref adV, .int (nI i)]) (n := 2) (Nat.le_of_ble_eq_true rfl)
  rw [lg_entry_eq]
  generalize (lg_sl ([Value.ref adV, .int (nI i)]) ++ List.replicate (2 - (lg_sl ([Value.ref adV, .int (nI i)])).length) Slot.unset).toArray = ls at hl ⊢
  have h0 : ls[0]? = some (.val (.ref adV)) := hl.2.2 (0, .ref adV) (by simp [lv_args])
  have h1 : ls[1]? = some (.val (.int (nI i))) := hl.2.2 (1, .int (nI i)) (by simp [lv_args, Value.category])
  have hS : va_S (fun q => base ≤ q) s.heap s.heap [] := va_S.rf
  show W p l e R s m _ below meth c s.heap [] 0 0 _ (F0 m 0 ls [])
  refine lv_iload_n hx hb (k := 1) (i := 1) (by decide +kernel) rfl h1 ?_
  refine lv_aload_n hx hb (k := 0) (i := 0) (by decide +kernel) rfl h0 ?_
  refine va_tlen hx hb hT hS (v := 97) rfl (by decide +kernel) ?_
  refine x_callS (As := [Value.int (nI i), .int 97]) (rest := []) (R := R) (k := 2) (idx := 9) (nL := 2) (own := RJ1) (mt := mtC0) (rm := { frames := 1, cells := 0, slots := 0, locals := 30 }) hx hb hml hown hts (x_check0 ⟨by decide, by decide⟩ G base z adV hi) rfl rfl ⟨hR.1, by show 8 + (2 + 11) + 30 ≤ R.locals; omega⟩ (by decide +kernel) (by decide +kernel) (by decide +kernel) (by decide +kernel) (by decide +kernel) ⟨by decide +kernel, by decide +kernel, by decide +kernel⟩ rfl hl.1 (by decide) hK hXX hT hok hS (fun H' locs' HK' hS' => ?_)
  show W p l e R s m _ below meth c H' locs' 0 0 _ (F0 m 6 ls [])
  refine lv_aload_n hx hb (k := 0) (i := 0) (by decide +kernel) rfl h0 ?_
  refine lv_iload_n hx hb (k := 1) (i := 1) (by decide +kernel) rfl h1 ?_
  refine va_tb hx hb hT hS' (i := nI i) (vp_in_nI hi (by omega)) (v := .int (tx0 i)) (by rw [nI_clamp (by omega)]; rfl) (by decide +kernel) ?_
  refine lv_sipush hx hb (n := 255) (v := 255) (by decide +kernel) (by decide) ?_
  refine lv_iand hx hb (by decide +kernel) ?_
  refine lv_i2c hx hb (v := tx0 i) (by decide +kernel) (tx_and ⟨i, hi⟩).1 ?_
  exact W.zret hx hb B.returns (ty := .char) (tx_and ⟨i, hi⟩).2 (fun t ht _ => ⟨rfl, by rw [ht]; exact HK', hS'.F ht⟩) hS'.2.2 (by decide +kernel)
theorem x_charAt2 {R : Room} (hR : 4 ≤ R.frames ∧ 140 ≤ R.locals) {i : Nat} (hi : i < 97) : ∀ (G : ax_G) (base : Nat) (z : ax_Z), Met l mtCh.1 (ax_wsm mtCh) R (ax_Pc G base z E [.retAddr 1, .int (nI i)] h) (ax_Qc G base z (some (.int (tx0 i))) h) 0 0 (fun q => base ≤ q) := by
  refine x_metV ⟨by omega, by omega⟩ (by decide +kernel) rfl (Nat.le_of_ble_eq_true rfl) ?_
  intro p e s m args below meth c G base z Q F hHo H locs Ls cells slots HK hl hS hcc hss
  have w4 : ax_Wt 2 p l e R s m args below meth c G base z Q h (4, [.retAddr 1, .int (nI i)], [.int 1], h) := by
    intro H locs Ls cells slots HK hl hS hcc hss
    obtain ⟨hx, hb, hml, hown, hts, hK, -, -, hret, hXX⟩ := id F
    obtain ⟨-, -, -, adV, g1, g2, g3, g4⟩ := id hXX
    have hL0 : Ls[0]? = some (.val (.ref z.2.2)) := hl.2.2 0 (.retAddr 1) rfl (by intro q; cases q)
    have hL1 : Ls[1]? = some (.val (.int (nI i))) := hl.2.2 1 (.int (nI i)) rfl (by intro q; cases q)
    have e0 : cells = 0 := by
      have : cells + h.1.length = h.1.length := hcc
      omega
    have e1 : slots = 0 := by
      have : slots + ax_slt h = ax_slt h := hss
      omega
    subst e0
    subst e1
    show W p l e R s m args below meth c H locs 0 0 Q (F0 m 4 Ls [.int 1])
    refine lv_if_eq hx hb (off := 12) (tgt := 16) (by decide +kernel) rfl (fun q => absurd q (by decide)) (fun _ => ?_)
    refine lv_aload_n hx hb (k := 0) (i := 0) (by decide +kernel) rfl hL0 ?_
    refine vk_getf hx hb (g2.1 0 (by decide)).2.2.1 hS hown (ref := "java/lang/String") (index := 9) (hts _ (by decide +kernel)) (fun _ q => q) (by decide +kernel) ?_
    refine lv_iload_n hx hb (k := 1) (i := 1) (by decide +kernel) rfl hL1 ?_
    refine x_callS (As := [Value.ref adV, .int (nI i)]) (rest := []) (R := R) (k := 2) (idx := 495) (nL := 2) (own := RJ0) (mt := mtC1) (rm := { frames := 2, cells := 0, slots := 0, locals := 60 }) hx hb hml hown hts (x_char1 ⟨by decide, by decide⟩ G base z adV hi) rfl rfl ⟨by show 2 + 1 ≤ R.frames; omega, by show 8 + (2 + 11) + 60 ≤ R.locals; omega⟩ (by decide +kernel) (by decide +kernel) (by decide +kernel) (by decide +kernel) (by decide +kernel) ⟨by decide +kernel, by decide +kernel, by decide +kernel⟩ rfl hl.2.1.1 (by decide) hK hXX (g2.1 0 (by decide)).2.2.2 HK hS (fun H' locs' HK' hS' => ?_)
    exact hHo 15 H' locs' Ls 0 0 HK' hS' hcc hss ⟨by decide +kernel, .char, rfl, (tx_and ⟨i, hi⟩).2⟩
  have w1 : ax_Wt 2 p l e R s m args below meth c G base z Q h (1, [.retAddr 1, .int (nI i)], [.retAddr 1], h) := ((sm_callX (ME := x_ME) (ini := false) (own := RJ0) (cc := cJ0_charAt_5068e) (nL := 2) (ret := some .char) (pc := 1) (y := 1) (k := 0) (n := 4) (idx := 492) (mt := mtLa) (by decide +kernel) rfl (by decide +kernel) (by decide +kernel) (by decide +kernel) (by decide +kernel) (by decide +kernel) ⟨by decide +kernel, by decide +kernel, by decide +kernel⟩ rfl) E x_cal [.retAddr 1, .int (nI i)] [.retAddr 1] h (.inl (4, [.retAddr 1, .int (nI i)], [.int 1], h)) rfl).2 p l e R s m args below meth c G base z Q h F (x_calOk hR) (Nat.le_add_right _ _) (Nat.le_add_right _ _) (Nat.le_refl _) (Nat.le_refl _) w4
  have hL0 : Ls[0]? = some (.val (.ref z.2.2)) := hl.2.2 0 (.retAddr 1) rfl (by intro q; cases q)
  show W p l e R s m args below meth c H locs cells slots Q (F0 m 0 Ls [])
  refine lv_aload_n F.1 F.2.1 (k := 0) (i := 0) (by decide +kernel) rfl hL0 ?_
  exact w1 H locs Ls cells slots HK hl hS hcc hss
end XC
theorem x_prSome : ∀ y : Fin 174, (ax_PRf y.val).isSome = true := by decide +kernel
theorem ax_xtOk (l : Launch) (E : ax_E) : ax_XtOk2 ax_ME ax_PRf ax_ext l E := by
  intro y mt hp hm
  have hy : y = 174 ∨ y = 175 := by
    by_cases c1 : y < 174
    · have := x_prSome ⟨y, c1⟩
      rw [hp] at this
      cases this
    · by_cases c2 : y < 176
      · omega
      · have : ax_ME y = none := ax_nth_out (by show 176 ≤ y; omega)
        rw [this] at hm
        cases hm
  rcases hy with rfl | rfl
  · have hmt : mt = mtLe := (Option.some.inj hm).symm
    subst hmt
    refine ⟨by decide, fun as h r h' e d G base z => ?_⟩
    have e2 := e
    unfold ax_ext at e2
    rw [if_pos rfl] at e2
    split at e2
    · cases e2
      rw [Nat.sub_self, Nat.sub_self]
      exact x_length2 ⟨by show 4 ≤ d + 1 + 4; omega, by show 140 ≤ 45 * (d + 1) + 100; omega⟩ G base z
    · cases e2
  · have hmt : mt = mtCh := (Option.some.inj hm).symm
    subst hmt
    refine ⟨by decide, fun as h r h' e d G base z => ?_⟩
    have e2 := e
    unfold ax_ext at e2
    rw [if_neg (by decide), if_pos rfl] at e2
    clear e
    split at e2
    · rename_i i
      by_cases c : i < 0 ∨ 97 ≤ i.toNatClampNeg
      · rw [if_pos c] at e2
        cases e2
      · rw [if_neg c] at e2
        cases e2
        rw [Nat.sub_self, Nat.sub_self]
        obtain ⟨j, hj, rfl⟩ := nI_of (x := i) (fun q => c (Or.inl q))
        rw [nI_clamp hj] at c ⊢
        exact x_charAt2 ⟨by show 4 ≤ d + 1 + 4; omega, by show 140 ≤ 45 * (d + 1) + 100; omega⟩ (i := j) (by omega) G base z
    · cases e2
