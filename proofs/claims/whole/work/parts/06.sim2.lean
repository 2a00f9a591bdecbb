/-! SIMULATION of the acts on the heap -/
section SP
variable {p : Program} {l : Launch} {e : Env} {R : Room} {s : State} {m : MethodId} {args : Array Value} {below : List Frame} {meth : Method} {c : Code} {H : Heap} {locs : List Loc} {cells slots : Nat} {Q : State → Prop}
variable {cc : ByteArray} {pc : Nat} {ls : Array Slot} {rest : List Value} {D : va_G} {cl : List vw_C} {a : Nat} {tys : List (ClassId × FieldType)}

theorem ax_putW (hexec : p.tables.exec = Jvm.exec) (hb : c.code = cc) {own ref C : String} {T : u_T} {N ci index : Nat} {Ts : List Cond} (hts : ∀ w ∈ Ts, w.before args s = true) (hin : ∀ w ∈ u_ws C T N, w ∈ Ts) (ty0 : Nat → FieldType) (hty : ∀ k, k < N → parseFieldDescriptor (T k).2.2.1 = some (ty0 k)) (hnm : ∀ a, a < N → ∀ b, b < N → a ≠ b → (T a).2.1 ≠ (T b).2.1) (hown : s.vm.findClass own = some m.cls) (hK : va_K D cl tys s) {fs : List Value} (he : va_at D cl (a, .inr (ci, fs)) H) (hc : cl[ci]? = some (C, T, N)) (k : Nat) (hk : k < N) (hlink : (Cond.fieldLink own index ref (T k).2.1 (T k).2.2.1).before args s = true) (hsame : ∀ x, s.fieldFound? (T k).1 (T k).2.1 (T k).2.2.1 = some x → s.fieldFound? ref (T k).2.1 (T k).2.2.1 = some x) (hfin : (T k).2.2.2 = false) {ty : FieldType} {v : Value} (hd : parseFieldDescriptor (T k).2.2.1 = some ty) (hn : narrow ty v = v) (hfit : fits ty v = true) (hl : k < fs.length)
    (hdg : decode cc pc = .ok (.putfield index, 3)) (kk : ∀ (H1 : Heap) (i : Nat), va_at D cl (a, .inr (ci, fs.set k v)) H1 → H1.size = H.size → (∀ q : Nat, q ≠ a → H1[q]? = H[q]?) → W p l e R s m args below meth c H1 (locs ++ [⟨a, i⟩]) cells slots Q (F0 m (pc + 3) ls rest)) : W p l e R s m args below meth c H locs cells slots Q (F0 m pc ls (v :: .ref a :: rest)) := by
  have hap := va_apart (own := own) hts hin ty0 hty hnm hK hc
  obtain ⟨r, h1, cell, q1, q2, q3, q4⟩ := he
  have hr : r = (C, T, N) := Option.some.inj (h1.symm.trans hc)
  subst hr
  obtain ⟨hS, hfc, kC, hkC, hkind⟩ := hK.1 ci _ hc
  obtain ⟨cf, kf, fi, f, hi, hsl⟩ := hS k hk
  have hlay := hts _ (hin _ (u_in_lay hk))
  unfold u_lay at hlay
  rw [if_neg (by rw [hfin]; decide)] at hlay
  have hst := (u_facts hfc hkC (u_lays hts hin hk) hi).1
  have h6 := u_store hfc hkC hkind hlay hi hd hn hfit
  refine W.putK hexec hb (f := f) ⟨hown, hlink, ⟨_, _, _, hsame _ hi⟩, hst⟩ (by rw [q2]; exact h6) q1 q3 (by rw [hsl]; exact k2_hasslot (q4 k hk)) rfl rfl hdg fun H' e1 e2 e3 => ?_
  rw [hsl] at e1 ⊢
  exact kk H' _ ⟨_, hc, t_OB.to (V := updV (vp_V fs) k v) ⟨_, e1, q2, q3, t_set q4 hap hk v⟩ (fun j _ => vp_updV_set hl v j)⟩ e2 e3
theorem ax_putWN (hexec : p.tables.exec = Jvm.exec) (hb : c.code = cc) {own ref C host : String} {T : u_T} {N ci index : Nat} {Ts : List Cond} (hts : ∀ w ∈ Ts, w.before args s = true) (hin : ∀ w ∈ u_ws C T N, w ∈ Ts) (ty0 : Nat → FieldType) (hty : ∀ k, k < N → parseFieldDescriptor (T k).2.2.1 = some (ty0 k)) (hnm : ∀ a, a < N → ∀ b, b < N → a ≠ b → (T a).2.1 ≠ (T b).2.1) (hown : s.vm.findClass own = some m.cls) (hK : va_K D cl tys s) {fs : List Value} (he : va_at D cl (a, .inr (ci, fs)) H) (hc : cl[ci]? = some (C, T, N)) (k : Nat) (hk : k < N) (hlink : (Cond.fieldLinkNest own index ref (T k).2.1 (T k).2.2.1 host).before args s = true) (hsame : ∀ x, s.fieldFound? (T k).1 (T k).2.1 (T k).2.2.1 = some x → s.fieldFound? ref (T k).2.1 (T k).2.2.1 = some x) (hfin : (T k).2.2.2 = false) {ty : FieldType} {v : Value} (hd : parseFieldDescriptor (T k).2.2.1 = some ty) (hn : narrow ty v = v) (hfit : fits ty v = true) (hl : k < fs.length)
    (hdg : decode cc pc = .ok (.putfield index, 3)) (kk : ∀ (H1 : Heap) (i : Nat), va_at D cl (a, .inr (ci, fs.set k v)) H1 → H1.size = H.size → (∀ q : Nat, q ≠ a → H1[q]? = H[q]?) → W p l e R s m args below meth c H1 (locs ++ [⟨a, i⟩]) cells slots Q (F0 m (pc + 3) ls rest)) : W p l e R s m args below meth c H locs cells slots Q (F0 m pc ls (v :: .ref a :: rest)) := by
  have hap := va_apart (own := own) hts hin ty0 hty hnm hK hc
  obtain ⟨r, h1, cell, q1, q2, q3, q4⟩ := he
  have hr : r = (C, T, N) := Option.some.inj (h1.symm.trans hc)
  subst hr
  obtain ⟨hS, hfc, kC, hkC, hkind⟩ := hK.1 ci _ hc
  obtain ⟨cf, kf, fi, f, hi, hsl⟩ := hS k hk
  have hlay := hts _ (hin _ (u_in_lay hk))
  unfold u_lay at hlay
  rw [if_neg (by rw [hfin]; decide)] at hlay
  have hst := (u_facts hfc hkC (u_lays hts hin hk) hi).1
  have h6 := u_store hfc hkC hkind hlay hi hd hn hfit
  refine va_WputK hexec hb (f := f) hown hlink (hsame _ hi) hst (by rw [q2]; exact h6) q1 q3 (by rw [hsl]; exact k2_hasslot (q4 k hk)) rfl rfl hdg fun H' e1 e2 e3 => ?_
  rw [hsl] at e1 ⊢
  exact kk H' _ ⟨_, hc, t_OB.to (V := updV (vp_V fs) k v) ⟨_, e1, q2, q3, t_set q4 hap hk v⟩ (fun j _ => vp_updV_set hl v j)⟩ e2 e3
theorem ax_putWF (hexec : p.tables.exec = Jvm.exec) (hb : c.code = cc) {own ref C : String} {T : u_T} {N ci index : Nat} {Ts : List Cond} (hts : ∀ w ∈ Ts, w.before args s = true) (hin : ∀ w ∈ u_ws C T N, w ∈ Ts) (ty0 : Nat → FieldType) (hty : ∀ k, k < N → parseFieldDescriptor (T k).2.2.1 = some (ty0 k)) (hnm : ∀ a, a < N → ∀ b, b < N → a ≠ b → (T a).2.1 ≠ (T b).2.1) (hown : s.vm.findClass own = some m.cls) (hK : va_K D cl tys s) {fs : List Value} (he : va_at D cl (a, .inr (ci, fs)) H) (hc : cl[ci]? = some (C, T, N)) (k : Nat) (hk : k < N) (hlink : (Cond.fieldLink own index ref (T k).2.1 (T k).2.2.1).before args s = true) (hsame : ∀ x, s.fieldFound? (T k).1 (T k).2.1 (T k).2.2.1 = some x → s.fieldFound? ref (T k).2.1 (T k).2.2.1 = some x) (hfin : (T k).2.2.2 = true) (hin2 : meth.name = "<init>") (hdecl : (T k).1 = own) {ty : FieldType} {v : Value} (hd : parseFieldDescriptor (T k).2.2.1 = some ty) (hn : narrow ty v = v) (hfit : fits ty v = true) (hl : k < fs.length)
    (hdg : decode cc pc = .ok (.putfield index, 3)) (kk : ∀ (H1 : Heap) (i : Nat), va_at D cl (a, .inr (ci, fs.set k v)) H1 → H1.size = H.size → (∀ q : Nat, q ≠ a → H1[q]? = H[q]?) → W p l e R s m args below meth c H1 (locs ++ [⟨a, i⟩]) cells slots Q (F0 m (pc + 3) ls rest)) : W p l e R s m args below meth c H locs cells slots Q (F0 m pc ls (v :: .ref a :: rest)) := by
  have hap := va_apart (own := own) hts hin ty0 hty hnm hK hc
  obtain ⟨r, h1, cell, q1, q2, q3, q4⟩ := he
  have hr : r = (C, T, N) := Option.some.inj (h1.symm.trans hc)
  subst hr
  obtain ⟨hS, hfc, kC, hkC, hkind⟩ := hK.1 ci _ hc
  obtain ⟨cf, kf, fi, f, hi, hsl⟩ := hS k hk
  have hlay := hts _ (hin _ (u_in_lay hk))
  unfold u_lay at hlay
  rw [if_pos hfin] at hlay
  have hst := (u_facts hfc hkC (u_lays hts hin hk) hi).1
  have hcf : m.cls = cf := by
    obtain ⟨_, _, c', _, _, _, -, -, hf', -, -, -, hown2, -⟩ := Cond.laysFinal_spec hlay
    have e1 : c' = cf := by have := hi.symm.trans hf'; simp at this; exact this.1.symm
    rw [hdecl] at hown2
    rw [← e1]; exact Option.some.inj (hown.symm.trans hown2)
  have h6 := u_fits hfc hkC hkind (Or.inr hlay) hi hd hn hfit
  refine W.putFinK hexec hb hown hlink (hsame _ hi) hst hcf hin2 (by rw [q2]; exact h6) q1 q3 (by rw [hsl]; exact k2_hasslot (q4 k hk)) rfl rfl hdg fun H' e1 e2 e3 => ?_
  rw [hsl] at e1 ⊢
  exact kk H' _ ⟨_, hc, t_OB.to (V := updV (vp_V fs) k v) ⟨_, e1, q2, q3, t_set q4 hap hk v⟩ (fun j _ => vp_updV_set hl v j)⟩ e2 e3
end SP
theorem ax_ok_set {G : ax_G} {base : Nat} {rz : Nat → Nat} {sh : List (Nat × Nat)} {I : Nat → Nat → Int32} {R : Nat → Nat → Option Nat} {H H1 : Heap} {q : Nat} {c : Nat × Nat} {f : Nat → Int32} {r : Nat → Option Nat} (hk : ax_ok G base rz (sh, I, R) H) (hc : ax_nth sh q = some c)
    (hat : va_at G.1 vwCl (rz q, ax_cell G rz c f r) H1) (hz : H1.size = H.size) (oq : ∀ a : Nat, a ≠ rz q → H1[a]? = H[a]?) : ax_ok G base rz (sh, va_up I q f, va_up R q r) H1 := by
  refine ⟨hz.trans hk.1, hk.2.1, hk.2.2.1, hk.2.2.2.1, ?_⟩
  rw [← ax_ws_set G rz hc f r]
  exact hk.2.2.2.2.set (ax_D hk) (ax_ws_get G rz (h := (sh, I, R)) hc) hat oq
theorem ax_ok_at {G : ax_G} {base : Nat} {rz : Nat → Nat} {h : ax_H} {H : Heap} {q : Nat} {c : Nat × Nat} (hk : ax_ok G base rz h H) (hc : ax_nth h.1 q = some c) : va_at G.1 vwCl (rz q, ax_cell G rz c (h.2.1 q) (h.2.2 q)) H := hk.2.2.2.2 q _ (ax_ws_get G rz hc)
theorem ax_cell_o (G : ax_G) (rz : Nat → Nat) {ci N : Nat} (h : ci < 100) (f : Nat → Int32) (r : Nat → Option Nat) : ax_cell G rz (ci, N) f r = .inr (ci, ax_fs rz ci N f r) := by
  simp [ax_cell, Nat.ne_of_lt h, show ci ≠ 101 by omega, show ci ≠ 102 by omega]
theorem ax_cell_i (G : ax_G) (rz : Nat → Nat) {c : Nat × Nat} (h : c.1 = 100) (f : Nat → Int32) (r : Nat → Option Nat) : ax_cell G rz c f r = .inl (G.2.1, c.2, .inl f) := by simp [ax_cell, h]
theorem ax_cell_c (G : ax_G) (rz : Nat → Nat) {c : Nat × Nat} (h : c.1 = 101) (f : Nat → Int32) (r : Nat → Option Nat) : ax_cell G rz c f r = .inl (G.2.2.1, c.2, .inl f) := by simp [ax_cell, h]
theorem ax_cell_r (G : ax_G) (rz : Nat → Nat) {c : Nat × Nat} (h : c.1 = 102) (f : Nat → Int32) (r : Nat → Option Nat) : ax_cell G rz c f r = .inl (G.2.2.2, c.2, .inr (.inr (.inr (.inr (fun j => (r j).map rz))))) := by simp [ax_cell, h]
section SM2
variable {ME : Nat → Option ax_M} {ini : Bool} {own : String} {cc : ByteArray} {nL : Nat} {ret : Option FieldType} {pc : Nat}

theorem sm_getI {ci N k n idx : Nat} {C : String} {T : u_T} (hd : decode cc pc = .ok (.getfield idx, 3)) (hw : Cond.fieldLink own idx C (T k).2.1 (T k).2.2.1 ∈ ax_tbl) (hin : ∀ w ∈ u_ws C T N, w ∈ ax_tbl) (hc : vwCl[ci]? = some (C, T, N)) (hk : k < N) (h0 : ax_isr ci k = false) (hdc : (T k).1 = C) (h100 : ci < 100) (hn : n = pc + 3) : ax_Sim ME ini own cc nL ret pc (a_getI ci N k n) := by
  subst hn
  refine sm_pure (fun E cal ls st h o ho => ?_)
  obtain ⟨sh, I, RR⟩ := h
  simp only [a_getI] at ho
  split at ho
  · rename_i q st1 sh1 I1 R1 he
    cases he
    split at ho
    · rename_i c1 hc1
      split at ho
      · rename_i e1
        subst e1
        cases ho
        refine ⟨_, _, rfl, fun p l e R s m args below meth c G base z Q F H locs Ls cells slots HK hl hS w => ?_⟩
        have hv : (ax_fs z.1 ci N (I q) (RR q))[k]? = some (.int (I q k)) := by rw [ax_fs_at z.1 ci hk, h0]; rfl
        exact va_get F.1 F.2.1 F.2.2.2.2.1 hin F.2.2.2.1 F.2.2.2.2.2.1 HK.2.2.2.2 q (by rw [ax_ws_get G z.1 (h := (sh, I, RR)) hc1, ax_cell_o G z.1 h100]) hc k hk (F.2.2.2.2.1 _ hw) (fun x hx => by rw [hdc] at hx; exact hx) hv hd w
      · cases ho
    · cases ho
  · cases ho
theorem sm_getR {ci N k n idx : Nat} {C : String} {T : u_T} (hd : decode cc pc = .ok (.getfield idx, 3)) (hw : Cond.fieldLink own idx C (T k).2.1 (T k).2.2.1 ∈ ax_tbl) (hin : ∀ w ∈ u_ws C T N, w ∈ ax_tbl) (hc : vwCl[ci]? = some (C, T, N)) (hk : k < N) (h0 : ax_isr ci k = true) (hdc : (T k).1 = C) (h100 : ci < 100) (hn : n = pc + 3) : ax_Sim ME ini own cc nL ret pc (a_getR ci N k n) := by
  subst hn
  refine sm_pure (fun E cal ls st h o ho => ?_)
  obtain ⟨sh, I, RR⟩ := h
  simp only [a_getR] at ho
  split at ho
  · rename_i q st1 sh1 I1 R1 he
    cases he
    split at ho
    · rename_i c1 hc1
      split at ho
      · rename_i e1
        subst e1
        split at ho
        · rename_i j hj
          cases ho
          refine ⟨_, _, rfl, fun p l e R s m args below meth c G base z Q F H locs Ls cells slots HK hl hS w => ?_⟩
          have hv : (ax_fs z.1 ci N (I q) (RR q))[k]? = some (.ref (z.1 j)) := by rw [ax_fs_at z.1 ci hk, h0, hj]; rfl
          exact va_get F.1 F.2.1 F.2.2.2.2.1 hin F.2.2.2.1 F.2.2.2.2.2.1 HK.2.2.2.2 q (by rw [ax_ws_get G z.1 (h := (sh, I, RR)) hc1, ax_cell_o G z.1 h100]) hc k hk (F.2.2.2.2.1 _ hw) (fun x hx => by rw [hdc] at hx; exact hx) hv hd w
        · cases ho
      · cases ho
    · cases ho
  · cases ho
theorem sm_getIN {ci N k n idx : Nat} {host : String} {C : String} {T : u_T} (hd : decode cc pc = .ok (.getfield idx, 3)) (hw : Cond.fieldLinkNest own idx C (T k).2.1 (T k).2.2.1 host ∈ ax_tbl) (hin : ∀ w ∈ u_ws C T N, w ∈ ax_tbl) (hc : vwCl[ci]? = some (C, T, N)) (hk : k < N) (h0 : ax_isr ci k = false) (hdc : (T k).1 = C) (h100 : ci < 100) (hn : n = pc + 3) : ax_Sim ME ini own cc nL ret pc (a_getI ci N k n) := by
  subst hn
  refine sm_pure (fun E cal ls st h o ho => ?_)
  obtain ⟨sh, I, RR⟩ := h
  simp only [a_getI] at ho
  split at ho
  · rename_i q st1 sh1 I1 R1 he
    cases he
    split at ho
    · rename_i c1 hc1
      split at ho
      · rename_i e1
        subst e1
        cases ho
        refine ⟨_, _, rfl, fun p l e R s m args below meth c G base z Q F H locs Ls cells slots HK hl hS w => ?_⟩
        have hv : (ax_fs z.1 ci N (I q) (RR q))[k]? = some (.int (I q k)) := by rw [ax_fs_at z.1 ci hk, h0]; rfl
        exact va_getN F.1 F.2.1 F.2.2.2.2.1 hin F.2.2.2.1 F.2.2.2.2.2.1 HK.2.2.2.2 q (by rw [ax_ws_get G z.1 (h := (sh, I, RR)) hc1, ax_cell_o G z.1 h100]) hc k hk (F.2.2.2.2.1 _ hw) (fun x hx => by rw [hdc] at hx; exact hx) hv hd w
      · cases ho
    · cases ho
  · cases ho
theorem sm_getRN {ci N k n idx : Nat} {host : String} {C : String} {T : u_T} (hd : decode cc pc = .ok (.getfield idx, 3)) (hw : Cond.fieldLinkNest own idx C (T k).2.1 (T k).2.2.1 host ∈ ax_tbl) (hin : ∀ w ∈ u_ws C T N, w ∈ ax_tbl) (hc : vwCl[ci]? = some (C, T, N)) (hk : k < N) (h0 : ax_isr ci k = true) (hdc : (T k).1 = C) (h100 : ci < 100) (hn : n = pc + 3) : ax_Sim ME ini own cc nL ret pc (a_getR ci N k n) := by
  subst hn
  refine sm_pure (fun E cal ls st h o ho => ?_)
  obtain ⟨sh, I, RR⟩ := h
  simp only [a_getR] at ho
  split at ho
  · rename_i q st1 sh1 I1 R1 he
    cases he
    split at ho
    · rename_i c1 hc1
      split at ho
      · rename_i e1
        subst e1
        split at ho
        · rename_i j hj
          cases ho
          refine ⟨_, _, rfl, fun p l e R s m args below meth c G base z Q F H locs Ls cells slots HK hl hS w => ?_⟩
          have hv : (ax_fs z.1 ci N (I q) (RR q))[k]? = some (.ref (z.1 j)) := by rw [ax_fs_at z.1 ci hk, h0, hj]; rfl
          exact va_getN F.1 F.2.1 F.2.2.2.2.1 hin F.2.2.2.1 F.2.2.2.2.2.1 HK.2.2.2.2 q (by rw [ax_ws_get G z.1 (h := (sh, I, RR)) hc1, ax_cell_o G z.1 h100]) hc k hk (F.2.2.2.2.1 _ hw) (fun x hx => by rw [hdc] at hx; exact hx) hv hd w
        · cases ho
      · cases ho
    · cases ho
  · cases ho
theorem sm_putI {ci N k n idx : Nat} {C : String} {T : u_T} (hd : decode cc pc = .ok (.putfield idx, 3)) (hw : Cond.fieldLink own idx C (T k).2.1 (T k).2.2.1 ∈ ax_tbl) (hin : ∀ w ∈ u_ws C T N, w ∈ ax_tbl) (ty0 : Nat → FieldType) (hty : ∀ k, k < N → parseFieldDescriptor (T k).2.2.1 = some (ty0 k)) (hnm : ∀ a, a < N → ∀ b, b < N → a ≠ b → (T a).2.1 ≠ (T b).2.1) (hc : vwCl[ci]? = some (C, T, N)) (hk : k < N) (h0 : ax_isr ci k = false) (hdc : (T k).1 = C) (h100 : ci < 100) (hfin : (T k).2.2.2 = false) (hdp : parseFieldDescriptor (T k).2.2.1 = some .int) (hn : n = pc + 3) : ax_Sim ME ini own cc nL ret pc (a_putI ci N k n) := by
  subst hn
  intro E cal ls st h o ho
  obtain ⟨sh, I, RR⟩ := h
  simp only [a_putI] at ho
  split at ho
  · rename_i x q st1 sh1 I1 R1 he
    cases he
    split at ho
    · rename_i c1 hc1
      split at ho
      · rename_i e1
        subst e1
        cases ho
        refine ⟨fun _ => ⟨Nat.le_refl _, Nat.le_refl _⟩, fun p l e R s m args below meth c G base z Q h0' F hC _ _ _ _ w H locs Ls cells slots HK hl hS hcc hss => ?_⟩
        have hat := ax_ok_at HK hc1
        rw [ax_cell_o G z.1 h100] at hat
        refine ax_putW F.1 F.2.1 F.2.2.2.2.1 hin ty0 hty hnm F.2.2.2.1 F.2.2.2.2.2.1 hat hc k hk (F.2.2.2.2.1 _ hw) (fun x hx => by rw [hdc] at hx; exact hx) hfin hdp rfl rfl (by show k < (ax_fs _ _ _ _ _).length; rw [ax_fs_len]; exact hk) hd (fun H1 i e1 e2 e3 => ?_)
        have e1' : va_at G.1 vwCl (z.1 q, ax_cell G z.1 (ci, N) (upd (I q) k x) (RR q)) H1 := by
          rw [ax_cell_o G z.1 h100, ← ax_fs_i z.1 ci N h0]; exact e1
        have HK1 := ax_ok_set HK hc1 e1' e2 e3
        rw [ax_up_id RR q] at HK1
        exact w H1 _ Ls cells slots HK1 hl (hS.put e2 e3 (HK.2.1 q)) hcc hss
      · cases ho
    · cases ho
  · cases ho
theorem sm_putZ {ci N k n idx : Nat} {C : String} {T : u_T} (hd : decode cc pc = .ok (.putfield idx, 3)) (hw : Cond.fieldLink own idx C (T k).2.1 (T k).2.2.1 ∈ ax_tbl) (hin : ∀ w ∈ u_ws C T N, w ∈ ax_tbl) (ty0 : Nat → FieldType) (hty : ∀ k, k < N → parseFieldDescriptor (T k).2.2.1 = some (ty0 k)) (hnm : ∀ a, a < N → ∀ b, b < N → a ≠ b → (T a).2.1 ≠ (T b).2.1) (hc : vwCl[ci]? = some (C, T, N)) (hk : k < N) (h0 : ax_isr ci k = false) (hdc : (T k).1 = C) (h100 : ci < 100) (hfin : (T k).2.2.2 = false) (hdp : parseFieldDescriptor (T k).2.2.1 = some .boolean) (hn : n = pc + 3) : ax_Sim ME ini own cc nL ret pc (a_putZ ci N k n) := by
  subst hn
  intro E cal ls st h o ho
  obtain ⟨sh, I, RR⟩ := h
  simp only [a_putZ] at ho
  split at ho
  · rename_i x q st1 sh1 I1 R1 he
    cases he
    split at ho
    · rename_i c1 hc1
      split at ho
      · rename_i e1
        obtain ⟨e1, hx01⟩ := e1
        subst e1
        cases ho
        refine ⟨fun _ => ⟨Nat.le_refl _, Nat.le_refl _⟩, fun p l e R s m args below meth c G base z Q h0' F hC _ _ _ _ w H locs Ls cells slots HK hl hS hcc hss => ?_⟩
        have hat := ax_ok_at HK hc1
        rw [ax_cell_o G z.1 h100] at hat
        refine ax_putW F.1 F.2.1 F.2.2.2.2.1 hin ty0 hty hnm F.2.2.2.1 F.2.2.2.2.2.1 hat hc k hk (F.2.2.2.2.1 _ hw) (fun x hx => by rw [hdc] at hx; exact hx) hfin hdp (by rcases hx01 with rfl | rfl <;> rfl) (by rcases hx01 with rfl | rfl <;> rfl) (by show k < (ax_fs _ _ _ _ _).length; rw [ax_fs_len]; exact hk) hd (fun H1 i e1 e2 e3 => ?_)
        have e1' : va_at G.1 vwCl (z.1 q, ax_cell G z.1 (ci, N) (upd (I q) k x) (RR q)) H1 := by
          rw [ax_cell_o G z.1 h100, ← ax_fs_i z.1 ci N h0]; exact e1
        have HK1 := ax_ok_set HK hc1 e1' e2 e3
        rw [ax_up_id RR q] at HK1
        exact w H1 _ Ls cells slots HK1 hl (hS.put e2 e3 (HK.2.1 q)) hcc hss
      · cases ho
    · cases ho
  · cases ho
theorem sm_putR {ci N k n idx : Nat} {C : String} {T : u_T} {ty : FieldType} (hd : decode cc pc = .ok (.putfield idx, 3)) (hw : Cond.fieldLink own idx C (T k).2.1 (T k).2.2.1 ∈ ax_tbl) (hin : ∀ w ∈ u_ws C T N, w ∈ ax_tbl) (ty0 : Nat → FieldType) (hty : ∀ k, k < N → parseFieldDescriptor (T k).2.2.1 = some (ty0 k)) (hnm : ∀ a, a < N → ∀ b, b < N → a ≠ b → (T a).2.1 ≠ (T b).2.1) (hc : vwCl[ci]? = some (C, T, N)) (hk : k < N) (h0 : ax_isr ci k = true) (hdc : (T k).1 = C) (h100 : ci < 100) (hfin : (T k).2.2.2 = false) (hdp : parseFieldDescriptor (T k).2.2.1 = some ty) (hty9 : (∃ o, ty = .object o) ∨ ∃ t, ty = .array t) (hn : n = pc + 3) : ax_Sim ME ini own cc nL ret pc (a_putR ci N k n) := by
  subst hn
  intro E cal ls st h o ho
  obtain ⟨sh, I, RR⟩ := h
  simp only [a_putR] at ho
  split at ho
  · rename_i x q st1 sh1 I1 R1 he
    cases he
    split at ho
    · rename_i c1 hc1
      split at ho
      · rename_i e1
        subst e1
        cases ho
        refine ⟨fun _ => ⟨Nat.le_refl _, Nat.le_refl _⟩, fun p l e R s m args below meth c G base z Q h0' F hC _ _ _ _ w H locs Ls cells slots HK hl hS hcc hss => ?_⟩
        have hat := ax_ok_at HK hc1
        rw [ax_cell_o G z.1 h100] at hat
        refine ax_putW F.1 F.2.1 F.2.2.2.2.1 hin ty0 hty hnm F.2.2.2.1 F.2.2.2.2.2.1 hat hc k hk (F.2.2.2.2.1 _ hw) (fun x hx => by rw [hdc] at hx; exact hx) hfin hdp (by rcases hty9 with ⟨o, rfl⟩ | ⟨t, rfl⟩ <;> rfl) (by rcases hty9 with ⟨o, rfl⟩ | ⟨t, rfl⟩ <;> rfl) (by show k < (ax_fs _ _ _ _ _).length; rw [ax_fs_len]; exact hk) hd (fun H1 i e1 e2 e3 => ?_)
        have e1' : va_at G.1 vwCl (z.1 q, ax_cell G z.1 (ci, N) (I q) (va_up (RR q) k (some x))) H1 := by
          rw [ax_cell_o G z.1 h100, ← ax_fs_r z.1 ci N h0]; exact e1
        have HK1 := ax_ok_set HK hc1 e1' e2 e3
        rw [ax_up_id I q] at HK1
        exact w H1 _ Ls cells slots HK1 hl (hS.put e2 e3 (HK.2.1 q)) hcc hss
      · cases ho
    · cases ho
  · cases ho
theorem sm_putIN {ci N k n idx : Nat} {host : String} {C : String} {T : u_T} (hd : decode cc pc = .ok (.putfield idx, 3)) (hw : Cond.fieldLinkNest own idx C (T k).2.1 (T k).2.2.1 host ∈ ax_tbl) (hin : ∀ w ∈ u_ws C T N, w ∈ ax_tbl) (ty0 : Nat → FieldType) (hty : ∀ k, k < N → parseFieldDescriptor (T k).2.2.1 = some (ty0 k)) (hnm : ∀ a, a < N → ∀ b, b < N → a ≠ b → (T a).2.1 ≠ (T b).2.1) (hc : vwCl[ci]? = some (C, T, N)) (hk : k < N) (h0 : ax_isr ci k = false) (hdc : (T k).1 = C) (h100 : ci < 100) (hfin : (T k).2.2.2 = false) (hdp : parseFieldDescriptor (T k).2.2.1 = some .int) (hn : n = pc + 3) : ax_Sim ME ini own cc nL ret pc (a_putI ci N k n) := by
  subst hn
  intro E cal ls st h o ho
  obtain ⟨sh, I, RR⟩ := h
  simp only [a_putI] at ho
  split at ho
  · rename_i x q st1 sh1 I1 R1 he
    cases he
    split at ho
    · rename_i c1 hc1
      split at ho
      · rename_i e1
        subst e1
        cases ho
        refine ⟨fun _ => ⟨Nat.le_refl _, Nat.le_refl _⟩, fun p l e R s m args below meth c G base z Q h0' F hC _ _ _ _ w H locs Ls cells slots HK hl hS hcc hss => ?_⟩
        have hat := ax_ok_at HK hc1
        rw [ax_cell_o G z.1 h100] at hat
        refine ax_putWN F.1 F.2.1 F.2.2.2.2.1 hin ty0 hty hnm F.2.2.2.1 F.2.2.2.2.2.1 hat hc k hk (F.2.2.2.2.1 _ hw) (fun x hx => by rw [hdc] at hx; exact hx) hfin hdp rfl rfl (by show k < (ax_fs _ _ _ _ _).length; rw [ax_fs_len]; exact hk) hd (fun H1 i e1 e2 e3 => ?_)
        have e1' : va_at G.1 vwCl (z.1 q, ax_cell G z.1 (ci, N) (upd (I q) k x) (RR q)) H1 := by
          rw [ax_cell_o G z.1 h100, ← ax_fs_i z.1 ci N h0]; exact e1
        have HK1 := ax_ok_set HK hc1 e1' e2 e3
        rw [ax_up_id RR q] at HK1
        exact w H1 _ Ls cells slots HK1 hl (hS.put e2 e3 (HK.2.1 q)) hcc hss
      · cases ho
    · cases ho
  · cases ho
theorem sm_putZN {ci N k n idx : Nat} {host : String} {C : String} {T : u_T} (hd : decode cc pc = .ok (.putfield idx, 3)) (hw : Cond.fieldLinkNest own idx C (T k).2.1 (T k).2.2.1 host ∈ ax_tbl) (hin : ∀ w ∈ u_ws C T N, w ∈ ax_tbl) (ty0 : Nat → FieldType) (hty : ∀ k, k < N → parseFieldDescriptor (T k).2.2.1 = some (ty0 k)) (hnm : ∀ a, a < N → ∀ b, b < N → a ≠ b → (T a).2.1 ≠ (T b).2.1) (hc : vwCl[ci]? = some (C, T, N)) (hk : k < N) (h0 : ax_isr ci k = false) (hdc : (T k).1 = C) (h100 : ci < 100) (hfin : (T k).2.2.2 = false) (hdp : parseFieldDescriptor (T k).2.2.1 = some .boolean) (hn : n = pc + 3) : ax_Sim ME ini own cc nL ret pc (a_putZ ci N k n) := by
  subst hn
  intro E cal ls st h o ho
  obtain ⟨sh, I, RR⟩ := h
  simp only [a_putZ] at ho
  split at ho
  · rename_i x q st1 sh1 I1 R1 he
    cases he
    split at ho
    · rename_i c1 hc1
      split at ho
      · rename_i e1
        obtain ⟨e1, hx01⟩ := e1
        subst e1
        cases ho
        refine ⟨fun _ => ⟨Nat.le_refl _, Nat.le_refl _⟩, fun p l e R s m args below meth c G base z Q h0' F hC _ _ _ _ w H locs Ls cells slots HK hl hS hcc hss => ?_⟩
        have hat := ax_ok_at HK hc1
        rw [ax_cell_o G z.1 h100] at hat
        refine ax_putWN F.1 F.2.1 F.2.2.2.2.1 hin ty0 hty hnm F.2.2.2.1 F.2.2.2.2.2.1 hat hc k hk (F.2.2.2.2.1 _ hw) (fun x hx => by rw [hdc] at hx; exact hx) hfin hdp (by rcases hx01 with rfl | rfl <;> rfl) (by rcases hx01 with rfl | rfl <;> rfl) (by show k < (ax_fs _ _ _ _ _).length; rw [ax_fs_len]; exact hk) hd (fun H1 i e1 e2 e3 => ?_)
        have e1' : va_at G.1 vwCl (z.1 q, ax_cell G z.1 (ci, N) (upd (I q) k x) (RR q)) H1 := by
          rw [ax_cell_o G z.1 h100, ← ax_fs_i z.1 ci N h0]; exact e1
        have HK1 := ax_ok_set HK hc1 e1' e2 e3
        rw [ax_up_id RR q] at HK1
        exact w H1 _ Ls cells slots HK1 hl (hS.put e2 e3 (HK.2.1 q)) hcc hss
      · cases ho
    · cases ho
  · cases ho
theorem sm_putRN {ci N k n idx : Nat} {host : String} {C : String} {T : u_T} {ty : FieldType} (hd : decode cc pc = .ok (.putfield idx, 3)) (hw : Cond.fieldLinkNest own idx C (T k).2.1 (T k).2.2.1 host ∈ ax_tbl) (hin : ∀ w ∈ u_ws C T N, w ∈ ax_tbl) (ty0 : Nat → FieldType) (hty : ∀ k, k < N → parseFieldDescriptor (T k).2.2.1 = some (ty0 k)) (hnm : ∀ a, a < N → ∀ b, b < N → a ≠ b → (T a).2.1 ≠ (T b).2.1) (hc : vwCl[ci]? = some (C, T, N)) (hk : k < N) (h0 : ax_isr ci k = true) (hdc : (T k).1 = C) (h100 : ci < 100) (hfin : (T k).2.2.2 = false) (hdp : parseFieldDescriptor (T k).2.2.1 = some ty) (hty9 : (∃ o, ty = .object o) ∨ ∃ t, ty = .array t) (hn : n = pc + 3) : ax_Sim ME ini own cc nL ret pc (a_putR ci N k n) := by
  subst hn
  intro E cal ls st h o ho
  obtain ⟨sh, I, RR⟩ := h
  simp only [a_putR] at ho
  split at ho
  · rename_i x q st1 sh1 I1 R1 he
    cases he
    split at ho
    · rename_i c1 hc1
      split at ho
      · rename_i e1
        subst e1
        cases ho
        refine ⟨fun _ => ⟨Nat.le_refl _, Nat.le_refl _⟩, fun p l e R s m args below meth c G base z Q h0' F hC _ _ _ _ w H locs Ls cells slots HK hl hS hcc hss => ?_⟩
        have hat := ax_ok_at HK hc1
        rw [ax_cell_o G z.1 h100] at hat
        refine ax_putWN F.1 F.2.1 F.2.2.2.2.1 hin ty0 hty hnm F.2.2.2.1 F.2.2.2.2.2.1 hat hc k hk (F.2.2.2.2.1 _ hw) (fun x hx => by rw [hdc] at hx; exact hx) hfin hdp (by rcases hty9 with ⟨o, rfl⟩ | ⟨t, rfl⟩ <;> rfl) (by rcases hty9 with ⟨o, rfl⟩ | ⟨t, rfl⟩ <;> rfl) (by show k < (ax_fs _ _ _ _ _).length; rw [ax_fs_len]; exact hk) hd (fun H1 i e1 e2 e3 => ?_)
        have e1' : va_at G.1 vwCl (z.1 q, ax_cell G z.1 (ci, N) (I q) (va_up (RR q) k (some x))) H1 := by
          rw [ax_cell_o G z.1 h100, ← ax_fs_r z.1 ci N h0]; exact e1
        have HK1 := ax_ok_set HK hc1 e1' e2 e3
        rw [ax_up_id I q] at HK1
        exact w H1 _ Ls cells slots HK1 hl (hS.put e2 e3 (HK.2.1 q)) hcc hss
      · cases ho
    · cases ho
  · cases ho
theorem sm_putRF {ci N k n idx : Nat} {C : String} {T : u_T} {ty : FieldType} (hd : decode cc pc = .ok (.putfield idx, 3)) (hw : Cond.fieldLink own idx C (T k).2.1 (T k).2.2.1 ∈ ax_tbl) (hin : ∀ w ∈ u_ws C T N, w ∈ ax_tbl) (ty0 : Nat → FieldType) (hty : ∀ k, k < N → parseFieldDescriptor (T k).2.2.1 = some (ty0 k)) (hnm : ∀ a, a < N → ∀ b, b < N → a ≠ b → (T a).2.1 ≠ (T b).2.1) (hc : vwCl[ci]? = some (C, T, N)) (hk : k < N) (h0 : ax_isr ci k = true) (hdc : (T k).1 = C) (h100 : ci < 100) (hfin : (T k).2.2.2 = true) (hini : ini = true) (hdo : (T k).1 = own) (hdp : parseFieldDescriptor (T k).2.2.1 = some ty) (hty9 : (∃ o, ty = .object o) ∨ ∃ t, ty = .array t) (hn : n = pc + 3) : ax_Sim ME ini own cc nL ret pc (a_putR ci N k n) := by
  subst hn
  intro E cal ls st h o ho
  obtain ⟨sh, I, RR⟩ := h
  simp only [a_putR] at ho
  split at ho
  · rename_i x q st1 sh1 I1 R1 he
    cases he
    split at ho
    · rename_i c1 hc1
      split at ho
      · rename_i e1
        subst e1
        cases ho
        refine ⟨fun _ => ⟨Nat.le_refl _, Nat.le_refl _⟩, fun p l e R s m args below meth c G base z Q h0' F hC _ _ _ _ w H locs Ls cells slots HK hl hS hcc hss => ?_⟩
        have hat := ax_ok_at HK hc1
        rw [ax_cell_o G z.1 h100] at hat
        refine ax_putWF F.1 F.2.1 F.2.2.2.2.1 hin ty0 hty hnm F.2.2.2.1 F.2.2.2.2.2.1 hat hc k hk (F.2.2.2.2.1 _ hw) (fun x hx => by rw [hdc] at hx; exact hx) hfin (F.2.2.2.2.2.2.2.1 hini) hdo hdp (by rcases hty9 with ⟨o, rfl⟩ | ⟨t, rfl⟩ <;> rfl) (by rcases hty9 with ⟨o, rfl⟩ | ⟨t, rfl⟩ <;> rfl) (by show k < (ax_fs _ _ _ _ _).length; rw [ax_fs_len]; exact hk) hd (fun H1 i e1 e2 e3 => ?_)
        have e1' : va_at G.1 vwCl (z.1 q, ax_cell G z.1 (ci, N) (I q) (va_up (RR q) k (some x))) H1 := by
          rw [ax_cell_o G z.1 h100, ← ax_fs_r z.1 ci N h0]; exact e1
        have HK1 := ax_ok_set HK hc1 e1' e2 e3
        rw [ax_up_id I q] at HK1
        exact w H1 _ Ls cells slots HK1 hl (hS.put e2 e3 (HK.2.1 q)) hcc hss
      · cases ho
    · cases ho
  · cases ho
theorem sm_iald {n : Nat} (hd : decode cc pc = .ok (.iaload, 1)) (hn : n = pc + 1) : ax_Sim ME ini own cc nL ret pc (a_iald n) := by
  subst hn
  refine sm_pure (fun E cal ls st h o ho => ?_)
  obtain ⟨sh, I, RR⟩ := h
  simp only [a_iald] at ho
  split at ho
  · rename_i i q st1 sh1 I1 R1 he
    cases he
    split at ho
    · rename_i c1 hc1
      split at ho
      · rename_i e1
        split at ho
        · cases ho
        · rename_i hin
          cases ho
          exact ⟨_, _, rfl, fun p l e R s m args below meth c G base z Q F H locs Ls cells slots hk hl hS w => va_iald F.1 F.2.1 F.2.2.2.2.2.1 hk.2.2.2.2 q 0 (by rw [ax_ws_get G z.1 (h := (sh, I, RR)) hc1, ax_cell_i G z.1 e1]) rfl hin hd w⟩
      · cases ho
    · cases ho
  · cases ho
theorem sm_cald {n : Nat} (hd : decode cc pc = .ok (.caload, 1)) (hn : n = pc + 1) : ax_Sim ME ini own cc nL ret pc (a_cald n) := by
  subst hn
  refine sm_pure (fun E cal ls st h o ho => ?_)
  obtain ⟨sh, I, RR⟩ := h
  simp only [a_cald] at ho
  split at ho
  · rename_i i q st1 sh1 I1 R1 he
    cases he
    split at ho
    · rename_i c1 hc1
      split at ho
      · rename_i e1
        split at ho
        · cases ho
        · rename_i hin
          cases ho
          exact ⟨_, _, rfl, fun p l e R s m args below meth c G base z Q F H locs Ls cells slots hk hl hS w => va_cald F.1 F.2.1 F.2.2.2.2.2.1 hk.2.2.2.2 q 1 (by rw [ax_ws_get G z.1 (h := (sh, I, RR)) hc1, ax_cell_c G z.1 e1]) rfl hin hd w⟩
      · cases ho
    · cases ho
  · cases ho
theorem sm_aald {n : Nat} (hd : decode cc pc = .ok (.aaload, 1)) (hn : n = pc + 1) : ax_Sim ME ini own cc nL ret pc (a_aald n) := by
  subst hn
  refine sm_pure (fun E cal ls st h o ho => ?_)
  obtain ⟨sh, I, RR⟩ := h
  simp only [a_aald] at ho
  split at ho
  · rename_i i q st1 sh1 I1 R1 he
    cases he
    split at ho
    · rename_i c1 hc1
      split at ho
      · rename_i e1
        split at ho
        · cases ho
        · rename_i hin
          split at ho
          · rename_i j hj
            cases ho
            exact ⟨_, _, rfl, fun p l e R s m args below meth c G base z Q F H locs Ls cells slots hk hl hS w => by
              refine va_aldq F.1 F.2.1 F.2.2.2.2.2.1 hk.2.2.2.2 q 2 (by rw [ax_ws_get G z.1 (h := (sh, I, RR)) hc1, ax_cell_r G z.1 e1]) rfl hin hd ?_
              rw [show (RR q i.toNatClampNeg).map z.1 = some (z.1 j) by rw [hj]; rfl]
              exact w⟩
          · cases ho
      · cases ho
    · cases ho
  · cases ho
theorem sm_sald {n : Nat} (hd : decode cc pc = .ok (.iaload, 1)) (hn : n = pc + 1) : ax_Sim ME ini own cc nL ret pc (a_sald n) := by
  subst hn
  refine sm_pure (fun E cal ls st h o ho => ?_)
  simp only [a_sald] at ho
  split at ho
  · rename_i i st1 h1 he
    cases he
    split at ho
    · cases ho
    · rename_i hin
      cases ho
      exact ⟨_, _, rfl, fun p l e R s m args below meth c G base z Q F H locs Ls cells slots hk hl hS w => by
        obtain ⟨x1, x2, x3, -⟩ := F.2.2.2.2.2.2.2.2.2
        exact va_sld (A := fun q => base ≤ q) F.1 F.2.1 x1 (Nat.lt_of_lt_of_le x2 x3) (Nat.not_le.mpr x2) hS hin hd w⟩
  · cases ho
theorem sm_slen {n : Nat} (hd : decode cc pc = .ok (.arraylength, 1)) (hn : n = pc + 1) : ax_Sim ME ini own cc nL ret pc (a_slen n) := by
  subst hn
  refine sm_pure (fun E cal ls st h o ho => ?_)
  simp only [a_slen] at ho
  split at ho
  · rename_i st1 h1 he
    cases he
    cases ho
    exact ⟨_, _, rfl, fun p l e R s m args below meth c G base z Q F H locs Ls cells slots hk hl hS w => by
        obtain ⟨x1, x2, x3, -⟩ := F.2.2.2.2.2.2.2.2.2
        exact va_slen (A := fun q => base ≤ q) F.1 F.2.1 x1 (Nat.lt_of_lt_of_le x2 x3) (Nat.not_le.mpr x2) hS hd w⟩
  · cases ho
theorem sm_iast {n : Nat} (hd : decode cc pc = .ok (.iastore, 1)) (hn : n = pc + 1) : ax_Sim ME ini own cc nL ret pc (a_iast n) := by
  subst hn
  intro E cal ls st h o ho
  obtain ⟨sh, I, RR⟩ := h
  simp only [a_iast] at ho
  split at ho
  · rename_i x i q st1 sh1 I1 R1 he
    cases he
    split at ho
    · rename_i c1 hc1
      split at ho
      · rename_i e1
        split at ho
        · cases ho
        · rename_i hin
          cases ho
          refine ⟨fun _ => ⟨Nat.le_refl _, Nat.le_refl _⟩, fun p l e R s m args below meth c G base z Q h0' F hC _ _ _ _ w H locs Ls cells slots HK hl hS hcc hss => ?_⟩
          have hat := ax_ok_at HK hc1
          rw [ax_cell_i G z.1 e1] at hat
          have hA : H[z.1 q]? = some (vp_cell _ (c1.2, .inl (I q))) := hat
          refine W.iast F.1 F.2.1 hA ((F.2.2.2.2.2.1.2 0 _ rfl).1 c1.2 (fun j => .int (I q j))) (fun q => by cases q) (by show ¬ (i < 0 ∨ (arrV _ _ _).slots.size ≤ _); rw [arrV_size]; exact hin) rfl rfl hd fun H1 e1' z1 oq => ?_
          have hat1 : va_at G.1 vwCl (z.1 q, ax_cell G z.1 c1 (upd (I q) i.toNatClampNeg x) (RR q)) H1 := by
            rw [ax_cell_i G z.1 e1]
            show H1[z.1 q]? = some (vp_cell _ _)
            rw [e1', vp_cell_i, vp_cell_i, arrV_store]
            congr 2
            funext q9
            by_cases hq : q9 = i.toNatClampNeg
            · subst hq
              simp [updV, upd]
            · simp [updV, upd, hq]
          have HK1 := ax_ok_set HK hc1 hat1 z1 oq
          rw [ax_up_id RR q] at HK1
          exact w H1 _ Ls cells slots HK1 hl (hS.put z1 oq (HK.2.1 q)) hcc hss
      · cases ho
    · cases ho
  · cases ho
theorem sm_cast {n : Nat} (hd : decode cc pc = .ok (.castore, 1)) (hn : n = pc + 1) : ax_Sim ME ini own cc nL ret pc (a_cast n) := by
  subst hn
  intro E cal ls st h o ho
  obtain ⟨sh, I, RR⟩ := h
  simp only [a_cast] at ho
  split at ho
  · rename_i x i q st1 sh1 I1 R1 he
    cases he
    split at ho
    · rename_i c1 hc1
      split at ho
      · rename_i e1
        split at ho
        · cases ho
        · rename_i hin
          cases ho
          refine ⟨fun _ => ⟨Nat.le_refl _, Nat.le_refl _⟩, fun p l e R s m args below meth c G base z Q h0' F hC _ _ _ _ w H locs Ls cells slots HK hl hS hcc hss => ?_⟩
          have hat := ax_ok_at HK hc1
          rw [ax_cell_c G z.1 e1] at hat
          have hA : H[z.1 q]? = some (vp_cell _ (c1.2, .inl (I q))) := hat
          refine W.cast F.1 F.2.1 hA ((F.2.2.2.2.2.1.2 1 _ rfl).1 c1.2 (fun j => .int (I q j))) (fun q => by cases q) (by show ¬ (i < 0 ∨ (arrV _ _ _).slots.size ≤ _); rw [arrV_size]; exact hin) rfl rfl hd fun H1 e1' z1 oq => ?_
          have hat1 : va_at G.1 vwCl (z.1 q, ax_cell G z.1 c1 (upd (I q) i.toNatClampNeg (vp_nar .char x)) (RR q)) H1 := by
            rw [ax_cell_c G z.1 e1]
            show H1[z.1 q]? = some (vp_cell _ _)
            rw [e1', vp_cell_i, vp_cell_i, arrV_store]
            congr 2
            funext q9
            by_cases hq : q9 = i.toNatClampNeg
            · subst hq
              simp [updV, upd, vp_nar]
              try rfl
            · simp [updV, upd, hq]
          have HK1 := ax_ok_set HK hc1 hat1 z1 oq
          rw [ax_up_id RR q] at HK1
          exact w H1 _ Ls cells slots HK1 hl (hS.put z1 oq (HK.2.1 q)) hcc hss
      · cases ho
    · cases ho
  · cases ho
end SM2
