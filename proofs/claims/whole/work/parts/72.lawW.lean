/-! the law's loop, on the machine -/
theorem sg_sg (q : Nat) : sg (sg q) = q := by
  unfold sg
  by_cases h1 : 30 ≤ q ∧ q < 49
  · rw [if_pos h1, if_neg (by omega), if_pos (by omega)]
    omega
  · rw [if_neg h1]
    by_cases h2 : 49 ≤ q ∧ q < 68
    · rw [if_pos h2, if_pos (by omega)]
      omega
    · rw [if_neg h2, if_neg h1, if_neg h2]
theorem sg_inj {i j : Nat} (h : sg i = sg j) : i = j := by rw [← sg_sg i, h, sg_sg]
theorem sg_hi {q : Nat} (h : 68 ≤ q) : sg q = q := by
  unfold sg
  rw [if_neg (by omega), if_neg (by omega)]
theorem sg_lt {q : Nat} (h : q < 88) : sg q < 88 := by
  unfold sg
  split
  · omega
  · split <;> omega
theorem sg_sh : ∀ k : Fin 88, ax_nth (ax_shC ++ ax_shM) (sg k.val) = ax_nth (ax_shC ++ ax_shM) k.val := by decide +kernel
theorem sg_R : ∀ k : Fin 88, ∀ j : Fin 40, (ax_Rt (ax_rC ++ ax_rM) k.val j.val).map sg = ax_sw0 (ax_Rt (ax_rC ++ ax_rM)) (sg k.val) j.val := by decide +kernel
theorem ax_nth_out {α : Type} : ∀ {l : List α} {j : Nat}, l.length ≤ j → ax_nth l j = none
  | [], j, _ => by cases j <;> rfl
  | a :: l, 0, h => absurd h (by simp)
  | a :: l, j + 1, h => ax_nth_out (l := l) (j := j) (by simp at h; omega)
theorem ax_nth_mem {α : Type} : ∀ {l : List α} {j : Nat} {a : α}, ax_nth l j = some a → a ∈ l
  | [], j, a, h => by cases j <;> cases h
  | b :: l, 0, a, h => by cases h; exact List.mem_cons_self
  | b :: l, j + 1, a, h => List.mem_cons_of_mem _ (ax_nth_mem (l := l) (j := j) h)
theorem ax_Rt_far {t : List (List (Option Nat))} (ht : ∀ r ∈ t, r.length ≤ 40) {q j : Nat} (hj : 40 ≤ j) : ax_Rt t q j = none := by
  unfold ax_Rt
  cases hq : ax_nth t q with
  | none => rfl
  | some r =>
    have := ht r (ax_nth_mem hq)
    show (match ax_nth r j with
      | some v => v
      | none => none) = none
    rw [ax_nth_out (by omega)]
theorem sg_len : ∀ r ∈ ax_rC ++ ax_rM, r.length ≤ 40 := by decide +kernel
theorem sg_Ra {k : Nat} (hk : k < 88) (j : Nat) : (ax_Rt (ax_rC ++ ax_rM) k j).map sg = ax_sw0 (ax_Rt (ax_rC ++ ax_rM)) (sg k) j := by
  by_cases hj : j < 40
  · exact sg_R ⟨k, hk⟩ ⟨j, hj⟩
  · rw [ax_Rt_far sg_len (by omega)]
    unfold ax_sw0
    by_cases e : sg k = 0
    · rw [e, va_up_self, va_up_ne _ _ (by omega), va_up_ne _ _ (by omega), ax_Rt_far sg_len (by omega)]
      rfl
    · rw [va_up_ne _ _ e, va_up_ne _ _ e, ax_Rt_far sg_len (by omega)]
      rfl
theorem ax_shLen : (ax_shC ++ ax_shM).length = 88 := rfl
theorem sg_map {rz : Nat → Nat} {k j : Nat} (hk : k < 88) : (ax_Rt (ax_rC ++ ax_rM) k j).map (fun q => rz (sg q)) = (ax_sw0 (ax_Rt (ax_rC ++ ax_rM)) (sg k) j).map rz := by
  rw [← sg_Ra hk, Option.map_map]
  rfl
theorem ax_ok_sw {G : ax_G} {base : Nat} {rz : Nat → Nat} {J : Nat → Nat → Int32} {H : Heap} (h : ax_ok G base rz (ax_swp J) H) : ax_ok G base (fun q => rz (sg q)) (ax_h (fun q => J (sg q))) H := by
  obtain ⟨h1, h2, h3, h4, h5⟩ := h
  refine ⟨h1, fun i => h2 _, fun i j e => sg_inj (h3 _ _ e), fun i hi => ?_, fun k q hq => ?_⟩
  · have hi : 88 ≤ i := hi
    show rz (sg i) = _
    rw [sg_hi (by omega)]
    exact h4 i hi
  · have hk : k < 88 := (ax_ws_at G _ _ hq).1
    rw [ax_ws_i G _ (ax_h (fun q => J (sg q))) hk] at hq
    have e := Option.some.inj hq
    have hs : (ax_ws G rz (ax_swp J))[sg k]? = some q := by
      rw [ax_ws_i G rz (ax_swp J) (show sg k < (ax_shC ++ ax_shM).length from sg_lt hk), ← e]
      show some (rz (sg k), ax_cell G rz ((ax_nth (ax_shC ++ ax_shM) (sg k)).getD (0, 0)) (J (sg k)) (ax_sw0 (ax_Rt (ax_rC ++ ax_rM)) (sg k))) = some (rz (sg k), ax_cell G (fun q => rz (sg q)) ((ax_nth (ax_shC ++ ax_shM) k).getD (0, 0)) (J (sg k)) (ax_Rt (ax_rC ++ ax_rM) k))
      rw [sg_sh ⟨k, hk⟩]
      have hf : ∀ ci n f, ax_fs (fun q => rz (sg q)) ci n f (ax_Rt (ax_rC ++ ax_rM) k) = ax_fs rz ci n f (ax_sw0 (ax_Rt (ax_rC ++ ax_rM)) (sg k)) := by
        intro ci n f
        unfold ax_fs
        refine List.map_congr_left (fun j _ => ?_)
        rw [sg_map hk]
      have hg : (fun j => (ax_Rt (ax_rC ++ ax_rM) k j).map (fun q => rz (sg q))) = fun j => (ax_sw0 (ax_Rt (ax_rC ++ ax_rM)) (sg k) j).map rz := funext (fun j => sg_map hk)
      unfold ax_cell
      rw [hf, hg]
    exact h5 (sg k) q hs
theorem ax_loc_sw {rz : Nat → Nat} {b str : Nat} {Ls : Array Slot} {x : Int32} (h : ax_loc (rz, b, str) 4 Ls [.retAddr 0, .ref 0, .ref 68, .int x]) : ax_loc (fun q => rz (sg q), b, str) 4 Ls [.retAddr 0, .ref 0, .ref 68, .int x] := by
  refine ⟨h.1, h.2.1, fun i v hv hn => ?_⟩
  have := h.2.2 i v hv hn
  have hm : v ∈ [Value.retAddr 0, .ref 0, .ref 68, .int x] := List.mem_of_getElem? hv
  have e : ax_rv (fun q => rz (sg q), b, str) v = ax_rv (rz, b, str) v := by
    simp only [List.mem_cons, List.not_mem_nil, or_false] at hm
    rcases hm with rfl | rfl | rfl | rfl <;> rfl
  rw [e]
  exact this
section LWW
variable {p : Program} {l : Launch} {e : Env} {R : Room} {s : State} {m : MethodId} {args : Array Value} {below : List Frame} {meth : Method} {c : Code} {G : ax_G} {base b str : Nat} {Q : State → Prop} {E : ax_E} {h0 : ax_H}
theorem lw_rounds (F : ∀ rz, ax_Fr false RL cL_law 4 (some .boolean) p R s m args meth c G base (rz, b, str) E) (hC : ax_CalOk ax_ME l R E (ax_cal E 13)) (hM : ax_Mono (ax_cal E 13)) (hL : E.1 ≤ 384) (hcl : 88 ≤ h0.1.length + R.cells) (hsl : ax_slt (ax_h zI) ≤ ax_slt h0 + R.slots) (hl0 : h0.1.length ≤ 88) (hs0 : ax_slt h0 ≤ ax_slt (ax_h zI))
    (hH : ∀ rz J, ax_Ho cL_law (some .boolean) p l e R s m args below meth c G base (rz, b, str) Q h0 (some (.int 1)) (ax_h J)) : ∀ (j i : Nat), E.1 ≤ i + j → i ≤ 1000 → ∀ (rz : Nat → Nat) (J : Nat → Nat → Int32) (N : Nat → Nat) (V : Nat → Nat → Int32), IV J N V → ax_Wt 4 p l e R s m args below meth c G base (rz, b, str) Q h0 (18, [.retAddr 0, .ref 0, .ref 68, .int (nI i)], [], ax_h J) := by
  have stop : ∀ (i : Nat), ¬ i + 6 ≤ E.1 → i ≤ 1000 → ∀ (rz : Nat → Nat) (J : Nat → Nat → Int32), ax_Wt 4 p l e R s m args below meth c G base (rz, b, str) Q h0 (18, [.retAddr 0, .ref 0, .ref 68, .int (nI i)], [], ax_h J) := by
    intro i h6 hi rz J
    have hA : AW E (ax_cal E 13) t_law (18, [.retAddr 0, .ref 0, .ref 68, .int (nI i)], [], ax_h J) (fun r g => r = some (.int 1) ∧ g = ax_h J) := by
      repeat refine bs rfl ?_
      refine bt rfl (show nI E.1 - 6 < nI i from ?_) ?_
      · rw [i_lt, show (6 : Int32) = nI 6 from rfl, pk_sub_toInt (by omega) (by omega), nI_toInt (by omega)]
        omega
      · repeat refine bs rfl ?_
        exact br rfl ⟨rfl, rfl⟩
    obtain ⟨n, r, g, a, rfl, rfl⟩ := hA
    exact ax_run_sim (r := some (.int 1)) (hf := ax_h J) hM tm_law (F rz) hC (by show 88 ≤ _; exact hcl) hsl (hH rz J) n _ a (show h0.1.length ≤ 88 from hl0) hs0
  intro j
  induction j with
  | zero =>
    intro i h1 h2 rz J N V hi
    exact stop i (by omega) h2 rz J
  | succ j ih =>
    intro i h1 h2 rz J N V hi
    by_cases h6 : i + 6 ≤ E.1
    · have w : ∀ (rz : Nat → Nat) (J : Nat → Nat → Int32) (N : Nat → Nat) (V : Nat → Nat → Int32), IV J N V → ax_Wt 4 p l e R s m args below meth c G base (rz, b, str) Q h0 (18, [.retAddr 0, .ref 0, .ref 68, .int (nI i + 6)], [], ax_h J) := by
        intro rz J N V hi
        have := ih (i + 6) (by omega) (by omega) rz J N V hi
        rw [← nI_add i 6] at this
        exact this
      obtain ⟨n, S1, hgo, hT⟩ := st_law (E := E) (d := 0) hi h6 hL
      rcases hT with ⟨J', N', V', rfl, hi'⟩ | ⟨v, G', rfl, n2, S2, hgo2, J', N', V', rfl, hi'⟩
      · exact (ax_go_sim hM tm_law (F rz) hC (S1 := (18, [.retAddr 0, .ref 0, .ref 68, .int (nI i + 6)], [], ax_h J')) (show 88 ≤ _ from hcl) hsl (w rz J' N' V' hi') n _ hgo (show h0.1.length ≤ 88 from hl0) hs0).2
      · have w2 := (ax_go_sim hM tm_law (F (fun q => rz (sg q))) hC (S1 := (18, [.retAddr 0, .ref 0, .ref 68, .int (nI i + 6)], [], ax_h J')) (show 88 ≤ _ from hcl) hsl (w _ J' N' V' hi') n2 _ hgo2 (show h0.1.length ≤ 88 from hl0) hs0).2
        have w1 : ax_Wt 4 p l e R s m args below meth c G base (rz, b, str) Q h0 (221, [.retAddr 0, .ref 0, .ref 68, .int (nI i)], [.int v], ax_swp G') := by
          intro H locs Ls cells slots HK hl hS hcc hss
          exact w2 H locs Ls cells slots (ax_ok_sw HK) (ax_loc_sw hl) hS hcc hss
        exact (ax_go_sim hM tm_law (F rz) hC (S1 := (221, [.retAddr 0, .ref 0, .ref 68, .int (nI i)], [.int v], ax_swp G')) (show 88 ≤ _ from hcl) hsl w1 n _ hgo (show h0.1.length ≤ 88 from hl0) hs0).2
    · exact stop i h6 h2 rz J
/-- from the entry to the loop -/
theorem lw_begin (F : ∀ rz, ax_Fr false RL cL_law 4 (some .boolean) p R s m args meth c G base (rz, b, str) E) (hC : ax_CalOk ax_ME l R E (ax_cal E 13)) (hM : ax_Mono (ax_cal E 13)) (hL : E.1 ≤ 384) (hcl : 88 ≤ R.cells) (hsl : ax_slt (ax_h zI) ≤ R.slots)
    (hH : ∀ rz J, ax_Ho cL_law (some .boolean) p l e R s m args below meth c G base (rz, b, str) Q ([], zI, ax_Rt []) (some (.int 1)) (ax_h J)) (rz : Nat → Nat) : ax_Wt 4 p l e R s m args below meth c G base (rz, b, str) Q ([], zI, ax_Rt []) (0, [.retAddr 0, .float 0, .float 0, .float 0], [], ([], zI, ax_Rt [])) := by
  obtain ⟨Gc, e1, r1, r2, r3, r4, r5, r6, r7, r8⟩ := c_init (E := E) (d := 8)
  obtain ⟨J, e2, m1, m2, m3, m4, m5, m6⟩ := m_init (E := E) (d := 11) Gc
  have hiv : IV J N0 V0 := by
    refine ⟨r2, RC_fr (fun q a b c => m1 q (by omega)) r1, m2, ⟨0, fun _ => 0, ⟨by omega, ?_, fun k hk => absurd hk (by omega), fun k hk => absurd hk (by omega)⟩, ⟨by omega, m3, fun k hk => absurd hk (by omega), fun k hk => absurd hk (by omega)⟩⟩, ⟨0, fun _ => 0, fun _ => 0, ⟨by omega, ?_, fun k hk => absurd hk (by omega), fun k hk => absurd hk (by omega)⟩, ⟨by omega, m6, fun k hk => absurd hk (by omega), fun k hk => absurd hk (by omega)⟩⟩, ⟨0, fun _ => N0 1, fun _ => V0, by omega, ?_, m4, rfl, rfl, fun k hk => absurd hk (by omega)⟩, ⟨0, by omega, ?_, m5, fun k hk => absurd hk (by omega)⟩, Or.inl ?_, Or.inl ?_⟩
    · rw [m1 1 (by decide)]; exact r3
    · rw [m1 20 (by decide)]; exact r6
    · rw [m1 5 (by decide)]; exact r4
    · rw [m1 8 (by decide)]; exact r5
    · rw [m1 23 (by decide)]; exact r7
    · rw [m1 27 (by decide)]; exact r8
  have w := lw_rounds (h0 := ([], zI, ax_Rt [])) F hC hM hL (by show 88 ≤ 0 + R.cells; omega) (by show _ ≤ 0 + R.slots; omega) (Nat.zero_le _) (Nat.zero_le _) hH (E.1 + 1) 0 (by omega) (by omega) rz J N0 V0 hiv
  have hgo : AL E (ax_cal E 13) t_law (fun S => S = (18, [.retAddr 0, .ref 0, .ref 68, .int (nI 0)], [], ax_h J)) (0, [.retAddr 0, .float 0, .float 0, .float 0], [], ([], zI, ax_Rt [])) := by
    refine gs (S' := (3, [.retAddr 0, .float 0, .float 0, .float 0], [.ref 0], ([(11, 9)], zI, ax_Rt [[]]))) ?_ ?_
    · show some (Sum.inl (3, [Value.retAddr 0, .float 0, .float 0, .float 0], [Value.ref 0], [(11, 9)], va_up zI 0 (fun _ => 0), va_up (ax_Rt []) 0 (fun _ => none))) = _
      rw [zI_new, ax_Rt_new (t := []) (n := 0) rfl]
      rfl
    · refine gs rfl ?_
      refine gc rfl e1 ?_
      refine gs rfl ?_
      refine gs (S' := (11, [.retAddr 0, .ref 0, .float 0, .float 0], [.ref 68], (ax_shC ++ [(12, 38)], va_up Gc 68 (fun _ => 0), ax_Rt (ax_rC ++ [[]])))) ?_ ?_
      · show some (Sum.inl (11, [Value.retAddr 0, .ref 0, .float 0, .float 0], [Value.ref 68], ax_shC ++ [] ++ [(12, 38)], va_up Gc 68 (fun _ => 0), va_up (ax_Rt (ax_rC ++ [])) 68 (fun _ => none))) = _
        rw [ax_Rt_new (t := ax_rC ++ []) (n := 68) rfl, List.append_nil, List.append_nil]
      · refine gs rfl ?_
        refine gc rfl e2 ?_
        iterate 3 refine gs rfl ?_
        exact al_t rfl
  obtain ⟨n, S1, a, rfl⟩ := hgo
  exact (ax_go_sim hM tm_law (F rz) hC (S1 := (18, [.retAddr 0, .ref 0, .ref 68, .int (nI 0)], [], ax_h J)) (by show 88 ≤ 0 + R.cells; omega) (by show ax_slt (ax_h zI) ≤ 0 + R.slots; omega) w n _ a (Nat.le_refl _) (Nat.le_refl _)).2
end LWW
