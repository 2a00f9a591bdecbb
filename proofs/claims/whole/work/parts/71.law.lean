/-! the law: one round of its loop, abstractly -/
def AL (E : ax_E) (cal : ax_Cal) (t : ax_T) (Tg : ax_S → Prop) (S : ax_S) : Prop := ∃ n S1, ax_go E cal t n S S1 ∧ Tg S1
section ALR
variable {E : ax_E} {cal : ax_Cal} {t : ax_T} {pc : Nat} {l0 s0 : List Value} {g0 : ax_H} {S S' S1 S2 : ax_S} {Tg Tg' : ax_S → Prop}
theorem al_t (h : Tg S) : AL E cal t Tg S := ⟨0, S, rfl, h⟩
theorem al_mono (h : AL E cal t Tg S) (k : ∀ S, Tg S → Tg' S) : AL E cal t Tg' S := by
  obtain ⟨n, S1, a, b⟩ := h
  exact ⟨n, S1, a, k S1 b⟩
theorem gs (h : ax_stp E cal t pc (pc, l0, s0, g0) = some (.inl S')) (k : AL E cal t Tg S') : AL E cal t Tg (pc, l0, s0, g0) := by
  obtain ⟨n, S1, a, b⟩ := k
  exact ⟨n + 1, S1, ⟨S', h, a⟩, b⟩
theorem gt {c : Prop} [Decidable c] {o : Option (ax_S ⊕ ax_R)} (h : ax_stp E cal t pc (pc, l0, s0, g0) = if c then some (.inl S1) else o) (hc : c) (k1 : AL E cal t Tg S1) : AL E cal t Tg (pc, l0, s0, g0) := gs (by rw [h, if_pos hc]) k1
theorem gf {c : Prop} [Decidable c] {o : Option (ax_S ⊕ ax_R)} (h : ax_stp E cal t pc (pc, l0, s0, g0) = if c then o else some (.inl S2)) (hc : ¬ c) (k2 : AL E cal t Tg S2) : AL E cal t Tg (pc, l0, s0, g0) := gs (by rw [h, if_neg hc]) k2
theorem gc {y n : Nat} {as ls rest : List Value} {h0 : ax_H} {r : Option Value} {h' : ax_H} (h : ax_stp E cal t pc (pc, l0, s0, g0) = ax_back (cal y as h0) n ls rest) (hc : cal y as h0 = some (r, h')) (k : AL E cal t Tg (n, ls, r.toList ++ rest, h')) : AL E cal t Tg (pc, l0, s0, g0) := gs (by rw [h, hc]; rfl) k
/-- the script is read -/
theorem gld {i : Int32} {N n : Nat} {f : Nat → Int32} {ls st : List Value} {g : ax_H} (h : ax_stp E cal t pc (pc, l0, s0, g0) = if i < 0 ∨ N ≤ i.toNatClampNeg then none else some (.inl (n, ls, .int (f i.toNatClampNeg) :: st, g))) (j : Nat) (hi : i = nI j) (hj : j < N) (hN : N < 2 ^ 31) (k : AL E cal t Tg (n, ls, .int (f j) :: st, g)) : AL E cal t Tg (pc, l0, s0, g0) := by
  subst hi
  have e := nI_clamp (n := j) (by omega)
  refine gf h (vp_in_nI hj hN) ?_
  rw [e]
  exact k
end ALR
theorem i_and31 (x : Int32) : ∃ j, j < 32 ∧ x &&& 31 = nI j := by
  refine ⟨(x &&& 31).toBitVec.toNat, ?_, ?_⟩
  · rw [Int32.toBitVec_and, BitVec.toNat_and]
    exact Nat.lt_of_le_of_lt Nat.and_le_right (by decide)
  · apply Int32.toBitVec_inj.mp
    show _ = BitVec.ofNat 32 _
    rw [BitVec.ofNat_toNat, BitVec.setWidth_eq]
theorem sw_law {j : Nat} (hj : j ≤ 29) (ts : List Nat) (e : Nat) : ax_sw 0 29 ts e (nI j).toInt = (ax_nth ts j).getD e := by
  rw [nI_toInt (by omega)]
  unfold ax_sw
  rw [if_neg (by omega), show ((j : Int) - 0).toNat = j by omega]
theorem sw_lawO {j : Nat} (hj : 29 < j) (h : j < 32) (ts : List Nat) (e : Nat) : ax_sw 0 29 ts e (nI j).toInt = e := by
  rw [nI_toInt (by omega)]
  unfold ax_sw
  rw [if_pos (by omega)]
theorem lg_same (x : Int64) : lg_cmp x x = 0 := by
  unfold lg_cmp
  simp
/-- shop and draft change places -/
def sg (q : Nat) : Nat := if 30 ≤ q ∧ q < 49 then q + 19 else if 49 ≤ q ∧ q < 68 then q - 19 else q
def ax_swp (G : Nat → Nat → Int32) : ax_H := (ax_shC ++ ax_shM, G, ax_sw0 (ax_Rt (ax_rC ++ ax_rM)))
/-- the loop's head, one call further -/
def lw_T (i : Nat) (S : ax_S) : Prop := ∃ J N V, S = (18, [.retAddr 0, .ref 0, .ref 68, .int (nI i + 6)], [], ax_h J) ∧ IV J N V
section LAW
variable {E : ax_E} {d : Nat} {J : Nat → Nat → Int32} {N : Nat → Nat} {V : Nat → Nat → Int32} {i : Nat}
theorem p_layB (hi : IV J N V) {nt : Nat} {tx : Nat → Int32} (t1 : RTc J nt tx) (t2 : RTm J nt tx) (hb : (ps_all tx nt).1 ≠ none ∨ (ps_all tx nt).2.1 0 = 0) : PR E d n_X11_lay n_X12_lay [] J := by
  obtain ⟨G, e, g⟩ := c_layB (E := E) (d := d + 8) (tl := ax_shM) (rtl := ax_rM) t1 hb
  have t2' : RTm G nt tx := RTm_of (by rw [g 68 (by decide) (by decide)]) (g 78 (by decide) (by decide)) t2
  obtain ⟨G', e2, f⟩ := m_layB (E := E) (d := d + 6) t2' hb
  refine ⟨_, G, G', N, V, e, e2, IV_fr (fun q q4 q43 q68 hq => ?_) (fun k hk => ?_) hi⟩
  · rw [f.1 q (by omega), g q q4 (by omega)]
  · rw [f.2 k (by omega), g 68 (by decide) (by decide)]
theorem p_layY (hi : IV J N V) {nt : Nat} {tx : Nat → Int32} (t1 : RTc J nt tx) (t2 : RTm J nt tx) (hF : (ps_all tx nt).1 = none) (h0 : (ps_all tx nt).2.1 0 ≠ 0) : ∃ (v : Int32) (G G' : Nat → Nat → Int32) (N' : Nat → Nat) (V' : Nat → Nat → Int32), ax_cal E (d + 13) n_X11_lay [.ref 0] (ax_h J) = some (some (.int v), ax_swp G) ∧ ax_cal E (d + 13) n_X12_lay [.ref 68] (ax_h (fun q => G (sg q))) = some (some (.int v), ax_h G') ∧ IV G' N' V' := by
  obtain ⟨G, e, r1, r2, g, g5, g8, g20, g23, g27⟩ := c_layY (E := E) (d := d + 8) (tl := ax_shM) (rtl := ax_rM) t1 hF h0
  have h68 : G 68 = J 68 := g 68 (by decide) (by decide) (by decide) (by decide) (by decide) (by decide) (by decide)
  have h78 : G 78 = J 78 := g 78 (by decide) (by decide) (by decide) (by decide) (by decide) (by decide) (by decide)
  have t2' : RTm (fun q => G (sg q)) nt tx := RTm_of (J := J) (show G 68 18 = J 68 18 by rw [h68]) (show G 78 = J 78 from h78) t2
  obtain ⟨G', e2, m1, m2, m3, m4, m5, m6, m7⟩ := m_layY (E := E) (d := d + 6) t2' hF h0
  have hc : RC 30 (fun q => G (sg q)) (ps_all tx nt).2.1 (ps_all tx nt).2.2 := r1
  refine ⟨_, G, G', (ps_all tx nt).2.1, (ps_all tx nt).2.2, e, e2, r2, RC_fr (fun q a b c => m2 q (by omega)) hc, m1, ⟨nt, tx, RTc_of (J := J) (fun q hq => ?_) t1, RTm_of (J := J) ?_ ?_ t2⟩, ⟨0, fun _ => 0, fun _ => 0, ⟨by omega, ?_, fun k hk => absurd hk (by omega), fun k hk => absurd hk (by omega)⟩, ⟨by omega, m7, fun k hk => absurd hk (by omega), fun k hk => absurd hk (by omega)⟩⟩, ⟨0, fun _ => (ps_all tx nt).2.1 1, fun _ => (ps_all tx nt).2.2, by omega, ?_, m5, rfl, rfl, fun k hk => absurd hk (by omega)⟩, ⟨0, by omega, ?_, m6, fun k hk => absurd hk (by omega)⟩, Or.inl ?_, Or.inl ?_⟩
  · rw [m2 q (by omega)]
    show G (sg q) = J q
    rw [show sg q = q by unfold sg; rw [if_neg (by omega), if_neg (by omega)]]
    exact g q (by omega) (by omega) (by omega) (by omega) (by omega) (by omega) (by omega)
  · rw [m4]
    show G 68 18 = _
    rw [h68]
  · rw [m3]
    exact h78
  · rw [m2 20 (by decide)]; exact g20
  · rw [m2 5 (by decide)]; exact g5
  · rw [m2 8 (by decide)]; exact g8
  · rw [m2 23 (by decide)]; exact g23
  · rw [m2 27 (by decide)]; exact g27
/-- half a round: shop and draft have changed places -/
def lw_U (E : ax_E) (d i : Nat) (S : ax_S) : Prop := ∃ v G, S = (221, [.retAddr 0, .ref 0, .ref 68, .int (nI i)], [.int v], ax_swp G) ∧ AL E (ax_cal E (d + 13)) t_law (lw_T i) (221, [.retAddr 0, .ref 0, .ref 68, .int (nI i)], [.int v], ax_h (fun q => G (sg q)))
theorem st_write (hi : IV J N V) (h6 : i + 6 ≤ E.1) (hL : E.1 ≤ 384) : AL E (ax_cal E (d + 13)) t_law (lw_T i) (168, [.retAddr 0, .ref 0, .ref 68, .int (nI i)], [], ax_h J) := by
  obtain ⟨v, G, G', N', V', e1, e2, hi'⟩ := p_write (E := E) (d := d) hi (E.2 (i + 1))
  repeat refine gs rfl ?_
  refine gld rfl (i + 1) (nI_add i 1) (by omega) (by omega) ?_
  repeat refine gs rfl ?_
  refine gc rfl e1 ?_
  repeat refine gs rfl ?_
  refine gld rfl (i + 1) (nI_add i 1) (by omega) (by omega) ?_
  repeat refine gs rfl ?_
  refine gc rfl e2 ?_
  refine gt rfl rfl ?_
  iterate 2 refine gs rfl ?_
  exact al_t ⟨G', N', V', rfl, hi'⟩
theorem st_wipe (hi : IV J N V) (h6 : i + 6 ≤ E.1) (hL : E.1 ≤ 384) : AL E (ax_cal E (d + 13)) t_law (lw_T i) (191, [.retAddr 0, .ref 0, .ref 68, .int (nI i)], [], ax_h J) := by
  obtain ⟨v, G, G', N', V', e1, e2, hi'⟩ := p_wipe (E := E) (d := d) hi 
  repeat refine gs rfl ?_
  refine gc rfl e1 ?_
  repeat refine gs rfl ?_
  refine gc rfl e2 ?_
  refine gt rfl rfl ?_
  iterate 2 refine gs rfl ?_
  exact al_t ⟨G', N', V', rfl, hi'⟩
theorem st_fault (hi : IV J N V) (h6 : i + 6 ≤ E.1) (hL : E.1 ≤ 384) : AL E (ax_cal E (d + 13)) t_law (lw_T i) (204, [.retAddr 0, .ref 0, .ref 68, .int (nI i)], [], ax_h J) := by
  obtain ⟨v, G, G', N', V', e1, e2, hi'⟩ := p_fault (E := E) (d := d) hi 
  repeat refine gs rfl ?_
  refine gc rfl e1 ?_
  repeat refine gs rfl ?_
  refine gc rfl e2 ?_
  refine gt rfl rfl ?_
  iterate 2 refine gs rfl ?_
  exact al_t ⟨G', N', V', rfl, hi'⟩
theorem st_person (hi : IV J N V) (h6 : i + 6 ≤ E.1) (hL : E.1 ≤ 384) : AL E (ax_cal E (d + 13)) t_law (lw_T i) (230, [.retAddr 0, .ref 0, .ref 68, .int (nI i)], [], ax_h J) := by
  obtain ⟨v, G, G', N', V', e1, e2, hi'⟩ := p_person (E := E) (d := d) hi (E.2 (i + 1)) (E.2 (i + 2))
  repeat refine gs rfl ?_
  refine gld rfl (i + 1) (nI_add i 1) (by omega) (by omega) ?_
  repeat refine gs rfl ?_
  refine gld rfl (i + 2) (nI_add i 2) (by omega) (by omega) ?_
  repeat refine gs rfl ?_
  refine gc rfl e1 ?_
  repeat refine gs rfl ?_
  refine gld rfl (i + 1) (nI_add i 1) (by omega) (by omega) ?_
  repeat refine gs rfl ?_
  refine gld rfl (i + 2) (nI_add i 2) (by omega) (by omega) ?_
  repeat refine gs rfl ?_
  refine gc rfl e2 ?_
  refine gt rfl rfl ?_
  iterate 2 refine gs rfl ?_
  exact al_t ⟨G', N', V', rfl, hi'⟩
theorem st_where (hi : IV J N V) (h6 : i + 6 ≤ E.1) (hL : E.1 ≤ 384) : AL E (ax_cal E (d + 13)) t_law (lw_T i) (263, [.retAddr 0, .ref 0, .ref 68, .int (nI i)], [], ax_h J) := by
  obtain ⟨v, G, G', N', V', e1, e2, hi'⟩ := p_where (E := E) (d := d) hi (E.2 (i + 1)) (E.2 (i + 2))
  repeat refine gs rfl ?_
  refine gld rfl (i + 1) (nI_add i 1) (by omega) (by omega) ?_
  repeat refine gs rfl ?_
  refine gld rfl (i + 2) (nI_add i 2) (by omega) (by omega) ?_
  repeat refine gs rfl ?_
  refine gc rfl e1 ?_
  repeat refine gs rfl ?_
  refine gld rfl (i + 1) (nI_add i 1) (by omega) (by omega) ?_
  repeat refine gs rfl ?_
  refine gld rfl (i + 2) (nI_add i 2) (by omega) (by omega) ?_
  repeat refine gs rfl ?_
  refine gc rfl e2 ?_
  refine gt rfl rfl ?_
  iterate 2 refine gs rfl ?_
  exact al_t ⟨G', N', V', rfl, hi'⟩
theorem st_shadow (hi : IV J N V) (h6 : i + 6 ≤ E.1) (hL : E.1 ≤ 384) : AL E (ax_cal E (d + 13)) t_law (lw_T i) (296, [.retAddr 0, .ref 0, .ref 68, .int (nI i)], [], ax_h J) := by
  obtain ⟨v, G, G', N', V', e1, e2, hi'⟩ := p_shadow (E := E) (d := d) hi (E.2 (i + 1)) (E.2 (i + 2)) (E.2 (i + 3))
  repeat refine gs rfl ?_
  refine gld rfl (i + 1) (nI_add i 1) (by omega) (by omega) ?_
  repeat refine gs rfl ?_
  refine gld rfl (i + 2) (nI_add i 2) (by omega) (by omega) ?_
  repeat refine gs rfl ?_
  refine gld rfl (i + 3) (nI_add i 3) (by omega) (by omega) ?_
  repeat refine gs rfl ?_
  refine gc rfl e1 ?_
  repeat refine gs rfl ?_
  refine gld rfl (i + 1) (nI_add i 1) (by omega) (by omega) ?_
  repeat refine gs rfl ?_
  refine gld rfl (i + 2) (nI_add i 2) (by omega) (by omega) ?_
  repeat refine gs rfl ?_
  refine gld rfl (i + 3) (nI_add i 3) (by omega) (by omega) ?_
  repeat refine gs rfl ?_
  refine gc rfl e2 ?_
  refine gt rfl rfl ?_
  iterate 2 refine gs rfl ?_
  exact al_t ⟨G', N', V', rfl, hi'⟩
theorem st_covers (hi : IV J N V) (h6 : i + 6 ≤ E.1) (hL : E.1 ≤ 384) : AL E (ax_cal E (d + 13)) t_law (lw_T i) (339, [.retAddr 0, .ref 0, .ref 68, .int (nI i)], [], ax_h J) := by
  obtain ⟨v, G, G', N', V', e1, e2, hi'⟩ := p_covers (E := E) (d := d) hi (E.2 (i + 1)) (E.2 (i + 2))
  repeat refine gs rfl ?_
  refine gld rfl (i + 1) (nI_add i 1) (by omega) (by omega) ?_
  repeat refine gs rfl ?_
  refine gld rfl (i + 2) (nI_add i 2) (by omega) (by omega) ?_
  repeat refine gs rfl ?_
  refine gc rfl e1 ?_
  repeat refine gs rfl ?_
  refine gld rfl (i + 1) (nI_add i 1) (by omega) (by omega) ?_
  repeat refine gs rfl ?_
  refine gld rfl (i + 2) (nI_add i 2) (by omega) (by omega) ?_
  repeat refine gs rfl ?_
  refine gc rfl e2 ?_
  refine gt rfl rfl ?_
  iterate 2 refine gs rfl ?_
  exact al_t ⟨G', N', V', rfl, hi'⟩
theorem st_stands (hi : IV J N V) (h6 : i + 6 ≤ E.1) (hL : E.1 ≤ 384) : AL E (ax_cal E (d + 13)) t_law (lw_T i) (372, [.retAddr 0, .ref 0, .ref 68, .int (nI i)], [], ax_h J) := by
  obtain ⟨v, G, G', N', V', e1, e2, hi'⟩ := p_stands (E := E) (d := d) hi (E.2 (i + 1)) (E.2 (i + 2))
  repeat refine gs rfl ?_
  refine gld rfl (i + 1) (nI_add i 1) (by omega) (by omega) ?_
  repeat refine gs rfl ?_
  refine gld rfl (i + 2) (nI_add i 2) (by omega) (by omega) ?_
  repeat refine gs rfl ?_
  refine gc rfl e1 ?_
  repeat refine gs rfl ?_
  refine gld rfl (i + 1) (nI_add i 1) (by omega) (by omega) ?_
  repeat refine gs rfl ?_
  refine gld rfl (i + 2) (nI_add i 2) (by omega) (by omega) ?_
  repeat refine gs rfl ?_
  refine gc rfl e2 ?_
  refine gt rfl rfl ?_
  iterate 2 refine gs rfl ?_
  exact al_t ⟨G', N', V', rfl, hi'⟩
theorem st_wear (hi : IV J N V) (h6 : i + 6 ≤ E.1) (hL : E.1 ≤ 384) : AL E (ax_cal E (d + 13)) t_law (lw_T i) (405, [.retAddr 0, .ref 0, .ref 68, .int (nI i)], [], ax_h J) := by
  obtain ⟨v, G, G', N', V', e1, e2, hi'⟩ := p_wear (E := E) (d := d) hi (E.2 (i + 1)) (E.2 (i + 2))
  repeat refine gs rfl ?_
  refine gld rfl (i + 1) (nI_add i 1) (by omega) (by omega) ?_
  repeat refine gs rfl ?_
  refine gld rfl (i + 2) (nI_add i 2) (by omega) (by omega) ?_
  repeat refine gs rfl ?_
  refine gc rfl e1 ?_
  repeat refine gs rfl ?_
  refine gld rfl (i + 1) (nI_add i 1) (by omega) (by omega) ?_
  repeat refine gs rfl ?_
  refine gld rfl (i + 2) (nI_add i 2) (by omega) (by omega) ?_
  repeat refine gs rfl ?_
  refine gc rfl e2 ?_
  refine gt rfl rfl ?_
  iterate 2 refine gs rfl ?_
  exact al_t ⟨G', N', V', rfl, hi'⟩
theorem st_alter (hi : IV J N V) (h6 : i + 6 ≤ E.1) (hL : E.1 ≤ 384) : AL E (ax_cal E (d + 13)) t_law (lw_T i) (438, [.retAddr 0, .ref 0, .ref 68, .int (nI i)], [], ax_h J) := by
  obtain ⟨v, G, G', N', V', e1, e2, hi'⟩ := p_alter (E := E) (d := d) hi (E.2 (i + 1)) (E.2 (i + 2))
  repeat refine gs rfl ?_
  refine gld rfl (i + 1) (nI_add i 1) (by omega) (by omega) ?_
  repeat refine gs rfl ?_
  refine gld rfl (i + 2) (nI_add i 2) (by omega) (by omega) ?_
  repeat refine gs rfl ?_
  refine gc rfl e1 ?_
  repeat refine gs rfl ?_
  refine gld rfl (i + 1) (nI_add i 1) (by omega) (by omega) ?_
  repeat refine gs rfl ?_
  refine gld rfl (i + 2) (nI_add i 2) (by omega) (by omega) ?_
  repeat refine gs rfl ?_
  refine gc rfl e2 ?_
  refine gt rfl rfl ?_
  iterate 2 refine gs rfl ?_
  exact al_t ⟨G', N', V', rfl, hi'⟩
theorem st_walk (hi : IV J N V) (h6 : i + 6 ≤ E.1) (hL : E.1 ≤ 384) : AL E (ax_cal E (d + 13)) t_law (lw_T i) (471, [.retAddr 0, .ref 0, .ref 68, .int (nI i)], [], ax_h J) := by
  obtain ⟨v, G, G', N', V', e1, e2, hi'⟩ := p_walk (E := E) (d := d) hi (E.2 (i + 1)) (E.2 (i + 2)) (E.2 (i + 3))
  repeat refine gs rfl ?_
  refine gld rfl (i + 1) (nI_add i 1) (by omega) (by omega) ?_
  repeat refine gs rfl ?_
  refine gld rfl (i + 2) (nI_add i 2) (by omega) (by omega) ?_
  repeat refine gs rfl ?_
  refine gld rfl (i + 3) (nI_add i 3) (by omega) (by omega) ?_
  repeat refine gs rfl ?_
  refine gc rfl e1 ?_
  repeat refine gs rfl ?_
  refine gld rfl (i + 1) (nI_add i 1) (by omega) (by omega) ?_
  repeat refine gs rfl ?_
  refine gld rfl (i + 2) (nI_add i 2) (by omega) (by omega) ?_
  repeat refine gs rfl ?_
  refine gld rfl (i + 3) (nI_add i 3) (by omega) (by omega) ?_
  repeat refine gs rfl ?_
  refine gc rfl e2 ?_
  refine gt rfl rfl ?_
  iterate 2 refine gs rfl ?_
  exact al_t ⟨G', N', V', rfl, hi'⟩
theorem st_undo (hi : IV J N V) (h6 : i + 6 ≤ E.1) (hL : E.1 ≤ 384) : AL E (ax_cal E (d + 13)) t_law (lw_T i) (514, [.retAddr 0, .ref 0, .ref 68, .int (nI i)], [], ax_h J) := by
  obtain ⟨v, G, G', N', V', e1, e2, hi'⟩ := p_undo (E := E) (d := d) hi 
  repeat refine gs rfl ?_
  refine gc rfl e1 ?_
  repeat refine gs rfl ?_
  refine gc rfl e2 ?_
  refine gt rfl rfl ?_
  iterate 2 refine gs rfl ?_
  exact al_t ⟨G', N', V', rfl, hi'⟩
theorem st_first (hi : IV J N V) (h6 : i + 6 ≤ E.1) (hL : E.1 ≤ 384) : AL E (ax_cal E (d + 13)) t_law (lw_T i) (527, [.retAddr 0, .ref 0, .ref 68, .int (nI i)], [], ax_h J) := by
  obtain ⟨v, G, G', N', V', e1, e2, hi'⟩ := p_first (E := E) (d := d) hi (E.2 (i + 1))
  repeat refine gs rfl ?_
  refine gld rfl (i + 1) (nI_add i 1) (by omega) (by omega) ?_
  repeat refine gs rfl ?_
  refine gc rfl e1 ?_
  repeat refine gs rfl ?_
  refine gld rfl (i + 1) (nI_add i 1) (by omega) (by omega) ?_
  repeat refine gs rfl ?_
  refine gc rfl e2 ?_
  refine gt rfl rfl ?_
  iterate 2 refine gs rfl ?_
  exact al_t ⟨G', N', V', rfl, hi'⟩
theorem st_broken (hi : IV J N V) (h6 : i + 6 ≤ E.1) (hL : E.1 ≤ 384) : AL E (ax_cal E (d + 13)) t_law (lw_T i) (550, [.retAddr 0, .ref 0, .ref 68, .int (nI i)], [], ax_h J) := by
  obtain ⟨v, G, G', N', V', e1, e2, hi'⟩ := p_broken (E := E) (d := d) hi 
  repeat refine gs rfl ?_
  refine gc rfl e1 ?_
  repeat refine gs rfl ?_
  refine gc rfl e2 ?_
  refine gt rfl rfl ?_
  iterate 2 refine gs rfl ?_
  exact al_t ⟨G', N', V', rfl, hi'⟩
theorem st_taken (hi : IV J N V) (h6 : i + 6 ≤ E.1) (hL : E.1 ≤ 384) : AL E (ax_cal E (d + 13)) t_law (lw_T i) (563, [.retAddr 0, .ref 0, .ref 68, .int (nI i)], [], ax_h J) := by
  obtain ⟨v, G, G', N', V', e1, e2, hi'⟩ := p_taken (E := E) (d := d) hi (E.2 (i + 1)) (E.2 (i + 2)) (E.2 (i + 3))
  repeat refine gs rfl ?_
  refine gld rfl (i + 1) (nI_add i 1) (by omega) (by omega) ?_
  repeat refine gs rfl ?_
  refine gld rfl (i + 2) (nI_add i 2) (by omega) (by omega) ?_
  repeat refine gs rfl ?_
  refine gld rfl (i + 3) (nI_add i 3) (by omega) (by omega) ?_
  repeat refine gs rfl ?_
  refine gc rfl e1 ?_
  repeat refine gs rfl ?_
  refine gld rfl (i + 1) (nI_add i 1) (by omega) (by omega) ?_
  repeat refine gs rfl ?_
  refine gld rfl (i + 2) (nI_add i 2) (by omega) (by omega) ?_
  repeat refine gs rfl ?_
  refine gld rfl (i + 3) (nI_add i 3) (by omega) (by omega) ?_
  repeat refine gs rfl ?_
  refine gc rfl e2 ?_
  refine gt rfl rfl ?_
  iterate 2 refine gs rfl ?_
  exact al_t ⟨G', N', V', rfl, hi'⟩
theorem st_seen (hi : IV J N V) (h6 : i + 6 ≤ E.1) (hL : E.1 ≤ 384) : AL E (ax_cal E (d + 13)) t_law (lw_T i) (606, [.retAddr 0, .ref 0, .ref 68, .int (nI i)], [], ax_h J) := by
  obtain ⟨v, G, G', N', V', e1, e2, hi'⟩ := p_seen (E := E) (d := d) hi (E.2 (i + 1)) (E.2 (i + 2))
  repeat refine gs rfl ?_
  refine gld rfl (i + 1) (nI_add i 1) (by omega) (by omega) ?_
  repeat refine gs rfl ?_
  refine gld rfl (i + 2) (nI_add i 2) (by omega) (by omega) ?_
  repeat refine gs rfl ?_
  refine gc rfl e1 ?_
  repeat refine gs rfl ?_
  refine gld rfl (i + 1) (nI_add i 1) (by omega) (by omega) ?_
  repeat refine gs rfl ?_
  refine gld rfl (i + 2) (nI_add i 2) (by omega) (by omega) ?_
  repeat refine gs rfl ?_
  refine gc rfl e2 ?_
  refine gt rfl rfl ?_
  iterate 2 refine gs rfl ?_
  exact al_t ⟨G', N', V', rfl, hi'⟩
theorem st_forget (hi : IV J N V) (h6 : i + 6 ≤ E.1) (hL : E.1 ≤ 384) : AL E (ax_cal E (d + 13)) t_law (lw_T i) (639, [.retAddr 0, .ref 0, .ref 68, .int (nI i)], [], ax_h J) := by
  obtain ⟨v, G, G', N', V', e1, e2, hi'⟩ := p_forget (E := E) (d := d) hi 
  repeat refine gs rfl ?_
  refine gc rfl e1 ?_
  repeat refine gs rfl ?_
  refine gc rfl e2 ?_
  refine gt rfl rfl ?_
  iterate 2 refine gs rfl ?_
  exact al_t ⟨G', N', V', rfl, hi'⟩
theorem st_whose (hi : IV J N V) (h6 : i + 6 ≤ E.1) (hL : E.1 ≤ 384) : AL E (ax_cal E (d + 13)) t_law (lw_T i) (652, [.retAddr 0, .ref 0, .ref 68, .int (nI i)], [], ax_h J) := by
  obtain ⟨v, G, G', N', V', e1, e2, hi'⟩ := p_whose (E := E) (d := d) hi 
  repeat refine gs rfl ?_
  refine gc rfl e1 ?_
  repeat refine gs rfl ?_
  refine gc rfl e2 ?_
  refine gt rfl rfl ?_
  iterate 2 refine gs rfl ?_
  exact al_t ⟨G', N', V', rfl, hi'⟩
theorem st_look (hi : IV J N V) (h6 : i + 6 ≤ E.1) (hL : E.1 ≤ 384) : AL E (ax_cal E (d + 13)) t_law (lw_T i) (665, [.retAddr 0, .ref 0, .ref 68, .int (nI i)], [], ax_h J) := by
  obtain ⟨v, G, G', N', V', e1, e2, hi'⟩ := p_look (E := E) (d := d) hi (E.2 (i + 1))
  repeat refine gs rfl ?_
  refine gld rfl (i + 1) (nI_add i 1) (by omega) (by omega) ?_
  repeat refine gs rfl ?_
  refine gc rfl e1 ?_
  repeat refine gs rfl ?_
  refine gld rfl (i + 1) (nI_add i 1) (by omega) (by omega) ?_
  repeat refine gs rfl ?_
  refine gc rfl e2 ?_
  refine gt rfl rfl ?_
  iterate 2 refine gs rfl ?_
  exact al_t ⟨G', N', V', rfl, hi'⟩
theorem st_cut (hi : IV J N V) (h6 : i + 6 ≤ E.1) (hL : E.1 ≤ 384) : AL E (ax_cal E (d + 13)) t_law (lw_T i) (688, [.retAddr 0, .ref 0, .ref 68, .int (nI i)], [], ax_h J) := by
  obtain ⟨v, G, G', N', V', e1, e2, hi'⟩ := p_cut (E := E) (d := d) hi (E.2 (i + 1))
  repeat refine gs rfl ?_
  refine gld rfl (i + 1) (nI_add i 1) (by omega) (by omega) ?_
  repeat refine gs rfl ?_
  refine gc rfl e1 ?_
  repeat refine gs rfl ?_
  refine gld rfl (i + 1) (nI_add i 1) (by omega) (by omega) ?_
  repeat refine gs rfl ?_
  refine gc rfl e2 ?_
  refine gt rfl rfl ?_
  iterate 2 refine gs rfl ?_
  exact al_t ⟨G', N', V', rfl, hi'⟩
theorem st_fittings (hi : IV J N V) (h6 : i + 6 ≤ E.1) (hL : E.1 ≤ 384) : AL E (ax_cal E (d + 13)) t_law (lw_T i) (711, [.retAddr 0, .ref 0, .ref 68, .int (nI i)], [], ax_h J) := by
  obtain ⟨v, G, G', N', V', e1, e2, hi'⟩ := p_fittings (E := E) (d := d) hi (E.2 (i + 1))
  repeat refine gs rfl ?_
  refine gld rfl (i + 1) (nI_add i 1) (by omega) (by omega) ?_
  repeat refine gs rfl ?_
  refine gc rfl e1 ?_
  repeat refine gs rfl ?_
  refine gld rfl (i + 1) (nI_add i 1) (by omega) (by omega) ?_
  repeat refine gs rfl ?_
  refine gc rfl e2 ?_
  refine gt rfl rfl ?_
  iterate 2 refine gs rfl ?_
  exact al_t ⟨G', N', V', rfl, hi'⟩
theorem st_watchers (hi : IV J N V) (h6 : i + 6 ≤ E.1) (hL : E.1 ≤ 384) : AL E (ax_cal E (d + 13)) t_law (lw_T i) (734, [.retAddr 0, .ref 0, .ref 68, .int (nI i)], [], ax_h J) := by
  obtain ⟨v, G, G', N', V', e1, e2, hi'⟩ := p_watchers (E := E) (d := d) hi (E.2 (i + 1)) (E.2 (i + 2))
  repeat refine gs rfl ?_
  refine gld rfl (i + 1) (nI_add i 1) (by omega) (by omega) ?_
  repeat refine gs rfl ?_
  refine gld rfl (i + 2) (nI_add i 2) (by omega) (by omega) ?_
  repeat refine gs rfl ?_
  refine gc rfl e1 ?_
  repeat refine gs rfl ?_
  refine gld rfl (i + 1) (nI_add i 1) (by omega) (by omega) ?_
  repeat refine gs rfl ?_
  refine gld rfl (i + 2) (nI_add i 2) (by omega) (by omega) ?_
  repeat refine gs rfl ?_
  refine gc rfl e2 ?_
  refine gt rfl rfl ?_
  iterate 2 refine gs rfl ?_
  exact al_t ⟨G', N', V', rfl, hi'⟩
theorem st_poplar (hi : IV J N V) (h6 : i + 6 ≤ E.1) (hL : E.1 ≤ 384) : AL E (ax_cal E (d + 13)) t_law (lw_T i) (767, [.retAddr 0, .ref 0, .ref 68, .int (nI i)], [], ax_h J) := by
  obtain ⟨v, G, G', N', V', e1, e2, hi'⟩ := p_poplar (E := E) (d := d) hi (E.2 (i + 1)) (E.2 (i + 2))
  repeat refine gs rfl ?_
  refine gld rfl (i + 1) (nI_add i 1) (by omega) (by omega) ?_
  repeat refine gs rfl ?_
  refine gld rfl (i + 2) (nI_add i 2) (by omega) (by omega) ?_
  repeat refine gs rfl ?_
  refine gc rfl e1 ?_
  repeat refine gs rfl ?_
  refine gld rfl (i + 1) (nI_add i 1) (by omega) (by omega) ?_
  repeat refine gs rfl ?_
  refine gld rfl (i + 2) (nI_add i 2) (by omega) (by omega) ?_
  repeat refine gs rfl ?_
  refine gc rfl e2 ?_
  refine gt rfl rfl ?_
  iterate 2 refine gs rfl ?_
  exact al_t ⟨G', N', V', rfl, hi'⟩
theorem st_light (hi : IV J N V) (h6 : i + 6 ≤ E.1) (hL : E.1 ≤ 384) : AL E (ax_cal E (d + 13)) t_law (lw_T i) (800, [.retAddr 0, .ref 0, .ref 68, .int (nI i)], [], ax_h J) := by
  obtain ⟨v, G, G', N', V', e1, e2, hi'⟩ := p_light (E := E) (d := d) hi (E.2 (i + 1))
  repeat refine gs rfl ?_
  refine gld rfl (i + 1) (nI_add i 1) (by omega) (by omega) ?_
  repeat refine gs rfl ?_
  refine gc rfl e1 ?_
  repeat refine gs rfl ?_
  refine gld rfl (i + 1) (nI_add i 1) (by omega) (by omega) ?_
  repeat refine gs rfl ?_
  refine gc rfl e2 ?_
  refine gt rfl rfl ?_
  iterate 2 refine gs rfl ?_
  exact al_t ⟨G', N', V', rfl, hi'⟩
theorem st_clouds (hi : IV J N V) (h6 : i + 6 ≤ E.1) (hL : E.1 ≤ 384) : AL E (ax_cal E (d + 13)) t_law (lw_T i) (823, [.retAddr 0, .ref 0, .ref 68, .int (nI i)], [], ax_h J) := by
  obtain ⟨v, G, G', N', V', e1, e2, hi'⟩ := p_clouds (E := E) (d := d) hi (E.2 (i + 1)) (E.2 (i + 2)) (E.2 (i + 3)) (E.2 (i + 4)) (E.2 (i + 5))
  repeat refine gs rfl ?_
  refine gld rfl (i + 1) (nI_add i 1) (by omega) (by omega) ?_
  repeat refine gs rfl ?_
  refine gld rfl (i + 2) (nI_add i 2) (by omega) (by omega) ?_
  repeat refine gs rfl ?_
  refine gld rfl (i + 3) (nI_add i 3) (by omega) (by omega) ?_
  repeat refine gs rfl ?_
  refine gld rfl (i + 4) (nI_add i 4) (by omega) (by omega) ?_
  repeat refine gs rfl ?_
  refine gld rfl (i + 5) (nI_add i 5) (by omega) (by omega) ?_
  repeat refine gs rfl ?_
  refine gc rfl e1 ?_
  repeat refine gs rfl ?_
  refine gld rfl (i + 1) (nI_add i 1) (by omega) (by omega) ?_
  repeat refine gs rfl ?_
  refine gld rfl (i + 2) (nI_add i 2) (by omega) (by omega) ?_
  repeat refine gs rfl ?_
  refine gld rfl (i + 3) (nI_add i 3) (by omega) (by omega) ?_
  repeat refine gs rfl ?_
  refine gld rfl (i + 4) (nI_add i 4) (by omega) (by omega) ?_
  repeat refine gs rfl ?_
  refine gld rfl (i + 5) (nI_add i 5) (by omega) (by omega) ?_
  repeat refine gs rfl ?_
  refine gc rfl e2 ?_
  refine gs rfl ?_
  refine gt rfl (lg_same v) ?_
  iterate 2 refine gs rfl ?_
  exact al_t ⟨G', N', V', rfl, hi'⟩
theorem st_day (hi : IV J N V) (h6 : i + 6 ≤ E.1) (hL : E.1 ≤ 384) : AL E (ax_cal E (d + 13)) t_law (lw_T i) (887, [.retAddr 0, .ref 0, .ref 68, .int (nI i)], [], ax_h J) := by
  obtain ⟨v, G, G', N', V', e1, e2, hi'⟩ := p_day (E := E) (d := d) hi (E.2 (i + 1)) (E.2 (i + 2))
  repeat refine gs rfl ?_
  refine gld rfl (i + 1) (nI_add i 1) (by omega) (by omega) ?_
  repeat refine gs rfl ?_
  refine gld rfl (i + 2) (nI_add i 2) (by omega) (by omega) ?_
  repeat refine gs rfl ?_
  refine gc rfl e1 ?_
  repeat refine gs rfl ?_
  refine gld rfl (i + 1) (nI_add i 1) (by omega) (by omega) ?_
  repeat refine gs rfl ?_
  refine gld rfl (i + 2) (nI_add i 2) (by omega) (by omega) ?_
  repeat refine gs rfl ?_
  refine gc rfl e2 ?_
  refine gt rfl rfl ?_
  iterate 2 refine gs rfl ?_
  exact al_t ⟨G', N', V', rfl, hi'⟩
theorem st_keep (hi : IV J N V) (h6 : i + 6 ≤ E.1) (hL : E.1 ≤ 384) : AL E (ax_cal E (d + 13)) t_law (lw_T i) (920, [.retAddr 0, .ref 0, .ref 68, .int (nI i)], [], ax_h J) := by
  obtain ⟨v, G, G', N', V', e1, e2, hi'⟩ := p_keep (E := E) (d := d) hi 
  repeat refine gs rfl ?_
  refine gc rfl e1 ?_
  repeat refine gs rfl ?_
  refine gc rfl e2 ?_
  refine gt rfl rfl ?_
  iterate 2 refine gs rfl ?_
  exact al_t ⟨G', N', V', rfl, hi'⟩
theorem st_back (hi : IV J N V) (h6 : i + 6 ≤ E.1) (hL : E.1 ≤ 384) : AL E (ax_cal E (d + 13)) t_law (lw_T i) (933, [.retAddr 0, .ref 0, .ref 68, .int (nI i)], [], ax_h J) := by
  obtain ⟨v, G, G', N', V', e1, e2, hi'⟩ := p_back (E := E) (d := d) hi 
  repeat refine gs rfl ?_
  refine gc rfl e1 ?_
  repeat refine gs rfl ?_
  refine gc rfl e2 ?_
  refine gt rfl rfl ?_
  iterate 2 refine gs rfl ?_
  exact al_t ⟨G', N', V', rfl, hi'⟩
theorem st_count (hi : IV J N V) (h6 : i + 6 ≤ E.1) (hL : E.1 ≤ 384) : AL E (ax_cal E (d + 13)) t_law (lw_T i) (946, [.retAddr 0, .ref 0, .ref 68, .int (nI i)], [], ax_h J) := by
  obtain ⟨v, G, G', N', V', e1, e2, hi'⟩ := p_count (E := E) (d := d) hi (E.2 (i + 1))
  repeat refine gs rfl ?_
  refine gld rfl (i + 1) (nI_add i 1) (by omega) (by omega) ?_
  repeat refine gs rfl ?_
  refine gc rfl e1 ?_
  repeat refine gs rfl ?_
  refine gld rfl (i + 1) (nI_add i 1) (by omega) (by omega) ?_
  repeat refine gs rfl ?_
  refine gc rfl e2 ?_
  refine gt rfl rfl ?_
  iterate 2 refine gs rfl ?_
  exact al_t ⟨G', N', V', rfl, hi'⟩
theorem st_lay (hi : IV J N V) : AL E (ax_cal E (d + 13)) t_law (fun S => lw_T i S ∨ lw_U E d i S) (217, [.retAddr 0, .ref 0, .ref 68, .int (nI i)], [], ax_h J) := by
  obtain ⟨nt, tx, t1, t2⟩ := hi.2.2.2.1
  by_cases hb : (ps_all tx nt).1 ≠ none ∨ (ps_all tx nt).2.1 0 = 0
  · obtain ⟨v, G, G', N', V', e1, e2, hi'⟩ := p_layB (E := E) (d := d) hi t1 t2 hb
    repeat refine gs rfl ?_
    refine gc rfl e1 ?_
    repeat refine gs rfl ?_
    refine gc rfl e2 ?_
    refine gt rfl rfl ?_
    iterate 2 refine gs rfl ?_
    exact al_t (Or.inl ⟨G', N', V', rfl, hi'⟩)
  · have hF : (ps_all tx nt).1 = none := Classical.byContradiction (fun q => hb (Or.inl q))
    have h0 : (ps_all tx nt).2.1 0 ≠ 0 := fun q => hb (Or.inr q)
    obtain ⟨v, G, G', N', V', e1, e2, hi'⟩ := p_layY (E := E) (d := d) hi t1 t2 hF h0
    repeat refine gs rfl ?_
    refine gc rfl e1 ?_
    refine al_t (Or.inr ⟨v, G, rfl, ?_⟩)
    repeat refine gs rfl ?_
    refine gc rfl e2 ?_
    refine gt rfl rfl ?_
    iterate 2 refine gs rfl ?_
    exact al_t ⟨G', N', V', rfl, hi'⟩
theorem st_law (hi : IV J N V) (h6 : i + 6 ≤ E.1) (hL : E.1 ≤ 384) : AL E (ax_cal E (d + 13)) t_law (fun S => lw_T i S ∨ lw_U E d i S) (18, [.retAddr 0, .ref 0, .ref 68, .int (nI i)], [], ax_h J) := by
  repeat refine gs rfl ?_
  refine gf rfl (show ¬ nI E.1 - 6 < nI i by rw [show (6 : Int32) = nI 6 from rfl, pk_sub (by omega)]; exact nI_nlt (by omega) (by omega)) ?_
  iterate 2 refine gs rfl ?_
  refine gld rfl i rfl (by omega) (by omega) ?_
  iterate 2 refine gs rfl ?_
  obtain ⟨j, hj, e⟩ := i_and31 (E.2 i)
  rw [e]
  refine gs rfl ?_
  have inl : ∀ {S : ax_S}, AL E (ax_cal E (d + 13)) t_law (lw_T i) S → AL E (ax_cal E (d + 13)) t_law (fun S => lw_T i S ∨ lw_U E d i S) S := fun h => al_mono h (fun S q => Or.inl q)
  by_cases h29 : j ≤ 29
  · rw [sw_law h29]
    clear e hj
    match j, h29 with
    | 0, _ => exact inl (st_write hi h6 hL)
    | 1, _ => exact inl (st_wipe hi h6 hL)
    | 2, _ => exact inl (st_fault hi h6 hL)
    | 3, _ => exact st_lay hi
    | 4, _ => exact inl (st_person hi h6 hL)
    | 5, _ => exact inl (st_where hi h6 hL)
    | 6, _ => exact inl (st_shadow hi h6 hL)
    | 7, _ => exact inl (st_covers hi h6 hL)
    | 8, _ => exact inl (st_stands hi h6 hL)
    | 9, _ => exact inl (st_wear hi h6 hL)
    | 10, _ => exact inl (st_alter hi h6 hL)
    | 11, _ => exact inl (st_walk hi h6 hL)
    | 12, _ => exact inl (st_undo hi h6 hL)
    | 13, _ => exact inl (st_first hi h6 hL)
    | 14, _ => exact inl (st_broken hi h6 hL)
    | 15, _ => exact inl (st_taken hi h6 hL)
    | 16, _ => exact inl (st_seen hi h6 hL)
    | 17, _ => exact inl (st_forget hi h6 hL)
    | 18, _ => exact inl (st_whose hi h6 hL)
    | 19, _ => exact inl (st_look hi h6 hL)
    | 20, _ => exact inl (st_cut hi h6 hL)
    | 21, _ => exact inl (st_fittings hi h6 hL)
    | 22, _ => exact inl (st_watchers hi h6 hL)
    | 23, _ => exact inl (st_poplar hi h6 hL)
    | 24, _ => exact inl (st_light hi h6 hL)
    | 25, _ => exact inl (st_clouds hi h6 hL)
    | 26, _ => exact inl (st_day hi h6 hL)
    | 27, _ => exact inl (st_keep hi h6 hL)
    | 28, _ => exact inl (st_back hi h6 hL)
    | 29, _ => exact inl (st_count hi h6 hL)
    | n + 30, h => exact absurd h (by omega)
  · rw [sw_lawO (by omega) hj]
    iterate 2 refine gs rfl ?_
    exact al_t (Or.inl ⟨J, N, V, rfl, hi⟩)
end LAW
