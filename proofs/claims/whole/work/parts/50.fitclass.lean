/-! contracts of the class: Timetable -/
def sp_t (V : Nat → Nat → Int32) (r : Nat) : Nat := (V 12 r).toInt.toNat
def sp_d (V : Nat → Nat → Int32) (r : Nat) : Nat := (V 13 r).toInt.toNat
theorem sp_tE {N : Nat → Nat} {V : Nat → Nat → Int32} (hok : sp_Ok N V) {r : Nat} (hr : r < N 5) : V 12 r = nI (sp_t V r) ∧ V 13 r = nI (sp_d V r) ∧ sp_t V r ≤ 9 ∧ sp_d V r ≤ 60 := by
  have h := hok.2.2.2.2.2.2.2.2.2.2.2 r hr
  obtain ⟨j, e, hj, hb⟩ := i_nn (x := V 12 r) (by omega)
  obtain ⟨j2, e2, hj2, hb2⟩ := i_nn (x := V 13 r) (by omega)
  have a1 : sp_t V r = j := by unfold sp_t; omega
  have a2 : sp_d V r = j2 := by unfold sp_d; omega
  rw [a1, a2]
  exact ⟨e, e2, by omega, by omega⟩
/-- what is found, as the class holds it -/
def ft_S (n : Nat) (tt dd : Nat → Nat) (f29 f27 : Nat → Int32) : Option Nat → Prop
  | none => f27 3 = 0
  | some v => f27 3 = 1 ∧ f27 4 = nI (ft_lt tt dd (ft_row n v) n) ∧ f27 5 = nI (ft_hr tt dd (ft_row n v) n) ∧ ∀ k, k < n → f29 k = nI (ft_row n v k)
def ft_R (N : Nat → Nat) (V : Nat → Nat → Int32) (hi k : Nat) (J G : Nat → Nat → Int32) (o : Option Nat) : Prop := (∀ q, q < 27 ∨ 29 < q → G q = J q) ∧ G 27 2 = J 27 2 ∧ (∀ i, i < k → G 28 i = J 28 i) ∧ ft_S (N 5) (sp_t V) (sp_d V) (G 29) (G 27) o ∧ ct_P (fun _ => True) (ft_K (N 5) (sp_t V) (sp_d V)) hi o
def ft_C (E : ax_E) (d : Nat) (tl : List (Nat × Nat)) (rtl : List (List (Option Nat))) (N : Nat → Nat) (V : Nat → Nat → Int32) (j : Nat) : Prop := ∀ (k : Nat), k + j = N 5 → ∀ (J : Nat → Nat → Int32) (g : Nat → Nat) (s lo : Nat) (o : Option Nat), RC 30 J N V → s < 64 → lo + ft_fc j ≤ ft_fc (N 5) → ft_un s (N 5) = j → (∀ i, i < k → g i < N 5) → ft_N (N 5) g k s lo (ft_fc j) → (∀ i, i < k → J 28 i = nI (g i)) → ft_S (N 5) (sp_t V) (sp_d V) (J 29) (J 27) o → ct_P (fun _ => True) (ft_K (N 5) (sp_t V) (sp_d V)) lo o →
  ∃ G o', ax_cal E (d + j + 2) n_X10_seekFrom [.ref 27, .ref 44, .int (nI k), .int (nI s), .int (nI (ft_ck (sp_t V) g k)), .int (nI (ft_lt (sp_t V) (sp_d V) g k)), .int (nI (ft_hr (sp_t V) (sp_d V) g k))] (ax_hC tl rtl J) = some (none, ax_hC tl rtl G) ∧ ft_R N V (lo + ft_fc j) k J G o'
section FC
variable {E : ax_E} {d : Nat} {tl : List (Nat × Nat)} {rtl : List (List (Option Nat))} {J : Nat → Nat → Int32} {N : Nat → Nat} {V : Nat → Nat → Int32} {n3 : Nat}
theorem c_ftake (hn : J 44 6 = nI n3) (h7 : n3 ≤ 6) (used len : Int32) : ∃ G, ax_cal E (d + 1) n_X10_take [.ref 27, .ref 44, .int used, .int len] (ax_hC tl rtl J) = some (none, ax_hC tl rtl G) ∧ (∀ q, q ≠ 27 → q ≠ 29 → G q = J q) ∧ G 27 = upd (upd (upd (J 27) 3 1) 4 used) 5 len ∧ ∀ k, k < n3 → G 29 k = J 28 k := by
  suffices H : ∃ r g, ax_cal E (d + 1) n_X10_take [.ref 27, .ref 44, .int used, .int len] (ax_hC tl rtl J) = some (r, g) ∧ (r = none ∧ ∃ G, g = ax_hC tl rtl G ∧ (∀ q, q ≠ 27 → q ≠ 29 → G q = J q) ∧ G 27 = upd (upd (upd (J 27) 3 1) 4 used) 5 len ∧ ∀ k, k < n3 → G 29 k = J 28 k) by
    obtain ⟨r, g, e, rfl, G, rfl, h⟩ := H
    exact ⟨G, e, h⟩
  refine ax_ofQ (t := t_X10_take) (ls := [.ref 27, .ref 44, .int used, .int len, .float 0]) rfl ⟨rfl, Nat.le_of_ble_eq_true rfl⟩ rfl ?_
  have loop : ∀ (j n : Nat), n + j = n3 → ∀ G : Nat → Nat → Int32, (∀ q, q ≠ 27 → q ≠ 29 → G q = J q) → G 27 = upd (upd (upd (J 27) 3 1) 4 used) 5 len → (∀ k, k < n → G 29 k = J 28 k) → AW E (ax_cal E d) t_X10_take (24, [.ref 27, .ref 44, .int used, .int len, .int (nI n)], [.int (G 44 6), .int (nI n)], ax_hC tl rtl G) (fun r g => r = none ∧ ∃ G, g = ax_hC tl rtl G ∧ (∀ q, q ≠ 27 → q ≠ 29 → G q = J q) ∧ G 27 = upd (upd (upd (J 27) 3 1) 4 used) 5 len ∧ ∀ k, k < n3 → G 29 k = J 28 k) := by
    intro j
    induction j with
    | zero =>
      intro n hn' G h1 h2 h3
      refine bt rfl (by rw [h1 44 (by decide) (by decide), hn]; exact nI_le (by omega) (by omega)) ?_
      repeat refine bs rfl ?_
      exact br rfl ⟨rfl, G, rfl, h1, h2, fun k hk => h3 k (by omega)⟩
    | succ j ih =>
      intro n hn' G h1 h2 h3
      have ih := ih (n + 1) (by omega)
      rw [nI_succ] at ih
      refine bf rfl (by rw [h1 44 (by decide) (by decide), hn]; exact nI_ge (by omega) (by omega)) ?_
      repeat (first | refine bs rfl ?_ | refine bld rfl _ rfl (by omega) (by omega) ?_)
      refine bsto rfl n rfl (by omega) (by omega) ?_
      repeat refine bs rfl ?_
      refine ih _ ?_ h2 ?_
      · intro q a b
        rw [va_up_ne _ _ b, h1 q a b]
      · intro k hk
        show upd (G 29) n (G 28 n) k = _
        by_cases e : k = n
        · subst e
          rw [pk_us, h1 28 (by decide) (by decide)]
        · rw [pk_un e]
          exact h3 k (by omega)
  iterate 14 refine bs rfl ?_
  refine loop n3 0 (Nat.zero_add _) _ ?_ rfl (fun k hk => absurd hk (by omega))
  intro q a b
  rw [va_up_ne _ _ a, va_up_ne _ _ a, va_up_ne _ _ a]
theorem c_fseekStep (hok : sp_Ok N V) (j : Nat) (IH : ∀ j', j = j' + 1 → ft_C E d tl rtl N V j') : ft_C E d tl rtl N V j := by
  intro k hkj J g s lo o hr hs hlo hun hg hN h28 hS hP
  have h6 := hok.2.2.2.2.2.1
  have hn5 : J 44 6 = nI (N 5) := hr.2.2.2.2.2.2.2.2.2.2.1
  have ht9 : ∀ i, i < N 5 → sp_t V i ≤ 9 := fun i hi => (sp_tE hok hi).2.2.1
  have hckb := ft_ck_le (tt := sp_t V) (g := g) k (fun i hi => ht9 _ (hg i hi))
  have hltb := ft_lt_le (tt := sp_t V) (dd := sp_d V) (g := g) k
  have hhrb := ft_hr_le (tt := sp_t V) (dd := sp_d V) (g := g) k (by omega) (fun i hi => ht9 _ (hg i hi))
  have hfp := ft_fc_pos j
  suffices H : ∃ r' g', ax_cal E (d + j + 2) n_X10_seekFrom [.ref 27, .ref 44, .int (nI k), .int (nI s), .int (nI (ft_ck (sp_t V) g k)), .int (nI (ft_lt (sp_t V) (sp_d V) g k)), .int (nI (ft_hr (sp_t V) (sp_d V) g k))] (ax_hC tl rtl J) = some (r', g') ∧ (r' = none ∧ ∃ G o', g' = ax_hC tl rtl G ∧ ft_R N V (lo + ft_fc j) k J G o') by
    obtain ⟨r', g', e, rfl, G, o', rfl, h⟩ := H
    exact ⟨G, o', e, h⟩
  have hlow : ∀ w, lo ≤ w → w < lo + ft_fc j → ft_lt (sp_t V) (sp_d V) g k * 1000 + ft_hr (sp_t V) (sp_d V) g k ≤ ft_K (N 5) (sp_t V) (sp_d V) w := by
    intro w w1 w2
    have e := (hN w w1 w2).2
    have a1 := ft_lt_mono (tt := sp_t V) (dd := sp_d V) (g := ft_row (N 5) w) (r := k) j
    have a2 := ft_hr_mono (tt := sp_t V) (dd := sp_d V) (g := ft_row (N 5) w) (r := k) j
    rw [hkj, ft_lt_cong e] at a1
    rw [hkj, ft_hr_cong e] at a2
    unfold ft_K
    omega
  generalize hck : ft_ck (sp_t V) g k = ck at *
  generalize hlt : ft_lt (sp_t V) (sp_d V) g k = lt at *
  generalize hhr : ft_hr (sp_t V) (sp_d V) g k = hr' at *
  refine ax_ofQ (t := t_X10_seekFrom) (ls := [.ref 27, .ref 44, .int (nI k), .int (nI s), .int (nI ck), .int (nI lt), .int (nI hr'), .float 0, .float 0, .float 0]) rfl ⟨rfl, Nat.le_of_ble_eq_true rfl⟩ rfl ?_
  have main : (∀ u, o = some u → lt * 1000 + hr' < ft_K (N 5) (sp_t V) (sp_d V) u) → AW E (ax_cal E (d + j + 1)) t_X10_seekFrom (35, [.ref 27, .ref 44, .int (nI k), .int (nI s), .int (nI ck), .int (nI lt), .int (nI hr'), .float 0, .float 0, .float 0], [], ax_hC tl rtl J) (fun r' g' => r' = none ∧ ∃ G o', g' = ax_hC tl rtl G ∧ ft_R N V (lo + ft_fc j) k J G o') := by
    intro hb
    repeat refine bs rfl ?_
    cases j with
    | zero =>
      have hk : k = N 5 := by omega
      obtain ⟨n1, n2⟩ := hN lo (Nat.le_refl _) (by omega)
      refine bf rfl (by rw [hn5]; exact nI_nlt (by omega) (by omega)) ?_
      obtain ⟨G, hc, k1, k2, k3⟩ := c_ftake (E := E) (d := d + 0) (tl := tl) (rtl := rtl) hn5 h6 (nI lt) (nI hr')
      have e1 : ft_lt (sp_t V) (sp_d V) (ft_row (N 5) lo) (N 5) = lt := by
        have t := ft_lt_cong (tt := sp_t V) (dd := sp_d V) n2
        rw [hlt, hk] at t
        exact t
      have e2 : ft_hr (sp_t V) (sp_d V) (ft_row (N 5) lo) (N 5) = hr' := by
        have t := ft_hr_cong (tt := sp_t V) (dd := sp_d V) n2
        rw [hhr, hk] at t
        exact t
      have eK : ft_K (N 5) (sp_t V) (sp_d V) lo = lt * 1000 + hr' := by unfold ft_K; rw [e1, e2]
      repeat refine bs rfl ?_
      refine bc rfl hc ?_
      repeat refine bs rfl ?_
      refine br rfl ⟨rfl, G, some lo, rfl, fun q hq => k1 q (by omega) (by omega), by rw [k2]; rfl, fun i _ => by rw [k1 28 (by decide) (by decide)], ⟨by rw [k2]; rfl, by rw [k2, e1]; rfl, by rw [k2, e2]; rfl, ?_⟩, ?_⟩
      · intro i hi
        rw [k3 i hi, h28 i (by omega), n2 i (by omega)]
      · exact ct_P_take (Nat.le_refl _) (by rw [ft_fc]; omega) trivial (fun w w1 w2 _ => Or.inr (by rw [ft_fc] at w2; rw [show w = lo by omega]; exact ⟨rfl, Nat.le_refl _⟩)) hP (fun u hu => by rw [eK]; exact hb u hu)
    | succ j =>
      have IH := IH j rfl
      have ej : N 5 - (k + 1) = j := by omega
      have ek : N 5 - k = j + 1 := by omega
      refine bt rfl (by rw [hn5]; exact nI_lt (by omega) (by omega)) ?_
      have loop : ∀ (i f : Nat), f + i = N 5 → ∀ (x8 x9 : Int32) (J' : Nat → Nat → Int32) (o' : Option Nat), ft_R N V (lo + ft_un s f * ft_fc j) k J J' o' → ∀ (y8 y9 : Value), (y8 = .float 0 ∨ y8 = .int x8) → AW E (ax_cal E (d + (j + 1) + 1)) t_X10_seekFrom (62, [.ref 27, .ref 44, .int (nI k), .int (nI s), .int (nI ck), .int (nI lt), .int (nI hr'), .int (nI f), y8, y9], [.int (J' 44 6), .int (nI f)], ax_hC tl rtl J') (fun r' g' => r' = none ∧ ∃ G o', g' = ax_hC tl rtl G ∧ ft_R N V (lo + ft_fc (j + 1)) k J G o') := by
        intro i
        induction i with
        | zero =>
          intro f hf x8 x9 J' o' hR y8 y9 hy
          have ef : f = N 5 := by omega
          refine bt rfl (by rw [hR.1 44 (by decide), hn5]; exact nI_le (by omega) (by omega)) ?_
          repeat refine bs rfl ?_
          refine br rfl ⟨rfl, J', o', rfl, ?_⟩
          rw [ef, hun] at hR
          exact hR
        | succ i ih =>
          intro f hf x8 x9 J' o' hR y8 y9 hy
          have ih := ih (f + 1) (by omega)
          rw [nI_succ, ft_un] at ih
          have hf5 : f < N 5 := by omega
          obtain ⟨t1, t2, t3, t4⟩ := sp_tE hok hf5
          obtain ⟨b1, b2⟩ := ft_fin5 ⟨s, hs⟩ ⟨f, by omega⟩
          have b1 : ((nI s >>> (nI f &&& 31)) &&& 1 = 0 ↔ s.testBit f = false) := b1
          have b2 : nI s ||| (1 <<< (nI f &&& 31)) = nI (s ||| 1 <<< f) := b2
          refine bf rfl (by rw [hR.1 44 (by decide), hn5]; exact nI_ge (by omega) (by omega)) ?_
          repeat refine bs rfl ?_
          refine bb rfl (fun c => ?_) (fun c => ?_)
          · have c := b1.mp c
            rw [if_neg (by rw [c]; decide)] at ih
            have e47 : J' 47 f = nI (sp_t V f) := by rw [hR.1 47 (by decide), ← t1]; exact (hr.2.2.2.2.2.2.2.2.2.2.2 f hf5).1
            have e48 : J' 48 f = nI (sp_d V f) := by rw [hR.1 48 (by decide), ← t2]; exact (hr.2.2.2.2.2.2.2.2.2.2.2 f hf5).2
            obtain ⟨h, hh⟩ : ∃ h : Nat → Nat, h = fun x => if x = k then f else g x := ⟨_, rfl⟩
            have hh1 : ∀ i, i < k → h i = g i := fun i hi => by rw [hh]; exact if_neg (by omega)
            have hh2 : h k = f := by rw [hh]; exact if_pos rfl
            have huf : ft_un s f < ft_un s (N 5) := by
              have hmono : ∀ a b, ft_un s a ≤ ft_un s (a + b) := by
                intro a b
                induction b with
                | zero => exact Nat.le_refl _
                | succ b ihb => rw [← Nat.add_assoc, ft_un]; omega
              have := hmono (f + 1) (N 5 - (f + 1))
              rw [show f + 1 + (N 5 - (f + 1)) = N 5 by omega, ft_un, if_neg (by rw [c]; decide)] at this
              omega
            have hNc := ft_N_child (g := g) (h := h) h6 (show k < N 5 by omega) hs hf5 c (by rw [ek]; exact hN) (by rw [ek]; exact hun) hh1 hh2 huf
            rw [ej] at hNc
            have hloc : lo + ft_un s f * ft_fc j + ft_fc j ≤ ft_fc (N 5) := by
              have a1 : (ft_un s f + 1) * ft_fc j ≤ (j + 1) * ft_fc j := Nat.mul_le_mul_right _ (by omega)
              rw [Nat.add_mul (ft_un s f), Nat.one_mul] at a1
              rw [ft_fc] at hlo
              omega
            have hunc : ft_un (s ||| 1 <<< f) (N 5) = j := by
              have := ft_fin3 ⟨s, hs⟩ ⟨f, by omega⟩ ⟨N 5, by omega⟩ c hf5
              have : ft_un (s ||| 1 <<< f) (N 5) + 1 = ft_un s (N 5) := this
              omega
            obtain ⟨G, o2, hc, hR2⟩ := IH (k + 1) (by omega) (va_up J' 28 (upd (J' 28) k (nI f))) h (s ||| 1 <<< f) (lo + ft_un s f * ft_fc j) o' (RC30_of (fun q hq => by rw [va_up_ne _ _ (by omega), hR.1 q (by omega)]) hr) (ft_fin2 ⟨s, hs⟩ ⟨f, by omega⟩) hloc hunc (by
                intro i hi
                by_cases q : i = k
                · rw [q, hh2]; exact hf5
                · rw [hh1 i (by omega)]; exact hg i (by omega)) hNc (by
                intro i hi
                show upd (J' 28) k (nI f) i = _
                by_cases q : i = k
                · rw [q, pk_us, hh2]
                · rw [pk_un q, hR.2.2.1 i (by omega), h28 i (by omega), hh1 i (by omega)]) hR.2.2.2.1 hR.2.2.2.2
            have eck : ft_ck (sp_t V) h (k + 1) = ck + sp_t V f := by rw [ft_ck, hh2, ft_ck_cong hh1, hck]
            rw [nI_succ, ft_lt, ft_hr, eck, hh2, ft_lt_cong hh1, ft_hr_cong hh1, hlt, hhr, ← b2, ← nI_add hr', ← i_lk (by omega) (by omega), ← nI_add ck, ← e47, ← e48] at hc
            have hR3 : ft_R N V (lo + (ft_un s f + 1) * ft_fc j) k J G o2 := by
              refine ⟨fun q hq => ?_, hR2.2.1.trans hR.2.1, fun i hi => ?_, hR2.2.2.2.1, ?_⟩
              · rw [hR2.1 q hq, va_up_ne _ _ (by omega), hR.1 q hq]
              · rw [hR2.2.2.1 i (by omega), ← hR.2.2.1 i hi]
                show upd (J' 28) k (nI f) i = _
                rw [pk_un (by omega)]
              · have := hR2.2.2.2.2
                rw [Nat.add_assoc, ← Nat.succ_mul] at this
                exact this
            have hov : (if 0 < nI ck + J' 47 f - J' 48 f then nI ck + J' 47 f - J' 48 f else 0) = nI (ck + sp_t V f - sp_d V f) := by rw [e47, e48, nI_add, i_lk (by omega) (by omega)]
            repeat refine bs rfl ?_
            refine bsto rfl k rfl (by omega) (by omega) ?_
            have tail : ∀ (lv : Int32), lv = nI (lt + (if sp_d V f < ck + sp_t V f then 1 else 0)) → AW E (ax_cal E (d + (j + 1) + 1)) t_X10_seekFrom (137, [.ref 27, .ref 44, .int (nI k), .int (nI s), .int (nI ck), .int (nI lt), .int (nI hr'), .int (nI f), .int (nI ck + J' 47 f), .int (if 0 < nI ck + J' 47 f - J' 48 f then nI ck + J' 47 f - J' 48 f else 0)], [.int lv, .int (nI ck + J' 47 f), .int (nI s ||| (1 <<< (nI f &&& 31))), .int (nI k + 1), .ref 44, .ref 27], ax_hC tl rtl (va_up J' 28 (upd (J' 28) k (nI f)))) (fun r' g' => r' = none ∧ ∃ G o', g' = ax_hC tl rtl G ∧ ft_R N V (lo + ft_fc (j + 1)) k J G o') := by
              intro lv hlv
              rw [← hlv] at hc
              repeat refine bs rfl ?_
              refine bc rfl hc ?_
              repeat refine bs rfl ?_
              exact ih _ x9 G o2 hR3 _ _ (Or.inr rfl)
            have hgo : AW E (ax_cal E (d + (j + 1) + 1)) t_X10_seekFrom (125, [.ref 27, .ref 44, .int (nI k), .int (nI s), .int (nI ck), .int (nI lt), .int (nI hr'), .int (nI f), .int (nI ck + J' 47 f), .int (if 0 < nI ck + J' 47 f - J' 48 f then nI ck + J' 47 f - J' 48 f else 0)], [.int (if 0 < nI ck + J' 47 f - J' 48 f then nI ck + J' 47 f - J' 48 f else 0), .int (nI ck + J' 47 f), .int (nI s ||| (1 <<< (nI f &&& 31))), .int (nI k + 1), .ref 44, .ref 27], ax_hC tl rtl (va_up J' 28 (upd (J' 28) k (nI f)))) (fun r' g' => r' = none ∧ ∃ G o', g' = ax_hC tl rtl G ∧ ft_R N V (lo + ft_fc (j + 1)) k J G o') := by
              by_cases cc : sp_d V f < ck + sp_t V f
              · refine bf rfl (by rw [hov]; exact nI_nle (by omega) (by omega)) ?_
                iterate 4 refine bs rfl ?_
                exact tail _ (by rw [if_pos cc, nI_succ])
              · refine bt rfl (by rw [hov]; exact nI_le (b := 0) (by omega) (by omega)) ?_
                refine bs rfl ?_
                exact tail _ (by rw [if_neg cc, Nat.add_zero])
            rcases hy with hy | hy
            · subst hy
              repeat (first | refine bs rfl ?_ | refine bld rfl _ rfl (by omega) (by omega) ?_)
              exact hgo
            · subst hy
              repeat (first | refine bs rfl ?_ | refine bld rfl _ rfl (by omega) (by omega) ?_)
              exact hgo
          · have c : s.testBit f = true := by
              cases hq : s.testBit f with
              | true => rfl
              | false => exact absurd (b1.mpr hq) c
            rw [if_pos c, Nat.add_zero] at ih
            repeat refine bs rfl ?_
            exact ih x8 x9 J' o' hR y8 y9 hy
      have l0 := loop (N 5) 0 (Nat.zero_add _) 0 0 J o ⟨fun _ _ => rfl, rfl, fun _ _ => rfl, hS, by rw [ft_un, Nat.zero_mul, Nat.add_zero]; exact hP⟩ (.float 0) (.float 0) (Or.inl rfl)
      iterate 5 refine bs rfl ?_
      exact l0
  iterate 2 refine bs rfl ?_
  cases o with
  | none =>
    have hS0 : J 27 3 = 0 := hS
    refine bt rfl hS0 ?_
    exact main (fun u hu => by cases hu)
  | some u =>
    have hS2 := hS
    obtain ⟨s1, s2, s3, s4⟩ : J 27 3 = 1 ∧ J 27 4 = nI (ft_lt (sp_t V) (sp_d V) (ft_row (N 5) u) (N 5)) ∧ J 27 5 = nI (ft_hr (sp_t V) (sp_d V) (ft_row (N 5) u) (N 5)) ∧ _ := hS2
    have hdone : ft_K (N 5) (sp_t V) (sp_d V) u ≤ lt * 1000 + hr' → ft_R N V (lo + ft_fc j) k J J (some u) := fun hle => ⟨fun _ _ => rfl, rfl, fun _ _ => rfl, hS, ct_P_worse (by omega) (fun w w1 w2 _ => Nat.le_trans hle (hlow w w1 w2)) hP⟩
    have hKu : ft_K (N 5) (sp_t V) (sp_d V) u = ft_lt (sp_t V) (sp_d V) (ft_row (N 5) u) (N 5) * 1000 + ft_hr (sp_t V) (sp_d V) (ft_row (N 5) u) (N 5) := rfl
    have c1 := ft_lt_le (tt := sp_t V) (dd := sp_d V) (g := ft_row (N 5) u) (N 5)
    have b2 := ft_hr_le (tt := sp_t V) (dd := sp_d V) (g := ft_row (N 5) u) (N 5) h6 (fun i hi => ht9 _ (ft_row_lt h6 (by have := hP.1; omega) hi))
    generalize ft_lt (sp_t V) (sp_d V) (ft_row (N 5) u) (N 5) = lt' at *
    generalize ft_hr (sp_t V) (sp_d V) (ft_row (N 5) u) (N 5) = hr2 at *
    refine bf rfl (by rw [s1]; decide) ?_
    repeat refine bs rfl ?_
    rw [s2]
    refine bb rfl (fun c => ?_) (fun c => ?_)
    · have c := (nI_ltI (by omega) (by omega)).mp c
      repeat refine bs rfl ?_
      exact br rfl ⟨rfl, J, some u, rfl, hdone (by omega)⟩
    · have c : ¬ lt' < lt := fun q => c (nI_lt q (by omega))
      repeat refine bs rfl ?_
      rw [s2]
      refine bb rfl (fun c2 => ?_) (fun c2 => ?_)
      · have c2 := (nI_eq (by omega) (by omega)).mp c2
        repeat refine bs rfl ?_
        rw [s3]
        refine bb rfl (fun c3 => ?_) (fun c3 => ?_)
        · have c3 := (nI_ltI (by omega) (by omega)).mp c3
          exact main (fun u' hu' => by cases hu'; rw [hKu]; omega)
        · have c3 : ¬ hr' < hr2 := fun q => c3 (nI_lt q (by omega))
          repeat refine bs rfl ?_
          exact br rfl ⟨rfl, J, some u, rfl, hdone (by omega)⟩
      · have c2 : lt ≠ lt' := fun q => c2 (by rw [q])
        exact main (fun u' hu' => by cases hu'; rw [hKu]; omega)
theorem c_fseekFrom (hok : sp_Ok N V) : ∀ j, ft_C E d tl rtl N V j
  | 0 => c_fseekStep hok 0 (fun j' h => absurd h (by omega))
  | j + 1 => c_fseekStep hok (j + 1) (fun j' h => by
    have : j' = j := by omega
    rw [this]
    exact c_fseekFrom hok j)
end FC
