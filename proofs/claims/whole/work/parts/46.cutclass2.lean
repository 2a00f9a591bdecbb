/-! contracts of the class: Cutting.seek, cut -/
/-- the best way of all -/
def sp_cutP (N : Nat → Nat) (V : Nat → Nat → Int32) (o : Option Nat) : Prop := ct_P (fun w => ct_fl (N 4) (N 3) (sp_a V) (sp_b V) (ct_dg (N 4) (N 3) w)) (ct_K (N 4) (N 3) (sp_a V)) ((N 4 + 1) ^ N 3) o
def sp_cutOk (N : Nat → Nat) (r : Int32) : Prop := -2 ≤ r ∧ r < nI (N 3)
def sp_cutA (N : Nat → Nat) (V : Nat → Nat → Int32) (r : Int32) : Option Nat → Int32
  | none => -4
  | some v => if r = -1 then nI (ct_us (N 4) (ct_dg (N 4) (N 3) v) (N 3)) - nI (N 4) else if r = -2 then nI (ct_ln (N 4) (sp_a V) (ct_dg (N 4) (N 3) v) (N 3)) - sp_sm (V 11) (N 4) else ct_ch (N 4) (ct_dg (N 4) (N 3) v r.toNatClampNeg)
theorem i_cutr {n : Nat} (hn : n < 2 ^ 31) {r : Int32} (h1 : -2 ≤ r) (h2 : r < nI n) (e1 : ¬ r = -1) (e2 : ¬ r = -2) : ∃ j, j < n ∧ r = nI j := by
  refine i_ps hn ?_ h2
  have a := i_le.mp h1
  have b1 : r.toInt ≠ (-1 : Int32).toInt := fun q => e1 (i_eq.mpr q)
  have b2 : r.toInt ≠ (-2 : Int32).toInt := fun q => e2 (i_eq.mpr q)
  have c1 : (-1 : Int32).toInt = -1 := by decide
  have c2 : (-2 : Int32).toInt = -2 := by decide
  have c0 : (0 : Int32).toInt = 0 := by decide
  refine i_le.mpr ?_
  omega
section CS2
variable {E : ax_E} {d : Nat} {tl : List (Nat × Nat)} {rtl : List (List (Option Nat))} {J : Nat → Nat → Int32} {N : Nat → Nat} {V : Nat → Nat → Int32}
theorem c_seek (hok : sp_Ok N V) (hr : RC 30 J N V) : ∃ G o, ax_cal E (d + 10) n_X1_seek [.ref 23, .ref 44] (ax_hC tl rtl J) = some (none, ax_hC tl rtl G) ∧ (∀ q, q < 23 ∨ 26 < q → G q = J q) ∧ G 23 3 = 1 ∧ ct_S (N 4) (N 3) (sp_a V) (G 26) (G 23) o ∧ sp_cutP N V o := by
  suffices H : ∃ r g, ax_cal E (d + 10) n_X1_seek [.ref 23, .ref 44] (ax_hC tl rtl J) = some (r, g) ∧ (r = none ∧ ∃ G o, g = ax_hC tl rtl G ∧ (∀ q, q < 23 ∨ 26 < q → G q = J q) ∧ G 23 3 = 1 ∧ ct_S (N 4) (N 3) (sp_a V) (G 26) (G 23) o ∧ sp_cutP N V o) by
    obtain ⟨r, g, e, rfl, G, o, rfl, h⟩ := H
    exact ⟨G, o, e, h⟩
  have h7 := hok.2.2.2.1
  have h3 := hok.2.2.2.2.1
  have hn3 : J 44 4 = nI (N 3) := hr.2.2.2.2.2.2.1
  have hn4 : J 44 5 = nI (N 4) := hr.2.2.2.2.2.2.2.2.1
  refine ax_ofQ (t := t_X1_seek) (ls := [.ref 23, .ref 44, .float 0]) rfl ⟨rfl, Nat.le_of_ble_eq_true rfl⟩ rfl ?_
  have loop2 : ∀ (j n : Nat), n + j = N 3 → ∀ G : Nat → Nat → Int32, (∀ q, q < 23 ∨ 26 < q → G q = J q) → G 23 3 = 1 → G 23 4 = 0 → (∀ x, x < N 4 → G 24 x = V 11 x) → (∀ s, s < n → G 25 s = -4) → AW E (ax_cal E (d + 9)) t_X1_seek (45, [.ref 23, .ref 44, .int (nI n)], [.int (G 44 4), .int (nI n)], ax_hC tl rtl G) (fun r g => r = none ∧ ∃ G o, g = ax_hC tl rtl G ∧ (∀ q, q < 23 ∨ 26 < q → G q = J q) ∧ G 23 3 = 1 ∧ ct_S (N 4) (N 3) (sp_a V) (G 26) (G 23) o ∧ sp_cutP N V o) := by
    intro j
    induction j with
    | zero =>
      intro n hn G k1 k2 k3 k4 k5
      refine bt rfl (by rw [k1 44 (by decide), hn3]; exact nI_le (by omega) (by omega)) ?_
      obtain ⟨G2, o2, hc, hR⟩ := c_seekFrom (E := E) (d := d + 7 - N 3) (tl := tl) (rtl := rtl) hok (N 3) 0 (Nat.zero_add _) G (fun _ => 0) none (RC30_of (fun q hq => k1 q (by omega)) hr) (fun s hs => absurd hs (by omega)) (fun s hs => absurd hs (by omega)) (by
        intro x hx
        rw [k4 x hx, (sp_bE hok hx).1, ct_gt, pk_sub (Nat.zero_le _), Nat.sub_zero]) (by
        intro s hs
        rw [k5 s (by omega), if_neg (by omega)]) k3 (by
        rw [ct_nm, Nat.zero_mul]
        exact fun w hw => absurd hw (by omega))
      rw [show d + 7 - N 3 + N 3 + 2 = d + 9 by omega] at hc
      repeat refine bs rfl ?_
      refine bc rfl (show ax_cal E (d + 9) n_X1_seekFrom [.ref 23, .ref 44, .int 0, .int 0, .int 0] (ax_hC tl rtl G) = _ from hc) ?_
      repeat refine bs rfl ?_
      refine br rfl ⟨rfl, G2, o2, rfl, fun q hq => (hR.1 q hq).trans (k1 q hq), hR.2.1.trans k2, hR.2.2.2.2.1, ?_⟩
      have hP := hR.2.2.2.2.2
      rw [ct_nm, Nat.zero_add, Nat.one_mul] at hP
      exact ct_P_more (fun w hw => hw.1) (fun w hw hf hG => ct_better hw hf hG) hP
    | succ j ih =>
      intro n hn G k1 k2 k3 k4 k5
      have ih := ih (n + 1) (by omega)
      rw [nI_succ] at ih
      refine bf rfl (by rw [k1 44 (by decide), hn3]; exact nI_ge (by omega) (by omega)) ?_
      repeat refine bs rfl ?_
      refine bsto rfl n rfl (by omega) (by omega) ?_
      repeat refine bs rfl ?_
      refine ih _ (fun q hq => by rw [va_up_ne _ _ (by omega), k1 q hq]) k2 k3 k4 (fun s hs => ?_)
      show upd (G 25) n (-4) s = _
      by_cases e : s = n
      · rw [e, pk_us]
      · rw [pk_un e]
        exact k5 s (by omega)
  have loop1 : ∀ (j n : Nat), n + j = N 4 → ∀ G : Nat → Nat → Int32, (∀ q, q < 23 ∨ 26 < q → G q = J q) → G 23 3 = 1 → G 23 4 = 0 → (∀ x, x < n → G 24 x = V 11 x) → AW E (ax_cal E (d + 9)) t_X1_seek (17, [.ref 23, .ref 44, .int (nI n)], [.int (G 44 5), .int (nI n)], ax_hC tl rtl G) (fun r g => r = none ∧ ∃ G o, g = ax_hC tl rtl G ∧ (∀ q, q < 23 ∨ 26 < q → G q = J q) ∧ G 23 3 = 1 ∧ ct_S (N 4) (N 3) (sp_a V) (G 26) (G 23) o ∧ sp_cutP N V o) := by
    intro j
    induction j with
    | zero =>
      intro n hn G k1 k2 k3 k4
      refine bt rfl (by rw [k1 44 (by decide), hn4]; exact nI_le (by omega) (by omega)) ?_
      have l0 := loop2 (N 3) 0 (Nat.zero_add _) G k1 k2 k3 (fun x hx => k4 x (by omega)) (fun s hs => absurd hs (by omega))
      iterate 5 refine bs rfl ?_
      exact l0
    | succ j ih =>
      intro n hn G k1 k2 k3 k4
      have ih := ih (n + 1) (by omega)
      rw [nI_succ] at ih
      refine bf rfl (by rw [k1 44 (by decide), hn4]; exact nI_ge (by omega) (by omega)) ?_
      repeat (first | refine bs rfl ?_ | refine bld rfl _ rfl (by omega) (by omega) ?_)
      refine bsto rfl n rfl (by omega) (by omega) ?_
      repeat refine bs rfl ?_
      refine ih _ (fun q hq => by rw [va_up_ne _ _ (by omega), k1 q hq]) k2 k3 (fun s hs => ?_)
      show upd (G 24) n (G 46 n) s = _
      by_cases e : s = n
      · rw [e, pk_us, k1 46 (by decide)]
        exact hr.2.2.2.2.2.2.2.2.2.1 n (by omega)
      · rw [pk_un e]
        exact k4 s (by omega)
  iterate 11 refine bs rfl ?_
  exact loop1 (N 4) 0 (Nat.zero_add _) _ (fun q hq => by rw [va_up_ne _ _ (by omega), va_up_ne _ _ (by omega)]) rfl rfl (fun x hx => absurd hx (by omega))
theorem c_cutB (hr : RC 30 J N V) (r : Int32) (hb : ¬ sp_cutOk N r) : ax_cal E (d + 1) n_X11_cut [.ref 0, .int r] (ax_hC tl rtl J) = some (some (.int (-1)), ax_hC tl rtl J) := by
  have hn3 : J 44 4 = nI (N 3) := hr.2.2.2.2.2.2.1
  refine ax_of (t := t_X11_cut) (ls := [.ref 0, .int r]) rfl ⟨rfl, Nat.le_of_ble_eq_true rfl⟩ rfl ?_
  repeat refine bs rfl ?_
  refine bb rfl (fun c1 => ?_) (fun c1 => ?_)
  · repeat refine bs rfl ?_
    exact br rfl ⟨rfl, rfl⟩
  · repeat refine bs rfl ?_
    refine bf rfl (by rw [hn3]; exact fun q => hb ⟨Int32.not_lt.mp c1, q⟩) ?_
    repeat refine bs rfl ?_
    exact br rfl ⟨rfl, rfl⟩
theorem c_cut (hok : sp_Ok N V) (hr : RC 30 J N V) (r : Int32) (hb : sp_cutOk N r) (hk : J 23 3 = 0 ∨ (J 23 3 = 1 ∧ ∃ o, ct_S (N 4) (N 3) (sp_a V) (J 26) (J 23) o ∧ sp_cutP N V o)) : ∃ G o, ax_cal E (d + 11) n_X11_cut [.ref 0, .int r] (ax_hC tl rtl J) = some (some (.int (sp_cutA N V r o)), ax_hC tl rtl G) ∧ (∀ q, q < 23 ∨ 26 < q → G q = J q) ∧ G 23 3 = 1 ∧ ct_S (N 4) (N 3) (sp_a V) (G 26) (G 23) o ∧ sp_cutP N V o := by
  suffices H : ∃ r' g, ax_cal E (d + 11) n_X11_cut [.ref 0, .int r] (ax_hC tl rtl J) = some (r', g) ∧ (∃ G o, r' = some (.int (sp_cutA N V r o)) ∧ g = ax_hC tl rtl G ∧ (∀ q, q < 23 ∨ 26 < q → G q = J q) ∧ G 23 3 = 1 ∧ ct_S (N 4) (N 3) (sp_a V) (G 26) (G 23) o ∧ sp_cutP N V o) by
    obtain ⟨r', g, e, G, o, rfl, rfl, h⟩ := H
    exact ⟨G, o, e, h⟩
  have h7 := hok.2.2.2.1
  have hn3 : J 44 4 = nI (N 3) := hr.2.2.2.2.2.2.1
  have hn4 : J 44 5 = nI (N 4) := hr.2.2.2.2.2.2.2.2.1
  refine ax_ofQ (t := t_X11_cut) (ls := [.ref 0, .int r]) rfl ⟨rfl, Nat.le_of_ble_eq_true rfl⟩ rfl ?_
  have main : ∀ (G : Nat → Nat → Int32) (o : Option Nat), (∀ q, q < 23 ∨ 26 < q → G q = J q) → G 23 3 = 1 → ct_S (N 4) (N 3) (sp_a V) (G 26) (G 23) o → sp_cutP N V o → AW E (ax_cal E (d + 10)) t_X11_cut (46, [.ref 0, .int r], [], ax_hC tl rtl G) (fun r' g => ∃ G o, r' = some (.int (sp_cutA N V r o)) ∧ g = ax_hC tl rtl G ∧ (∀ q, q < 23 ∨ 26 < q → G q = J q) ∧ G 23 3 = 1 ∧ ct_S (N 4) (N 3) (sp_a V) (G 26) (G 23) o ∧ sp_cutP N V o) := by
    intro G o k1 k2 k3 k4
    have hr' : RC 30 G N V := RC30_of (fun q hq => k1 q (by omega)) hr
    cases o with
    | none =>
      have k30 : G 23 4 = 0 := k3
      repeat refine bs rfl ?_
      refine bt rfl k30 ?_
      repeat refine bs rfl ?_
      exact br rfl ⟨G, none, rfl, rfl, k1, k2, k3, k4⟩
    | some v =>
      have k30 : G 23 4 = 1 := k3.1
      repeat refine bs rfl ?_
      refine bf rfl (by rw [k30]; decide) ?_
      repeat refine bs rfl ?_
      refine bb rfl (fun c => ?_) (fun c => ?_)
      · repeat refine bs rfl ?_
        refine br rfl ⟨G, some v, ?_, rfl, k1, k2, k3, k4⟩
        rw [sp_cutA, if_pos c, k1 44 (by decide), hn4, k3.2.1]
      · repeat refine bs rfl ?_
        refine bb rfl (fun c2 => ?_) (fun c2 => ?_)
        · repeat refine bs rfl ?_
          refine bc rfl (c_ordered hok hr') ?_
          repeat refine bs rfl ?_
          refine br rfl ⟨G, some v, ?_, rfl, k1, k2, k3, k4⟩
          rw [sp_cutA, if_neg c, if_pos c2, k3.2.2.1]
        · obtain ⟨j, hj, rfl⟩ := i_cutr (by omega) hb.1 hb.2 c c2
          repeat (first | refine bs rfl ?_ | refine bld rfl _ rfl (by omega) (by omega) ?_)
          refine br rfl ⟨G, some v, ?_, rfl, k1, k2, k3, k4⟩
          rw [sp_cutA, if_neg c, if_neg c2, nI_clamp (by omega), k3.2.2.2 j hj]
  repeat refine bs rfl ?_
  refine bf rfl (Int32.not_lt.mpr hb.1) ?_
  repeat refine bs rfl ?_
  refine bt rfl (by rw [hn3]; exact hb.2) ?_
  repeat refine bs rfl ?_
  rcases hk with hk | ⟨hk, o, hS, hP⟩
  · refine bt rfl hk ?_
    obtain ⟨G, o, hc, k1, k2, k3, k4⟩ := c_seek (E := E) (d := d) (tl := tl) (rtl := rtl) hok hr
    repeat refine bs rfl ?_
    refine bc rfl hc ?_
    exact main G o k1 k2 k3 k4
  · refine bf rfl (by rw [hk]; decide) ?_
    exact main J o (fun _ _ => rfl) hk hS hP
end CS2
