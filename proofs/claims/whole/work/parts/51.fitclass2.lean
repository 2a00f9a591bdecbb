/-! contracts of the class: Timetable.seek, fittings -/
def sp_fitP (N : Nat → Nat) (V : Nat → Nat → Int32) (v : Nat) : Prop := ct_P (fun _ => True) (ft_K (N 5) (sp_t V) (sp_d V)) (ft_fc (N 5)) (some v)
def sp_fitOk (N : Nat → Nat) (k : Int32) : Prop := -2 ≤ k ∧ k < nI (max (N 5) 1)
def sp_fitA (N : Nat → Nat) (V : Nat → Nat → Int32) (k : Int32) (v : Nat) : Int32 := if k = -1 then nI (ft_lt (sp_t V) (sp_d V) (ft_row (N 5) v) (N 5)) else if k = -2 then nI (ft_hr (sp_t V) (sp_d V) (ft_row (N 5) v) (N 5)) else nI (ft_row (N 5) v k.toNatClampNeg)
section FC2
variable {E : ax_E} {d : Nat} {tl : List (Nat × Nat)} {rtl : List (List (Option Nat))} {J : Nat → Nat → Int32} {N : Nat → Nat} {V : Nat → Nat → Int32}
theorem c_fseek (hok : sp_Ok N V) (hr : RC 30 J N V) : ∃ G v, ax_cal E (d + 9) n_X10_seek [.ref 27, .ref 44] (ax_hC tl rtl J) = some (none, ax_hC tl rtl G) ∧ (∀ q, q < 27 ∨ 29 < q → G q = J q) ∧ G 27 2 = 1 ∧ ft_S (N 5) (sp_t V) (sp_d V) (G 29) (G 27) (some v) ∧ sp_fitP N V v := by
  suffices H : ∃ r g, ax_cal E (d + 9) n_X10_seek [.ref 27, .ref 44] (ax_hC tl rtl J) = some (r, g) ∧ (r = none ∧ ∃ G v, g = ax_hC tl rtl G ∧ (∀ q, q < 27 ∨ 29 < q → G q = J q) ∧ G 27 2 = 1 ∧ ft_S (N 5) (sp_t V) (sp_d V) (G 29) (G 27) (some v) ∧ sp_fitP N V v) by
    obtain ⟨r, g, e, rfl, G, v, rfl, h⟩ := H
    exact ⟨G, v, e, h⟩
  have h6 := hok.2.2.2.2.2.1
  refine ax_ofQ (t := t_X10_seek) (ls := [.ref 27, .ref 44]) rfl ⟨rfl, Nat.le_of_ble_eq_true rfl⟩ rfl ?_
  repeat refine bs rfl ?_
  obtain ⟨G2, o2, hc, hR⟩ := c_fseekFrom (E := E) (d := d + 6 - N 5) (tl := tl) (rtl := rtl) hok (N 5) 0 (Nat.zero_add _) (va_up (va_up J 27 (upd (J 27) 2 1)) 27 (upd (upd (J 27) 2 1) 3 0)) (fun _ => 0) 0 0 none (RC30_of (fun q hq => by rw [va_up_ne _ _ (by omega), va_up_ne _ _ (by omega)]) hr) (by omega) (by omega) (ft_fin6 ⟨N 5, by omega⟩).1 (fun s hs => absurd hs (by omega)) (fun c c1 c2 => ⟨rfl, fun i hi => absurd hi (by omega)⟩) (fun s hs => absurd hs (by omega)) rfl (fun w hw => absurd hw (by omega))
  rw [show d + 6 - N 5 + N 5 + 2 = d + 8 by omega] at hc
  refine bc rfl (show ax_cal E (d + 8) n_X10_seekFrom [.ref 27, .ref 44, .int 0, .int 0, .int 0, .int 0, .int 0] (ax_hC tl rtl (va_up (va_up J 27 (upd (J 27) 2 1)) 27 (upd (upd (J 27) 2 1) 3 0))) = _ from hc) ?_
  repeat refine bs rfl ?_
  obtain ⟨r1, r2, r3, r4, r5⟩ := hR
  rw [Nat.zero_add] at r5
  cases o2 with
  | none => exact absurd trivial (r5 0 (ft_fc_pos _))
  | some v => exact br rfl ⟨rfl, G2, v, rfl, fun q hq => by rw [r1 q hq, va_up_ne _ _ (by omega), va_up_ne _ _ (by omega)], r2, r4, r5⟩
theorem c_fitB (hok : sp_Ok N V) (hr : RC 30 J N V) (k : Int32) (hb : ¬ sp_fitOk N k) : ax_cal E (d + 1) n_X11_fittings [.ref 0, .int k] (ax_hC tl rtl J) = some (some (.int (-1)), ax_hC tl rtl J) := by
  have h6 := hok.2.2.2.2.2.1
  have hn5 : J 44 6 = nI (N 5) := hr.2.2.2.2.2.2.2.2.2.2.1
  have hmx := (ft_fin6 ⟨N 5, by omega⟩).2.2.1
  refine ax_of (t := t_X11_fittings) (ls := [.ref 0, .int k, .float 0]) rfl ⟨rfl, Nat.le_of_ble_eq_true rfl⟩ rfl ?_
  repeat refine bs rfl ?_
  refine bb rfl (fun c1 => ?_) (fun c1 => ?_)
  · repeat refine bs rfl ?_
    exact br rfl ⟨rfl, rfl⟩
  · repeat refine bs rfl ?_
    refine bf rfl (by rw [hn5]; exact fun q => hb ⟨Int32.not_lt.mp c1, hmx ▸ q⟩) ?_
    repeat refine bs rfl ?_
    exact br rfl ⟨rfl, rfl⟩
theorem c_fit0 (hok : sp_Ok N V) (hr : RC 30 J N V) (k : Int32) (hb : sp_fitOk N k) (h0 : N 5 = 0) : ax_cal E (d + 1) n_X11_fittings [.ref 0, .int k] (ax_hC tl rtl J) = some (some (.int (-4)), ax_hC tl rtl J) := by
  have h6 := hok.2.2.2.2.2.1
  have hn5 : J 44 6 = nI (N 5) := hr.2.2.2.2.2.2.2.2.2.2.1
  have hmx := (ft_fin6 ⟨N 5, by omega⟩).2.2.1
  refine ax_of (t := t_X11_fittings) (ls := [.ref 0, .int k, .float 0]) rfl ⟨rfl, Nat.le_of_ble_eq_true rfl⟩ rfl ?_
  repeat refine bs rfl ?_
  refine bf rfl (Int32.not_lt.mpr hb.1) ?_
  repeat refine bs rfl ?_
  refine bt rfl (by rw [hn5]; exact hmx.symm ▸ hb.2) ?_
  repeat refine bs rfl ?_
  refine bt rfl (by rw [hn5, h0]; rfl) ?_
  repeat refine bs rfl ?_
  exact br rfl ⟨rfl, rfl⟩
theorem c_fit (hok : sp_Ok N V) (hr : RC 30 J N V) (k : Int32) (hb : sp_fitOk N k) (h0 : N 5 ≠ 0) (hk : J 27 2 = 0 ∨ (J 27 2 = 1 ∧ ∃ v, ft_S (N 5) (sp_t V) (sp_d V) (J 29) (J 27) (some v) ∧ sp_fitP N V v)) : ∃ G v, ax_cal E (d + 10) n_X11_fittings [.ref 0, .int k] (ax_hC tl rtl J) = some (some (.int (sp_fitA N V k v)), ax_hC tl rtl G) ∧ (∀ q, q < 27 ∨ 29 < q → G q = J q) ∧ G 27 2 = 1 ∧ ft_S (N 5) (sp_t V) (sp_d V) (G 29) (G 27) (some v) ∧ sp_fitP N V v := by
  suffices H : ∃ r' g, ax_cal E (d + 10) n_X11_fittings [.ref 0, .int k] (ax_hC tl rtl J) = some (r', g) ∧ (∃ G v, r' = some (.int (sp_fitA N V k v)) ∧ g = ax_hC tl rtl G ∧ (∀ q, q < 27 ∨ 29 < q → G q = J q) ∧ G 27 2 = 1 ∧ ft_S (N 5) (sp_t V) (sp_d V) (G 29) (G 27) (some v) ∧ sp_fitP N V v) by
    obtain ⟨r', g, e, G, v, rfl, rfl, h⟩ := H
    exact ⟨G, v, e, h⟩
  have h6 := hok.2.2.2.2.2.1
  have hn5 : J 44 6 = nI (N 5) := hr.2.2.2.2.2.2.2.2.2.2.1
  have hmx := (ft_fin6 ⟨N 5, by omega⟩).2.2.1
  refine ax_ofQ (t := t_X11_fittings) (ls := [.ref 0, .int k, .float 0]) rfl ⟨rfl, Nat.le_of_ble_eq_true rfl⟩ rfl ?_
  have main : ∀ (x2 : Value) (G : Nat → Nat → Int32) (v : Nat), (∀ q, q < 27 ∨ 29 < q → G q = J q) → G 27 2 = 1 → ft_S (N 5) (sp_t V) (sp_d V) (G 29) (G 27) (some v) → sp_fitP N V v → AW E (ax_cal E (d + 9)) t_X11_fittings (59, [.ref 0, .int k, x2], [], ax_hC tl rtl G) (fun r' g => ∃ G v, r' = some (.int (sp_fitA N V k v)) ∧ g = ax_hC tl rtl G ∧ (∀ q, q < 27 ∨ 29 < q → G q = J q) ∧ G 27 2 = 1 ∧ ft_S (N 5) (sp_t V) (sp_d V) (G 29) (G 27) (some v) ∧ sp_fitP N V v) := by
    intro x2 G v k1 k2 k3 k4
    repeat refine bs rfl ?_
    refine bb rfl (fun c => ?_) (fun c => ?_)
    · repeat refine bs rfl ?_
      refine br rfl ⟨G, v, ?_, rfl, k1, k2, k3, k4⟩
      rw [sp_fitA, if_pos c, k3.2.1]
    · repeat refine bs rfl ?_
      refine bb rfl (fun c2 => ?_) (fun c2 => ?_)
      · repeat refine bs rfl ?_
        refine br rfl ⟨G, v, ?_, rfl, k1, k2, k3, k4⟩
        rw [sp_fitA, if_neg c, if_pos c2, k3.2.2.1]
      · obtain ⟨j, hj, rfl⟩ := i_cutr (by omega) hb.1 hb.2 c c2
        have hj : j < N 5 := by omega
        repeat (first | refine bs rfl ?_ | refine bld rfl _ rfl (by omega) (by omega) ?_)
        refine br rfl ⟨G, v, ?_, rfl, k1, k2, k3, k4⟩
        rw [sp_fitA, if_neg c, if_neg c2, nI_clamp (by omega), k3.2.2.2 j hj]
  repeat refine bs rfl ?_
  refine bf rfl (Int32.not_lt.mpr hb.1) ?_
  repeat refine bs rfl ?_
  refine bt rfl (by rw [hn5]; exact hmx.symm ▸ hb.2) ?_
  repeat refine bs rfl ?_
  refine bf rfl (by rw [hn5]; exact nI_ne0 (by omega) (by omega)) ?_
  repeat refine bs rfl ?_
  rcases hk with hk | ⟨hk, v, hS, hP⟩
  · refine bt rfl hk ?_
    obtain ⟨G, v, hc, k1, k2, k3, k4⟩ := c_fseek (E := E) (d := d) (tl := tl) (rtl := rtl) hok hr
    repeat refine bs rfl ?_
    refine bc rfl hc ?_
    exact main _ G v k1 k2 k3 k4
  · refine bf rfl (by rw [hk]; decide) ?_
    exact main _ J v (fun _ _ => rfl) hk hS hP
end FC2
