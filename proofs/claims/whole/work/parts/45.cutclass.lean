/-! contracts of the class: Cutting.seekFrom -/
def sp_a (V : Nat → Nat → Int32) (r : Nat) : Nat := (V 10 r).toInt.toNat
def sp_b (V : Nat → Nat → Int32) (o : Nat) : Nat := (V 11 o).toInt.toNat
theorem sp_aE {N : Nat → Nat} {V : Nat → Nat → Int32} (hok : sp_Ok N V) {r : Nat} (hr : r < N 3) : V 10 r = nI (sp_a V r) ∧ 1 ≤ sp_a V r ∧ sp_a V r ≤ 40 := by
  have h := hok.2.2.2.2.2.2.2.2.2.1 r hr
  obtain ⟨j, e, hj, hb⟩ := i_nn (x := V 10 r) (by omega)
  have : sp_a V r = j := by unfold sp_a; omega
  rw [this]
  exact ⟨e, by omega, by omega⟩
theorem sp_bE {N : Nat → Nat} {V : Nat → Nat → Int32} (hok : sp_Ok N V) {r : Nat} (hr : r < N 4) : V 11 r = nI (sp_b V r) ∧ 1 ≤ sp_b V r ∧ sp_b V r ≤ 60 := by
  have h := hok.2.2.2.2.2.2.2.2.2.2.1 r hr
  obtain ⟨j, e, hj, hb⟩ := i_nn (x := V 11 r) (by omega)
  have : sp_b V r = j := by unfold sp_b; omega
  rw [this]
  exact ⟨e, by omega, by omega⟩
theorem RC30_of {J G : Nat → Nat → Int32} {N : Nat → Nat} {V : Nat → Nat → Int32} (h : ∀ q, 30 < q → G q = J q) (hr : RC 30 J N V) : RC 30 G N V := by
  unfold RC at hr ⊢
  rw [h (30 + 1) (by decide), h (30 + 2) (by decide), h (30 + 3) (by decide), h (30 + 4) (by decide), h (30 + 5) (by decide), h (30 + 6) (by decide), h (30 + 7) (by decide), h (30 + 8) (by decide), h (30 + 9) (by decide), h (30 + 10) (by decide), h (30 + 11) (by decide), h (30 + 12) (by decide), h (30 + 14) (by decide), h (30 + 15) (by decide), h (30 + 16) (by decide), h (30 + 17) (by decide), h (30 + 18) (by decide)]
  exact hr
def ct_ch (m d : Nat) : Int32 := if d < m then nI d else -4
/-- what is found, as the class holds it -/
def ct_S (m n : Nat) (a : Nat → Nat) (f26 f23 : Nat → Int32) : Option Nat → Prop
  | none => f23 4 = 0
  | some v => f23 4 = 1 ∧ f23 5 = nI (ct_us m (ct_dg m n v) n) ∧ f23 6 = nI (ct_ln m a (ct_dg m n v) n) ∧ ∀ r, r < n → f26 r = ct_ch m (ct_dg m n v r)
theorem i_lk {p q : Nat} (hp : p ≤ 1000) (hq : q ≤ 1000) : (if 0 < nI p - nI q then nI p - nI q else 0) = nI (p - q) := by
  have e0 : (0 : Int32).toInt = 0 := by decide
  have ep := nI_toInt (n := p) (by omega)
  have eq := nI_toInt (n := q) (by omega)
  have es : (nI p - nI q).toInt = (p : Int) - q := by rw [i_sub (by omega) (by omega), ep, eq]
  have e3 := nI_toInt (n := p - q) (by omega)
  by_cases c : 0 < nI p - nI q
  · rw [if_pos c]
    have c := i_lt.mp c
    refine i_eq.mpr ?_
    omega
  · rw [if_neg c]
    have c : ¬ (0 : Int32).toInt < (nI p - nI q).toInt := fun h => c (i_lt.mpr h)
    refine i_eq.mpr ?_
    omega
theorem i_le0 {p q : Nat} (hp : p ≤ 1000) (hq : q ≤ 1000) : nI p - nI q ≤ 0 ↔ p ≤ q := by
  have e0 : (0 : Int32).toInt = 0 := by decide
  have ep := nI_toInt (n := p) (by omega)
  have eq := nI_toInt (n := q) (by omega)
  have es : (nI p - nI q).toInt = (p : Int) - q := by rw [i_sub (by omega) (by omega), ep, eq]
  constructor
  · intro h
    have h := i_le.mp h
    omega
  · intro h
    refine i_le.mpr ?_
    omega
theorem i_ss {p q c : Nat} (hp : p ≤ 1000) (hq : q ≤ 1000) (hc : c ≤ 1000) : nI p - nI q - nI c = nI p - nI (q + c) := by
  have ep := nI_toInt (n := p) (by omega)
  have eq := nI_toInt (n := q) (by omega)
  have ec := nI_toInt (n := c) (by omega)
  have eqc := nI_toInt (n := q + c) (by omega)
  have es : (nI p - nI q).toInt = (p : Int) - q := by rw [i_sub (by omega) (by omega), ep, eq]
  have e1 : (nI p - nI q - nI c).toInt = (p : Int) - q - c := by rw [i_sub (by omega) (by omega), es, ec]
  have e2 : (nI p - nI (q + c)).toInt = (p : Int) - (q + c : Nat) := by rw [i_sub (by omega) (by omega), ep, eqc]
  refine i_eq.mpr ?_
  omega
theorem sp_lkN {f : Nat → Int32} {b q : Nat → Nat} : ∀ {m : Nat}, (∀ x, x < m → f x = nI (b x) - nI (q x) ∧ b x ≤ 1000 ∧ q x ≤ 1000) → sp_lk f m = nI (ct_sm (fun x => b x - q x) m)
  | 0, _ => rfl
  | m + 1, h => by
    obtain ⟨e, h1, h2⟩ := h m (by omega)
    rw [sp_lk, ct_sm, sp_lkN (m := m) (fun x hx => h x (by omega)), e, i_lk h1 h2, nI_add]
theorem sp_sfN {f : Nat → Int32} {a : Nat → Nat} {r : Nat} : ∀ {m : Nat}, (∀ x, x < m → f (r + x) = nI (a (r + x))) → sp_sf f r m = nI (ct_sm (fun x => a (r + x)) m)
  | 0, _ => rfl
  | m + 1, h => by
    rw [sp_sf, ct_sm, sp_sfN (m := m) (fun x hx => h x (by omega)), h m (by omega), nI_add]
theorem ct_sm_bd {f : Nat → Nat} {c : Nat} : ∀ {m : Nat}, (∀ x, x < m → f x ≤ c) → ct_sm f m ≤ c * m
  | 0, _ => Nat.zero_le _
  | m + 1, h => by
    rw [ct_sm, Nat.mul_succ]
    have a := ct_sm_bd (m := m) (fun x hx => h x (by omega))
    have b := h m (by omega)
    omega
/-- what a node of the search leaves behind -/
def ct_R (N : Nat → Nat) (V : Nat → Nat → Int32) (hi : Nat) (J G : Nat → Nat → Int32) (o : Option Nat) : Prop := (∀ q, q < 23 ∨ 26 < q → G q = J q) ∧ G 23 3 = J 23 3 ∧ (∀ x, x < N 4 → G 24 x = J 24 x) ∧ (∀ s, s < N 3 → G 25 s = J 25 s) ∧ ct_S (N 4) (N 3) (sp_a V) (G 26) (G 23) o ∧ ct_P (ct_G (N 4) (N 3) (sp_a V) (sp_b V)) (ct_K (N 4) (N 3) (sp_a V)) hi o
def ct_C (E : ax_E) (d : Nat) (tl : List (Nat × Nat)) (rtl : List (List (Option Nat))) (N : Nat → Nat) (V : Nat → Nat → Int32) (k : Nat) : Prop := ∀ (r : Nat), r + k = N 3 → ∀ (J : Nat → Nat → Int32) (g : Nat → Nat) (o : Option Nat), RC 30 J N V → (∀ s, s < r → g s ≤ N 4) → ct_ir (N 4) (sp_a V) (sp_b V) g r → (∀ x, x < N 4 → J 24 x = nI (sp_b V x) - nI (ct_gt (sp_a V) g x r)) → (∀ s, s < N 3 → J 25 s = if s < r then ct_ch (N 4) (g s) else -4) → ct_S (N 4) (N 3) (sp_a V) (J 26) (J 23) o → ct_P (ct_G (N 4) (N 3) (sp_a V) (sp_b V)) (ct_K (N 4) (N 3) (sp_a V)) (ct_nm (N 4) g r * (N 4 + 1) ^ k) o →
  ∃ G o', ax_cal E (d + k + 2) n_X1_seekFrom [.ref 23, .ref 44, .int (nI r), .int (nI (ct_us (N 4) g r)), .int (nI (ct_ln (N 4) (sp_a V) g r))] (ax_hC tl rtl J) = some (none, ax_hC tl rtl G) ∧ ct_R N V ((ct_nm (N 4) g r + 1) * (N 4 + 1) ^ k) J G o'
section CS
variable {E : ax_E} {d : Nat} {tl : List (Nat × Nat)} {rtl : List (List (Option Nat))} {J : Nat → Nat → Int32} {N : Nat → Nat} {V : Nat → Nat → Int32}
theorem ct_R_refl {hi : Nat} {o : Option Nat} (hS : ct_S (N 4) (N 3) (sp_a V) (J 26) (J 23) o) (hP : ct_P (ct_G (N 4) (N 3) (sp_a V) (sp_b V)) (ct_K (N 4) (N 3) (sp_a V)) hi o) : ct_R N V hi J J o := ⟨fun _ _ => rfl, rfl, fun _ _ => rfl, fun _ _ => rfl, hS, hP⟩
theorem ct_R_trans {hi hi' : Nat} {J' G : Nat → Nat → Int32} {o o' : Option Nat} (h : ct_R N V hi J J' o) (h' : ct_R N V hi' J' G o') : ct_R N V hi' J G o' :=
  ⟨fun q hq => (h'.1 q hq).trans (h.1 q hq), h'.2.1.trans h.2.1, fun x hx => (h'.2.2.1 x hx).trans (h.2.2.1 x hx), fun s hs => (h'.2.2.2.1 s hs).trans (h.2.2.2.1 s hs), h'.2.2.2.2⟩
theorem c_seekStep (hok : sp_Ok N V) (k : Nat) (IH : ∀ k', k = k' + 1 → ct_C E d tl rtl N V k') : ct_C E d tl rtl N V k := by
  intro r hrk J g o hr hg hi h24 h25 hS hP
  have h7 := hok.2.2.2.1
  have h3 := hok.2.2.2.2.1
  have hn3 : J 44 4 = nI (N 3) := hr.2.2.2.2.2.2.1
  have hn4 : J 44 5 = nI (N 4) := hr.2.2.2.2.2.2.2.2.1
  have ha40 : ∀ s, s < N 3 → sp_a V s ≤ 40 := fun s hs => (sp_aE hok hs).2.2
  have hb60 : ∀ x, x < N 4 → sp_b V x ≤ 60 := fun x hx => (sp_bE hok hx).2.2
  have husb := ct_us_le (m := N 4) (g := g) r
  have hlnb := ct_ln_le (m := N 4) (g := g) (a := sp_a V) r (fun s hs => ha40 s (by omega))
  have hgtb : ∀ x, ct_gt (sp_a V) g x r ≤ 40 * r := fun x => ct_gt_le r (fun s hs => ha40 s (by omega))
  have hBk : 0 < (N 4 + 1) ^ k := Nat.pow_pos (by omega)
  have hlh : ct_nm (N 4) g r * (N 4 + 1) ^ k ≤ (ct_nm (N 4) g r + 1) * (N 4 + 1) ^ k := Nat.mul_le_mul_right _ (by omega)
  suffices H : ∃ r' g', ax_cal E (d + k + 2) n_X1_seekFrom [.ref 23, .ref 44, .int (nI r), .int (nI (ct_us (N 4) g r)), .int (nI (ct_ln (N 4) (sp_a V) g r))] (ax_hC tl rtl J) = some (r', g') ∧ (r' = none ∧ ∃ G o', g' = ax_hC tl rtl G ∧ ct_R N V ((ct_nm (N 4) g r + 1) * (N 4 + 1) ^ k) J G o') by
    obtain ⟨r', g', e, rfl, G, o', rfl, h⟩ := H
    exact ⟨G, o', e, h⟩
  have hpre : ∀ w, ct_nm (N 4) g r * (N 4 + 1) ^ k ≤ w → w < (ct_nm (N 4) g r + 1) * (N 4 + 1) ^ k → ∀ s, s < r → ct_dg (N 4) (N 3) w s = g s := fun w w1 w2 s hs => ct_dg_pre (by omega) hg (ct_rg w1 w2 hrk) hs
  have hlow : ∀ w, ct_nm (N 4) g r * (N 4 + 1) ^ k ≤ w → w < (ct_nm (N 4) g r + 1) * (N 4 + 1) ^ k → ct_us (N 4) g r * 1000 + ct_ln (N 4) (sp_a V) g r ≤ ct_K (N 4) (N 3) (sp_a V) w := by
    intro w w1 w2
    have e := hpre w w1 w2
    have a1 := ct_us_mono (m := N 4) (g := ct_dg (N 4) (N 3) w) (r := r) k
    have a2 := ct_ln_mono (m := N 4) (a := sp_a V) (g := ct_dg (N 4) (N 3) w) (r := r) k
    rw [hrk, ct_us_cong e] at a1
    rw [hrk, ct_ln_cong e] at a2
    unfold ct_K
    omega
  generalize hus : ct_us (N 4) g r = us at *
  generalize hln : ct_ln (N 4) (sp_a V) g r = ln at *
  generalize hLd : ct_sm (fun x => sp_b V x - ct_gt (sp_a V) g x r) (N 4) = L
  have hLb : L ≤ 60 * N 4 := by rw [← hLd]; exact ct_sm_bd (fun x hx => by have := hb60 x hx; omega)
  have hlk : sp_lk (J 24) (N 4) = nI L := by
    rw [← hLd]
    exact sp_lkN (q := fun x => ct_gt (sp_a V) g x r) (fun x hx => ⟨h24 x hx, by have := hb60 x hx; omega, by have := hgtb x; show ct_gt (sp_a V) g x r ≤ 1000; omega⟩)
  refine ax_ofQ (t := t_X1_seekFrom) (ls := [.ref 23, .ref 44, .int (nI r), .int (nI us), .int (nI ln), .float 0, .float 0, .float 0]) rfl ⟨rfl, Nat.le_of_ble_eq_true rfl⟩ rfl ?_
  have main : (∀ u, o = some u → us * 1000 + ln < ct_K (N 4) (N 3) (sp_a V) u) → AW E (ax_cal E (d + k + 1)) t_X1_seekFrom (33, [.ref 23, .ref 44, .int (nI r), .int (nI us), .int (nI ln), .float 0, .float 0, .float 0], [], ax_hC tl rtl J) (fun r' g' => r' = none ∧ ∃ G o', g' = ax_hC tl rtl G ∧ ct_R N V ((ct_nm (N 4) g r + 1) * (N 4 + 1) ^ k) J G o') := by
    intro hb
    have hc1 := c_lacking (E := E) (d := d + k) (tl := tl) (rtl := rtl) hok hr
    rw [hlk] at hc1
    repeat refine bs rfl ?_
    refine bc rfl hc1 ?_
    repeat refine bs rfl ?_
    refine bb rfl (fun c => ?_) (fun c => ?_)
    · have hL0 : L = 0 := (nI_eq (a := L) (b := 0) (by omega) (by omega)).mp c
      have hall : ∀ x, x < N 4 → sp_b V x ≤ ct_gt (sp_a V) g x r := fun x hx => by
        have := ct_sm_0 (hLd.trans hL0) x hx
        omega
      obtain ⟨v, ⟨v1, v2⟩, vG, vu, vd1, vd2, vus, vln⟩ := ct_full (n := N 3) hrk hg hi hall
      rw [hus] at vus
      rw [hln] at vln
      have hKv : ct_K (N 4) (N 3) (sp_a V) v = us * 1000 + ln := by unfold ct_K; rw [vus, vln]
      obtain ⟨G, hc, k1, k2, k3⟩ := c_take (E := E) (d := d + k) (tl := tl) (rtl := rtl) hn3 h7 (nI us) (nI ln)
      repeat refine bs rfl ?_
      refine bc rfl hc ?_
      repeat refine bs rfl ?_
      refine br rfl ⟨rfl, G, some v, rfl, fun q hq => k1 q (by omega) (by omega), by rw [k2]; rfl, fun x _ => by rw [k1 24 (by decide) (by decide)], fun s _ => by rw [k1 25 (by decide) (by decide)], ⟨by rw [k2]; rfl, by rw [k2, vus]; rfl, by rw [k2, vln]; rfl, ?_⟩, ?_⟩
      · intro s hs
        rw [k3 s hs, h25 s hs]
        by_cases q : s < r
        · rw [if_pos q, vd1 s q]
        · rw [if_neg q, vd2 s (by omega) hs]
          exact (if_neg (Nat.lt_irrefl _)).symm
      · exact ct_P_take v1 v2 vG (fun w w1 w2 wG => Or.inr (by rw [vu w w1 w2 wG]; exact ⟨rfl, Nat.le_refl _⟩)) hP (fun u hu => by rw [hKv]; exact hb u hu)
    · have hL0 : L ≠ 0 := fun q => c (by rw [q]; rfl)
      have hno : ct_sm (fun i => sp_a V (r + i)) (N 3 - r) < L → ∀ w, ct_nm (N 4) g r * (N 4 + 1) ^ k ≤ w → w < (ct_nm (N 4) g r + 1) * (N 4 + 1) ^ k → ¬ ct_G (N 4) (N 3) (sp_a V) (sp_b V) w := by
        intro hlt w w1 w2 wG
        have := ct_lack (m := N 4) (n := N 3) (r := r) (a := sp_a V) (b := sp_b V) (g := g) (by omega) (hpre w w1 w2) wG.1
        omega
      repeat refine bs rfl ?_
      cases k with
      | zero =>
        refine bt rfl (by rw [hn3]; exact nI_le (by omega) (by omega)) ?_
        repeat refine bs rfl ?_
        refine br rfl ⟨rfl, J, o, rfl, ct_R_refl hS (ct_P_skip hlh (hno ?_) hP)⟩
        rw [show N 3 - r = 0 by omega, ct_sm]
        omega
      | succ k =>
        refine bf rfl (by rw [hn3]; exact nI_ge (by omega) (by omega)) ?_
        have hc2 := c_lengthFrom (E := E) (d := d + (k + 1)) (tl := tl) (rtl := rtl) hok hr (show r ≤ N 3 by omega)
        have hsf : sp_sf (V 10) r (N 3 - r) = nI (ct_sm (fun i => sp_a V (r + i)) (N 3 - r)) := sp_sfN (fun x hx => (sp_aE hok (show r + x < N 3 by omega)).1)
        have hsb : ct_sm (fun i => sp_a V (r + i)) (N 3 - r) ≤ 40 * (N 3 - r) := ct_sm_bd (fun x hx => ha40 (r + x) (by omega))
        rw [hsf] at hc2
        repeat refine bs rfl ?_
        refine bc rfl hc2 ?_
        repeat refine bs rfl ?_
        refine bb rfl (fun c2 => ?_) (fun c2 => ?_)
        · have IH := IH k rfl
          have hrN : r < N 3 := by omega
          have haE := (sp_aE hok hrN).1
          have h45 : J 45 r = nI (sp_a V r) := by rw [← haE]; exact hr.2.2.2.2.2.2.2.1 r hrN
          obtain ⟨gx, hgx⟩ : ∃ gx : Nat → Nat → Nat, gx = fun x s => if s = r then x else g s := ⟨_, rfl⟩
          have hsame : ∀ x s, s < r → gx x s = g s := fun x s hs => by rw [hgx]; exact if_neg (by omega)
          have hat : ∀ x, gx x r = x := fun x => by rw [hgx]; exact if_pos rfl
          have hext : ∀ x, x ≤ N 4 → ∀ s, s < r + 1 → gx x s ≤ N 4 := by
            intro x hx s hs
            by_cases e : s = r
            · rw [e, hat x]; exact hx
            · rw [hsame x s (by omega)]; exact hg s (by omega)
          have hnm : ∀ x, ct_nm (N 4) (gx x) (r + 1) = ct_nm (N 4) g r * (N 4 + 1) + x := by
            intro x
            rw [ct_nm, hat x, ct_nm_cong (hsame x)]
          have loop : ∀ (j x : Nat), x + j = N 4 → ∀ (J' : Nat → Nat → Int32) (o' : Option Nat), ct_R N V ((ct_nm (N 4) g r * (N 4 + 1) + x) * (N 4 + 1) ^ k) J J' o' → AW E (ax_cal E (d + (k + 1) + 1)) t_X1_seekFrom (90, [.ref 23, .ref 44, .int (nI r), .int (nI us), .int (nI ln), .int (nI L), .int (nI (sp_a V r)), .int (nI x)], [.int (J' 44 5), .int (nI x)], ax_hC tl rtl J') (fun r' g' => r' = none ∧ ∃ G o', g' = ax_hC tl rtl G ∧ ct_R N V ((ct_nm (N 4) g r + 1) * (N 4 + 1) ^ (k + 1)) J G o') := by
            intro j
            induction j with
            | zero =>
              intro x hx J' o' hR
              have ex : x = N 4 := by omega
              refine bt rfl (by rw [hR.1 44 (by decide), hn4]; exact nI_le (by omega) (by omega)) ?_
              obtain ⟨G, o2, hc, hR2⟩ := IH (r + 1) (by omega) J' (gx x) o' (RC30_of (fun q hq => hR.1 q (by omega)) hr) (hext x (by omega)) (by
                  intro s hs hm
                  by_cases e : s = r
                  · rw [e, hat x] at hm
                    omega
                  · rw [hsame x s (by omega)] at hm ⊢
                    rw [ct_gt_cong (fun s' hs' => hsame x s' (by omega))]
                    exact hi s (by omega) hm) (by
                  intro y hy
                  rw [hR.2.2.1 y hy, h24 y hy, ct_gt, hat x, if_neg (by omega), ct_gt_cong (hsame x), Nat.add_zero]) (by
                  intro s hs
                  rw [hR.2.2.2.1 s hs, h25 s hs]
                  by_cases e : s = r
                  · rw [if_neg (by omega), if_pos (by omega), e, hat x, ex]
                    exact (if_neg (Nat.lt_irrefl _)).symm
                  · by_cases e2 : s < r
                    · rw [if_pos e2, if_pos (by omega), hsame x s e2]
                    · rw [if_neg e2, if_neg (by omega)]) hR.2.2.2.2.1 (by rw [hnm x]; exact hR.2.2.2.2.2)
              rw [nI_succ, ct_us, ct_ln, hat x, if_neg (by omega), if_neg (by omega), ct_us_cong (hsame x), ct_ln_cong (hsame x), hus, hln, Nat.add_zero, Nat.add_zero] at hc
              rw [hnm x, ex, show (ct_nm (N 4) g r * (N 4 + 1) + N 4 + 1) * (N 4 + 1) ^ k = (ct_nm (N 4) g r + 1) * (N 4 + 1) ^ (k + 1) by rw [Nat.pow_succ, Nat.mul_comm ((N 4 + 1) ^ k), ← Nat.mul_assoc, Nat.add_mul (ct_nm (N 4) g r) 1 (N 4 + 1), Nat.one_mul, Nat.add_assoc]] at hR2
              repeat refine bs rfl ?_
              refine bc rfl hc ?_
              repeat refine bs rfl ?_
              exact br rfl ⟨rfl, G, o2, rfl, ct_R_trans hR hR2⟩
            | succ j ih =>
              intro x hx J' o' hR
              have ih := ih (x + 1) (by omega)
              rw [nI_succ] at ih
              have hr' : RC 30 J' N V := RC30_of (fun q hq => hR.1 q (by omega)) hr
              have hx4 : x < N 4 := by omega
              have hbx := hb60 x hx4
              have hgx := hgtb x
              have e24 : J' 24 x = nI (sp_b V x) - nI (ct_gt (sp_a V) g x r) := by rw [hR.2.2.1 x hx4, h24 x hx4]
              refine bf rfl (by rw [hR.1 44 (by decide), hn4]; exact nI_ge (by omega) (by omega)) ?_
              repeat (first | refine bs rfl ?_ | refine bld rfl _ rfl (by omega) (by omega) ?_)
              refine bb rfl (fun c3 => ?_) (fun c3 => ?_)
              · rw [e24, i_le0 (by omega) (by omega)] at c3
                repeat refine bs rfl ?_
                refine ih J' o' ⟨hR.1, hR.2.1, hR.2.2.1, hR.2.2.2.1, hR.2.2.2.2.1, ct_P_skip (Nat.mul_le_mul_right _ (by omega)) ?_ hR.2.2.2.2.2⟩
                intro w w1 w2 wG
                have hw : w / (N 4 + 1) ^ (N 3 - (r + 1)) = ct_nm (N 4) (gx x) (r + 1) := by
                  refine ct_rg (k := k) ?_ ?_ (by omega)
                  · rw [hnm x]; exact w1
                  · rw [hnm x]; exact w2
                have e := fun s (hs : s < r + 1) => ct_dg_pre (show r + 1 ≤ N 3 by omega) (hext x (by omega)) hw hs
                have er := (e r (by omega)).trans (hat x)
                have := wG.2 r hrN (by rw [er]; exact hx4)
                rw [er, ct_gt_cong (fun s hs => (e s (by omega)).trans (hsame x s hs))] at this
                omega
              · rw [e24, i_le0 (by omega) (by omega)] at c3
                repeat (first | refine bs rfl ?_ | refine bld rfl _ rfl (by omega) (by omega) ?_)
                refine bsto rfl x rfl (by omega) (by omega) ?_
                repeat (first | refine bs rfl ?_ | refine bld rfl _ rfl (by omega) (by omega) ?_)
                refine bsto rfl r rfl (by omega) (by omega) ?_
                repeat refine bs rfl ?_
                obtain ⟨G, o2, hc, hR2⟩ := IH (r + 1) (by omega) (va_up (va_up J' 24 (upd (J' 24) x (J' 24 x - nI (sp_a V r)))) 25 (upd (J' 25) r (nI x))) (gx x) o' hr' (hext x (by omega)) (by
                    intro s hs hm
                    by_cases e : s = r
                    · rw [e, hat x, ct_gt_cong (hsame x)]
                      omega
                    · rw [hsame x s (by omega)] at hm ⊢
                      rw [ct_gt_cong (fun s' hs' => hsame x s' (by omega))]
                      exact hi s (by omega) hm) (by
                    intro y hy
                    show upd (J' 24) x (J' 24 x - nI (sp_a V r)) y = _
                    by_cases e : y = x
                    · rw [e, pk_us, e24, ct_gt, hat x, if_pos rfl, ct_gt_cong (hsame x), i_ss (by omega) (by omega) (by have := ha40 r hrN; omega)]
                    · rw [pk_un e, hR.2.2.1 y hy, h24 y hy, ct_gt, hat x, if_neg (fun q => e q.symm), ct_gt_cong (hsame x), Nat.add_zero]) (by
                    intro s hs
                    show upd (J' 25) r (nI x) s = _
                    by_cases e : s = r
                    · rw [e, pk_us, if_pos (by omega), hat x]
                      exact (if_pos hx4).symm
                    · rw [pk_un e, hR.2.2.2.1 s hs, h25 s hs]
                      by_cases e2 : s < r
                      · rw [if_pos e2, if_pos (by omega), hsame x s e2]
                      · rw [if_neg e2, if_neg (by omega)]) hR.2.2.2.2.1 (by rw [hnm x]; exact hR.2.2.2.2.2)
                rw [nI_succ, ct_us, ct_ln, hat x, if_pos hx4, if_pos hx4, ct_us_cong (hsame x), ct_ln_cong (hsame x), hus, hln, nI_succ us, ← nI_add] at hc
                rw [hnm x] at hR2
                refine bc rfl hc ?_
                repeat refine bs rfl ?_
                refine bsto rfl r rfl (by omega) (by omega) ?_
                repeat (first | refine bs rfl ?_ | refine bld rfl _ rfl (by omega) (by omega) ?_)
                refine bsto rfl x rfl (by omega) (by omega) ?_
                repeat refine bs rfl ?_
                refine ih _ o2 ⟨?_, ?_, ?_, ?_, hR2.2.2.2.2.1, hR2.2.2.2.2.2⟩
                · intro q hq
                  rw [va_up_ne _ _ (by omega), va_up_ne _ _ (by omega), hR2.1 q hq, va_up_ne _ _ (by omega), va_up_ne _ _ (by omega), hR.1 q hq]
                · exact hR2.2.1.trans hR.2.1
                · intro y hy
                  show upd (G 24) x (G 24 x + nI (sp_a V r)) y = _
                  by_cases e : y = x
                  · rw [e, pk_us, hR2.2.2.1 x hx4, ← hR.2.2.1 x hx4]
                    show upd (J' 24) x (J' 24 x - nI (sp_a V r)) x + nI (sp_a V r) = _
                    rw [pk_us, Int32.sub_add_cancel]
                  · rw [pk_un e, hR2.2.2.1 y hy, ← hR.2.2.1 y hy]
                    show upd (J' 24) x (J' 24 x - nI (sp_a V r)) y = _
                    rw [pk_un e]
                · intro s hs
                  show upd (G 25) r (-4) s = _
                  by_cases e : s = r
                  · rw [e, pk_us, h25 r hrN, if_neg (Nat.lt_irrefl _)]
                  · rw [pk_un e, hR2.2.2.2.1 s hs, ← hR.2.2.2.1 s hs]
                    show upd (J' 25) r (nI x) s = _
                    rw [pk_un e]
          have l0 := loop (N 4) 0 (Nat.zero_add _) J o (ct_R_refl hS (by rw [Nat.add_zero, Nat.mul_assoc, Nat.mul_comm (N 4 + 1), ← Nat.pow_succ]; exact hP))
          rw [← h45] at l0
          repeat (first | refine bs rfl ?_ | refine bld rfl _ rfl (by omega) (by omega) ?_)
          exact l0
        · repeat refine bs rfl ?_
          refine br rfl ⟨rfl, J, o, rfl, ct_R_refl hS (ct_P_skip hlh (hno ?_) hP)⟩
          apply Classical.byContradiction
          intro q
          exact c2 (nI_le (by omega) (by omega))
  iterate 2 refine bs rfl ?_
  cases o with
  | none =>
    have hS0 : J 23 4 = 0 := hS
    refine bt rfl hS0 ?_
    exact main (fun u hu => by cases hu)
  | some u =>
    have hS2 := hS
    obtain ⟨s1, s2, s3, s4⟩ : J 23 4 = 1 ∧ J 23 5 = nI (ct_us (N 4) (ct_dg (N 4) (N 3) u) (N 3)) ∧ J 23 6 = nI (ct_ln (N 4) (sp_a V) (ct_dg (N 4) (N 3) u) (N 3)) ∧ _ := hS2
    have b1 := ct_us_le (m := N 4) (g := ct_dg (N 4) (N 3) u) (N 3)
    have b2 := ct_ln_le (m := N 4) (g := ct_dg (N 4) (N 3) u) (a := sp_a V) (N 3) ha40
    have hKu : ct_K (N 4) (N 3) (sp_a V) u = ct_us (N 4) (ct_dg (N 4) (N 3) u) (N 3) * 1000 + ct_ln (N 4) (sp_a V) (ct_dg (N 4) (N 3) u) (N 3) := rfl
    have hdone : ct_K (N 4) (N 3) (sp_a V) u ≤ us * 1000 + ln → ct_R N V ((ct_nm (N 4) g r + 1) * (N 4 + 1) ^ k) J J (some u) := fun hle => ct_R_refl hS (ct_P_worse hlh (fun w w1 w2 _ => Nat.le_trans hle (hlow w w1 w2)) hP)
    generalize ct_us (N 4) (ct_dg (N 4) (N 3) u) (N 3) = us' at *
    generalize ct_ln (N 4) (sp_a V) (ct_dg (N 4) (N 3) u) (N 3) = ln' at *
    refine bf rfl (by rw [s1]; decide) ?_
    repeat refine bs rfl ?_
    rw [s2]
    refine bb rfl (fun c => ?_) (fun c => ?_)
    · have c := (nI_ltI (by omega) (by omega)).mp c
      repeat refine bs rfl ?_
      exact br rfl ⟨rfl, J, some u, rfl, hdone (by omega)⟩
    · have c : ¬ us' < us := fun q => c (nI_lt q (by omega))
      repeat refine bs rfl ?_
      rw [s2]
      refine bb rfl (fun c2 => ?_) (fun c2 => ?_)
      · have c2 := (nI_eq (by omega) (by omega)).mp c2
        repeat refine bs rfl ?_
        rw [s3]
        refine bb rfl (fun c3 => ?_) (fun c3 => ?_)
        · have c3 := (nI_ltI (by omega) (by omega)).mp c3
          exact main (fun u' hu' => by cases hu'; rw [hKu]; omega)
        · have c3 : ¬ ln < ln' := fun q => c3 (nI_lt q (by omega))
          repeat refine bs rfl ?_
          exact br rfl ⟨rfl, J, some u, rfl, hdone (by omega)⟩
      · have c2 : us ≠ us' := fun q => c2 (by rw [q])
        exact main (fun u' hu' => by cases hu'; rw [hKu]; omega)
theorem c_seekFrom (hok : sp_Ok N V) : ∀ k, ct_C E d tl rtl N V k
  | 0 => c_seekStep hok 0 (fun k' h => absurd h (by omega))
  | k + 1 => c_seekStep hok (k + 1) (fun k' h => by
    have : k' = k := by omega
    rw [this]
    exact c_seekFrom hok k)
end CS
