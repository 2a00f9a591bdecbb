/-! the best of many: numbers w with G w, the least K first, then the least w -/
def ct_P (G : Nat → Prop) (K : Nat → Nat) (hi : Nat) : Option Nat → Prop
  | none => ∀ w, w < hi → ¬ G w
  | some v => v < hi ∧ G v ∧ ∀ w, w < hi → G w → K v < K w ∨ (K v = K w ∧ v ≤ w)
section CTP
variable {G G' : Nat → Prop} {K : Nat → Nat} {lo hi : Nat}
theorem ct_P_un : ∀ {o o' : Option Nat}, ct_P G K hi o → ct_P G K hi o' → o = o'
  | none, none, _, _ => rfl
  | none, some v, h, h' => absurd h'.2.1 (h v h'.1)
  | some v, none, h, h' => absurd h.2.1 (h' v h.1)
  | some v, some v', h, h' => by
    have a := h.2.2 v' h'.1 h'.2.1
    have b := h'.2.2 v h.1 h.2.1
    have : v = v' := by omega
    rw [this]
theorem ct_P_skip (hl : lo ≤ hi) (hs : ∀ w, lo ≤ w → w < hi → ¬ G w) : ∀ {o : Option Nat}, ct_P G K lo o → ct_P G K hi o
  | none, h => fun w hw => if q : w < lo then h w q else hs w (by omega) hw
  | some v, h => ⟨by have := h.1; omega, h.2.1, fun w hw hg => if q : w < lo then h.2.2 w q hg else absurd hg (hs w (by omega) hw)⟩
theorem ct_P_worse {v : Nat} (hl : lo ≤ hi) (hs : ∀ w, lo ≤ w → w < hi → G w → K v ≤ K w) (h : ct_P G K lo (some v)) : ct_P G K hi (some v) :=
  ⟨by have := h.1; omega, h.2.1, fun w hw hg => if q : w < lo then h.2.2 w q hg else by
    have a := hs w (by omega) hw hg
    have b := h.1
    omega⟩
theorem ct_P_take {v : Nat} (hv1 : lo ≤ v) (hv : v < hi) (hg : G v) (hs : ∀ w, lo ≤ w → w < hi → G w → K v < K w ∨ (K v = K w ∧ v ≤ w)) : ∀ {o : Option Nat}, ct_P G K lo o → (∀ u, o = some u → K v < K u) → ct_P G K hi (some v)
  | none, h, _ => ⟨hv, hg, fun w hw hw' => if q : w < lo then absurd hw' (h w q) else hs w (by omega) hw hw'⟩
  | some u, h, hk => ⟨hv, hg, fun w hw hw' => if q : w < lo then by
      have a := h.2.2 w q hw'
      have b := hk u rfl
      omega
    else hs w (by omega) hw hw'⟩
theorem ct_P_more (hgg : ∀ w, G w → G' w) (hs : ∀ w, w < hi → G' w → ¬ G w → ∃ w', w' < hi ∧ G' w' ∧ K w' < K w) : ∀ {o : Option Nat}, ct_P G K hi o → ct_P G' K hi o := by
  have H : ∀ k w, K w ≤ k → w < hi → G' w → ∃ w', w' < hi ∧ G w' ∧ (w' = w ∨ K w' < K w) := by
    intro k
    induction k with
    | zero =>
      intro w hk hw hg
      by_cases q : G w
      · exact ⟨w, hw, q, Or.inl rfl⟩
      · obtain ⟨w', a, b, c⟩ := hs w hw hg q
        omega
    | succ k ih =>
      intro w hk hw hg
      by_cases q : G w
      · exact ⟨w, hw, q, Or.inl rfl⟩
      · obtain ⟨w', a, b, c⟩ := hs w hw hg q
        obtain ⟨w2, a2, b2, c2⟩ := ih w' (by omega) a b
        refine ⟨w2, a2, b2, Or.inr ?_⟩
        rcases c2 with c2 | c2
        · rw [c2]; exact c
        · omega
  intro o
  cases o with
  | none =>
    intro h w hw hg
    obtain ⟨w', a, b, -⟩ := H (K w) w (Nat.le_refl _) hw hg
    exact h w' a b
  | some v =>
    intro h
    refine ⟨h.1, hgg v h.2.1, fun w hw hg => ?_⟩
    obtain ⟨w', a, b, c⟩ := H (K w) w (Nat.le_refl _) hw hg
    have := h.2.2 w' a b
    rcases c with c | c
    · rw [← c]; exact this
    · omega
end CTP
/-! cutting: a way is a number, its digits say where each remnant goes (m: nowhere) -/
def ct_dg (m n w r : Nat) : Nat := w / (m + 1) ^ (n - 1 - r) % (m + 1)
def ct_nm (m : Nat) (g : Nat → Nat) : Nat → Nat
  | 0 => 0
  | r + 1 => ct_nm m g r * (m + 1) + g r
def ct_us (m : Nat) (g : Nat → Nat) : Nat → Nat
  | 0 => 0
  | r + 1 => ct_us m g r + (if g r < m then 1 else 0)
def ct_ln (m : Nat) (a g : Nat → Nat) : Nat → Nat
  | 0 => 0
  | r + 1 => ct_ln m a g r + (if g r < m then a r else 0)
def ct_gt (a g : Nat → Nat) (o : Nat) : Nat → Nat
  | 0 => 0
  | r + 1 => ct_gt a g o r + (if g r = o then a r else 0)
def ct_sm (f : Nat → Nat) : Nat → Nat
  | 0 => 0
  | n + 1 => ct_sm f n + f n
def ct_fl (m n : Nat) (a b g : Nat → Nat) : Prop := ∀ o, o < m → b o ≤ ct_gt a g o n
def ct_ir (m : Nat) (a b g : Nat → Nat) (r : Nat) : Prop := ∀ s, s < r → g s < m → ct_gt a g (g s) s < b (g s)
def ct_G (m n : Nat) (a b : Nat → Nat) (w : Nat) : Prop := ct_fl m n a b (ct_dg m n w) ∧ ct_ir m a b (ct_dg m n w) n
def ct_K (m n : Nat) (a : Nat → Nat) (w : Nat) : Nat := ct_us m (ct_dg m n w) n * 1000 + ct_ln m a (ct_dg m n w) n
section CTD
variable {m n r : Nat} {a b g h : Nat → Nat}
theorem ct_dg_le (m n w r : Nat) : ct_dg m n w r ≤ m := by
  have := Nat.mod_lt (w / (m + 1) ^ (n - 1 - r)) (show 0 < m + 1 by omega)
  unfold ct_dg
  omega
theorem ct_nm_div (hg : ∀ s, s < r → g s ≤ m) : ∀ j, j ≤ r → ct_nm m g r / (m + 1) ^ j = ct_nm m g (r - j) := by
  intro j
  induction j with
  | zero => intro _; rw [Nat.pow_zero, Nat.div_one, Nat.sub_zero]
  | succ j ih =>
    intro hj
    rw [Nat.pow_succ, ← Nat.div_div_eq_div_mul, ih (by omega)]
    obtain ⟨s, hs⟩ : ∃ s, r - j = s + 1 := ⟨r - j - 1, by omega⟩
    rw [hs, show r - (j + 1) = s by omega, ct_nm]
    have := hg s (by omega)
    rw [Nat.mul_comm, Nat.mul_add_div (by omega), Nat.div_eq_of_lt (by omega), Nat.add_zero]
theorem ct_dg_pre (hr : r ≤ n) (hg : ∀ s, s < r → g s ≤ m) {w : Nat} (hw : w / (m + 1) ^ (n - r) = ct_nm m g r) {s : Nat} (hs : s < r) : ct_dg m n w s = g s := by
  unfold ct_dg
  rw [show n - 1 - s = (n - r) + (r - 1 - s) by omega, Nat.pow_add, ← Nat.div_div_eq_div_mul, hw, ct_nm_div hg _ (by omega), show r - (r - 1 - s) = s + 1 by omega, ct_nm, Nat.mul_add_mod', Nat.mod_eq_of_lt]
  have := hg s hs
  omega
theorem ct_nm_dg {w : Nat} (hw : w < (m + 1) ^ n) : ∀ r, r ≤ n → ct_nm m (ct_dg m n w) r = w / (m + 1) ^ (n - r) := by
  intro r
  induction r with
  | zero => intro _; rw [ct_nm, Nat.sub_zero, Nat.div_eq_of_lt hw]
  | succ r ih =>
    intro hr
    rw [ct_nm, ih (by omega)]
    unfold ct_dg
    rw [show n - r = (n - (r + 1)) + 1 by omega, Nat.pow_succ, ← Nat.div_div_eq_div_mul, show n - 1 - r = n - (r + 1) by omega]
    exact Nat.div_add_mod' _ _
theorem ct_nm_lt : ∀ {r : Nat}, (∀ s, s < r → g s ≤ m) → ct_nm m g r < (m + 1) ^ r
  | 0, _ => by rw [ct_nm]; exact Nat.zero_lt_one
  | r + 1, hg => by
    have a := ct_nm_lt (r := r) (fun s hs => hg s (by omega))
    have b := hg r (by omega)
    rw [ct_nm, Nat.pow_succ]
    calc ct_nm m g r * (m + 1) + g r < ct_nm m g r * (m + 1) + (m + 1) := by omega
      _ = (ct_nm m g r + 1) * (m + 1) := by rw [Nat.add_mul, Nat.one_mul]
      _ ≤ (m + 1) ^ r * (m + 1) := Nat.mul_le_mul_right _ a
theorem ct_dg_nm (hg : ∀ s, s < n → g s ≤ m) {s : Nat} (hs : s < n) : ct_dg m n (ct_nm m g n) s = g s :=
  ct_dg_pre (Nat.le_refl _) hg (by rw [Nat.sub_self, Nat.pow_zero, Nat.div_one]) hs
theorem ct_nm_cong : ∀ {r : Nat}, (∀ s, s < r → g s = h s) → ct_nm m g r = ct_nm m h r
  | 0, _ => rfl
  | r + 1, e => by rw [ct_nm, ct_nm, ct_nm_cong (fun s hs => e s (by omega)), e r (by omega)]
theorem ct_us_cong : ∀ {r : Nat}, (∀ s, s < r → g s = h s) → ct_us m g r = ct_us m h r
  | 0, _ => rfl
  | r + 1, e => by rw [ct_us, ct_us, ct_us_cong (fun s hs => e s (by omega)), e r (by omega)]
theorem ct_ln_cong : ∀ {r : Nat}, (∀ s, s < r → g s = h s) → ct_ln m a g r = ct_ln m a h r
  | 0, _ => rfl
  | r + 1, e => by rw [ct_ln, ct_ln, ct_ln_cong (fun s hs => e s (by omega)), e r (by omega)]
theorem ct_gt_cong {o : Nat} : ∀ {r : Nat}, (∀ s, s < r → g s = h s) → ct_gt a g o r = ct_gt a h o r
  | 0, _ => rfl
  | r + 1, e => by rw [ct_gt, ct_gt, ct_gt_cong (fun s hs => e s (by omega)), e r (by omega)]
theorem ct_gt_mono {o : Nat} : ∀ k, ct_gt a g o r ≤ ct_gt a g o (r + k)
  | 0 => Nat.le_refl _
  | k + 1 => by rw [← Nat.add_assoc, ct_gt]; have := ct_gt_mono (o := o) k; omega
theorem ct_us_mono : ∀ k, ct_us m g r ≤ ct_us m g (r + k)
  | 0 => Nat.le_refl _
  | k + 1 => by rw [← Nat.add_assoc, ct_us]; have := ct_us_mono k; omega
theorem ct_ln_mono : ∀ k, ct_ln m a g r ≤ ct_ln m a g (r + k)
  | 0 => Nat.le_refl _
  | k + 1 => by rw [← Nat.add_assoc, ct_ln]; have := ct_ln_mono k; omega
theorem ct_us_le : ∀ r, ct_us m g r ≤ r
  | 0 => Nat.le_refl _
  | r + 1 => by rw [ct_us]; have := ct_us_le r; split <;> omega
theorem ct_ln_le : ∀ r, (∀ s, s < r → a s ≤ 40) → ct_ln m a g r ≤ 40 * r
  | 0, _ => Nat.le_refl _
  | r + 1, ha => by
    rw [ct_ln]
    have := ct_ln_le r (fun s hs => ha s (by omega))
    have := ha r (by omega)
    split <;> omega
theorem ct_gt_le {o : Nat} : ∀ r, (∀ s, s < r → a s ≤ 40) → ct_gt a g o r ≤ 40 * r
  | 0, _ => Nat.le_refl _
  | r + 1, ha => by
    rw [ct_gt]
    have := ct_gt_le (o := o) r (fun s hs => ha s (by omega))
    have := ha r (by omega)
    split <;> omega
/-- unused from r on -/
theorem ct_us_un (e : ∀ s, r ≤ s → g s = m) : ∀ k, ct_us m g (r + k) = ct_us m g r
  | 0 => rfl
  | k + 1 => by rw [← Nat.add_assoc, ct_us, ct_us_un e k, e (r + k) (by omega), if_neg (by omega), Nat.add_zero]
theorem ct_ln_un (e : ∀ s, r ≤ s → g s = m) : ∀ k, ct_ln m a g (r + k) = ct_ln m a g r
  | 0 => rfl
  | k + 1 => by rw [← Nat.add_assoc, ct_ln, ct_ln_un e k, e (r + k) (by omega), if_neg (by omega), Nat.add_zero]
/-- one remnant is left unused -/
theorem ct_us_rm {q : Nat} (hq : g q < m) (hh : h = fun x => if x = q then m else g x) : ∀ r, ct_us m h r + (if q < r then 1 else 0) = ct_us m g r
  | 0 => by rw [if_neg (by omega)]; rfl
  | r + 1 => by
    have ih := ct_us_rm hq hh r
    rw [ct_us, ct_us, ← ih]
    by_cases e : r = q
    · subst e
      rw [show h r = m by rw [hh]; exact if_pos rfl, if_neg (Nat.lt_irrefl m), if_neg (Nat.lt_irrefl r), if_pos (Nat.lt_succ_self r), if_pos hq]
    · rw [show h r = g r by rw [hh]; exact if_neg e]
      by_cases e2 : q < r
      · rw [if_pos e2, if_pos (show q < r + 1 by omega)]; omega
      · rw [if_neg e2, if_neg (show ¬ q < r + 1 by omega)]; omega
theorem ct_ln_rm {q : Nat} (hh : h = fun x => if x = q then m else g x) : ∀ r, ct_ln m a h r ≤ ct_ln m a g r
  | 0 => Nat.le_refl _
  | r + 1 => by
    have ih := ct_ln_rm hh r
    rw [ct_ln, ct_ln]
    by_cases e : r = q
    · subst e
      rw [show h r = m by rw [hh]; exact if_pos rfl, if_neg (Nat.lt_irrefl m)]
      omega
    · rw [show h r = g r by rw [hh]; exact if_neg e]
      omega
theorem ct_gt_rm {q o : Nat} (ho : o < m) (hne : g q ≠ o) (hh : h = fun x => if x = q then m else g x) : ∀ r, ct_gt a h o r = ct_gt a g o r
  | 0 => rfl
  | r + 1 => by
    rw [ct_gt, ct_gt, ct_gt_rm ho hne hh r]
    by_cases e : r = q
    · subst e
      rw [show h r = m by rw [hh]; exact if_pos rfl, if_neg (by omega), if_neg hne]
    · rw [show h r = g r by rw [hh]; exact if_neg e]
theorem ct_fl_cong (e : ∀ s, s < n → g s = h s) (hf : ct_fl m n a b g) : ct_fl m n a b h := fun o ho => by
  rw [← ct_gt_cong (a := a) (o := o) e]
  exact hf o ho
theorem ct_ir_cong (e : ∀ s, s < r → g s = h s) (hf : ct_ir m a b g r) : ct_ir m a b h r := fun s hs hm => by
  rw [← e s hs] at hm ⊢
  rw [← ct_gt_cong (a := a) (o := g s) (fun s' hs' => e s' (by omega))]
  exact hf s hs hm
/-- a remnant given to an order that lacks nothing: without it a better way -/
theorem ct_better {w : Nat} (hw : w < (m + 1) ^ n) (hf : ct_fl m n a b (ct_dg m n w)) (hi : ¬ ct_G m n a b w) : ∃ w', w' < (m + 1) ^ n ∧ ct_fl m n a b (ct_dg m n w') ∧ ct_K m n a w' < ct_K m n a w := by
  have hi : ¬ ct_ir m a b (ct_dg m n w) n := fun q => hi ⟨hf, q⟩
  obtain ⟨q, hq, hqm, hqb⟩ : ∃ q, q < n ∧ ct_dg m n w q < m ∧ b (ct_dg m n w q) ≤ ct_gt a (ct_dg m n w) (ct_dg m n w q) q := by
    apply Classical.byContradiction
    intro hc
    refine hi (fun s hs hm => ?_)
    apply Classical.byContradiction
    intro hc2
    exact hc ⟨s, hs, hm, by omega⟩
  generalize hgw : ct_dg m n w = g at *
  have hg : ∀ s, g s ≤ m := fun s => by rw [← hgw]; exact ct_dg_le m n w s
  obtain ⟨h, hh⟩ : ∃ h : Nat → Nat, h = fun x => if x = q then m else g x := ⟨_, rfl⟩
  have hhm : ∀ s, s < n → h s ≤ m := fun s _ => by
    rw [hh]
    show (if s = q then m else g s) ≤ m
    split
    · exact Nat.le_refl _
    · exact hg s
  have he : ∀ s, s < n → h s = ct_dg m n (ct_nm m h n) s := fun s hs => (ct_dg_nm hhm hs).symm
  refine ⟨ct_nm m h n, ct_nm_lt hhm, ct_fl_cong he ?_, ?_⟩
  · intro o ho
    by_cases e : g q = o
    · have a1 := ct_gt_mono (a := a) (g := h) (o := o) (r := q) (n - q)
      rw [show q + (n - q) = n by omega] at a1
      have a2 : ct_gt a h o q = ct_gt a g o q := ct_gt_cong (fun s hs => by rw [hh]; exact if_neg (by omega))
      rw [e] at hqb
      omega
    · rw [ct_gt_rm ho e hh]
      exact hf o ho
  · unfold ct_K
    rw [ct_us_cong (fun s hs => (he s hs).symm), ct_ln_cong (fun s hs => (he s hs).symm), hgw]
    have a1 := ct_us_rm hqm hh n
    have a2 := ct_ln_rm (a := a) hh n
    rw [if_pos hq] at a1
    omega
theorem ct_sm_le {f f' : Nat → Nat} : ∀ {n : Nat}, (∀ o, o < n → f o ≤ f' o) → ct_sm f n ≤ ct_sm f' n
  | 0, _ => Nat.le_refl _
  | n + 1, e => by
    rw [ct_sm, ct_sm]
    have := ct_sm_le (fun o ho => e o (Nat.lt_succ_of_lt ho))
    have := e n (by omega)
    omega
theorem ct_sm_add (f f' : Nat → Nat) : ∀ n : Nat, ct_sm (fun o => f o + f' o) n = ct_sm f n + ct_sm f' n
  | 0 => rfl
  | n + 1 => by rw [ct_sm, ct_sm, ct_sm, ct_sm_add f f' n]; omega
theorem ct_sm_one (f : Nat → Nat) (x c : Nat) : ∀ n : Nat, ct_sm (fun o => f o + (if x = o then c else 0)) n ≤ ct_sm f n + (if x < n then c else 0)
  | 0 => Nat.le_refl _
  | n + 1 => by
    have ih := ct_sm_one f x c n
    rw [ct_sm, ct_sm]
    by_cases e : x = n
    · rw [if_pos e, if_pos (by omega)]
      rw [if_neg (by omega)] at ih
      omega
    · rw [if_neg e]
      by_cases e2 : x < n
      · rw [if_pos e2] at ih
        rw [if_pos (by omega)]
        omega
      · rw [if_neg e2] at ih
        rw [if_neg (by omega)]
        omega
theorem ct_sm_gt : ∀ j, ct_sm (fun o => ct_gt a g o (r + j)) m ≤ ct_sm (fun o => ct_gt a g o r) m + ct_sm (fun i => a (r + i)) j
  | 0 => Nat.le_refl _
  | j + 1 => by
    have ih := ct_sm_gt j
    have h1 := ct_sm_one (fun o => ct_gt a g o (r + j)) (g (r + j)) (a (r + j)) m
    have h2 : ct_sm (fun o => ct_gt a g o (r + (j + 1))) m = ct_sm (fun o => ct_gt a g o (r + j) + (if g (r + j) = o then a (r + j) else 0)) m := rfl
    rw [h2, ct_sm]
    have h3 : (if g (r + j) < m then a (r + j) else 0) ≤ a (r + j) := by split <;> omega
    omega
/-- too little is left -/
theorem ct_lack (hr : r ≤ n) (e : ∀ s, s < r → h s = g s) (hf : ct_fl m n a b h) : ct_sm (fun o => b o - ct_gt a g o r) m ≤ ct_sm (fun i => a (r + i)) (n - r) := by
  have h1 := ct_sm_gt (r := r) (a := a) (g := h) (m := m) (n - r)
  rw [show r + (n - r) = n by omega] at h1
  have h2 : ct_sm (fun o => (b o - ct_gt a g o r) + ct_gt a h o r) m ≤ ct_sm (fun o => ct_gt a h o n) m := ct_sm_le (fun o ho => by
    have a1 := hf o ho
    have a2 := ct_gt_mono (a := a) (g := h) (o := o) (r := r) (n - r)
    rw [show r + (n - r) = n by omega] at a2
    have a3 : ct_gt a h o r = ct_gt a g o r := ct_gt_cong e
    show b o - ct_gt a g o r + ct_gt a h o r ≤ ct_gt a h o n
    omega)
  rw [ct_sm_add] at h2
  omega
theorem ct_sm_0 {f : Nat → Nat} : ∀ {n : Nat}, ct_sm f n = 0 → ∀ o, o < n → f o = 0
  | 0, _, o, ho => absurd ho (by omega)
  | n + 1, e, o, ho => by
    rw [ct_sm] at e
    by_cases q : o = n
    · rw [q]; omega
    · exact ct_sm_0 (n := n) (by omega) o (by omega)
/-- the ways that begin as g does -/
theorem ct_rg {k w : Nat} (h1 : ct_nm m g r * (m + 1) ^ k ≤ w) (h2 : w < (ct_nm m g r + 1) * (m + 1) ^ k) (hk : r + k = n) : w / (m + 1) ^ (n - r) = ct_nm m g r := by
  rw [show n - r = k by omega]
  exact Nat.div_eq_of_lt_le h1 h2
/-- nothing lacks: the way that leaves all others unused -/
theorem ct_full {k : Nat} (hk : r + k = n) (hg : ∀ s, s < r → g s ≤ m) (hi : ct_ir m a b g r) (hl : ∀ o, o < m → b o ≤ ct_gt a g o r) : ∃ v, (ct_nm m g r * (m + 1) ^ k ≤ v ∧ v < (ct_nm m g r + 1) * (m + 1) ^ k) ∧ ct_G m n a b v ∧ (∀ w, ct_nm m g r * (m + 1) ^ k ≤ w → w < (ct_nm m g r + 1) * (m + 1) ^ k → ct_G m n a b w → w = v) ∧ (∀ s, s < r → ct_dg m n v s = g s) ∧ (∀ s, r ≤ s → s < n → ct_dg m n v s = m) ∧ ct_us m (ct_dg m n v) n = ct_us m g r ∧ ct_ln m a (ct_dg m n v) n = ct_ln m a g r := by
  obtain ⟨h, hh⟩ : ∃ h : Nat → Nat, h = fun x => if x < r then g x else m := ⟨_, rfl⟩
  have h1 : ∀ s, s < r → h s = g s := fun s hs => by rw [hh]; exact if_pos hs
  have h2 : ∀ s, r ≤ s → h s = m := fun s hs => by rw [hh]; exact if_neg (by omega)
  have hhm : ∀ s, h s ≤ m := fun s => by
    by_cases q : s < r
    · rw [h1 s q]; exact hg s q
    · rw [h2 s (by omega)]; exact Nat.le_refl _
  have he : ∀ s, s < n → ct_dg m n (ct_nm m h n) s = h s := fun s hs => ct_dg_nm (fun s _ => hhm s) hs
  have hd := ct_nm_div (m := m) (g := h) (r := n) (fun s _ => hhm s) k (by omega)
  rw [show n - k = r by omega, ct_nm_cong h1] at hd
  have hB : 0 < (m + 1) ^ k := Nat.pow_pos (by omega)
  have hlo : ct_nm m g r * (m + 1) ^ k ≤ ct_nm m h n := by rw [← hd]; exact Nat.div_mul_le_self _ _
  have hup : ct_nm m h n < (ct_nm m g r + 1) * (m + 1) ^ k := by rw [← hd, Nat.mul_comm]; exact Nat.lt_mul_div_succ _ hB
  refine ⟨ct_nm m h n, ⟨hlo, hup⟩, ⟨ct_fl_cong (fun s hs => (he s hs).symm) ?_, ct_ir_cong (fun s hs => (he s hs).symm) ?_⟩, ?_, ?_, ?_, ?_, ?_⟩
  · intro o ho
    have a1 := ct_gt_mono (a := a) (g := h) (o := o) (r := r) (n - r)
    rw [show r + (n - r) = n by omega, ct_gt_cong h1] at a1
    exact Nat.le_trans (hl o ho) a1
  · intro s hs hm
    by_cases q : s < r
    · rw [h1 s q] at hm ⊢
      rw [ct_gt_cong (fun s' hs' => h1 s' (by omega))]
      exact hi s q hm
    · rw [h2 s (by omega)] at hm
      omega
  · intro w w1 w2 wg
    have hw := ct_rg w1 w2 hk
    have hp : ∀ s, s < r → ct_dg m n w s = g s := fun s hs => ct_dg_pre (by omega) hg hw hs
    have hall : ∀ s, s < n → ct_dg m n w s = h s := by
      intro s hs
      by_cases q : s < r
      · rw [hp s q, h1 s q]
      · rw [h2 s (by omega)]
        apply Classical.byContradiction
        intro hne
        have hlt : ct_dg m n w s < m := by have := ct_dg_le m n w s; omega
        have a1 := wg.2 s hs hlt
        have a2 := ct_gt_mono (a := a) (g := ct_dg m n w) (o := ct_dg m n w s) (r := r) (s - r)
        rw [show r + (s - r) = s by omega, ct_gt_cong hp] at a2
        have a3 := hl _ hlt
        omega
    have hwn : w < (m + 1) ^ n := by
      have a1 := ct_nm_lt (m := m) (g := g) (r := r) hg
      refine Nat.lt_of_lt_of_le w2 ?_
      rw [← hk, Nat.pow_add]
      exact Nat.mul_le_mul_right _ a1
    have e1 := ct_nm_dg hwn n (Nat.le_refl _)
    rw [Nat.sub_self, Nat.pow_zero, Nat.div_one] at e1
    rw [← e1]
    exact ct_nm_cong hall
  · intro s hs
    rw [he s (by omega), h1 s hs]
  · intro s hs hs'
    rw [he s hs', h2 s hs]
  · rw [ct_us_cong he, ← hk, ct_us_un h2, ct_us_cong h1]
  · rw [ct_ln_cong he, ← hk, ct_ln_un h2, ct_ln_cong h1]
end CTD
