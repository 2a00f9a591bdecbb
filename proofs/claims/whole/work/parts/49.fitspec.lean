/-! fittings: a row of them is told by a number -/
def ft_fc : Nat → Nat
  | 0 => 1
  | k + 1 => (k + 1) * ft_fc k
/-- the place of the free one that is reached when some are passed over -/
def ft_sk (s : Nat) : Nat → Nat → Nat → Nat
  | 0, _, f => f
  | j + 1, q, f => if s.testBit f = true then ft_sk s j q (f + 1) else if q = 0 then f else ft_sk s j (q - 1) (f + 1)
/-- how many are free among the first f -/
def ft_un (s : Nat) : Nat → Nat
  | 0 => 0
  | f + 1 => ft_un s f + (if s.testBit f = true then 0 else 1)
def ft_st (n c : Nat) : Nat → Nat × Nat
  | 0 => (c, 0)
  | k + 1 => ((ft_st n c k).1 % ft_fc (n - 1 - k), (ft_st n c k).2 ||| 1 <<< ft_sk (ft_st n c k).2 6 ((ft_st n c k).1 / ft_fc (n - 1 - k)) 0)
def ft_row (n c k : Nat) : Nat := ft_sk (ft_st n c k).2 6 ((ft_st n c k).1 / ft_fc (n - 1 - k)) 0
def ft_ck (tt g : Nat → Nat) : Nat → Nat
  | 0 => 0
  | k + 1 => ft_ck tt g k + tt (g k)
def ft_lt (tt dd g : Nat → Nat) : Nat → Nat
  | 0 => 0
  | k + 1 => ft_lt tt dd g k + (if dd (g k) < ft_ck tt g (k + 1) then 1 else 0)
def ft_hr (tt dd g : Nat → Nat) : Nat → Nat
  | 0 => 0
  | k + 1 => ft_hr tt dd g k + (ft_ck tt g (k + 1) - dd (g k))
def ft_K (n : Nat) (tt dd : Nat → Nat) (c : Nat) : Nat := ft_lt tt dd (ft_row n c) n * 1000 + ft_hr tt dd (ft_row n c) n
theorem ft_fin1 : ∀ s : Fin 64, ∀ f : Fin 6, s.val.testBit f.val = false → ft_sk s.val 6 (ft_un s.val f.val) 0 = f.val := by decide +kernel
theorem ft_fin2 : ∀ s : Fin 64, ∀ f : Fin 6, s.val ||| 1 <<< f.val < 64 := by decide +kernel
theorem ft_fin3 : ∀ s : Fin 64, ∀ f : Fin 6, ∀ n : Fin 7, s.val.testBit f.val = false → f.val < n.val → ft_un (s.val ||| 1 <<< f.val) n.val + 1 = ft_un s.val n.val := by decide +kernel
theorem ft_fin4 : ∀ s : Fin 64, ∀ n : Fin 7, ∀ q : Fin 7, q.val < ft_un s.val n.val → ft_sk s.val 6 q.val 0 < n.val ∧ s.val.testBit (ft_sk s.val 6 q.val 0) = false := by decide +kernel
theorem ft_fin5 : ∀ s : Fin 64, ∀ f : Fin 6, ((nI s.val >>> (nI f.val &&& 31)) &&& 1 = 0 ↔ s.val.testBit f.val = false) ∧ nI s.val ||| (1 <<< (nI f.val &&& 31)) = nI (s.val ||| 1 <<< f.val) := by decide +kernel
theorem ft_fin6 : ∀ n : Fin 7, ft_un 0 n.val = n.val ∧ ft_fc n.val ≤ 720 ∧ (if 1 < nI n.val then nI n.val else 1) = nI (max n.val 1) ∧ (if 0 < nI n.val - 1 then nI n.val - 1 else 0) = nI (max n.val 1) - 1 := by decide +kernel
section FT
variable {n : Nat} {tt dd g h : Nat → Nat}
theorem ft_fc_pos : ∀ k, 0 < ft_fc k
  | 0 => Nat.zero_lt_one
  | k + 1 => Nat.mul_pos (Nat.succ_pos _) (ft_fc_pos k)
theorem ft_ck_cong : ∀ {r : Nat}, (∀ s, s < r → g s = h s) → ft_ck tt g r = ft_ck tt h r
  | 0, _ => rfl
  | r + 1, e => by rw [ft_ck, ft_ck, ft_ck_cong (fun s hs => e s (by omega)), e r (by omega)]
theorem ft_lt_cong : ∀ {r : Nat}, (∀ s, s < r → g s = h s) → ft_lt tt dd g r = ft_lt tt dd h r
  | 0, _ => rfl
  | r + 1, e => by rw [ft_lt, ft_lt, ft_lt_cong (fun s hs => e s (by omega)), ft_ck_cong (fun s hs => e s hs), e r (by omega)]
theorem ft_hr_cong : ∀ {r : Nat}, (∀ s, s < r → g s = h s) → ft_hr tt dd g r = ft_hr tt dd h r
  | 0, _ => rfl
  | r + 1, e => by rw [ft_hr, ft_hr, ft_hr_cong (fun s hs => e s (by omega)), ft_ck_cong (fun s hs => e s hs), e r (by omega)]
theorem ft_lt_mono {r : Nat} : ∀ k, ft_lt tt dd g r ≤ ft_lt tt dd g (r + k)
  | 0 => Nat.le_refl _
  | k + 1 => by rw [← Nat.add_assoc, ft_lt]; have := ft_lt_mono (r := r) k; omega
theorem ft_hr_mono {r : Nat} : ∀ k, ft_hr tt dd g r ≤ ft_hr tt dd g (r + k)
  | 0 => Nat.le_refl _
  | k + 1 => by rw [← Nat.add_assoc, ft_hr]; have := ft_hr_mono (r := r) k; omega
theorem ft_ck_le : ∀ k, (∀ s, s < k → tt (g s) ≤ 9) → ft_ck tt g k ≤ 9 * k
  | 0, _ => Nat.le_refl _
  | k + 1, ht => by
    rw [ft_ck]
    have := ft_ck_le k (fun s hs => ht s (by omega))
    have := ht k (by omega)
    omega
theorem ft_lt_le : ∀ k, ft_lt tt dd g k ≤ k
  | 0 => Nat.le_refl _
  | k + 1 => by rw [ft_lt]; have := ft_lt_le k; split <;> omega
theorem ft_hr_le : ∀ k, k ≤ 6 → (∀ s, s < k → tt (g s) ≤ 9) → ft_hr tt dd g k ≤ 54 * k
  | 0, _, _ => Nat.le_refl _
  | k + 1, hk, ht => by
    rw [ft_hr]
    have := ft_hr_le k (by omega) (fun s hs => ht s (by omega))
    have := ft_ck_le (tt := tt) (g := g) (k + 1) ht
    omega
/-- what holds of the state after k choices -/
theorem ft_inv (h6 : n ≤ 6) {c : Nat} (hc : c < ft_fc n) : ∀ k, k ≤ n → (ft_st n c k).1 < ft_fc (n - k) ∧ (ft_st n c k).2 < 64 ∧ ft_un (ft_st n c k).2 n = n - k
  | 0, _ => ⟨hc, by show 0 < 64; omega, by rw [Nat.sub_zero]; exact (ft_fin6 ⟨n, by omega⟩).1⟩
  | k + 1, hk => by
    obtain ⟨i1, i2, i3⟩ := ft_inv h6 hc k (by omega)
    rw [ft_st]
    have e : n - k = (n - (k + 1)) + 1 := by omega
    have e2 : n - 1 - k = n - (k + 1) := by omega
    rw [e, ft_fc] at i1
    rw [e2]
    generalize (ft_st n c k).1 = x at *
    generalize (ft_st n c k).2 = s at *
    have hp := ft_fc_pos (n - (k + 1))
    have hq : x / ft_fc (n - (k + 1)) < ft_un s n := by
      rw [i3, e]
      exact Nat.div_lt_of_lt_mul (by rw [Nat.mul_comm]; exact i1)
    obtain ⟨f1, f2⟩ := ft_fin4 ⟨s, i2⟩ ⟨n, by omega⟩ ⟨x / ft_fc (n - (k + 1)), by omega⟩ hq
    refine ⟨Nat.mod_lt _ hp, ft_fin2 ⟨s, i2⟩ ⟨_, Nat.lt_of_lt_of_le f1 h6⟩, ?_⟩
    have := ft_fin3 ⟨s, i2⟩ ⟨_, Nat.lt_of_lt_of_le f1 h6⟩ ⟨n, by omega⟩ f2 f1
    have h3 : ft_un (s ||| 1 <<< ft_sk s 6 (x / ft_fc (n - (k + 1))) 0) n + 1 = ft_un s n := this
    show ft_un (s ||| 1 <<< ft_sk s 6 (x / ft_fc (n - (k + 1))) 0) n = n - (k + 1)
    omega
theorem ft_row_lt (h6 : n ≤ 6) {c : Nat} (hc : c < ft_fc n) {k : Nat} (hk : k < n) : ft_row n c k < n := by
  obtain ⟨i1, i2, i3⟩ := ft_inv h6 hc k (by omega)
  have e : n - k = (n - 1 - k) + 1 := by omega
  rw [e, ft_fc] at i1
  unfold ft_row
  generalize (ft_st n c k).1 = x at *
  generalize (ft_st n c k).2 = s at *
  have hq : x / ft_fc (n - 1 - k) < ft_un s n := by
    rw [i3, e]
    exact Nat.div_lt_of_lt_mul (by rw [Nat.mul_comm]; exact i1)
  exact (ft_fin4 ⟨s, i2⟩ ⟨n, by omega⟩ ⟨x / ft_fc (n - 1 - k), by omega⟩ hq).1
/-- the numbers of a node: its choices so far -/
def ft_N (n : Nat) (g : Nat → Nat) (k s lo m : Nat) : Prop := ∀ c, lo ≤ c → c < lo + m → ft_st n c k = (c - lo, s) ∧ ∀ i, i < k → ft_row n c i = g i
theorem ft_N_child (h6 : n ≤ 6) {k s lo f : Nat} (hk : k < n) (hs : s < 64) (hf : f < n) (hb : s.testBit f = false) (hN : ft_N n g k s lo (ft_fc (n - k))) (hu : ft_un s n = n - k) (hh : ∀ i, i < k → h i = g i) (hhk : h k = f) (huf : ft_un s f < ft_un s n) : ft_N n h (k + 1) (s ||| 1 <<< f) (lo + ft_un s f * ft_fc (n - (k + 1))) (ft_fc (n - (k + 1))) := by
  intro c c1 c2
  have e : n - k = (n - (k + 1)) + 1 := by omega
  have e2 : n - 1 - k = n - (k + 1) := by omega
  have hp := ft_fc_pos (n - (k + 1))
  have hcc : c < lo + ft_fc (n - k) := by
    rw [e, ft_fc]
    have : (ft_un s f + 1) * ft_fc (n - (k + 1)) ≤ (n - (k + 1) + 1) * ft_fc (n - (k + 1)) := Nat.mul_le_mul_right _ (by omega)
    rw [Nat.add_mul (ft_un s f), Nat.one_mul] at this
    omega
  obtain ⟨a1, a2⟩ := hN c (by omega) hcc
  have hd : (c - lo) / ft_fc (n - (k + 1)) = ft_un s f := Nat.div_eq_of_lt_le (by omega) (by rw [Nat.add_mul, Nat.one_mul]; omega)
  have hm : (c - lo) % ft_fc (n - (k + 1)) = c - (lo + ft_un s f * ft_fc (n - (k + 1))) := by
    have := Nat.div_add_mod (c - lo) (ft_fc (n - (k + 1)))
    rw [hd, Nat.mul_comm] at this
    omega
  have hsk : ft_sk s 6 (ft_un s f) 0 = f := ft_fin1 ⟨s, hs⟩ ⟨f, by omega⟩ hb
  constructor
  · rw [ft_st, a1, e2]
    show ((c - lo) % ft_fc (n - (k + 1)), s ||| 1 <<< ft_sk s 6 ((c - lo) / ft_fc (n - (k + 1))) 0) = _
    rw [hd, hm, hsk]
  · intro i hi
    by_cases q : i = k
    · rw [q, hhk]
      unfold ft_row
      rw [a1, e2]
      show ft_sk s 6 ((c - lo) / ft_fc (n - (k + 1))) 0 = f
      rw [hd, hsk]
    · rw [a2 i (by omega), hh i (by omega)]
end FT
