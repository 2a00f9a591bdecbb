/-! sets of persons -/
def bq (b0 b1 b2 b3 b4 b5 : Bool) : Nat → Bool
  | 0 => b0
  | 1 => b1
  | 2 => b2
  | 3 => b3
  | 4 => b4
  | 5 => b5
  | _ => false
theorem bq_at (p : Nat → Bool) : ∀ {k : Nat}, k < 6 → p k = bq (p 0) (p 1) (p 2) (p 3) (p 4) (p 5) k
  | 0, _ => rfl
  | 1, _ => rfl
  | 2, _ => rfl
  | 3, _ => rfl
  | 4, _ => rfl
  | 5, _ => rfl
  | k + 6, h => by omega
theorem sp_or_bq (p : Nat → Bool) {n : Nat} (hn : n ≤ 6) : sp_or p n = sp_or (bq (p 0) (p 1) (p 2) (p 3) (p 4) (p 5)) n := sp_or_cong (fun k hk => bq_at p (by omega))
def sp_orN (p : Nat → Bool) : Nat → Nat
  | 0 => 0
  | k + 1 => if p k = true then sp_orN p k + 2 ^ k else sp_orN p k
theorem sp_orN_cong {p q : Nat → Bool} : ∀ {n : Nat}, (∀ k, k < n → p k = q k) → sp_orN p n = sp_orN q n
  | 0, _ => rfl
  | n + 1, h => by rw [sp_orN, sp_orN, sp_orN_cong (fun k hk => h k (by omega)), h n (by omega)]
theorem sp_orN_bq (p : Nat → Bool) {n : Nat} (hn : n ≤ 6) : sp_orN p n = sp_orN (bq (p 0) (p 1) (p 2) (p 3) (p 4) (p 5)) n := sp_orN_cong (fun k hk => bq_at p (by omega))
/-- how many of the first n -/
def sp_ct (p : Nat → Bool) : Nat → Nat
  | 0 => 0
  | n + 1 => sp_ct p n + (if p n = true then 1 else 0)
theorem sp_ct_cong {p q : Nat → Bool} : ∀ {n : Nat}, (∀ k, k < n → p k = q k) → sp_ct p n = sp_ct q n
  | 0, _ => rfl
  | n + 1, h => by rw [sp_ct, sp_ct, sp_ct_cong (fun k hk => h k (by omega)), h n (by omega)]
theorem sp_or_lt (p : Nat → Bool) {n : Nat} (hn : n ≤ 6) : sp_or p n = nI (sp_orN p n) ∧ sp_orN p n < 64 := by
  have h : ∀ n, n < 7 → ∀ b0 b1 b2 b3 b4 b5 : Bool, sp_or (bq b0 b1 b2 b3 b4 b5) n = nI (sp_orN (bq b0 b1 b2 b3 b4 b5) n) ∧ sp_orN (bq b0 b1 b2 b3 b4 b5) n < 64 := by decide +kernel
  rw [sp_or_bq p hn, sp_orN_bq p hn]
  exact h n (by omega) _ _ _ _ _ _
theorem sp_orN_bit (p : Nat → Bool) {n k : Nat} (hn : n ≤ 6) (hk : k < 6) : (sp_orN p n).testBit k = (decide (k < n) && p k) := by
  have h : ∀ n, n < 7 → ∀ k, k < 6 → ∀ b0 b1 b2 b3 b4 b5 : Bool, (sp_orN (bq b0 b1 b2 b3 b4 b5) n).testBit k = (decide (k < n) && bq b0 b1 b2 b3 b4 b5 k) := by decide +kernel
  rw [sp_orN_bq p hn, bq_at p hk]
  exact h n (by omega) k hk _ _ _ _ _ _
/-- the library's count of bits -/
def sp_bc0 (x : Int32) : Int32 := x - ((x.toUInt32 >>> ((1 : Int32).toUInt32 &&& Int32.toUInt32 31)).toInt32 &&& 1431655765)
def sp_bc1 (x : Int32) : Int32 := (x &&& 858993459) + ((x.toUInt32 >>> ((2 : Int32).toUInt32 &&& Int32.toUInt32 31)).toInt32 &&& 858993459)
def sp_bc2 (x : Int32) : Int32 := (x + (x.toUInt32 >>> ((4 : Int32).toUInt32 &&& Int32.toUInt32 31)).toInt32) &&& 252645135
def sp_bc3 (x : Int32) : Int32 := x + (x.toUInt32 >>> ((8 : Int32).toUInt32 &&& Int32.toUInt32 31)).toInt32
def sp_bc4 (x : Int32) : Int32 := x + (x.toUInt32 >>> ((16 : Int32).toUInt32 &&& Int32.toUInt32 31)).toInt32
def sp_bc (x : Int32) : Int32 := sp_bc4 (sp_bc3 (sp_bc2 (sp_bc1 (sp_bc0 x)))) &&& 63
def sp_pop (s : Nat) : Nat := sp_ct (fun k => s.testBit k) 6
theorem sp_bc_pop : ∀ s, s < 64 → sp_bc (nI s) = nI (sp_pop s) := by decide +kernel
theorem sp_pop_or (p : Nat → Bool) {n : Nat} (hn : n ≤ 6) : sp_pop (sp_orN p n) = sp_ct p n := by
  have h : ∀ n, n < 7 → ∀ b0 b1 b2 b3 b4 b5 : Bool, sp_pop (sp_orN (bq b0 b1 b2 b3 b4 b5) n) = sp_ct (bq b0 b1 b2 b3 b4 b5) n := by decide +kernel
  rw [sp_orN_bq p hn, sp_ct_cong (p := p) (q := bq (p 0) (p 1) (p 2) (p 3) (p 4) (p 5)) (fun k hk => bq_at p (by omega))]
  exact h n (by omega) _ _ _ _ _ _
/-- the lowest bit -/
def sp_ctz (s : Nat) : Nat := if s.testBit 0 then 0 else if s.testBit 1 then 1 else if s.testBit 2 then 2 else if s.testBit 3 then 3 else if s.testBit 4 then 4 else 5
theorem sp_hasN : ∀ s, s < 64 → ∀ k, k < 6 → (((nI s >>> (nI k &&& 31)) &&& 1 = 1) ↔ s.testBit k = true) := by decide +kernel
section BITS
variable {E : ax_E} {d : Nat}
theorem c_bitCount (h : ax_H) (x : Int32) : ax_cal E (d + 1) n_J6_bitCount_0f7a4 [.int x] h = some (some (.int (sp_bc x)), h) := by
  refine ax_of (t := t_J6_bitCount_0f7a4) (ls := [.int x]) rfl ⟨rfl, Nat.le_of_ble_eq_true rfl⟩ rfl ?_
  repeat refine bs rfl ?_
  exact br rfl ⟨rfl, rfl⟩
theorem m_bits (h : ax_H) {s : Nat} (hs : s < 64) : ax_cal E (d + 1) n_X12_bits [.int (nI s)] h = some (some (.int (nI (sp_pop s))), h) := by
  have a1 : ∀ s, s < 64 → 0 < s → (nI s &&& (nI s - 1) = nI (s &&& (s - 1)) ∧ (s &&& (s - 1)) < s ∧ sp_pop s = sp_pop (s &&& (s - 1)) + 1) := by decide +kernel
  refine ax_of (t := t_X12_bits) (ls := [.int (nI s), .float 0, .float 0]) rfl ⟨rfl, Nat.le_of_ble_eq_true rfl⟩ rfl ?_
  have loop : ∀ (n s c : Nat), s < n → s < 64 → ∀ v : Int32, AW E (ax_cal E d) t_X12_bits (5, [.int v, .int (nI c), .int (nI s)], [.int (nI s)], h) (fun r' g => r' = some (.int (nI (c + sp_pop s))) ∧ g = h) := by
    intro n
    induction n with
    | zero => intro s c h0; omega
    | succ n ih =>
      intro s c h0 h64 v
      by_cases hz : s = 0
      · subst hz
        repeat refine bs rfl ?_
        exact br rfl ⟨by rw [show sp_pop 0 = 0 from by decide]; rfl, rfl⟩
      · obtain ⟨e1, e2, e3⟩ := a1 s h64 (by omega)
        have ih := ih (s &&& (s - 1)) (c + 1) (by omega) (by omega) v
        rw [← e1, nI_succ, show c + 1 + sp_pop (s &&& (s - 1)) = c + sp_pop s by omega] at ih
        refine bf rfl (nI_nle (by omega) (by omega)) ?_
        repeat refine bs rfl ?_
        exact ih
  have l0 := loop (s + 1) s 0 (by omega) hs (nI s)
  rw [Nat.zero_add] at l0
  repeat refine bs rfl ?_
  exact l0
theorem c_ntz (h : ax_H) {s : Nat} (hs : s < 64) (h0 : s ≠ 0) : ax_cal E (d + 1) n_J6_numberOfTrailingZeros_0f7a4 [.int (nI s)] h = some (some (.int (nI (sp_ctz s))), h) := by
  have p1 : ∀ s, s < 64 → s ≠ 0 → (nI s ^^^ (-1)) &&& (nI s - 1) ≤ 0 → ((nI s ^^^ (-1)) &&& (nI s - 1)) &&& 32 = nI (sp_ctz s) := by decide +kernel
  have p2 : ∀ s, s < 64 → s ≠ 0 → (nI s ^^^ (-1)) &&& (nI s - 1) ≤ 256 := by decide +kernel
  have p3 : ∀ s, s < 64 → s ≠ 0 → (nI s ^^^ (-1)) &&& (nI s - 1) ≤ 65536 := by decide +kernel
  have q1 : ∀ s, s < 64 → s ≠ 0 → 0 < (nI s ^^^ (-1)) &&& (nI s - 1) → (nI s ^^^ (-1)) &&& (nI s - 1) ≤ 16 → (nI s ^^^ (-1)) &&& (nI s - 1) ≤ 4 → 1 + (((nI s ^^^ (-1)) &&& (nI s - 1)).toUInt32 >>> ((1 : Int32).toUInt32 &&& Int32.toUInt32 31)).toInt32 = nI (sp_ctz s) := by decide +kernel
  have q2 : ∀ s, s < 64 → s ≠ 0 → 0 < (nI s ^^^ (-1)) &&& (nI s - 1) → (nI s ^^^ (-1)) &&& (nI s - 1) ≤ 16 → 4 < (nI s ^^^ (-1)) &&& (nI s - 1) → (1 + 2) + ((((nI s ^^^ (-1)) &&& (nI s - 1)).toUInt32 >>> ((2 : Int32).toUInt32 &&& Int32.toUInt32 31)).toInt32.toUInt32 >>> ((1 : Int32).toUInt32 &&& Int32.toUInt32 31)).toInt32 = nI (sp_ctz s) := by decide +kernel
  have q3 : ∀ s, s < 64 → s ≠ 0 → 16 < (nI s ^^^ (-1)) &&& (nI s - 1) → (((nI s ^^^ (-1)) &&& (nI s - 1)).toUInt32 >>> ((4 : Int32).toUInt32 &&& Int32.toUInt32 31)).toInt32 ≤ 4 := by decide +kernel
  have q4 : ∀ s, s < 64 → s ≠ 0 → 16 < (nI s ^^^ (-1)) &&& (nI s - 1) → (1 + 4) + ((((nI s ^^^ (-1)) &&& (nI s - 1)).toUInt32 >>> ((4 : Int32).toUInt32 &&& Int32.toUInt32 31)).toInt32.toUInt32 >>> ((1 : Int32).toUInt32 &&& Int32.toUInt32 31)).toInt32 = nI (sp_ctz s) := by decide +kernel
  refine ax_of (t := t_J6_numberOfTrailingZeros_0f7a4) (ls := [.int (nI s), .float 0]) rfl ⟨rfl, Nat.le_of_ble_eq_true rfl⟩ rfl ?_
  repeat refine bs rfl ?_
  refine bb rfl (fun c => ?_) (fun c => ?_)
  · repeat refine bs rfl ?_
    refine bt rfl (p3 s hs h0) ?_
    repeat refine bs rfl ?_
    refine bt rfl (p2 s hs h0) ?_
    repeat refine bs rfl ?_
    refine bb rfl (fun c2 => ?_) (fun c2 => ?_)
    · repeat refine bs rfl ?_
      refine bb rfl (fun c3 => ?_) (fun c3 => ?_)
      · repeat refine bs rfl ?_
        exact br rfl ⟨by rw [q1 s hs h0 c c2 c3], rfl⟩
      · repeat refine bs rfl ?_
        exact br rfl ⟨by rw [q2 s hs h0 c c2 (Int32.not_le.mp c3)], rfl⟩
    · repeat refine bs rfl ?_
      refine bt rfl (q3 s hs h0 (Int32.not_le.mp c2)) ?_
      repeat refine bs rfl ?_
      exact br rfl ⟨by rw [q4 s hs h0 (Int32.not_le.mp c2)], rfl⟩
  · repeat refine bs rfl ?_
    exact br rfl ⟨by rw [p1 s hs h0 (Int32.not_lt.mp c)], rfl⟩
theorem m_lowest (h : ax_H) {s : Nat} (hs : s < 64) (h0 : s ≠ 0) : ax_cal E (d + 2) n_X12_lowest [.int (nI s)] h = some (some (.int (nI (sp_ctz s))), h) := by
  have a1 : ∀ s, s < 64 → s ≠ 0 → sp_ctz s < 6 ∧ s.testBit (sp_ctz s) = true := by decide +kernel
  have a2 : ∀ s, s < 64 → ∀ k, k < 6 → k < sp_ctz s → s.testBit k = false := by decide +kernel
  obtain ⟨b1, b2⟩ := a1 s hs h0
  refine ax_of (t := t_X12_lowest) (ls := [.int (nI s), .float 0]) rfl ⟨rfl, Nat.le_of_ble_eq_true rfl⟩ rfl ?_
  have loop : ∀ (j k : Nat), k + j = sp_ctz s → AW E (ax_cal E (d + 1)) t_X12_lowest (4, [.int (nI s), .int (nI k)], [.int (nI k), .int (nI s)], h) (fun r' g => r' = some (.int (nI (sp_ctz s))) ∧ g = h) := by
    intro j
    induction j with
    | zero =>
      intro k hk
      have e : k = sp_ctz s := by omega
      refine bc rfl (c_has _ _ _) ?_
      repeat refine bs rfl ?_
      refine bz rfl (fun p => absurd ((sp_hasN s hs k (by omega)).mpr (by rw [e]; exact b2)) p) (fun p => ?_)
      repeat refine bs rfl ?_
      exact br rfl ⟨by rw [e], rfl⟩
    | succ j ih =>
      intro k hk
      have ih := ih (k + 1) (by omega)
      rw [nI_succ] at ih
      refine bc rfl (c_has _ _ _) ?_
      repeat refine bs rfl ?_
      refine bz rfl (fun p => ?_) (fun p => absurd ((sp_hasN s hs k (by omega)).mp p) (by rw [a2 s hs k (by omega) (by omega)]; decide))
      repeat refine bs rfl ?_
      exact ih
  repeat refine bs rfl ?_
  exact loop (sp_ctz s) 0 (Nat.zero_add _)
end BITS
