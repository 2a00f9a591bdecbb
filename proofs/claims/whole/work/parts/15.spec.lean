/-! rules, and what is computed -/
theorem i_le {a b : Int32} : a ≤ b ↔ a.toInt ≤ b.toInt := Int32.le_iff_toInt_le
theorem i_lt {a b : Int32} : a < b ↔ a.toInt < b.toInt := Int32.lt_iff_toInt_lt
theorem i_eq {a b : Int32} : a = b ↔ a.toInt = b.toInt := ⟨fun h => by rw [h], fun h => Int32.toInt_inj.mp h⟩
theorem i_rng (x : Int32) : -2147483648 ≤ x.toInt ∧ x.toInt < 2147483648 := ⟨x.le_toInt, x.toInt_lt⟩
theorem i_bm {z : Int} (h1 : -2147483648 ≤ z) (h2 : z < 2147483648) : z.bmod (2 ^ 32) = z := by
  apply Int.bmod_eq_of_le <;> omega
theorem i_add {x y : Int32} (h1 : -2147483648 ≤ x.toInt + y.toInt) (h2 : x.toInt + y.toInt < 2147483648) : (x + y).toInt = x.toInt + y.toInt := by rw [Int32.toInt_add]; exact i_bm h1 h2
theorem i_sub {x y : Int32} (h1 : -2147483648 ≤ x.toInt - y.toInt) (h2 : x.toInt - y.toInt < 2147483648) : (x - y).toInt = x.toInt - y.toInt := by rw [Int32.toInt_sub]; exact i_bm h1 h2
theorem i_mul {x y : Int32} (h1 : -2147483648 ≤ x.toInt * y.toInt) (h2 : x.toInt * y.toInt < 2147483648) : (x * y).toInt = x.toInt * y.toInt := by rw [Int32.toInt_mul]; exact i_bm h1 h2
/-- a person's number -/
theorem i_ps {i : Int32} {n : Nat} (hn : n < 2 ^ 31) (h0 : 0 ≤ i) (h1 : i < nI n) : ∃ a : Nat, a < n ∧ i = nI a := by
  have h0' : ¬ i < 0 := Int32.not_lt.mpr h0
  obtain ⟨j, hj, rfl⟩ := nI_of h0'
  exact ⟨j, (nI_ltI hj hn).mp h1, rfl⟩
/-- an hour -/
theorem i_hr {t : Int32} (h0 : 6 ≤ t) (h1 : t ≤ 18) : ∃ k : Nat, 6 ≤ k ∧ k ≤ 18 ∧ t = nI k := by
  have a := i_le.mp h0
  have b := i_le.mp h1
  have e6 : (6 : Int32).toInt = 6 := by decide
  have e18 : (18 : Int32).toInt = 18 := by decide
  obtain ⟨j, hj, rfl⟩ := nI_of (x := t) (fun q => by have := i_lt.mp q; have e0 : (0 : Int32).toInt = 0 := by decide
                                                     omega)
  rw [nI_toInt hj] at a b
  exact ⟨j, by omega, by omega, rfl⟩
theorem ix_3 (a : Nat) : (3 : Int32) * nI a = nI (3 * a) := pk_mul 3 a
theorem ix_31 (a : Nat) : (3 : Int32) * nI a + 1 = nI (3 * a + 1) := by rw [ix_3, nI_1]
theorem ix_32 (a : Nat) : (3 : Int32) * nI a + 2 = nI (3 * a + 2) := by rw [ix_3]; exact nI_add (3 * a) 2
theorem ix_7 (a : Nat) : (7 : Int32) + 3 * nI a = nI (7 + 3 * a) := by rw [ix_3]; exact nI_add 7 (3 * a)
theorem ix_2 (a : Nat) : nI a + 2 = nI (a + 2) := nI_add a 2
theorem ix_0 (a : Nat) : (0 : Int32) + nI a = nI a := by rw [show (0 : Int32) = nI 0 from rfl, nI_add, Nat.zero_add]
-- what the walks give: the cell, and the latest hour
def sp_wk (wI wT wX : Nat → Int32) (i t home : Int32) : Nat → Int32 × Int32
  | 0 => (home, 6)
  | k + 1 => if wI k = i ∧ wT k ≤ t ∧ (sp_wk wI wT wX i t home k).2 ≤ wT k then (wX k, wT k) else sp_wk wI wT wX i t home k
theorem sp_wk_cong {wI wT wX wI' wT' wX' : Nat → Int32} {i t home : Int32} : ∀ {n : Nat}, (∀ k, k < n → wI k = wI' k ∧ wT k = wT' k ∧ wX k = wX' k) → sp_wk wI wT wX i t home n = sp_wk wI' wT' wX' i t home n
  | 0, _ => rfl
  | n + 1, h => by
    obtain ⟨h1, h2, h3⟩ := h n (by omega)
    rw [sp_wk, sp_wk, sp_wk_cong (fun k hk => h k (by omega)), h1, h2, h3]
/-- a set of persons, as bits -/
def sp_or (p : Nat → Bool) : Nat → Int32
  | 0 => 0
  | k + 1 => if p k = true then sp_or p k ||| (1 <<< (nI k &&& 31)) else sp_or p k
def sp_noon (t : Int32) : Int32 := if t < 12 then 12 - t else t - 12
def sp_full (V : Nat → Nat → Int32) (a : Nat) (t : Int32) : Int32 := if V 2 a = 2 then 2 * (V 1 a * sp_noon t / 2) else if V 2 a = 3 ∧ (t ≤ 7 ∨ 17 ≤ t) then V 1 a * sp_noon t / 2 + 1 else V 1 a * sp_noon t / 2
def sp_by (V : Nat → Nat → Int32) (a : Nat) (t c : Int32) : Int32 := if c < sp_full V a t then sp_full V a t - c else 0
def sp_len (V : Nat → Nat → Int32) (a : Nat) (t : Int32) : Int32 := sp_by V a t (V 3 a)
def sp_way (V : Nat → Nat → Int32) (a : Nat) (t : Int32) : Int32 := if (if V 2 a = 1 then t + 3 else t) < 12 then -1 else 1
def sp_cell (N : Nat → Nat) (V : Nat → Nat → Int32) (a : Nat) (t : Int32) : Int32 := (sp_wk (V 4) (V 5) (V 6) (nI a) t (V 0 a) (N 1)).1
def sp_end (N : Nat → Nat) (V : Nat → Nat → Int32) (a : Nat) (t : Int32) : Int32 := sp_cell N V a t + sp_way V a t * sp_len V a t
def sp_rch (fr way len x : Int32) : Bool := decide (0 < (x - fr) * way ∧ (x - fr) * way ≤ len)
/-- who stands on a shadow of a length, all being at these cells -/
def sp_on (at' : Nat → Int32) (way len : Int32) (a n : Nat) : Int32 := sp_or (fun j => sp_rch (at' a) way len (at' j)) n
def sp_st (N : Nat → Nat) (V : Nat → Nat → Int32) (a : Nat) (t : Int32) : Int32 := sp_on (fun j => sp_cell N V j t) (sp_way V a t) (sp_len V a t) a (N 0)
/-- the view's numbers are such as may be told -/
def sp_Ok (N : Nat → Nat) (V : Nat → Nat → Int32) : Prop := N 0 ≤ 6 ∧ N 1 ≤ 9 ∧ N 2 ≤ 6 ∧ N 3 ≤ 7 ∧ N 4 ≤ 3 ∧ N 5 ≤ 6 ∧
  (∀ i, i < N 0 → (0 ≤ (V 0 i).toInt ∧ (V 0 i).toInt ≤ 60) ∧ (1 ≤ (V 1 i).toInt ∧ (V 1 i).toInt ≤ 9) ∧ (0 ≤ (V 2 i).toInt ∧ (V 2 i).toInt ≤ 3) ∧ (-9 ≤ (V 3 i).toInt ∧ (V 3 i).toInt ≤ 20)) ∧
  (∀ k, k < N 1 → (∃ a, a < N 0 ∧ V 4 k = nI a) ∧ (6 ≤ (V 5 k).toInt ∧ (V 5 k).toInt ≤ 18) ∧ (0 ≤ (V 6 k).toInt ∧ (V 6 k).toInt ≤ 60)) ∧
  (∀ k, k < N 2 → (∃ a, a < N 0 ∧ V 7 k = nI a) ∧ (6 ≤ (V 8 k).toInt ∧ (V 8 k).toInt ≤ 18) ∧ (0 ≤ (V 9 k).toInt ∧ (V 9 k).toInt ≤ 60)) ∧
  (∀ k, k < N 3 → 1 ≤ (V 10 k).toInt ∧ (V 10 k).toInt ≤ 40) ∧ (∀ k, k < N 4 → 1 ≤ (V 11 k).toInt ∧ (V 11 k).toInt ≤ 60) ∧ (∀ k, k < N 5 → (1 ≤ (V 12 k).toInt ∧ (V 12 k).toInt ≤ 9) ∧ (1 ≤ (V 13 k).toInt ∧ (V 13 k).toInt ≤ 60))
/-- a shop of the class (its cells from o on) holds the view -/
def RC (o : Nat) (J : Nat → Nat → Int32) (N : Nat → Nat) (V : Nat → Nat → Int32) : Prop :=
  J (o + 1) 8 = nI (N 0) ∧ (∀ i, i < N 0 → J (o + 2) i = V 0 i ∧ J (o + 3) i = V 1 i ∧ J (o + 4) i = V 2 i ∧ J (o + 6) i = V 3 i) ∧
  J (o + 5) 4 = nI (N 1) ∧ (∀ k, k < N 1 → J (o + 7) k = V 4 k ∧ J (o + 8) k = V 5 k ∧ J (o + 9) k = V 6 k) ∧
  J (o + 1) 9 = nI (N 2) ∧ (∀ k, k < N 2 → J (o + 10) k = V 7 k ∧ J (o + 11) k = V 8 k ∧ J (o + 12) k = V 9 k) ∧
  J (o + 14) 4 = nI (N 3) ∧ (∀ k, k < N 3 → J (o + 15) k = V 10 k) ∧ J (o + 14) 5 = nI (N 4) ∧ (∀ k, k < N 4 → J (o + 16) k = V 11 k) ∧ J (o + 14) 6 = nI (N 5) ∧ (∀ k, k < N 5 → J (o + 17) k = V 12 k ∧ J (o + 18) k = V 13 k)
/-- the reference holds the view -/
def RM (J : Nat → Nat → Int32) (N : Nat → Nat) (V : Nat → Nat → Int32) : Prop :=
  J 68 0 = nI (N 0) ∧ (∀ i, i < N 0 → J 69 (3 * i) = V 0 i ∧ J 69 (3 * i + 1) = V 1 i ∧ J 69 (3 * i + 2) = V 2 i ∧ J 74 i = V 3 i) ∧
  J 74 6 = nI (N 1) ∧ (∀ k, k < N 1 → J 74 (7 + 3 * k) = V 4 k ∧ J 74 (7 + 3 * k + 1) = V 5 k ∧ J 74 (7 + 3 * k + 2) = V 6 k) ∧
  J 68 2 = nI (N 2) ∧ (∀ k, k < N 2 → J 70 (3 * k) = V 7 k ∧ J 70 (3 * k + 1) = V 8 k ∧ J 70 (3 * k + 2) = V 9 k) ∧
  J 68 4 = nI (N 3) ∧ (∀ k, k < N 3 → J 71 k = V 10 k) ∧ J 68 6 = nI (N 4) ∧ (∀ k, k < N 4 → J 72 k = V 11 k) ∧ J 68 8 = nI (N 5) ∧ (∀ k, k < N 5 → J 73 (2 * k) = V 12 k ∧ J 73 (2 * k + 1) = V 13 k)
