/-! the text, told purely -/
def ps_fg (tx : Nat → Int32) (nt k : Nat) : Bool := decide (k < nt ∧ 48 ≤ tx k ∧ tx k ≤ 57)
def ps_is (tx : Nat → Int32) (nt k : Nat) (c : Int32) : Bool := decide (k < nt ∧ tx k = c)
def ps_vl (tx : Nat → Int32) (nt p : Nat) : Int32 := if ps_fg tx nt (p + 1) = true then 10 * (tx p - 48) + (tx (p + 1) - 48) else tx p - 48
def ps_nx (tx : Nat → Int32) (nt p : Nat) : Nat := if ps_fg tx nt (p + 1) = true then p + 2 else p + 1
/-- l numbers more, the k-th first, from p on -/
def ps_nums (tx : Nat → Int32) (nt : Nat) : Nat → Nat → Nat → (Nat → Int32) → Option (Nat × (Nat → Int32))
  | 0, _, p, a => some (p, a)
  | l + 1, k, p, a => if ps_fg tx nt p = true ∧ ps_is tx nt (ps_nx tx nt p) (if l = 0 then 59 else 44) = true then ps_nums tx nt l (k + 1) (ps_nx tx nt p + 1) (upd a k (ps_vl tx nt p)) else none
theorem ps_nums_le {tx : Nat → Int32} {nt : Nat} : ∀ {l k p : Nat} {a : Nat → Int32} {e : Nat × (Nat → Int32)}, ps_nums tx nt l k p a = some e → p ≤ nt → p + l ≤ e.1 ∧ e.1 ≤ nt
  | 0, k, p, a, e, h, hp => by
    cases h
    exact ⟨Nat.le_refl _, hp⟩
  | l + 1, k, p, a, e, h, hp => by
    rw [ps_nums] at h
    by_cases hc : ps_fg tx nt p = true ∧ ps_is tx nt (ps_nx tx nt p) (if l = 0 then 59 else 44) = true
    · rw [if_pos hc] at h
      have h1 := of_decide_eq_true hc.2
      have h2 : p + 1 ≤ ps_nx tx nt p := by unfold ps_nx; split <;> omega
      have := ps_nums_le h (by omega)
      omega
    · rw [if_neg hc] at h
      cases h
def ps_many (c : Int32) : Nat := if c = 112 then 4 else if c = 119 then 3 else if c = 108 then 3 else if c = 102 then 2 else if c = 114 then 1 else if c = 111 then 1 else 0
def ps_okp (N : Nat → Nat) (a : Nat → Int32) : Bool := decide (N 0 < 6 ∧ (0 ≤ a 0 ∧ a 0 ≤ 60) ∧ (1 ≤ a 1 ∧ a 1 ≤ 9) ∧ (0 ≤ a 2 ∧ a 2 ≤ 3) ∧ (0 ≤ a 3 ∧ a 3 ≤ 20))
def ps_okh (n m : Nat) (N : Nat → Nat) (a : Nat → Int32) : Bool := decide (n < m ∧ (0 ≤ a 0 ∧ a 0 < nI (N 0)) ∧ (6 ≤ a 1 ∧ a 1 ≤ 18) ∧ (0 ≤ a 2 ∧ a 2 ≤ 60))
def ps_okf (N : Nat → Nat) (a : Nat → Int32) : Bool := decide (N 5 < 6 ∧ (1 ≤ a 0 ∧ a 0 ≤ 9) ∧ (1 ≤ a 1 ∧ a 1 ≤ 60))
def ps_ok1 (n m : Nat) (x : Int32) (a : Nat → Int32) : Bool := decide (n < m ∧ 1 ≤ a 0 ∧ a 0 ≤ x)
def ps_N (N : Nat → Nat) (s : Nat) : Nat → Nat := va_up N s (N s + 1)
def ps_V1 (V : Nat → Nat → Int32) (s n : Nat) (x : Int32) : Nat → Nat → Int32 := va_up V s (upd (V s) n x)
def ps_V2 (V : Nat → Nat → Int32) (s n : Nat) (x y : Int32) : Nat → Nat → Int32 := va_up (va_up V s (upd (V s) n x)) (s + 1) (upd (V (s + 1)) n y)
def ps_V3 (V : Nat → Nat → Int32) (s n : Nat) (x y z : Int32) : Nat → Nat → Int32 := va_up (va_up (va_up V s (upd (V s) n x)) (s + 1) (upd (V (s + 1)) n y)) (s + 2) (upd (V (s + 2)) n z)
def ps_V4 (V : Nat → Nat → Int32) (s n : Nat) (x y z w : Int32) : Nat → Nat → Int32 := va_up (va_up (va_up (va_up V s (upd (V s) n x)) (s + 1) (upd (V (s + 1)) n y)) (s + 2) (upd (V (s + 2)) n z)) (s + 3) (upd (V (s + 3)) n w)
/-- an item with its numbers -/
def ps_add (c : Int32) (N : Nat → Nat) (V : Nat → Nat → Int32) (a : Nat → Int32) : Option ((Nat → Nat) × (Nat → Nat → Int32)) :=
  if c = 112 then (if ps_okp N a = true then some (ps_N N 0, ps_V4 V 0 (N 0) (a 0) (a 1) (a 2) (a 3)) else none)
  else if c = 119 then (if ps_okh (N 1) 9 N a = true then some (ps_N N 1, ps_V3 V 4 (N 1) (a 0) (a 1) (a 2)) else none)
  else if c = 108 then (if ps_okh (N 2) 6 N a = true then some (ps_N N 2, ps_V3 V 7 (N 2) (a 0) (a 1) (a 2)) else none)
  else if c = 102 then (if ps_okf N a = true then some (ps_N N 5, ps_V2 V 12 (N 5) (a 0) (a 1)) else none)
  else if c = 114 then (if ps_ok1 (N 3) 7 40 a = true then some (ps_N N 3, ps_V1 V 10 (N 3) (a 0)) else none)
  else if c = 111 then (if ps_ok1 (N 4) 3 60 a = true then some (ps_N N 4, ps_V1 V 11 (N 4) (a 0)) else none)
  else none
/-- the item at p -/
def ps_item (tx : Nat → Int32) (nt p : Nat) (N : Nat → Nat) (V : Nat → Nat → Int32) : Option (Nat × (Nat → Nat) × (Nat → Nat → Int32)) :=
  match ps_nums tx nt (ps_many (tx p)) 0 (p + 1) (fun _ => 0) with
  | none => none
  | some e => match ps_add (tx p) N V e.2 with
    | none => none
    | some q => some (e.1, q)
/-- all items: where the fault is, and what is told -/
def ps_run (tx : Nat → Int32) (nt : Nat) : Nat → Nat → (Nat → Nat) → (Nat → Nat → Int32) → Option Nat × (Nat → Nat) × (Nat → Nat → Int32)
  | 0, _, N, V => (none, N, V)
  | j + 1, p, N, V => if p < nt then (match ps_item tx nt p N V with
    | none => (some p, N, V)
    | some q => ps_run tx nt j q.1 q.2.1 q.2.2) else (none, N, V)
def ps_all (tx : Nat → Int32) (nt : Nat) : Option Nat × (Nat → Nat) × (Nat → Nat → Int32) := ps_run tx nt nt 0 (fun _ => 0) (fun _ _ => 0)
theorem ps_add_0 {c : Int32} {N : Nat → Nat} {V : Nat → Nat → Int32} {a : Nat → Int32} (h : ps_many c = 0) : ps_add c N V a = none := by
  unfold ps_many at h
  unfold ps_add
  repeat' split at h
  all_goals first | (exact absurd h (by decide)) | skip
  rename_i h1 h2 h3 h4 h5 h6
  rw [if_neg h1, if_neg h2, if_neg h3, if_neg h4, if_neg h5, if_neg h6]
theorem sp_Ok0 : sp_Ok (fun _ => 0) (fun _ _ => 0) := ⟨Nat.zero_le _, Nat.zero_le _, Nat.zero_le _, Nat.zero_le _, Nat.zero_le _, Nat.zero_le _, fun i hi => absurd hi (Nat.not_lt_zero _), fun i hi => absurd hi (Nat.not_lt_zero _), fun i hi => absurd hi (Nat.not_lt_zero _), fun i hi => absurd hi (Nat.not_lt_zero _), fun i hi => absurd hi (Nat.not_lt_zero _), fun i hi => absurd hi (Nat.not_lt_zero _)⟩
theorem i_bt {x a b : Int32} {p q : Int} (h : a ≤ x ∧ x ≤ b) (ha : a.toInt = p) (hb : b.toInt = q) : p ≤ x.toInt ∧ x.toInt ≤ q := by
  have h1 := i_le.mp h.1
  have h2 := i_le.mp h.2
  omega
theorem i_un {f : Nat → Int32} {n k : Nat} {x : Int32} {P : Int32 → Prop} (hx : P x) (h : ∀ i, i < n → P (f i)) (hk : k < n + 1) : P (upd f n x k) := by
  by_cases e : k = n
  · rw [e, pk_us]; exact hx
  · rw [pk_un e]; exact h k (by omega)
/-- what is told stays such as may be told -/
theorem ps_add_ok {c : Int32} {N : Nat → Nat} {V : Nat → Nat → Int32} {a : Nat → Int32} {q : (Nat → Nat) × (Nat → Nat → Int32)} (hok : sp_Ok N V) (h : ps_add c N V a = some q) : sp_Ok q.1 q.2 := by
  obtain ⟨k0, k1, k2, k3, k4, k5, kp, kw, kl, kr, ko, kf⟩ := hok
  unfold ps_add at h
  split at h
  · split at h
    · rename_i hb
      cases h
      have hb := of_decide_eq_true hb
      obtain ⟨b0, b1, b2, b3, b4⟩ := hb
      have b1 := i_bt (p := 0) (q := 60) b1 (by decide) (by decide)
      have b2 := i_bt (p := 1) (q := 9) b2 (by decide) (by decide)
      have b3 := i_bt (p := 0) (q := 3) b3 (by decide) (by decide)
      have b4 := i_bt (p := 0) (q := 20) b4 (by decide) (by decide)
      refine ⟨show N 0 + 1 ≤ 6 by omega, k1, k2, k3, k4, k5, fun i hi => ?_, fun k hk => ?_, fun k hk => ?_, kr, ko, kf⟩
      · have hi : i < N 0 + 1 := hi
        refine ⟨?_, ?_, ?_, ?_⟩
        · exact i_un (P := fun x => 0 ≤ x.toInt ∧ x.toInt ≤ 60) b1 (fun i hi => (kp i hi).1) hi
        · exact i_un (P := fun x => 1 ≤ x.toInt ∧ x.toInt ≤ 9) b2 (fun i hi => (kp i hi).2.1) hi
        · exact i_un (P := fun x => 0 ≤ x.toInt ∧ x.toInt ≤ 3) b3 (fun i hi => (kp i hi).2.2.1) hi
        · exact i_un (P := fun x => -9 ≤ x.toInt ∧ x.toInt ≤ 20) ⟨by omega, b4.2⟩ (fun i hi => (kp i hi).2.2.2) hi
      · obtain ⟨⟨x, x1, x2⟩, x3⟩ := kw k hk
        exact ⟨⟨x, Nat.lt_succ_of_lt x1, x2⟩, x3⟩
      · obtain ⟨⟨x, x1, x2⟩, x3⟩ := kl k hk
        exact ⟨⟨x, Nat.lt_succ_of_lt x1, x2⟩, x3⟩
    · cases h
  · split at h
    · split at h
      · rename_i hb
        cases h
        have hb := of_decide_eq_true hb
        obtain ⟨b0, b1, b2, b3⟩ := hb
        have b1 := i_ps (by omega) b1.1 b1.2
        have b2 := i_bt (p := 6) (q := 18) b2 (by decide) (by decide)
        have b3 := i_bt (p := 0) (q := 60) b3 (by decide) (by decide)
        refine ⟨k0, show N 1 + 1 ≤ 9 by omega, k2, k3, k4, k5, kp, fun k hk => ?_, kl, kr, ko, kf⟩
        have hk : k < N 1 + 1 := hk
        exact ⟨i_un (P := fun x => ∃ a, a < N 0 ∧ x = nI a) b1 (fun i hi => (kw i hi).1) hk, i_un (P := fun x => 6 ≤ x.toInt ∧ x.toInt ≤ 18) b2 (fun i hi => (kw i hi).2.1) hk, i_un (P := fun x => 0 ≤ x.toInt ∧ x.toInt ≤ 60) b3 (fun i hi => (kw i hi).2.2) hk⟩
      · cases h
    · split at h
      · split at h
        · rename_i hb
          cases h
          have hb := of_decide_eq_true hb
          obtain ⟨b0, b1, b2, b3⟩ := hb
          have b1 := i_ps (by omega) b1.1 b1.2
          have b2 := i_bt (p := 6) (q := 18) b2 (by decide) (by decide)
          have b3 := i_bt (p := 0) (q := 60) b3 (by decide) (by decide)
          refine ⟨k0, k1, show N 2 + 1 ≤ 6 by omega, k3, k4, k5, kp, kw, fun k hk => ?_, kr, ko, kf⟩
          have hk : k < N 2 + 1 := hk
          exact ⟨i_un (P := fun x => ∃ a, a < N 0 ∧ x = nI a) b1 (fun i hi => (kl i hi).1) hk, i_un (P := fun x => 6 ≤ x.toInt ∧ x.toInt ≤ 18) b2 (fun i hi => (kl i hi).2.1) hk, i_un (P := fun x => 0 ≤ x.toInt ∧ x.toInt ≤ 60) b3 (fun i hi => (kl i hi).2.2) hk⟩
        · cases h
      · split at h
        · split at h
          · rename_i hb
            cases h
            have hb := of_decide_eq_true hb
            obtain ⟨b0, b1, b2⟩ := hb
            have b1 := i_bt (p := 1) (q := 9) b1 (by decide) (by decide)
            have b2 := i_bt (p := 1) (q := 60) b2 (by decide) (by decide)
            refine ⟨k0, k1, k2, k3, k4, show N 5 + 1 ≤ 6 by omega, kp, kw, kl, kr, ko, fun k hk => ?_⟩
            have hk : k < N 5 + 1 := hk
            exact ⟨i_un (P := fun x => 1 ≤ x.toInt ∧ x.toInt ≤ 9) b1 (fun i hi => (kf i hi).1) hk, i_un (P := fun x => 1 ≤ x.toInt ∧ x.toInt ≤ 60) b2 (fun i hi => (kf i hi).2) hk⟩
          · cases h
        · split at h
          · split at h
            · rename_i hb
              cases h
              have hb := of_decide_eq_true hb
              obtain ⟨b0, b1⟩ := hb
              have b1 := i_bt (p := 1) (q := 40) b1 (by decide) (by decide)
              refine ⟨k0, k1, k2, show N 3 + 1 ≤ 7 by omega, k4, k5, kp, kw, kl, fun k hk => ?_, ko, kf⟩
              have hk : k < N 3 + 1 := hk
              exact i_un (P := fun x => 1 ≤ x.toInt ∧ x.toInt ≤ 40) b1 kr hk
            · cases h
          · split at h
            · split at h
              · rename_i hb
                cases h
                have hb := of_decide_eq_true hb
                obtain ⟨b0, b1⟩ := hb
                have b1 := i_bt (p := 1) (q := 60) b1 (by decide) (by decide)
                refine ⟨k0, k1, k2, k3, show N 4 + 1 ≤ 3 by omega, k5, kp, kw, kl, kr, fun k hk => ?_, kf⟩
                have hk : k < N 4 + 1 := hk
                exact i_un (P := fun x => 1 ≤ x.toInt ∧ x.toInt ≤ 60) b1 ko hk
              · cases h
            · cases h
