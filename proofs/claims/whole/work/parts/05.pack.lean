/-! numbers put together of digits -/
def dg_z (d : Nat → Nat) : Nat → Nat
  | 0 => 0
  | k + 1 => dg_z d k * 16 + d k
theorem dg_z_lt (d : Nat → Nat) : ∀ k, (∀ i, i < k → d i < 16) → dg_z d k < 16 ^ k := by
  intro k
  induction k with
  | zero => intro _; exact Nat.one_pos
  | succ k ih =>
    intro h
    have h1 := ih (fun i hi => h i (by omega))
    have h2 := h k (by omega)
    show dg_z d k * 16 + d k < 16 ^ (k + 1)
    rw [Nat.pow_succ]
    omega
theorem dg_z_0 (d : Nat → Nat) : ∀ c a, (∀ i, a ≤ i → i < a + c → d i = 0) → dg_z d (a + c) = dg_z d a * 16 ^ c := by
  intro c
  induction c with
  | zero => intro a _; simp
  | succ c ih =>
    intro a h
    have h1 := ih a (fun i hi hj => h i hi (by omega))
    have h2 := h (a + c) (by omega) (by omega)
    show dg_z d (a + c) * 16 + d (a + c) = _
    rw [h1, h2, Nat.pow_succ, Nat.add_zero, Nat.mul_assoc]
theorem dg_z_c (d d' : Nat → Nat) : ∀ k, (∀ i, i < k → d i = d' i) → dg_z d k = dg_z d' k := by
  intro k
  induction k with
  | zero => intro _; rfl
  | succ k ih =>
    intro h
    show dg_z d k * 16 + d k = dg_z d' k * 16 + d' k
    rw [ih (fun i hi => h i (by omega)), h k (by omega)]
/-- the class's packed run: the first place lowest -/
def dg_x (g : Nat → Nat) : Nat → Nat
  | 0 => 0
  | k + 1 => g k * 16 ^ k + dg_x g k
theorem dg_x_lt (g : Nat → Nat) : ∀ k, (∀ i, i < k → g i < 16) → dg_x g k < 16 ^ k := by
  intro k
  induction k with
  | zero => intro _; exact Nat.one_pos
  | succ k ih =>
    intro h
    have h1 := ih (fun i hi => h i (by omega))
    have h2 : g k * 16 ^ k ≤ 15 * 16 ^ k := Nat.mul_le_mul_right _ (by have := h k (by omega); omega)
    show g k * 16 ^ k + dg_x g k < 16 ^ (k + 1)
    rw [Nat.pow_succ]
    omega
theorem dg_x_d (g : Nat → Nat) : ∀ k, (∀ i, i < k → g i < 16) → ∀ q, q < k → dg_x g k / 16 ^ q % 16 = g q := by
  intro k
  induction k with
  | zero => intro _ q hq; omega
  | succ k ih =>
    intro h q hq
    have hp : 0 < 16 ^ q := Nat.pow_pos (by decide)
    show (g k * 16 ^ k + dg_x g k) / 16 ^ q % 16 = g q
    by_cases e : q = k
    · subst e
      rw [Nat.mul_comm, Nat.mul_add_div hp, Nat.div_eq_of_lt (dg_x_lt g q (fun i hi => h i (by omega))), Nat.add_zero, Nat.mod_eq_of_lt (h q (by omega))]
    · have e1 : g k * 16 ^ k = 16 ^ q * (16 * (g k * 16 ^ (k - q - 1))) := by
        have e2 : 16 ^ k = 16 ^ q * (16 * 16 ^ (k - q - 1)) := by
          rw [← Nat.pow_succ', ← Nat.pow_add]
          exact congrArg (fun z => 16 ^ z) (by omega)
        rw [e2, Nat.mul_left_comm (g k), Nat.mul_left_comm (g k)]
      rw [e1, Nat.mul_add_div hp, Nat.mul_add_mod]
      exact ih (fun i hi => h i (by omega)) q (by omega)
/-- the reference's packed run: the first place highest -/
def dg_y (g : Nat → Nat) : Nat → Nat
  | 0 => 0
  | k + 1 => dg_y g k * 8 + g k
theorem dg_y_lt (g : Nat → Nat) : ∀ k, (∀ i, i < k → g i < 8) → dg_y g k < 8 ^ k := by
  intro k
  induction k with
  | zero => intro _; exact Nat.one_pos
  | succ k ih =>
    intro h
    have h1 := ih (fun i hi => h i (by omega))
    have h2 := h k (by omega)
    show dg_y g k * 8 + g k < 8 ^ (k + 1)
    rw [Nat.pow_succ]
    omega
theorem dg_y_d (g : Nat → Nat) : ∀ k, (∀ i, i < k → g i < 8) → ∀ p, p < k → dg_y g k / 8 ^ (k - 1 - p) % 8 = g p := by
  intro k
  induction k with
  | zero => intro _ q hq; omega
  | succ k ih =>
    intro h p hp
    have hk := h k (by omega)
    show (dg_y g k * 8 + g k) / 8 ^ (k + 1 - 1 - p) % 8 = g p
    by_cases e : p = k
    · subst e
      rw [show p + 1 - 1 - p = 0 by omega, Nat.pow_zero, Nat.div_one]
      omega
    · rw [show k + 1 - 1 - p = (k - 1 - p) + 1 by omega, Nat.pow_succ', ← Nat.div_div_eq_div_mul, show (dg_y g k * 8 + g k) / 8 = dg_y g k by omega]
      exact ih (fun i hi => h i (by omega)) p (by omega)
theorem dg_x_c (g g' : Nat → Nat) : ∀ k, (∀ i, i < k → g i = g' i) → dg_x g k = dg_x g' k := by
  intro k
  induction k with
  | zero => intro _; rfl
  | succ k ih =>
    intro h
    show g k * 16 ^ k + dg_x g k = g' k * 16 ^ k + dg_x g' k
    rw [ih (fun i hi => h i (by omega)), h k (by omega)]
theorem dg_ior {k p a b : Nat} (hp : 2 ^ k = p) (ha : a < p) (h : b * p + a < 2 ^ 32) : nI a ||| nI (b * p) = nI (b * p + a) := by
  subst hp
  have h1 : a ||| b * 2 ^ k = b * 2 ^ k + a := by rw [Nat.or_comm, ← Nat.shiftLeft_eq, Nat.shiftLeft_add_eq_or_of_lt ha]
  apply Int32.toBitVec_inj.mp
  apply BitVec.eq_of_toNat_eq
  rw [Int32.toBitVec_or, BitVec.toNat_or, pk_tn (by omega), pk_tn (by omega), pk_tn h, h1]
theorem dg_bit0 {S i : Nat} (hS : S < 2 ^ 36) (hi : i < 36) : (lN S &&& lN (2 ^ i)) = 0 ↔ S.testBit i = false := by
  have h2 : (2 : Nat) ^ i < 2 ^ 36 := wb_lt2 hi
  have h3 : S &&& 2 ^ i < 2 ^ 36 := Nat.and_lt_two_pow _ h2
  rw [wb_and (by omega) (by omega)]
  rw [show (0 : Int64) = lN 0 from rfl, pk_lEQ (by omega) (by omega)]
  constructor
  · intro h
    have h4 := congrArg (fun z => Nat.testBit z i) h
    simp only [Nat.testBit_and, Nat.zero_testBit, Nat.testBit_two_pow_self, Bool.and_true] at h4
    exact h4
  · intro h
    apply Nat.eq_of_testBit_eq
    intro j
    rw [Nat.testBit_and, Nat.zero_testBit]
    by_cases e : i = j
    · rw [← e, h, Bool.false_and]
    · rw [Nat.testBit_two_pow_of_ne e, Bool.and_false]
