/-! numbers as the walks write them -/
theorem nu_6 (a b : Nat) : nI a * 6 + nI b = nI (a * 6 + b) := by rw [show (6 : Int32) = nI 6 from rfl, pk_mul, nI_add]
theorem nu_6' (a b : Nat) : 6 * nI a + nI b = nI (a * 6 + b) := by rw [show (6 : Int32) = nI 6 from rfl, pk_mul, nI_add, Nat.mul_comm]
theorem nu_4 (a c : Nat) : 4 * nI a + nI c = nI (4 * a + c) := by rw [show (4 : Int32) = nI 4 from rfl, pk_mul, nI_add]
theorem nu_41 (a : Nat) : 4 * nI a + 1 = nI (4 * a + 1) := nu_4 a 1
theorem nu_42 (a : Nat) : 4 * nI a + 2 = nI (4 * a + 2) := nu_4 a 2
theorem nu_43 (a : Nat) : 4 * nI a + 3 = nI (4 * a + 3) := nu_4 a 3
theorem nu_m1 (k : Nat) (h : k < 2 ^ 31) : ¬ nI k = -1 := by
  intro e
  have h5 := congrArg Int32.toInt e
  rw [nI_toInt h] at h5
  have h6 : (-1 : Int32).toInt = -1 := by decide
  omega
theorem nu_neg1 : (-1 : Int32) < 0 := by decide
/-- a kept value, the class's shift and the reference's -/
theorem nu_rk {K s : Nat} (hK : K < 2 ^ 36) (hs : s < 64) : ((lN K).toUInt64 >>> ((nI s).toInt64.toUInt64 &&& Int64.toUInt64 63)).toInt64 = lN K >>> ((nI s).toInt64 &&& 63) := by
  rw [wb_shr (by omega) hs, pf_shr (d := s) ?_ (by omega)]
  rw [wb_c s hs, wb_tb, wb_sm s hs, BitVec.toNat_ofNat]
  exact Nat.mod_eq_of_lt (by omega)
theorem nu_1shl {i : Nat} (hi : i < 36) : (1 : Int64) <<< ((nI i).toInt64 &&& 63) = lN (2 ^ i) := by
  have h := wb_shl 1 (k := i) (by omega)
  rw [Nat.one_mul] at h
  exact h
theorem nu_vshl {v k : Nat} (hv : v < 16) (hk : k < 64) : (nI v).toInt64 <<< ((nI k).toInt64 &&& 63) = lN (v * 2 ^ k) := by
  rw [nI_l (by omega), wb_shl v hk]
theorem nu_16 (k : Nat) : (16 : Nat) ^ k = 2 ^ (k * 4) := by rw [Nat.mul_comm, Nat.pow_mul]
/-- the class's packed run gives each place back -/
theorem nu_xd {L p : Nat} (hL : L < 2 ^ 31) (hp : p < 6) : (((nI L).toUInt32 >>> ((nI p * 4).toUInt32 &&& Int32.toUInt32 31)).toInt32) &&& 15 = nI (L / 16 ^ p % 16) := by
  rw [show (4 : Int32) = nI 4 from rfl, pk_mul, pk_ushrN (by omega) _ (p * 4) (s_u (p * 4) (by omega)), pk_andN (m := 15) (Nat.lt_of_le_of_lt (Nat.div_le_self _ _) (by omega)) 4 (by decide), nu_16]
theorem nu_yd {L s : Nat} (hL : L < 2 ^ 31) (hs : s < 6) : (nI L >>> ((3 * nI s) &&& 31)) &&& 7 = nI (L / 8 ^ s % 8) := by
  rw [show (3 : Int32) = nI 3 from rfl, pk_mul, pk_shrN hL _ (3 * s) (s_l (3 * s) (by omega)), pk_andN (m := 7) (Nat.lt_of_le_of_lt (Nat.div_le_self _ _) (by omega)) 3 (by decide), show (8 : Nat) ^ s = 2 ^ (3 * s) from by rw [Nat.pow_mul]]
theorem nu_xp {g p : Nat} (hg : g < 16) (hp : p < 6) : nI g <<< ((nI p * 4) &&& 31) = nI (g * 16 ^ p) := by
  rw [show (4 : Int32) = nI 4 from rfl, pk_mul, nu_16]
  refine pk_shlN _ (p * 4) (s_l (p * 4) (by omega)) ?_
  have h1 : 2 ^ (p * 4) ≤ 2 ^ 20 := Nat.pow_le_pow_right (by decide) (by omega)
  have h2 : g * 2 ^ (p * 4) ≤ 15 * 2 ^ 20 := Nat.mul_le_mul (by omega) h1
  omega
/-! the swap and the reversal of the next order -/
def nw_h (i j : Nat) (g : Nat → Nat) (p : Nat) : Nat := if p = j then g i else if p = i then g j else g p
def nw_t (n i t : Nat) (h : Nat → Nat) (p : Nat) : Nat := if p ≤ i then h p else if p < i + 1 + t ∨ n < p + 1 + t then h (n + i - p) else h p
theorem nw_t0 {n i p : Nat} {h : Nat → Nat} (hp : p < n) : nw_t n i 0 h p = h p := by
  unfold nw_t
  split
  · rfl
  · rw [if_neg (by omega)]
theorem nw_ts {n i t p : Nat} {h : Nat → Nat} (hp : p < n) (hi : i < n) (hl : i + 1 + t < n - 1 - t) :
    nw_t n i (t + 1) h p = if p = n - 1 - t then nw_t n i t h (i + 1 + t) else if p = i + 1 + t then nw_t n i t h (n - 1 - t) else nw_t n i t h p := by
  unfold nw_t
  by_cases c1 : p = n - 1 - t
  · rw [if_pos c1, if_neg (by omega), if_pos (by omega), if_neg (by omega), if_neg (by omega)]
    exact congrArg h (by omega)
  · rw [if_neg c1]
    by_cases c2 : p = i + 1 + t
    · rw [if_pos c2, if_neg (by omega), if_pos (by omega), if_neg (by omega), if_neg (by omega)]
      exact congrArg h (by omega)
    · rw [if_neg c2]
      by_cases c3 : p ≤ i
      · rw [if_pos c3, if_pos c3]
      · rw [if_neg c3, if_neg c3]
        by_cases c4 : p < i + 1 + t ∨ n < p + 1 + t
        · rw [if_pos c4, if_pos (by omega)]
        · rw [if_neg c4, if_neg (by omega)]
theorem nw_te {n i j t p : Nat} {g : Nat → Nat} (hp : p < n) (hij : i < j) (hj : j < n) (hl : n - 1 - t ≤ i + 1 + t) (ht : t + i + 1 ≤ n) : nw_t n i t (nw_h i j g) p = pq_nf n i j g p := by
  unfold nw_t pq_nf
  by_cases c1 : p < i
  · rw [if_pos (by omega), if_pos c1]
    unfold nw_h
    rw [if_neg (by omega), if_neg (by omega)]
  · rw [if_neg c1]
    by_cases c2 : p = i
    · rw [if_pos (by omega), if_pos c2]
      unfold nw_h
      rw [if_neg (by omega), if_pos c2]
    · rw [if_neg (by omega), if_neg c2]
      have e : (if p < i + 1 + t ∨ n < p + 1 + t then nw_h i j g (n + i - p) else nw_h i j g p) = nw_h i j g (n + i - p) := by
        by_cases c3 : p < i + 1 + t ∨ n < p + 1 + t
        · rw [if_pos c3]
        · rw [if_neg c3]
          exact congrArg (nw_h i j g) (by omega)
      rw [e]
      unfold nw_h
      by_cases c4 : n + i - p = j
      · rw [if_pos c4, if_pos c4]
      · rw [if_neg c4, if_neg c4, if_neg (by omega)]
/-- where the rise stands, and what is swapped with it -/
theorem nw_rise {g : Nat → Nat} : ∀ k i, pq_rise g k = some i → i < k ∧ g i < g (i + 1) := by
  intro k
  induction k with
  | zero => intro i h; exact absurd h (by simp [pq_rise])
  | succ k ih =>
    intro i h
    rw [pq_rise] at h
    by_cases c : g k < g (k + 1)
    · rw [if_pos c] at h
      cases h
      exact ⟨by omega, c⟩
    · rw [if_neg c] at h
      have := ih i h
      exact ⟨by omega, this.2⟩
theorem nw_sw {g : Nat → Nat} {i : Nat} (h : g i < g (i + 1)) : ∀ k, i + 1 < k → i < pq_sw g i k ∧ pq_sw g i k < k := by
  intro k
  induction k with
  | zero => intro hk; omega
  | succ k ih =>
    intro hk
    rw [pq_sw]
    by_cases c : g i < g k
    · rw [if_pos c]
      refine ⟨?_, by omega⟩
      omega
    · rw [if_neg c]
      have e : i + 1 ≠ k := fun e => c (e ▸ h)
      have := ih (by omega)
      omega
