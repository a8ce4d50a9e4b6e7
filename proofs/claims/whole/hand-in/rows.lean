section
/-! rows of kit/rows, pasted -/
theorem pk_us {f : Nat → Int32} {k : Nat} {x : Int32} : upd f k x k = x := if_pos rfl
theorem pk_un {f : Nat → Int32} {k j : Nat} {x : Int32} (h : j ≠ k) : upd f k x j = f j := if_neg h
theorem pk_uLs {f : Nat → Int64} {k : Nat} {x : Int64} : vp_updL f k x k = x := if_pos rfl
theorem pk_uLn {f : Nat → Int64} {k j : Nat} {x : Int64} (h : j ≠ k) : vp_updL f k x j = f j := if_neg h
theorem pk_sub {a b : Nat} (h : b ≤ a) : nI a - nI b = nI (a - b) := by
  obtain ⟨c, rfl⟩ : ∃ c, a = c + b := ⟨a - b, by omega⟩
  rw [← nI_add, Int32.add_sub_cancel, Nat.add_sub_cancel]
theorem pk_m1 (n : Nat) : nI (n + 1) + (-1) = nI n := by
  rw [← nI_1, Int32.add_assoc, show (1 : Int32) + (-1) = 0 from rfl, Int32.add_zero]
theorem pk_mul (a b : Nat) : nI a * nI b = nI (a * b) := (Int32.ofNat_mul a b).symm
theorem pk_sub_toInt {a b : Nat} (ha : a < 2 ^ 30) (hb : b < 2 ^ 30) : (nI a - nI b).toInt = (a : Int) - b := by
  rw [Int32.toInt_sub, nI_toInt (by omega), nI_toInt (by omega)]
  exact Int.bmod_eq_of_le (by omega) (by omega)
theorem pk_sneg {a b : Nat} (hb : b < 2 ^ 30) (h : a < b) : nI a - nI b < 0 := by
  rw [Int32.lt_iff_toInt_lt, pk_sub_toInt (by omega) hb, show (0 : Int32).toInt = 0 from by decide]
  omega
theorem pk_ix (x : Int32) {n : Nat} (hn : n < 2 ^ 31) : x < 0 ∨ nI n ≤ x ∨ ∃ j : Nat, j < n ∧ x = nI j := by
  by_cases h : x < 0
  · exact Or.inl h
  · obtain ⟨j, hj, rfl⟩ := nI_of h
    by_cases h2 : j < n
    · exact Or.inr (Or.inr ⟨j, h2, rfl⟩)
    · exact Or.inr (Or.inl (nI_le (by omega) hj))
theorem pk_le {x y : Int32} {A B : Prop} (a b : Nat) (f : a ≤ b → A) (g : b < a → B) (hx : x = nI a := by rfl) (hy : y = nI b := by rfl) (ha : a < 2 ^ 31 := by omega) (hb : b < 2 ^ 31 := by omega) : (x ≤ y → A) ∧ (¬ x ≤ y → B) := by
  subst hx hy
  rw [nI_leI ha hb]
  exact ⟨f, fun z => g (by omega)⟩
theorem pk_lt {x y : Int32} {A B : Prop} (a b : Nat) (f : a < b → A) (g : b ≤ a → B) (hx : x = nI a := by rfl) (hy : y = nI b := by rfl) (ha : a < 2 ^ 31 := by omega) (hb : b < 2 ^ 31 := by omega) : (x < y → A) ∧ (¬ x < y → B) := by
  subst hx hy
  rw [nI_ltI ha hb]
  exact ⟨f, fun z => g (by omega)⟩
theorem pk_eq {x y : Int32} {A B : Prop} (a b : Nat) (f : a = b → A) (g : a ≠ b → B) (hx : x = nI a := by rfl) (hy : y = nI b := by rfl) (ha : a < 2 ^ 31 := by omega) (hb : b < 2 ^ 31 := by omega) : (x = y → A) ∧ (¬ x = y → B) := by
  subst hx hy
  rw [nI_eq ha hb]
  exact ⟨f, g⟩
theorem pk_in {x : Int32} (n N : Nat) (h : n < N) (hx : x = nI n := by rfl) (hN : N < 2 ^ 31 := by omega) : vp_in x N := by
  subst hx
  exact vp_in_nI h hN
theorem pk_cl {x : Int32} (n : Nat) (hx : x = nI n := by rfl) (h : n < 2 ^ 31 := by omega) : x.toNatClampNeg = n := by
  subst hx
  exact nI_clamp h
theorem pk_tn {n : Nat} (h : n < 2 ^ 32) : (nI n).toBitVec.toNat = n := Nat.mod_eq_of_lt h
theorem pk_and (x : Int32) {m : Int32} (k : Nat) (hm : m.toBitVec.toNat = 2 ^ k - 1) : x &&& m = nI (x.toBitVec.toNat % 2 ^ k) := by
  apply Int32.toBitVec_inj.mp
  apply BitVec.eq_of_toNat_eq
  rw [Int32.toBitVec_and, BitVec.toNat_and, hm, Nat.and_two_pow_sub_one_eq_mod]
  show _ = (BitVec.ofNat 32 _).toNat
  rw [BitVec.toNat_ofNat]
  exact (Nat.mod_eq_of_lt (Nat.lt_of_le_of_lt (Nat.mod_le _ _) x.toBitVec.isLt)).symm
theorem pk_andN {n : Nat} (h : n < 2 ^ 32) {m : Int32} (k : Nat) (hm : m.toBitVec.toNat = 2 ^ k - 1) : nI n &&& m = nI (n % 2 ^ k) := by
  rw [pk_and _ k hm, pk_tn h]
theorem pk_andE (x : Int32) {m : Int32} (k : Nat) (hm : m.toBitVec.toNat = 2 ^ k - 1) : ∃ j : Nat, j < 2 ^ k ∧ x &&& m = nI j := ⟨_, Nat.mod_lt _ (Nat.two_pow_pos k), pk_and x k hm⟩
theorem pk_shl (a s : Int32) (k : Nat) (hs : (s.toBitVec.smod 32).toNat = k) : (a <<< s).toBitVec.toNat = a.toBitVec.toNat * 2 ^ k % 2 ^ 32 := by
  show (a.toBitVec <<< (s.toBitVec.smod 32).toNat).toNat = _
  rw [hs, BitVec.toNat_shiftLeft, Nat.shiftLeft_eq]
theorem pk_shlN {n : Nat} (s : Int32) (k : Nat) (hs : (s.toBitVec.smod 32).toNat = k) (h : n * 2 ^ k < 2 ^ 32) : nI n <<< s = nI (n * 2 ^ k) := by
  apply Int32.toBitVec_inj.mp
  apply BitVec.eq_of_toNat_eq
  have hn : n < 2 ^ 32 := Nat.lt_of_le_of_lt (Nat.le_mul_of_pos_right n (Nat.two_pow_pos k)) h
  rw [pk_shl _ _ k hs, pk_tn hn, pk_tn h, Nat.mod_eq_of_lt h]
theorem pk_shr (a s : Int32) (k : Nat) (hs : (s.toBitVec.smod 32).toNat = k) : (a >>> s).toInt = a.toInt >>> k := by
  show (a.toBitVec.sshiftRight (s.toBitVec.smod 32).toNat).toInt = _
  rw [hs, BitVec.toInt_sshiftRight]
  rfl
theorem pk_shrN {n : Nat} (h : n < 2 ^ 31) (s : Int32) (k : Nat) (hs : (s.toBitVec.smod 32).toNat = k) : nI n >>> s = nI (n / 2 ^ k) := by
  apply Int32.toInt_inj.mp
  have h2 : n / 2 ^ k ≤ n := Nat.div_le_self _ _
  rw [pk_shr _ _ k hs, nI_toInt h, nI_toInt (by omega), Int.shiftRight_eq_div_pow]
  rfl
theorem pk_ushr (x s : Int32) (k : Nat) (hs : ((s.toUInt32 &&& Int32.toUInt32 31).toBitVec % 32).toNat = k) : (x.toUInt32 >>> (s.toUInt32 &&& Int32.toUInt32 31)).toInt32.toBitVec.toNat = x.toBitVec.toNat / 2 ^ k := by
  have e : (x.toUInt32 >>> (s.toUInt32 &&& Int32.toUInt32 31)).toInt32.toBitVec = x.toBitVec >>> k := by
    rw [← hs]
    exact UInt32.toBitVec_shiftRight _ _
  rw [e, BitVec.toNat_ushiftRight, Nat.shiftRight_eq_div_pow]
theorem pk_ushrN {n : Nat} (hn : n < 2 ^ 32) (s : Int32) (k : Nat) (hs : ((s.toUInt32 &&& Int32.toUInt32 31).toBitVec % 32).toNat = k) : ((nI n).toUInt32 >>> (s.toUInt32 &&& Int32.toUInt32 31)).toInt32 = nI (n / 2 ^ k) := by
  apply Int32.toBitVec_inj.mp
  apply BitVec.eq_of_toNat_eq
  rw [pk_ushr _ s k hs, pk_tn hn, pk_tn (Nat.lt_of_le_of_lt (Nat.div_le_self _ _) hn)]
theorem pk_lT {n : Nat} (h : n < 2 ^ 63) : (lN n).toInt = (n : Int) := lg_ofNat_toInt h
theorem pk_lLT {a b : Nat} (ha : a < 2 ^ 63) (hb : b < 2 ^ 63) : lN a < lN b ↔ a < b := by
  rw [Int64.lt_iff_toInt_lt, pk_lT ha, pk_lT hb]; omega
theorem pk_lLE {a b : Nat} (ha : a < 2 ^ 63) (hb : b < 2 ^ 63) : lN a ≤ lN b ↔ a ≤ b := by
  rw [Int64.le_iff_toInt_le, pk_lT ha, pk_lT hb]; omega
theorem pk_lEQ {a b : Nat} (ha : a < 2 ^ 63) (hb : b < 2 ^ 63) : lN a = lN b ↔ a = b := by
  rw [← Int64.toInt_inj, pk_lT ha, pk_lT hb]; omega
theorem pk_lOf {x : Int64} (h : ¬ x < 0) : ∃ k : Nat, k < 2 ^ 63 ∧ x = lN k := by
  rw [Int64.lt_iff_toInt_lt] at h
  have h0 : (0 : Int64).toInt = 0 := by decide
  have hx := Int64.toInt_lt x
  refine ⟨x.toInt.toNat, by omega, Int64.toInt_inj.mp ?_⟩
  rw [pk_lT (by omega)]
  omega
theorem pk_loop {σ : Type} (W : Nat → Nat → σ → Prop) (I : Nat → σ → Prop) (e i0 : Nat) (s : σ) (hi : i0 ≤ e) (h0 : I i0 s) (hx : ∀ n s, I e s → W (n + 1) e s)
    (hs : ∀ n i s, i < e → I i s → (∀ s', I (i + 1) s' → W n (i + 1) s') → W (n + 1) i s) : ∃ n, W n i0 s :=
  ⟨e + 1, loop_i W I e hx hs (e + 1) i0 s hi (by omega) h0⟩
theorem pk_loopD {σ : Type} (W : Nat → Nat → σ → Prop) (I : Nat → σ → Prop) (hx : ∀ n s, I 0 s → W (n + 1) 0 s)
    (hs : ∀ n i s, I (i + 1) s → (∀ s', I i s' → W n i s') → W (n + 1) (i + 1) s) : ∀ (e : Nat) (s : σ), I e s → W (e + 1) e s := by
  intro e
  induction e with
  | zero => exact fun s h => hx 0 s h
  | succ e ih => exact fun s h => hs (e + 1) e s h (fun s' h' => ih s' h')
theorem pk_least (P : Nat → Prop) (h : ∃ k, P k) : ∃ k, P k ∧ ∀ j, j < k → ¬ P j := by
  obtain ⟨k, hk⟩ := h
  induction k using Nat.strongRecOn with
  | ind k ih =>
    by_cases e : ∃ j, j < k ∧ P j
    · obtain ⟨j, hj, pj⟩ := e
      exact ih j hj pj
    · exact ⟨k, hk, fun j hj pj => e ⟨j, hj, pj⟩⟩
theorem s_l : ∀ n, n < 32 → ((nI n &&& 31).toBitVec.smod 32).toNat = n := by decide +kernel
theorem s_u : ∀ n, n < 32 → (((nI n).toUInt32 &&& Int32.toUInt32 31).toBitVec % 32).toNat = n := by decide +kernel
theorem wb_tb (n : Nat) : (lN n).toBitVec = BitVec.ofNat 64 n := rfl
theorem wb_inj {a b : Int64} (h : a.toBitVec = b.toBitVec) : a = b := Int64.toBitVec_inj.mp h
theorem wb_tn {n : Nat} (h : n < 2 ^ 64) : (lN n).toBitVec.toNat = n := by rw [wb_tb, BitVec.toNat_ofNat, Nat.mod_eq_of_lt h]
theorem wb_of (x : Int64) : ∃ n, n < 2 ^ 64 ∧ x = lN n := ⟨x.toBitVec.toNat, x.toBitVec.isLt, wb_inj (by rw [wb_tb]; simp)⟩
theorem wb_of32 (x : Int32) : ∃ n, n < 2 ^ 32 ∧ x = nI n := ⟨x.toBitVec.toNat, x.toBitVec.isLt, Int32.toBitVec_inj.mp (by show _ = BitVec.ofNat 32 _; simp)⟩
theorem wb_c : ∀ k, k < 64 → ((nI k).toInt64 &&& 63) = lN k := by decide +kernel
theorem wb_cu : ∀ k, k < 64 → ((nI k).toInt64.toUInt64 &&& Int64.toUInt64 63) = UInt64.ofNat k := by decide +kernel
theorem wb_sm : ∀ k, k < 64 → (BitVec.ofNat 64 k).smod 64 = BitVec.ofNat 64 k := by decide +kernel
theorem wb_pw {a b : Nat} (h : a ≤ b) : 2 ^ b = 2 ^ a * 2 ^ (b - a) := by rw [← Nat.pow_add]; congr 1; omega
theorem wb_lt2 {a b : Nat} (h : a < b) : 2 ^ a < 2 ^ b := Nat.pow_lt_pow_right (by decide) h
theorem wb_mod (n : Nat) : lN n = lN (n % 2 ^ 64) := wb_inj (by rw [wb_tb, wb_tb]; apply BitVec.eq_of_toNat_eq; rw [BitVec.toNat_ofNat, BitVec.toNat_ofNat, Nat.mod_mod])
theorem wb_shr {n k : Nat} (hn : n < 2 ^ 64) (hk : k < 64) : ((lN n).toUInt64 >>> ((nI k).toInt64.toUInt64 &&& Int64.toUInt64 63)).toInt64 = lN (n / 2 ^ k) := by
  rw [wb_cu k hk]
  apply wb_inj
  apply BitVec.eq_of_toNat_eq
  show ((lN n).toUInt64 >>> UInt64.ofNat k).toNat = (BitVec.ofNat 64 _).toNat
  have h1 : (UInt64.ofNat k).toNat = k := by
    show (BitVec.ofNat 64 k).toNat = k
    rw [BitVec.toNat_ofNat, Nat.mod_eq_of_lt (by omega)]
  have h2 : (lN n).toUInt64.toNat = n := wb_tn hn
  rw [UInt64.toNat_shiftRight, h1, h2, Nat.mod_eq_of_lt hk, Nat.shiftRight_eq_div_pow, BitVec.toNat_ofNat, Nat.mod_eq_of_lt (Nat.lt_of_le_of_lt (Nat.div_le_self _ _) hn)]
theorem wb_shl (n : Nat) {k : Nat} (hk : k < 64) : lN n <<< ((nI k).toInt64 &&& 63) = lN (n * 2 ^ k) := by
  rw [wb_c k hk]
  apply wb_inj
  rw [Int64.toBitVec_shiftLeft, wb_tb, wb_tb, wb_tb, wb_sm k hk]
  apply BitVec.eq_of_toNat_eq
  rw [BitVec.shiftLeft_eq', BitVec.toNat_shiftLeft, BitVec.toNat_ofNat, BitVec.toNat_ofNat, BitVec.toNat_ofNat, Nat.mod_eq_of_lt (show k < 2 ^ 64 by omega), Nat.shiftLeft_eq, Nat.mul_mod, Nat.mod_mod, ← Nat.mul_mod]
theorem wb_and {a b : Nat} (ha : a < 2 ^ 64) (hb : b < 2 ^ 64) : lN a &&& lN b = lN (a &&& b) := by
  apply wb_inj
  rw [Int64.toBitVec_and, wb_tb, wb_tb, wb_tb]
  apply BitVec.eq_of_toNat_eq
  rw [BitVec.toNat_and, BitVec.toNat_ofNat, BitVec.toNat_ofNat, BitVec.toNat_ofNat, Nat.mod_eq_of_lt ha, Nat.mod_eq_of_lt hb, Nat.mod_eq_of_lt (Nat.and_lt_two_pow _ hb)]
theorem wb_or {a b : Nat} (ha : a < 2 ^ 64) (hb : b < 2 ^ 64) : lN a ||| lN b = lN (a ||| b) := by
  apply wb_inj
  rw [Int64.toBitVec_or, wb_tb, wb_tb, wb_tb]
  apply BitVec.eq_of_toNat_eq
  rw [BitVec.toNat_or, BitVec.toNat_ofNat, BitVec.toNat_ofNat, BitVec.toNat_ofNat, Nat.mod_eq_of_lt ha, Nat.mod_eq_of_lt hb, Nat.mod_eq_of_lt (Nat.or_lt_two_pow ha hb)]
theorem wb_mask {n k : Nat} (hn : n < 2 ^ 64) (hk : k < 64) : lN n &&& lN (2 ^ k - 1) = lN (n % 2 ^ k) := by
  rw [wb_and hn (by have := wb_lt2 hk; omega), Nat.and_two_pow_sub_one_eq_mod]
theorem u_tn {n : Nat} (h : n < 2 ^ 64) : (UInt64.ofNat n).toNat = n := Nat.mod_eq_of_lt h
theorem g_and {a b c : Nat} (ha : a < 2 ^ 64) (hb : b < 2 ^ 64) (hc : a &&& b = c) : lN a &&& lN b = lN c := by
  subst hc
  have h : UInt64.ofNat a &&& UInt64.ofNat b = UInt64.ofNat (a &&& b) := UInt64.toNat_inj.mp (by rw [UInt64.toNat_and, u_tn ha, u_tn hb, u_tn (Nat.and_lt_two_pow a hb)])
  have h2 := congrArg UInt64.toInt64 h
  exact h2
theorem g_mask {a s p : Nat} (hp : 2 ^ s = p) (hs : s < 64) (ha : a < 2 ^ 64) : lN a &&& lN (p - 1) = lN (a % p) := by
  subst hp
  have := Nat.pow_lt_pow_right (show 1 < 2 by decide) hs
  exact g_and ha (by omega) (Nat.and_two_pow_sub_one_eq_mod a s)
theorem g_or {k p a b : Nat} (hp : 2 ^ k = p) (ha : a < p) (h : b * p + a < 2 ^ 64) : lN (b * p) ||| lN a = lN (b * p + a) := by
  subst hp
  have h1 : b * 2 ^ k ||| a = b * 2 ^ k + a := by rw [← Nat.shiftLeft_eq, Nat.shiftLeft_add_eq_or_of_lt ha]
  have h3 : UInt64.ofNat (b * 2 ^ k) ||| UInt64.ofNat a = UInt64.ofNat (b * 2 ^ k + a) := UInt64.toNat_inj.mp (by rw [UInt64.toNat_or, u_tn (by omega), u_tn (by omega), u_tn h, h1])
  have h2 := congrArg UInt64.toInt64 h3
  exact h2
theorem g_ushr {a k p : Nat} {y : UInt64} (hy : y = UInt64.ofNat k) (hk : k < 64) (hp : 2 ^ k = p) (ha : a < 2 ^ 64) : ((lN a).toUInt64 >>> y).toInt64 = lN (a / p) := by
  subst hy hp
  have h : UInt64.ofNat a >>> UInt64.ofNat k = UInt64.ofNat (a / 2 ^ k) := UInt64.toNat_inj.mp (by rw [UInt64.toNat_shiftRight, u_tn ha, u_tn (by omega), u_tn (Nat.lt_of_le_of_lt (Nat.div_le_self _ _) ha), Nat.mod_eq_of_lt hk, Nat.shiftRight_eq_div_pow])
  have h2 := congrArg UInt64.toInt64 h
  exact h2
theorem g_shl {a k p : Nat} {y : Int64} (hy : y.toBitVec.smod 64 = BitVec.ofNat 64 k) (hk : k < 64) (hp : 2 ^ k = p) (ha : a < 2 ^ 64) : lN a <<< y = lN (a * p) := by
  subst hp
  apply Int64.toBitVec_inj.mp
  rw [Int64.toBitVec_shiftLeft, hy]
  apply BitVec.eq_of_toNat_eq
  have hb : (lN a).toBitVec.toNat = a := Nat.mod_eq_of_lt ha
  have hk' : (BitVec.ofNat 64 k).toNat = k := Nat.mod_eq_of_lt (by omega)
  have h : ((lN a).toBitVec <<< BitVec.ofNat 64 k).toNat = (a * 2 ^ k) % 2 ^ 64 := by simp only [BitVec.shiftLeft_eq', BitVec.toNat_shiftLeft, hb, hk', Nat.shiftLeft_eq]
  exact h
theorem pf_lI {a : Nat} (h : a < 2 ^ 63) : (lN a).toInt = (a : Int) := lg_ofNat_toInt h
theorem pf_shr {a d : Nat} {D : Int64} (hD : (D.toBitVec.smod 64).toNat = d) (h : a < 2 ^ 62) : lN a >>> D = lN (a / 2 ^ d) := by
  have hd : a / 2 ^ d ≤ a := Nat.div_le_self _ _
  apply Int64.toInt_inj.mp
  have e : (lN a >>> D).toInt = (lN a).toInt >>> d := by
    rw [← hD]
    exact BitVec.toInt_sshiftRight ..
  rw [e, Int.shiftRight_eq_div_pow, pf_lI (by omega), pf_lI (by omega)]
  rfl
theorem pf_ushr {a d : Nat} {D : UInt64} (hD : D.toNat % 64 = d) (h : a < 2 ^ 62) : ((lN a).toUInt64 >>> D).toInt64 = lN (a / 2 ^ d) := by
  have hd : a / 2 ^ d ≤ a := Nat.div_le_self _ _
  have e : (lN a).toUInt64 >>> D = UInt64.ofNat (a / 2 ^ d) := UInt64.toNat_inj.mp (by
    rw [UInt64.toNat_shiftRight, hD, Nat.shiftRight_eq_div_pow, UInt64.toNat_ofNat']
    show (UInt64.ofNat a).toNat / 2 ^ d = _
    rw [UInt64.toNat_ofNat', Nat.mod_eq_of_lt (by omega), Nat.mod_eq_of_lt (by omega)])
  rw [e]
  rfl
end
section
/-! the orders of n events as a table, each with its next one -/
def pq_pl : Nat → List Nat → List (List Nat)
  | 0, _ => [[]]
  | k + 1, xs => xs.flatMap (fun x => (pq_pl k (xs.erase x)).map (fun t => x :: t))
def pq_tab (n : Nat) : List (List Nat) := pq_pl n (List.range n)
def pq_N (n : Nat) : Nat := (pq_tab n).length
def pq_pm (n r p : Nat) : Nat := ((pq_tab n).getD r []).getD p 0
theorem pq_pl_s (k : Nat) (xs l : List Nat) : l ∈ pq_pl (k + 1) xs ↔ ∃ x, x ∈ xs ∧ ∃ t, t ∈ pq_pl k (xs.erase x) ∧ x :: t = l := by
  show l ∈ xs.flatMap (fun x => (pq_pl k (xs.erase x)).map (fun t => x :: t)) ↔ _
  rw [List.mem_flatMap]
  constructor
  · rintro ⟨x, hx, hl⟩
    rw [List.mem_map] at hl
    exact ⟨x, hx, hl⟩
  · rintro ⟨x, hx, hl⟩
    exact ⟨x, hx, List.mem_map.mpr hl⟩
theorem pq_pl_len : ∀ (k : Nat) (xs l : List Nat), l ∈ pq_pl k xs → l.length = k := by
  intro k
  induction k with
  | zero =>
    intro xs l h
    have h2 : l = [] := List.mem_singleton.mp h
    rw [h2]; rfl
  | succ k ih =>
    intro xs l h
    obtain ⟨x, _, t, ht, rfl⟩ := (pq_pl_s k xs l).mp h
    rw [List.length_cons, ih _ _ ht]
theorem pq_pl_sub : ∀ (k : Nat) (xs l : List Nat), l ∈ pq_pl k xs → ∀ y, y ∈ l → y ∈ xs := by
  intro k
  induction k with
  | zero =>
    intro xs l h y hy
    have h2 : l = [] := List.mem_singleton.mp h
    rw [h2] at hy
    exact absurd hy List.not_mem_nil
  | succ k ih =>
    intro xs l h y hy
    obtain ⟨x, hx, t, ht, rfl⟩ := (pq_pl_s k xs l).mp h
    rcases List.mem_cons.mp hy with h1 | h1
    · rw [h1]; exact hx
    · exact List.mem_of_mem_erase (ih _ _ ht y h1)
theorem pq_pl_nd : ∀ (k : Nat) (xs l : List Nat), xs.Nodup → l ∈ pq_pl k xs → l.Nodup := by
  intro k
  induction k with
  | zero =>
    intro xs l _ h
    have h2 : l = [] := List.mem_singleton.mp h
    rw [h2]; exact List.nodup_nil
  | succ k ih =>
    intro xs l hn h
    obtain ⟨x, hx, t, ht, rfl⟩ := (pq_pl_s k xs l).mp h
    refine List.nodup_cons.mpr ⟨fun hm => ?_, ih _ _ (hn.erase x) ht⟩
    exact hn.not_mem_erase (pq_pl_sub _ _ _ ht x hm)
theorem pq_pl_all : ∀ (k : Nat) (xs l : List Nat), xs.length = k → l ∈ pq_pl k xs → ∀ x, x ∈ xs → x ∈ l := by
  intro k
  induction k with
  | zero =>
    intro xs l hl _ x hx
    rw [List.length_eq_zero_iff.mp hl] at hx
    exact absurd hx List.not_mem_nil
  | succ k ih =>
    intro xs l hl h x hx
    obtain ⟨y, hy, t, ht, rfl⟩ := (pq_pl_s k xs l).mp h
    by_cases e : x = y
    · rw [e]; exact List.mem_cons_self
    · refine List.mem_cons_of_mem _ (ih (xs.erase y) t ?_ ht x ((List.mem_erase_of_ne e).mpr hx))
      rw [List.length_erase_of_mem hy, hl]; rfl
theorem pq_pl_mem : ∀ (k : Nat) (xs l : List Nat), l.length = k → l.Nodup → (∀ y, y ∈ l → y ∈ xs) → l ∈ pq_pl k xs := by
  intro k
  induction k with
  | zero =>
    intro xs l hl _ _
    rw [List.length_eq_zero_iff.mp hl]
    exact List.mem_singleton.mpr rfl
  | succ k ih =>
    intro xs l hl hn hs
    cases l with
    | nil => exact absurd hl (by simp)
    | cons y t =>
      refine (pq_pl_s k xs _).mpr ⟨y, hs y List.mem_cons_self, t, ?_, rfl⟩
      have h2 := List.nodup_cons.mp hn
      refine ih _ _ (by simpa using hl) h2.2 (fun z hz => ?_)
      have e : z ≠ y := fun e => h2.1 (e ▸ hz)
      exact (List.mem_erase_of_ne e).mpr (hs z (List.mem_cons_of_mem _ hz))
theorem pq_row {n r : Nat} (h : r < pq_N n) : (pq_tab n).getD r [] ∈ pq_tab n := by
  unfold pq_N at h
  rw [List.getD_eq_getElem?_getD, List.getElem?_eq_getElem h]
  exact List.getElem_mem h
theorem pq_get {l : List Nat} {p : Nat} (h : p < l.length) : l.getD p 0 = l[p] := by
  rw [List.getD_eq_getElem?_getD, List.getElem?_eq_getElem h]; rfl
theorem pq_rlen {n r : Nat} (h : r < pq_N n) : ((pq_tab n).getD r []).length = n := pq_pl_len _ _ _ (pq_row h)
theorem pq_lt {n r p : Nat} (h : r < pq_N n) (hp : p < n) : pq_pm n r p < n := by
  unfold pq_pm
  have hl : p < ((pq_tab n).getD r []).length := by rw [pq_rlen h]; exact hp
  rw [pq_get hl]
  exact List.mem_range.mp (pq_pl_sub _ _ _ (pq_row h) _ (List.getElem_mem hl))
theorem pq_inj {n r p q : Nat} (h : r < pq_N n) (hp : p < n) (hq : q < n) (e : pq_pm n r p = pq_pm n r q) : p = q := by
  unfold pq_pm at e
  have hl : p < ((pq_tab n).getD r []).length := by rw [pq_rlen h]; exact hp
  have hl2 : q < ((pq_tab n).getD r []).length := by rw [pq_rlen h]; exact hq
  rw [pq_get hl, pq_get hl2] at e
  have hn : ((pq_tab n).getD r []).Nodup := pq_pl_nd _ _ _ List.nodup_range (pq_row h)
  have hn2 := List.pairwise_iff_getElem.mp hn
  rcases Nat.lt_trichotomy p q with c | c | c
  · exact absurd e (hn2 p q hl hl2 c)
  · exact c
  · exact absurd e.symm (hn2 q p hl2 hl c)
theorem pq_sur {n r x : Nat} (h : r < pq_N n) (hx : x < n) : ∃ p, p < n ∧ pq_pm n r p = x := by
  have hm : x ∈ (pq_tab n).getD r [] := pq_pl_all _ _ _ List.length_range (pq_row h) x (List.mem_range.mpr hx)
  obtain ⟨i, hi, e⟩ := List.getElem_of_mem hm
  refine ⟨i, by rw [pq_rlen h] at hi; exact hi, ?_⟩
  unfold pq_pm
  rw [pq_get hi]; exact e
theorem pq_com {n : Nat} (l : List Nat) (hl : l.length = n) (hn : l.Nodup) (hs : ∀ y, y ∈ l → y < n) : ∃ r, r < pq_N n ∧ ∀ p, pq_pm n r p = l.getD p 0 := by
  have hm : l ∈ pq_tab n := pq_pl_mem n (List.range n) l hl hn (fun y hy => List.mem_range.mpr (hs y hy))
  obtain ⟨i, hi, e⟩ := List.getElem_of_mem hm
  refine ⟨i, hi, fun p => ?_⟩
  unfold pq_pm
  rw [List.getD_eq_getElem?_getD (l := pq_tab n), List.getElem?_eq_getElem hi, e]; rfl
/-! the next order -/
def pq_rise (g : Nat → Nat) : Nat → Option Nat
  | 0 => none
  | k + 1 => if g k < g (k + 1) then some k else pq_rise g k
def pq_sw (g : Nat → Nat) (i : Nat) : Nat → Nat
  | 0 => 0
  | k + 1 => if g i < g k then k else pq_sw g i k
def pq_nf (n i j : Nat) (g : Nat → Nat) (p : Nat) : Nat :=
  if p < i then g p else if p = i then g j else if n + i - p = j then g i else g (n + i - p)
def pq_st (n : Nat) (l l' : List Nat) : Bool :=
  match pq_rise (fun p => l.getD p 0) (n - 1) with
  | none => false
  | some i => (List.range n).all (fun p => l'.getD p 0 == pq_nf n i (pq_sw (fun p => l.getD p 0) i n) (fun p => l.getD p 0) p)
def pq_ck (n : Nat) : List (List Nat) → Bool
  | [] => true
  | l :: t =>
    match t with
    | [] => (pq_rise (fun p => l.getD p 0) (n - 1)).isNone
    | l' :: _ => pq_st n l l' && pq_ck n t
theorem pq_ck_at (n : Nat) : ∀ (T : List (List Nat)), pq_ck n T = true → ∀ r, r + 1 < T.length → pq_st n (T.getD r []) (T.getD (r + 1) []) = true := by
  intro T
  induction T with
  | nil => intro _ r h; exact absurd h (by simp)
  | cons l t ih =>
    intro h r hr
    cases t with
    | nil => exact absurd hr (by simp)
    | cons l' t' =>
      have h2 : (pq_st n l l' && pq_ck n (l' :: t')) = true := h
      rw [Bool.and_eq_true] at h2
      cases r with
      | zero => exact h2.1
      | succ r => exact ih h2.2 r (by simpa using hr)
theorem pq_ck_last (n : Nat) : ∀ (T : List (List Nat)), pq_ck n T = true → ∀ r, r + 1 = T.length → pq_rise (fun p => (T.getD r []).getD p 0) (n - 1) = none := by
  intro T
  induction T with
  | nil => intro _ r h; exact absurd h (by simp)
  | cons l t ih =>
    intro h r hr
    cases t with
    | nil =>
      have e : r = 0 := by simpa using hr
      subst e
      have h2 : (pq_rise (fun p => l.getD p 0) (n - 1)).isNone = true := h
      exact Option.isNone_iff_eq_none.mp h2
    | cons l' t' =>
      have h2 : (pq_st n l l' && pq_ck n (l' :: t')) = true := h
      rw [Bool.and_eq_true] at h2
      cases r with
      | zero => exact absurd hr (by simp)
      | succ r => exact ih h2.2 r (by simpa using hr)
theorem pq_ck0 : pq_ck 0 (pq_tab 0) = true := by decide +kernel
theorem pq_ck1 : pq_ck 1 (pq_tab 1) = true := by decide +kernel
theorem pq_ck2 : pq_ck 2 (pq_tab 2) = true := by decide +kernel
theorem pq_ck3 : pq_ck 3 (pq_tab 3) = true := by decide +kernel
theorem pq_ck4 : pq_ck 4 (pq_tab 4) = true := by decide +kernel
theorem pq_ck5 : pq_ck 5 (pq_tab 5) = true := by decide +kernel
theorem pq_ck6 : pq_ck 6 (pq_tab 6) = true := by decide +kernel
theorem pq_n7 {n : Nat} (h : n ≤ 6) {P : Nat → Prop} (h0 : P 0) (h1 : P 1) (h2 : P 2) (h3 : P 3) (h4 : P 4) (h5 : P 5) (h6 : P 6) : P n := by
  rcases n with _ | _ | _ | _ | _ | _ | _ | n
  · exact h0
  · exact h1
  · exact h2
  · exact h3
  · exact h4
  · exact h5
  · exact h6
  · omega
theorem pq_ckn {n : Nat} (h : n ≤ 6) : pq_ck n (pq_tab n) = true := pq_n7 (P := fun n => pq_ck n (pq_tab n) = true) h pq_ck0 pq_ck1 pq_ck2 pq_ck3 pq_ck4 pq_ck5 pq_ck6
theorem pq_N0 : pq_N 0 = 1 := by decide +kernel
theorem pq_N1 : pq_N 1 = 1 := by decide +kernel
theorem pq_N2 : pq_N 2 = 2 := by decide +kernel
theorem pq_N3 : pq_N 3 = 6 := by decide +kernel
theorem pq_N4 : pq_N 4 = 24 := by decide +kernel
theorem pq_N5 : pq_N 5 = 120 := by decide +kernel
theorem pq_N6 : pq_N 6 = 720 := by decide +kernel
theorem pq_Nb {n : Nat} (h : n ≤ 6) : 0 < pq_N n ∧ pq_N n ≤ 720 :=
  pq_n7 (P := fun n => 0 < pq_N n ∧ pq_N n ≤ 720) h (by rw [pq_N0]; omega) (by rw [pq_N1]; omega) (by rw [pq_N2]; omega) (by rw [pq_N3]; omega) (by rw [pq_N4]; omega) (by rw [pq_N5]; omega) (by rw [pq_N6]; omega)
def pq_id (n : Nat) : Bool := (List.range n).all (fun p => pq_pm n 0 p == p)
theorem pq_idn {n : Nat} (h : n ≤ 6) : pq_id n = true := pq_n7 (P := fun n => pq_id n = true) h (by decide +kernel) (by decide +kernel) (by decide +kernel) (by decide +kernel) (by decide +kernel) (by decide +kernel) (by decide +kernel)
theorem pq_first {n p : Nat} (h : n ≤ 6) (hp : p < n) : pq_pm n 0 p = p := by
  have e := pq_idn h
  unfold pq_id at e
  rw [List.all_eq_true] at e
  exact eq_of_beq (e p (List.mem_range.mpr hp))
theorem pq_step {n r : Nat} (h : n ≤ 6) (hr : r + 1 < pq_N n) : ∃ i, pq_rise (pq_pm n r) (n - 1) = some i ∧ ∀ p, p < n → pq_pm n (r + 1) p = pq_nf n i (pq_sw (pq_pm n r) i n) (pq_pm n r) p := by
  have e := pq_ck_at n _ (pq_ckn h) r hr
  unfold pq_st at e
  split at e
  · exact absurd e (by simp)
  · rename_i i hi
    refine ⟨i, hi, fun p hp => ?_⟩
    rw [List.all_eq_true] at e
    exact eq_of_beq (e p (List.mem_range.mpr hp))
theorem pq_end {n r : Nat} (h : n ≤ 6) (hr : r + 1 = pq_N n) : pq_rise (pq_pm n r) (n - 1) = none := pq_ck_last n _ (pq_ckn h) r hr
end
section
/-! the closed order, the runs, what holds in every run -/
def od_W (M : Nat → Nat → Prop) : Nat → Nat → Nat → Prop
  | 0 => M
  | k + 1 => fun a b => od_W M k a b ∨ (od_W M k a k ∧ od_W M k k b)
theorem od_up {M : Nat → Nat → Prop} {a b : Nat} (h : M a b) : ∀ k, od_W M k a b := by
  intro k
  induction k with
  | zero => exact h
  | succ k ih => exact Or.inl ih
theorem od_fr {M : Nat → Nat → Prop} {k a : Nat} : od_W M (k + 1) a k ↔ od_W M k a k :=
  ⟨fun h => h.elim id (fun z => z.1), Or.inl⟩
theorem od_fl {M : Nat → Nat → Prop} {k b : Nat} : od_W M (k + 1) k b ↔ od_W M k k b :=
  ⟨fun h => h.elim id (fun z => z.2), Or.inl⟩
theorem od_tr {M : Nat → Nat → Prop} : ∀ k m a b, m < k → od_W M k a m → od_W M k m b → od_W M k a b := by
  intro k
  induction k with
  | zero => intro m a b h; omega
  | succ k ih =>
    intro m a b hm h1 h2
    by_cases e : m = k
    · subst e
      exact Or.inr ⟨od_fr.mp h1, od_fl.mp h2⟩
    · have hk : m < k := by omega
      rcases h1 with h1 | ⟨h1, h1'⟩
      · rcases h2 with h2 | ⟨h2, h2'⟩
        · exact Or.inl (ih m a b hk h1 h2)
        · exact Or.inr ⟨ih m a k hk h1 h2, h2'⟩
      · rcases h2 with h2 | ⟨_, h2'⟩
        · exact Or.inr ⟨h1, ih m k b hk h1' h2⟩
        · exact Or.inr ⟨h1, h2'⟩
theorem od_least {M R : Nat → Nat → Prop} (hM : ∀ a b, M a b → R a b) (ht : ∀ a m b, R a m → R m b → R a b) : ∀ k a b, od_W M k a b → R a b := by
  intro k
  induction k with
  | zero => exact hM
  | succ k ih =>
    intro a b h
    rcases h with h | ⟨h, h'⟩
    · exact ih a b h
    · exact ht a k b (ih _ _ h) (ih _ _ h')
theorem od_lt {M : Nat → Nat → Prop} {n : Nat} (hM : ∀ a b, M a b → a < b ∧ b < n) {k a b : Nat} (h : od_W M k a b) : a < b ∧ b < n :=
  od_least (R := fun a b => a < b ∧ b < n) hM (fun a m b h1 h2 => ⟨Nat.lt_trans h1.1 h2.1, h2.2⟩) k a b h
/-- a run: no pair stands against M -/
def od_ok (M : Nat → Nat → Prop) (n : Nat) (g : Nat → Nat) : Prop := ∀ p q, p < q → q < n → ¬ M (g q) (g p)
def od_bef (n : Nat) (g : Nat → Nat) (a b : Nat) : Prop := ∃ p q, p < q ∧ q < n ∧ g p = a ∧ g q = b
theorem od_okW {M : Nat → Nat → Prop} {n r : Nat} (hM : ∀ a b, M a b → a < b ∧ b < n) (hr : r < pq_N n) : od_ok (od_W M n) n (pq_pm n r) ↔ od_ok M n (pq_pm n r) := by
  constructor
  · exact fun h p q hp hq z => h p q hp hq (od_up z n)
  · intro h p q hp hq z
    have hR : ∀ a b, od_W M n a b → (b < n ∧ ∀ i j, i < n → j < n → pq_pm n r i = a → pq_pm n r j = b → i < j) := by
      refine od_least (R := fun a b => (b < n ∧ ∀ i j, i < n → j < n → pq_pm n r i = a → pq_pm n r j = b → i < j)) ?_ ?_ n
      · intro a b hab
        refine ⟨(hM a b hab).2, fun i j hi hj ei ej => ?_⟩
        rcases Nat.lt_trichotomy i j with c | c | c
        · exact c
        · subst c
          have := (hM a b hab).1
          omega
        · subst ei ej
          exact absurd hab (h j i c hi)
      · intro a m b h1 h2
        refine ⟨h2.1, fun i j hi hj ei ej => ?_⟩
        obtain ⟨k, hk, ek⟩ := pq_sur hr h1.1
        exact Nat.lt_trans (h1.2 i k hi hk ei ek) (h2.2 k j hk hj ek ej)
    have := (hR _ _ z).2 q p hq (by omega) rfl rfl
    omega
theorem od_befof {M : Nat → Nat → Prop} {n r a b : Nat} (hM : ∀ a b, M a b → a < b ∧ b < n) (hr : r < pq_N n) (ho : od_ok M n (pq_pm n r)) (hw : od_W M n a b) (ha : a < n) (hb : b < n) : od_bef n (pq_pm n r) a b := by
  obtain ⟨p, hp, ep⟩ := pq_sur hr ha
  obtain ⟨q, hq, eq⟩ := pq_sur hr hb
  have hl := od_lt hM hw
  rcases Nat.lt_trichotomy p q with c | c | c
  · exact ⟨p, q, c, hq, ep, eq⟩
  · subst c
    omega
  · have := (od_okW hM hr).mpr ho q p c hp
    rw [ep, eq] at this
    exact absurd hw this
theorem od_nbef {n r p q : Nat} (hr : r < pq_N n) (hp : p < n) (hq : q < n) (h : q ≤ p) : ¬ od_bef n (pq_pm n r) (pq_pm n r p) (pq_pm n r q) := by
  rintro ⟨i, j, hij, hj, ei, ej⟩
  have e1 := pq_inj hr (by omega) hp ei
  have e2 := pq_inj hr hj hq ej
  omega
/-- what no chain forces, some run has otherwise -/
theorem od_ex {M : Nat → Nat → Prop} {n a b : Nat} (hM : ∀ a b, M a b → a < b ∧ b < n) (ha : a < n) (hb : b < n) (hw : ¬ od_W M n a b) : ∃ r, r < pq_N n ∧ od_ok M n (pq_pm n r) ∧ ¬ od_bef n (pq_pm n r) a b := by
  have hD : ∃ D : Nat → Bool, ∀ x, D x = true ↔ (od_W M n x b ∨ x = b) :=
    ⟨fun x => @decide (od_W M n x b ∨ x = b) (Classical.propDecidable _), fun x => @decide_eq_true_iff _ (Classical.propDecidable _)⟩
  obtain ⟨D, hD⟩ := hD
  have hP : ((List.range n).filter D ++ (List.range n).filter (fun x => !D x)).Perm (List.range n) := List.filter_append_perm D _
  generalize hl : (List.range n).filter D ++ (List.range n).filter (fun x => !D x) = l at hP
  have hlen : l.length = n := by rw [hP.length_eq, List.length_range]
  have hnd : l.Nodup := hP.nodup_iff.mpr List.nodup_range
  have hmem : ∀ y, y ∈ l → y < n := fun y hy => List.mem_range.mp (hP.mem_iff.mp hy)
  have hpw : l.Pairwise (fun x y => ¬ M y x ∧ (D y = true → D x = true)) := by
    rw [← hl, List.pairwise_append]
    refine ⟨?_, ?_, ?_⟩
    · have h1 : ((List.range n).filter D).Pairwise (· < ·) := List.Pairwise.filter D List.pairwise_lt_range
      refine List.Pairwise.imp_of_mem ?_ h1
      intro x y hx hy hxy
      refine ⟨fun z => ?_, fun _ => (List.mem_filter.mp hx).2⟩
      have := (hM _ _ z).1
      omega
    · have h1 : ((List.range n).filter (fun x => !D x)).Pairwise (· < ·) := List.Pairwise.filter _ List.pairwise_lt_range
      refine List.Pairwise.imp_of_mem ?_ h1
      intro x y hx hy hxy
      refine ⟨fun z => ?_, fun z => ?_⟩
      · have := (hM _ _ z).1
        omega
      · have := (List.mem_filter.mp hy).2
        rw [z] at this
        exact absurd this (by simp)
    · intro x hx y hy
      have h1 := (List.mem_filter.mp hx).2
      have h2 := (List.mem_filter.mp hy).2
      have h3 : ¬ D y = true := by
        intro z; rw [z] at h2; exact absurd h2 (by simp)
      refine ⟨fun z => h3 ((hD y).mpr (Or.inl ?_)), fun z => absurd z h3⟩
      rcases (hD x).mp h1 with h4 | h4
      · exact od_tr n x y b (Nat.lt_trans (od_lt hM h4).1 (od_lt hM h4).2) (od_up z n) h4
      · rw [← h4]; exact od_up z n
  obtain ⟨r, hr, hpm⟩ := pq_com l hlen hnd hmem
  refine ⟨r, hr, ?_, ?_⟩
  · intro p q hpq hq
    rw [hpm, hpm, pq_get (by omega : p < l.length), pq_get (by omega : q < l.length)]
    exact (List.pairwise_iff_getElem.mp hpw p q (by omega) (by omega) hpq).1
  · rintro ⟨p, q, hpq, hq, ep, eq⟩
    rw [hpm, pq_get (by omega : p < l.length)] at ep
    rw [hpm, pq_get (by omega : q < l.length)] at eq
    have h5 := (List.pairwise_iff_getElem.mp hpw p q (by omega) (by omega) hpq).2
    rw [ep, eq] at h5
    rcases (hD a).mp (h5 ((hD b).mpr (Or.inr rfl))) with h6 | h6
    · exact hw h6
    · have h7 := List.pairwise_iff_getElem.mp hnd p q (by omega) (by omega) hpq
      rw [ep, eq] at h7
      exact h7 h6
theorem od_alw {M : Nat → Nat → Prop} {n a b : Nat} (hM : ∀ a b, M a b → a < b ∧ b < n) (ha : a < n) (hb : b < n) : od_W M n a b ↔ ∀ r, r < pq_N n → od_ok M n (pq_pm n r) → od_bef n (pq_pm n r) a b := by
  constructor
  · exact fun h r hr ho => od_befof hM hr ho h ha hb
  · intro h
    rcases Classical.em (od_W M n a b) with c | c
    · exact c
    · obtain ⟨r, hr, ho, hn⟩ := od_ex hM ha hb c
      exact absurd (h r hr ho) hn
end
section
/-! the list of outcomes, round by round: count, keys, the round of the least run -/
def ol_ins (j x : Nat) (K : Nat → Nat) (i : Nat) : Nat := if i < j then K i else if i = j then x else K (i - 1)
theorem ol_ins_lt {j x i : Nat} {K : Nat → Nat} (h : i < j) : ol_ins j x K i = K i := if_pos h
theorem ol_ins_eq {j x : Nat} {K : Nat → Nat} : ol_ins j x K j = x := by
  unfold ol_ins; rw [if_neg (Nat.lt_irrefl j), if_pos rfl]
theorem ol_ins_gt {j x i : Nat} {K : Nat → Nat} (h : j < i) : ol_ins j x K i = K (i - 1) := by
  unfold ol_ins; rw [if_neg (by omega), if_neg (by omega)]
def ol_ps (K : Nat → Nat) (x : Nat) : Nat → Nat
  | 0 => 0
  | m + 1 => if x < K m then ol_ps K x m else m + 1
theorem ol_ps_le (K : Nat → Nat) (x : Nat) : ∀ m, ol_ps K x m ≤ m := by
  intro m
  induction m with
  | zero => exact Nat.le_refl 0
  | succ m ih =>
    show (if x < K m then ol_ps K x m else m + 1) ≤ m + 1
    split <;> omega
theorem ol_ps_hi (K : Nat → Nat) (x : Nat) : ∀ m i, ol_ps K x m ≤ i → i < m → x < K i := by
  intro m
  induction m with
  | zero => intro i _ h; omega
  | succ m ih =>
    intro i h hi
    have h2 : (if x < K m then ol_ps K x m else m + 1) ≤ i := h
    by_cases c : x < K m
    · rw [if_pos c] at h2
      by_cases e : i = m
      · rw [e]; exact c
      · exact ih i h2 (by omega)
    · rw [if_neg c] at h2
      omega
theorem ol_ps_lo (K : Nat → Nat) (x : Nat) : ∀ m, 0 < ol_ps K x m → K (ol_ps K x m - 1) ≤ x := by
  intro m
  induction m with
  | zero => intro h; exact absurd h (Nat.lt_irrefl 0)
  | succ m ih =>
    intro h
    have e : ol_ps K x (m + 1) = if x < K m then ol_ps K x m else m + 1 := rfl
    by_cases c : x < K m
    · rw [if_pos c] at e
      rw [e] at h ⊢
      exact ih h
    · rw [if_neg c] at e
      rw [e]
      exact Nat.le_of_not_lt c
noncomputable def ol_if {α : Type} (c : Prop) (a b : α) : α := @ite α c (Classical.propDecidable c) a b
theorem ol_if_t {α : Type} {c : Prop} {a b : α} (h : c) : ol_if c a b = a := by unfold ol_if; exact if_pos h
theorem ol_if_f {α : Type} {c : Prop} {a b : α} (h : ¬ c) : ol_if c a b = b := by unfold ol_if; exact if_neg h
def ol_new (ok : Nat → Prop) (key : Nat → Nat) (r m : Nat) (K : Nat → Nat) : Prop := ok r ∧ (∀ k, k < m → K k ≠ key r) ∧ m < 180
noncomputable def ol_so (ok : Nat → Prop) (key : Nat → Nat) : Nat → Nat × (Nat → Nat) × (Nat → Nat)
  | 0 => (0, fun _ => 0, fun _ => 0)
  | r + 1 => ol_if (ol_new ok key r (ol_so ok key r).1 (ol_so ok key r).2.1)
      ((ol_so ok key r).1 + 1, ol_ins (ol_ps (ol_so ok key r).2.1 (key r) (ol_so ok key r).1) (key r) (ol_so ok key r).2.1, ol_ins (ol_ps (ol_so ok key r).2.1 (key r) (ol_so ok key r).1) r (ol_so ok key r).2.2)
      (ol_so ok key r)
theorem ol_so_n {ok : Nat → Prop} {key : Nat → Nat} {r m : Nat} {K R : Nat → Nat} (e : ol_so ok key r = (m, K, R)) (h : ¬ ol_new ok key r m K) : ol_so ok key (r + 1) = (m, K, R) := by
  rw [ol_so, e]; exact ol_if_f h
theorem ol_so_y {ok : Nat → Prop} {key : Nat → Nat} {r m : Nat} {K R : Nat → Nat} (e : ol_so ok key r = (m, K, R)) (h : ol_new ok key r m K) : ol_so ok key (r + 1) = (m + 1, ol_ins (ol_ps K (key r) m) (key r) K, ol_ins (ol_ps K (key r) m) r R) := by
  rw [ol_so, e]; exact ol_if_t h
def ol_srt (m : Nat) (K : Nat → Nat) : Prop := ∀ i k, i < k → k < m → K i < K k
def ol_inv (ok : Nat → Prop) (key : Nat → Nat) (r m : Nat) (K R : Nat → Nat) : Prop :=
  ol_srt m K ∧ m ≤ 180 ∧ (m < 180 → ∀ s, s < r → ok s → ∃ k, k < m ∧ K k = key s) ∧ (∀ k, k < m → R k < r ∧ ok (R k) ∧ K k = key (R k))
theorem ol_srt_le {m : Nat} {K : Nat → Nat} (h : ol_srt m K) {i k : Nat} (hi : i ≤ k) (hk : k < m) : K i ≤ K k := by
  by_cases e : i = k
  · rw [e]; exact Nat.le_refl _
  · exact Nat.le_of_lt (h i k (by omega) hk)
theorem ol_ps_all {m x : Nat} {K : Nat → Nat} (h : ol_srt m K) {i : Nat} (hi : i < ol_ps K x m) : K i ≤ x :=
  Nat.le_trans (ol_srt_le h (show i ≤ ol_ps K x m - 1 by omega) (by have := ol_ps_le K x m; omega)) (ol_ps_lo K x m (by omega))
theorem ol_srt_ins {m x : Nat} {K : Nat → Nat} (h : ol_srt m K) (hn : ∀ k, k < m → K k ≠ x) : ol_srt (m + 1) (ol_ins (ol_ps K x m) x K) := by
  intro i k hik hk
  have hl := ol_ps_le K x m
  rcases Nat.lt_trichotomy k (ol_ps K x m) with c | c | c
  · rw [ol_ins_lt c, ol_ins_lt (by omega)]
    exact h i k hik (by omega)
  · rw [c, ol_ins_eq, ol_ins_lt (by omega)]
    have h1 := ol_ps_all h (x := x) (show i < ol_ps K x m by omega)
    have h2 := hn i (by omega)
    omega
  · rw [ol_ins_gt c]
    have h3 := ol_ps_hi K x m (k - 1) (by omega) (by omega)
    rcases Nat.lt_trichotomy i (ol_ps K x m) with d | d | d
    · rw [ol_ins_lt d]
      exact h i (k - 1) (by omega) (by omega)
    · rw [d, ol_ins_eq]; exact h3
    · rw [ol_ins_gt d]
      exact h (i - 1) (k - 1) (by omega) (by omega)
theorem ol_inv_all (ok : Nat → Prop) (key : Nat → Nat) : ∀ r m K R, ol_so ok key r = (m, K, R) → ol_inv ok key r m K R := by
  intro r
  induction r with
  | zero =>
    intro m K R e
    have e1 : (0, (fun _ => 0), (fun _ => 0)) = (m, K, R) := e
    cases e1
    exact ⟨fun i k _ h => absurd h (Nat.not_lt_zero k), by omega, fun _ s h => absurd h (Nat.not_lt_zero s), fun k h => absurd h (Nat.not_lt_zero k)⟩
  | succ r ih =>
    intro m' K' R' e
    obtain ⟨m, K, R, e0⟩ : ∃ m K R, ol_so ok key r = (m, K, R) := ⟨_, _, _, rfl⟩
    obtain ⟨h1, h2, h3, h4⟩ := ih m K R e0
    rcases Classical.em (ol_new ok key r m K) with c | c
    · rw [ol_so_y e0 c] at e
      cases e
      obtain ⟨c1, c2, c3⟩ := c
      have hl := ol_ps_le K (key r) m
      refine ⟨ol_srt_ins h1 c2, by omega, fun hm s hs ho => ?_, fun k hk => ?_⟩
      · by_cases es : s = r
        · exact ⟨ol_ps K (key r) m, by omega, by rw [ol_ins_eq, es]⟩
        · obtain ⟨k, hk, ek⟩ := h3 c3 s (by omega) ho
          by_cases d : k < ol_ps K (key r) m
          · exact ⟨k, by omega, by rw [ol_ins_lt d]; exact ek⟩
          · exact ⟨k + 1, by omega, by rw [ol_ins_gt (by omega)]; exact ek⟩
      · rcases Nat.lt_trichotomy k (ol_ps K (key r) m) with d | d | d
        · rw [ol_ins_lt d, ol_ins_lt d]
          obtain ⟨q1, q2, q3⟩ := h4 k (by omega)
          exact ⟨by omega, q2, q3⟩
        · rw [d, ol_ins_eq, ol_ins_eq]
          exact ⟨by omega, c1, rfl⟩
        · rw [ol_ins_gt d, ol_ins_gt d]
          obtain ⟨q1, q2, q3⟩ := h4 (k - 1) (by omega)
          exact ⟨by omega, q2, q3⟩
    · rw [ol_so_n e0 c] at e
      cases e
      refine ⟨h1, h2, fun hm s hs ho => ?_, fun k hk => ?_⟩
      · by_cases es : s = r
        · subst es
          rcases Classical.em (∃ k, k < m' ∧ K' k = key s) with d | d
          · exact d
          · exact absurd ⟨ho, fun k hk ek => d ⟨k, hk, ek⟩, hm⟩ c
        · exact h3 hm s (by omega) ho
      · obtain ⟨q1, q2, q3⟩ := h4 k hk
        exact ⟨by omega, q2, q3⟩
/-- the first place whose key is not below x -/
theorem ol_fst {m x q : Nat} {K : Nat → Nat} (h : ol_srt m K) (hq : q ≤ m) (hlo : ∀ i, i < q → K i < x) (hhi : q < m → x ≤ K q) (hne : q = m ∨ K q ≠ x) : (∀ k, k < m → K k ≠ x) ∧ ol_ps K x m = q := by
  have hgt : ∀ k, q ≤ k → k < m → x < K k := by
    intro k hk hm
    have h1 := hhi (by omega)
    have h2 := ol_srt_le h hk hm
    rcases hne with e | e
    · omega
    · omega
  constructor
  · intro k hk e
    by_cases c : k < q
    · have := hlo k c; omega
    · have := hgt k (by omega) hk; omega
  · have hl := ol_ps_le K x m
    rcases Nat.lt_trichotomy (ol_ps K x m) q with c | c | c
    · have h1 := hlo _ c
      have h2 := ol_ps_hi K x m _ (Nat.le_refl _) (by omega)
      omega
    · exact c
    · have h1 := ol_ps_lo K x m (by omega)
      have h2 := hgt (ol_ps K x m - 1) (by omega) (by omega)
      omega
/-! which pairs were seen -/
def ol_pr (ok : Nat → Prop) (key : Nat → Nat) (bef : Nat → Nat → Nat → Prop) (r m : Nat) (K S : Nat → Nat) : Prop :=
  ∀ k, k < m → S k < 2 ^ 36 ∧ ∀ a b, a < 6 → b < 6 → ((S k).testBit (a * 6 + b) = true ↔ ∃ s, s < r ∧ ok s ∧ key s = K k ∧ bef s a b)
theorem ol_ex_s {r : Nat} {P : Nat → Prop} : (∃ s, s < r + 1 ∧ P s) ↔ ((∃ s, s < r ∧ P s) ∨ P r) := by
  constructor
  · rintro ⟨s, hs, h⟩
    by_cases e : s = r
    · subst e; exact Or.inr h
    · exact Or.inl ⟨s, by omega, h⟩
  · rintro (⟨s, hs, h⟩ | h)
    · exact ⟨s, by omega, h⟩
    · exact ⟨r, by omega, h⟩
/-- a round that no place of the list has -/
theorem ol_pr_n {ok : Nat → Prop} {key : Nat → Nat} {bef : Nat → Nat → Nat → Prop} {r m : Nat} {K S : Nat → Nat} (h : ol_pr ok key bef r m K S) (hn : ok r → ∀ k, k < m → K k ≠ key r) : ol_pr ok key bef (r + 1) m K S := by
  intro k hk
  refine ⟨(h k hk).1, fun a b ha hb => ?_⟩
  rw [(h k hk).2 a b ha hb, ol_ex_s]
  exact ⟨Or.inl, fun z => z.elim id (fun z => absurd z.2.1.symm (hn z.1 k hk))⟩
theorem ol_pr_f {ok : Nat → Prop} {key : Nat → Nat} {bef : Nat → Nat → Nat → Prop} {r m j B : Nat} {K S S' : Nat → Nat} (hs : ol_srt m K) (h : ol_pr ok key bef r m K S) (ho : ok r) (hj : j < m) (ej : K j = key r)
    (hB : B < 2 ^ 36 ∧ ∀ a b, a < 6 → b < 6 → (B.testBit (a * 6 + b) = true ↔ bef r a b)) (e1 : S' j = S j ||| B) (e2 : ∀ k, k < m → k ≠ j → S' k = S k) : ol_pr ok key bef (r + 1) m K S' := by
  intro k hk
  by_cases e : k = j
  · subst e
    rw [e1]
    refine ⟨Nat.or_lt_two_pow (h k hk).1 hB.1, fun a b ha hb => ?_⟩
    rw [Nat.testBit_or, Bool.or_eq_true, (h k hk).2 a b ha hb, hB.2 a b ha hb, ol_ex_s]
    exact ⟨fun z => z.elim Or.inl (fun z => Or.inr ⟨ho, ej.symm, z⟩), fun z => z.elim Or.inl (fun z => Or.inr z.2.2)⟩
  · rw [e2 k hk e]
    refine ⟨(h k hk).1, fun a b ha hb => ?_⟩
    rw [(h k hk).2 a b ha hb, ol_ex_s]
    refine ⟨Or.inl, fun z => z.elim id (fun z => ?_)⟩
    have e3 : K k = K j := by rw [ej]; exact z.2.1.symm
    rcases Nat.lt_trichotomy k j with c | c | c
    · have := hs k j c hj; omega
    · exact absurd c e
    · have := hs j k c hk; omega
theorem ol_pr_y {ok : Nat → Prop} {key : Nat → Nat} {bef : Nat → Nat → Nat → Prop} {r m j B : Nat} {K S S' : Nat → Nat} (h : ol_pr ok key bef r m K S) (ho : ok r) (hj : j ≤ m) (hn : ∀ k, k < m → K k ≠ key r)
    (hsn : ∀ s, s < r → ok s → ∃ k, k < m ∧ K k = key s)
    (hB : B < 2 ^ 36 ∧ ∀ a b, a < 6 → b < 6 → (B.testBit (a * 6 + b) = true ↔ bef r a b)) (e1 : S' j = B) (e2 : ∀ k, k < j → S' k = S k) (e3 : ∀ k, j < k → k < m + 1 → S' k = S (k - 1)) : ol_pr ok key bef (r + 1) (m + 1) (ol_ins j (key r) K) S' := by
  intro k hk
  rcases Nat.lt_trichotomy k j with c | c | c
  · rw [e2 k c, ol_ins_lt c]
    exact ol_pr_n h (fun _ => hn) k (by omega)
  · subst c
    rw [e1, ol_ins_eq]
    refine ⟨hB.1, fun a b ha hb => ?_⟩
    rw [hB.2 a b ha hb, ol_ex_s]
    refine ⟨fun z => Or.inr ⟨ho, rfl, z⟩, fun z => z.elim (fun ⟨s, hs, os, es, _⟩ => ?_) (fun z => z.2.2)⟩
    obtain ⟨k', hk', ek'⟩ := hsn s hs os
    exact absurd (ek'.trans es) (hn k' hk')
  · rw [e3 k c hk, ol_ins_gt c]
    exact ol_pr_n h (fun _ => hn) (k - 1) (by omega)
end
section
/-! numbers put together of digits -/
def dg_z (d : Nat → Nat) : Nat → Nat
  | 0 => 0
  | k + 1 => dg_z d k * 16 + d k
theorem dg_z_lt (d : Nat → Nat) : ∀ k, (∀ i, i < k → d i < 16) → dg_z d k < 16 ^ k := by
  intro k
  induction k with
  | zero => intro _; exact Nat.one_pos
  | succ k ih =>
    intro h
    have h1 := ih (fun i hi => h i (by omega))
    have h2 := h k (by omega)
    show dg_z d k * 16 + d k < 16 ^ (k + 1)
    rw [Nat.pow_succ]
    omega
theorem dg_z_0 (d : Nat → Nat) : ∀ c a, (∀ i, a ≤ i → i < a + c → d i = 0) → dg_z d (a + c) = dg_z d a * 16 ^ c := by
  intro c
  induction c with
  | zero => intro a _; simp
  | succ c ih =>
    intro a h
    have h1 := ih a (fun i hi hj => h i hi (by omega))
    have h2 := h (a + c) (by omega) (by omega)
    show dg_z d (a + c) * 16 + d (a + c) = _
    rw [h1, h2, Nat.pow_succ, Nat.add_zero, Nat.mul_assoc]
theorem dg_z_c (d d' : Nat → Nat) : ∀ k, (∀ i, i < k → d i = d' i) → dg_z d k = dg_z d' k := by
  intro k
  induction k with
  | zero => intro _; rfl
  | succ k ih =>
    intro h
    show dg_z d k * 16 + d k = dg_z d' k * 16 + d' k
    rw [ih (fun i hi => h i (by omega)), h k (by omega)]
/-- the class's packed run: the first place lowest -/
def dg_x (g : Nat → Nat) : Nat → Nat
  | 0 => 0
  | k + 1 => g k * 16 ^ k + dg_x g k
theorem dg_x_lt (g : Nat → Nat) : ∀ k, (∀ i, i < k → g i < 16) → dg_x g k < 16 ^ k := by
  intro k
  induction k with
  | zero => intro _; exact Nat.one_pos
  | succ k ih =>
    intro h
    have h1 := ih (fun i hi => h i (by omega))
    have h2 : g k * 16 ^ k ≤ 15 * 16 ^ k := Nat.mul_le_mul_right _ (by have := h k (by omega); omega)
    show g k * 16 ^ k + dg_x g k < 16 ^ (k + 1)
    rw [Nat.pow_succ]
    omega
theorem dg_x_d (g : Nat → Nat) : ∀ k, (∀ i, i < k → g i < 16) → ∀ q, q < k → dg_x g k / 16 ^ q % 16 = g q := by
  intro k
  induction k with
  | zero => intro _ q hq; omega
  | succ k ih =>
    intro h q hq
    have hp : 0 < 16 ^ q := Nat.pow_pos (by decide)
    show (g k * 16 ^ k + dg_x g k) / 16 ^ q % 16 = g q
    by_cases e : q = k
    · subst e
      rw [Nat.mul_comm, Nat.mul_add_div hp, Nat.div_eq_of_lt (dg_x_lt g q (fun i hi => h i (by omega))), Nat.add_zero, Nat.mod_eq_of_lt (h q (by omega))]
    · have e1 : g k * 16 ^ k = 16 ^ q * (16 * (g k * 16 ^ (k - q - 1))) := by
        have e2 : 16 ^ k = 16 ^ q * (16 * 16 ^ (k - q - 1)) := by
          rw [← Nat.pow_succ', ← Nat.pow_add]
          exact congrArg (fun z => 16 ^ z) (by omega)
        rw [e2, Nat.mul_left_comm (g k), Nat.mul_left_comm (g k)]
      rw [e1, Nat.mul_add_div hp, Nat.mul_add_mod]
      exact ih (fun i hi => h i (by omega)) q (by omega)
/-- the reference's packed run: the first place highest -/
def dg_y (g : Nat → Nat) : Nat → Nat
  | 0 => 0
  | k + 1 => dg_y g k * 8 + g k
theorem dg_y_lt (g : Nat → Nat) : ∀ k, (∀ i, i < k → g i < 8) → dg_y g k < 8 ^ k := by
  intro k
  induction k with
  | zero => intro _; exact Nat.one_pos
  | succ k ih =>
    intro h
    have h1 := ih (fun i hi => h i (by omega))
    have h2 := h k (by omega)
    show dg_y g k * 8 + g k < 8 ^ (k + 1)
    rw [Nat.pow_succ]
    omega
theorem dg_y_d (g : Nat → Nat) : ∀ k, (∀ i, i < k → g i < 8) → ∀ p, p < k → dg_y g k / 8 ^ (k - 1 - p) % 8 = g p := by
  intro k
  induction k with
  | zero => intro _ q hq; omega
  | succ k ih =>
    intro h p hp
    have hk := h k (by omega)
    show (dg_y g k * 8 + g k) / 8 ^ (k + 1 - 1 - p) % 8 = g p
    by_cases e : p = k
    · subst e
      rw [show p + 1 - 1 - p = 0 by omega, Nat.pow_zero, Nat.div_one]
      omega
    · rw [show k + 1 - 1 - p = (k - 1 - p) + 1 by omega, Nat.pow_succ', ← Nat.div_div_eq_div_mul, show (dg_y g k * 8 + g k) / 8 = dg_y g k by omega]
      exact ih (fun i hi => h i (by omega)) p (by omega)
theorem dg_x_c (g g' : Nat → Nat) : ∀ k, (∀ i, i < k → g i = g' i) → dg_x g k = dg_x g' k := by
  intro k
  induction k with
  | zero => intro _; rfl
  | succ k ih =>
    intro h
    show g k * 16 ^ k + dg_x g k = g' k * 16 ^ k + dg_x g' k
    rw [ih (fun i hi => h i (by omega)), h k (by omega)]
theorem dg_ior {k p a b : Nat} (hp : 2 ^ k = p) (ha : a < p) (h : b * p + a < 2 ^ 32) : nI a ||| nI (b * p) = nI (b * p + a) := by
  subst hp
  have h1 : a ||| b * 2 ^ k = b * 2 ^ k + a := by rw [Nat.or_comm, ← Nat.shiftLeft_eq, Nat.shiftLeft_add_eq_or_of_lt ha]
  apply Int32.toBitVec_inj.mp
  apply BitVec.eq_of_toNat_eq
  rw [Int32.toBitVec_or, BitVec.toNat_or, pk_tn (by omega), pk_tn (by omega), pk_tn h, h1]
theorem dg_bit0 {S i : Nat} (hS : S < 2 ^ 36) (hi : i < 36) : (lN S &&& lN (2 ^ i)) = 0 ↔ S.testBit i = false := by
  have h2 : (2 : Nat) ^ i < 2 ^ 36 := wb_lt2 hi
  have h3 : S &&& 2 ^ i < 2 ^ 36 := Nat.and_lt_two_pow _ h2
  rw [wb_and (by omega) (by omega)]
  rw [show (0 : Int64) = lN 0 from rfl, pk_lEQ (by omega) (by omega)]
  constructor
  · intro h
    have h4 := congrArg (fun z => Nat.testBit z i) h
    simp only [Nat.testBit_and, Nat.zero_testBit, Nat.testBit_two_pow_self, Bool.and_true] at h4
    exact h4
  · intro h
    apply Nat.eq_of_testBit_eq
    intro j
    rw [Nat.testBit_and, Nat.zero_testBit]
    by_cases e : i = j
    · rw [← e, h, Bool.false_and]
    · rw [Nat.testBit_two_pow_of_ne e, Bool.and_false]
end
section
/-! the program: which event must precede which; what a run does -/
def mu_G (th rd wr ft fk fp : Nat → Int32) (a b g : Nat) : Prop :=
  ft g = th a ∧ ¬ fp g ≤ nI a ∧ ¬ nI b < fp g ∧ (fk g = 3 ∨ (fk g = 1 ∧ ¬ rd a = 0) ∨ (fk g = 2 ∧ ¬ wr a = 0 ∧ ¬ wr b = 0))
def mu_F (F : Nat) (th rd wr ft fk fp : Nat → Int32) (a b : Nat) : Prop := ∃ g, g < F ∧ mu_G th rd wr ft fk fp a b g
def mu_D (wr on : Nat → Int32) (a b : Nat) : Prop :=
  on (4 * b + 1) = nI a ∨ on (4 * b + 2) = nI a ∨ (on (4 * b + 3) = nI a ∧ ¬ wr b = 0) ∨ (∃ c, c < b ∧ on (4 * c + 2) = nI a ∧ ¬ wr b = 0)
def mu_A (aq rl : Nat → Int32) (a b : Nat) : Prop := ¬ aq a = 0 ∨ ¬ rl b = 0 ∨ (¬ rl a = 0 ∧ ¬ aq b = 0)
def mu_M (n F : Nat) (th ad rd wr aq rl on ft fk fp : Nat → Int32) (a b : Nat) : Prop :=
  (a < b ∧ b < n) ∧ th a = th b ∧ (ad a = ad b ∨ mu_F F th rd wr ft fk fp a b ∨ mu_A aq rl a b ∨ mu_D wr on a b)
theorem mu_M_lt {n F : Nat} {th ad rd wr aq rl on ft fk fp : Nat → Int32} : ∀ a b, mu_M n F th ad rd wr aq rl on ft fk fp a b → a < b ∧ b < n := fun _ _ h => h.1
/-- what holds of a program: n events, A addresses, F fences -/
def mu_P (n A F : Nat) (th ad co rd wr aq rl on fk fi : Nat → Int32) : Prop :=
  (n ≤ 6 ∧ 1 ≤ A ∧ A ≤ 3 ∧ F ≤ 8) ∧ (∀ e, e < n → ∃ j, j < A ∧ ad e = nI j) ∧ (∀ g, g < F → fk g = 1 ∨ fk g = 2 ∨ fk g = 3)
  ∧ (∀ e c, e < n → 1 ≤ c → c ≤ 3 → on (4 * e + c) = -1 ∨ ∃ j, j < e ∧ on (4 * e + c) = nI j ∧ th j = th e)
  ∧ (∀ e c, n ≤ e → e < 6 → 1 ≤ c → c ≤ 3 → on (4 * e + c) = -1)
  ∧ (∀ x, ∃ j, j < 16 ∧ fi x = nI j) ∧ (∀ x, A ≤ x → x < 3 → fi x = 0)
  ∧ (∀ e, (rd e = 0 ∨ rd e = 1) ∧ (wr e = 0 ∨ wr e = 1) ∧ (aq e = 0 ∨ aq e = 1) ∧ (rl e = 0 ∨ rl e = 1))
section
variable (ad co rd wr on fi : Nat → Int32)
def ca_v (mem got : Nat → Int32) (e : Nat) : Int32 :=
  ((if rd e = 0 then 0 else mem (ad e).toNatClampNeg) + co e + (if on (4 * e + 1) < 0 then 0 else got (on (4 * e + 1)).toNatClampNeg)) &&& 15
def ca_m (mem got : Nat → Int32) (e : Nat) : Nat → Int32 := if wr e = 0 then mem else upd mem (ad e).toNatClampNeg (ca_v ad co rd on mem got e)
def ca_g (mem got : Nat → Int32) (e : Nat) : Nat → Int32 := if rd e = 0 then got else upd got e (mem (ad e).toNatClampNeg)
def ca_s (g : Nat → Nat) : Nat → (Nat → Int32) × (Nat → Int32)
  | 0 => (fi, fun _ => 0)
  | p + 1 => (ca_m ad co rd wr on (ca_s g p).1 (ca_s g p).2 (g p), ca_g ad rd (ca_s g p).1 (ca_s g p).2 (g p))
def ca_d (n : Nat) (g : Nat → Nat) (i : Nat) : Nat :=
  if i < 6 then ((ca_s ad co rd wr on fi g n).2 i).toNatClampNeg else ((ca_s ad co rd wr on fi g n).1 (i - 6)).toNatClampNeg
def ca_k (n : Nat) (g : Nat → Nat) : Nat := dg_z (ca_d ad co rd wr on fi n g) 9
end
theorem ca_v16 {ad co rd on mem got : Nat → Int32} {e : Nat} : ∃ j, j < 16 ∧ ca_v ad co rd on mem got e = nI j := pk_andE _ 4 (by decide)
theorem ca_rng {ad co rd wr on fi : Nat → Int32} (hf : ∀ x, ∃ j, j < 16 ∧ fi x = nI j) (g : Nat → Nat) : ∀ p, (∀ x, ∃ j, j < 16 ∧ (ca_s ad co rd wr on fi g p).1 x = nI j) ∧ (∀ e, ∃ j, j < 16 ∧ (ca_s ad co rd wr on fi g p).2 e = nI j) := by
  intro p
  induction p with
  | zero => exact ⟨hf, fun e => ⟨0, by omega, rfl⟩⟩
  | succ p ih =>
    obtain ⟨h1, h2⟩ := ih
    constructor
    · intro x
      show ∃ j, j < 16 ∧ ca_m ad co rd wr on _ _ _ x = nI j
      unfold ca_m
      split
      · exact h1 x
      · by_cases c : x = (ad (g p)).toNatClampNeg
        · rw [c, pk_us]; exact ca_v16
        · rw [pk_un c]; exact h1 x
    · intro e
      show ∃ j, j < 16 ∧ ca_g ad rd _ _ _ e = nI j
      unfold ca_g
      split
      · exact h2 e
      · by_cases c : e = g p
        · rw [c, pk_us]; exact h1 _
        · rw [pk_un c]; exact h2 e
theorem ca_g0 {ad co rd wr on fi : Nat → Int32} (g : Nat → Nat) (e : Nat) : ∀ p, (∀ q, q < p → g q ≠ e) → (ca_s ad co rd wr on fi g p).2 e = 0 := by
  intro p
  induction p with
  | zero => intro _; rfl
  | succ p ih =>
    intro h
    show ca_g ad rd _ _ _ e = 0
    unfold ca_g
    split
    · exact ih (fun q hq => h q (by omega))
    · rw [pk_un (fun z => h p (by omega) z.symm)]
      exact ih (fun q hq => h q (by omega))
theorem ca_m0 {ad co rd wr on fi : Nat → Int32} (g : Nat → Nat) (x : Nat) : ∀ p, (∀ q, q < p → (ad (g q)).toNatClampNeg ≠ x) → (ca_s ad co rd wr on fi g p).1 x = fi x := by
  intro p
  induction p with
  | zero => intro _; rfl
  | succ p ih =>
    intro h
    show ca_m ad co rd wr on _ _ _ x = fi x
    unfold ca_m
    split
    · exact ih (fun q hq => h q (by omega))
    · rw [pk_un (fun z => h p (by omega) z.symm)]
      exact ih (fun q hq => h q (by omega))
theorem ca_sc {ad co rd wr on fi : Nat → Int32} (g g' : Nat → Nat) : ∀ p, (∀ q, q < p → g q = g' q) → ca_s ad co rd wr on fi g p = ca_s ad co rd wr on fi g' p := by
  intro p
  induction p with
  | zero => intro _; rfl
  | succ p ih =>
    intro h
    show (ca_m ad co rd wr on (ca_s ad co rd wr on fi g p).1 (ca_s ad co rd wr on fi g p).2 (g p), ca_g ad rd (ca_s ad co rd wr on fi g p).1 (ca_s ad co rd wr on fi g p).2 (g p)) = (ca_m ad co rd wr on (ca_s ad co rd wr on fi g' p).1 (ca_s ad co rd wr on fi g' p).2 (g' p), ca_g ad rd (ca_s ad co rd wr on fi g' p).1 (ca_s ad co rd wr on fi g' p).2 (g' p))
    rw [ih (fun q hq => h q (by omega)), h p (by omega)]
theorem ca_cl {x : Int32} (h : ∃ j, j < 16 ∧ x = nI j) : x.toNatClampNeg < 16 ∧ x = nI x.toNatClampNeg := by
  obtain ⟨j, hj, rfl⟩ := h
  rw [nI_clamp (by omega)]
  exact ⟨hj, rfl⟩
theorem ca_d16 {ad co rd wr on fi : Nat → Int32} (hf : ∀ x, ∃ j, j < 16 ∧ fi x = nI j) (n : Nat) (g : Nat → Nat) (i : Nat) : ca_d ad co rd wr on fi n g i < 16 := by
  unfold ca_d
  obtain ⟨h1, h2⟩ := ca_rng (ad := ad) (co := co) (rd := rd) (wr := wr) (on := on) hf g n
  split
  · exact (ca_cl (h2 i)).1
  · exact (ca_cl (h1 (i - 6))).1
theorem ca_klt {ad co rd wr on fi : Nat → Int32} (hf : ∀ x, ∃ j, j < 16 ∧ fi x = nI j) (n : Nat) (g : Nat → Nat) : ca_k ad co rd wr on fi n g < 2 ^ 36 := by
  have h := dg_z_lt (ca_d ad co rd wr on fi n g) 9 (fun i _ => ca_d16 hf n g i)
  exact h
/-- a source of data has been carried out before, in a run -/
theorem ca_src {n A F r p j : Nat} {th ad co rd wr aq rl on ft fk fp fi : Nat → Int32} (hP : mu_P n A F th ad co rd wr aq rl on fk fi) (hr : r < pq_N n) (ho : od_ok (mu_M n F th ad rd wr aq rl on ft fk fp) n (pq_pm n r)) (hp : p < n)
    (e : on (4 * pq_pm n r p + 1) = nI j) (hj : j < 2 ^ 31) : ∃ q, q < p ∧ pq_pm n r q = j := by
  obtain ⟨h0, _, _, h4, _⟩ := hP
  have hl := pq_lt hr hp
  rcases h4 (pq_pm n r p) 1 hl (by omega) (by omega) with h | ⟨i, hi, ei, et⟩
  · rw [e] at h
    have h5 := congrArg Int32.toInt h
    rw [nI_toInt hj] at h5
    have h6 : (-1 : Int32).toInt = -1 := by decide
    omega
  · rw [e, nI_eq hj (by omega)] at ei
    subst ei
    obtain ⟨q, hq, eq⟩ := pq_sur hr (show j < n by omega)
    refine ⟨q, ?_, eq⟩
    rcases Nat.lt_trichotomy q p with c | c | c
    · exact c
    · subst c
      omega
    · have h7 := ho p q c hq
      rw [eq] at h7
      exact absurd ⟨⟨hi, hl⟩, et, Or.inr (Or.inr (Or.inr (Or.inl e)))⟩ h7
end
section
/-! numbers as the walks write them -/
theorem nu_6 (a b : Nat) : nI a * 6 + nI b = nI (a * 6 + b) := by rw [show (6 : Int32) = nI 6 from rfl, pk_mul, nI_add]
theorem nu_6' (a b : Nat) : 6 * nI a + nI b = nI (a * 6 + b) := by rw [show (6 : Int32) = nI 6 from rfl, pk_mul, nI_add, Nat.mul_comm]
theorem nu_4 (a c : Nat) : 4 * nI a + nI c = nI (4 * a + c) := by rw [show (4 : Int32) = nI 4 from rfl, pk_mul, nI_add]
theorem nu_41 (a : Nat) : 4 * nI a + 1 = nI (4 * a + 1) := nu_4 a 1
theorem nu_42 (a : Nat) : 4 * nI a + 2 = nI (4 * a + 2) := nu_4 a 2
theorem nu_43 (a : Nat) : 4 * nI a + 3 = nI (4 * a + 3) := nu_4 a 3
theorem nu_m1 (k : Nat) (h : k < 2 ^ 31) : ¬ nI k = -1 := by
  intro e
  have h5 := congrArg Int32.toInt e
  rw [nI_toInt h] at h5
  have h6 : (-1 : Int32).toInt = -1 := by decide
  omega
theorem nu_neg1 : (-1 : Int32) < 0 := by decide
/-- a kept value, the class's shift and the reference's -/
theorem nu_rk {K s : Nat} (hK : K < 2 ^ 36) (hs : s < 64) : ((lN K).toUInt64 >>> ((nI s).toInt64.toUInt64 &&& Int64.toUInt64 63)).toInt64 = lN K >>> ((nI s).toInt64 &&& 63) := by
  rw [wb_shr (by omega) hs, pf_shr (d := s) ?_ (by omega)]
  rw [wb_c s hs, wb_tb, wb_sm s hs, BitVec.toNat_ofNat]
  exact Nat.mod_eq_of_lt (by omega)
theorem nu_1shl {i : Nat} (hi : i < 36) : (1 : Int64) <<< ((nI i).toInt64 &&& 63) = lN (2 ^ i) := by
  have h := wb_shl 1 (k := i) (by omega)
  rw [Nat.one_mul] at h
  exact h
theorem nu_vshl {v k : Nat} (hv : v < 16) (hk : k < 64) : (nI v).toInt64 <<< ((nI k).toInt64 &&& 63) = lN (v * 2 ^ k) := by
  rw [nI_l (by omega), wb_shl v hk]
theorem nu_16 (k : Nat) : (16 : Nat) ^ k = 2 ^ (k * 4) := by rw [Nat.mul_comm, Nat.pow_mul]
/-- the class's packed run gives each place back -/
theorem nu_xd {L p : Nat} (hL : L < 2 ^ 31) (hp : p < 6) : (((nI L).toUInt32 >>> ((nI p * 4).toUInt32 &&& Int32.toUInt32 31)).toInt32) &&& 15 = nI (L / 16 ^ p % 16) := by
  rw [show (4 : Int32) = nI 4 from rfl, pk_mul, pk_ushrN (by omega) _ (p * 4) (s_u (p * 4) (by omega)), pk_andN (m := 15) (Nat.lt_of_le_of_lt (Nat.div_le_self _ _) (by omega)) 4 (by decide), nu_16]
theorem nu_yd {L s : Nat} (hL : L < 2 ^ 31) (hs : s < 6) : (nI L >>> ((3 * nI s) &&& 31)) &&& 7 = nI (L / 8 ^ s % 8) := by
  rw [show (3 : Int32) = nI 3 from rfl, pk_mul, pk_shrN hL _ (3 * s) (s_l (3 * s) (by omega)), pk_andN (m := 7) (Nat.lt_of_le_of_lt (Nat.div_le_self _ _) (by omega)) 3 (by decide), show (8 : Nat) ^ s = 2 ^ (3 * s) from by rw [Nat.pow_mul]]
theorem nu_xp {g p : Nat} (hg : g < 16) (hp : p < 6) : nI g <<< ((nI p * 4) &&& 31) = nI (g * 16 ^ p) := by
  rw [show (4 : Int32) = nI 4 from rfl, pk_mul, nu_16]
  refine pk_shlN _ (p * 4) (s_l (p * 4) (by omega)) ?_
  have h1 : 2 ^ (p * 4) ≤ 2 ^ 20 := Nat.pow_le_pow_right (by decide) (by omega)
  have h2 : g * 2 ^ (p * 4) ≤ 15 * 2 ^ 20 := Nat.mul_le_mul (by omega) h1
  omega
/-! the swap and the reversal of the next order -/
def nw_h (i j : Nat) (g : Nat → Nat) (p : Nat) : Nat := if p = j then g i else if p = i then g j else g p
def nw_t (n i t : Nat) (h : Nat → Nat) (p : Nat) : Nat := if p ≤ i then h p else if p < i + 1 + t ∨ n < p + 1 + t then h (n + i - p) else h p
theorem nw_t0 {n i p : Nat} {h : Nat → Nat} (hp : p < n) : nw_t n i 0 h p = h p := by
  unfold nw_t
  split
  · rfl
  · rw [if_neg (by omega)]
theorem nw_ts {n i t p : Nat} {h : Nat → Nat} (hp : p < n) (hi : i < n) (hl : i + 1 + t < n - 1 - t) :
    nw_t n i (t + 1) h p = if p = n - 1 - t then nw_t n i t h (i + 1 + t) else if p = i + 1 + t then nw_t n i t h (n - 1 - t) else nw_t n i t h p := by
  unfold nw_t
  by_cases c1 : p = n - 1 - t
  · rw [if_pos c1, if_neg (by omega), if_pos (by omega), if_neg (by omega), if_neg (by omega)]
    exact congrArg h (by omega)
  · rw [if_neg c1]
    by_cases c2 : p = i + 1 + t
    · rw [if_pos c2, if_neg (by omega), if_pos (by omega), if_neg (by omega), if_neg (by omega)]
      exact congrArg h (by omega)
    · rw [if_neg c2]
      by_cases c3 : p ≤ i
      · rw [if_pos c3, if_pos c3]
      · rw [if_neg c3, if_neg c3]
        by_cases c4 : p < i + 1 + t ∨ n < p + 1 + t
        · rw [if_pos c4, if_pos (by omega)]
        · rw [if_neg c4, if_neg (by omega)]
theorem nw_te {n i j t p : Nat} {g : Nat → Nat} (hp : p < n) (hij : i < j) (hj : j < n) (hl : n - 1 - t ≤ i + 1 + t) (ht : t + i + 1 ≤ n) : nw_t n i t (nw_h i j g) p = pq_nf n i j g p := by
  unfold nw_t pq_nf
  by_cases c1 : p < i
  · rw [if_pos (by omega), if_pos c1]
    unfold nw_h
    rw [if_neg (by omega), if_neg (by omega)]
  · rw [if_neg c1]
    by_cases c2 : p = i
    · rw [if_pos (by omega), if_pos c2]
      unfold nw_h
      rw [if_neg (by omega), if_pos c2]
    · rw [if_neg (by omega), if_neg c2]
      have e : (if p < i + 1 + t ∨ n < p + 1 + t then nw_h i j g (n + i - p) else nw_h i j g p) = nw_h i j g (n + i - p) := by
        by_cases c3 : p < i + 1 + t ∨ n < p + 1 + t
        · rw [if_pos c3]
        · rw [if_neg c3]
          exact congrArg (nw_h i j g) (by omega)
      rw [e]
      unfold nw_h
      by_cases c4 : n + i - p = j
      · rw [if_pos c4, if_pos c4]
      · rw [if_neg c4, if_neg c4, if_neg (by omega)]
/-- where the rise stands, and what is swapped with it -/
theorem nw_rise {g : Nat → Nat} : ∀ k i, pq_rise g k = some i → i < k ∧ g i < g (i + 1) := by
  intro k
  induction k with
  | zero => intro i h; exact absurd h (by simp [pq_rise])
  | succ k ih =>
    intro i h
    rw [pq_rise] at h
    by_cases c : g k < g (k + 1)
    · rw [if_pos c] at h
      cases h
      exact ⟨by omega, c⟩
    · rw [if_neg c] at h
      have := ih i h
      exact ⟨by omega, this.2⟩
theorem nw_sw {g : Nat → Nat} {i : Nat} (h : g i < g (i + 1)) : ∀ k, i + 1 < k → i < pq_sw g i k ∧ pq_sw g i k < k := by
  intro k
  induction k with
  | zero => intro hk; omega
  | succ k ih =>
    intro hk
    rw [pq_sw]
    by_cases c : g i < g k
    · rw [if_pos c]
      refine ⟨?_, by omega⟩
      omega
    · rw [if_neg c]
      have e : i + 1 ≠ k := fun e => c (e ▸ h)
      have := ih (by omega)
      omega
end
section
/-! counts; shifted arrays; the relation's pieces -/
noncomputable def cn_t (P : Nat → Prop) : Nat → Nat
  | 0 => 0
  | k + 1 => cn_t P k + ol_if (P k) 1 0
theorem cn_le (P : Nat → Prop) : ∀ k, cn_t P k ≤ k := by
  intro k
  induction k with
  | zero => exact Nat.le_refl 0
  | succ k ih =>
    show cn_t P k + ol_if (P k) 1 0 ≤ k + 1
    rcases Classical.em (P k) with c | c
    · rw [ol_if_t c]; omega
    · rw [ol_if_f c]; omega
theorem cn_y {P : Nat → Prop} {k : Nat} (h : P k) : cn_t P (k + 1) = cn_t P k + 1 := by
  show cn_t P k + ol_if (P k) 1 0 = _
  rw [ol_if_t h]
theorem cn_n {P : Nat → Prop} {k : Nat} (h : ¬ P k) : cn_t P (k + 1) = cn_t P k := by
  show cn_t P k + ol_if (P k) 1 0 = _
  rw [ol_if_f h]; rfl
/-- f' is f with all from q on moved up by one, up to place m -/
def sh_i {α : Type} (q m : Nat) (f f' : Nat → α) : Prop := (∀ k, k < q → f' k = f k) ∧ (∀ k, q < k → k ≤ m → f' k = f (k - 1))
theorem sh_0 {α : Type} {m : Nat} {f : Nat → α} : sh_i m m f f := ⟨fun _ _ => rfl, fun k h1 h2 => by omega⟩
theorem sh_s {q m : Nat} {f f' : Nat → Int32} (h : sh_i (q + 1) m f f') : sh_i q m f (upd f' (q + 1) (f' q)) := by
  constructor
  · intro k hk
    rw [pk_un (by omega)]
    exact h.1 k (by omega)
  · intro k hk hm
    by_cases e : k = q + 1
    · rw [e, pk_us, h.1 q (by omega)]; rfl
    · rw [pk_un e]
      exact h.2 k (by omega) hm
theorem sh_sL {q m : Nat} {f f' : Nat → Int64} (h : sh_i (q + 1) m f f') : sh_i q m f (vp_updL f' (q + 1) (f' q)) := by
  constructor
  · intro k hk
    rw [pk_uLn (by omega)]
    exact h.1 k (by omega)
  · intro k hk hm
    by_cases e : k = q + 1
    · rw [e, pk_uLs, h.1 q (by omega)]; rfl
    · rw [pk_uLn e]
      exact h.2 k (by omega) hm
/-! the relation -/
def re_T (tr rd wr aq rl : Nat → Int32) : Prop := ∀ e, (tr e &&& 1 = 0 ↔ rd e = 0) ∧ (tr e &&& 2 = 0 ↔ wr e = 0) ∧ (tr e &&& 4 = 0 ↔ aq e = 0) ∧ (tr e &&& 8 = 0 ↔ rl e = 0)
def re_S (ds az cs on : Nat → Int32) : Prop := ∀ e, e < 6 → ds e = on (4 * e + 1) ∧ az e = on (4 * e + 2) ∧ cs e = on (4 * e + 3)
def re_W (n A : Nat) (wre wme : Nat → Int32) : Prop := (∀ e, wre e = -1 ∨ ∃ j, j < 16 ∧ wre e = nI j) ∧ (∀ x, wme x = -1 ∨ ∃ j, j < 16 ∧ wme x = nI j) ∧ (∀ e, n ≤ e → e < 6 → wre e = -1) ∧ (∀ x, A ≤ x → x < 3 → wme x = -1)
def re_ok (n F : Nat) (th ad rd wr aq rl on ft fk fp : Nat → Int32) (r : Nat) : Prop := od_ok (mu_M n F th ad rd wr aq rl on ft fk fp) n (pq_pm n r)
def re_key (n : Nat) (ad co rd wr on fi : Nat → Int32) (r : Nat) : Nat := ca_k ad co rd wr on fi n (pq_pm n r)
def re_bef (n r a b : Nat) : Prop := od_bef n (pq_pm n r) a b
def re_X (n m : Nat) (K R : Nat → Nat) (oc : Int32) (xok : Nat → Int64) (xlr : Nat → Int32) : Prop := oc = nI m ∧ ∀ k, k < m → xok k = lN (K k) ∧ xlr k = nI (dg_x (pq_pm n (R k)) n)
def re_Y (n m : Nat) (K R : Nat → Nat) (yo : Int32) (yok : Nat → Int64) (yl : Nat → Int32) : Prop := yo = nI m ∧ ∀ k, k < m → yok k = lN (K k) ∧ yl k = nI (dg_y (pq_pm n (R k)) n)
def re_O (n : Nat) (ok : Nat → Prop) (key : Nat → Nat) (oc : Int32) (xok : Nat → Int64) (xlr : Nat → Int32) (xps : Nat → Int64) (yo : Int32) (yok : Nat → Int64) (yl : Nat → Int32) : Prop :=
  ∃ m K R S, ol_so ok key (pq_N n) = (m, K, R) ∧ ol_pr ok key (re_bef n) (pq_N n) m K S ∧ re_X n m K R oc xok xlr ∧ (∀ k, k < m → xps k = lN (S k)) ∧ re_Y n m K R yo yok yl
/-- an order kept in an array -/
def re_or (n r : Nat) (o : Nat → Int32) : Prop := ∀ p, p < n → o p = nI (pq_pm n r p)
end
section
/-! what a call does to the program keeps mu_P -/
def fl_f (f : Nat → Int32) (k : Nat) (v : Int32) : Nat → Int32 := fun j => if j < k then v else f j
theorem fl_0 (f : Nat → Int32) (v : Int32) : fl_f f 0 v = f := funext (fun j => if_neg (Nat.not_lt_zero j))
theorem fl_s (f : Nat → Int32) (k : Nat) (v : Int32) : upd (fl_f f k v) k v = fl_f f (k + 1) v := by
  funext j
  unfold upd fl_f
  by_cases c : j = k
  · rw [if_pos c, if_pos (by omega)]
  · rw [if_neg c]
    by_cases d : j < k
    · rw [if_pos d, if_pos (by omega)]
    · rw [if_neg d, if_neg (by omega)]
theorem fl_lt {f : Nat → Int32} {k j : Nat} {v : Int32} (h : j < k) : fl_f f k v j = v := if_pos h
theorem re_T_up {n : Nat} {tr rd wr aq rl tr' rd' wr' aq' rl' : Nat → Int32} (h : re_T tr rd wr aq rl)
    (hn : (tr' n &&& 1 = 0 ↔ rd' n = 0) ∧ (tr' n &&& 2 = 0 ↔ wr' n = 0) ∧ (tr' n &&& 4 = 0 ↔ aq' n = 0) ∧ (tr' n &&& 8 = 0 ↔ rl' n = 0))
    (ho : ∀ e, e ≠ n → tr' e = tr e ∧ rd' e = rd e ∧ wr' e = wr e ∧ aq' e = aq e ∧ rl' e = rl e) : re_T tr' rd' wr' aq' rl' := by
  intro e
  by_cases c : e = n
  · rw [c]; exact hn
  · obtain ⟨h1, h2, h3, h4, h5⟩ := ho e c
    rw [h1, h2, h3, h4, h5]
    exact h e
theorem mu_app {n A F x : Nat} {th ad co rd wr aq rl on fk fi co' rd' wr' aq' rl' : Nat → Int32} {t : Int32} (h : mu_P n A F th ad co rd wr aq rl on fk fi) (hn : n < 6) (hx : x < A)
    (hf : (rd' n = 0 ∨ rd' n = 1) ∧ (wr' n = 0 ∨ wr' n = 1) ∧ (aq' n = 0 ∨ aq' n = 1) ∧ (rl' n = 0 ∨ rl' n = 1))
    (ho : ∀ e, e ≠ n → rd' e = rd e ∧ wr' e = wr e ∧ aq' e = aq e ∧ rl' e = rl e) : mu_P (n + 1) A F (upd th n t) (upd ad n (nI x)) co' rd' wr' aq' rl' on fk fi := by
  obtain ⟨h1, h2, h3, h4, h5, h6, h7, h8⟩ := h
  refine ⟨by omega, ?_, h3, ?_, ?_, h6, h7, ?_⟩
  · intro e he
    by_cases c : e = n
    · rw [c, pk_us]; exact ⟨x, hx, rfl⟩
    · rw [pk_un c]; exact h2 e (by omega)
  · intro e c he hc1 hc2
    by_cases d : e = n
    · rw [d]; exact Or.inl (h5 n c (Nat.le_refl n) hn hc1 hc2)
    · rcases h4 e c (by omega) hc1 hc2 with h9 | ⟨j, hj, ej, tj⟩
      · exact Or.inl h9
      · refine Or.inr ⟨j, hj, ej, ?_⟩
        rw [pk_un (by omega), pk_un (by omega)]; exact tj
  · intro e c he h6' hc1 hc2
    exact h5 e c (by omega) h6' hc1 hc2
  · intro e
    by_cases d : e = n
    · rw [d]; exact hf
    · obtain ⟨q1, q2, q3, q4⟩ := ho e d
      rw [q1, q2, q3, q4]; exact h8 e
theorem mu_fen {n A F : Nat} {th ad co rd wr aq rl on fk fi : Nat → Int32} {kd : Int32} (h : mu_P n A F th ad co rd wr aq rl on fk fi) (hF : F < 8) (hk : kd = 1 ∨ kd = 2 ∨ kd = 3) : mu_P n A (F + 1) th ad co rd wr aq rl on (upd fk F kd) fi := by
  obtain ⟨h1, h2, h3, h4⟩ := h
  refine ⟨by omega, h2, ?_, h4⟩
  intro g hg
  by_cases c : g = F
  · rw [c, pk_us]; exact hk
  · rw [pk_un c]; exact h3 g (by omega)
theorem mu_dep {n A F l e k : Nat} {th ad co rd wr aq rl on fk fi : Nat → Int32} (h : mu_P n A F th ad co rd wr aq rl on fk fi) (hl : l < n) (he : e < l) (ht : th e = th l) (hk1 : 1 ≤ k) (hk2 : k ≤ 3) : mu_P n A F th ad co rd wr aq rl (upd on (4 * l + k) (nI e)) fk fi := by
  obtain ⟨h1, h2, h3, h4, h5, h6⟩ := h
  refine ⟨h1, h2, h3, ?_, ?_, h6⟩
  · intro e' c he' hc1 hc2
    by_cases d : 4 * e' + c = 4 * l + k
    · rw [d, pk_us]
      have : e' = l := by omega
      subst this
      exact Or.inr ⟨e, he, rfl, ht⟩
    · rw [pk_un d]; exact h4 e' c he' hc1 hc2
  · intro e' c hn he' hc1 hc2
    rw [pk_un (by omega)]; exact h5 e' c hn he' hc1 hc2
theorem re_S_up {l e k : Nat} {ds az cs ds' az' cs' on : Nat → Int32} (h : re_S ds az cs on) (hl : l < 6) (hk1 : 1 ≤ k) (hk2 : k ≤ 3)
    (h1 : ds' = if k = 1 then upd ds l (nI e) else ds) (h2 : az' = if k = 2 then upd az l (nI e) else az) (h3 : cs' = if k = 3 then upd cs l (nI e) else cs) : re_S ds' az' cs' (upd on (4 * l + k) (nI e)) := by
  intro i hi
  obtain ⟨q1, q2, q3⟩ := h i hi
  have hk : k = 1 ∨ k = 2 ∨ k = 3 := by omega
  by_cases c : i = l
  · subst c
    rcases hk with rfl | rfl | rfl
    · subst h1 h2 h3
      refine ⟨?_, ?_, ?_⟩
      · rw [if_pos rfl, pk_us, pk_us]
      · rw [pk_un (by omega)]; exact q2
      · rw [pk_un (by omega)]; exact q3
    · subst h1 h2 h3
      refine ⟨?_, ?_, ?_⟩
      · rw [pk_un (by omega)]; exact q1
      · rw [if_pos rfl, pk_us, pk_us]
      · rw [pk_un (by omega)]; exact q3
    · subst h1 h2 h3
      refine ⟨?_, ?_, ?_⟩
      · rw [pk_un (by omega)]; exact q1
      · rw [pk_un (by omega)]; exact q2
      · rw [if_pos rfl, pk_us, pk_us]
  · have e1 : ds' i = ds i := by
      rw [h1]; split
      · exact pk_un c
      · rfl
    have e2 : az' i = az i := by
      rw [h2]; split
      · exact pk_un c
      · rfl
    have e3 : cs' i = cs i := by
      rw [h3]; split
      · exact pk_un c
      · rfl
    rw [e1, e2, e3, pk_un (by omega), pk_un (by omega), pk_un (by omega)]
    exact ⟨q1, q2, q3⟩
theorem mu_ini {n A F x j : Nat} {th ad co rd wr aq rl on fk fi : Nat → Int32} (h : mu_P n A F th ad co rd wr aq rl on fk fi) (hx : x < A) (hj : j < 16) : mu_P n A F th ad co rd wr aq rl on fk (upd fi x (nI j)) := by
  obtain ⟨h1, h2, h3, h4, h5, h6, h7, h8⟩ := h
  refine ⟨h1, h2, h3, h4, h5, ?_, ?_, h8⟩
  · intro y
    by_cases c : y = x
    · rw [c, pk_us]; exact ⟨j, hj, rfl⟩
    · rw [pk_un c]; exact h6 y
  · intro y hy hy3
    rw [pk_un (by omega)]; exact h7 y hy hy3
theorem mu_clr {n A F : Nat} {th ad co rd wr aq rl on fk fi : Nat → Int32} (h : mu_P n A F th ad co rd wr aq rl on fk fi) : mu_P 0 A 0 th ad co rd wr aq rl (fl_f on 24 (-1)) fk (fl_f fi 3 0) := by
  obtain ⟨h1, h2, h3, h4, h5, h6, h7, h8⟩ := h
  refine ⟨by omega, fun e he => by omega, fun g hg => by omega, fun e c he => by omega, ?_, ?_, ?_, h8⟩
  · intro e c _ he hc1 hc2
    exact fl_lt (by omega)
  · intro x
    by_cases c : x < 3
    · rw [fl_lt c]; exact ⟨0, by omega, rfl⟩
    · have : fl_f fi 3 0 x = fi x := if_neg c
      rw [this]; exact h6 x
  · intro x _ hx
    exact fl_lt hx
theorem re_S_clr {ds az cs on : Nat → Int32} : re_S (fl_f ds 6 (-1)) (fl_f az 6 (-1)) (fl_f cs 6 (-1)) (fl_f on 24 (-1)) := by
  intro e he
  rw [fl_lt he, fl_lt he, fl_lt he, fl_lt (by omega), fl_lt (by omega), fl_lt (by omega)]
  exact ⟨rfl, rfl, rfl⟩
theorem re_W_clr {n n' A : Nat} {wre wme : Nat → Int32} (h : re_W n A wre wme) : re_W n' A (fl_f wre 6 (-1)) (fl_f wme 3 (-1)) := by
  obtain ⟨h1, h2, h3, h4⟩ := h
  refine ⟨?_, ?_, fun e _ he => fl_lt he, fun x _ hx => fl_lt hx⟩
  · intro e
    by_cases c : e < 6
    · rw [fl_lt c]; exact Or.inl rfl
    · have : fl_f wre 6 (-1) e = wre e := if_neg c
      rw [this]; exact h1 e
  · intro x
    by_cases c : x < 3
    · rw [fl_lt c]; exact Or.inl rfl
    · have : fl_f wme 3 (-1) x = wme x := if_neg c
      rw [this]; exact h2 x
theorem re_W_app {n A : Nat} {wre wme : Nat → Int32} (h : re_W n A wre wme) : re_W (n + 1) A wre wme :=
  ⟨h.1, h.2.1, fun e he h6 => h.2.2.1 e (by omega) h6, h.2.2.2⟩
theorem re_W_r {n A e : Nat} {v : Int32} {wre wme : Nat → Int32} (h : re_W n A wre wme) (he : e < n) (hv : v = -1 ∨ ∃ j, j < 16 ∧ v = nI j) : re_W n A (upd wre e v) wme := by
  refine ⟨?_, h.2.1, ?_, h.2.2.2⟩
  · intro i
    by_cases c : i = e
    · rw [c, pk_us]; exact hv
    · rw [pk_un c]; exact h.1 i
  · intro i hi h6
    rw [pk_un (by omega)]; exact h.2.2.1 i hi h6
theorem re_W_m {n A x : Nat} {v : Int32} {wre wme : Nat → Int32} (h : re_W n A wre wme) (hx : x < A) (hv : v = -1 ∨ ∃ j, j < 16 ∧ v = nI j) : re_W n A wre (upd wme x v) := by
  refine ⟨h.1, ?_, h.2.2.1, ?_⟩
  · intro i
    by_cases c : i = x
    · rw [c, pk_us]; exact hv
    · rw [pk_un c]; exact h.2.1 i
  · intro i hi h3
    rw [pk_un (by omega)]; exact h.2.2.2 i hi h3
end
section
/-! the class: which event must precede which -/
theorem x1_0 : ¬ (1 : Int32) = 0 := by decide
theorem xm_D {n A F a b : Nat} {th ad co rd wr aq rl on fk fi ds az cs : Nat → Int32} (hP : mu_P n A F th ad co rd wr aq rl on fk fi) (hS : re_S ds az cs on) (hab : a < b) (hb : b < n) :
    mu_D wr on a b ↔ (ds b = nI a ∨ az b = nI a ∨ (¬ wr b = 0 ∧ ((∃ c, a < c ∧ c < b ∧ az c = nI a) ∨ cs b = nI a))) := by
  have hn := hP.1.1
  obtain ⟨q1, q2, q3⟩ := hS b (by omega)
  unfold mu_D
  rw [q1, q2, q3]
  constructor
  · rintro (h | h | h | ⟨c, hc, ec, hw⟩)
    · exact Or.inl h
    · exact Or.inr (Or.inl h)
    · exact Or.inr (Or.inr ⟨h.2, Or.inr h.1⟩)
    · refine Or.inr (Or.inr ⟨hw, Or.inl ⟨c, ?_, hc, ?_⟩⟩)
      · rcases hP.2.2.2.1 c 2 (by omega) (by omega) (by omega) with h | ⟨j, hj, ej, _⟩
        · rw [ec] at h
          exact absurd h (nu_m1 a (by omega))
        · rw [ec, nI_eq (by omega) (by omega)] at ej
          omega
      · rw [(hS c (by omega)).2.1]; exact ec
  · rintro (h | h | ⟨hw, ⟨c, _, hc, ec⟩ | h⟩)
    · exact Or.inl h
    · exact Or.inr (Or.inl h)
    · refine Or.inr (Or.inr (Or.inr ⟨c, hc, ?_, hw⟩))
      rw [← (hS c (by omega)).2.1]; exact ec
    · exact Or.inr (Or.inr (Or.inl ⟨h, hw⟩))
section
variable {tc ac ec fc sv oc : Int32} {xth xad xco xtr xft xfk xfp xds xas xcs xfi xwr xwm xbo xor xme xvr xlr : Nat → Int32} {xok xps : Nat → Int64} {n A F a b : Nat} {rd wr aq rl on : Nat → Int32} {post : Int32 → Prop}
theorem xr_isA {e : Nat} {t : Int32} (he : e < 6) (h0 : xtr e &&& t = 0 → post 0) (h1 : ¬ xtr e &&& t = 0 → post 1) : wpX_isA post (tc, ac, ec, fc, sv, oc, xth, xad, xco, xtr, xft, xfk, xfp, xds, xas, xcs, xfi, xwr, xwm, xbo, xor, xme, xvr, xok, xlr, xps) (nI e) t := by
  unfold wpX_isA
  simp only [nI_clamp (show e < 2 ^ 31 by omega)]
  exact ⟨vp_in_nI he (by omega), h0, h1⟩
theorem xr_rd {e : Nat} (hT : re_T xtr rd wr aq rl) (he : e < 6) (h0 : rd e = 0 → post 0) (h1 : ¬ rd e = 0 → post 1) : wpX_isA post (tc, ac, ec, fc, sv, oc, xth, xad, xco, xtr, xft, xfk, xfp, xds, xas, xcs, xfi, xwr, xwm, xbo, xor, xme, xvr, xok, xlr, xps) (nI e) 1 :=
  xr_isA he (fun h => h0 ((hT e).1.mp h)) (fun h => h1 (fun z => h ((hT e).1.mpr z)))
theorem xr_wr {e : Nat} (hT : re_T xtr rd wr aq rl) (he : e < 6) (h0 : wr e = 0 → post 0) (h1 : ¬ wr e = 0 → post 1) : wpX_isA post (tc, ac, ec, fc, sv, oc, xth, xad, xco, xtr, xft, xfk, xfp, xds, xas, xcs, xfi, xwr, xwm, xbo, xor, xme, xvr, xok, xlr, xps) (nI e) 2 :=
  xr_isA he (fun h => h0 ((hT e).2.1.mp h)) (fun h => h1 (fun z => h ((hT e).2.1.mpr z)))
theorem xr_aq {e : Nat} (hT : re_T xtr rd wr aq rl) (he : e < 6) (h0 : aq e = 0 → post 0) (h1 : ¬ aq e = 0 → post 1) : wpX_isA post (tc, ac, ec, fc, sv, oc, xth, xad, xco, xtr, xft, xfk, xfp, xds, xas, xcs, xfi, xwr, xwm, xbo, xor, xme, xvr, xok, xlr, xps) (nI e) 4 :=
  xr_isA he (fun h => h0 ((hT e).2.2.1.mp h)) (fun h => h1 (fun z => h ((hT e).2.2.1.mpr z)))
theorem xr_rl {e : Nat} (hT : re_T xtr rd wr aq rl) (he : e < 6) (h0 : rl e = 0 → post 0) (h1 : ¬ rl e = 0 → post 1) : wpX_isA post (tc, ac, ec, fc, sv, oc, xth, xad, xco, xtr, xft, xfk, xfp, xds, xas, xcs, xfi, xwr, xwm, xbo, xor, xme, xvr, xok, xlr, xps) (nI e) 8 :=
  xr_isA he (fun h => h0 ((hT e).2.2.2.mp h)) (fun h => h1 (fun z => h ((hT e).2.2.2.mpr z)))
theorem xr_kind {kd : Int32} (hT : re_T xtr rd wr aq rl) (ha : a < 6) (hb : b < 6)
    (k1 : kd = 1 → (rd a = 0 → post 0) ∧ (¬ rd a = 0 → post 1)) (k2 : kd = 2 → (wr a = 0 ∨ wr b = 0 → post 0) ∧ (¬ wr a = 0 → ¬ wr b = 0 → post 1)) (k3 : ¬ kd = 1 → ¬ kd = 2 → post 1) : wpX_kindBinds post (tc, ac, ec, fc, sv, oc, xth, xad, xco, xtr, xft, xfk, xfp, xds, xas, xcs, xfi, xwr, xwm, xbo, xor, xme, xvr, xok, xlr, xps) kd (nI a) (nI b) := by
  unfold wpX_kindBinds
  refine br_c (fun e => ?_) (fun e => br_c (fun e2 => ?_) (fun e2 => k3 e e2))
  · exact xr_rd hT ha (fun h => ⟨rfl, (k1 e).1 h⟩) (fun h => ⟨rfl, (k1 e).2 h⟩)
  · exact xr_wr hT ha (fun h => br_t rfl ((k2 e2).1 (Or.inl h))) (fun h => br_f x1_0 (xr_wr hT hb (fun h2 => br_t rfl ((k2 e2).1 (Or.inr h2))) (fun h2 => br_f x1_0 ((k2 e2).2 h h2))))
theorem xr_fen (hT : re_T xtr rd wr aq rl) (ha : a < 6) (hb : b < 6) (hF : F ≤ 8) (hk : ∀ g, g < F → xfk g = 1 ∨ xfk g = 2 ∨ xfk g = 3)
    (h1 : mu_F F xth rd wr xft xfk xfp a b → post 1) (h0 : ¬ mu_F F xth rd wr xft xfk xfp a b → post 0) : wpX_fencesBind post (tc, ac, ec, nI F, sv, oc, xth, xad, xco, xtr, xft, xfk, xfp, xds, xas, xcs, xfi, xwr, xwm, xbo, xor, xme, xvr, xok, xlr, xps) (nI a) (nI b) := by
  unfold wpX_fencesBind
  refine pk_loop (σ := Unit) (fun f i _ => wX_fencesBind_2 post (nI a) (nI b) tc ac ec (nI F) sv oc xth xad xco xtr xft xfk xfp xds xas xcs xfi xwr xwm xbo xor xme xvr xok xlr xps f (nI i)) (fun i _ => ∀ g, g < i → ¬ mu_G xth rd wr xft xfk xfp a b g) F 0 () (by omega) (fun g hg => by omega) ?_ ?_
  · intro f _ hI
    exact br_t (nI_le (Nat.le_refl F) (by omega)) (h0 (fun ⟨g, hg, z⟩ => hI g hg z))
  · intro f i _ hi hI ih
    have hno : ¬ mu_G xth rd wr xft xfk xfp a b i → wX_fencesBind_49 post (wX_fencesBind_2 post (nI a) (nI b) tc ac ec (nI F) sv oc xth xad xco xtr xft xfk xfp xds xas xcs xfi xwr xwm xbo xor xme xvr xok xlr xps f) (nI a) (nI b) (nI i) tc ac ec (nI F) sv oc xth xad xco xtr xft xfk xfp xds xas xcs xfi xwr xwm xbo xor xme xvr xok xlr xps := fun z =>
      br_t rfl (nm_r (nI_1 i) (ih () (fun g hg => by
        by_cases e : g = i
        · rw [e]; exact z
        · exact hI g (by omega))))
    have hno2 : ¬ mu_G xth rd wr xft xfk xfp a b i → ∀ y, y = nI i + 1 → wX_fencesBind_2 post (nI a) (nI b) tc ac ec (nI F) sv oc xth xad xco xtr xft xfk xfp xds xas xcs xfi xwr xwm xbo xor xme xvr xok xlr xps f y := fun z =>
      nm_r (nI_1 i) (ih () (fun g hg => by
        by_cases e : g = i
        · rw [e]; exact z
        · exact hI g (by omega)))
    have hyes : mu_G xth rd wr xft xfk xfp a b i → post 1 := fun z => h1 ⟨i, hi, z⟩
    have v8 : vp_in (nI i) 8 := vp_in_nI (by omega) (by omega)
    refine br_f (nI_ge hi (by omega)) ?_
    rw [nI_clamp (show i < 2 ^ 31 by omega), nI_clamp (show a < 2 ^ 31 by omega)]
    refine ⟨v8, vp_in_nI ha (by omega), br_c (fun e1 => ⟨v8, br_c (fun e2 => hno (fun z => z.2.1 e2)) (fun e2 => ⟨v8, br_c (fun e3 => hno (fun z => z.2.2.1 e3)) (fun e3 => ?_)⟩)⟩) (fun e1 => hno (fun z => e1 z.1))⟩
    refine br_f x1_0 ⟨v8, ?_⟩
    rw [nI_clamp (show i < 2 ^ 31 by omega)]
    refine xr_kind hT ha hb (fun k => ⟨fun h => br_t rfl (hno2 ?_), fun h => br_f x1_0 (hyes ⟨e1, e2, e3, Or.inr (Or.inl ⟨k, h⟩)⟩)⟩) (fun k => ⟨fun h => br_t rfl (hno2 ?_), fun h h2 => br_f x1_0 (hyes ⟨e1, e2, e3, Or.inr (Or.inr ⟨k, h, h2⟩)⟩)⟩) (fun k k2 => br_f x1_0 (hyes ⟨e1, e2, e3, Or.inl ?_⟩))
    · rintro ⟨_, _, _, z | z | z⟩
      · exact absurd (k.symm.trans z) (by decide)
      · exact z.2 h
      · exact absurd (k.symm.trans z.1) (by decide)
    · rintro ⟨_, _, _, z | z | z⟩
      · exact absurd (k.symm.trans z) (by decide)
      · exact absurd (k.symm.trans z.1) (by decide)
      · exact h.elim z.2.1 z.2.2
    · rcases hk i hi with z | z | z
      · exact absurd z k
      · exact absurd z k2
      · exact z
theorem xr_marks (hT : re_T xtr rd wr aq rl) (ha : a < 6) (hb : b < 6) (h1 : mu_A aq rl a b → post 1) (h0 : ¬ mu_A aq rl a b → post 0) : wpX_marksBind post (tc, ac, ec, fc, sv, oc, xth, xad, xco, xtr, xft, xfk, xfp, xds, xas, xcs, xfi, xwr, xwm, xbo, xor, xme, xvr, xok, xlr, xps) (nI a) (nI b) := by
  unfold wpX_marksBind
  refine xr_aq hT ha (fun e1 => br_t rfl (xr_rl hT hb (fun e2 => br_t rfl (xr_rl hT ha (fun e3 => br_t rfl (h0 ?_)) (fun e3 => br_f x1_0 (xr_aq hT hb (fun e4 => br_t rfl (h0 ?_)) (fun e4 => br_f x1_0 (h1 (Or.inr (Or.inr ⟨e3, e4⟩)))))))) (fun e2 => br_f x1_0 (h1 (Or.inr (Or.inl e2)))))) (fun e1 => br_f x1_0 (h1 (Or.inl e1)))
  · rintro (z | z | z)
    · exact z e1
    · exact z e2
    · exact z.1 e3
  · rintro (z | z | z)
    · exact z e1
    · exact z e2
    · exact z.2 e4
theorem xr_deps (hP : mu_P n A F xth xad xco rd wr aq rl on xfk xfi) (hT : re_T xtr rd wr aq rl) (hS : re_S xds xas xcs on) (hab : a < b) (hb : b < n)
    (h1 : mu_D wr on a b → post 1) (h0 : ¬ mu_D wr on a b → post 0) : wpX_dependenciesBind post (tc, ac, ec, fc, sv, oc, xth, xad, xco, xtr, xft, xfk, xfp, xds, xas, xcs, xfi, xwr, xwm, xbo, xor, xme, xvr, xok, xlr, xps) (nI a) (nI b) := by
  have hn := hP.1.1
  have v6 : vp_in (nI b) 6 := vp_in_nI (by omega) (by omega)
  rw [xm_D hP hS hab hb] at h1 h0
  unfold wpX_dependenciesBind
  simp only [nI_clamp (show b < 2 ^ 31 by omega)]
  refine ⟨v6, br_c (fun e1 => h1 (Or.inl e1)) (fun e1 => ⟨v6, br_c (fun e2 => h1 (Or.inr (Or.inl e2))) (fun e2 => xr_wr hT (by omega) (fun hw => br_t rfl (h0 ?_)) (fun hw => br_f x1_0 (nm_r (nI_1 a) ?_)))⟩)⟩
  · rintro (z | z | z)
    · exact e1 z
    · exact e2 z
    · exact z.1 hw
  · refine pk_loop (σ := Unit) (fun f i _ => wX_dependenciesBind_37 post (nI a) (nI b) tc ac ec fc sv oc xth xad xco xtr xft xfk xfp xds xas xcs xfi xwr xwm xbo xor xme xvr xok xlr xps f (nI i)) (fun i _ => ∀ c, a < c → c < i → ¬ xas c = nI a) b (a + 1) () (by omega) (fun c h2 h3 => by omega) ?_ ?_
    · intro f _ hI
      refine br_t (nI_le (Nat.le_refl b) (by omega)) ⟨v6, ?_⟩
      rw [nI_clamp (show b < 2 ^ 31 by omega)]
      refine br_c (fun e3 => h1 (Or.inr (Or.inr ⟨hw, Or.inr e3⟩))) (fun e3 => h0 ?_)
      rintro (z | z | ⟨_, ⟨c, q1, q2, q3⟩ | z⟩)
      · exact e1 z
      · exact e2 z
      · exact hI c q1 q2 q3
      · exact e3 z
    · intro f i _ hi hI ih
      by_cases hai : a < i
      · refine br_f (nI_ge hi (by omega)) ⟨vp_in_nI (by omega) (by omega), ?_⟩
        rw [nI_clamp (show i < 2 ^ 31 by omega)]
        refine br_c (fun e3 => h1 (Or.inr (Or.inr ⟨hw, Or.inl ⟨i, hai, hi, e3⟩⟩))) (fun e3 => nm_r (nI_1 i) (ih () (fun c q1 q2 => ?_)))
        by_cases e : c = i
        · rw [e]; exact e3
        · exact hI c q1 (by omega)
      · refine br_f (nI_ge hi (by omega)) ⟨vp_in_nI (by omega) (by omega), ?_⟩
        rw [nI_clamp (show i < 2 ^ 31 by omega)]
        refine br_c (fun e3 => ?_) (fun e3 => nm_r (nI_1 i) (ih () (fun c q1 q2 => by omega)))
        have q := hP.2.2.2.1 i 2 (by omega) (by omega) (by omega)
        rw [← (hS i (by omega)).2.1, e3] at q
        rcases q with q | ⟨j, hj, ej, _⟩
        · exact absurd q (nu_m1 a (by omega))
        · rw [nI_eq (by omega) (by omega)] at ej
          omega
theorem xr_must (hP : mu_P n A F xth xad xco rd wr aq rl on xfk xfi) (hT : re_T xtr rd wr aq rl) (hS : re_S xds xas xcs on) (ha : a < n) (hb : b < n)
    (h1 : mu_M n F xth xad rd wr aq rl on xft xfk xfp a b → post 1) (h0 : ¬ mu_M n F xth xad rd wr aq rl on xft xfk xfp a b → post 0) : wpX_mustPrecede post (tc, ac, ec, nI F, sv, oc, xth, xad, xco, xtr, xft, xfk, xfp, xds, xas, xcs, xfi, xwr, xwm, xbo, xor, xme, xvr, xok, xlr, xps) (nI a) (nI b) := by
  have hn := hP.1
  have va : vp_in (nI a) 6 := vp_in_nI (by omega) (by omega)
  have vb : vp_in (nI b) 6 := vp_in_nI (by omega) (by omega)
  unfold wpX_mustPrecede
  simp only [nI_clamp (show a < 2 ^ 31 by omega), nI_clamp (show b < 2 ^ 31 by omega)]
  refine pk_le b a (fun c => h0 (fun z => by have := z.1.1; omega)) (fun hab => ⟨va, vb, br_c (fun et => ⟨va, vb, br_c (fun ea => h1 ⟨⟨hab, hb⟩, et, Or.inl ea⟩) (fun ea => ?_)⟩) (fun et => h0 (fun z => et z.2.1))⟩)
  refine xr_fen hT (by omega) (by omega) (by omega) hP.2.2.1 (fun hF => br_f x1_0 (h1 ⟨⟨hab, hb⟩, et, Or.inr (Or.inl hF)⟩)) (fun hF => br_t rfl ?_)
  refine xr_marks hT (by omega) (by omega) (fun hA => br_f x1_0 (h1 ⟨⟨hab, hb⟩, et, Or.inr (Or.inr (Or.inl hA))⟩)) (fun hA => br_t rfl ?_)
  refine xr_deps hP hT hS hab hb (fun hD => br_f x1_0 (h1 ⟨⟨hab, hb⟩, et, Or.inr (Or.inr (Or.inr hD))⟩)) (fun hD => br_t rfl (h0 ?_))
  rintro ⟨_, _, z | z | z | z⟩
  · exact ea z
  · exact hF z
  · exact hA z
  · exact hD z
end
end
section
/-! the class: the closed order, the orders, the runs -/
theorem xb_1 : vp_nar .boolean 1 = 1 := rfl
theorem xb_0 : vp_nar .boolean 0 = 0 := rfl
theorem nu_p2 (i : Nat) : nI i + 2 = nI (i + 2) := nI_add i 2
theorem nu_d {p : Nat} (h : 0 < p) : nI p + (-1) = nI (p - 1) := by
  obtain ⟨q, rfl⟩ : ∃ q, p = q + 1 := ⟨p - 1, by omega⟩
  exact pk_m1 q
/-- an array of pairs holds the relation B of the first n events -/
def bo_r (n : Nat) (B : Nat → Nat → Prop) (bo : Nat → Int32) : Prop := ∀ a b, a < n → b < n → (¬ bo (a * 6 + b) = 0 ↔ B a b)
def bo_f (n : Nat) (B : Nat → Nat → Prop) (a b : Nat) (bo : Nat → Int32) : Prop := ∀ a' b', a' < n → b' < n → (a' < a ∨ (a' = a ∧ b' < b)) → (¬ bo (a' * 6 + b') = 0 ↔ B a' b')
def bo_m (n : Nat) (M : Nat → Nat → Prop) (k a b : Nat) (bo : Nat → Int32) : Prop :=
  ∀ a' b', a' < n → b' < n → ((a' < a ∨ (a' = a ∧ b' < b)) → (¬ bo (a' * 6 + b') = 0 ↔ od_W M (k + 1) a' b')) ∧ (¬ (a' < a ∨ (a' = a ∧ b' < b)) → (¬ bo (a' * 6 + b') = 0 ↔ od_W M k a' b'))
theorem bo_f_put {n a b : Nat} {B : Nat → Nat → Prop} {bo : Nat → Int32} {z : Int32} (hn : n ≤ 6) (hb : b < n) (h : bo_f n B a b bo) (hz : ¬ z = 0 ↔ B a b) : bo_f n B a (b + 1) (upd bo (a * 6 + b) z) := by
  intro a' b' ha' hb' hc
  by_cases e : a' = a ∧ b' = b
  · rw [e.1, e.2, pk_us]; exact hz
  · rw [pk_un (by omega)]
    exact h a' b' ha' hb' (by omega)
theorem bo_f_row {n a : Nat} {B : Nat → Nat → Prop} {bo : Nat → Int32} (h : bo_f n B a n bo) : bo_f n B (a + 1) 0 bo :=
  fun a' b' ha' hb' hc => h a' b' ha' hb' (by omega)
theorem bo_f_all {n : Nat} {B : Nat → Nat → Prop} {bo : Nat → Int32} (h : bo_f n B n 0 bo) : bo_r n B bo :=
  fun a b ha hb => h a b ha hb (by omega)
theorem bo_m_0 {n k : Nat} {M : Nat → Nat → Prop} {bo : Nat → Int32} (h : bo_r n (od_W M k) bo) : bo_m n M k 0 0 bo :=
  fun a b ha hb => ⟨fun z => by omega, fun _ => h a b ha hb⟩
theorem bo_m_row {n k a : Nat} {M : Nat → Nat → Prop} {bo : Nat → Int32} (h : bo_m n M k a n bo) : bo_m n M k (a + 1) 0 bo :=
  fun a' b' ha' hb' => ⟨fun z => (h a' b' ha' hb').1 (by omega), fun z => (h a' b' ha' hb').2 (by omega)⟩
theorem bo_m_all {n k : Nat} {M : Nat → Nat → Prop} {bo : Nat → Int32} (h : bo_m n M k n 0 bo) : bo_r n (od_W M (k + 1)) bo :=
  fun a b ha hb => (h a b ha hb).1 (by omega)
theorem bo_m_r {n k a b : Nat} {M : Nat → Nat → Prop} {bo : Nat → Int32} (h : bo_m n M k a b bo) {a' : Nat} (hk : k < n) (ha : a' < n) : ¬ bo (a' * 6 + k) = 0 ↔ od_W M k a' k := by
  rcases Classical.em (a' < a ∨ (a' = a ∧ k < b)) with c | c
  · rw [(h a' k ha hk).1 c, od_fr]
  · exact (h a' k ha hk).2 c
theorem bo_m_l {n k a b : Nat} {M : Nat → Nat → Prop} {bo : Nat → Int32} (h : bo_m n M k a b bo) {b' : Nat} (hk : k < n) (hb : b' < n) : ¬ bo (k * 6 + b') = 0 ↔ od_W M k k b' := by
  rcases Classical.em (k < a ∨ (k = a ∧ b' < b)) with c | c
  · rw [(h k b' hk hb).1 c, od_fl]
  · exact (h k b' hk hb).2 c
theorem bo_m_n {n k a b : Nat} {M : Nat → Nat → Prop} {bo : Nat → Int32} (h : bo_m n M k a b bo) (hn : ¬ (od_W M k a k ∧ od_W M k k b)) : bo_m n M k a (b + 1) bo := by
  intro a' b' ha' hb'
  refine ⟨fun z => ?_, fun z => (h a' b' ha' hb').2 (by omega)⟩
  by_cases e : a' = a ∧ b' = b
  · rw [(h a' b' ha' hb').2 (by omega), e.1, e.2]
    exact ⟨Or.inl, fun q => q.elim id (fun q => absurd q hn)⟩
  · exact (h a' b' ha' hb').1 (by omega)
theorem bo_m_y {n k a b : Nat} {M : Nat → Nat → Prop} {bo : Nat → Int32} (hn6 : n ≤ 6) (hb : b < n) (h : bo_m n M k a b bo) (h1 : od_W M k a k) (h2 : od_W M k k b) : bo_m n M k a (b + 1) (upd bo (a * 6 + b) 1) := by
  intro a' b' ha' hb'
  by_cases e : a' = a ∧ b' = b
  · rw [e.1, e.2, pk_us]
    exact ⟨fun _ => ⟨fun _ => Or.inr ⟨h1, h2⟩, fun _ => by decide⟩, fun z => by omega⟩
  · rw [pk_un (by omega)]
    exact ⟨fun z => (h a' b' ha' hb').1 (by omega), fun z => (h a' b' ha' hb').2 (by omega)⟩
section
variable {tc ac ec fc sv oc : Int32} {xth xad xco xtr xft xfk xfp xds xas xcs xfi xwr xwm xbo xor xme xvr xlr : Nat → Int32} {xok xps : Nat → Int64} {n A F : Nat} {rd wr aq rl on : Nat → Int32} {M : Nat → Nat → Prop}
variable {post : SX → Prop} {J51 J61 J2 : Int32 → (Nat → Int32) → (Nat → Int32) → (Nat → Int32) → (Nat → Int32) → (Nat → Int32) → (Nat → Int32) → (Nat → Int32) → (Nat → Int32) → (Nat → Int32) → (Nat → Int32) → (Nat → Int32) → (Nat → Int32) → (Nat → Int32) → (Nat → Int32) → (Nat → Int32) → (Nat → Int32) → (Nat → Int32) → (Nat → Int64) → (Nat → Int32) → (Nat → Int64) → Prop}
theorem xw_71 {k a : Nat} (hn : n ≤ 6) (hk : k < n) (ha : a < n) (bo : Nat → Int32) (h : bo_m n M k a 0 bo) (hJ : ∀ bo', bo_m n M k (a + 1) 0 bo' → J61 (nI (a + 1)) xth xad xco xtr xft xfk xfp xds xas xcs xfi xwr xwm bo' xor xme xvr xok xlr xps) :
    ∃ f, wX_findBounds_71 post J51 J61 (nI k) (nI a) tc ac (nI n) fc sv oc f 0 xth xad xco xtr xft xfk xfp xds xas xcs xfi xwr xwm bo xor xme xvr xok xlr xps := by
  refine pk_loop (σ := Nat → Int32) (fun f i bo => wX_findBounds_71 post J51 J61 (nI k) (nI a) tc ac (nI n) fc sv oc f (nI i) xth xad xco xtr xft xfk xfp xds xas xcs xfi xwr xwm bo xor xme xvr xok xlr xps) (fun i bo => bo_m n M k a i bo) n 0 bo (by omega) h ?_ ?_
  · intro f bo' hI
    exact br_t (nI_le (Nat.le_refl n) (by omega)) (nm_r (nI_1 a) (hJ bo' (bo_m_row hI)))
  · intro f i bo' hi hI ih
    have v1 : vp_in (nI (a * 6 + k)) 36 := vp_in_nI (by omega) (by omega)
    have v2 : vp_in (nI (k * 6 + i)) 36 := vp_in_nI (by omega) (by omega)
    have v3 : vp_in (nI (a * 6 + i)) 36 := vp_in_nI (by omega) (by omega)
    refine br_f (nI_ge hi (by omega)) ?_
    rw [nu_6, nu_6, nu_6, nI_clamp (show a * 6 + k < 2 ^ 31 by omega), nI_clamp (show k * 6 + i < 2 ^ 31 by omega), nI_clamp (show a * 6 + i < 2 ^ 31 by omega)]
    refine ⟨v1, br_c (fun e1 => nm_r (nI_1 i) (ih bo' (bo_m_n hI (fun z => (bo_m_r hI hk ha).mpr z.1 e1)))) (fun e1 => ⟨v2, br_c (fun e2 => nm_r (nI_1 i) (ih bo' (bo_m_n hI (fun z => (bo_m_l hI hk hi).mpr z.2 e2)))) (fun e2 => ⟨v3, nm_e (nm_r (nI_1 i) (ih _ (bo_m_y hn hi hI ((bo_m_r hI hk ha).mp e1) ((bo_m_l hI hk hi).mp e2))))⟩)⟩)⟩
theorem xw_61 {k : Nat} (hn : n ≤ 6) (hk : k < n) (bo : Nat → Int32) (h : bo_r n (od_W M k) bo) (hJ : ∀ bo', bo_r n (od_W M (k + 1)) bo' → J51 (nI (k + 1)) xth xad xco xtr xft xfk xfp xds xas xcs xfi xwr xwm bo' xor xme xvr xok xlr xps) :
    ∃ f, wX_findBounds_61 post J51 (nI k) tc ac (nI n) fc sv oc f 0 xth xad xco xtr xft xfk xfp xds xas xcs xfi xwr xwm bo xor xme xvr xok xlr xps := by
  refine pk_loop (σ := Nat → Int32) (fun f i bo => wX_findBounds_61 post J51 (nI k) tc ac (nI n) fc sv oc f (nI i) xth xad xco xtr xft xfk xfp xds xas xcs xfi xwr xwm bo xor xme xvr xok xlr xps) (fun i bo => bo_m n M k i 0 bo) n 0 bo (by omega) (bo_m_0 h) ?_ ?_
  · intro f bo' hI
    exact br_t (nI_le (Nat.le_refl n) (by omega)) (nm_r (nI_1 k) (hJ bo' (bo_m_all hI)))
  · intro f i bo' hi hI ih
    exact br_f (nI_ge hi (by omega)) (xw_71 hn hk hi bo' hI (fun bo2 h2 => ih bo2 h2))
theorem xw_51 (hn : n ≤ 6) (bo : Nat → Int32) (h : bo_r n M bo) (hp : ∀ bo', bo_r n (od_W M n) bo' → post (tc, ac, nI n, fc, sv, oc, xth, xad, xco, xtr, xft, xfk, xfp, xds, xas, xcs, xfi, xwr, xwm, bo', xor, xme, xvr, xok, xlr, xps)) :
    ∃ f, wX_findBounds_51 post tc ac (nI n) fc sv oc f 0 xth xad xco xtr xft xfk xfp xds xas xcs xfi xwr xwm bo xor xme xvr xok xlr xps := by
  refine pk_loop (σ := Nat → Int32) (fun f i bo => wX_findBounds_51 post tc ac (nI n) fc sv oc f (nI i) xth xad xco xtr xft xfk xfp xds xas xcs xfi xwr xwm bo xor xme xvr xok xlr xps) (fun i bo => bo_r n (od_W M i) bo) n 0 bo (by omega) h ?_ ?_
  · intro f bo' hI
    exact br_t (nI_le (Nat.le_refl n) (by omega)) (hp bo' hI)
  · intro f i bo' hi hI ih
    exact br_f (nI_ge hi (by omega)) (xw_61 hn hi bo' hI (fun bo2 h2 => ih bo2 h2))
theorem xw_12 {a : Nat} (hP : mu_P n A F xth xad xco rd wr aq rl on xfk xfi) (hT : re_T xtr rd wr aq rl) (hS : re_S xds xas xcs on) (ha : a < n) (bo : Nat → Int32)
    (h : bo_f n (mu_M n F xth xad rd wr aq rl on xft xfk xfp) a 0 bo) (hJ : ∀ bo', bo_f n (mu_M n F xth xad rd wr aq rl on xft xfk xfp) (a + 1) 0 bo' → J2 (nI (a + 1)) xth xad xco xtr xft xfk xfp xds xas xcs xfi xwr xwm bo' xor xme xvr xok xlr xps) :
    ∃ f, wX_findBounds_12 post J2 (nI a) tc ac (nI n) (nI F) sv oc f 0 xth xad xco xtr xft xfk xfp xds xas xcs xfi xwr xwm bo xor xme xvr xok xlr xps := by
  have hn := hP.1.1
  refine pk_loop (σ := Nat → Int32) (fun f i bo => wX_findBounds_12 post J2 (nI a) tc ac (nI n) (nI F) sv oc f (nI i) xth xad xco xtr xft xfk xfp xds xas xcs xfi xwr xwm bo xor xme xvr xok xlr xps) (fun i bo => bo_f n (mu_M n F xth xad rd wr aq rl on xft xfk xfp) a i bo) n 0 bo (by omega) h ?_ ?_
  · intro f bo' hI
    exact br_t (nI_le (Nat.le_refl n) (by omega)) (nm_r (nI_1 a) (hJ bo' (bo_f_row hI)))
  · intro f i bo' hi hI ih
    have v3 : vp_in (nI (a * 6 + i)) 36 := vp_in_nI (by omega) (by omega)
    refine br_f (nI_ge hi (by omega)) ?_
    rw [nu_6, nI_clamp (show a * 6 + i < 2 ^ 31 by omega)]
    exact xr_must hP hT hS ha hi (fun hm => ⟨v3, nm_e (nm_r (nI_1 i) (ih _ (bo_f_put hn hi hI ⟨fun _ => hm, fun _ => x1_0⟩)))⟩) (fun hm => ⟨v3, nm_e (nm_r (nI_1 i) (ih _ (bo_f_put hn hi hI ⟨fun z => absurd rfl z, fun z => absurd z hm⟩)))⟩)
theorem xw_bounds (hP : mu_P n A F xth xad xco rd wr aq rl on xfk xfi) (hT : re_T xtr rd wr aq rl) (hS : re_S xds xas xcs on)
    (hp : ∀ bo', bo_r n (od_W (mu_M n F xth xad rd wr aq rl on xft xfk xfp) n) bo' → post (tc, ac, nI n, nI F, sv, oc, xth, xad, xco, xtr, xft, xfk, xfp, xds, xas, xcs, xfi, xwr, xwm, bo', xor, xme, xvr, xok, xlr, xps)) : wpX_findBounds post (tc, ac, nI n, nI F, sv, oc, xth, xad, xco, xtr, xft, xfk, xfp, xds, xas, xcs, xfi, xwr, xwm, xbo, xor, xme, xvr, xok, xlr, xps) := by
  have hn := hP.1.1
  unfold wpX_findBounds
  refine pk_loop (σ := Nat → Int32) (fun f i bo => wX_findBounds_2 post tc ac (nI n) (nI F) sv oc f (nI i) xth xad xco xtr xft xfk xfp xds xas xcs xfi xwr xwm bo xor xme xvr xok xlr xps) (fun i bo => bo_f n (mu_M n F xth xad rd wr aq rl on xft xfk xfp) i 0 bo) n 0 xbo (by omega) (fun a b _ _ z => by omega) ?_ ?_
  · intro f bo' hI
    exact br_t (nI_le (Nat.le_refl n) (by omega)) (xw_51 hn bo' (bo_f_all hI) hp)
  · intro f i bo' hi hI ih
    exact br_f (nI_ge hi (by omega)) (xw_12 hP hT hS hi bo' hI (fun bo2 h2 => ih bo2 h2))
theorem xw_first (hn : n ≤ 6) (hp : ∀ o', re_or n 0 o' → post (tc, ac, nI n, fc, sv, oc, xth, xad, xco, xtr, xft, xfk, xfp, xds, xas, xcs, xfi, xwr, xwm, xbo, o', xme, xvr, xok, xlr, xps)) : wpX_takeFirstOrder post (tc, ac, nI n, fc, sv, oc, xth, xad, xco, xtr, xft, xfk, xfp, xds, xas, xcs, xfi, xwr, xwm, xbo, xor, xme, xvr, xok, xlr, xps) := by
  unfold wpX_takeFirstOrder
  refine pk_loop (σ := Nat → Int32) (fun f i o => wX_takeFirstOrder_2 post tc ac (nI n) fc sv oc f (nI i) xth xad xco xtr xft xfk xfp xds xas xcs xfi xwr xwm xbo o xme xvr xok xlr xps) (fun i o => ∀ p, p < i → o p = nI p) n 0 xor (by omega) (fun p h => by omega) ?_ ?_
  · intro f o hI
    exact br_t (nI_le (Nat.le_refl n) (by omega)) (hp o (fun p h => by rw [hI p h, pq_first hn h]))
  · intro f i o hi hI ih
    refine br_f (nI_ge hi (by omega)) ⟨vp_in_nI (by omega) (by omega), nm_e (nm_r (nI_1 i) (ih _ (fun p h => ?_)))⟩
    rw [nI_clamp (show i < 2 ^ 31 by omega)]
    by_cases e : p = i
    · rw [e, pk_us]
    · rw [pk_un e]; exact hI p (by omega)
theorem xw_swap {p q : Nat} (hp : p < 6) (hq : q < 6) (h : post (tc, ac, ec, fc, sv, oc, xth, xad, xco, xtr, xft, xfk, xfp, xds, xas, xcs, xfi, xwr, xwm, xbo, upd (upd xor p (xor q)) q (xor p), xme, xvr, xok, xlr, xps)) : wpX_swapPlaces post (tc, ac, ec, fc, sv, oc, xth, xad, xco, xtr, xft, xfk, xfp, xds, xas, xcs, xfi, xwr, xwm, xbo, xor, xme, xvr, xok, xlr, xps) (nI p) (nI q) := by
  unfold wpX_swapPlaces
  rw [nI_clamp (show p < 2 ^ 31 by omega), nI_clamp (show q < 2 ^ 31 by omega)]
  exact ⟨vp_in_nI hp (by omega), nm_e ⟨vp_in_nI hq (by omega), vp_in_nI hp (by omega), nm_e ⟨vp_in_nI hq (by omega), nm_e h⟩⟩⟩
end
section
variable {tc ac ec fc sv oc : Int32} {xth xad xco xtr xft xfk xfp xds xas xcs xfi xwr xwm xbo xor xme xvr xlr : Nat → Int32} {xok xps : Nat → Int64} {n : Nat} {B : Nat → Nat → Prop} {g : Nat → Nat} {post : Int32 → Prop}
theorem xw_isRun (hn : n ≤ 6) (hb : bo_r n B xbo) (ho : ∀ p, p < n → xor p = nI (g p)) (hg : ∀ p, p < n → g p < n) (h1 : od_ok B n g → post 1) (h0 : ¬ od_ok B n g → post 0) : wpX_isRun post (tc, ac, nI n, fc, sv, oc, xth, xad, xco, xtr, xft, xfk, xfp, xds, xas, xcs, xfi, xwr, xwm, xbo, xor, xme, xvr, xok, xlr, xps) := by
  unfold wpX_isRun
  refine pk_loop (σ := Unit) (fun f i _ => wX_isRun_2 post tc ac (nI n) fc sv oc xth xad xco xtr xft xfk xfp xds xas xcs xfi xwr xwm xbo xor xme xvr xok xlr xps f (nI i)) (fun i _ => ∀ p q, p < i → p < q → q < n → ¬ B (g q) (g p)) n 0 () (by omega) (fun p q h => by omega) ?_ ?_
  · intro f _ hI
    exact br_t (nI_le (Nat.le_refl n) (by omega)) (h1 (fun p q hpq hq => hI p q (by omega) hpq hq))
  · intro f i _ hi hI ih
    refine br_f (nI_ge hi (by omega)) (nm_r (nI_1 i) ?_)
    refine pk_loop (σ := Unit) (fun f2 j _ => wX_isRun_14 post (wX_isRun_2 post tc ac (nI n) fc sv oc xth xad xco xtr xft xfk xfp xds xas xcs xfi xwr xwm xbo xor xme xvr xok xlr xps f) (nI i) tc ac (nI n) fc sv oc xth xad xco xtr xft xfk xfp xds xas xcs xfi xwr xwm xbo xor xme xvr xok xlr xps f2 (nI j)) (fun j _ => i < j ∧ ∀ q, i < q → q < j → ¬ B (g q) (g i)) n (i + 1) () (by omega) ⟨by omega, fun q h h2 => by omega⟩ ?_ ?_
    · intro f2 _ hJ
      refine br_t (nI_le (Nat.le_refl n) (by omega)) (nm_r (nI_1 i) (ih () (fun p q hp hpq hq => ?_)))
      by_cases e : p = i
      · rw [e]; exact hJ.2 q (by omega) hq
      · exact hI p q (by omega) hpq hq
    · intro f2 j _ hj hJ ih2
      have g1 := hg i hi
      have g2 := hg j hj
      refine br_f (nI_ge hj (by omega)) ?_
      rw [nI_clamp (show i < 2 ^ 31 by omega), nI_clamp (show j < 2 ^ 31 by omega), ho i hi, ho j hj, nu_6, nI_clamp (show g j * 6 + g i < 2 ^ 31 by omega)]
      refine ⟨vp_in_nI (by omega) (by omega), vp_in_nI (by omega) (by omega), vp_in_nI (by omega) (by omega), br_c (fun e => nm_r (nI_1 j) (ih2 () ⟨by omega, fun q q1 q2 => ?_⟩)) (fun e => h0 (fun z => z i j hJ.1 hj ((hb _ _ g2 g1).mp e)))⟩
      by_cases e2 : q = j
      · rw [e2]; exact fun z => (hb _ _ g2 g1).mpr z e
      · exact hJ.2 q q1 (by omega)
theorem xw_lr7 (hn : n ≤ 6) (ho : ∀ p, p < n → xor p = nI (g p)) (hg : ∀ p, p < n → g p < n) : ∀ k, k + 1 ≤ n → (pq_rise g k = none → post (-1)) → (∀ i, pq_rise g k = some i → post (nI i)) → wX_lastRise_7 post tc ac (nI n) fc sv oc xth xad xco xtr xft xfk xfp xds xas xcs xfi xwr xwm xbo xor xme xvr xok xlr xps (k + 1) (nI k + (-1)) := by
  intro k
  induction k with
  | zero => exact fun _ h1 _ => br_t (by decide) (h1 rfl)
  | succ k ih =>
    intro hk h1 h2
    rw [pk_m1 k]
    have g1 := hg k (by omega)
    have g2 := hg (k + 1) (by omega)
    refine br_f (nI_pos (by omega)) ?_
    rw [nI_1, nI_clamp (show k < 2 ^ 31 by omega), nI_clamp (show k + 1 < 2 ^ 31 by omega), ho k (by omega), ho (k + 1) (by omega)]
    refine ⟨vp_in_nI (by omega) (by omega), vp_in_nI (by omega) (by omega), pk_le (g (k + 1)) (g k) (fun c => nm_e ?_) (fun c => h2 k (by rw [pq_rise, if_pos c]))⟩
    have e : pq_rise g (k + 1) = pq_rise g k := by rw [pq_rise, if_neg (by omega)]
    rw [e] at h1 h2
    exact ih (by omega) h1 h2
theorem xw_lr (hn : n ≤ 6) (ho : ∀ p, p < n → xor p = nI (g p)) (hg : ∀ p, p < n → g p < n) (h1 : pq_rise g (n - 1) = none → post (-1)) (h2 : ∀ i, pq_rise g (n - 1) = some i → post (nI i)) : wpX_lastRise post (tc, ac, nI n, fc, sv, oc, xth, xad, xco, xtr, xft, xfk, xfp, xds, xas, xcs, xfi, xwr, xwm, xbo, xor, xme, xvr, xok, xlr, xps) := by
  unfold wpX_lastRise
  rcases Nat.eq_zero_or_pos n with e | e
  · subst e
    exact nm_e ⟨1, br_t (by decide) (h1 rfl)⟩
  · refine nm_r (e' := nI (n - 1) + (-1)) ?_ ⟨_, xw_lr7 hn ho hg (n - 1) (by omega) h1 h2⟩
    obtain ⟨m, rfl⟩ : ∃ m, n = m + 1 := ⟨n - 1, by omega⟩
    rw [Nat.add_sub_cancel, ← nI_1, show (2 : Int32) = 1 + 1 from rfl]
    grind
end
section
variable {tc ac ec fc sv oc : Int32} {xth xad xco xtr xft xfk xfp xds xas xcs xfi xwr xwm xbo xor xme xvr xlr : Nat → Int32} {xok xps : Nat → Int64} {n r : Nat} {post : Int32 → SX → Prop}
theorem xw_69 {i j : Nat} {g : Nat → Nat} (hn : n ≤ 6) (hij : i < j) (hj : j < n) (o : Nat → Int32) (h : ∀ p, p < n → o p = nI (nw_h i j g p)) (hp : ∀ o', (∀ p, p < n → o' p = nI (pq_nf n i j g p)) → post 1 (tc, ac, nI n, fc, sv, oc, xth, xad, xco, xtr, xft, xfk, xfp, xds, xas, xcs, xfi, xwr, xwm, xbo, o', xme, xvr, xok, xlr, xps)) :
    ∃ f, wX_takeNextOrder_69 post f (nI (n - 1)) (nI (i + 1)) tc ac (nI n) fc sv oc xth xad xco xtr xft xfk xfp xds xas xcs xfi xwr xwm xbo o xme xvr xok xlr xps := by
  refine pk_loop (σ := Nat → Int32) (fun f t o => wX_takeNextOrder_69 post f (nI (n - 1 - t)) (nI (i + 1 + t)) tc ac (nI n) fc sv oc xth xad xco xtr xft xfk xfp xds xas xcs xfi xwr xwm xbo o xme xvr xok xlr xps) (fun t o => ∀ p, p < n → o p = nI (nw_t n i t (nw_h i j g) p)) ((n - i - 1) / 2) 0 o (by omega) (fun p hp' => by rw [nw_t0 hp']; exact h p hp') ?_ ?_
  · intro f o' hI
    exact br_t (nI_le (by omega) (by omega)) (hp o' (fun p hp' => by rw [hI p hp', nw_te hp' hij hj (by omega) (by omega)]))
  · intro f t o' ht hI ih
    refine br_f (nI_ge (by omega) (by omega)) (xw_swap (by omega) (by omega) (nm_r (nu_d (by omega)) (nm_r (nI_1 _) (ih _ (fun p hp' => ?_)))))
    rw [nw_ts hp' (by omega) (by omega)]
    by_cases e1 : p = n - 1 - t
    · rw [if_pos e1, e1, pk_us]; exact hI _ (by omega)
    · rw [if_neg e1, pk_un e1]
      by_cases e2 : p = i + 1 + t
      · rw [if_pos e2, e2, pk_us]; exact hI _ (by omega)
      · rw [if_neg e2, pk_un e2]; exact hI p hp'
theorem xw_next (hn : n ≤ 6) (hr : r < pq_N n) (ho : re_or n r xor) (hE : r + 1 = pq_N n → post 0 (tc, ac, nI n, fc, sv, oc, xth, xad, xco, xtr, xft, xfk, xfp, xds, xas, xcs, xfi, xwr, xwm, xbo, xor, xme, xvr, xok, xlr, xps)) (hN : r + 1 < pq_N n → ∀ o', re_or n (r + 1) o' → post 1 (tc, ac, nI n, fc, sv, oc, xth, xad, xco, xtr, xft, xfk, xfp, xds, xas, xcs, xfi, xwr, xwm, xbo, o', xme, xvr, xok, xlr, xps)) : wpX_takeNextOrder post (tc, ac, nI n, fc, sv, oc, xth, xad, xco, xtr, xft, xfk, xfp, xds, xas, xcs, xfi, xwr, xwm, xbo, xor, xme, xvr, xok, xlr, xps) := by
  unfold wpX_takeNextOrder
  refine xw_lr hn ho (fun p hp => pq_lt hr hp) (fun h => br_t rfl (hE ?_)) (fun i h => ?_)
  · rcases Nat.lt_trichotomy (r + 1) (pq_N n) with c | c | c
    · obtain ⟨i, hi, _⟩ := pq_step hn c
      rw [h] at hi
      exact absurd hi (by simp)
    · exact c
    · omega
  · have hc : r + 1 < pq_N n := by
      rcases Nat.lt_trichotomy (r + 1) (pq_N n) with c | c | c
      · exact c
      · have h2 := pq_end hn c
        rw [h] at h2
        exact absurd h2 (by simp)
      · omega
    obtain ⟨i', hi', hs⟩ := pq_step hn hc
    have e : i' = i := by
      rw [h] at hi'
      exact (Option.some.inj hi').symm
    subst e
    obtain ⟨q1, q2⟩ := nw_rise _ _ h
    have q3 := nw_sw q2 n (by omega)
    obtain ⟨g, hg⟩ : ∃ g, pq_pm n r = g := ⟨_, rfl⟩
    rw [hg] at q2 q3 hs
    refine br_f (nu_m1 _ (by omega)) (nm_r (nI_1 i') (nm_r (nu_p2 i') ?_))
    have e0 : pq_sw g i' (i' + 2) = i' + 1 := by rw [pq_sw, if_pos q2]
    have hl := pk_loop (σ := Unit) (fun f k _ => wX_takeNextOrder_20 post (nI i') tc ac (nI n) fc sv oc xth xad xco xtr xft xfk xfp xds xas xcs xfi xwr xwm xbo xor xme xvr xok xlr xps f (nI (pq_sw g i' k)) (nI k)) (fun k _ => i' + 2 ≤ k) n (i' + 2) () (by omega) (Nat.le_refl _) ?_ ?_
    · rw [e0] at hl
      exact hl
    · intro f _ _
      refine br_t (nI_le (Nat.le_refl n) (by omega)) (xw_swap (by omega) (by omega) (nm_r (pk_sub (a := n) (b := 1) (by omega)) (nm_r (nI_1 i') ?_)))
      refine xw_69 (g := g) hn q3.1 q3.2 _ (fun p hp => ?_) (fun o' ho' => hN hc o' (fun p hp => ?_))
      · unfold nw_h
        by_cases e1 : p = pq_sw g i' n
        · rw [if_pos e1, e1, pk_us, ho _ (by omega), hg]
        · rw [if_neg e1, pk_un e1]
          by_cases e2 : p = i'
          · rw [if_pos e2, e2, pk_us, ho _ (by omega), hg]
          · rw [if_neg e2, pk_un e2, ho _ hp, hg]
      · rw [ho' p hp, hs p hp]
    · intro f k _ hk hI ih
      have g1 : xor k = nI (g k) := by rw [ho k hk, hg]
      have g2 : xor i' = nI (g i') := by rw [ho i' (by omega), hg]
      have g3 : g k < n := by rw [← hg]; exact pq_lt hr hk
      have g4 : g i' < n := by rw [← hg]; exact pq_lt hr (by omega)
      refine br_f (nI_ge hk (by omega)) ?_
      rw [nI_clamp (show k < 2 ^ 31 by omega), nI_clamp (show i' < 2 ^ 31 by omega), g1, g2]
      refine ⟨vp_in_nI (by omega) (by omega), vp_in_nI (by omega) (by omega), pk_le (g k) (g i') (fun c => nm_r (nI_1 k) ?_) (fun c => nm_r (nI_1 k) ?_)⟩
      · have e1 : pq_sw g i' (k + 1) = pq_sw g i' k := by rw [pq_sw, if_neg (by omega)]
        have z := ih () (by omega)
        rw [e1] at z
        exact z
      · have e1 : pq_sw g i' (k + 1) = k := by rw [pq_sw, if_pos c]
        have z := ih () (by omega)
        rw [e1] at z
        exact z
end
end
section
/-! the class: a run's effect, its key, its pairs -/
theorem kx_step {d : Nat → Nat} {i : Nat} (hi : i < 9) (hd : ∀ j, d j < 16) : lN (dg_z d i * 16 ^ (9 - i)) ||| lN (d i * 2 ^ ((8 - i) * 4)) = lN (dg_z d (i + 1) * 16 ^ (9 - (i + 1))) := by
  have h1 := dg_z_lt d (i + 1) (fun j _ => hd j)
  have h2 : (16 : Nat) ^ (9 - i) = 16 * 16 ^ (8 - i) := by
    rw [← Nat.pow_succ']; exact congrArg (fun z => 16 ^ z) (by omega)
  have h3 : (16 : Nat) ^ 9 = 16 ^ (i + 1) * 16 ^ (8 - i) := by
    rw [← Nat.pow_add]; exact congrArg (fun z => 16 ^ z) (by omega)
  have h4 : 0 < (16 : Nat) ^ (8 - i) := Nat.pow_pos (by decide)
  have h5 : dg_z d (i + 1) * 16 ^ (8 - i) < 16 ^ 9 := by
    rw [h3]; exact Nat.mul_lt_mul_of_pos_right h1 h4
  have h6 : dg_z d i * 16 ^ (9 - i) + d i * 16 ^ (8 - i) = dg_z d (i + 1) * 16 ^ (8 - i) := by
    show _ = (dg_z d i * 16 + d i) * 16 ^ (8 - i)
    rw [h2, Nat.add_mul, Nat.mul_assoc]
  have h7 : d i * 16 ^ (8 - i) < 16 ^ (9 - i) := by
    rw [h2]; exact Nat.mul_lt_mul_of_pos_right (hd i) h4
  have h8 : (16 : Nat) ^ 9 < 2 ^ 64 := by decide
  rw [← nu_16, g_or (k := (9 - i) * 4) (nu_16 _).symm h7 (by omega), h6]
  exact congrArg (fun z => lN (dg_z d (i + 1) * 16 ^ z)) (by omega)
section
variable {n A F r : Nat} {th ad co rd wr aq rl on ft fk fp fi : Nat → Int32}
theorem kx_d0 (hP : mu_P n A F th ad co rd wr aq rl on fk fi) (hr : r < pq_N n) {i : Nat} (h : (n ≤ i ∧ i < 6) ∨ (6 + A ≤ i ∧ i < 9)) : ca_d ad co rd wr on fi n (pq_pm n r) i = 0 := by
  unfold ca_d
  rcases h with h | h
  · rw [if_pos h.2, ca_g0 _ _ n (fun q hq => by have := pq_lt hr hq; omega)]; rfl
  · rw [if_neg (by omega), ca_m0 _ _ n (fun q hq => ?_), hP.2.2.2.2.2.2.1 (i - 6) (by omega) (by omega)]
    · rfl
    · obtain ⟨j, hj, e⟩ := hP.2.1 _ (pq_lt hr hq)
      have hA := hP.1
      rw [e, nI_clamp (by omega)]
      omega
theorem kx_6 (hP : mu_P n A F th ad co rd wr aq rl on fk fi) (hr : r < pq_N n) : dg_z (ca_d ad co rd wr on fi n (pq_pm n r)) 6 * 16 ^ 3 = dg_z (ca_d ad co rd wr on fi n (pq_pm n r)) n * 16 ^ (9 - n) := by
  have hn := hP.1
  have h := dg_z_0 (ca_d ad co rd wr on fi n (pq_pm n r)) (6 - n) n (fun i h1 h2 => kx_d0 hP hr (Or.inl ⟨h1, by omega⟩))
  rw [show n + (6 - n) = 6 by omega] at h
  rw [h, Nat.mul_assoc, ← Nat.pow_add, show 6 - n + 3 = 9 - n by omega]
theorem kx_9 (hP : mu_P n A F th ad co rd wr aq rl on fk fi) (hr : r < pq_N n) : dg_z (ca_d ad co rd wr on fi n (pq_pm n r)) (6 + A) * 16 ^ (9 - (6 + A)) = ca_k ad co rd wr on fi n (pq_pm n r) := by
  have hn := hP.1
  have h := dg_z_0 (ca_d ad co rd wr on fi n (pq_pm n r)) (9 - (6 + A)) (6 + A) (fun i h1 h2 => kx_d0 hP hr (Or.inr ⟨h1, by omega⟩))
  rw [show 6 + A + (9 - (6 + A)) = 9 by omega] at h
  exact h.symm
end
/-- which pairs stand in the first i places against later ones, and place i against those before j -/
def pb_i (n : Nat) (g : Nat → Nat) (i j S : Nat) : Prop := S < 2 ^ 36 ∧ ∀ a b, a < 6 → b < 6 → (S.testBit (a * 6 + b) = true ↔ ∃ p q, p < q ∧ q < n ∧ (p < i ∨ (p = i ∧ q < j)) ∧ g p = a ∧ g q = b)
theorem pb_s {n i j S : Nat} {g : Nat → Nat} (h : pb_i n g i j S) (hn : n ≤ 6) (hg : ∀ p, p < n → g p < n) (hij : i < j) (hj : j < n) : pb_i n g i (j + 1) (S ||| 2 ^ (g i * 6 + g j)) := by
  have g1 := hg i (by omega)
  have g2 := hg j hj
  refine ⟨Nat.or_lt_two_pow h.1 (wb_lt2 (by omega)), fun a b ha hb => ?_⟩
  rw [Nat.testBit_or, Bool.or_eq_true, h.2 a b ha hb, Nat.testBit_two_pow, decide_eq_true_iff]
  constructor
  · rintro (⟨p, q, h1, h2, h3, h4⟩ | z)
    · exact ⟨p, q, h1, h2, by omega, h4⟩
    · exact ⟨i, j, hij, hj, Or.inr ⟨rfl, by omega⟩, by omega, by omega⟩
  · rintro ⟨p, q, h1, h2, h3, h4, h5⟩
    by_cases e : p = i ∧ q = j
    · rw [e.1] at h4
      rw [e.2] at h5
      exact Or.inr (by rw [h4, h5])
    · exact Or.inl ⟨p, q, h1, h2, by omega, h4, h5⟩
theorem pb_0 {n : Nat} {g : Nat → Nat} : pb_i n g 0 1 0 := by
  refine ⟨by decide, fun a b ha hb => ?_⟩
  rw [Nat.zero_testBit]
  exact ⟨fun z => by simp at z, fun ⟨p, q, h1, h2, h3, _⟩ => by omega⟩
theorem pb_row {n i S : Nat} {g : Nat → Nat} (h : pb_i n g i n S) : pb_i n g (i + 1) (i + 1 + 1) S := by
  refine ⟨h.1, fun a b ha hb => ?_⟩
  rw [h.2 a b ha hb]
  constructor
  · rintro ⟨p, q, h1, h2, h3, h4⟩
    exact ⟨p, q, h1, h2, by omega, h4⟩
  · rintro ⟨p, q, h1, h2, h3, h4⟩
    exact ⟨p, q, h1, h2, by omega, h4⟩
theorem pb_all {n j S : Nat} {g : Nat → Nat} (h : pb_i n g n j S) : S < 2 ^ 36 ∧ ∀ a b, a < 6 → b < 6 → (S.testBit (a * 6 + b) = true ↔ od_bef n g a b) := by
  refine ⟨h.1, fun a b ha hb => ?_⟩
  rw [h.2 a b ha hb]
  constructor
  · rintro ⟨p, q, h1, h2, _, h4, h5⟩
    exact ⟨p, q, h1, h2, h4, h5⟩
  · rintro ⟨p, q, h1, h2, h4, h5⟩
    exact ⟨p, q, h1, h2, by omega, h4, h5⟩
section
variable {tc ac ec fc sv oc : Int32} {xth xad xco xtr xft xfk xfp xds xas xcs xfi xwr xwm xbo xor xme xvr xlr : Nat → Int32} {xok xps : Nat → Int64} {n A F r : Nat} {rd wr aq rl on : Nat → Int32}
theorem xw_effect {post : SX → Prop} {e : Nat} {mem got : Nat → Int32} (hP : mu_P n A F xth xad xco rd wr aq rl on xfk xfi) (hT : re_T xtr rd wr aq rl) (hS : re_S xds xas xcs on) (he : e < n)
    (hm : ∀ y, y < A → xme y = mem y) (hg : got e = 0) (hs : ∀ j, j < 6 → on (4 * e + 1) = nI j → xvr j = got j ∧ j ≠ e)
    (hp : ∀ me' vr', (∀ y, y < A → me' y = ca_m xad xco rd wr on mem got e y) → vr' e = ca_g xad rd mem got e e → (∀ i, i ≠ e → vr' i = xvr i) → post (tc, ac, ec, fc, sv, oc, xth, xad, xco, xtr, xft, xfk, xfp, xds, xas, xcs, xfi, xwr, xwm, xbo, xor, me', vr', xok, xlr, xps)) : wpX_takeEffect post (tc, ac, ec, fc, sv, oc, xth, xad, xco, xtr, xft, xfk, xfp, xds, xas, xcs, xfi, xwr, xwm, xbo, xor, xme, xvr, xok, xlr, xps) (nI e) := by
  have hn := hP.1
  have ve : vp_in (nI e) 6 := vp_in_nI (by omega) (by omega)
  obtain ⟨x, hx, ex⟩ := hP.2.1 e he
  have vx : vp_in (nI x) 3 := vp_in_nI (by omega) (by omega)
  have key : ∀ z0, z0 = (if rd e = 0 then 0 else mem x) → wX_takeEffect_31 post (nI e) (nI x) z0 (nI e) tc ac ec fc sv oc xth xad xco xtr xft xfk xfp xds xas xcs xfi xwr xwm xbo xor xme xvr xok xlr xps := by
    intro z0 hz
    have hge : upd xvr e z0 e = ca_g xad rd mem got e e := by
      rw [pk_us, hz]
      unfold ca_g
      by_cases c : rd e = 0
      · rw [if_pos c, if_pos c, hg]
      · rw [if_neg c, if_neg c, pk_us, ex, nI_clamp (by omega)]
    have hgo : ∀ i, i ≠ e → upd xvr e z0 i = xvr i := fun i hi => pk_un hi
    refine ⟨ve, ?_⟩
    rw [nI_clamp (show e < 2 ^ 31 by omega)]
    refine nm_e (xr_wr hT (by omega) (fun hw => br_t rfl (hp _ _ (fun y hy => ?_) hge hgo)) (fun hw => br_f x1_0 ⟨ve, ve, ?_⟩))
    · unfold ca_m
      rw [if_pos hw]; exact hm y hy
    · have hfin : ∀ dv, dv = (if on (4 * e + 1) < 0 then 0 else got (on (4 * e + 1)).toNatClampNeg) → ∀ y, y < A → upd xme x (((upd xvr e z0 e + xco e) + dv) &&& 15) y = ca_m xad xco rd wr on mem got e y := by
        intro dv hdv y hy
        unfold ca_m ca_v
        rw [if_neg hw, ex, nI_clamp (show x < 2 ^ 31 by omega), pk_us, hz, hdv]
        by_cases c : y = x
        · rw [c, pk_us, pk_us]
        · rw [pk_un c, pk_un c]; exact hm y hy
      unfold wpX_dataFor
      rw [nI_clamp (show e < 2 ^ 31 by omega), nI_clamp (show x < 2 ^ 31 by omega)]
      refine ⟨ve, nm_r (hS e (by omega)).1 ?_⟩
      rcases hP.2.2.2.1 e 1 he (by omega) (by omega) with c | ⟨j, hj, ej, _⟩
      · exact br_t c (nm_e ⟨vx, nm_e (hp _ _ (hfin 0 (by rw [c, if_pos nu_neg1])) hge hgo)⟩)
      · refine br_f (by rw [ej]; exact nu_m1 j (by omega)) ?_
        rw [ej, nI_clamp (show j < 2 ^ 31 by omega)]
        refine ⟨vp_in_nI (by omega) (by omega), nm_e ⟨vx, nm_e (hp _ _ (hfin _ ?_) hge hgo)⟩⟩
        obtain ⟨s1, s2⟩ := hs j (by omega) ej
        rw [ej, if_neg (nI_pos (by omega)), nI_clamp (by omega), pk_un s2, s1]
  unfold wpX_takeEffect
  rw [nI_clamp (show e < 2 ^ 31 by omega)]
  refine ⟨ve, nm_r ex (xr_rd hT (by omega) (fun c => br_t rfl (key 0 (by rw [if_pos c]))) (fun c => br_f x1_0 ⟨vx, key _ ?_⟩))⟩
  rw [if_neg c, nI_clamp (by omega)]; exact hm x hx
theorem xw_carry {post : SX → Prop} (hP : mu_P n A F xth xad xco rd wr aq rl on xfk xfi) (hT : re_T xtr rd wr aq rl) (hS : re_S xds xas xcs on) (hr : r < pq_N n) (ho : re_or n r xor) (hk : re_ok n F xth xad rd wr aq rl on xft xfk xfp r)
    (hp : ∀ me' vr', (∀ y, y < A → me' y = (ca_s xad xco rd wr on xfi (pq_pm n r) n).1 y) → (∀ e, e < n → vr' e = (ca_s xad xco rd wr on xfi (pq_pm n r) n).2 e) → post (tc, nI A, nI n, fc, sv, oc, xth, xad, xco, xtr, xft, xfk, xfp, xds, xas, xcs, xfi, xwr, xwm, xbo, xor, me', vr', xok, xlr, xps)) : wpX_carryOut post (tc, nI A, nI n, fc, sv, oc, xth, xad, xco, xtr, xft, xfk, xfp, xds, xas, xcs, xfi, xwr, xwm, xbo, xor, xme, xvr, xok, xlr, xps) := by
  have hn := hP.1
  unfold wpX_carryOut
  refine pk_loop (σ := Nat → Int32) (fun f i me => wX_carryOut_2 post tc (nI A) (nI n) fc sv oc f (nI i) xth xad xco xtr xft xfk xfp xds xas xcs xfi xwr xwm xbo xor me xvr xok xlr xps) (fun i me => ∀ y, y < i → me y = xfi y) A 0 xme (by omega) (fun y h => by omega) ?_ ?_
  · intro f me hI
    refine br_t (nI_le (Nat.le_refl A) (by omega)) ?_
    refine pk_loop (σ := (Nat → Int32) × (Nat → Int32)) (fun f i s => wX_carryOut_30 post f (nI i) tc (nI A) (nI n) fc sv oc xth xad xco xtr xft xfk xfp xds xas xcs xfi xwr xwm xbo xor s.1 s.2 xok xlr xps) (fun i s => (∀ y, y < A → s.1 y = (ca_s xad xco rd wr on xfi (pq_pm n r) i).1 y) ∧ (∀ q, q < i → s.2 (pq_pm n r q) = (ca_s xad xco rd wr on xfi (pq_pm n r) i).2 (pq_pm n r q))) n 0 (me, xvr) (by omega) ⟨hI, fun q h => by omega⟩ ?_ ?_
    · intro f2 s hJ
      refine br_t (nI_le (Nat.le_refl n) (by omega)) (hp s.1 s.2 hJ.1 (fun e he => ?_))
      obtain ⟨q, hq, eq⟩ := pq_sur hr he
      rw [← eq]; exact hJ.2 q hq
    · intro f2 i s hi hJ ih
      have hl := pq_lt hr hi
      refine br_f (nI_ge hi (by omega)) ⟨vp_in_nI (by omega) (by omega), ?_⟩
      rw [nI_clamp (show i < 2 ^ 31 by omega), ho i hi]
      refine xw_effect hP hT hS hl hJ.1 (ca_g0 _ _ i (fun q hq z => by have := pq_inj hr (by omega) hi z; omega)) (fun j hj ej => ?_) (fun me' vr' h1 h2 h3 => nm_r (nI_1 i) (ih (me', vr') ⟨h1, fun q hq => ?_⟩))
      · obtain ⟨q, hq, eq⟩ := ca_src hP hr hk hi ej (by omega)
        rw [← eq]
        exact ⟨hJ.2 q hq, fun z => by have := pq_inj hr (by omega) hi z; omega⟩
      · show vr' (pq_pm n r q) = ca_g xad rd (ca_s xad xco rd wr on xfi (pq_pm n r) i).1 (ca_s xad xco rd wr on xfi (pq_pm n r) i).2 (pq_pm n r i) (pq_pm n r q)
        by_cases e : q = i
        · rw [e]; exact h2
        · have hne : pq_pm n r q ≠ pq_pm n r i := fun z => e (pq_inj hr (by omega) hi z)
          rw [h3 _ hne, hJ.2 q (by omega)]
          unfold ca_g
          split
          · rfl
          · rw [pk_un hne]
  · intro f i me hi hI ih
    refine br_f (nI_ge hi (by omega)) ⟨vp_in_nI (by omega) (by omega), vp_in_nI (by omega) (by omega), nm_e (nm_r (nI_1 i) (ih _ (fun y hy => ?_)))⟩
    rw [nI_clamp (show i < 2 ^ 31 by omega)]
    by_cases e : y = i
    · rw [e, pk_us]
    · rw [pk_un e]; exact hI y (by omega)
theorem xw_key {post : Int64 → Prop} (hP : mu_P n A F xth xad xco rd wr aq rl on xfk xfi) (hr : r < pq_N n)
    (hm : ∀ y, y < A → xme y = (ca_s xad xco rd wr on xfi (pq_pm n r) n).1 y) (hv : ∀ e, e < n → xvr e = (ca_s xad xco rd wr on xfi (pq_pm n r) n).2 e)
    (hp : post (lN (re_key n xad xco rd wr on xfi r))) : wpX_keyOfRun post (tc, nI A, nI n, fc, sv, oc, xth, xad, xco, xtr, xft, xfk, xfp, xds, xas, xcs, xfi, xwr, xwm, xbo, xor, xme, xvr, xok, xlr, xps) := by
  have hn := hP.1
  obtain ⟨d, hd⟩ : ∃ d, ca_d xad xco rd wr on xfi n (pq_pm n r) = d := ⟨_, rfl⟩
  have hd16 : ∀ j, d j < 16 := fun j => by rw [← hd]; exact ca_d16 hP.2.2.2.2.2.1 n _ j
  have hrg := ca_rng (ad := xad) (co := xco) (rd := rd) (wr := wr) (on := on) hP.2.2.2.2.2.1 (pq_pm n r) n
  have hd1 : ∀ e, e < n → xvr e = nI (d e) := by
    intro e he
    rw [hv e he, ← hd]
    unfold ca_d
    rw [if_pos (by omega)]
    exact (ca_cl (hrg.2 e)).2
  have hd2 : ∀ x, x < A → xme x = nI (d (6 + x)) := by
    intro x hx
    rw [hm x hx, ← hd]
    unfold ca_d
    rw [if_neg (by omega), Nat.add_sub_cancel_left]
    exact (ca_cl (hrg.1 x)).2
  have e6 := kx_6 hP hr
  have e9 := kx_9 hP hr
  rw [hd] at e6 e9
  unfold wpX_keyOfRun
  have hl := pk_loop (σ := Unit) (fun f i _ => wX_keyOfRun_4 post tc (nI A) (nI n) fc sv oc xth xad xco xtr xft xfk xfp xds xas xcs xfi xwr xwm xbo xor xme xvr xok xlr xps f (lN (dg_z d i * 16 ^ (9 - i))) (nI i)) (fun _ _ => True) n 0 () (by omega) trivial ?_ ?_
  · rw [show lN (dg_z d 0 * 16 ^ (9 - 0)) = 0 from by rw [dg_z, Nat.zero_mul]; rfl] at hl
    exact hl
  · intro f _ _
    refine br_t (nI_le (Nat.le_refl n) (by omega)) ?_
    rw [← e6]
    refine pk_loop (σ := Unit) (fun f x _ => wX_keyOfRun_35 post tc (nI A) (nI n) fc sv oc xth xad xco xtr xft xfk xfp xds xas xcs xfi xwr xwm xbo xor xme xvr xok xlr xps f (lN (dg_z d (6 + x) * 16 ^ (9 - (6 + x)))) (nI x)) (fun _ _ => True) A 0 () (by omega) trivial ?_ ?_
    · intro f2 _ _
      refine br_t (nI_le (Nat.le_refl A) (by omega)) ?_
      rw [e9]; exact hp
    · intro f2 x _ hx _ ih
      refine br_f (nI_ge hx (by omega)) ⟨vp_in_nI (by omega) (by omega), ?_⟩
      rw [nI_clamp (show x < 2 ^ 31 by omega), hd2 x hx]
      refine nm_r ?_ (nm_r (nI_1 x) (ih () trivial))
      rw [show (2 : Int32) - nI x = nI (2 - x) from pk_sub (a := 2) (by omega), show nI (2 - x) * 4 = nI ((2 - x) * 4) from pk_mul _ 4, nu_vshl (hd16 _) (by omega), show (2 - x) * 4 = (8 - (6 + x)) * 4 by omega]
      exact kx_step (by omega) hd16
  · intro f i _ hi _ ih
    refine br_f (nI_ge hi (by omega)) ⟨vp_in_nI (by omega) (by omega), ?_⟩
    rw [nI_clamp (show i < 2 ^ 31 by omega), hd1 i hi]
    refine nm_r ?_ (nm_r (nI_1 i) (ih () trivial))
    rw [show (8 : Int32) - nI i = nI (8 - i) from pk_sub (a := 8) (by omega), show nI (8 - i) * 4 = nI ((8 - i) * 4) from pk_mul _ 4, nu_vshl (hd16 _) (by omega)]
    exact kx_step (by omega) hd16
theorem xw_pack {post : Int32 → Prop} (hn : n ≤ 6) (hr : r < pq_N n) (ho : re_or n r xor) (hp : post (nI (dg_x (pq_pm n r) n))) : wpX_packedRun post (tc, ac, nI n, fc, sv, oc, xth, xad, xco, xtr, xft, xfk, xfp, xds, xas, xcs, xfi, xwr, xwm, xbo, xor, xme, xvr, xok, xlr, xps) := by
  unfold wpX_packedRun
  refine pk_loop (σ := Unit) (fun f i _ => wX_packedRun_4 post tc ac (nI n) fc sv oc xth xad xco xtr xft xfk xfp xds xas xcs xfi xwr xwm xbo xor xme xvr xok xlr xps f (nI (dg_x (pq_pm n r) i)) (nI i)) (fun _ _ => True) n 0 () (by omega) trivial ?_ ?_
  · exact fun f _ _ => br_t (nI_le (Nat.le_refl n) (by omega)) hp
  · intro f i _ hi _ ih
    have hl := pq_lt hr hi
    have h1 := dg_x_lt (pq_pm n r) i (fun j hj => by have := pq_lt hr (show j < n by omega); omega)
    have h2 := dg_x_lt (pq_pm n r) (i + 1) (fun j hj => by have := pq_lt hr (show j < n by omega); omega)
    have h3 : (16 : Nat) ^ (i + 1) ≤ 16 ^ 6 := Nat.pow_le_pow_right (by decide) (by omega)
    have h4 : (16 : Nat) ^ 6 < 2 ^ 32 := by decide
    refine br_f (nI_ge hi (by omega)) ⟨vp_in_nI (by omega) (by omega), ?_⟩
    rw [nI_clamp (show i < 2 ^ 31 by omega), ho i hi]
    refine nm_r ?_ (nm_r (nI_1 i) (ih () trivial))
    rw [nu_xp (by omega) (by omega)]
    exact dg_ior (k := i * 4) (nu_16 i).symm h1 (Nat.lt_of_lt_of_le h2 (by omega))
theorem xw_pairs {post : Int64 → Prop} (hn : n ≤ 6) (hr : r < pq_N n) (ho : re_or n r xor)
    (hp : ∀ S, (S < 2 ^ 36 ∧ ∀ a b, a < 6 → b < 6 → (S.testBit (a * 6 + b) = true ↔ re_bef n r a b)) → post (lN S)) : wpX_pairsOfRun post (tc, ac, nI n, fc, sv, oc, xth, xad, xco, xtr, xft, xfk, xfp, xds, xas, xcs, xfi, xwr, xwm, xbo, xor, xme, xvr, xok, xlr, xps) := by
  unfold wpX_pairsOfRun
  refine pk_loop (σ := Nat) (fun f i S => wX_pairsOfRun_4 post tc ac (nI n) fc sv oc xth xad xco xtr xft xfk xfp xds xas xcs xfi xwr xwm xbo xor xme xvr xok xlr xps f (lN S) (nI i)) (fun i S => pb_i n (pq_pm n r) i (i + 1) S) n 0 0 (by omega) pb_0 ?_ ?_
  · exact fun f S hI => br_t (nI_le (Nat.le_refl n) (by omega)) (hp S (pb_all hI))
  · intro f i S hi hI ih
    refine br_f (nI_ge hi (by omega)) (nm_r (nI_1 i) ?_)
    refine pk_loop (σ := Nat) (fun f2 j S => wX_pairsOfRun_17 post (wX_pairsOfRun_4 post tc ac (nI n) fc sv oc xth xad xco xtr xft xfk xfp xds xas xcs xfi xwr xwm xbo xor xme xvr xok xlr xps f) (nI i) tc ac (nI n) fc sv oc xth xad xco xtr xft xfk xfp xds xas xcs xfi xwr xwm xbo xor xme xvr xok xlr xps f2 (lN S) (nI j)) (fun j S => i < j ∧ pb_i n (pq_pm n r) i j S) n (i + 1) S (by omega) ⟨by omega, hI⟩ ?_ ?_
    · exact fun f2 S2 hJ => br_t (nI_le (Nat.le_refl n) (by omega)) (nm_r (nI_1 i) (ih S2 (pb_row hJ.2)))
    · intro f2 j S2 hj hJ ih2
      have g1 := pq_lt hr hi
      have g2 := pq_lt hr hj
      refine br_f (nI_ge hj (by omega)) ⟨vp_in_nI (by omega) (by omega), vp_in_nI (by omega) (by omega), ?_⟩
      rw [nI_clamp (show i < 2 ^ 31 by omega), nI_clamp (show j < 2 ^ 31 by omega), ho i hi, ho j hj, nu_6, nu_1shl (by omega), wb_or (by have := hJ.2.1; omega) (Nat.lt_trans (wb_lt2 (show pq_pm n r i * 6 + pq_pm n r j < 36 by omega)) (by decide))]
      exact nm_e (nm_r (nI_1 j) (ih2 _ ⟨by omega, pb_s hJ.2 hn (fun p hp => pq_lt hr hp) hJ.1 hj⟩))
end
end
section
/-! the class: the list of outcomes, solve -/
def si_i {α : Type} (j m : Nat) (x : α) (f f' : Nat → α) : Prop := f' j = x ∧ (∀ k, k < j → f' k = f k) ∧ (∀ k, j < k → k ≤ m → f' k = f (k - 1))
theorem si_s {j m : Nat} {x : Int32} {f f' : Nat → Int32} (h : sh_i j m f f') : si_i j m x f (upd f' j x) :=
  ⟨pk_us, fun k hk => by rw [pk_un (by omega)]; exact h.1 k hk, fun k h1 h2 => by rw [pk_un (by omega)]; exact h.2 k h1 h2⟩
theorem si_sL {j m : Nat} {x : Int64} {f f' : Nat → Int64} (h : sh_i j m f f') : si_i j m x f (vp_updL f' j x) :=
  ⟨pk_uLs, fun k hk => by rw [pk_uLn (by omega)]; exact h.1 k hk, fun k h1 h2 => by rw [pk_uLn (by omega)]; exact h.2 k h1 h2⟩
def so_mo (N i : Nat) : Int32 := if i < N then 1 else 0
theorem so_mo1 {N i : Nat} (h : i < N) : so_mo N i = 1 := if_pos h
theorem so_mo0 {N i : Nat} (h : ¬ i < N) : so_mo N i = 0 := if_neg h
section
variable {tc ac ec fc sv oc : Int32} {xth xad xco xtr xft xfk xfp xds xas xcs xfi xwr xwm xbo xor xme xvr xlr : Nat → Int32} {xok xps : Nat → Int64} {n A F r m : Nat} {rd wr aq rl on : Nat → Int32} {K R S : Nat → Nat}
theorem xw_place {post : Int32 → Prop} {x : Nat} (hm : m ≤ 180) (hx : x < 2 ^ 36) (hK : ∀ k, k < m → K k < 2 ^ 36) (hok : ∀ k, k < m → xok k = lN (K k))
    (hp : ∀ q, q ≤ m → (∀ k, k < q → K k < x) → (q < m → x ≤ K q) → post (nI q)) : wpX_placeOfKey post (tc, ac, ec, fc, sv, nI m, xth, xad, xco, xtr, xft, xfk, xfp, xds, xas, xcs, xfi, xwr, xwm, xbo, xor, xme, xvr, xok, xlr, xps) (lN x) := by
  unfold wpX_placeOfKey
  refine pk_loop (σ := Unit) (fun f i _ => wX_placeOfKey_2 post (lN x) tc ac ec fc sv (nI m) xth xad xco xtr xft xfk xfp xds xas xcs xfi xwr xwm xbo xor xme xvr xok xlr xps f (nI i)) (fun i _ => ∀ k, k < i → K k < x) m 0 () (by omega) (fun k h => by omega) ?_ ?_
  · exact fun f _ hI => br_t (nI_le (Nat.le_refl m) (by omega)) (hp m (Nat.le_refl m) hI (fun h => by omega))
  · intro f i _ hi hI ih
    have hKi := hK i hi
    refine br_f (nI_ge hi (by omega)) ⟨vp_in_nI (by omega) (by omega), ?_⟩
    rw [nI_clamp (show i < 2 ^ 31 by omega), hok i hi, pk_lLT (by omega) (by omega)]
    refine br_c (fun c => nm_r (nI_1 i) (ih () (fun k hk => ?_))) (fun c => hp i (by omega) hI (fun _ => by omega))
    by_cases e : k = i
    · rw [e]; exact c
    · exact hI k (by omega)
theorem xw_insert {post : SX → Prop} {j : Nat} {key : Int64} (hn : n ≤ 6) (hr : r < pq_N n) (ho : re_or n r xor) (hm : m < 180) (hj : j ≤ m)
    (hp : ∀ ok' lr' ps', si_i j m key xok ok' → si_i j m (nI (dg_x (pq_pm n r) n)) xlr lr' → si_i j m 0 xps ps' → post (tc, ac, nI n, fc, sv, nI (m + 1), xth, xad, xco, xtr, xft, xfk, xfp, xds, xas, xcs, xfi, xwr, xwm, xbo, xor, xme, xvr, ok', lr', ps')) : wpX_insertOutcome post (tc, ac, nI n, fc, sv, nI m, xth, xad, xco, xtr, xft, xfk, xfp, xds, xas, xcs, xfi, xwr, xwm, xbo, xor, xme, xvr, xok, xlr, xps) (nI j) key := by
  have vj : vp_in (nI j) 180 := vp_in_nI (by omega) (by omega)
  unfold wpX_insertOutcome
  have hl := pk_loopD (σ := (Nat → Int64) × (Nat → Int32) × (Nat → Int64)) (fun f d s => wX_insertOutcome_6 post (nI j) key tc ac (nI n) fc sv (nI m) f (nI (j + d)) xth xad xco xtr xft xfk xfp xds xas xcs xfi xwr xwm xbo xor xme xvr s.1 s.2.1 s.2.2) (fun d s => j + d ≤ m ∧ sh_i (j + d) m xok s.1 ∧ sh_i (j + d) m xlr s.2.1 ∧ sh_i (j + d) m xps s.2.2) ?_ ?_ (m - j) (xok, xlr, xps) ?_
  · rw [show j + (m - j) = m by omega] at hl
    exact ⟨_, hl⟩
  · intro f s hI
    refine br_t (nI_le (Nat.le_refl j) (by omega)) ⟨vj, ?_⟩
    rw [nI_clamp (show j < 2 ^ 31 by omega)]
    exact nm_e (xw_pack hn hr ho ⟨vj, nm_e ⟨vj, nm_e (nm_r (nI_1 m) (hp _ _ _ (si_sL hI.2.1) (si_s hI.2.2.1) (si_sL hI.2.2.2)))⟩⟩)
  · intro f d s hI ih
    have hb := hI.1
    have v0 : vp_in (nI (j + d)) 180 := vp_in_nI (by omega) (by omega)
    have v1 : vp_in (nI (j + d + 1)) 180 := vp_in_nI (by omega) (by omega)
    refine br_f (nI_ge (by omega) (by omega)) ?_
    rw [show j + (d + 1) = j + d + 1 from rfl, nI_pred (j + d), nI_clamp (show j + d < 2 ^ 31 by omega), nI_clamp (show j + d + 1 < 2 ^ 31 by omega)]
    exact ⟨v0, v1, nm_e ⟨v0, v1, nm_e ⟨v0, v1, nm_e (nm_r (pk_m1 (j + d)) (ih (_, _, _) ⟨by omega, sh_sL hI.2.1, sh_s hI.2.2.1, sh_sL hI.2.2.2⟩))⟩⟩⟩
  · rw [show j + (m - j) = m by omega]
    exact ⟨Nat.le_refl m, sh_0, sh_0, sh_0⟩
theorem xw_k47 {post : SX → Prop} {j : Nat} (hn : n ≤ 6) (hr : r < pq_N n) (ho : re_or n r xor) (hj : j < 180)
    (hp : ∀ B, (B < 2 ^ 36 ∧ ∀ a b, a < 6 → b < 6 → (B.testBit (a * 6 + b) = true ↔ re_bef n r a b)) → post (tc, ac, nI n, fc, sv, oc, xth, xad, xco, xtr, xft, xfk, xfp, xds, xas, xcs, xfi, xwr, xwm, xbo, xor, xme, xvr, xok, xlr, vp_updL xps j (xps j ||| lN B))) : wX_keepOutcome_47 post (nI j) tc ac (nI n) fc sv oc xth xad xco xtr xft xfk xfp xds xas xcs xfi xwr xwm xbo xor xme xvr xok xlr xps := by
  have vj : vp_in (nI j) 180 := vp_in_nI (by omega) (by omega)
  unfold wX_keepOutcome_47
  rw [nI_clamp (show j < 2 ^ 31 by omega)]
  exact ⟨vj, xw_pairs hn hr ho (fun B hB => ⟨vj, nm_e (hp B hB)⟩)⟩
/-- the list after r rounds, as the class keeps it -/
def xl_I (n : Nat) (ok : Nat → Prop) (key : Nat → Nat) (r : Nat) (oc : Int32) (xok : Nat → Int64) (xlr : Nat → Int32) (xps : Nat → Int64) : Prop :=
  ∃ m K R S, ol_so ok key r = (m, K, R) ∧ ol_pr ok key (re_bef n) r m K S ∧ re_X n m K R oc xok xlr ∧ (∀ k, k < m → xps k = lN (S k))
theorem xw_keep {post : SX → Prop} (hP : mu_P n A F xth xad xco rd wr aq rl on xfk xfi) (hr : r < pq_N n) (ho : re_or n r xor)
    (hm : ∀ y, y < A → xme y = (ca_s xad xco rd wr on xfi (pq_pm n r) n).1 y) (hv : ∀ e, e < n → xvr e = (ca_s xad xco rd wr on xfi (pq_pm n r) n).2 e)
    (hk : re_ok n F xth xad rd wr aq rl on xft xfk xfp r)
    (hI : xl_I n (re_ok n F xth xad rd wr aq rl on xft xfk xfp) (re_key n xad xco rd wr on xfi) r oc xok xlr xps)
    (hp : ∀ oc' ok' lr' ps', xl_I n (re_ok n F xth xad rd wr aq rl on xft xfk xfp) (re_key n xad xco rd wr on xfi) (r + 1) oc' ok' lr' ps' → post (tc, nI A, nI n, fc, sv, oc', xth, xad, xco, xtr, xft, xfk, xfp, xds, xas, xcs, xfi, xwr, xwm, xbo, xor, xme, xvr, ok', lr', ps')) : wpX_keepOutcome post (tc, nI A, nI n, fc, sv, oc, xth, xad, xco, xtr, xft, xfk, xfp, xds, xas, xcs, xfi, xwr, xwm, xbo, xor, xme, xvr, xok, xlr, xps) := by
  obtain ⟨m, K, R, S, e0, h1, ⟨rfl, h2⟩, h3⟩ := hI
  have hn := hP.1.1
  obtain ⟨i1, i2, i3, i4⟩ := ol_inv_all _ _ r m K R e0
  have hkl : ∀ s, re_key n xad xco rd wr on xfi s < 2 ^ 36 := fun s => ca_klt hP.2.2.2.2.2.1 n _
  have hKl : ∀ k, k < m → K k < 2 ^ 36 := fun k hk' => by rw [(i4 k hk').2.2]; exact hkl _
  unfold wpX_keepOutcome
  refine xw_key hP hr hm hv (xw_place i2 (hkl r) hKl (fun k hk' => (h2 k hk').1) (fun q hq hlo hhi => ?_))
  have h30 : (q = m ∨ K q ≠ re_key n xad xco rd wr on xfi r) → wX_keepOutcome_30 post (lN (re_key n xad xco rd wr on xfi r)) (nI q) tc (nI A) (nI n) fc sv (nI m) xth xad xco xtr xft xfk xfp xds xas xcs xfi xwr xwm xbo xor xme xvr xok xlr xps := by
    intro hne
    obtain ⟨hnew, hps⟩ := ol_fst i1 hq hlo hhi hne
    unfold wX_keepOutcome_30
    refine pk_lt m 180 (fun hm180 => ?_) (fun hm180 => ?_)
    · refine xw_insert hn hr ho hm180 hq (fun ok' lr' ps' s1 s2 s3 => xw_k47 hn hr ho (by omega) (fun B hB => hp _ _ _ _ ?_))
      have e1 := ol_so_y e0 ⟨hk, hnew, hm180⟩
      rw [hps] at e1
      refine ⟨_, _, _, ol_ins q B S, e1, ol_pr_y h1 hk hq hnew (i3 hm180) hB ol_ins_eq (fun k hk' => ol_ins_lt hk') (fun k hk' _ => ol_ins_gt hk'), ⟨rfl, fun k hk' => ?_⟩, fun k hk' => ?_⟩
      · rcases Nat.lt_trichotomy k q with c | c | c
        · rw [ol_ins_lt c, ol_ins_lt c, s1.2.1 k c, s2.2.1 k c]
          exact h2 k (by omega)
        · rw [c, ol_ins_eq, ol_ins_eq]
          exact ⟨s1.1, s2.1⟩
        · rw [ol_ins_gt c, ol_ins_gt c, s1.2.2 k c (by omega), s2.2.2 k c (by omega)]
          exact h2 (k - 1) (by omega)
      · rcases Nat.lt_trichotomy k q with c | c | c
        · rw [ol_ins_lt c, pk_uLn (by omega), s3.2.1 k c]
          exact h3 k (by omega)
        · rw [c, ol_ins_eq, pk_uLs, s3.1, Int64.zero_or]
        · rw [ol_ins_gt c, pk_uLn (by omega), s3.2.2 k c (by omega)]
          exact h3 (k - 1) (by omega)
    · exact hp _ _ _ _ ⟨m, K, R, S, ol_so_n e0 (fun z => by have := z.2.2; omega), ol_pr_n h1 (fun _ => hnew), ⟨rfl, h2⟩, h3⟩
  refine pk_eq q m (fun e => h30 (Or.inl e)) (fun e => ⟨vp_in_nI (by omega) (by omega), ?_⟩)
  have hqm : q < m := by omega
  rw [nI_clamp (show q < 2 ^ 31 by omega), (h2 q hqm).1, pk_lEQ (by have := hKl q hqm; omega) (by have := hkl r; omega)]
  refine br_c (fun c => ?_) (fun c => h30 (Or.inr c))
  refine xw_k47 hn hr ho (by omega) (fun B hB => hp _ _ _ _ ?_)
  refine ⟨m, K, R, (fun k => if k = q then S q ||| B else S k), ol_so_n e0 (fun z => z.2.1 q hqm c), ol_pr_f i1 h1 hk hqm c hB (if_pos rfl) (fun k _ hne => if_neg hne), ⟨rfl, h2⟩, fun k hk' => ?_⟩
  by_cases e2 : k = q
  · rw [e2, pk_uLs, h3 q hqm, wb_or (by have := (h1 q hqm).1; omega) (by have := hB.1; omega)]
    exact congrArg lN (if_pos rfl).symm
  · rw [pk_uLn e2, h3 k hk']
    exact congrArg lN (if_neg e2).symm
theorem xw_43 {post : Int32 → SX → Prop} {f i : Nat} (hn : n ≤ 6) (hi : i < pq_N n) (ho : re_or n i xor)
    (ih : ∀ o', (i + 1 < pq_N n → re_or n (i + 1) o') → wX_solve_17 post f (so_mo (pq_N n) (i + 1)) (nI (i + 1)) tc ac (nI n) fc sv oc xth xad xco xtr xft xfk xfp xds xas xcs xfi xwr xwm xbo o' xme xvr xok xlr xps) : wX_solve_43 post (wX_solve_17 post f) (nI i) tc ac (nI n) fc sv oc xth xad xco xtr xft xfk xfp xds xas xcs xfi xwr xwm xbo xor xme xvr xok xlr xps := by
  unfold wX_solve_43
  refine xw_next hn hi ho (fun h => nm_r (nI_1 i) ?_) (fun h o' ho' => nm_r (nI_1 i) ?_)
  · have z := ih xor (fun h2 => by omega)
    rw [so_mo0 (by omega)] at z
    exact z
  · have z := ih o' (fun _ => ho')
    rw [so_mo1 h] at z
    exact z
theorem xw_solve {post : Int32 → SX → Prop} (hP : mu_P n A F xth xad xco rd wr aq rl on xfk xfi) (hT : re_T xtr rd wr aq rl) (hS : re_S xds xas xcs on)
    (hp : ∀ bo' or' me' vr' oc' ok' lr' ps', xl_I n (re_ok n F xth xad rd wr aq rl on xft xfk xfp) (re_key n xad xco rd wr on xfi) (pq_N n) oc' ok' lr' ps' → post oc' (tc, nI A, nI n, nI F, 1, oc', xth, xad, xco, xtr, xft, xfk, xfp, xds, xas, xcs, xfi, xwr, xwm, bo', or', me', vr', ok', lr', ps')) : wpX_solve post (tc, nI A, nI n, nI F, sv, oc, xth, xad, xco, xtr, xft, xfk, xfp, xds, xas, xcs, xfi, xwr, xwm, xbo, xor, xme, xvr, xok, xlr, xps) := by
  have hn := hP.1.1
  have hN := pq_Nb hn
  unfold wpX_solve
  refine xw_bounds hP hT hS (fun bo hb => xw_first hn (fun o0 ho0 => ?_))
  have hl := pk_loop (σ := Int32 × (Nat → Int32) × (Nat → Int32) × (Nat → Int32) × (Nat → Int64) × (Nat → Int32) × (Nat → Int64))
    (fun f i s => wX_solve_17 post f (so_mo (pq_N n) i) (nI i) tc (nI A) (nI n) (nI F) sv s.1 xth xad xco xtr xft xfk xfp xds xas xcs xfi xwr xwm bo s.2.1 s.2.2.1 s.2.2.2.1 s.2.2.2.2.1 s.2.2.2.2.2.1 s.2.2.2.2.2.2)
    (fun i s => (i < pq_N n → re_or n i s.2.1) ∧ xl_I n (re_ok n F xth xad rd wr aq rl on xft xfk xfp) (re_key n xad xco rd wr on xfi) i s.1 s.2.2.2.2.1 s.2.2.2.2.2.1 s.2.2.2.2.2.2)
    (pq_N n) 0 (0, o0, xme, xvr, xok, xlr, xps) (by omega) ⟨fun _ => ho0, ⟨0, _, _, fun _ => 0, rfl, fun k hk => by omega, ⟨rfl, fun k hk => by omega⟩, fun k hk => by omega⟩⟩ ?_ ?_
  · rw [so_mo1 hN.1] at hl
    exact hl
  · intro f s hI
    exact br_c (fun _ => hp _ _ _ _ _ _ _ _ hI.2) (fun _ => br_t (so_mo0 (Nat.lt_irrefl _)) (hp _ _ _ _ _ _ _ _ hI.2))
  · intro f i s hi hI ih
    have ho := hI.1 hi
    refine br_f (nI_ge (b := 720) (by omega) (by decide)) (br_f (by rw [so_mo1 hi]; exact x1_0) ?_)
    refine xw_isRun hn hb (g := pq_pm n i) ho (fun p hp' => pq_lt hi hp') (fun hok => ?_) (fun hok => ?_)
    · have hok' : re_ok n F xth xad rd wr aq rl on xft xfk xfp i := (od_okW mu_M_lt hi).mp hok
      refine br_f x1_0 (xw_carry hP hT hS hi ho hok' (fun me' vr' c1 c2 => xw_keep hP hi ho c1 c2 hok' hI.2 (fun oc' ok' lr' ps' hI' => ?_)))
      exact xw_43 hn hi ho (fun o' ho' => ih (oc', o', me', vr', ok', lr', ps') ⟨ho', hI'⟩)
    · have hok' : ¬ re_ok n F xth xad rd wr aq rl on xft xfk xfp i := fun z => hok ((od_okW mu_M_lt hi).mpr z)
      refine br_t rfl (xw_43 hn hi ho (fun o' ho' => ih (s.1, o', s.2.2.1, s.2.2.2.1, s.2.2.2.2.1, s.2.2.2.2.2.1, s.2.2.2.2.2.2) ⟨ho', ?_⟩))
      obtain ⟨m, K, R, S, e0, h1, h2, h3⟩ := hI.2
      exact ⟨m, K, R, S, ol_so_n e0 (fun z => hok' z.1), ol_pr_n h1 (fun z => absurd z hok'), h2, h3⟩
end
end
section
/-! the reference: which event must precede which, the start, the next order, the runs -/
section
variable {yt ya yn yf ys yo : Int32} {yth yad yco yrd ywr yaq yrl yon yft yfk yfp yfi ywe ywm yle ysh yor ybo yme ygo : Nat → Int32} {yok : Nat → Int64} {n A F a b : Nat} {post : Int32 → Prop}
theorem yr_fen (ha : a < 6) (hb : b < 6) (hF : F ≤ 8) (h1 : mu_F F yth yrd ywr yft yfk yfp a b → post 1) (h0 : ¬ mu_F F yth yrd ywr yft yfk yfp a b → post 0) : wpY_fenced post (yt, ya, yn, nI F, ys, yo, yth, yad, yco, yrd, ywr, yaq, yrl, yon, yft, yfk, yfp, yfi, ywe, ywm, yok, yle, ysh, yor, ybo, yme, ygo) (nI a) (nI b) := by
  unfold wpY_fenced
  refine pk_loop (σ := Unit) (fun f i _ => wY_fenced_2 post (nI a) (nI b) yt ya yn (nI F) ys yo yth yad yco yrd ywr yaq yrl yon yft yfk yfp yfi ywe ywm yok yle ysh yor ybo yme ygo f (nI i)) (fun i _ => ∀ g, g < i → ¬ mu_G yth yrd ywr yft yfk yfp a b g) F 0 () (by omega) (fun g hg => by omega) ?_ ?_
  · intro f _ hI
    exact br_t (nI_le (Nat.le_refl F) (by omega)) (h0 (fun ⟨g, hg, z⟩ => hI g hg z))
  · intro f i _ hi hI ih
    have hno : ¬ mu_G yth yrd ywr yft yfk yfp a b i → ∀ y, y = nI i + 1 → wY_fenced_2 post (nI a) (nI b) yt ya yn (nI F) ys yo yth yad yco yrd ywr yaq yrl yon yft yfk yfp yfi ywe ywm yok yle ysh yor ybo yme ygo f y := fun z =>
      nm_r (nI_1 i) (ih () (fun g hg => by
        by_cases e : g = i
        · rw [e]; exact z
        · exact hI g (by omega)))
    have hyes : mu_G yth yrd ywr yft yfk yfp a b i → post 1 := fun z => h1 ⟨i, hi, z⟩
    have v8 : vp_in (nI i) 8 := vp_in_nI (by omega) (by omega)
    have va : vp_in (nI a) 6 := vp_in_nI (by omega) (by omega)
    have vb : vp_in (nI b) 6 := vp_in_nI (by omega) (by omega)
    have ci : (nI i).toNatClampNeg = i := nI_clamp (by omega)
    have ca : (nI a).toNatClampNeg = a := nI_clamp (by omega)
    have cb : (nI b).toNatClampNeg = b := nI_clamp (by omega)
    refine br_f (nI_ge hi (by omega)) ?_
    rw [ci, ca]
    refine ⟨v8, va, br_c (fun e1 => ⟨v8, br_c (fun e2 => hno (fun z => z.2.1 e2)) (fun e2 => ⟨v8, br_c (fun e3 => hno (fun z => z.2.2.1 e3)) (fun e3 => ⟨v8, br_c (fun e4 => hyes ⟨e1, e2, e3, Or.inl e4⟩) (fun e4 => ⟨v8, ?_⟩)⟩)⟩)⟩) (fun e1 => hno (fun z => e1 z.1))⟩
    have h78 : ¬ (yfk i = 1 ∧ ¬ yrd a = 0) → wY_fenced_78 post (wY_fenced_2 post (nI a) (nI b) yt ya yn (nI F) ys yo yth yad yco yrd ywr yaq yrl yon yft yfk yfp yfi ywe ywm yok yle ysh yor ybo yme ygo f) (nI a) (nI b) (nI i) yt ya yn (nI F) ys yo yth yad yco yrd ywr yaq yrl yon yft yfk yfp yfi ywe ywm yok yle ysh yor ybo yme ygo := by
      intro hn1
      unfold wY_fenced_78
      rw [ci, ca, cb]
      refine ⟨v8, br_c (fun k2 => ⟨va, br_c (fun w1 => hno ?_) (fun w1 => ⟨vb, br_c (fun w2 => hno ?_) (fun w2 => hyes ⟨e1, e2, e3, Or.inr (Or.inr ⟨k2, w1, w2⟩)⟩)⟩)⟩) (fun k2 => hno ?_)⟩
      · rintro ⟨_, _, _, z | z | z⟩
        · exact e4 z
        · exact hn1 z
        · exact z.2.1 w1
      · rintro ⟨_, _, _, z | z | z⟩
        · exact e4 z
        · exact hn1 z
        · exact z.2.2 w2
      · rintro ⟨_, _, _, z | z | z⟩
        · exact e4 z
        · exact hn1 z
        · exact k2 z.1
    exact br_c (fun k1 => ⟨va, br_c (fun w => h78 (fun z => z.2 w)) (fun w => hyes ⟨e1, e2, e3, Or.inr (Or.inl ⟨k1, w⟩)⟩)⟩) (fun k1 => h78 (fun z => k1 z.1))
theorem yr_86 (hab : a < b) (hb : b < 6) (h1 : mu_D ywr yon a b → post 1) (h0 : ¬ mu_D ywr yon a b → post 0) : wY_must_86 post (nI a) (nI b) yt ya yn yf ys yo yth yad yco yrd ywr yaq yrl yon yft yfk yfp yfi ywe ywm yok yle ysh yor ybo yme ygo := by
  have vb : vp_in (nI b) 6 := vp_in_nI (by omega) (by omega)
  have cb : (nI b).toNatClampNeg = b := nI_clamp (by omega)
  have hloop : ¬ yon (4 * b + 1) = nI a → ¬ yon (4 * b + 2) = nI a → ¬ (yon (4 * b + 3) = nI a ∧ ¬ ywr b = 0) → ∃ f, wY_must_143 post (nI a) (nI b) yt ya yn yf ys yo yth yad yco yrd ywr yaq yrl yon yft yfk yfp yfi ywe ywm yok yle ysh yor ybo yme ygo f 0 := by
    intro e1 e2 e3
    refine pk_loop (σ := Unit) (fun f i _ => wY_must_143 post (nI a) (nI b) yt ya yn yf ys yo yth yad yco yrd ywr yaq yrl yon yft yfk yfp yfi ywe ywm yok yle ysh yor ybo yme ygo f (nI i)) (fun i _ => ∀ c, c < i → ¬ (yon (4 * c + 2) = nI a ∧ ¬ ywr b = 0)) b 0 () (by omega) (fun c h => by omega) ?_ ?_
    · intro f _ hI
      refine br_t (nI_le (Nat.le_refl b) (by omega)) (h0 ?_)
      rintro (z | z | z | ⟨c, hc, z⟩)
      · exact e1 z
      · exact e2 z
      · exact e3 z
      · exact hI c hc z
    · intro f i _ hi hI ih
      have hno : ¬ (yon (4 * i + 2) = nI a ∧ ¬ ywr b = 0) → ∀ y, y = nI i + 1 → wY_must_143 post (nI a) (nI b) yt ya yn yf ys yo yth yad yco yrd ywr yaq yrl yon yft yfk yfp yfi ywe ywm yok yle ysh yor ybo yme ygo f y := fun z =>
        nm_r (nI_1 i) (ih () (fun g hg => by
          by_cases e : g = i
          · rw [e]; exact z
          · exact hI g (by omega)))
      refine br_f (nI_ge hi (by omega)) ?_
      rw [nu_42, nI_clamp (show 4 * i + 2 < 2 ^ 31 by omega), cb]
      exact ⟨vp_in_nI (by omega) (by omega), br_c (fun c => ⟨vb, br_c (fun w => hno (fun z => z.2 w)) (fun w => h1 (Or.inr (Or.inr (Or.inr ⟨i, hi, c, w⟩))))⟩) (fun c => hno (fun z => c z.1))⟩
  unfold wY_must_86
  rw [nu_41, nu_42, nu_43, nI_clamp (show 4 * b + 1 < 2 ^ 31 by omega), nI_clamp (show 4 * b + 2 < 2 ^ 31 by omega), nI_clamp (show 4 * b + 3 < 2 ^ 31 by omega), cb]
  exact ⟨vp_in_nI (by omega) (by omega), br_c (fun e1 => h1 (Or.inl e1)) (fun e1 => ⟨vp_in_nI (by omega) (by omega), br_c (fun e2 => h1 (Or.inr (Or.inl e2))) (fun e2 => ⟨vp_in_nI (by omega) (by omega), br_c (fun e3 => ⟨vb, br_c (fun w => hloop e1 e2 (fun z => z.2 w)) (fun w => h1 (Or.inr (Or.inr (Or.inl ⟨e3, w⟩))))⟩) (fun e3 => hloop e1 e2 (fun z => e3 z.1))⟩)⟩)⟩
theorem yr_must (hn : n ≤ 6) (hF : F ≤ 8) (ha : a < n) (hb : b < n)
    (h1 : mu_M n F yth yad yrd ywr yaq yrl yon yft yfk yfp a b → post 1) (h0 : ¬ mu_M n F yth yad yrd ywr yaq yrl yon yft yfk yfp a b → post 0) : wpY_must post (yt, ya, yn, nI F, ys, yo, yth, yad, yco, yrd, ywr, yaq, yrl, yon, yft, yfk, yfp, yfi, ywe, ywm, yok, yle, ysh, yor, ybo, yme, ygo) (nI a) (nI b) := by
  have va : vp_in (nI a) 6 := vp_in_nI (by omega) (by omega)
  have vb : vp_in (nI b) 6 := vp_in_nI (by omega) (by omega)
  have ca : (nI a).toNatClampNeg = a := nI_clamp (by omega)
  have cb : (nI b).toNatClampNeg = b := nI_clamp (by omega)
  unfold wpY_must
  simp only [ca, cb]
  refine pk_le b a (fun c => h0 (fun z => by have := z.1.1; omega)) (fun hab => ⟨va, vb, br_c (fun et => ⟨va, vb, br_c (fun ea => h1 ⟨⟨hab, hb⟩, et, Or.inl ea⟩) (fun ea => ?_)⟩) (fun et => h0 (fun z => et z.2.1))⟩)
  refine yr_fen (by omega) (by omega) hF (fun hF' => br_f x1_0 (h1 ⟨⟨hab, hb⟩, et, Or.inr (Or.inl hF')⟩)) (fun hF' => br_t rfl ?_)
  have hA1 : mu_A yaq yrl a b → post 1 := fun z => h1 ⟨⟨hab, hb⟩, et, Or.inr (Or.inr (Or.inl z))⟩
  have h86 : ¬ mu_A yaq yrl a b → wY_must_86 post (nI a) (nI b) yt ya yn (nI F) ys yo yth yad yco yrd ywr yaq yrl yon yft yfk yfp yfi ywe ywm yok yle ysh yor ybo yme ygo := by
    intro hA
    refine yr_86 hab (by omega) (fun hD => h1 ⟨⟨hab, hb⟩, et, Or.inr (Or.inr (Or.inr hD))⟩) (fun hD => h0 ?_)
    rintro ⟨_, _, z | z | z | z⟩
    · exact ea z
    · exact hF' z
    · exact hA z
    · exact hD z
  refine ⟨va, br_c (fun e1 => ⟨vb, br_c (fun e2 => ⟨va, br_c (fun e3 => h86 ?_) (fun e3 => ⟨vb, br_c (fun e4 => h86 ?_) (fun e4 => hA1 (Or.inr (Or.inr ⟨e3, e4⟩)))⟩)⟩) (fun e2 => hA1 (Or.inr (Or.inl e2)))⟩) (fun e1 => hA1 (Or.inl e1))⟩
  · rintro (z | z | z)
    · exact z e1
    · exact z e2
    · exact z.1 e3
  · rintro (z | z | z)
    · exact z e1
    · exact z e2
    · exact z.2 e4
end
section
variable {yt ya yn yf ys yo : Int32} {yth yad yco yrd ywr yaq yrl yon yft yfk yfp yfi ywe ywm yle ysh yor ybo yme ygo : Nat → Int32} {yok : Nat → Int64} {n A F : Nat} {post : SY → Prop} {J2 : Int32 → (Nat → Int32) → (Nat → Int32) → (Nat → Int32) → (Nat → Int32) → (Nat → Int32) → (Nat → Int32) → (Nat → Int32) → (Nat → Int32) → (Nat → Int32) → (Nat → Int32) → (Nat → Int32) → (Nat → Int32) → (Nat → Int32) → (Nat → Int32) → (Nat → Int64) → (Nat → Int32) → (Nat → Int32) → (Nat → Int32) → (Nat → Int32) → (Nat → Int32) → (Nat → Int32) → Prop}
theorem yw_17 {a : Nat} (hn : n ≤ 6) (hF : F ≤ 8) (ha : a < 6) (bo : Nat → Int32)
    (h : bo_f 6 (mu_M n F yth yad yrd ywr yaq yrl yon yft yfk yfp) a 0 bo) (hJ : ∀ bo', bo_f 6 (mu_M n F yth yad yrd ywr yaq yrl yon yft yfk yfp) (a + 1) 0 bo' → J2 (nI (a + 1)) yth yad yco yrd ywr yaq yrl yon yft yfk yfp yfi ywe ywm yok yle ysh yor bo' yme ygo) :
    ∃ f, wY_start_17 post J2 (nI a) yt ya (nI n) (nI F) ys yo f 0 yth yad yco yrd ywr yaq yrl yon yft yfk yfp yfi ywe ywm yok yle ysh yor bo yme ygo := by
  refine pk_loop (σ := Nat → Int32) (fun f i bo => wY_start_17 post J2 (nI a) yt ya (nI n) (nI F) ys yo f (nI i) yth yad yco yrd ywr yaq yrl yon yft yfk yfp yfi ywe ywm yok yle ysh yor bo yme ygo) (fun i bo => bo_f 6 (mu_M n F yth yad yrd ywr yaq yrl yon yft yfk yfp) a i bo) 6 0 bo (by omega) h ?_ ?_
  · intro f bo' hI
    exact br_t (nI_le (b := 6) (Nat.le_refl 6) (by decide)) (nm_r (nI_1 a) (hJ bo' (bo_f_row hI)))
  · intro f i bo' hi hI ih
    have v3 : vp_in (nI (a * 6 + i)) 36 := vp_in_nI (by omega) (by omega)
    have h0 : ¬ mu_M n F yth yad yrd ywr yaq yrl yon yft yfk yfp a i → ∀ y, y = nI i + 1 → wY_start_17 post J2 (nI a) yt ya (nI n) (nI F) ys yo f y yth yad yco yrd ywr yaq yrl yon yft yfk yfp yfi ywe ywm yok yle ysh yor (upd bo' (a * 6 + i) (vp_nar .boolean 0)) yme ygo := fun hm =>
      nm_r (nI_1 i) (ih _ (bo_f_put (Nat.le_refl 6) hi hI ⟨fun z => absurd rfl z, fun z => absurd z hm⟩))
    refine br_f (nI_ge (b := 6) hi (by decide)) ?_
    rw [nu_6', nI_clamp (show a * 6 + i < 2 ^ 31 by omega)]
    refine pk_le n a (fun c => ⟨v3, nm_e (h0 (fun z => by have := z.1; omega))⟩) (fun c => pk_le n i (fun c2 => ⟨v3, nm_e (h0 (fun z => by have := z.1; omega))⟩) (fun c2 => ?_))
    exact yr_must hn hF c c2 (fun hm => br_f x1_0 ⟨v3, nm_e (nm_r (nI_1 i) (ih _ (bo_f_put (Nat.le_refl 6) hi hI ⟨fun _ => hm, fun _ => x1_0⟩)))⟩) (fun hm => br_t rfl ⟨v3, nm_e (h0 hm)⟩)
theorem yw_start (hn : n ≤ 6) (hF : F ≤ 8) (hp : ∀ o' bo', re_or n 0 o' → bo_r n (mu_M n F yth yad yrd ywr yaq yrl yon yft yfk yfp) bo' → post (yt, ya, nI n, nI F, ys, yo, yth, yad, yco, yrd, ywr, yaq, yrl, yon, yft, yfk, yfp, yfi, ywe, ywm, yok, yle, ysh, o', bo', yme, ygo)) : wpY_start post (yt, ya, nI n, nI F, ys, yo, yth, yad, yco, yrd, ywr, yaq, yrl, yon, yft, yfk, yfp, yfi, ywe, ywm, yok, yle, ysh, yor, ybo, yme, ygo) := by
  unfold wpY_start
  refine pk_loop (σ := (Nat → Int32) × (Nat → Int32)) (fun f i s => wY_start_2 post yt ya (nI n) (nI F) ys yo f (nI i) yth yad yco yrd ywr yaq yrl yon yft yfk yfp yfi ywe ywm yok yle ysh s.1 s.2 yme ygo) (fun i s => (∀ p, p < i → s.1 p = nI p) ∧ bo_f 6 (mu_M n F yth yad yrd ywr yaq yrl yon yft yfk yfp) i 0 s.2) 6 0 (yor, ybo) (by omega) ⟨fun p h => by omega, fun a b _ _ z => by omega⟩ ?_ ?_
  · intro f s hI
    exact br_t (nI_le (b := 6) (Nat.le_refl 6) (by decide)) (hp s.1 s.2 (fun p h => by rw [hI.1 p (by omega), pq_first hn h]) (fun a b ha hb => bo_f_all hI.2 a b (by omega) (by omega)))
  · intro f i s hi hI ih
    refine br_f (nI_ge (b := 6) hi (by decide)) ⟨vp_in_nI (by omega) (by omega), nm_e ?_⟩
    rw [nI_clamp (show i < 2 ^ 31 by omega)]
    refine yw_17 hn hF hi s.2 hI.2 (fun bo2 h2 => ih (_, bo2) ⟨fun p hp' => ?_, h2⟩)
    show upd s.1 i (nI i) p = nI p
    by_cases e : p = i
    · rw [e, pk_us]
    · rw [pk_un e]; exact hI.1 p (by omega)
end
section
variable {yt ya yn yf ys yo : Int32} {yth yad yco yrd ywr yaq yrl yon yft yfk yfp yfi ywe ywm yle ysh yor ybo yme ygo : Nat → Int32} {yok : Nat → Int64} {n r : Nat} {g : Nat → Nat}
theorem yw_isRun {post : Int32 → Prop} {B : Nat → Nat → Prop} (hn : n ≤ 6) (hb : bo_r n B ybo) (ho : ∀ p, p < n → yor p = nI (g p)) (hg : ∀ p, p < n → g p < n) (h1 : od_ok B n g → post 1) (h0 : ¬ od_ok B n g → post 0) : wpY_isRun post (yt, ya, nI n, yf, ys, yo, yth, yad, yco, yrd, ywr, yaq, yrl, yon, yft, yfk, yfp, yfi, ywe, ywm, yok, yle, ysh, yor, ybo, yme, ygo) := by
  unfold wpY_isRun
  rcases Nat.eq_zero_or_pos n with e0 | e0
  · subst e0
    exact ⟨1, br_t (by decide) (h1 (fun p q _ h => by omega))⟩
  refine pk_loop (σ := Unit) (fun f i _ => wY_isRun_2 post yt ya (nI n) yf ys yo yth yad yco yrd ywr yaq yrl yon yft yfk yfp yfi ywe ywm yok yle ysh yor ybo yme ygo f (nI i)) (fun i _ => ∀ p q, q < i → p < q → ¬ B (g q) (g p)) n 1 () (by omega) (fun p q h => by omega) ?_ ?_
  · intro f _ hI
    exact br_t (nI_le (Nat.le_refl n) (by omega)) (h1 (fun p q hpq hq => hI p q hq hpq))
  · intro f i _ hi hI ih
    refine br_f (nI_ge hi (by omega)) ?_
    refine pk_loop (σ := Unit) (fun f2 j _ => wY_isRun_12 post (wY_isRun_2 post yt ya (nI n) yf ys yo yth yad yco yrd ywr yaq yrl yon yft yfk yfp yfi ywe ywm yok yle ysh yor ybo yme ygo f) (nI i) yt ya (nI n) yf ys yo yth yad yco yrd ywr yaq yrl yon yft yfk yfp yfi ywe ywm yok yle ysh yor ybo yme ygo f2 (nI j)) (fun j _ => ∀ p, p < j → ¬ B (g i) (g p)) i 0 () (by omega) (fun p h => by omega) ?_ ?_
    · intro f2 _ hJ
      refine br_t (nI_le (Nat.le_refl i) (by omega)) (nm_r (nI_1 i) (ih () (fun p q hq hpq => ?_)))
      by_cases e : q = i
      · rw [e]; exact hJ p (by omega)
      · exact hI p q (by omega) hpq
    · intro f2 j _ hj hJ ih2
      have g1 := hg i hi
      have g2 := hg j (by omega)
      refine br_f (nI_ge hj (by omega)) ?_
      rw [nI_clamp (show i < 2 ^ 31 by omega), nI_clamp (show j < 2 ^ 31 by omega), ho i hi, ho j (by omega), nu_6', nI_clamp (show g i * 6 + g j < 2 ^ 31 by omega)]
      refine ⟨vp_in_nI (by omega) (by omega), vp_in_nI (by omega) (by omega), vp_in_nI (by omega) (by omega), br_c (fun e => nm_r (nI_1 j) (ih2 () (fun p q2 => ?_))) (fun e => h0 (fun z => z j i hj hi ((hb _ _ g1 g2).mp e)))⟩
      by_cases e2 : p = j
      · rw [e2]; exact fun z => (hb _ _ g1 g2).mpr z e
      · exact hJ p (by omega)
theorem yw_112 {post : Int32 → SY → Prop} {i j : Nat} (hn : n ≤ 6) (hij : i < j) (hj : j < n) (o : Nat → Int32) (h : ∀ p, p < n → o p = nI (nw_h i j g p)) (hp : ∀ o', (∀ p, p < n → o' p = nI (pq_nf n i j g p)) → post 1 (yt, ya, nI n, yf, ys, yo, yth, yad, yco, yrd, ywr, yaq, yrl, yon, yft, yfk, yfp, yfi, ywe, ywm, yok, yle, ysh, o', ybo, yme, ygo)) :
    ∃ f, wY_next_112 post yt ya (nI n) yf ys yo f (nI (i + 1)) (nI (n - 1)) yth yad yco yrd ywr yaq yrl yon yft yfk yfp yfi ywe ywm yok yle ysh o ybo yme ygo := by
  refine pk_loop (σ := Nat → Int32) (fun f t o => wY_next_112 post yt ya (nI n) yf ys yo f (nI (i + 1 + t)) (nI (n - 1 - t)) yth yad yco yrd ywr yaq yrl yon yft yfk yfp yfi ywe ywm yok yle ysh o ybo yme ygo) (fun t o => ∀ p, p < n → o p = nI (nw_t n i t (nw_h i j g) p)) ((n - i - 1) / 2) 0 o (by omega) (fun p hp' => by rw [nw_t0 hp']; exact h p hp') ?_ ?_
  · intro f o' hI
    exact br_t (nI_le (by omega) (by omega)) (hp o' (fun p hp' => by rw [hI p hp', nw_te hp' hij hj (by omega) (by omega)]))
  · intro f t o' ht hI ih
    have v1 : vp_in (nI (i + 1 + t)) 6 := vp_in_nI (by omega) (by omega)
    have v2 : vp_in (nI (n - 1 - t)) 6 := vp_in_nI (by omega) (by omega)
    refine br_f (nI_ge (by omega) (by omega)) ?_
    rw [nI_clamp (show i + 1 + t < 2 ^ 31 by omega), nI_clamp (show n - 1 - t < 2 ^ 31 by omega)]
    refine ⟨v1, nm_e ⟨v2, v1, nm_e ⟨v2, nm_e (nm_r (nI_1 _) (nm_r (nu_d (by omega)) (ih _ (fun p hp' => ?_))))⟩⟩⟩
    rw [nw_ts hp' (by omega) (by omega)]
    by_cases e1 : p = n - 1 - t
    · rw [if_pos e1, e1, pk_us]; exact hI _ (by omega)
    · rw [if_neg e1, pk_un e1]
      by_cases e2 : p = i + 1 + t
      · rw [if_pos e2, e2, pk_us]; exact hI _ (by omega)
      · rw [if_neg e2, pk_un e2]; exact hI p hp'
theorem yw_73 {post : Int32 → SY → Prop} {i j : Nat} (hn : n ≤ 6) (hij : i < j) (hj : j < n) (ho : ∀ p, p < n → yor p = nI (g p)) (hp : ∀ o', (∀ p, p < n → o' p = nI (pq_nf n i j g p)) → post 1 (yt, ya, nI n, yf, ys, yo, yth, yad, yco, yrd, ywr, yaq, yrl, yon, yft, yfk, yfp, yfi, ywe, ywm, yok, yle, ysh, o', ybo, yme, ygo)) : wY_next_73 post (nI i) (nI j) yt ya (nI n) yf ys yo yth yad yco yrd ywr yaq yrl yon yft yfk yfp yfi ywe ywm yok yle ysh yor ybo yme ygo := by
  have v1 : vp_in (nI i) 6 := vp_in_nI (by omega) (by omega)
  have v2 : vp_in (nI j) 6 := vp_in_nI (by omega) (by omega)
  unfold wY_next_73
  rw [nI_clamp (show i < 2 ^ 31 by omega), nI_clamp (show j < 2 ^ 31 by omega)]
  refine ⟨v1, nm_e ⟨v2, v1, nm_e ⟨v2, nm_e (nm_r (nI_1 i) (nm_r (pk_sub (a := n) (b := 1) (by omega)) (yw_112 (g := g) hn hij hj _ (fun p hp' => ?_) hp)))⟩⟩⟩
  unfold nw_h
  by_cases e1 : p = j
  · rw [if_pos e1, e1, pk_us, ho _ (by omega)]
  · rw [if_neg e1, pk_un e1]
    by_cases e2 : p = i
    · rw [if_pos e2, e2, pk_us, ho _ (by omega)]
    · rw [if_neg e2, pk_un e2, ho _ hp']
theorem yw_47 {post : Int32 → SY → Prop} {i : Nat} (hn : n ≤ 6) (ho : ∀ p, p < n → yor p = nI (g p)) (hg : ∀ p, p < n → g p < n) (hinj : ∀ p q, p < n → q < n → g p = g q → p = q) (hi : g i < g (i + 1)) :
    ∀ k, i + 1 < k → k ≤ n → wY_next_73 post (nI i) (nI (pq_sw g i k)) yt ya (nI n) yf ys yo yth yad yco yrd ywr yaq yrl yon yft yfk yfp yfi ywe ywm yok yle ysh yor ybo yme ygo → wY_next_47 post (nI i) yt ya (nI n) yf ys yo yth yad yco yrd ywr yaq yrl yon yft yfk yfp yfi ywe ywm yok yle ysh yor ybo yme ygo k (nI (k - 1)) := by
  intro k
  induction k with
  | zero => intro h; omega
  | succ k ih =>
    intro h1 h2 h73
    have g1 := hg i (by omega)
    have g2 := hg k (by omega)
    rw [Nat.add_sub_cancel]
    refine br_f (nI_ge (by omega) (by omega)) ?_
    rw [nI_clamp (show i < 2 ^ 31 by omega), nI_clamp (show k < 2 ^ 31 by omega), ho i (by omega), ho k (by omega)]
    refine ⟨vp_in_nI (by omega) (by omega), vp_in_nI (by omega) (by omega), pk_le (g i) (g k) (fun c => ?_) (fun c => nm_r (nu_d (by omega)) ?_)⟩
    · have hne : g i ≠ g k := fun z => by have := hinj i k (by omega) (by omega) z; omega
      rw [pq_sw, if_pos (by omega)] at h73
      exact h73
    · have hk : i + 1 ≠ k := fun z => by subst z; omega
      rw [pq_sw, if_neg (by omega)] at h73
      exact ih (by omega) (by omega) h73
theorem yw_7 {post : Int32 → SY → Prop} (hn : n ≤ 6) (ho : ∀ p, p < n → yor p = nI (g p)) (hg : ∀ p, p < n → g p < n) (hinj : ∀ p q, p < n → q < n → g p = g q → p = q) :
    ∀ k, k + 1 ≤ n → (pq_rise g k = none → wY_next_34 post (-1) yt ya (nI n) yf ys yo yth yad yco yrd ywr yaq yrl yon yft yfk yfp yfi ywe ywm yok yle ysh yor ybo yme ygo) → (∀ i, pq_rise g k = some i → wY_next_34 post (nI i) yt ya (nI n) yf ys yo yth yad yco yrd ywr yaq yrl yon yft yfk yfp yfi ywe ywm yok yle ysh yor ybo yme ygo) → wY_next_7 post yt ya (nI n) yf ys yo yth yad yco yrd ywr yaq yrl yon yft yfk yfp yfi ywe ywm yok yle ysh yor ybo yme ygo (k + 1) (nI k + (-1)) := by
  intro k
  induction k with
  | zero => exact fun _ h1 _ => br_t (by decide) (h1 rfl)
  | succ k ih =>
    intro hk h1 h2
    rw [pk_m1 k]
    have g1 := hg k (by omega)
    have g2 := hg (k + 1) (by omega)
    refine br_f (nI_pos (by omega)) ?_
    rw [nI_1, nI_clamp (show k < 2 ^ 31 by omega), nI_clamp (show k + 1 < 2 ^ 31 by omega), ho k (by omega), ho (k + 1) (by omega)]
    refine ⟨vp_in_nI (by omega) (by omega), vp_in_nI (by omega) (by omega), pk_le (g k) (g (k + 1)) (fun c => h2 k ?_) (fun c => nm_e ?_)⟩
    · have hne : g k ≠ g (k + 1) := fun z => by have := hinj k (k + 1) (by omega) (by omega) z; omega
      rw [pq_rise, if_pos (by omega)]
    · have e : pq_rise g (k + 1) = pq_rise g k := by rw [pq_rise, if_neg (by omega)]
      rw [e] at h1 h2
      exact ih (by omega) h1 h2
theorem yw_next {post : Int32 → SY → Prop} (hn : n ≤ 6) (hr : r < pq_N n) (ho : re_or n r yor) (hE : r + 1 = pq_N n → post 0 (yt, ya, nI n, yf, ys, yo, yth, yad, yco, yrd, ywr, yaq, yrl, yon, yft, yfk, yfp, yfi, ywe, ywm, yok, yle, ysh, yor, ybo, yme, ygo)) (hN : r + 1 < pq_N n → ∀ o', re_or n (r + 1) o' → post 1 (yt, ya, nI n, yf, ys, yo, yth, yad, yco, yrd, ywr, yaq, yrl, yon, yft, yfk, yfp, yfi, ywe, ywm, yok, yle, ysh, o', ybo, yme, ygo)) : wpY_next post (yt, ya, nI n, yf, ys, yo, yth, yad, yco, yrd, ywr, yaq, yrl, yon, yft, yfk, yfp, yfi, ywe, ywm, yok, yle, ysh, yor, ybo, yme, ygo) := by
  have hnone : pq_rise (pq_pm n r) (n - 1) = none → r + 1 = pq_N n := by
    intro h
    rcases Nat.lt_trichotomy (r + 1) (pq_N n) with c | c | c
    · obtain ⟨i, hi, _⟩ := pq_step hn c
      rw [h] at hi
      exact absurd hi (by simp)
    · exact c
    · omega
  have h34 : ∀ i, pq_rise (pq_pm n r) (n - 1) = some i → wY_next_34 post (nI i) yt ya (nI n) yf ys yo yth yad yco yrd ywr yaq yrl yon yft yfk yfp yfi ywe ywm yok yle ysh yor ybo yme ygo := by
    intro i h
    have hc : r + 1 < pq_N n := by
      rcases Nat.lt_trichotomy (r + 1) (pq_N n) with c | c | c
      · exact c
      · have h2 := pq_end hn c
        rw [h] at h2
        exact absurd h2 (by simp)
      · omega
    obtain ⟨i', hi', hs⟩ := pq_step hn hc
    have e : i' = i := by
      rw [h] at hi'
      exact (Option.some.inj hi').symm
    subst e
    obtain ⟨q1, q2⟩ := nw_rise _ _ h
    have q3 := nw_sw q2 n (by omega)
    unfold wY_next_34
    refine br_t (nI_pos' (by omega)) (nm_r (pk_sub (a := n) (b := 1) (by omega)) ⟨n, ?_⟩)
    refine yw_47 hn ho (fun p hp => pq_lt hr hp) (fun p q hp hq z => pq_inj hr hp hq z) q2 n (by omega) (Nat.le_refl n) ?_
    exact yw_73 hn q3.1 q3.2 ho (fun o' ho' => hN hc o' (fun p hp => by rw [ho' p hp, hs p hp]))
  unfold wpY_next
  rcases Nat.eq_zero_or_pos n with e | e
  · subst e
    exact nm_e ⟨1, br_t (by decide) (br_f (by decide) (hE (hnone rfl)))⟩
  · refine nm_r (e' := nI (n - 1) + (-1)) ?_ ⟨_, yw_7 hn ho (fun p hp => pq_lt hr hp) (fun p q hp hq z => pq_inj hr hp hq z) (n - 1) (by omega) (fun h => br_f (by decide) (hE (hnone h))) h34⟩
    obtain ⟨m, rfl⟩ : ∃ m, n = m + 1 := ⟨n - 1, by omega⟩
    rw [Nat.add_sub_cancel, ← nI_1, show (2 : Int32) = 1 + 1 from rfl]
    grind
end
end
section
/-! the reference: a run's effect, the list, solve, always, lost -/
section
variable {yt ya yn yf ys yo : Int32} {yth yad yco yrd ywr yaq yrl yon yft yfk yfp yfi ywe ywm yle ysh yor ybo yme ygo : Nat → Int32} {yok : Nat → Int64} {n A F r m : Nat} {K R : Nat → Nat}
theorem yw_effect {post : SY → Prop} {e : Nat} {mem got : Nat → Int32} (hP : mu_P n A F yth yad yco yrd ywr yaq yrl yon yfk yfi) (he : e < n)
    (hm : ∀ y, y < 3 → yme y = mem y) (hg : ∀ i, i < 6 → ygo i = got i)
    (hp : ∀ me' go', (∀ y, y < 3 → me' y = ca_m yad yco yrd ywr yon mem got e y) → (∀ i, i < 6 → go' i = ca_g yad yrd mem got e i) → post (yt, ya, yn, yf, ys, yo, yth, yad, yco, yrd, ywr, yaq, yrl, yon, yft, yfk, yfp, yfi, ywe, ywm, yok, yle, ysh, yor, ybo, me', go')) : wpY_effect post (yt, ya, yn, yf, ys, yo, yth, yad, yco, yrd, ywr, yaq, yrl, yon, yft, yfk, yfp, yfi, ywe, ywm, yok, yle, ysh, yor, ybo, yme, ygo) (nI e) := by
  have hn := hP.1
  have ve : vp_in (nI e) 6 := vp_in_nI (by omega) (by omega)
  have ce : (nI e).toNatClampNeg = e := nI_clamp (by omega)
  obtain ⟨x, hx, ex⟩ := hP.2.1 e he
  have vx : vp_in (nI x) 3 := vp_in_nI (by omega) (by omega)
  have cx : (nI x).toNatClampNeg = x := nI_clamp (by omega)
  have hmx : yme x = mem x := hm x (by omega)
  have h86 : ∀ me', (∀ y, y < 3 → me' y = ca_m yad yco yrd ywr yon mem got e y) → wY_effect_86 post (nI e) (mem x) yt ya yn yf ys yo yth yad yco yrd ywr yaq yrl yon yft yfk yfp yfi ywe ywm yok yle ysh yor ybo me' ygo := by
    intro me' h1
    unfold wY_effect_86
    rw [ce]
    refine ⟨ve, br_c (fun c => hp _ _ h1 (fun i hi => ?_)) (fun c => ⟨ve, nm_e (hp _ _ h1 (fun i hi => ?_))⟩)⟩
    · unfold ca_g
      rw [if_pos c]; exact hg i hi
    · unfold ca_g
      rw [if_neg c, ex, cx]
      by_cases e2 : i = e
      · rw [e2, pk_us, pk_us]
      · rw [pk_un e2, pk_un e2]; exact hg i hi
  have h51 : ∀ dv, dv = (if yon (4 * e + 1) < 0 then 0 else got (yon (4 * e + 1)).toNatClampNeg) → ¬ ywr e = 0 → wY_effect_51 post (nI e) (nI x) (mem x) dv yt ya yn yf ys yo yth yad yco yrd ywr yaq yrl yon yft yfk yfp yfi ywe ywm yok yle ysh yor ybo yme ygo := by
    intro dv hdv hw
    have h72 : ∀ z0, z0 = (if yrd e = 0 then 0 else mem x) → wY_effect_72 post (nI e) (mem x) dv z0 (nI x) yt ya yn yf ys yo yth yad yco yrd ywr yaq yrl yon yft yfk yfp yfi ywe ywm yok yle ysh yor ybo yme ygo := by
      intro z0 hz
      unfold wY_effect_72
      rw [ce, cx]
      refine ⟨ve, vx, nm_e (h86 _ (fun y hy => ?_))⟩
      unfold ca_m ca_v
      rw [if_neg hw, ex, cx, hz, hdv]
      by_cases c : y = x
      · rw [c, pk_us, pk_us]
      · rw [pk_un c, pk_un c]; exact hm y hy
    unfold wY_effect_51
    rw [ce]
    exact ⟨ve, br_c (fun c => h72 0 (by rw [if_pos c])) (fun c => h72 _ (by rw [if_neg c]))⟩
  unfold wpY_effect
  rw [nu_41, ce, nI_clamp (show 4 * e + 1 < 2 ^ 31 by omega)]
  refine ⟨ve, nm_r ex ⟨vx, ?_⟩⟩
  rw [cx, hmx]
  refine nm_e ⟨ve, br_c (fun hw => h86 _ (fun y hy => ?_)) (fun hw => ⟨vp_in_nI (by omega) (by omega), nm_e (br_c (fun c => h51 0 (by rw [if_pos c]) hw) (fun c => ?_))⟩)⟩
  · unfold ca_m
    rw [if_pos hw]; exact hm y hy
  · rcases hP.2.2.2.1 e 1 he (by omega) (by omega) with z | ⟨j, hj, ej, _⟩
    · rw [z] at c
      exact absurd nu_neg1 c
    · refine ⟨by rw [ej]; exact vp_in_nI (by omega) (by omega), h51 _ ?_ hw⟩
      rw [if_neg c, ej, nI_clamp (by omega)]
      exact hg j (by omega)
theorem yw_result {post : Int64 → SY → Prop} (hP : mu_P n A F yth yad yco yrd ywr yaq yrl yon yfk yfi) (hr : r < pq_N n) (ho : re_or n r yor)
    (hp : ∀ me' go', post (lN (re_key n yad yco yrd ywr yon yfi r)) (yt, ya, nI n, yf, ys, yo, yth, yad, yco, yrd, ywr, yaq, yrl, yon, yft, yfk, yfp, yfi, ywe, ywm, yok, yle, ysh, yor, ybo, me', go')) : wpY_result post (yt, ya, nI n, yf, ys, yo, yth, yad, yco, yrd, ywr, yaq, yrl, yon, yft, yfk, yfp, yfi, ywe, ywm, yok, yle, ysh, yor, ybo, yme, ygo) := by
  have hn := hP.1
  obtain ⟨d, hd⟩ : ∃ d, ca_d yad yco yrd ywr yon yfi n (pq_pm n r) = d := ⟨_, rfl⟩
  have hd16 : ∀ j, d j < 16 := fun j => by rw [← hd]; exact ca_d16 hP.2.2.2.2.2.1 n _ j
  have hrg := ca_rng (ad := yad) (co := yco) (rd := yrd) (wr := ywr) (on := yon) hP.2.2.2.2.2.1 (pq_pm n r) n
  unfold wpY_result
  refine pk_loop (σ := Nat → Int32) (fun f i me => wY_result_2 post yt ya (nI n) yf ys yo f (nI i) yth yad yco yrd ywr yaq yrl yon yft yfk yfp yfi ywe ywm yok yle ysh yor ybo me ygo) (fun i me => ∀ y, y < i → me y = yfi y) 3 0 yme (by omega) (fun y h => by omega) ?_ ?_
  · intro f me hI
    refine br_t (nI_le (b := 3) (Nat.le_refl 3) (by decide)) ?_
    refine pk_loop (σ := Nat → Int32) (fun f i go => wY_result_27 post yt ya (nI n) yf ys yo f (nI i) yth yad yco yrd ywr yaq yrl yon yft yfk yfp yfi ywe ywm yok yle ysh yor ybo me go) (fun i go => ∀ y, y < i → go y = 0) 6 0 ygo (by omega) (fun y h => by omega) ?_ ?_
    · intro f go hJ
      refine br_t (nI_le (b := 6) (Nat.le_refl 6) (by decide)) ?_
      refine pk_loop (σ := (Nat → Int32) × (Nat → Int32)) (fun f i s => wY_result_48 post f (nI i) yt ya (nI n) yf ys yo yth yad yco yrd ywr yaq yrl yon yft yfk yfp yfi ywe ywm yok yle ysh yor ybo s.1 s.2) (fun i s => (∀ y, y < 3 → s.1 y = (ca_s yad yco yrd ywr yon yfi (pq_pm n r) i).1 y) ∧ (∀ y, y < 6 → s.2 y = (ca_s yad yco yrd ywr yon yfi (pq_pm n r) i).2 y)) n 0 (me, go) (by omega) ⟨hI, hJ⟩ ?_ ?_
      · intro f s hL
        have hd1 : ∀ e, e < 6 → s.2 e = nI (d e) := by
          intro e he
          rw [hL.2 e he, ← hd]
          unfold ca_d
          rw [if_pos he]
          exact (ca_cl (hrg.2 e)).2
        have hd2 : ∀ x, x < 3 → s.1 x = nI (d (6 + x)) := by
          intro x hx
          rw [hL.1 x hx, ← hd]
          unfold ca_d
          rw [if_neg (by omega), Nat.add_sub_cancel_left]
          exact (ca_cl (hrg.1 x)).2
        have hst : ∀ i, lN (dg_z d i) * 16 + (nI (d i)).toInt64 = lN (dg_z d (i + 1)) := by
          intro i
          rw [nI_l (by have := hd16 i; omega), show (16 : Int64) = lN 16 from rfl, lN_mul, lN_add]; rfl
        refine br_t (nI_le (Nat.le_refl n) (by omega)) ?_
        refine pk_loop (σ := Unit) (fun f i _ => wY_result_76 post yt ya (nI n) yf ys yo yth yad yco yrd ywr yaq yrl yon yft yfk yfp yfi ywe ywm yok yle ysh yor ybo s.1 s.2 f (lN (dg_z d i)) (nI i)) (fun _ _ => True) 6 0 () (by omega) trivial ?_ ?_
        · intro f2 _ _
          refine br_t (nI_le (b := 6) (Nat.le_refl 6) (by decide)) ?_
          refine pk_loop (σ := Unit) (fun f i _ => wY_result_104 post yt ya (nI n) yf ys yo yth yad yco yrd ywr yaq yrl yon yft yfk yfp yfi ywe ywm yok yle ysh yor ybo s.1 s.2 f (lN (dg_z d (6 + i))) (nI i)) (fun _ _ => True) 3 0 () (by omega) trivial ?_ ?_
          · intro f3 _ _
            have z := hp s.1 s.2
            unfold re_key ca_k at z
            rw [hd] at z
            exact br_t (nI_le (b := 3) (Nat.le_refl 3) (by decide)) z
          · intro f3 i _ hi _ ih
            refine br_f (nI_ge (b := 3) hi (by decide)) ⟨vp_in_nI (by omega) (by omega), ?_⟩
            rw [nI_clamp (show i < 2 ^ 31 by omega), hd2 i hi, hst]
            exact nm_e (nm_r (nI_1 i) (ih () trivial))
        · intro f2 i _ hi _ ih
          refine br_f (nI_ge (b := 6) hi (by decide)) ⟨vp_in_nI (by omega) (by omega), ?_⟩
          rw [nI_clamp (show i < 2 ^ 31 by omega), hd1 i hi, hst]
          exact nm_e (nm_r (nI_1 i) (ih () trivial))
      · intro f i s hi hL ih
        have hl := pq_lt hr hi
        refine br_f (nI_ge hi (by omega)) ⟨vp_in_nI (by omega) (by omega), ?_⟩
        rw [nI_clamp (show i < 2 ^ 31 by omega), ho i hi]
        exact yw_effect hP hl hL.1 hL.2 (fun me' go' h1 h2 => nm_r (nI_1 i) (ih (me', go') ⟨h1, h2⟩))
    · intro f i go hi hJ ih
      refine br_f (nI_ge (b := 6) hi (by decide)) ⟨vp_in_nI (by omega) (by omega), nm_e (nm_r (nI_1 i) (ih _ (fun y hy => ?_)))⟩
      rw [nI_clamp (show i < 2 ^ 31 by omega)]
      by_cases e : y = i
      · rw [e, pk_us]
      · rw [pk_un e]; exact hJ y (by omega)
  · intro f i me hi hI ih
    refine br_f (nI_ge (b := 3) hi (by decide)) ⟨vp_in_nI (by omega) (by omega), vp_in_nI (by omega) (by omega), nm_e (nm_r (nI_1 i) (ih _ (fun y hy => ?_)))⟩
    rw [nI_clamp (show i < 2 ^ 31 by omega)]
    by_cases e : y = i
    · rw [e, pk_us]
    · rw [pk_un e]; exact hI y (by omega)
theorem yw_spell {post : Int32 → Prop} (hn : n ≤ 6) (ho : re_or n r yor) (hp : post (nI (dg_y (pq_pm n r) n))) : wpY_spelled post (yt, ya, nI n, yf, ys, yo, yth, yad, yco, yrd, ywr, yaq, yrl, yon, yft, yfk, yfp, yfi, ywe, ywm, yok, yle, ysh, yor, ybo, yme, ygo) := by
  unfold wpY_spelled
  refine pk_loop (σ := Unit) (fun f i _ => wY_spelled_4 post yt ya (nI n) yf ys yo yth yad yco yrd ywr yaq yrl yon yft yfk yfp yfi ywe ywm yok yle ysh yor ybo yme ygo f (nI (dg_y (pq_pm n r) i)) (nI i)) (fun _ _ => True) n 0 () (by omega) trivial ?_ ?_
  · exact fun f _ _ => br_t (nI_le (Nat.le_refl n) (by omega)) hp
  · intro f i _ hi _ ih
    refine br_f (nI_ge hi (by omega)) ⟨vp_in_nI (by omega) (by omega), ?_⟩
    rw [nI_clamp (show i < 2 ^ 31 by omega), ho i hi, show nI (dg_y (pq_pm n r) i) * 8 = nI (dg_y (pq_pm n r) i * 8) from pk_mul _ 8, nI_add]
    exact nm_e (nm_r (nI_1 i) (ih () trivial))
theorem yw_find {post : Int32 → Prop} {x : Nat} (hm : m ≤ 180) (hx : x < 2 ^ 36) (hK : ∀ k, k < m → K k < 2 ^ 36) (hok : ∀ k, k < m → yok k = lN (K k))
    (h0 : (∀ k, k < m → K k ≠ x) → post (-1)) (h1 : ∀ q, q < m → K q = x → post (nI q)) : wpY_find post (yt, ya, yn, yf, ys, nI m, yth, yad, yco, yrd, ywr, yaq, yrl, yon, yft, yfk, yfp, yfi, ywe, ywm, yok, yle, ysh, yor, ybo, yme, ygo) (lN x) := by
  unfold wpY_find
  refine pk_loop (σ := Unit) (fun f i _ => wY_find_2 post (lN x) yt ya yn yf ys (nI m) yth yad yco yrd ywr yaq yrl yon yft yfk yfp yfi ywe ywm yok yle ysh yor ybo yme ygo f (nI i)) (fun i _ => ∀ k, k < i → K k ≠ x) m 0 () (by omega) (fun k h => by omega) ?_ ?_
  · exact fun f _ hI => br_t (nI_le (Nat.le_refl m) (by omega)) (h0 hI)
  · intro f i _ hi hI ih
    have hKi := hK i hi
    refine br_f (nI_ge hi (by omega)) ⟨vp_in_nI (by omega) (by omega), ?_⟩
    rw [nI_clamp (show i < 2 ^ 31 by omega), hok i hi, pk_lEQ (by omega) (by omega)]
    refine br_c (fun c => h1 i hi c) (fun c => nm_r (nI_1 i) (ih () (fun k hk => ?_)))
    by_cases e : k = i
    · rw [e]; exact c
    · exact hI k (by omega)
theorem yw_keep {post : SY → Prop} {x : Nat} {w : Int32} (hm : m < 180) (hx : x < 2 ^ 36) (hK : ∀ k, k < m → K k < 2 ^ 36) (hok : ∀ k, k < m → yok k = lN (K k))
    (hp : ∀ ok' le', si_i (ol_ps K x m) m (lN x) yok ok' → si_i (ol_ps K x m) m w yle le' → post (yt, ya, yn, yf, ys, nI (m + 1), yth, yad, yco, yrd, ywr, yaq, yrl, yon, yft, yfk, yfp, yfi, ywe, ywm, ok', le', ysh, yor, ybo, yme, ygo)) : wpY_keep post (yt, ya, yn, yf, ys, nI m, yth, yad, yco, yrd, ywr, yaq, yrl, yon, yft, yfk, yfp, yfi, ywe, ywm, yok, yle, ysh, yor, ybo, yme, ygo) (lN x) w := by
  have h74 : ∀ (q : Nat) (ok' : Nat → Int64) (le' : Nat → Int32), q ≤ m → ol_ps K x m = q → sh_i q m yok ok' → sh_i q m yle le' → wY_keep_74 post (lN x) w (nI q) yt ya yn yf ys (nI m) yth yad yco yrd ywr yaq yrl yon yft yfk yfp yfi ywe ywm ok' le' ysh yor ybo yme ygo := by
    intro q ok' le' hq e s1 s2
    have vq : vp_in (nI q) 180 := vp_in_nI (by omega) (by omega)
    rw [e] at hp
    unfold wY_keep_74
    rw [nI_clamp (show q < 2 ^ 31 by omega)]
    exact ⟨vq, nm_e ⟨vq, nm_e (nm_r (nI_1 m) (hp _ _ (si_sL s1) (si_s s2)))⟩⟩
  unfold wpY_keep
  refine pk_lt m 180 (fun _ => ?_) (fun h => by omega)
  refine ⟨m + 1, ?_⟩
  refine pk_loopD (σ := (Nat → Int64) × (Nat → Int32)) (fun f q s => wY_keep_17 post (lN x) w yt ya yn yf ys (nI m) f (nI q) yth yad yco yrd ywr yaq yrl yon yft yfk yfp yfi ywe ywm s.1 s.2 ysh yor ybo yme ygo) (fun q s => q ≤ m ∧ ol_ps K x m = ol_ps K x q ∧ sh_i q m yok s.1 ∧ sh_i q m yle s.2) ?_ ?_ m (yok, yle) ⟨Nat.le_refl m, rfl, sh_0, sh_0⟩
  · intro f s hI
    exact br_t (nI_le (Nat.le_refl 0) (by decide)) (h74 0 _ _ (by omega) hI.2.1 hI.2.2.1 hI.2.2.2)
  · intro f q s hI ih
    have hq := hI.1
    have hKq := hK q (by omega)
    have v0 : vp_in (nI q) 180 := vp_in_nI (by omega) (by omega)
    have v1 : vp_in (nI (q + 1)) 180 := vp_in_nI (by omega) (by omega)
    refine br_f (nI_nle (by omega) (by omega)) ?_
    have e1 : s.1 q = lN (K q) := by rw [hI.2.2.1.1 q (by omega)]; exact hok q (by omega)
    rw [nI_pred q, nI_clamp (show q < 2 ^ 31 by omega), nI_clamp (show q + 1 < 2 ^ 31 by omega)]
    refine ⟨v0, ?_⟩
    have e2 : (s.1 q ≤ lN x) ↔ (K q ≤ x) := by rw [e1, pk_lLE (by omega) (by omega)]
    refine br_c (fun c => ?_) (fun c => ?_)
    · have c' := e2.mp c
      refine h74 (q + 1) _ _ hq ?_ hI.2.2.1 hI.2.2.2
      rw [hI.2.1, ol_ps, if_neg (by omega)]
    · have c' : ¬ K q ≤ x := fun z => c (e2.mpr z)
      refine ⟨v0, v1, nm_e ⟨v0, v1, nm_e (nm_r (pk_m1 q) (ih (_, _) ⟨by omega, ?_, sh_sL hI.2.2.1, sh_s hI.2.2.2⟩))⟩⟩
      rw [hI.2.1, ol_ps, if_pos (by omega)]
/-- the list after r rounds, as the reference keeps it -/
def yl_I (n : Nat) (ok : Nat → Prop) (key : Nat → Nat) (r : Nat) (yo : Int32) (yok : Nat → Int64) (yle : Nat → Int32) : Prop :=
  ∃ m K R, ol_so ok key r = (m, K, R) ∧ re_Y n m K R yo yok yle
theorem yw_57 {post : Int32 → SY → Prop} {f i : Nat} (hn : n ≤ 6) (hi : i < pq_N n) (ho : re_or n i yor)
    (ih : ∀ o', (i + 1 < pq_N n → re_or n (i + 1) o') → wY_solve_13 post f (so_mo (pq_N n) (i + 1)) (nI (i + 1)) yt ya (nI n) yf ys yo yth yad yco yrd ywr yaq yrl yon yft yfk yfp yfi ywe ywm yok yle ysh o' ybo yme ygo) : wY_solve_57 post (wY_solve_13 post f) (nI i) yt ya (nI n) yf ys yo yth yad yco yrd ywr yaq yrl yon yft yfk yfp yfi ywe ywm yok yle ysh yor ybo yme ygo := by
  unfold wY_solve_57
  refine yw_next hn hi ho (fun h => nm_r (nI_1 i) ?_) (fun h o' ho' => nm_r (nI_1 i) ?_)
  · have z := ih yor (fun h2 => by omega)
    rw [so_mo0 (by omega)] at z
    exact z
  · have z := ih o' (fun _ => ho')
    rw [so_mo1 h] at z
    exact z
theorem yw_solve {post : Int32 → SY → Prop} (hP : mu_P n A F yth yad yco yrd ywr yaq yrl yon yfk yfi)
    (hp : ∀ or' bo' me' go' yo' ok' le', yl_I n (re_ok n F yth yad yrd ywr yaq yrl yon yft yfk yfp) (re_key n yad yco yrd ywr yon yfi) (pq_N n) yo' ok' le' → post yo' (yt, ya, nI n, nI F, 1, yo', yth, yad, yco, yrd, ywr, yaq, yrl, yon, yft, yfk, yfp, yfi, ywe, ywm, ok', le', ysh, or', bo', me', go')) : wpY_solve post (yt, ya, nI n, nI F, ys, yo, yth, yad, yco, yrd, ywr, yaq, yrl, yon, yft, yfk, yfp, yfi, ywe, ywm, yok, yle, ysh, yor, ybo, yme, ygo) := by
  have hn := hP.1.1
  have hF := hP.1.2.2.2
  have hN := pq_Nb hn
  unfold wpY_solve
  refine yw_start hn hF (fun o0 bo ho0 hb => ?_)
  have hl := pk_loop (σ := Int32 × (Nat → Int64) × (Nat → Int32) × (Nat → Int32) × (Nat → Int32) × (Nat → Int32))
    (fun f i s => wY_solve_13 post f (so_mo (pq_N n) i) (nI i) yt ya (nI n) (nI F) ys s.1 yth yad yco yrd ywr yaq yrl yon yft yfk yfp yfi ywe ywm s.2.1 s.2.2.1 ysh s.2.2.2.1 bo s.2.2.2.2.1 s.2.2.2.2.2)
    (fun i s => (i < pq_N n → re_or n i s.2.2.2.1) ∧ yl_I n (re_ok n F yth yad yrd ywr yaq yrl yon yft yfk yfp) (re_key n yad yco yrd ywr yon yfi) i s.1 s.2.1 s.2.2.1)
    (pq_N n) 0 (0, yok, yle, o0, yme, ygo) (by omega) ⟨fun _ => ho0, ⟨0, _, _, rfl, ⟨rfl, fun k hk => by omega⟩⟩⟩ ?_ ?_
  · rw [so_mo1 hN.1] at hl
    exact hl
  · intro f s hI
    exact br_c (fun _ => hp _ _ _ _ _ _ _ hI.2) (fun _ => br_t (so_mo0 (Nat.lt_irrefl _)) (hp _ _ _ _ _ _ _ hI.2))
  · intro f i s hi hI ih
    have ho := hI.1 hi
    obtain ⟨m, K, R, e0, h1, h2⟩ := hI.2
    obtain ⟨i1, i2, i3, i4⟩ := ol_inv_all _ _ i m K R e0
    have hkl : ∀ s, re_key n yad yco yrd ywr yon yfi s < 2 ^ 36 := fun s => ca_klt hP.2.2.2.2.2.1 n _
    have hKl : ∀ k, k < m → K k < 2 ^ 36 := fun k hk' => by rw [(i4 k hk').2.2]; exact hkl _
    have same : ¬ ol_new (re_ok n F yth yad yrd ywr yaq yrl yon yft yfk yfp) (re_key n yad yco yrd ywr yon yfi) i m K → yl_I n (re_ok n F yth yad yrd ywr yaq yrl yon yft yfk yfp) (re_key n yad yco yrd ywr yon yfi) (i + 1) s.1 s.2.1 s.2.2.1 := fun z => ⟨m, K, R, ol_so_n e0 z, h1, h2⟩
    refine br_f (nI_ge (b := 720) (by omega) (by decide)) (br_f (by rw [so_mo1 hi]; exact x1_0) ?_)
    refine yw_isRun hn hb (g := pq_pm n i) ho (fun p hp' => pq_lt hi hp') (fun hok => ?_) (fun hok => ?_)
    · refine br_f x1_0 (yw_result hP hi ho (fun me' go' => ?_))
      rw [h1]
      refine yw_find i2 (hkl i) hKl (fun k hk => (h2 k hk).1) (fun hnew => br_f (by decide) (yw_spell hn ho ?_)) (fun q hq eq => br_t (nI_pos' (by omega)) ?_)
      · by_cases hm180 : m < 180
        · refine yw_keep hm180 (hkl i) hKl (fun k hk => (h2 k hk).1) (fun ok' le' s1 s2 => yw_57 hn hi ho (fun o' ho' => ih (_, ok', le', o', me', go') ⟨ho', ?_⟩))
          refine ⟨_, _, _, ol_so_y e0 ⟨hok, hnew, hm180⟩, rfl, fun k hk => ?_⟩
          have hps := ol_ps_le K (re_key n yad yco yrd ywr yon yfi i) m
          rcases Nat.lt_trichotomy k (ol_ps K (re_key n yad yco yrd ywr yon yfi i) m) with c | c | c
          · rw [ol_ins_lt c, ol_ins_lt c]
            show ok' k = _ ∧ le' k = _
            rw [s1.2.1 k c, s2.2.1 k c]
            exact h2 k (by omega)
          · rw [c, ol_ins_eq, ol_ins_eq]
            exact ⟨s1.1, s2.1⟩
          · rw [ol_ins_gt c, ol_ins_gt c]
            show ok' k = _ ∧ le' k = _
            rw [s1.2.2 k c (by omega), s2.2.2 k c (by omega)]
            exact h2 (k - 1) (by omega)
        · unfold wpY_keep
          refine pk_lt m 180 (fun z => absurd z hm180) (fun _ => yw_57 hn hi ho (fun o' ho' => ?_))
          have z := ih (s.1, s.2.1, s.2.2.1, o', me', go') ⟨ho', same (fun z => hm180 z.2.2)⟩
          rw [h1] at z
          exact z
      · refine yw_57 hn hi ho (fun o' ho' => ?_)
        have z := ih (s.1, s.2.1, s.2.2.1, o', me', go') ⟨ho', same (fun z => z.2.1 q hq eq)⟩
        rw [h1] at z
        exact z
    · exact br_t rfl (yw_57 hn hi ho (fun o' ho' => ih (s.1, s.2.1, s.2.2.1, o', s.2.2.2.2.1, s.2.2.2.2.2) ⟨ho', same (fun z => hok z.1)⟩))
end
end
section
/-! the questions: always, lost, wished -/
section
variable {yt ya yn yf ys yo : Int32} {yth yad yco yrd ywr yaq yrl yon yft yfk yfp yfi ywe ywm yle ysh yor ybo yme ygo : Nat → Int32} {yok : Nat → Int64} {n A F r m a b : Nat} {K R : Nat → Nat}
theorem yr_evN {post : Int32 → Prop} {p : Int32} (h : p < 0 ∨ nI n ≤ p) (hp : post 0) : wpY_event post (yt, ya, nI n, yf, ys, yo, yth, yad, yco, yrd, ywr, yaq, yrl, yon, yft, yfk, yfp, yfi, ywe, ywm, yok, yle, ysh, yor, ybo, yme, ygo) p := by
  unfold wpY_event
  by_cases c : p < 0
  · exact br_t c hp
  · exact br_f c (br_t (h.resolve_left c) hp)
theorem yr_evY {post : Int32 → Prop} {e : Nat} (hn : n ≤ 6) (he : e < n) (hp : post 1) : wpY_event post (yt, ya, nI n, yf, ys, yo, yth, yad, yco, yrd, ywr, yaq, yrl, yon, yft, yfk, yfp, yfi, ywe, ywm, yok, yle, ysh, yor, ybo, yme, ygo) (nI e) := by
  unfold wpY_event
  exact br_f (nI_pos (by omega)) (br_f (nI_ge he (by omega)) hp)
theorem yw_cb {post : Int32 → Prop} (hn : n ≤ 6) (hr : r < pq_N n) (ho : re_or n r yor) (ha : a < n) (hb : b < n) (h1 : re_bef n r a b → post 1) (h0 : ¬ re_bef n r a b → post 0) : wpY_comesBefore post (yt, ya, nI n, yf, ys, yo, yth, yad, yco, yrd, ywr, yaq, yrl, yon, yft, yfk, yfp, yfi, ywe, ywm, yok, yle, ysh, yor, ybo, yme, ygo) (nI a) (nI b) := by
  unfold wpY_comesBefore
  refine pk_loop (σ := Unit) (fun f i _ => wY_comesBefore_2 post (nI a) (nI b) yt ya (nI n) yf ys yo yth yad yco yrd ywr yaq yrl yon yft yfk yfp yfi ywe ywm yok yle ysh yor ybo yme ygo f (nI i)) (fun i _ => ∀ q, q < i → pq_pm n r q ≠ a ∧ pq_pm n r q ≠ b) n 0 () (by omega) (fun q h => by omega) ?_ ?_
  · intro f _ hI
    obtain ⟨p, hp, ep⟩ := pq_sur hr ha
    exact absurd ep (hI p hp).1
  · intro f i _ hi hI ih
    have g1 := pq_lt hr hi
    refine br_f (nI_ge hi (by omega)) ⟨vp_in_nI (by omega) (by omega), ?_⟩
    rw [nI_clamp (show i < 2 ^ 31 by omega), ho i hi]
    refine pk_eq (pq_pm n r i) a (fun e => pk_eq a b (fun e2 => h0 ?_) (fun e2 => h1 ?_)) (fun e => ⟨vp_in_nI (by omega) (by omega), pk_eq (pq_pm n r i) b (fun e2 => h0 ?_) (fun e2 => nm_r (nI_1 i) (ih () (fun q hq => ?_)))⟩)
    · rintro ⟨p, q, h2, h3, h4, h5⟩
      have := pq_inj hr (show p < n by omega) h3 (by omega)
      omega
    · obtain ⟨q, hq, eq⟩ := pq_sur hr hb
      rcases Nat.lt_trichotomy q i with c | c | c
      · exact absurd eq (hI q c).2
      · subst c; omega
      · exact ⟨i, q, c, hq, e, eq⟩
    · rintro ⟨p, q, h2, h3, h4, h5⟩
      have := pq_inj hr h3 hi (by omega)
      subst this
      exact (hI p h2).1 h4
    · by_cases e3 : q = i
      · rw [e3]; exact ⟨e, e2⟩
      · exact hI q (by omega)
theorem yw_58 {post : Int32 → SY → Prop} {f i : Nat} {x y : Int32} (hn : n ≤ 6) (hi : i < pq_N n) (ho : re_or n i yor)
    (ih : ∀ o', (i + 1 < pq_N n → re_or n (i + 1) o') → wY_always_28 post x y f (so_mo (pq_N n) (i + 1)) (nI (i + 1)) yt ya (nI n) yf ys yo yth yad yco yrd ywr yaq yrl yon yft yfk yfp yfi ywe ywm yok yle ysh o' ybo yme ygo) : wY_always_58 post (wY_always_28 post x y f) x y (nI i) yt ya (nI n) yf ys yo yth yad yco yrd ywr yaq yrl yon yft yfk yfp yfi ywe ywm yok yle ysh yor ybo yme ygo := by
  unfold wY_always_58
  refine yw_next hn hi ho (fun h => nm_r (nI_1 i) ?_) (fun h o' ho' => nm_r (nI_1 i) ?_)
  · have z := ih yor (fun h2 => by omega)
    rw [so_mo0 (by omega)] at z
    exact z
  · have z := ih o' (fun _ => ho')
    rw [so_mo1 h] at z
    exact z
theorem yw_alw {post : Int32 → SY → Prop} (hn : n ≤ 6) (hF : F ≤ 8) (ha : a < n) (hb : b < n)
    (h1 : od_W (mu_M n F yth yad yrd ywr yaq yrl yon yft yfk yfp) n a b → ∀ o' bo', post 1 (yt, ya, nI n, nI F, ys, yo, yth, yad, yco, yrd, ywr, yaq, yrl, yon, yft, yfk, yfp, yfi, ywe, ywm, yok, yle, ysh, o', bo', yme, ygo))
    (h0 : ¬ od_W (mu_M n F yth yad yrd ywr yaq yrl yon yft yfk yfp) n a b → ∀ o' bo', post 0 (yt, ya, nI n, nI F, ys, yo, yth, yad, yco, yrd, ywr, yaq, yrl, yon, yft, yfk, yfp, yfi, ywe, ywm, yok, yle, ysh, o', bo', yme, ygo)) : wpY_always post (yt, ya, nI n, nI F, ys, yo, yth, yad, yco, yrd, ywr, yaq, yrl, yon, yft, yfk, yfp, yfi, ywe, ywm, yok, yle, ysh, yor, ybo, yme, ygo) (nI a) (nI b) := by
  have hN := pq_Nb hn
  unfold wpY_always
  refine yr_evY hn ha (br_f x1_0 (yr_evY hn hb (br_f x1_0 (yw_start hn hF (fun o0 bo ho0 hbo => ?_)))))
  have hl := pk_loop (σ := Nat → Int32) (fun f i o => wY_always_28 post (nI a) (nI b) f (so_mo (pq_N n) i) (nI i) yt ya (nI n) (nI F) ys yo yth yad yco yrd ywr yaq yrl yon yft yfk yfp yfi ywe ywm yok yle ysh o bo yme ygo)
    (fun i o => (i < pq_N n → re_or n i o) ∧ ∀ s, s < i → od_ok (mu_M n F yth yad yrd ywr yaq yrl yon yft yfk yfp) n (pq_pm n s) → re_bef n s a b) (pq_N n) 0 o0 (by omega) ⟨fun _ => ho0, fun s h => by omega⟩ ?_ ?_
  · rw [so_mo1 hN.1] at hl
    exact hl
  · intro f o hI
    have hw := (od_alw mu_M_lt ha hb).mpr hI.2
    exact br_c (fun _ => h1 hw _ _) (fun _ => br_t (so_mo0 (Nat.lt_irrefl _)) (h1 hw _ _))
  · intro f i o hi hI ih
    have ho := hI.1 hi
    refine br_f (nI_ge (b := 720) (by omega) (by decide)) (br_f (by rw [so_mo1 hi]; exact x1_0) ?_)
    refine yw_isRun hn hbo (g := pq_pm n i) ho (fun p hp' => pq_lt hi hp') (fun hok => br_f x1_0 (yw_cb hn hi ho ha hb (fun hbe => br_f x1_0 (yw_58 hn hi ho (fun o' ho' => ih o' ⟨ho', fun s hs hk => ?_⟩))) (fun hbe => br_t rfl (h0 (fun hw => hbe ((od_alw mu_M_lt ha hb).mp hw i hi hok)) _ _)))) (fun hok => br_t rfl (yw_58 hn hi ho (fun o' ho' => ih o' ⟨ho', fun s hs hk => ?_⟩)))
    · by_cases e : s = i
      · rw [e]; exact hbe
      · exact hI.2 s (by omega) hk
    · by_cases e : s = i
      · rw [e] at hk; exact absurd hk hok
      · exact hI.2 s (by omega) hk
theorem yw_124 {post : Int32 → SY → Prop} {f i : Nat} {x y : Int32} (hn : n ≤ 6) (hi : i < pq_N n) (ho : re_or n i yor)
    (ih : ∀ o', (i + 1 < pq_N n → re_or n (i + 1) o') → wY_lost_69 post x y f (so_mo (pq_N n) (i + 1)) (nI (i + 1)) yt ya (nI n) yf ys yo yth yad yco yrd ywr yaq yrl yon yft yfk yfp yfi ywe ywm yok yle ysh o' ybo yme ygo) : wY_lost_124 post (wY_lost_69 post x y f) x y (nI i) yt ya (nI n) yf ys yo yth yad yco yrd ywr yaq yrl yon yft yfk yfp yfi ywe ywm yok yle ysh yor ybo yme ygo := by
  unfold wY_lost_124
  refine yw_next hn hi ho (fun h => nm_r (nI_1 i) ?_) (fun h o' ho' => nm_r (nI_1 i) ?_)
  · have z := ih yor (fun h2 => by omega)
    rw [so_mo0 (by omega)] at z
    exact z
  · have z := ih o' (fun _ => ho')
    rw [so_mo1 h] at z
    exact z
/-- outcome k vanishes if no run with it has a before b -/
def lo_P (n : Nat) (ok : Nat → Prop) (key : Nat → Nat) (K : Nat → Nat) (a b k : Nat) : Prop := ¬ ∃ s, s < pq_N n ∧ ok s ∧ key s = K k ∧ re_bef n s a b
theorem yw_141 {post : Int32 → SY → Prop} {P : Nat → Prop} (hm : m ≤ 180) (h : ∀ k, k < m → (ysh k = 0 ↔ P k)) (hp : post (nI (cn_t P m)) (yt, ya, yn, yf, ys, nI m, yth, yad, yco, yrd, ywr, yaq, yrl, yon, yft, yfk, yfp, yfi, ywe, ywm, yok, yle, ysh, yor, ybo, yme, ygo)) : ∃ f, wY_lost_141 post yt ya yn yf ys (nI m) yth yad yco yrd ywr yaq yrl yon yft yfk yfp yfi ywe ywm yok yle ysh yor ybo yme ygo f 0 0 := by
  refine pk_loop (σ := Unit) (fun f i _ => wY_lost_141 post yt ya yn yf ys (nI m) yth yad yco yrd ywr yaq yrl yon yft yfk yfp yfi ywe ywm yok yle ysh yor ybo yme ygo f (nI (cn_t P i)) (nI i)) (fun _ _ => True) m 0 () (by omega) trivial ?_ ?_
  · exact fun f _ _ => br_t (nI_le (Nat.le_refl m) (by omega)) hp
  · intro f i _ hi _ ih
    have z := ih () trivial
    refine br_f (nI_ge hi (by omega)) ⟨vp_in_nI (by omega) (by omega), ?_⟩
    rw [nI_clamp (show i < 2 ^ 31 by omega)]
    refine br_c (fun c => ?_) (fun c => ?_)
    · rw [cn_y ((h i hi).mp c)] at z
      exact nm_r (nI_1 _) (nm_r (nI_1 i) z)
    · rw [cn_n (fun q => c ((h i hi).mpr q))] at z
      exact nm_r (nI_1 i) z
theorem yw_lost {post : Int32 → SY → Prop} (hP : mu_P n A F yth yad yco yrd ywr yaq yrl yon yfk yfi) (ha : a < n) (hb : b < n) (hab : a ≠ b) (hys : ¬ ys = 0) (hm : m ≤ 180) (hs : ol_srt m K) (hKl : ∀ k, k < m → K k < 2 ^ 36) (hok : ∀ k, k < m → yok k = lN (K k))
    (hp : ∀ sh' o' bo' me' go', post (nI (cn_t (lo_P n (re_ok n F yth yad yrd ywr yaq yrl yon yft yfk yfp) (re_key n yad yco yrd ywr yon yfi) K a b) m)) (yt, ya, nI n, nI F, ys, nI m, yth, yad, yco, yrd, ywr, yaq, yrl, yon, yft, yfk, yfp, yfi, ywe, ywm, yok, yle, sh', o', bo', me', go')) : wpY_lost post (yt, ya, nI n, nI F, ys, nI m, yth, yad, yco, yrd, ywr, yaq, yrl, yon, yft, yfk, yfp, yfi, ywe, ywm, yok, yle, ysh, yor, ybo, yme, ygo) (nI a) (nI b) := by
  have hn := hP.1.1
  have hF := hP.1.2.2.2
  have hN := pq_Nb hn
  have hkl : ∀ s, re_key n yad yco yrd ywr yon yfi s < 2 ^ 36 := fun s => ca_klt hP.2.2.2.2.2.1 n _
  unfold wpY_lost
  refine br_f hys (yr_evY hn ha (br_f x1_0 (yr_evY hn hb (br_f x1_0 (br_f (by rw [nI_eq (by omega) (by omega)]; exact hab) ?_)))))
  refine pk_loop (σ := Nat → Int32) (fun f i sh => wY_lost_39 post (nI a) (nI b) yt ya (nI n) (nI F) ys (nI m) f (nI i) yth yad yco yrd ywr yaq yrl yon yft yfk yfp yfi ywe ywm yok yle sh yor ybo yme ygo) (fun i sh => ∀ k, k < i → sh k = 0) m 0 ysh (by omega) (fun k h => by omega) ?_ ?_
  · intro f sh0 hsh
    refine br_t (nI_le (Nat.le_refl m) (by omega)) (yw_start hn hF (fun o0 bo ho0 hbo => ?_))
    have hl := pk_loop (σ := (Nat → Int32) × (Nat → Int32) × (Nat → Int32) × (Nat → Int32))
      (fun f i s => wY_lost_69 post (nI a) (nI b) f (so_mo (pq_N n) i) (nI i) yt ya (nI n) (nI F) ys (nI m) yth yad yco yrd ywr yaq yrl yon yft yfk yfp yfi ywe ywm yok yle s.1 s.2.1 bo s.2.2.1 s.2.2.2)
      (fun i s => (i < pq_N n → re_or n i s.2.1) ∧ ∀ k, k < m → (¬ s.1 k = 0 ↔ ∃ t, t < i ∧ re_ok n F yth yad yrd ywr yaq yrl yon yft yfk yfp t ∧ re_key n yad yco yrd ywr yon yfi t = K k ∧ re_bef n t a b)) (pq_N n) 0 (sh0, o0, yme, ygo) (by omega) ⟨fun _ => ho0, fun k hk => ⟨fun z => absurd (hsh k hk) z, fun ⟨t, ht, _⟩ => by omega⟩⟩ ?_ ?_
    · rw [so_mo1 hN.1] at hl
      exact hl
    · intro f s hI
      have hfin : ∃ f, wY_lost_141 post yt ya (nI n) (nI F) ys (nI m) yth yad yco yrd ywr yaq yrl yon yft yfk yfp yfi ywe ywm yok yle s.1 s.2.1 bo s.2.2.1 s.2.2.2 f 0 0 := by
        refine yw_141 hm (fun k hk => ?_) (hp _ _ _ _ _)
        unfold lo_P
        rw [← hI.2 k hk, Classical.not_not]
      exact br_c (fun _ => hfin) (fun _ => br_t (so_mo0 (Nat.lt_irrefl _)) hfin)
    · intro f i s hi hI ih
      have ho := hI.1 hi
      have same : ∀ sh' : Nat → Int32, (∀ k, k < m → (¬ sh' k = 0 ↔ (¬ s.1 k = 0 ∨ (re_ok n F yth yad yrd ywr yaq yrl yon yft yfk yfp i ∧ re_key n yad yco yrd ywr yon yfi i = K k ∧ re_bef n i a b)))) → ∀ k, k < m → (¬ sh' k = 0 ↔ ∃ t, t < i + 1 ∧ re_ok n F yth yad yrd ywr yaq yrl yon yft yfk yfp t ∧ re_key n yad yco yrd ywr yon yfi t = K k ∧ re_bef n t a b) := fun sh' h k hk => by
        rw [h k hk, hI.2 k hk, ol_ex_s]
      have keep : ∀ me' go', (∀ k, k < m → ¬ (re_ok n F yth yad yrd ywr yaq yrl yon yft yfk yfp i ∧ re_key n yad yco yrd ywr yon yfi i = K k ∧ re_bef n i a b)) → wY_lost_124 post (wY_lost_69 post (nI a) (nI b) f) (nI a) (nI b) (nI i) yt ya (nI n) (nI F) ys (nI m) yth yad yco yrd ywr yaq yrl yon yft yfk yfp yfi ywe ywm yok yle s.1 s.2.1 bo me' go' := fun me' go' h =>
        yw_124 hn hi ho (fun o' ho' => ih (s.1, o', me', go') ⟨ho', same s.1 (fun k hk => ⟨Or.inl, fun z => z.elim id (fun z => absurd z (h k hk))⟩)⟩)
      refine br_f (nI_ge (b := 720) (by omega) (by decide)) (br_f (by rw [so_mo1 hi]; exact x1_0) ?_)
      refine yw_cb hn hi ho ha hb (fun hbe => br_f x1_0 ?_) (fun hbe => br_t rfl (keep _ _ (fun k _ z => hbe z.2.2)))
      refine yw_isRun hn hbo (g := pq_pm n i) ho (fun p hp' => pq_lt hi hp') (fun hk1 => br_f x1_0 (yw_result hP hi ho (fun me' go' => ?_))) (fun hk1 => br_t rfl (keep _ _ (fun k _ z => hk1 z.1)))
      refine yw_find hm (hkl i) hKl hok (fun hnew => br_t nu_neg1 (keep _ _ (fun k hk z => hnew k hk z.2.1.symm))) (fun q hq eq => br_f (nI_pos (by omega)) ⟨vp_in_nI (by omega) (by omega), nm_e ?_⟩)
      rw [nI_clamp (show q < 2 ^ 31 by omega)]
      refine yw_124 hn hi ho (fun o' ho' => ih (upd s.1 q (vp_nar .boolean 1), o', me', go') ⟨ho', same (upd s.1 q (vp_nar .boolean 1)) (fun k hk => ?_)⟩)
      by_cases e : k = q
      · rw [e]
        exact ⟨fun _ => Or.inr ⟨hk1, eq.symm, hbe⟩, fun _ => by rw [pk_us]; exact x1_0⟩
      · rw [pk_un e]
        refine ⟨Or.inl, fun z => z.elim id (fun z => ?_)⟩
        have e3 : K k = K q := by rw [eq]; exact z.2.1.symm
        rcases Nat.lt_trichotomy k q with c | c | c
        · have := hs k q c hq; omega
        · exact absurd c e
        · have := hs q k c hk; omega
  · intro f i sh hi hI ih
    refine br_f (nI_ge hi (by omega)) ⟨vp_in_nI (by omega) (by omega), nm_e (nm_r (nI_1 i) (ih _ (fun k hk => ?_)))⟩
    rw [nI_clamp (show i < 2 ^ 31 by omega)]
    by_cases e : k = i
    · rw [e, pk_us]; rfl
    · rw [pk_un e]; exact hI k (by omega)
end
/-! a kept value; the wishes -/
def wk_r (K e : Nat) : Int32 := ((lN K >>> ((nI ((8 - e) * 4)).toInt64 &&& 63)).toInt32) &&& 15
def wk_m (K x : Nat) : Int32 := ((lN K >>> ((nI ((2 - x) * 4)).toInt64 &&& 63)).toInt32) &&& 15
def wi_R (n : Nat) (we : Nat → Int32) (K : Nat) : Prop := ∀ e, e < n → we e = -1 ∨ we e = wk_r K e
def wi_M (A : Nat) (wm : Nat → Int32) (K : Nat) : Prop := ∀ x, x < A → wm x = -1 ∨ wm x = wk_m K x
theorem nu_s8 {e : Nat} (h : e ≤ 8) : ((8 : Int32) - nI e) * 4 = nI ((8 - e) * 4) := by
  rw [show (8 : Int32) - nI e = nI (8 - e) from pk_sub (a := 8) h]; exact pk_mul _ 4
theorem nu_s8' {e : Nat} (h : e ≤ 8) : 4 * ((8 : Int32) - nI e) = nI ((8 - e) * 4) := by
  rw [show (8 : Int32) - nI e = nI (8 - e) from pk_sub (a := 8) h, Nat.mul_comm]; exact pk_mul 4 _
theorem nu_s2 {e : Nat} (h : e ≤ 2) : ((2 : Int32) - nI e) * 4 = nI ((2 - e) * 4) := by
  rw [show (2 : Int32) - nI e = nI (2 - e) from pk_sub (a := 2) h]; exact pk_mul _ 4
theorem nu_s2' {e : Nat} (h : e ≤ 2) : 4 * ((2 : Int32) - nI e) = nI ((2 - e) * 4) := by
  rw [show (2 : Int32) - nI e = nI (2 - e) from pk_sub (a := 2) h, Nat.mul_comm]; exact pk_mul 4 _
section
variable {tc ac ec fc sv oc : Int32} {xth xad xco xtr xft xfk xfp xds xas xcs xfi xwr xwm xbo xor xme xvr xlr : Nat → Int32} {xok xps : Nat → Int64} {n A m a b k K : Nat} {post : Int32 → Prop}
theorem xw_rk {e : Nat} (hk : k < 180) (hK : K < 2 ^ 36) (ek : xok k = lN K) (he : e < 6) (hp : post (wk_r K e)) : wpX_readKept post (tc, ac, ec, fc, sv, oc, xth, xad, xco, xtr, xft, xfk, xfp, xds, xas, xcs, xfi, xwr, xwm, xbo, xor, xme, xvr, xok, xlr, xps) (nI k) (nI e) := by
  unfold wpX_readKept wpX_shiftOfRead
  dsimp only
  rw [nI_clamp (show k < 2 ^ 31 by omega), ek, nu_s8 (by omega)]
  refine ⟨vp_in_nI hk (by omega), ?_⟩
  show post _
  rw [nu_rk hK (by omega)]
  exact hp
theorem xw_mk {e : Nat} (hk : k < 180) (hK : K < 2 ^ 36) (ek : xok k = lN K) (he : e < 3) (hp : post (wk_m K e)) : wpX_memoryKept post (tc, ac, ec, fc, sv, oc, xth, xad, xco, xtr, xft, xfk, xfp, xds, xas, xcs, xfi, xwr, xwm, xbo, xor, xme, xvr, xok, xlr, xps) (nI k) (nI e) := by
  unfold wpX_memoryKept wpX_shiftOfMemory
  dsimp only
  rw [nI_clamp (show k < 2 ^ 31 by omega), ek, nu_s2 (by omega)]
  refine ⟨vp_in_nI hk (by omega), ?_⟩
  show post _
  rw [nu_rk hK (by omega)]
  exact hp
theorem xw_rw (hn : n ≤ 6) (hk : k < 180) (hK : K < 2 ^ 36) (ek : xok k = lN K) (h1 : wi_R n xwr K → post 1) (h0 : ¬ wi_R n xwr K → post 0) : wpX_readWishesHold post (tc, ac, nI n, fc, sv, oc, xth, xad, xco, xtr, xft, xfk, xfp, xds, xas, xcs, xfi, xwr, xwm, xbo, xor, xme, xvr, xok, xlr, xps) (nI k) := by
  unfold wpX_readWishesHold
  refine pk_loop (σ := Unit) (fun f i _ => wX_readWishesHold_2 post (nI k) tc ac (nI n) fc sv oc xth xad xco xtr xft xfk xfp xds xas xcs xfi xwr xwm xbo xor xme xvr xok xlr xps f (nI i)) (fun i _ => wi_R i xwr K) n 0 () (by omega) (fun e h => by omega) ?_ ?_
  · exact fun f _ hI => br_t (nI_le (Nat.le_refl n) (by omega)) (h1 hI)
  · intro f i _ hi hI ih
    have vi : vp_in (nI i) 6 := vp_in_nI (by omega) (by omega)
    have nxt : (xwr i = -1 ∨ xwr i = wk_r K i) → ∀ y, y = nI i + 1 → wX_readWishesHold_2 post (nI k) tc ac (nI n) fc sv oc xth xad xco xtr xft xfk xfp xds xas xcs xfi xwr xwm xbo xor xme xvr xok xlr xps f y := fun z => nm_r (nI_1 i) (ih () (fun e he => by
      by_cases c : e = i
      · rw [c]; exact z
      · exact hI e (by omega)))
    refine br_f (nI_ge hi (by omega)) ⟨vi, ?_⟩
    rw [nI_clamp (show i < 2 ^ 31 by omega)]
    refine br_c (fun c => nxt (Or.inl c)) (fun c => ⟨vi, xw_rk hk hK ek (by omega) (br_c (fun d => nxt (Or.inr d)) (fun d => h0 (fun z => ?_)))⟩)
    exact (z i hi).elim c d
theorem xw_mw (hA : A ≤ 3) (hk : k < 180) (hK : K < 2 ^ 36) (ek : xok k = lN K) (h1 : wi_M A xwm K → post 1) (h0 : ¬ wi_M A xwm K → post 0) : wpX_memoryWishesHold post (tc, nI A, ec, fc, sv, oc, xth, xad, xco, xtr, xft, xfk, xfp, xds, xas, xcs, xfi, xwr, xwm, xbo, xor, xme, xvr, xok, xlr, xps) (nI k) := by
  unfold wpX_memoryWishesHold
  refine pk_loop (σ := Unit) (fun f i _ => wX_memoryWishesHold_2 post (nI k) tc (nI A) ec fc sv oc xth xad xco xtr xft xfk xfp xds xas xcs xfi xwr xwm xbo xor xme xvr xok xlr xps f (nI i)) (fun i _ => wi_M i xwm K) A 0 () (by omega) (fun e h => by omega) ?_ ?_
  · exact fun f _ hI => br_t (nI_le (Nat.le_refl A) (by omega)) (h1 hI)
  · intro f i _ hi hI ih
    have vi : vp_in (nI i) 3 := vp_in_nI (by omega) (by omega)
    have nxt : (xwm i = -1 ∨ xwm i = wk_m K i) → ∀ y, y = nI i + 1 → wX_memoryWishesHold_2 post (nI k) tc (nI A) ec fc sv oc xth xad xco xtr xft xfk xfp xds xas xcs xfi xwr xwm xbo xor xme xvr xok xlr xps f y := fun z => nm_r (nI_1 i) (ih () (fun e he => by
      by_cases c : e = i
      · rw [c]; exact z
      · exact hI e (by omega)))
    refine br_f (nI_ge hi (by omega)) ⟨vi, ?_⟩
    rw [nI_clamp (show i < 2 ^ 31 by omega)]
    refine br_c (fun c => nxt (Or.inl c)) (fun c => ⟨vi, xw_mk hk hK ek (by omega) (br_c (fun d => nxt (Or.inr d)) (fun d => h0 (fun z => ?_)))⟩)
    exact (z i hi).elim c d
theorem xw_wished {Kf : Nat → Nat} (hn : n ≤ 6) (hA : A ≤ 3) (hm : m ≤ 180) (hK : ∀ k, k < m → Kf k < 2 ^ 36) (ek : ∀ k, k < m → xok k = lN (Kf k)) (hs : ¬ sv = 0)
    (hp : post (nI (cn_t (fun k => wi_R n xwr (Kf k) ∧ wi_M A xwm (Kf k)) m))) : wpX_wished post (tc, nI A, nI n, fc, sv, nI m, xth, xad, xco, xtr, xft, xfk, xfp, xds, xas, xcs, xfi, xwr, xwm, xbo, xor, xme, xvr, xok, xlr, xps) := by
  unfold wpX_wished
  refine br_f hs ?_
  refine pk_loop (σ := Unit) (fun f i _ => wX_wished_14 post tc (nI A) (nI n) fc sv (nI m) xth xad xco xtr xft xfk xfp xds xas xcs xfi xwr xwm xbo xor xme xvr xok xlr xps f (nI (cn_t (fun k => wi_R n xwr (Kf k) ∧ wi_M A xwm (Kf k)) i)) (nI i)) (fun _ _ => True) m 0 () (by omega) trivial ?_ ?_
  · exact fun f _ _ => br_t (nI_le (Nat.le_refl m) (by omega)) hp
  · intro f i _ hi _ ih
    have z := ih () trivial
    have hno : ¬ (wi_R n xwr (Kf i) ∧ wi_M A xwm (Kf i)) → ∀ y, y = nI i + 1 → wX_wished_14 post tc (nI A) (nI n) fc sv (nI m) xth xad xco xtr xft xfk xfp xds xas xcs xfi xwr xwm xbo xor xme xvr xok xlr xps f (nI (cn_t (fun k => wi_R n xwr (Kf k) ∧ wi_M A xwm (Kf k)) i)) y := by
      intro c
      rw [cn_n (P := fun k => wi_R n xwr (Kf k) ∧ wi_M A xwm (Kf k)) c] at z
      exact nm_r (nI_1 i) z
    refine br_f (nI_ge hi (by omega)) ?_
    refine xw_rw hn (by omega) (hK i hi) (ek i hi) (fun c1 => br_f x1_0 (xw_mw hA (by omega) (hK i hi) (ek i hi) (fun c2 => br_f x1_0 ?_) (fun c2 => br_t rfl (hno (fun q => c2 q.2))))) (fun c1 => br_t rfl (hno (fun q => c1 q.1)))
    rw [cn_y (P := fun k => wi_R n xwr (Kf k) ∧ wi_M A xwm (Kf k)) ⟨c1, c2⟩] at z
    exact nm_r (nI_1 _) (nm_r (nI_1 i) z)
theorem xw_lost52 {S : Nat → Nat} {P : Nat → Prop} (hm : m ≤ 180) (ha : a < 6) (hb : b < 6) (hS : ∀ k, k < m → S k < 2 ^ 36) (es : ∀ k, k < m → xps k = lN (S k)) (hP : ∀ k, k < m → ((S k).testBit (a * 6 + b) = false ↔ P k))
    (hp : post (nI (cn_t P m))) : ∃ f, wX_lost_52 post (lN (2 ^ (a * 6 + b))) tc ac ec fc sv (nI m) xth xad xco xtr xft xfk xfp xds xas xcs xfi xwr xwm xbo xor xme xvr xok xlr xps f 0 0 := by
  refine pk_loop (σ := Unit) (fun f i _ => wX_lost_52 post (lN (2 ^ (a * 6 + b))) tc ac ec fc sv (nI m) xth xad xco xtr xft xfk xfp xds xas xcs xfi xwr xwm xbo xor xme xvr xok xlr xps f (nI (cn_t P i)) (nI i)) (fun _ _ => True) m 0 () (by omega) trivial ?_ ?_
  · exact fun f _ _ => br_t (nI_le (Nat.le_refl m) (by omega)) hp
  · intro f i _ hi _ ih
    have z := ih () trivial
    refine br_f (nI_ge hi (by omega)) ⟨vp_in_nI (by omega) (by omega), ?_⟩
    rw [nI_clamp (show i < 2 ^ 31 by omega), es i hi, dg_bit0 (hS i hi) (by omega)]
    refine br_c (fun c => ?_) (fun c => ?_)
    · rw [cn_y ((hP i hi).mp c)] at z
      exact nm_r (nI_1 _) (nm_r (nI_1 i) z)
    · rw [cn_n (fun q => c ((hP i hi).mpr q))] at z
      exact nm_r (nI_1 i) z
end
section
variable {yt ya yn yf ys yo : Int32} {yth yad yco yrd ywr yaq yrl yon yft yfk yfp yfi ywe ywm yle ysh yor ybo yme ygo : Nat → Int32} {yok : Nat → Int64} {n A m k K : Nat} {post : Int32 → Prop}
theorem wi_ng {x : Int32} (h : x = -1 ∨ ∃ j, j < 16 ∧ x = nI j) : x < 0 ↔ x = -1 := by
  constructor
  · intro c
    rcases h with z | ⟨j, hj, z⟩
    · exact z
    · rw [z] at c
      exact absurd c (nI_pos (by omega))
  · intro c
    rw [c]; exact nu_neg1
theorem yw_gr (hW : re_W n A ywe ywm) (hk : k < 180) (ek : yok k = lN K) (h1 : wi_R 6 ywe K ∧ wi_M 3 ywm K → post 1) (h0 : ¬ (wi_R 6 ywe K ∧ wi_M 3 ywm K) → post 0) : wpY_granted post (yt, ya, yn, yf, ys, yo, yth, yad, yco, yrd, ywr, yaq, yrl, yon, yft, yfk, yfp, yfi, ywe, ywm, yok, yle, ysh, yor, ybo, yme, ygo) (nI k) := by
  have vk : vp_in (nI k) 180 := vp_in_nI hk (by omega)
  have ck : (nI k).toNatClampNeg = k := nI_clamp (by omega)
  unfold wpY_granted
  refine pk_loop (σ := Unit) (fun f i _ => wY_granted_2 post (nI k) yt ya yn yf ys yo yth yad yco yrd ywr yaq yrl yon yft yfk yfp yfi ywe ywm yok yle ysh yor ybo yme ygo f (nI i)) (fun i _ => wi_R i ywe K) 6 0 () (by omega) (fun e h => by omega) ?_ ?_
  · intro f _ hI
    refine br_t (nI_le (b := 6) (Nat.le_refl 6) (by decide)) ?_
    refine pk_loop (σ := Unit) (fun f i _ => wY_granted_55 post (nI k) yt ya yn yf ys yo yth yad yco yrd ywr yaq yrl yon yft yfk yfp yfi ywe ywm yok yle ysh yor ybo yme ygo f (nI i)) (fun i _ => wi_M i ywm K) 3 0 () (by omega) (fun e h => by omega) ?_ ?_
    · exact fun f _ hJ => br_t (nI_le (b := 3) (Nat.le_refl 3) (by decide)) (h1 ⟨hI, hJ⟩)
    · intro f i _ hi hJ ih
      have vi : vp_in (nI i) 3 := vp_in_nI (by omega) (by omega)
      have nxt : (ywm i = -1 ∨ ywm i = wk_m K i) → ∀ y, y = nI i + 1 → wY_granted_55 post (nI k) yt ya yn yf ys yo yth yad yco yrd ywr yaq yrl yon yft yfk yfp yfi ywe ywm yok yle ysh yor ybo yme ygo f y := fun z => nm_r (nI_1 i) (ih () (fun e he => by
        by_cases c : e = i
        · rw [c]; exact z
        · exact hJ e (by omega)))
      refine br_f (nI_ge (b := 3) hi (by decide)) ⟨vk, ?_⟩
      rw [nI_clamp (show i < 2 ^ 31 by omega), ck, ek, nu_s2' (by omega)]
      refine nm_e ⟨vi, br_c (fun c => nxt (Or.inl ((wi_ng (hW.2.1 i)).mp c))) (fun c => ⟨vi, br_c (fun d => nxt (Or.inr d)) (fun d => h0 (fun z => ?_))⟩)⟩
      exact (z.2 i hi).elim (fun q => c ((wi_ng (hW.2.1 i)).mpr q)) d
  · intro f i _ hi hJ ih
    have vi : vp_in (nI i) 6 := vp_in_nI (by omega) (by omega)
    have nxt : (ywe i = -1 ∨ ywe i = wk_r K i) → ∀ y, y = nI i + 1 → wY_granted_2 post (nI k) yt ya yn yf ys yo yth yad yco yrd ywr yaq yrl yon yft yfk yfp yfi ywe ywm yok yle ysh yor ybo yme ygo f y := fun z => nm_r (nI_1 i) (ih () (fun e he => by
      by_cases c : e = i
      · rw [c]; exact z
      · exact hJ e (by omega)))
    refine br_f (nI_ge (b := 6) hi (by decide)) ⟨vk, ?_⟩
    rw [nI_clamp (show i < 2 ^ 31 by omega), ck, ek, nu_s8' (by omega)]
    refine nm_e ⟨vi, br_c (fun c => nxt (Or.inl ((wi_ng (hW.1 i)).mp c))) (fun c => ⟨vi, br_c (fun d => nxt (Or.inr d)) (fun d => h0 (fun z => ?_))⟩)⟩
    exact (z.1 i hi).elim (fun q => c ((wi_ng (hW.1 i)).mpr q)) d
theorem wi_6 {we wm : Nat → Int32} {K : Nat} (hn : n ≤ 6) (hA : A ≤ 3) (hW : re_W n A we wm) : (wi_R 6 we K ∧ wi_M 3 wm K) ↔ (wi_R n we K ∧ wi_M A wm K) := by
  constructor
  · exact fun z => ⟨fun e he => z.1 e (by omega), fun x hx => z.2 x (by omega)⟩
  · refine fun z => ⟨fun e he => ?_, fun x hx => ?_⟩
    · by_cases c : e < n
      · exact z.1 e c
      · exact Or.inl (hW.2.2.1 e (by omega) he)
    · by_cases c : x < A
      · exact z.2 x c
      · exact Or.inl (hW.2.2.2 x (by omega) hx)
theorem yw_wished {Kf : Nat → Nat} (hn : n ≤ 6) (hA : A ≤ 3) (hW : re_W n A ywe ywm) (hm : m ≤ 180) (ek : ∀ k, k < m → yok k = lN (Kf k)) (hs : ¬ ys = 0)
    (hp : post (nI (cn_t (fun k => wi_R n ywe (Kf k) ∧ wi_M A ywm (Kf k)) m))) : wpY_wished post (yt, ya, yn, yf, ys, nI m, yth, yad, yco, yrd, ywr, yaq, yrl, yon, yft, yfk, yfp, yfi, ywe, ywm, yok, yle, ysh, yor, ybo, yme, ygo) := by
  unfold wpY_wished
  refine br_f hs ?_
  refine pk_loop (σ := Unit) (fun f i _ => wY_wished_14 post yt ya yn yf ys (nI m) yth yad yco yrd ywr yaq yrl yon yft yfk yfp yfi ywe ywm yok yle ysh yor ybo yme ygo f (nI (cn_t (fun k => wi_R n ywe (Kf k) ∧ wi_M A ywm (Kf k)) i)) (nI i)) (fun _ _ => True) m 0 () (by omega) trivial ?_ ?_
  · exact fun f _ _ => br_t (nI_le (Nat.le_refl m) (by omega)) hp
  · intro f i _ hi _ ih
    have z := ih () trivial
    refine br_f (nI_ge hi (by omega)) ?_
    refine yw_gr hW (by omega) (ek i hi) (fun c => br_f x1_0 ?_) (fun c => br_t rfl ?_)
    · rw [cn_y (P := fun k => wi_R n ywe (Kf k) ∧ wi_M A ywm (Kf k)) ((wi_6 hn hA hW).mp c)] at z
      exact nm_r (nI_1 _) (nm_r (nI_1 i) z)
    · rw [cn_n (P := fun k => wi_R n ywe (Kf k) ∧ wi_M A ywm (Kf k)) (fun q => c ((wi_6 hn hA hW).mpr q))] at z
      exact nm_r (nI_1 i) z
end
end
section
/-! the relation; the small private methods; the beginning -/
def i_Rel (_ : Nat) (u : SX) (v : SY) : Prop :=
  ∃ (tc sv oc yo : Int32) (A n F : Nat) (xth xad xco xtr xft xfk xfp xds xas xcs xfi xwr xwm xbo xor xme xvr : Nat → Int32) (xok : Nat → Int64) (xlr : Nat → Int32) (xps : Nat → Int64) (yrd ywr yaq yrl yon : Nat → Int32) (yok : Nat → Int64) (yle ysh yor ybo yme ygo : Nat → Int32),
    u = (tc, nI A, nI n, nI F, sv, oc, xth, xad, xco, xtr, xft, xfk, xfp, xds, xas, xcs, xfi, xwr, xwm, xbo, xor, xme, xvr, xok, xlr, xps) ∧ v = (tc, nI A, nI n, nI F, sv, yo, xth, xad, xco, yrd, ywr, yaq, yrl, yon, xft, xfk, xfp, xfi, xwr, xwm, yok, yle, ysh, yor, ybo, yme, ygo)
    ∧ mu_P n A F xth xad xco yrd ywr yaq yrl yon xfk xfi ∧ re_T xtr yrd ywr yaq yrl ∧ re_S xds xas xcs yon ∧ re_W n A xwr xwm
    ∧ (¬ sv = 0 → re_O n (re_ok n F xth xad yrd ywr yaq yrl yon xft xfk xfp) (re_key n xad xco yrd ywr yon xfi) oc xok xlr xps yo yok yle)
theorem i_up {k : Nat} {u : SX} {v : SY} (h : i_Rel k u v) : i_Rel (k + 5) u v := h
section
variable {tc ac ec fc sv oc : Int32} {xth xad xco xtr xft xfk xfp xds xas xcs xfi xwr xwm xbo xor xme xvr xlr : Nat → Int32} {xok xps : Nat → Int64} {yt ya yn yf ys yo : Int32} {yth yad yco yrd ywr yaq yrl yon yft yfk yfp yfi ywe ywm yle ysh yor ybo yme ygo : Nat → Int32} {yok : Nat → Int64} {A n F k : Nat}
theorem re_mk (hP : mu_P n A F xth xad xco yrd ywr yaq yrl yon xfk xfi) (hT : re_T xtr yrd ywr yaq yrl) (hS : re_S xds xas xcs yon) (hW : re_W n A xwr xwm)
    (hO : ¬ sv = 0 → re_O n (re_ok n F xth xad yrd ywr yaq yrl yon xft xfk xfp) (re_key n xad xco yrd ywr yon xfi) oc xok xlr xps yo yok yle) :
    i_Rel k (tc, nI A, nI n, nI F, sv, oc, xth, xad, xco, xtr, xft, xfk, xfp, xds, xas, xcs, xfi, xwr, xwm, xbo, xor, xme, xvr, xok, xlr, xps) (tc, nI A, nI n, nI F, sv, yo, xth, xad, xco, yrd, ywr, yaq, yrl, yon, xft, xfk, xfp, xfi, xwr, xwm, yok, yle, ysh, yor, ybo, yme, ygo) :=
  ⟨tc, sv, oc, yo, A, n, F, xth, xad, xco, xtr, xft, xfk, xfp, xds, xas, xcs, xfi, xwr, xwm, xbo, xor, xme, xvr, xok, xlr, xps, yrd, ywr, yaq, yrl, yon, yok, yle, ysh, yor, ybo, yme, ygo, rfl, rfl, hP, hT, hS, hW, hO⟩
theorem re_n0 {P : Prop} : ¬ (0 : Int32) = 0 → P := fun z => absurd rfl z
end
section
variable {tc ac ec fc sv oc : Int32} {xth xad xco xtr xft xfk xfp xds xas xcs xfi xwr xwm xbo xor xme xvr xlr : Nat → Int32} {xok xps : Nat → Int64} {post : Int32 → Prop} {A n m : Nat} {p : Int32}
theorem xr_thN (h : p < 0 ∨ tc ≤ p) (hp : post 0) : wpX_isThread post (tc, ac, ec, fc, sv, oc, xth, xad, xco, xtr, xft, xfk, xfp, xds, xas, xcs, xfi, xwr, xwm, xbo, xor, xme, xvr, xok, xlr, xps) p := by
  unfold wpX_isThread
  by_cases c : p < 0
  · exact br_t c hp
  · exact br_f c (br_t (h.resolve_left c) hp)
theorem xr_thY (h1 : ¬ p < 0) (h2 : ¬ tc ≤ p) (hp : post 1) : wpX_isThread post (tc, ac, ec, fc, sv, oc, xth, xad, xco, xtr, xft, xfk, xfp, xds, xas, xcs, xfi, xwr, xwm, xbo, xor, xme, xvr, xok, xlr, xps) p := by
  unfold wpX_isThread
  exact br_f h1 (br_f h2 hp)
theorem xr_adN (h : p < 0 ∨ ac ≤ p) (hp : post 0) : wpX_isAddress post (tc, ac, ec, fc, sv, oc, xth, xad, xco, xtr, xft, xfk, xfp, xds, xas, xcs, xfi, xwr, xwm, xbo, xor, xme, xvr, xok, xlr, xps) p := by
  unfold wpX_isAddress
  by_cases c : p < 0
  · exact br_t c hp
  · exact br_f c (br_t (h.resolve_left c) hp)
theorem xr_adY (h1 : ¬ p < 0) (h2 : ¬ ac ≤ p) (hp : post 1) : wpX_isAddress post (tc, ac, ec, fc, sv, oc, xth, xad, xco, xtr, xft, xfk, xfp, xds, xas, xcs, xfi, xwr, xwm, xbo, xor, xme, xvr, xok, xlr, xps) p := by
  unfold wpX_isAddress
  exact br_f h1 (br_f h2 hp)
theorem xr_evN (h : p < 0 ∨ ec ≤ p) (hp : post 0) : wpX_isEvent post (tc, ac, ec, fc, sv, oc, xth, xad, xco, xtr, xft, xfk, xfp, xds, xas, xcs, xfi, xwr, xwm, xbo, xor, xme, xvr, xok, xlr, xps) p := by
  unfold wpX_isEvent
  by_cases c : p < 0
  · exact br_t c hp
  · exact br_f c (br_t (h.resolve_left c) hp)
theorem xr_evY {e : Nat} (hn : n ≤ 6) (he : e < n) (hp : post 1) : wpX_isEvent post (tc, ac, nI n, fc, sv, oc, xth, xad, xco, xtr, xft, xfk, xfp, xds, xas, xcs, xfi, xwr, xwm, xbo, xor, xme, xvr, xok, xlr, xps) (nI e) := by
  unfold wpX_isEvent
  exact br_f (nI_pos (by omega)) (br_f (nI_ge he (by omega)) hp)
theorem xr_ouN (h : p < 0 ∨ oc ≤ p) (hp : post 0) : wpX_isOutcome post (tc, ac, ec, fc, sv, oc, xth, xad, xco, xtr, xft, xfk, xfp, xds, xas, xcs, xfi, xwr, xwm, xbo, xor, xme, xvr, xok, xlr, xps) p := by
  unfold wpX_isOutcome
  by_cases c : p < 0
  · exact br_t c hp
  · exact br_f c (br_t (h.resolve_left c) hp)
theorem xr_ouY {o : Nat} (hm : m ≤ 180) (ho : o < m) (hp : post 1) : wpX_isOutcome post (tc, ac, ec, fc, sv, nI m, xth, xad, xco, xtr, xft, xfk, xfp, xds, xas, xcs, xfi, xwr, xwm, xbo, xor, xme, xvr, xok, xlr, xps) (nI o) := by
  unfold wpX_isOutcome
  exact br_f (nI_pos (by omega)) (br_f (nI_ge ho (by omega)) hp)
end
theorem xw_rem {tc ac ec fc sv oc : Int32} {xth xad xco xtr xft xfk xfp xds xas xcs xfi xwr xwm xbo xor xme xvr xlr : Nat → Int32} {xok xps : Nat → Int64} {post : SX → Prop} (hp : post (tc, ac, 0, 0, 0, oc, xth, xad, xco, xtr, xft, xfk, xfp, fl_f xds 6 (-1), fl_f xas 6 (-1), fl_f xcs 6 (-1), fl_f xfi 3 0, fl_f xwr 6 (-1), fl_f xwm 3 (-1), xbo, xor, xme, xvr, xok, xlr, xps)) : wpX_removeAll post (tc, ac, ec, fc, sv, oc, xth, xad, xco, xtr, xft, xfk, xfp, xds, xas, xcs, xfi, xwr, xwm, xbo, xor, xme, xvr, xok, xlr, xps) := by
  unfold wpX_removeAll
  have hl := pk_loop (σ := Unit) (fun f i _ => wX_removeAll_17 post tc ac 0 0 0 oc f (nI i) xth xad xco xtr xft xfk xfp (fl_f xds i (-1)) (fl_f xas i (-1)) (fl_f xcs i (-1)) xfi (fl_f xwr i (-1)) xwm xbo xor xme xvr xok xlr xps) (fun _ _ => True) 6 0 () (by omega) trivial ?_ ?_
  · rw [fl_0, fl_0, fl_0, fl_0] at hl
    exact hl
  · intro f _ _
    refine br_t (nI_le (b := 6) (Nat.le_refl 6) (by decide)) ?_
    have hl2 := pk_loop (σ := Unit) (fun f i _ => wX_removeAll_59 post tc ac 0 0 0 oc f (nI i) xth xad xco xtr xft xfk xfp (fl_f xds 6 (-1)) (fl_f xas 6 (-1)) (fl_f xcs 6 (-1)) (fl_f xfi i 0) (fl_f xwr 6 (-1)) (fl_f xwm i (-1)) xbo xor xme xvr xok xlr xps) (fun _ _ => True) 3 0 () (by omega) trivial ?_ ?_
    · rw [fl_0 xfi, fl_0 xwm] at hl2
      exact hl2
    · exact fun f _ _ => br_t (nI_le (b := 3) (Nat.le_refl 3) (by decide)) hp
    · intro f2 i _ hi _ ih
      have v3 : vp_in (nI i) 3 := vp_in_nI (by omega) (by omega)
      refine br_f (nI_ge (b := 3) hi (by decide)) ⟨v3, ?_⟩
      rw [nI_clamp (show i < 2 ^ 31 by omega), fl_s, fl_s]
      exact nm_e ⟨v3, nm_e (nm_r (nI_1 i) (ih () trivial))⟩
  · intro f i _ hi _ ih
    have v6 : vp_in (nI i) 6 := vp_in_nI (by omega) (by omega)
    refine br_f (nI_ge (b := 6) hi (by decide)) ⟨v6, ?_⟩
    rw [nI_clamp (show i < 2 ^ 31 by omega), fl_s, fl_s, fl_s, fl_s]
    exact nm_e ⟨v6, nm_e ⟨v6, nm_e ⟨v6, nm_e (nm_r (nI_1 i) (ih () trivial))⟩⟩⟩
theorem yw_clr {yt ya yn yf ys yo : Int32} {yth yad yco yrd ywr yaq yrl yon yft yfk yfp yfi ywe ywm yle ysh yor ybo yme ygo : Nat → Int32} {yok : Nat → Int64} {post : SY → Prop} (hp : post (yt, ya, 0, 0, 0, 0, yth, yad, yco, yrd, ywr, yaq, yrl, fl_f yon 24 (-1), yft, yfk, yfp, fl_f yfi 3 0, fl_f ywe 6 (-1), fl_f ywm 3 (-1), yok, yle, ysh, yor, ybo, yme, ygo)) : wpY_clear post (yt, ya, yn, yf, ys, yo, yth, yad, yco, yrd, ywr, yaq, yrl, yon, yft, yfk, yfp, yfi, ywe, ywm, yok, yle, ysh, yor, ybo, yme, ygo) := by
  unfold wpY_clear
  have hl := pk_loop (σ := Unit) (fun f i _ => wY_clear_12 post yt ya 0 0 ys yo f (nI i) yth yad yco yrd ywr yaq yrl (fl_f yon i (-1)) yft yfk yfp yfi ywe ywm yok yle ysh yor ybo yme ygo) (fun _ _ => True) 24 0 () (by omega) trivial ?_ ?_
  · rw [fl_0] at hl
    exact hl
  · intro f _ _
    refine br_t (nI_le (b := 24) (Nat.le_refl 24) (by decide)) ?_
    have hl2 := pk_loop (σ := Unit) (fun f i _ => wY_clear_33 post yt ya 0 0 ys yo f (nI i) yth yad yco yrd ywr yaq yrl (fl_f yon 24 (-1)) yft yfk yfp yfi (fl_f ywe i (-1)) ywm yok yle ysh yor ybo yme ygo) (fun _ _ => True) 6 0 () (by omega) trivial ?_ ?_
    · rw [fl_0 ywe] at hl2
      exact hl2
    · intro f2 _ _
      refine br_t (nI_le (b := 6) (Nat.le_refl 6) (by decide)) ?_
      have hl3 := pk_loop (σ := Unit) (fun f i _ => wY_clear_54 post yt ya 0 0 ys yo f (nI i) yth yad yco yrd ywr yaq yrl (fl_f yon 24 (-1)) yft yfk yfp (fl_f yfi i 0) (fl_f ywe 6 (-1)) (fl_f ywm i (-1)) yok yle ysh yor ybo yme ygo) (fun _ _ => True) 3 0 () (by omega) trivial ?_ ?_
      · rw [fl_0 yfi, fl_0 ywm] at hl3
        exact hl3
      · exact fun f _ _ => br_t (nI_le (b := 3) (Nat.le_refl 3) (by decide)) hp
      · intro f3 i _ hi _ ih
        have v3 : vp_in (nI i) 3 := vp_in_nI (by omega) (by omega)
        refine br_f (nI_ge (b := 3) hi (by decide)) ⟨v3, ?_⟩
        rw [nI_clamp (show i < 2 ^ 31 by omega), fl_s, fl_s]
        exact nm_e ⟨v3, nm_e (nm_r (nI_1 i) (ih () trivial))⟩
    · intro f2 i _ hi _ ih
      refine br_f (nI_ge (b := 6) hi (by decide)) ⟨vp_in_nI (by omega) (by omega), ?_⟩
      rw [nI_clamp (show i < 2 ^ 31 by omega), fl_s]
      exact nm_e (nm_r (nI_1 i) (ih () trivial))
  · intro f i _ hi _ ih
    refine br_f (nI_ge (b := 24) hi (by decide)) ⟨vp_in_nI (by omega) (by omega), ?_⟩
    rw [nI_clamp (show i < 2 ^ 31 by omega), fl_s]
    exact nm_e (nm_r (nI_1 i) (ih () trivial))
theorem in_w (p : Int32) (M : Nat) (h1 : 1 ≤ M) (h2 : M < 2 ^ 31) : ∃ j, 1 ≤ j ∧ j ≤ M ∧ ∀ P : Int32 → Prop, P (nI j) → ((1 ≤ p → ((p ≤ nI M → P p) ∧ (¬ p ≤ nI M → P (nI M)))) ∧ (¬ 1 ≤ p → P 1)) := by
  by_cases c : 1 ≤ p
  · by_cases d : p ≤ nI M
    · have c0 : ¬ p < 0 := fun z => by
        have z2 := Int32.lt_of_lt_of_le z (show (0 : Int32) ≤ 1 by decide)
        exact absurd c (Int32.not_le.mpr z2)
      obtain ⟨j, hj, e⟩ := nI_of c0
      rw [e, nI_leI hj h2] at d
      rw [e, show (1 : Int32) = nI 1 from rfl, nI_leI (by decide) hj] at c
      refine ⟨j, c, d, fun P hP => ?_⟩
      rw [← e] at hP
      refine br_t ?_ (br_t ?_ hP)
      · rw [e]; exact nI_le (a := 1) c hj
      · rw [e]; exact nI_le d h2
    · exact ⟨M, h1, Nat.le_refl M, fun P hP => br_t c (br_f d hP)⟩
  · exact ⟨1, Nat.le_refl 1, h1, fun P hP => br_f c hP⟩
theorem xw_wi {p : Int32} {M j : Nat} {post : Int32 → Prop} (h : ∀ P : Int32 → Prop, P (nI j) → ((1 ≤ p → ((p ≤ nI M → P p) ∧ (¬ p ≤ nI M → P (nI M)))) ∧ (¬ 1 ≤ p → P 1))) (hp : post (nI j)) : wpX_within post p (nI M) := by
  unfold wpX_within
  exact h post hp
theorem re_P0 {A : Nat} (h1 : 1 ≤ A) (h2 : A ≤ 3) : mu_P 0 A 0 (fun _ => 0) (fun _ => 0) (fun _ => 0) (fun _ => 0) (fun _ => 0) (fun _ => 0) (fun _ => 0) (fl_f (fun _ => 0) 24 (-1)) (fun _ => 0) (fl_f (fun _ => 0) 3 0) := by
  have hz : ∀ x, fl_f (fun _ => 0) 3 0 x = 0 := by
    intro x
    unfold fl_f
    split <;> rfl
  exact ⟨by omega, fun e he => by omega, fun g hg => by omega, fun e c he => by omega, fun e c _ he hc1 hc2 => fl_lt (by omega), fun x => ⟨0, by omega, hz x⟩, fun x _ _ => hz x, fun e => ⟨Or.inl rfl, Or.inl rfl, Or.inl rfl, Or.inl rfl⟩⟩
theorem re_W0 {A : Nat} : re_W 0 A (fl_f (fun _ => 0) 6 (-1)) (fl_f (fun _ => 0) 3 (-1)) := by
  refine ⟨fun e => ?_, fun x => ?_, fun e _ he => fl_lt he, fun x _ hx => fl_lt hx⟩
  · by_cases c : e < 6
    · exact Or.inl (fl_lt c)
    · exact Or.inr ⟨0, by omega, if_neg c⟩
  · by_cases c : x < 3
    · exact Or.inl (fl_lt c)
    · exact Or.inr ⟨0, by omega, if_neg c⟩
theorem i_vc0 (k0 : Int32) (k1 : Int32) : wpX_init (fun u => wpY_init (fun v => i_Rel 2 u v) k0 k1) k0 k1 := by
  obtain ⟨T, hT1, hT2, hT⟩ := in_w k0 4 (by decide) (by decide)
  obtain ⟨A, hA1, hA2, hA⟩ := in_w k1 3 (by decide) (by decide)
  unfold wpX_init
  refine xw_wi hT (xw_wi hA (xw_rem ?_))
  unfold wpY_init
  refine hT (fun z => wY_init_192 _ k1 z _ _ _ _ _ _ _ _ _ _ _ _ _ _ _ _ _ _ _ _ _ _ _ _ _ _ _) ?_
  refine hA (fun z => wY_init_215 _ z _ _ _ _ _ _ _ _ _ _ _ _ _ _ _ _ _ _ _ _ _ _ _ _ _ _ _) ?_
  unfold wY_init_215
  refine yw_clr ?_
  exact re_mk (n := 0) (F := 0) (A := A) (re_P0 hA1 hA2) (fun e => ⟨by decide, by decide, by decide, by decide⟩) re_S_clr re_W0 re_n0
theorem i_vc_clear {k : Nat} {u : SX} {v : SY} (I : i_Rel k u v) (hk : k + 5 ≤ 2562) : wpX_clear (fun u' => wpY_clear (fun v' => i_Rel (k + 5) u' v') v) u := by
  obtain ⟨tc, sv, oc, yo, A, n, F, xth, xad, xco, xtr, xft, xfk, xfp, xds, xas, xcs, xfi, xwr, xwm, xbo, xor, xme, xvr, xok, xlr, xps, yrd, ywr, yaq, yrl, yon, yok, yle, ysh, yor, ybo, yme, ygo, rfl, rfl, hP, hT, hS, hW, hO⟩ := I
  unfold wpX_clear
  refine xw_rem ?_
  refine yw_clr ?_
  exact re_mk (n := 0) (F := 0) (mu_clr hP) hT re_S_clr (re_W_clr hW) re_n0
end
section
/-! the calls that build a program, and the wishes -/
section
variable {tc ac ec fc sv oc : Int32} {xth xad xco xtr xft xfk xfp xds xas xcs xfi xwr xwm xbo xor xme xvr xlr : Nat → Int32} {xok xps : Nat → Int64} {yt ya yn yf ys yo : Int32} {yth yad yco yrd ywr yaq yrl yon yft yfk yfp yfi ywe ywm yle ysh yor ybo yme ygo : Nat → Int32} {yok : Nat → Int64} {A n F k : Nat}
theorem rf_both (t x mk gm : Int32) (hn : n ≤ 6) (hA : A ≤ 3) :
    (∃ c : Int32, ¬ c = 0 ∧ ¬ 0 ≤ c ∧ (∀ post : Int32 → Prop, post c → wpX_refusalOfEvent post (tc, nI A, nI n, fc, sv, oc, xth, xad, xco, xtr, xft, xfk, xfp, xds, xas, xcs, xfi, xwr, xwm, xbo, xor, xme, xvr, xok, xlr, xps) t x mk gm) ∧ (∀ post : Int32 → Prop, post c → wpY_refuse post (tc, nI A, nI n, yf, ys, yo, yth, yad, yco, yrd, ywr, yaq, yrl, yon, yft, yfk, yfp, yfi, ywe, ywm, yok, yle, ysh, yor, ybo, yme, ygo) t x mk gm))
    ∨ (n < 6 ∧ (∃ j, j < A ∧ x = nI j) ∧ ¬ mk < 0 ∧ mk ≤ gm ∧ (∀ post : Int32 → Prop, post 0 → wpX_refusalOfEvent post (tc, nI A, nI n, fc, sv, oc, xth, xad, xco, xtr, xft, xfk, xfp, xds, xas, xcs, xfi, xwr, xwm, xbo, xor, xme, xvr, xok, xlr, xps) t x mk gm) ∧ (∀ post : Int32 → Prop, post 0 → wpY_refuse post (tc, nI A, nI n, yf, ys, yo, yth, yad, yco, yrd, ywr, yaq, yrl, yon, yft, yfk, yfp, yfi, ywe, ywm, yok, yle, ysh, yor, ybo, yme, ygo) t x mk gm)) := by
  by_cases t0 : t < 0
  · refine Or.inl ⟨-1, by decide, by decide, fun post hp => ?_, fun post hp => ?_⟩
    · unfold wpX_refusalOfEvent
      exact xr_thN (Or.inl t0) (br_t rfl hp)
    · unfold wpY_refuse
      exact br_t t0 hp
  by_cases t1 : tc ≤ t
  · refine Or.inl ⟨-1, by decide, by decide, fun post hp => ?_, fun post hp => ?_⟩
    · unfold wpX_refusalOfEvent
      exact xr_thN (Or.inr t1) (br_t rfl hp)
    · unfold wpY_refuse
      exact br_f t0 (br_f (Int32.not_lt.mpr t1) hp)
  have t2 : t < tc := Int32.not_le.mp t1
  by_cases x0 : x < 0
  · refine Or.inl ⟨-2, by decide, by decide, fun post hp => ?_, fun post hp => ?_⟩
    · unfold wpX_refusalOfEvent
      exact xr_thY t0 t1 (br_f x1_0 (xr_adN (Or.inl x0) (br_t rfl hp)))
    · unfold wpY_refuse
      exact br_f t0 (br_t t2 (br_t x0 hp))
  by_cases x1 : nI A ≤ x
  · refine Or.inl ⟨-2, by decide, by decide, fun post hp => ?_, fun post hp => ?_⟩
    · unfold wpX_refusalOfEvent
      exact xr_thY t0 t1 (br_f x1_0 (xr_adN (Or.inr x1) (br_t rfl hp)))
    · unfold wpY_refuse
      exact br_f t0 (br_t t2 (br_f x0 (br_f (Int32.not_lt.mpr x1) hp)))
  have x2 : x < nI A := Int32.not_le.mp x1
  by_cases m0 : mk < 0
  · refine Or.inl ⟨-3, by decide, by decide, fun post hp => ?_, fun post hp => ?_⟩
    · unfold wpX_refusalOfEvent
      exact xr_thY t0 t1 (br_f x1_0 (xr_adY x0 x1 (br_f x1_0 (br_t m0 hp))))
    · unfold wpY_refuse
      exact br_f t0 (br_t t2 (br_f x0 (br_t x2 (br_t m0 hp))))
  by_cases m1 : mk ≤ gm
  · by_cases c : n < 6
    · refine Or.inr ⟨c, ?_, m0, m1, fun post hp => ?_, fun post hp => ?_⟩
      · rcases pk_ix x (n := A) (by omega) with z | z | z
        · exact absurd z x0
        · exact absurd z x1
        · exact z
      · unfold wpX_refusalOfEvent
        exact xr_thY t0 t1 (br_f x1_0 (xr_adY x0 x1 (br_f x1_0 (br_f m0 (br_t m1 (br_t (nI_lt (b := 6) c (by decide)) hp))))))
      · unfold wpY_refuse
        refine br_f t0 (br_t t2 (br_f x0 (br_t x2 (br_f m0 (br_t m1 (br_f ?_ hp))))))
        rw [show (6 : Int32) = nI 6 from rfl, nI_eq (by omega) (by decide)]; omega
    · have e : n = 6 := by omega
      subst e
      refine Or.inl ⟨-4, by decide, by decide, fun post hp => ?_, fun post hp => ?_⟩
      · unfold wpX_refusalOfEvent
        exact xr_thY t0 t1 (br_f x1_0 (xr_adY x0 x1 (br_f x1_0 (br_f m0 (br_t m1 (br_f (by decide) hp))))))
      · unfold wpY_refuse
        exact br_f t0 (br_t t2 (br_f x0 (br_t x2 (br_f m0 (br_t m1 (br_t rfl hp))))))
  · refine Or.inl ⟨-3, by decide, by decide, fun post hp => ?_, fun post hp => ?_⟩
    · unfold wpX_refusalOfEvent
      exact xr_thY t0 t1 (br_f x1_0 (xr_adY x0 x1 (br_f x1_0 (br_f m0 (br_f m1 hp)))))
    · unfold wpY_refuse
      exact br_f t0 (br_t t2 (br_f x0 (br_t x2 (br_f m0 (br_f m1 hp)))))
theorem xw_app {post : Int32 → SX → Prop} {p0 p1 p2 p3 : Int32} (hn : n < 6) (hp : post (nI n) (tc, ac, nI (n + 1), fc, 0, oc, upd xth n p0, upd xad n p1, upd xco n (p2 &&& 15), upd xtr n p3, xft, xfk, xfp, xds, xas, xcs, xfi, xwr, xwm, xbo, xor, xme, xvr, xok, xlr, xps)) : wpX_appendEvent post (tc, ac, nI n, fc, sv, oc, xth, xad, xco, xtr, xft, xfk, xfp, xds, xas, xcs, xfi, xwr, xwm, xbo, xor, xme, xvr, xok, xlr, xps) p0 p1 p2 p3 := by
  have v6 : vp_in (nI n) 6 := vp_in_nI hn (by omega)
  unfold wpX_appendEvent
  dsimp only
  rw [nI_clamp (show n < 2 ^ 31 by omega)]
  exact ⟨v6, nm_e ⟨v6, nm_e ⟨v6, nm_e ⟨v6, nm_e (nm_r (nI_1 n) hp)⟩⟩⟩⟩
theorem yw_app {post : Int32 → SY → Prop} {p0 p1 p2 p3 p4 : Int32} (hn : n < 6) (hp : post (nI n) (yt, ya, nI (n + 1), yf, 0, yo, upd yth n p0, upd yad n p1, upd yco n (p2 &&& 15), upd yrd n (vp_nar .boolean p3), upd ywr n (vp_nar .boolean p4), upd yaq n (vp_nar .boolean 0), upd yrl n (vp_nar .boolean 0), yon, yft, yfk, yfp, yfi, ywe, ywm, yok, yle, ysh, yor, ybo, yme, ygo)) : wpY_append post (yt, ya, nI n, yf, ys, yo, yth, yad, yco, yrd, ywr, yaq, yrl, yon, yft, yfk, yfp, yfi, ywe, ywm, yok, yle, ysh, yor, ybo, yme, ygo) p0 p1 p2 p3 p4 := by
  have v6 : vp_in (nI n) 6 := vp_in_nI hn (by omega)
  unfold wpY_append
  dsimp only
  rw [nI_clamp (show n < 2 ^ 31 by omega)]
  refine ⟨v6, nm_e ⟨v6, nm_e ⟨v6, nm_e ⟨v6, nm_e ⟨v6, nm_e ⟨v6, nm_e ⟨v6, nm_e (nm_r (nI_1 n) ?_)⟩⟩⟩⟩⟩⟩⟩
  rw [nI_pred]; exact hp
theorem vc_app {t c tz : Int32} {x : Nat} {rd' wr' aq' rl' : Nat → Int32} (hP : mu_P n A F xth xad xco yrd ywr yaq yrl yon xfk xfi) (hT : re_T xtr yrd ywr yaq yrl) (hS : re_S xds xas xcs yon) (hW : re_W n A xwr xwm) (hn : n < 6) (hx : x < A)
    (hb : (tz &&& 1 = 0 ↔ rd' n = 0) ∧ (tz &&& 2 = 0 ↔ wr' n = 0) ∧ (tz &&& 4 = 0 ↔ aq' n = 0) ∧ (tz &&& 8 = 0 ↔ rl' n = 0))
    (hf : (rd' n = 0 ∨ rd' n = 1) ∧ (wr' n = 0 ∨ wr' n = 1) ∧ (aq' n = 0 ∨ aq' n = 1) ∧ (rl' n = 0 ∨ rl' n = 1))
    (ho : ∀ e, e ≠ n → rd' e = yrd e ∧ wr' e = ywr e ∧ aq' e = yaq e ∧ rl' e = yrl e) :
    i_Rel k (tc, nI A, nI (n + 1), nI F, 0, oc, upd xth n t, upd xad n (nI x), upd xco n c, upd xtr n tz, xft, xfk, xfp, xds, xas, xcs, xfi, xwr, xwm, xbo, xor, xme, xvr, xok, xlr, xps) (tc, nI A, nI (n + 1), nI F, 0, yo, upd xth n t, upd xad n (nI x), upd xco n c, rd', wr', aq', rl', yon, xft, xfk, xfp, xfi, xwr, xwm, yok, yle, ysh, yor, ybo, yme, ygo) :=
  re_mk (mu_app hP hn hx hf ho) (re_T_up (n := n) hT (by rw [pk_us]; exact hb) (fun e he => ⟨pk_un he, ho e he⟩)) hS (re_W_app hW) re_n0
theorem up2 {f : Nat → Int32} {j : Nat} {x y : Int32} : upd (upd f j x) j y j = y := pk_us
theorem up2n {f : Nat → Int32} {j e : Nat} {x y : Int32} (h : e ≠ j) : upd (upd f j x) j y e = f e := by rw [pk_un h, pk_un h]
end
theorem i_vc_load {k : Nat} {u : SX} {v : SY} (I : i_Rel k u v) (hk : k + 5 ≤ 2562) (v1 : Int32) (v2 : Int32) (v3 : Int32) : wpX_load (fun r u' => wpY_load (fun r' v' => r' = r ∧ i_Rel (k + 5) u' v') v v1 v2 v3) u v1 v2 v3 := by
  obtain ⟨tc, sv, oc, yo, A, n, F, xth, xad, xco, xtr, xft, xfk, xfp, xds, xas, xcs, xfi, xwr, xwm, xbo, xor, xme, xvr, xok, xlr, xps, yrd, ywr, yaq, yrl, yon, yok, yle, ysh, yor, ybo, yme, ygo, rfl, rfl, hP, hT, hS, hW, hO⟩ := I
  have hh := hP.1
  unfold wpX_load
  rcases rf_both v1 v2 v3 1 hh.1 hh.2.2.1 with ⟨c, c1, c2, hX, hY⟩ | ⟨hn, ⟨x, hx, rfl⟩, m0, m1, hX, hY⟩
  · refine hX _ (br_f c1 ?_)
    unfold wpY_load
    exact hY _ (br_f c2 ⟨rfl, re_mk hP hT hS hW hO⟩)
  · have v6 : vp_in (nI n) 6 := vp_in_nI hn (by omega)
    refine hX _ (br_t rfl (br_c (fun e => ?_) (fun e => ?_)))
    · unfold wX_load_28
      refine xw_app hn ?_
      unfold wpY_load
      refine hY _ (br_t (by decide) (yw_app hn (br_t e ⟨v6, ?_⟩)))
      rw [nI_clamp (show n < 2 ^ 31 by omega)]
      refine nm_e ⟨rfl, vc_app hP hT hS hW hn hx ?_ ?_ (fun e he => ⟨pk_un he, pk_un he, up2n he, pk_un he⟩)⟩
      · rw [up2, pk_us, pk_us, pk_us]; decide
      · rw [up2, pk_us, pk_us, pk_us]; decide
    · unfold wX_load_28
      refine xw_app hn ?_
      unfold wpY_load
      refine hY _ (br_t (by decide) (yw_app hn (br_f e ⟨v6, ?_⟩)))
      rw [nI_clamp (show n < 2 ^ 31 by omega)]
      refine nm_e ⟨rfl, vc_app hP hT hS hW hn hx ?_ ?_ (fun e he => ⟨pk_un he, pk_un he, up2n he, pk_un he⟩)⟩
      · rw [up2, pk_us, pk_us, pk_us]; decide
      · rw [up2, pk_us, pk_us, pk_us]; decide
theorem i_vc_store {k : Nat} {u : SX} {v : SY} (I : i_Rel k u v) (hk : k + 5 ≤ 2562) (v1 : Int32) (v2 : Int32) (v3 : Int32) (v4 : Int32) : wpX_store (fun r u' => wpY_store (fun r' v' => r' = r ∧ i_Rel (k + 5) u' v') v v1 v2 v3 v4) u v1 v2 v3 v4 := by
  obtain ⟨tc, sv, oc, yo, A, n, F, xth, xad, xco, xtr, xft, xfk, xfp, xds, xas, xcs, xfi, xwr, xwm, xbo, xor, xme, xvr, xok, xlr, xps, yrd, ywr, yaq, yrl, yon, yok, yle, ysh, yor, ybo, yme, ygo, rfl, rfl, hP, hT, hS, hW, hO⟩ := I
  have hh := hP.1
  unfold wpX_store
  rcases rf_both v1 v2 v4 1 hh.1 hh.2.2.1 with ⟨c, c1, c2, hX, hY⟩ | ⟨hn, ⟨x, hx, rfl⟩, m0, m1, hX, hY⟩
  · refine hX _ (br_f c1 ?_)
    unfold wpY_store
    exact hY _ (br_f c2 ⟨rfl, re_mk hP hT hS hW hO⟩)
  · have v6 : vp_in (nI n) 6 := vp_in_nI hn (by omega)
    refine hX _ (br_t rfl (br_c (fun e => ?_) (fun e => ?_)))
    · unfold wX_store_31
      refine xw_app hn ?_
      unfold wpY_store
      refine hY _ (br_t (by decide) (yw_app hn (br_t e ⟨v6, ?_⟩)))
      rw [nI_clamp (show n < 2 ^ 31 by omega)]
      refine nm_e ⟨rfl, vc_app hP hT hS hW hn hx ?_ ?_ (fun e he => ⟨pk_un he, pk_un he, pk_un he, up2n he⟩)⟩
      · rw [up2, pk_us, pk_us, pk_us]; decide
      · rw [up2, pk_us, pk_us, pk_us]; decide
    · unfold wX_store_31
      refine xw_app hn ?_
      unfold wpY_store
      refine hY _ (br_t (by decide) (yw_app hn (br_f e ⟨v6, ?_⟩)))
      rw [nI_clamp (show n < 2 ^ 31 by omega)]
      refine nm_e ⟨rfl, vc_app hP hT hS hW hn hx ?_ ?_ (fun e he => ⟨pk_un he, pk_un he, pk_un he, up2n he⟩)⟩
      · rw [up2, pk_us, pk_us, pk_us]; decide
      · rw [up2, pk_us, pk_us, pk_us]; decide
theorem i_vc_add {k : Nat} {u : SX} {v : SY} (I : i_Rel k u v) (hk : k + 5 ≤ 2562) (v1 : Int32) (v2 : Int32) (v3 : Int32) (v4 : Int32) : wpX_add (fun r u' => wpY_add (fun r' v' => r' = r ∧ i_Rel (k + 5) u' v') v v1 v2 v3 v4) u v1 v2 v3 v4 := by
  obtain ⟨tc, sv, oc, yo, A, n, F, xth, xad, xco, xtr, xft, xfk, xfp, xds, xas, xcs, xfi, xwr, xwm, xbo, xor, xme, xvr, xok, xlr, xps, yrd, ywr, yaq, yrl, yon, yok, yle, ysh, yor, ybo, yme, ygo, rfl, rfl, hP, hT, hS, hW, hO⟩ := I
  have hh := hP.1
  unfold wpX_add
  rcases rf_both v1 v2 v4 3 hh.1 hh.2.2.1 with ⟨c, c1, c2, hX, hY⟩ | ⟨hn, ⟨x, hx, rfl⟩, m0, m1, hX, hY⟩
  · refine hX _ (br_f c1 ?_)
    unfold wpY_add
    exact hY _ (br_f c2 ⟨rfl, re_mk hP hT hS hW hO⟩)
  · have v6 : vp_in (nI n) 6 := vp_in_nI hn (by omega)
    have cn : (nI n).toNatClampNeg = n := nI_clamp (by omega)
    obtain ⟨j, hj, rfl⟩ := nI_of2 (n := 3) (show (3 : Int32).toInt = ((3 : Nat) : Int) by decide) m0 m1
    have hj4 : j = 0 ∨ j = 1 ∨ j = 2 ∨ j = 3 := by omega
    rcases hj4 with rfl | rfl | rfl | rfl
    · refine hX _ (br_t rfl (br_t (by decide) ?_))
      unfold wX_add_31
      refine br_t (by decide) ?_
      unfold wX_add_46
      refine xw_app hn ?_
      unfold wpY_add
      refine hY _ (br_t (by decide) (yw_app hn (br_f (by decide) (br_f (by decide) ?_))))
      unfold wY_add_53
      rw [cn]
      refine ⟨v6, nm_e (br_f (by decide) (br_f (by decide) ⟨v6, ?_⟩))⟩
      refine nm_e ⟨rfl, vc_app hP hT hS hW hn hx ?_ ?_ (fun e he => ⟨pk_un he, pk_un he, up2n he, up2n he⟩)⟩
      · rw [up2, up2, pk_us, pk_us]; decide
      · rw [up2, up2, pk_us, pk_us]; decide
    · refine hX _ (br_t rfl (br_f (by decide) ?_))
      unfold wX_add_31
      refine br_t (by decide) ?_
      unfold wX_add_46
      refine xw_app hn ?_
      unfold wpY_add
      refine hY _ (br_t (by decide) (yw_app hn (br_t (by decide) ?_)))
      unfold wY_add_48
      unfold wY_add_53
      rw [cn]
      refine ⟨v6, nm_e (br_f (by decide) (br_f (by decide) ⟨v6, ?_⟩))⟩
      refine nm_e ⟨rfl, vc_app hP hT hS hW hn hx ?_ ?_ (fun e he => ⟨pk_un he, pk_un he, up2n he, up2n he⟩)⟩
      · rw [up2, up2, pk_us, pk_us]; decide
      · rw [up2, up2, pk_us, pk_us]; decide
    · refine hX _ (br_t rfl (br_t (by decide) ?_))
      unfold wX_add_31
      refine br_f (by decide) ?_
      unfold wX_add_46
      refine xw_app hn ?_
      unfold wpY_add
      refine hY _ (br_t (by decide) (yw_app hn (br_f (by decide) (br_f (by decide) ?_))))
      unfold wY_add_53
      rw [cn]
      refine ⟨v6, nm_e (br_t (by decide) ⟨v6, ?_⟩)⟩
      refine nm_e ⟨rfl, vc_app hP hT hS hW hn hx ?_ ?_ (fun e he => ⟨pk_un he, pk_un he, up2n he, up2n he⟩)⟩
      · rw [up2, up2, pk_us, pk_us]; decide
      · rw [up2, up2, pk_us, pk_us]; decide
    · refine hX _ (br_t rfl (br_f (by decide) ?_))
      unfold wX_add_31
      refine br_f (by decide) ?_
      unfold wX_add_46
      refine xw_app hn ?_
      unfold wpY_add
      refine hY _ (br_t (by decide) (yw_app hn (br_f (by decide) (br_t (by decide) ?_))))
      unfold wY_add_48
      unfold wY_add_53
      rw [cn]
      refine ⟨v6, nm_e (br_f (by decide) (br_t (by decide) ⟨v6, ?_⟩))⟩
      refine nm_e ⟨rfl, vc_app hP hT hS hW hn hx ?_ ?_ (fun e he => ⟨pk_un he, pk_un he, up2n he, up2n he⟩)⟩
      · rw [up2, up2, pk_us, pk_us]; decide
      · rw [up2, up2, pk_us, pk_us]; decide
theorem i_vc_fence {k : Nat} {u : SX} {v : SY} (I : i_Rel k u v) (hk : k + 5 ≤ 2562) (v1 : Int32) (v2 : Int32) : wpX_fence (fun r u' => wpY_fence (fun r' v' => r' = r ∧ i_Rel (k + 5) u' v') v v1 v2) u v1 v2 := by
  obtain ⟨tc, sv, oc, yo, A, n, F, xth, xad, xco, xtr, xft, xfk, xfp, xds, xas, xcs, xfi, xwr, xwm, xbo, xor, xme, xvr, xok, xlr, xps, yrd, ywr, yaq, yrl, yon, yok, yle, ysh, yor, ybo, yme, ygo, rfl, rfl, hP, hT, hS, hW, hO⟩ := I
  have hh := hP.1
  unfold wpX_fence
  by_cases t0 : v1 < 0
  · refine xr_thN (Or.inl t0) (br_t rfl ?_)
    unfold wpY_fence
    exact br_t t0 ⟨rfl, re_mk hP hT hS hW hO⟩
  by_cases t1 : tc ≤ v1
  · refine xr_thN (Or.inr t1) (br_t rfl ?_)
    unfold wpY_fence
    exact br_f t0 (br_f (Int32.not_lt.mpr t1) ⟨rfl, re_mk hP hT hS hW hO⟩)
  have t2 : v1 < tc := Int32.not_le.mp t1
  refine xr_thY t0 t1 (br_f x1_0 ?_)
  have main : (v2 = 1 ∨ v2 = 2 ∨ v2 = 3) → wX_fence_28 (fun r u' => wpY_fence (fun r' v' => r' = r ∧ i_Rel (k + 5) u' v') (tc, nI A, nI n, nI F, sv, yo, xth, xad, xco, yrd, ywr, yaq, yrl, yon, xft, xfk, xfp, xfi, xwr, xwm, yok, yle, ysh, yor, ybo, yme, ygo) v1 v2) v1 v2 tc (nI A) (nI n) (nI F) sv oc xth xad xco xtr xft xfk xfp xds xas xcs xfi xwr xwm xbo xor xme xvr xok xlr xps := by
    intro h
    have g1 : ¬ v2 < 1 := by rcases h with rfl | rfl | rfl <;> decide
    have g2 : v2 ≤ 3 := by rcases h with rfl | rfl | rfl <;> decide
    unfold wX_fence_28
    by_cases c : F < 8
    · have v8 : vp_in (nI F) 8 := vp_in_nI c (by omega)
      have cF : (nI F).toNatClampNeg = F := nI_clamp (by omega)
      refine br_t (nI_lt (b := 8) c (by decide)) ?_
      rw [cF]
      refine ⟨v8, nm_e ⟨v8, nm_e ⟨v8, nm_e (nm_r (nI_1 F) ?_)⟩⟩⟩
      unfold wpY_fence
      refine br_f t0 (br_t t2 (br_f g1 (br_t g2 (br_f ?_ ?_))))
      · rw [show (8 : Int32) = nI 8 from rfl, nI_eq (by omega) (by decide)]; omega
      · rw [cF]
        refine ⟨v8, nm_e ⟨v8, nm_e ⟨v8, nm_e (nm_r (nI_1 F) ⟨nI_pred F, ?_⟩)⟩⟩⟩
        exact re_mk (F := F + 1) (mu_fen hP c h) hT hS hW re_n0
    · have e : F = 8 := by omega
      subst e
      refine br_f (by decide) ?_
      unfold wpY_fence
      exact br_f t0 (br_t t2 (br_f g1 (br_t g2 (br_t rfl ⟨rfl, re_mk hP hT hS hW hO⟩))))
  refine br_c (fun e1 => main (Or.inl e1)) (fun e1 => br_c (fun e2 => main (Or.inr (Or.inl e2))) (fun e2 => br_c (fun e3 => main (Or.inr (Or.inr e3))) (fun e3 => ?_)))
  unfold wpY_fence
  by_cases g1 : v2 < 1
  · exact br_f t0 (br_t t2 (br_t g1 ⟨rfl, re_mk hP hT hS hW hO⟩))
  · by_cases g2 : v2 ≤ 3
    · exfalso
      have c0 : ¬ v2 < 0 := fun z => g1 (Int32.lt_trans z (by decide))
      obtain ⟨j, hj, rfl⟩ := nI_of2 (n := 3) (show (3 : Int32).toInt = ((3 : Nat) : Int) by decide) c0 g2
      have hj4 : j = 0 ∨ j = 1 ∨ j = 2 ∨ j = 3 := by omega
      rcases hj4 with rfl | rfl | rfl | rfl
      · exact g1 (by decide)
      · exact e1 rfl
      · exact e2 rfl
      · exact e3 rfl
    · exact br_f t0 (br_t t2 (br_f g1 (br_f g2 ⟨rfl, re_mk hP hT hS hW hO⟩)))
theorem i_vc_initial {k : Nat} {u : SX} {v : SY} (I : i_Rel k u v) (hk : k + 5 ≤ 2562) (v1 : Int32) (v2 : Int32) : wpX_initial (fun r u' => wpY_initial (fun r' v' => r' = r ∧ i_Rel (k + 5) u' v') v v1 v2) u v1 v2 := by
  obtain ⟨tc, sv, oc, yo, A, n, F, xth, xad, xco, xtr, xft, xfk, xfp, xds, xas, xcs, xfi, xwr, xwm, xbo, xor, xme, xvr, xok, xlr, xps, yrd, ywr, yaq, yrl, yon, yok, yle, ysh, yor, ybo, yme, ygo, rfl, rfl, hP, hT, hS, hW, hO⟩ := I
  have hh := hP.1
  unfold wpX_initial
  rcases pk_ix v1 (n := A) (by omega) with z | z | ⟨x, hx, rfl⟩
  · refine xr_adN (Or.inl z) (br_t rfl ?_)
    unfold wpY_initial
    exact br_t z ⟨rfl, re_mk hP hT hS hW hO⟩
  · refine xr_adN (Or.inr z) (br_t rfl ?_)
    unfold wpY_initial
    by_cases c : v1 < 0
    · exact br_t c ⟨rfl, re_mk hP hT hS hW hO⟩
    · exact br_f c (br_f (Int32.not_lt.mpr z) ⟨rfl, re_mk hP hT hS hW hO⟩)
  · have v3 : vp_in (nI x) 3 := vp_in_nI (by omega) (by omega)
    obtain ⟨j, hj, ej⟩ := pk_andE v2 (m := 15) 4 (by decide)
    refine xr_adY (nI_pos (by omega)) (nI_ge hx (by omega)) (br_f x1_0 ⟨v3, ?_⟩)
    rw [nI_clamp (show x < 2 ^ 31 by omega), ej]
    refine nm_e ?_
    unfold wpY_initial
    refine br_f (nI_pos (by omega)) (br_t (nI_lt hx (by omega)) ⟨v3, ?_⟩)
    rw [nI_clamp (show x < 2 ^ 31 by omega), ej]
    exact nm_e ⟨rfl, re_mk (mu_ini hP hx hj) hT hS hW re_n0⟩
theorem vc_wv (v : Int32) : ∀ z, (z = -1 ∨ z = v &&& 15) → (z = -1 ∨ ∃ j, j < 16 ∧ z = nI j) := by
  intro z h
  rcases h with h | h
  · exact Or.inl h
  · obtain ⟨j, hj, ej⟩ := pk_andE v (m := 15) 4 (by decide)
    exact Or.inr ⟨j, hj, h.trans ej⟩
theorem i_vc_wantMemory {k : Nat} {u : SX} {v : SY} (I : i_Rel k u v) (hk : k + 5 ≤ 2562) (v1 : Int32) (v2 : Int32) : wpX_wantMemory (fun r u' => wpY_wantMemory (fun r' v' => r' = r ∧ i_Rel (k + 5) u' v') v v1 v2) u v1 v2 := by
  obtain ⟨tc, sv, oc, yo, A, n, F, xth, xad, xco, xtr, xft, xfk, xfp, xds, xas, xcs, xfi, xwr, xwm, xbo, xor, xme, xvr, xok, xlr, xps, yrd, ywr, yaq, yrl, yon, yok, yle, ysh, yor, ybo, yme, ygo, rfl, rfl, hP, hT, hS, hW, hO⟩ := I
  have hh := hP.1
  unfold wpX_wantMemory
  rcases pk_ix v1 (n := A) (by omega) with z | z | ⟨x, hx, rfl⟩
  · refine xr_adN (Or.inl z) (br_t rfl ?_)
    unfold wpY_wantMemory
    exact br_t z ⟨rfl, re_mk hP hT hS hW hO⟩
  · refine xr_adN (Or.inr z) (br_t rfl ?_)
    unfold wpY_wantMemory
    by_cases c : v1 < 0
    · exact br_t c ⟨rfl, re_mk hP hT hS hW hO⟩
    · exact br_f c (br_f (Int32.not_lt.mpr z) ⟨rfl, re_mk hP hT hS hW hO⟩)
  · have v3 : vp_in (nI x) 3 := vp_in_nI (by omega) (by omega)
    have cx : (nI x).toNatClampNeg = x := nI_clamp (by omega)
    refine xr_adY (nI_pos (by omega)) (nI_ge hx (by omega)) (br_f x1_0 ?_)
    unfold wpY_wantMemory
    rw [cx]
    by_cases c : 0 ≤ v2
    · exact br_t c ⟨v3, nm_e (br_f (nI_pos (by omega)) (br_t (nI_lt hx (by omega)) (br_t c ⟨v3, nm_e ⟨rfl, re_mk hP hT hS (re_W_m hW hx (vc_wv v2 _ (Or.inr rfl))) hO⟩⟩)))⟩
    · exact br_f c ⟨v3, nm_e (br_f (nI_pos (by omega)) (br_t (nI_lt hx (by omega)) (br_f c ⟨v3, nm_e ⟨rfl, re_mk hP hT hS (re_W_m hW hx (vc_wv v2 _ (Or.inl rfl))) hO⟩⟩)))⟩
theorem i_vc_wantRead {k : Nat} {u : SX} {v : SY} (I : i_Rel k u v) (hk : k + 5 ≤ 2562) (v1 : Int32) (v2 : Int32) : wpX_wantRead (fun r u' => wpY_wantRead (fun r' v' => r' = r ∧ i_Rel (k + 5) u' v') v v1 v2) u v1 v2 := by
  obtain ⟨tc, sv, oc, yo, A, n, F, xth, xad, xco, xtr, xft, xfk, xfp, xds, xas, xcs, xfi, xwr, xwm, xbo, xor, xme, xvr, xok, xlr, xps, yrd, ywr, yaq, yrl, yon, yok, yle, ysh, yor, ybo, yme, ygo, rfl, rfl, hP, hT, hS, hW, hO⟩ := I
  have hh := hP.1
  unfold wpX_wantRead
  rcases pk_ix v1 (n := n) (by omega) with z | z | ⟨e, he, rfl⟩
  · refine xr_evN (Or.inl z) (br_t rfl ?_)
    unfold wpY_wantRead
    exact yr_evN (Or.inl z) (br_t rfl ⟨rfl, re_mk hP hT hS hW hO⟩)
  · refine xr_evN (Or.inr z) (br_t rfl ?_)
    unfold wpY_wantRead
    exact yr_evN (Or.inr z) (br_t rfl ⟨rfl, re_mk hP hT hS hW hO⟩)
  · have v6 : vp_in (nI e) 6 := vp_in_nI (by omega) (by omega)
    have ce : (nI e).toNatClampNeg = e := nI_clamp (by omega)
    refine xr_evY hh.1 he (br_f x1_0 (xr_rd hT (by omega) (fun c => br_t rfl ?_) (fun c => br_f x1_0 ?_)))
    · unfold wpY_wantRead
      rw [ce]
      exact yr_evY hh.1 he (br_f x1_0 ⟨v6, br_t c ⟨rfl, re_mk hP hT hS hW hO⟩⟩)
    · unfold wpY_wantRead
      rw [ce]
      by_cases d : 0 ≤ v2
      · exact br_t d ⟨v6, nm_e (yr_evY hh.1 he (br_f x1_0 ⟨v6, br_f c (br_t d ⟨v6, nm_e ⟨rfl, re_mk hP hT hS (re_W_r hW he (vc_wv v2 _ (Or.inr rfl))) hO⟩⟩)⟩))⟩
      · exact br_f d ⟨v6, nm_e (yr_evY hh.1 he (br_f x1_0 ⟨v6, br_f c (br_f d ⟨v6, nm_e ⟨rfl, re_mk hP hT hS (re_W_r hW he (vc_wv v2 _ (Or.inl rfl))) hO⟩⟩)⟩))⟩
theorem i_vc_events {k : Nat} {u : SX} {v : SY} (I : i_Rel k u v) (hk : k + 5 ≤ 2562) : wpX_events (fun r => wpY_events (fun r' => r' = r ∧ i_Rel (k + 5) u v) v) u := by
  obtain ⟨tc, sv, oc, yo, A, n, F, xth, xad, xco, xtr, xft, xfk, xfp, xds, xas, xcs, xfi, xwr, xwm, xbo, xor, xme, xvr, xok, xlr, xps, yrd, ywr, yaq, yrl, yon, yok, yle, ysh, yor, ybo, yme, ygo, rfl, rfl, hP, hT, hS, hW, hO⟩ := I
  unfold wpX_events wpY_events
  exact ⟨rfl, re_mk hP hT hS hW hO⟩
end
section
/-! depend; what was solved; the questions -/
section
variable {tc ac ec fc sv oc : Int32} {xth xad xco xtr xft xfk xfp xds xas xcs xfi xwr xwm xbo xor xme xvr xlr : Nat → Int32} {xok xps : Nat → Int64} {yt ya yn yf ys yo : Int32} {yth yad yco yrd ywr yaq yrl yon yft yfk yfp yfi ywe ywm yle ysh yor ybo yme ygo : Nat → Int32} {yok : Nat → Int64} {A n F k e l : Nat}
theorem xw_lnk {post : Int32 → SX → Prop} (hl : l < 6)
    (h0 : xds l = -1 → post 0 (tc, ac, ec, fc, 0, oc, xth, xad, xco, xtr, xft, xfk, xfp, upd xds l (nI e), xas, xcs, xfi, xwr, xwm, xbo, xor, xme, xvr, xok, xlr, xps)) (h1 : ¬ xds l = -1 → post (-7) (tc, ac, ec, fc, sv, oc, xth, xad, xco, xtr, xft, xfk, xfp, xds, xas, xcs, xfi, xwr, xwm, xbo, xor, xme, xvr, xok, xlr, xps)) : wpX_link__dataSource post (tc, ac, ec, fc, sv, oc, xth, xad, xco, xtr, xft, xfk, xfp, xds, xas, xcs, xfi, xwr, xwm, xbo, xor, xme, xvr, xok, xlr, xps) (nI l) (nI e) := by
  have v6 : vp_in (nI l) 6 := vp_in_nI (by omega) (by omega)
  unfold wpX_link__dataSource
  dsimp only
  rw [nI_clamp (show l < 2 ^ 31 by omega)]
  exact ⟨v6, br_c (fun c => ⟨v6, nm_e (h0 c)⟩) h1⟩
theorem xw_lnk2 {post : Int32 → SX → Prop} (hl : l < 6)
    (h0 : xas l = -1 → post 0 (tc, ac, ec, fc, 0, oc, xth, xad, xco, xtr, xft, xfk, xfp, xds, upd xas l (nI e), xcs, xfi, xwr, xwm, xbo, xor, xme, xvr, xok, xlr, xps)) (h1 : ¬ xas l = -1 → post (-7) (tc, ac, ec, fc, sv, oc, xth, xad, xco, xtr, xft, xfk, xfp, xds, xas, xcs, xfi, xwr, xwm, xbo, xor, xme, xvr, xok, xlr, xps)) : wpX_link__addressSource post (tc, ac, ec, fc, sv, oc, xth, xad, xco, xtr, xft, xfk, xfp, xds, xas, xcs, xfi, xwr, xwm, xbo, xor, xme, xvr, xok, xlr, xps) (nI l) (nI e) := by
  have v6 : vp_in (nI l) 6 := vp_in_nI (by omega) (by omega)
  unfold wpX_link__addressSource
  dsimp only
  rw [nI_clamp (show l < 2 ^ 31 by omega)]
  exact ⟨v6, br_c (fun c => ⟨v6, nm_e (h0 c)⟩) h1⟩
theorem xw_lnk3 {post : Int32 → SX → Prop} (hl : l < 6)
    (h0 : xcs l = -1 → post 0 (tc, ac, ec, fc, 0, oc, xth, xad, xco, xtr, xft, xfk, xfp, xds, xas, upd xcs l (nI e), xfi, xwr, xwm, xbo, xor, xme, xvr, xok, xlr, xps)) (h1 : ¬ xcs l = -1 → post (-7) (tc, ac, ec, fc, sv, oc, xth, xad, xco, xtr, xft, xfk, xfp, xds, xas, xcs, xfi, xwr, xwm, xbo, xor, xme, xvr, xok, xlr, xps)) : wpX_link__controlSource post (tc, ac, ec, fc, sv, oc, xth, xad, xco, xtr, xft, xfk, xfp, xds, xas, xcs, xfi, xwr, xwm, xbo, xor, xme, xvr, xok, xlr, xps) (nI l) (nI e) := by
  have v6 : vp_in (nI l) 6 := vp_in_nI (by omega) (by omega)
  unfold wpX_link__controlSource
  dsimp only
  rw [nI_clamp (show l < 2 ^ 31 by omega)]
  exact ⟨v6, br_c (fun c => ⟨v6, nm_e (h0 c)⟩) h1⟩
theorem yw_81 {post : Int32 → SY → Prop} {c : Nat} (hl : l < 6) (hc : c ≤ 3) (h0 : yon (4 * l + c) < 0 → post 0 (yt, ya, yn, yf, 0, yo, yth, yad, yco, yrd, ywr, yaq, yrl, upd yon (4 * l + c) (nI e), yft, yfk, yfp, yfi, ywe, ywm, yok, yle, ysh, yor, ybo, yme, ygo)) (h1 : ¬ yon (4 * l + c) < 0 → post (-7) (yt, ya, yn, yf, ys, yo, yth, yad, yco, yrd, ywr, yaq, yrl, yon, yft, yfk, yfp, yfi, ywe, ywm, yok, yle, ysh, yor, ybo, yme, ygo)) : wY_depend_81 post (nI l) (nI e) (nI c) yt ya yn yf ys yo yth yad yco yrd ywr yaq yrl yon yft yfk yfp yfi ywe ywm yok yle ysh yor ybo yme ygo := by
  have v : vp_in (nI (4 * l + c)) 24 := vp_in_nI (by omega) (by omega)
  unfold wY_depend_81
  rw [nu_4, nI_clamp (show 4 * l + c < 2 ^ 31 by omega)]
  exact ⟨v, br_c (fun q => ⟨v, nm_e (h0 q)⟩) h1⟩
end
theorem vc_neg {n A F l c : Nat} {th ad co rd wr aq rl on fk fi : Nat → Int32} (hP : mu_P n A F th ad co rd wr aq rl on fk fi) (hl : l < n) (h1 : 1 ≤ c) (h2 : c ≤ 3) : on (4 * l + c) < 0 ↔ on (4 * l + c) = -1 := by
  have hh := hP.1
  rcases hP.2.2.2.1 l c hl h1 h2 with z | ⟨j, hj, z, _⟩
  · rw [z]; decide
  · rw [z]
    exact ⟨fun q => absurd q (nI_pos (by omega)), fun q => absurd q (nu_m1 j (by omega))⟩
theorem i_vc_depend {k : Nat} {u : SX} {v : SY} (I : i_Rel k u v) (hk : k + 5 ≤ 2562) (v1 : Int32) (v2 : Int32) (v3 : Int32) : wpX_depend (fun r u' => wpY_depend (fun r' v' => r' = r ∧ i_Rel (k + 5) u' v') v v1 v2 v3) u v1 v2 v3 := by
  obtain ⟨tc, sv, oc, yo, A, n, F, xth, xad, xco, xtr, xft, xfk, xfp, xds, xas, xcs, xfi, xwr, xwm, xbo, xor, xme, xvr, xok, xlr, xps, yrd, ywr, yaq, yrl, yon, yok, yle, ysh, yor, ybo, yme, ygo, rfl, rfl, hP, hT, hS, hW, hO⟩ := I
  have hh := hP.1
  have bad : ∀ r : Int32, r = r ∧ i_Rel (k + 5) (tc, nI A, nI n, nI F, sv, oc, xth, xad, xco, xtr, xft, xfk, xfp, xds, xas, xcs, xfi, xwr, xwm, xbo, xor, xme, xvr, xok, xlr, xps) (tc, nI A, nI n, nI F, sv, yo, xth, xad, xco, yrd, ywr, yaq, yrl, yon, xft, xfk, xfp, xfi, xwr, xwm, yok, yle, ysh, yor, ybo, yme, ygo) := fun r => ⟨rfl, re_mk hP hT hS hW hO⟩
  unfold wpX_depend
  rcases pk_ix v1 (n := n) (by omega) with z | z | ⟨l, hl, rfl⟩
  · refine xr_evN (Or.inl z) (br_t rfl ?_)
    unfold wpY_depend
    exact yr_evN (Or.inl z) (br_t rfl (bad _))
  · refine xr_evN (Or.inr z) (br_t rfl ?_)
    unfold wpY_depend
    exact yr_evN (Or.inr z) (br_t rfl (bad _))
  refine xr_evY hh.1 hl (br_f x1_0 ?_)
  rcases pk_ix v2 (n := n) (by omega) with z | z | ⟨e, he, rfl⟩
  · refine xr_evN (Or.inl z) (br_t rfl ?_)
    unfold wpY_depend
    exact yr_evY hh.1 hl (br_f x1_0 (yr_evN (Or.inl z) (br_t rfl (bad _))))
  · refine xr_evN (Or.inr z) (br_t rfl ?_)
    unfold wpY_depend
    exact yr_evY hh.1 hl (br_f x1_0 (yr_evN (Or.inr z) (br_t rfl (bad _))))
  refine xr_evY hh.1 he (br_f x1_0 ?_)
  have vl : vp_in (nI l) 6 := vp_in_nI (by omega) (by omega)
  have ve : vp_in (nI e) 6 := vp_in_nI (by omega) (by omega)
  have cl : (nI l).toNatClampNeg = l := nI_clamp (by omega)
  have ce : (nI e).toNatClampNeg = e := nI_clamp (by omega)
  rw [cl, ce]
  refine ⟨vl, ve, ?_⟩
  by_cases et : xth l = xth e
  rotate_left
  · refine br_f et ?_
    unfold wpY_depend
    rw [cl, ce]
    exact yr_evY hh.1 hl (br_f x1_0 (yr_evY hh.1 he (br_f x1_0 ⟨vl, ve, br_f et (bad _)⟩)))
  refine br_t et ?_
  by_cases el : nI l ≤ nI e
  · refine br_t el ?_
    unfold wpY_depend
    rw [cl, ce]
    exact yr_evY hh.1 hl (br_f x1_0 (yr_evY hh.1 he (br_f x1_0 ⟨vl, ve, br_t et (br_t el (bad _))⟩)))
  refine br_f el ?_
  have hel : e < l := by
    rw [nI_leI (by omega) (by omega)] at el
    omega
  refine xr_rd hT (by omega) (fun c => br_t rfl ?_) (fun c => br_f x1_0 ?_)
  · unfold wpY_depend
    rw [cl, ce]
    exact yr_evY hh.1 hl (br_f x1_0 (yr_evY hh.1 he (br_f x1_0 ⟨vl, ve, br_t et (br_f el ⟨ve, br_t c (bad _)⟩)⟩)))
  have hq := hS l (by omega)
  have yk : ∀ (P : Int32 → SY → Prop), (¬ v3 < 1 → v3 ≤ 3 → (v3 = 1 → ywr l = 0 → P (-6) (tc, nI A, nI n, nI F, sv, yo, xth, xad, xco, yrd, ywr, yaq, yrl, yon, xft, xfk, xfp, xfi, xwr, xwm, yok, yle, ysh, yor, ybo, yme, ygo)) ∧ ((v3 = 1 → ¬ ywr l = 0) → wY_depend_81 P (nI l) (nI e) v3 tc (nI A) (nI n) (nI F) sv yo xth xad xco yrd ywr yaq yrl yon xft xfk xfp xfi xwr xwm yok yle ysh yor ybo yme ygo)) → ((v3 < 1 ∨ ¬ v3 ≤ 3) → P (-3) (tc, nI A, nI n, nI F, sv, yo, xth, xad, xco, yrd, ywr, yaq, yrl, yon, xft, xfk, xfp, xfi, xwr, xwm, yok, yle, ysh, yor, ybo, yme, ygo)) → wpY_depend P (tc, nI A, nI n, nI F, sv, yo, xth, xad, xco, yrd, ywr, yaq, yrl, yon, xft, xfk, xfp, xfi, xwr, xwm, yok, yle, ysh, yor, ybo, yme, ygo) (nI l) (nI e) v3 := by
    intro P h1 h2
    unfold wpY_depend
    rw [cl, ce]
    refine yr_evY hh.1 hl (br_f x1_0 (yr_evY hh.1 he (br_f x1_0 ⟨vl, ve, br_t et (br_f el ⟨ve, br_f c ?_⟩)⟩)))
    by_cases g1 : v3 < 1
    · exact br_t g1 (h2 (Or.inl g1))
    by_cases g2 : v3 ≤ 3
    · refine br_f g1 (br_t g2 (br_c (fun e1 => ⟨vl, br_c (fun w => (h1 g1 g2).1 e1 w) (fun w => (h1 g1 g2).2 (fun _ => w))⟩) (fun e1 => (h1 g1 g2).2 (fun z => absurd z e1))))
    · exact br_f g1 (br_f g2 (h2 (Or.inr g2)))
  refine br_c (fun e1 => ?_) (fun e1 => br_c (fun e2 => ?_) (fun e2 => br_c (fun e3 => ?_) (fun e3 => ?_)))
  · subst e1
    unfold wX_depend_69
    refine br_t rfl (xr_wr hT (by omega) (fun w => br_t rfl (yk _ (fun _ _ => ⟨fun _ _ => bad _, fun z => absurd w (z rfl)⟩) (fun z => absurd z (by decide)))) (fun w => br_f x1_0 ?_))
    unfold wX_depend_86
    refine br_t rfl (xw_lnk (by omega) (fun d => yk _ (fun _ _ => ⟨fun _ z => absurd z w, fun _ => ?_⟩) (fun z => absurd z (by decide))) (fun d => yk _ (fun _ _ => ⟨fun _ z => absurd z w, fun _ => ?_⟩) (fun z => absurd z (by decide))))
    · rw [hq.1] at d
      refine yw_81 (c := 1) (by omega) (by omega) (fun q => ⟨rfl, re_mk (mu_dep hP hl hel et.symm (by omega) (by omega)) hT (re_S_up (k := 1) hS (by omega) (by omega) (by omega) (if_pos rfl).symm rfl rfl) hW re_n0⟩) (fun q => absurd ((vc_neg hP hl (by omega) (by omega)).mpr d) q)
    · rw [hq.1] at d
      exact yw_81 (c := 1) (by omega) (by omega) (fun q => absurd ((vc_neg hP hl (by omega) (by omega)).mp q) d) (fun q => bad _)
  · subst e2
    unfold wX_depend_69
    refine br_f (by decide) ?_
    unfold wX_depend_86
    refine br_f (by decide) (br_t rfl (xw_lnk2 (by omega) (fun d => yk _ (fun _ _ => ⟨fun z => absurd z (by decide), fun _ => ?_⟩) (fun z => absurd z (by decide))) (fun d => yk _ (fun _ _ => ⟨fun z => absurd z (by decide), fun _ => ?_⟩) (fun z => absurd z (by decide)))))
    · rw [hq.2.1] at d
      refine yw_81 (c := 2) (by omega) (by omega) (fun q => ⟨rfl, re_mk (mu_dep hP hl hel et.symm (by omega) (by omega)) hT (re_S_up (k := 2) hS (by omega) (by omega) (by omega) rfl (if_pos rfl).symm rfl) hW re_n0⟩) (fun q => absurd ((vc_neg hP hl (by omega) (by omega)).mpr d) q)
    · rw [hq.2.1] at d
      exact yw_81 (c := 2) (by omega) (by omega) (fun q => absurd ((vc_neg hP hl (by omega) (by omega)).mp q) d) (fun q => bad _)
  · subst e3
    unfold wX_depend_69
    refine br_f (by decide) ?_
    unfold wX_depend_86
    refine br_f (by decide) (br_f (by decide) (xw_lnk3 (by omega) (fun d => yk _ (fun _ _ => ⟨fun z => absurd z (by decide), fun _ => ?_⟩) (fun z => absurd z (by decide))) (fun d => yk _ (fun _ _ => ⟨fun z => absurd z (by decide), fun _ => ?_⟩) (fun z => absurd z (by decide)))))
    · rw [hq.2.2] at d
      refine yw_81 (c := 3) (by omega) (by omega) (fun q => ⟨rfl, re_mk (mu_dep hP hl hel et.symm (by omega) (by omega)) hT (re_S_up (k := 3) hS (by omega) (by omega) (by omega) rfl rfl (if_pos rfl).symm) hW re_n0⟩) (fun q => absurd ((vc_neg hP hl (by omega) (by omega)).mpr d) q)
    · rw [hq.2.2] at d
      exact yw_81 (c := 3) (by omega) (by omega) (fun q => absurd ((vc_neg hP hl (by omega) (by omega)).mp q) d) (fun q => bad _)
  · refine yk _ (fun g1 g2 => ?_) (fun _ => bad _)
    exfalso
    have c0 : ¬ v3 < 0 := fun z => g1 (Int32.lt_trans z (by decide))
    obtain ⟨j, hj, rfl⟩ := nI_of2 (n := 3) (show (3 : Int32).toInt = ((3 : Nat) : Int) by decide) c0 g2
    have hj4 : j = 0 ∨ j = 1 ∨ j = 2 ∨ j = 3 := by omega
    rcases hj4 with rfl | rfl | rfl | rfl
    · exact g1 (by decide)
    · exact e1 rfl
    · exact e2 rfl
    · exact e3 rfl
theorem i_vc_solve {k : Nat} {u : SX} {v : SY} (I : i_Rel k u v) (hk : k + 5 ≤ 2562) : wpX_solve (fun r u' => wpY_solve (fun r' v' => r' = r ∧ i_Rel (k + 5) u' v') v) u := by
  obtain ⟨tc, sv, oc, yo, A, n, F, xth, xad, xco, xtr, xft, xfk, xfp, xds, xas, xcs, xfi, xwr, xwm, xbo, xor, xme, xvr, xok, xlr, xps, yrd, ywr, yaq, yrl, yon, yok, yle, ysh, yor, ybo, yme, ygo, rfl, rfl, hP, hT, hS, hW, hO⟩ := I
  refine xw_solve hP hT hS (fun bo' or' me' vr' oc' ok' lr' ps' hX => yw_solve hP (fun or2 bo2 me2 go2 yo' yok' le' hY => ?_))
  obtain ⟨m, K, R, S, e0, h1, h2, h3⟩ := hX
  obtain ⟨m', K', R', e0', h2'⟩ := hY
  rw [e0] at e0'
  cases e0'
  exact ⟨h2'.1.trans h2.1.symm, re_mk hP hT hS hW (fun _ => ⟨m, K, R, S, e0, h1, h2, h3, h2'⟩)⟩
end
section
/-! the questions about what was solved, and always -/
section
variable {A n F k : Nat} {th ad co rd wr aq rl on ft fk fp fi : Nat → Int32} {ok : Nat → Prop} {key : Nat → Nat} {oc yo : Int32} {xok yok xps : Nat → Int64} {xlr yle : Nat → Int32}
/-- what both sides keep of a solved program -/
theorem ro_O (hk : ∀ s, key s < 2 ^ 36) (h : re_O n ok key oc xok xlr xps yo yok yle) : ∃ (m : Nat) (K R S : Nat → Nat), oc = nI m ∧ yo = nI m ∧ m ≤ 180 ∧ ol_srt m K ∧ ol_pr ok key (re_bef n) (pq_N n) m K S ∧
    (∀ k, k < m → K k < 2 ^ 36 ∧ R k < pq_N n ∧ xok k = lN (K k) ∧ yok k = lN (K k) ∧ xlr k = nI (dg_x (pq_pm n (R k)) n) ∧ yle k = nI (dg_y (pq_pm n (R k)) n) ∧ xps k = lN (S k)) := by
  obtain ⟨m, K, R, S, e0, h1, h2, h3, h4⟩ := h
  obtain ⟨i1, i2, i3, i4⟩ := ol_inv_all _ _ _ m K R e0
  refine ⟨m, K, R, S, h2.1, h4.1, i2, i1, h1, fun k hk' => ⟨?_, (i4 k hk').1, (h2.2 k hk').1, (h4.2 k hk').1, (h2.2 k hk').2, (h4.2 k hk').2, h3 k hk'⟩⟩
  rw [(i4 k hk').2.2]; exact hk _
end
theorem i_vc_readIn {k : Nat} {u : SX} {v : SY} (I : i_Rel k u v) (hk : k + 5 ≤ 2562) (v1 : Int32) (v2 : Int32) : wpX_readIn (fun r => wpY_readIn (fun r' => r' = r ∧ i_Rel (k + 5) u v) v v1 v2) u v1 v2 := by
  have I2 := I
  obtain ⟨tc, sv, oc, yo, A, n, F, xth, xad, xco, xtr, xft, xfk, xfp, xds, xas, xcs, xfi, xwr, xwm, xbo, xor, xme, xvr, xok, xlr, xps, yrd, ywr, yaq, yrl, yon, yok, yle, ysh, yor, ybo, yme, ygo, rfl, rfl, hP, hT, hS, hW, hO⟩ := I
  have hh := hP.1
  have hkl : ∀ s, re_key n xad xco yrd ywr yon xfi s < 2 ^ 36 := fun s => ca_klt hP.2.2.2.2.2.1 n _
  have fin : ∀ r : Int32, r = r ∧ i_Rel (k + 5) _ _ := fun r => ⟨rfl, i_up I2⟩
  unfold wpX_readIn
  by_cases s0 : sv = 0
  · refine br_t s0 ?_
    unfold wpY_readIn
    exact br_t s0 (fin _)
  refine br_f s0 ?_
  obtain ⟨m, K, R, S, rfl, rfl, hm, hs, hpr, hK⟩ := ro_O hkl (hO s0)
  rcases pk_ix v1 (n := m) (by omega) with z | z | ⟨o, ho, rfl⟩
  · refine xr_ouN (Or.inl z) (br_t rfl ?_)
    unfold wpY_readIn
    exact br_f s0 (br_t z (fin _))
  · refine xr_ouN (Or.inr z) (br_t rfl ?_)
    unfold wpY_readIn
    by_cases c : v1 < 0
    · exact br_f s0 (br_t c (fin _))
    · exact br_f s0 (br_f c (br_f (Int32.not_lt.mpr z) (fin _)))
  refine xr_ouY hm ho (br_f x1_0 ?_)
  obtain ⟨q1, q2, q3, q4, q5, q6, q7⟩ := hK o ho
  have o0 : ¬ nI o < 0 := nI_pos (by omega)
  have o1 : nI o < nI m := nI_lt ho (by omega)
  rcases pk_ix v2 (n := n) (by omega) with z | z | ⟨e, he, rfl⟩
  · refine xr_evN (Or.inl z) (br_t rfl ?_)
    unfold wpY_readIn
    exact br_f s0 (br_f o0 (br_t o1 (yr_evN (Or.inl z) (br_t rfl (fin _)))))
  · refine xr_evN (Or.inr z) (br_t rfl ?_)
    unfold wpY_readIn
    exact br_f s0 (br_f o0 (br_t o1 (yr_evN (Or.inr z) (br_t rfl (fin _)))))
  have v6 : vp_in (nI e) 6 := vp_in_nI (by omega) (by omega)
  have ce : (nI e).toNatClampNeg = e := nI_clamp (by omega)
  have co' : (nI o).toNatClampNeg = o := nI_clamp (by omega)
  refine xr_evY hh.1 he (br_f x1_0 (xr_rd hT (by omega) (fun c => br_t rfl ?_) (fun c => br_f x1_0 (xw_rk (by omega) q1 q3 (by omega) ?_))))
  · unfold wpY_readIn
    dsimp only
    rw [ce]
    exact br_f s0 (br_f o0 (br_t o1 (yr_evY hh.1 he (br_f x1_0 ⟨v6, br_t c (fin _)⟩))))
  · unfold wpY_readIn
    dsimp only
    rw [ce, co', q4, nu_s8' (by omega)]
    exact br_f s0 (br_f o0 (br_t o1 (yr_evY hh.1 he (br_f x1_0 ⟨v6, br_f c ⟨vp_in_nI (by omega) (by omega), fin _⟩⟩))))
theorem i_vc_memoryIn {k : Nat} {u : SX} {v : SY} (I : i_Rel k u v) (hk : k + 5 ≤ 2562) (v1 : Int32) (v2 : Int32) : wpX_memoryIn (fun r => wpY_memoryIn (fun r' => r' = r ∧ i_Rel (k + 5) u v) v v1 v2) u v1 v2 := by
  have I2 := I
  obtain ⟨tc, sv, oc, yo, A, n, F, xth, xad, xco, xtr, xft, xfk, xfp, xds, xas, xcs, xfi, xwr, xwm, xbo, xor, xme, xvr, xok, xlr, xps, yrd, ywr, yaq, yrl, yon, yok, yle, ysh, yor, ybo, yme, ygo, rfl, rfl, hP, hT, hS, hW, hO⟩ := I
  have hh := hP.1
  have hkl : ∀ s, re_key n xad xco yrd ywr yon xfi s < 2 ^ 36 := fun s => ca_klt hP.2.2.2.2.2.1 n _
  have fin : ∀ r : Int32, r = r ∧ i_Rel (k + 5) _ _ := fun r => ⟨rfl, i_up I2⟩
  unfold wpX_memoryIn
  by_cases s0 : sv = 0
  · refine br_t s0 ?_
    unfold wpY_memoryIn
    exact br_t s0 (fin _)
  refine br_f s0 ?_
  obtain ⟨m, K, R, S, rfl, rfl, hm, hs, hpr, hK⟩ := ro_O hkl (hO s0)
  rcases pk_ix v1 (n := m) (by omega) with z | z | ⟨o, ho, rfl⟩
  · refine xr_ouN (Or.inl z) (br_t rfl ?_)
    unfold wpY_memoryIn
    exact br_f s0 (br_t z (fin _))
  · refine xr_ouN (Or.inr z) (br_t rfl ?_)
    unfold wpY_memoryIn
    by_cases c : v1 < 0
    · exact br_f s0 (br_t c (fin _))
    · exact br_f s0 (br_f c (br_f (Int32.not_lt.mpr z) (fin _)))
  refine xr_ouY hm ho (br_f x1_0 ?_)
  obtain ⟨q1, q2, q3, q4, q5, q6, q7⟩ := hK o ho
  have o0 : ¬ nI o < 0 := nI_pos (by omega)
  have o1 : nI o < nI m := nI_lt ho (by omega)
  rcases pk_ix v2 (n := A) (by omega) with z | z | ⟨e, he, rfl⟩
  · refine xr_adN (Or.inl z) (br_t rfl ?_)
    unfold wpY_memoryIn
    exact br_f s0 (br_f o0 (br_t o1 (br_t z (fin _))))
  · refine xr_adN (Or.inr z) (br_t rfl ?_)
    unfold wpY_memoryIn
    by_cases c : v2 < 0
    · exact br_f s0 (br_f o0 (br_t o1 (br_t c (fin _))))
    · exact br_f s0 (br_f o0 (br_t o1 (br_f c (br_f (Int32.not_lt.mpr z) (fin _)))))
  have co' : (nI o).toNatClampNeg = o := nI_clamp (by omega)
  refine xr_adY (nI_pos (by omega)) (nI_ge he (by omega)) (br_f x1_0 (xw_mk (by omega) q1 q3 (by omega) ?_))
  unfold wpY_memoryIn
  dsimp only
  rw [co', q4, nu_s2' (by omega)]
  exact br_f s0 (br_f o0 (br_t o1 (br_f (nI_pos (by omega)) (br_t (nI_lt he (by omega)) ⟨vp_in_nI (by omega) (by omega), fin _⟩))))
theorem i_vc_runIn {k : Nat} {u : SX} {v : SY} (I : i_Rel k u v) (hk : k + 5 ≤ 2562) (v1 : Int32) (v2 : Int32) : wpX_runIn (fun r => wpY_runIn (fun r' => r' = r ∧ i_Rel (k + 5) u v) v v1 v2) u v1 v2 := by
  have I2 := I
  obtain ⟨tc, sv, oc, yo, A, n, F, xth, xad, xco, xtr, xft, xfk, xfp, xds, xas, xcs, xfi, xwr, xwm, xbo, xor, xme, xvr, xok, xlr, xps, yrd, ywr, yaq, yrl, yon, yok, yle, ysh, yor, ybo, yme, ygo, rfl, rfl, hP, hT, hS, hW, hO⟩ := I
  have hh := hP.1
  have hkl : ∀ s, re_key n xad xco yrd ywr yon xfi s < 2 ^ 36 := fun s => ca_klt hP.2.2.2.2.2.1 n _
  have fin : ∀ r : Int32, r = r ∧ i_Rel (k + 5) _ _ := fun r => ⟨rfl, i_up I2⟩
  unfold wpX_runIn
  by_cases s0 : sv = 0
  · refine br_t s0 ?_
    unfold wpY_runIn
    exact br_t s0 (fin _)
  refine br_f s0 ?_
  obtain ⟨m, K, R, S, rfl, rfl, hm, hs, hpr, hK⟩ := ro_O hkl (hO s0)
  rcases pk_ix v1 (n := m) (by omega) with z | z | ⟨o, ho, rfl⟩
  · refine xr_ouN (Or.inl z) (br_t rfl ?_)
    unfold wpY_runIn
    exact br_f s0 (br_t z (fin _))
  · refine xr_ouN (Or.inr z) (br_t rfl ?_)
    unfold wpY_runIn
    by_cases c : v1 < 0
    · exact br_f s0 (br_t c (fin _))
    · exact br_f s0 (br_f c (br_f (Int32.not_lt.mpr z) (fin _)))
  refine xr_ouY hm ho (br_f x1_0 ?_)
  obtain ⟨q1, q2, q3, q4, q5, q6, q7⟩ := hK o ho
  have o0 : ¬ nI o < 0 := nI_pos (by omega)
  have o1 : nI o < nI m := nI_lt ho (by omega)
  rcases pk_ix v2 (n := n) (by omega) with z | z | ⟨p, hp, rfl⟩
  · refine br_t z ?_
    unfold wpY_runIn
    exact br_f s0 (br_f o0 (br_t o1 (yr_evN (Or.inl z) (br_t rfl (fin _)))))
  · by_cases c : v2 < 0
    · refine br_t c ?_
      unfold wpY_runIn
      exact br_f s0 (br_f o0 (br_t o1 (yr_evN (Or.inl c) (br_t rfl (fin _)))))
    · refine br_f c (br_f (Int32.not_lt.mpr z) ?_)
      unfold wpY_runIn
      exact br_f s0 (br_f o0 (br_t o1 (yr_evN (Or.inr z) (br_t rfl (fin _)))))
  have co' : (nI o).toNatClampNeg = o := nI_clamp (by omega)
  have g16 : ∀ i, i < n → pq_pm n (R o) i < 16 := fun i hi => by have := pq_lt q2 hi; omega
  have g8 : ∀ i, i < n → pq_pm n (R o) i < 8 := fun i hi => by have := pq_lt q2 hi; omega
  have lx : dg_x (pq_pm n (R o)) n < 2 ^ 31 := by
    have h1 := dg_x_lt _ n g16
    have h2 : (16 : Nat) ^ n ≤ 16 ^ 6 := Nat.pow_le_pow_right (by decide) hh.1
    have h3 : (16 : Nat) ^ 6 < 2 ^ 31 := by decide
    omega
  have ly : dg_y (pq_pm n (R o)) n < 2 ^ 31 := by
    have h1 := dg_y_lt _ n g8
    have h2 : (8 : Nat) ^ n ≤ 8 ^ 6 := Nat.pow_le_pow_right (by decide) hh.1
    have h3 : (8 : Nat) ^ 6 < 2 ^ 31 := by decide
    omega
  refine br_f (nI_pos (by omega)) (br_t (nI_lt hp (by omega)) ⟨vp_in_nI (by omega) (by omega), ?_⟩)
  rw [co', q5, nu_xd lx (by omega), dg_x_d _ n g16 p hp]
  unfold wpY_runIn
  dsimp only
  rw [co', q6, show nI n - 1 = nI (n - 1) from pk_sub (a := n) (b := 1) (by omega), pk_sub (by omega), nu_yd ly (by omega), dg_y_d _ n g8 p hp]
  exact br_f s0 (br_f o0 (br_t o1 (yr_evY hh.1 hp (br_f x1_0 ⟨vp_in_nI (by omega) (by omega), fin _⟩))))
theorem i_vc_always {k : Nat} {u : SX} {v : SY} (I : i_Rel k u v) (hk : k + 5 ≤ 2562) (v1 : Int32) (v2 : Int32) : wpX_always (fun r u' => wpY_always (fun r' v' => r' = r ∧ i_Rel (k + 5) u' v') v v1 v2) u v1 v2 := by
  obtain ⟨tc, sv, oc, yo, A, n, F, xth, xad, xco, xtr, xft, xfk, xfp, xds, xas, xcs, xfi, xwr, xwm, xbo, xor, xme, xvr, xok, xlr, xps, yrd, ywr, yaq, yrl, yon, yok, yle, ysh, yor, ybo, yme, ygo, rfl, rfl, hP, hT, hS, hW, hO⟩ := I
  have hh := hP.1
  unfold wpX_always
  rcases pk_ix v1 (n := n) (by omega) with z | z | ⟨a, ha, rfl⟩
  · refine xr_evN (Or.inl z) (br_t rfl ?_)
    unfold wpY_always
    exact yr_evN (Or.inl z) (br_t rfl ⟨rfl, re_mk hP hT hS hW hO⟩)
  · refine xr_evN (Or.inr z) (br_t rfl ?_)
    unfold wpY_always
    exact yr_evN (Or.inr z) (br_t rfl ⟨rfl, re_mk hP hT hS hW hO⟩)
  refine xr_evY hh.1 ha (br_f x1_0 ?_)
  rcases pk_ix v2 (n := n) (by omega) with z | z | ⟨b, hb, rfl⟩
  · refine xr_evN (Or.inl z) (br_t rfl ?_)
    unfold wpY_always
    exact yr_evY hh.1 ha (br_f x1_0 (yr_evN (Or.inl z) (br_t rfl ⟨rfl, re_mk hP hT hS hW hO⟩)))
  · refine xr_evN (Or.inr z) (br_t rfl ?_)
    unfold wpY_always
    exact yr_evY hh.1 ha (br_f x1_0 (yr_evN (Or.inr z) (br_t rfl ⟨rfl, re_mk hP hT hS hW hO⟩)))
  refine xr_evY hh.1 hb (br_f x1_0 (xw_bounds hP hT hS (fun bo' hbo => ?_)))
  dsimp only
  rw [nu_6, nI_clamp (show a * 6 + b < 2 ^ 31 by omega)]
  refine ⟨vp_in_nI (by omega) (by omega), br_c (fun c => ?_) (fun c => ?_)⟩
  · exact yw_alw hh.1 hh.2.2.2 ha hb (fun w => absurd c ((hbo a b ha hb).mpr w)) (fun _ o' bo2 => ⟨rfl, re_mk hP hT hS hW hO⟩)
  · exact yw_alw hh.1 hh.2.2.2 ha hb (fun _ o' bo2 => ⟨rfl, re_mk hP hT hS hW hO⟩) (fun w => absurd ((hbo a b ha hb).mp c) w)
theorem i_vc_lost {k : Nat} {u : SX} {v : SY} (I : i_Rel k u v) (hk : k + 5 ≤ 2562) (v1 : Int32) (v2 : Int32) : wpX_lost (fun r => wpY_lost (fun r' v' => r' = r ∧ i_Rel (k + 5) u v') v v1 v2) u v1 v2 := by
  obtain ⟨tc, sv, oc, yo, A, n, F, xth, xad, xco, xtr, xft, xfk, xfp, xds, xas, xcs, xfi, xwr, xwm, xbo, xor, xme, xvr, xok, xlr, xps, yrd, ywr, yaq, yrl, yon, yok, yle, ysh, yor, ybo, yme, ygo, rfl, rfl, hP, hT, hS, hW, hO⟩ := I
  have hh := hP.1
  have hkl : ∀ s, re_key n xad xco yrd ywr yon xfi s < 2 ^ 36 := fun s => ca_klt hP.2.2.2.2.2.1 n _
  unfold wpX_lost
  by_cases s0 : sv = 0
  · refine br_t s0 ?_
    unfold wpY_lost
    exact br_t s0 ⟨rfl, re_mk hP hT hS hW hO⟩
  refine br_f s0 ?_
  rcases pk_ix v1 (n := n) (by omega) with z | z | ⟨a, ha, rfl⟩
  · refine xr_evN (Or.inl z) (br_t rfl ?_)
    unfold wpY_lost
    exact br_f s0 (yr_evN (Or.inl z) (br_t rfl ⟨rfl, re_mk hP hT hS hW hO⟩))
  · refine xr_evN (Or.inr z) (br_t rfl ?_)
    unfold wpY_lost
    exact br_f s0 (yr_evN (Or.inr z) (br_t rfl ⟨rfl, re_mk hP hT hS hW hO⟩))
  refine xr_evY hh.1 ha (br_f x1_0 ?_)
  rcases pk_ix v2 (n := n) (by omega) with z | z | ⟨b, hb, rfl⟩
  · refine xr_evN (Or.inl z) (br_t rfl ?_)
    unfold wpY_lost
    exact br_f s0 (yr_evY hh.1 ha (br_f x1_0 (yr_evN (Or.inl z) (br_t rfl ⟨rfl, re_mk hP hT hS hW hO⟩))))
  · refine xr_evN (Or.inr z) (br_t rfl ?_)
    unfold wpY_lost
    exact br_f s0 (yr_evY hh.1 ha (br_f x1_0 (yr_evN (Or.inr z) (br_t rfl ⟨rfl, re_mk hP hT hS hW hO⟩))))
  refine xr_evY hh.1 hb (br_f x1_0 ?_)
  by_cases eab : a = b
  · subst eab
    refine br_t rfl ?_
    unfold wpY_lost
    exact br_f s0 (yr_evY hh.1 ha (br_f x1_0 (yr_evY hh.1 hb (br_f x1_0 (br_t rfl ⟨rfl, re_mk hP hT hS hW hO⟩)))))
  refine br_f (by rw [nI_eq (by omega) (by omega)]; exact eab) ?_
  obtain ⟨m, K, R, S, rfl, rfl, hm, hs, hpr, hK⟩ := ro_O hkl (hO s0)
  rw [nu_6, nu_1shl (by omega)]
  refine nm_e (xw_lost52 (S := S) (P := lo_P n (re_ok n F xth xad yrd ywr yaq yrl yon xft xfk xfp) (re_key n xad xco yrd ywr yon xfi) K a b) hm (by omega) (by omega) (fun k hk' => (hpr k hk').1) (fun k hk' => (hK k hk').2.2.2.2.2.2) (fun k hk' => ?_) ?_)
  · unfold lo_P
    rw [← (hpr k hk').2 a b (by omega) (by omega), Bool.not_eq_true]
  · exact yw_lost hP ha hb eab s0 hm hs (fun k hk' => (hK k hk').1) (fun k hk' => (hK k hk').2.2.2.1) (fun sh' o' bo' me' go' => ⟨rfl, re_mk hP hT hS hW hO⟩)
theorem i_vc_wished {k : Nat} {u : SX} {v : SY} (I : i_Rel k u v) (hk : k + 5 ≤ 2562) : wpX_wished (fun r => wpY_wished (fun r' => r' = r ∧ i_Rel (k + 5) u v) v) u := by
  have I2 := I
  obtain ⟨tc, sv, oc, yo, A, n, F, xth, xad, xco, xtr, xft, xfk, xfp, xds, xas, xcs, xfi, xwr, xwm, xbo, xor, xme, xvr, xok, xlr, xps, yrd, ywr, yaq, yrl, yon, yok, yle, ysh, yor, ybo, yme, ygo, rfl, rfl, hP, hT, hS, hW, hO⟩ := I
  have hh := hP.1
  have hkl : ∀ s, re_key n xad xco yrd ywr yon xfi s < 2 ^ 36 := fun s => ca_klt hP.2.2.2.2.2.1 n _
  by_cases s0 : sv = 0
  · unfold wpX_wished
    refine br_t s0 ?_
    unfold wpY_wished
    exact br_t s0 ⟨rfl, i_up I2⟩
  obtain ⟨m, K, R, S, rfl, rfl, hm, hs, hpr, hK⟩ := ro_O hkl (hO s0)
  exact xw_wished (Kf := K) hh.1 hh.2.2.1 hm (fun k hk' => (hK k hk').1) (fun k hk' => (hK k hk').2.2.1) s0 (yw_wished (Kf := K) hh.1 hh.2.2.1 hW hm (fun k hk' => (hK k hk').2.2.2.1) s0 ⟨rfl, i_up I2⟩)
end
