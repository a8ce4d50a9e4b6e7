/-! the list of outcomes, round by round: count, keys, the round of the least run -/
def ol_ins (j x : Nat) (K : Nat → Nat) (i : Nat) : Nat := if i < j then K i else if i = j then x else K (i - 1)
theorem ol_ins_lt {j x i : Nat} {K : Nat → Nat} (h : i < j) : ol_ins j x K i = K i := if_pos h
theorem ol_ins_eq {j x : Nat} {K : Nat → Nat} : ol_ins j x K j = x := by
  unfold ol_ins; rw [if_neg (Nat.lt_irrefl j), if_pos rfl]
theorem ol_ins_gt {j x i : Nat} {K : Nat → Nat} (h : j < i) : ol_ins j x K i = K (i - 1) := by
  unfold ol_ins; rw [if_neg (by omega), if_neg (by omega)]
def ol_ps (K : Nat → Nat) (x : Nat) : Nat → Nat
  | 0 => 0
  | m + 1 => if x < K m then ol_ps K x m else m + 1
theorem ol_ps_le (K : Nat → Nat) (x : Nat) : ∀ m, ol_ps K x m ≤ m := by
  intro m
  induction m with
  | zero => exact Nat.le_refl 0
  | succ m ih =>
    show (if x < K m then ol_ps K x m else m + 1) ≤ m + 1
    split <;> omega
theorem ol_ps_hi (K : Nat → Nat) (x : Nat) : ∀ m i, ol_ps K x m ≤ i → i < m → x < K i := by
  intro m
  induction m with
  | zero => intro i _ h; omega
  | succ m ih =>
    intro i h hi
    have h2 : (if x < K m then ol_ps K x m else m + 1) ≤ i := h
    by_cases c : x < K m
    · rw [if_pos c] at h2
      by_cases e : i = m
      · rw [e]; exact c
      · exact ih i h2 (by omega)
    · rw [if_neg c] at h2
      omega
theorem ol_ps_lo (K : Nat → Nat) (x : Nat) : ∀ m, 0 < ol_ps K x m → K (ol_ps K x m - 1) ≤ x := by
  intro m
  induction m with
  | zero => intro h; exact absurd h (Nat.lt_irrefl 0)
  | succ m ih =>
    intro h
    have e : ol_ps K x (m + 1) = if x < K m then ol_ps K x m else m + 1 := rfl
    by_cases c : x < K m
    · rw [if_pos c] at e
      rw [e] at h ⊢
      exact ih h
    · rw [if_neg c] at e
      rw [e]
      exact Nat.le_of_not_lt c
noncomputable def ol_if {α : Type} (c : Prop) (a b : α) : α := @ite α c (Classical.propDecidable c) a b
theorem ol_if_t {α : Type} {c : Prop} {a b : α} (h : c) : ol_if c a b = a := by unfold ol_if; exact if_pos h
theorem ol_if_f {α : Type} {c : Prop} {a b : α} (h : ¬ c) : ol_if c a b = b := by unfold ol_if; exact if_neg h
def ol_new (ok : Nat → Prop) (key : Nat → Nat) (r m : Nat) (K : Nat → Nat) : Prop := ok r ∧ (∀ k, k < m → K k ≠ key r) ∧ m < 180
noncomputable def ol_so (ok : Nat → Prop) (key : Nat → Nat) : Nat → Nat × (Nat → Nat) × (Nat → Nat)
  | 0 => (0, fun _ => 0, fun _ => 0)
  | r + 1 => ol_if (ol_new ok key r (ol_so ok key r).1 (ol_so ok key r).2.1)
      ((ol_so ok key r).1 + 1, ol_ins (ol_ps (ol_so ok key r).2.1 (key r) (ol_so ok key r).1) (key r) (ol_so ok key r).2.1, ol_ins (ol_ps (ol_so ok key r).2.1 (key r) (ol_so ok key r).1) r (ol_so ok key r).2.2)
      (ol_so ok key r)
theorem ol_so_n {ok : Nat → Prop} {key : Nat → Nat} {r m : Nat} {K R : Nat → Nat} (e : ol_so ok key r = (m, K, R)) (h : ¬ ol_new ok key r m K) : ol_so ok key (r + 1) = (m, K, R) := by
  rw [ol_so, e]; exact ol_if_f h
theorem ol_so_y {ok : Nat → Prop} {key : Nat → Nat} {r m : Nat} {K R : Nat → Nat} (e : ol_so ok key r = (m, K, R)) (h : ol_new ok key r m K) : ol_so ok key (r + 1) = (m + 1, ol_ins (ol_ps K (key r) m) (key r) K, ol_ins (ol_ps K (key r) m) r R) := by
  rw [ol_so, e]; exact ol_if_t h
def ol_srt (m : Nat) (K : Nat → Nat) : Prop := ∀ i k, i < k → k < m → K i < K k
def ol_inv (ok : Nat → Prop) (key : Nat → Nat) (r m : Nat) (K R : Nat → Nat) : Prop :=
  ol_srt m K ∧ m ≤ 180 ∧ (m < 180 → ∀ s, s < r → ok s → ∃ k, k < m ∧ K k = key s) ∧ (∀ k, k < m → R k < r ∧ ok (R k) ∧ K k = key (R k))
theorem ol_srt_le {m : Nat} {K : Nat → Nat} (h : ol_srt m K) {i k : Nat} (hi : i ≤ k) (hk : k < m) : K i ≤ K k := by
  by_cases e : i = k
  · rw [e]; exact Nat.le_refl _
  · exact Nat.le_of_lt (h i k (by omega) hk)
theorem ol_ps_all {m x : Nat} {K : Nat → Nat} (h : ol_srt m K) {i : Nat} (hi : i < ol_ps K x m) : K i ≤ x :=
  Nat.le_trans (ol_srt_le h (show i ≤ ol_ps K x m - 1 by omega) (by have := ol_ps_le K x m; omega)) (ol_ps_lo K x m (by omega))
theorem ol_srt_ins {m x : Nat} {K : Nat → Nat} (h : ol_srt m K) (hn : ∀ k, k < m → K k ≠ x) : ol_srt (m + 1) (ol_ins (ol_ps K x m) x K) := by
  intro i k hik hk
  have hl := ol_ps_le K x m
  rcases Nat.lt_trichotomy k (ol_ps K x m) with c | c | c
  · rw [ol_ins_lt c, ol_ins_lt (by omega)]
    exact h i k hik (by omega)
  · rw [c, ol_ins_eq, ol_ins_lt (by omega)]
    have h1 := ol_ps_all h (x := x) (show i < ol_ps K x m by omega)
    have h2 := hn i (by omega)
    omega
  · rw [ol_ins_gt c]
    have h3 := ol_ps_hi K x m (k - 1) (by omega) (by omega)
    rcases Nat.lt_trichotomy i (ol_ps K x m) with d | d | d
    · rw [ol_ins_lt d]
      exact h i (k - 1) (by omega) (by omega)
    · rw [d, ol_ins_eq]; exact h3
    · rw [ol_ins_gt d]
      exact h (i - 1) (k - 1) (by omega) (by omega)
theorem ol_inv_all (ok : Nat → Prop) (key : Nat → Nat) : ∀ r m K R, ol_so ok key r = (m, K, R) → ol_inv ok key r m K R := by
  intro r
  induction r with
  | zero =>
    intro m K R e
    have e1 : (0, (fun _ => 0), (fun _ => 0)) = (m, K, R) := e
    cases e1
    exact ⟨fun i k _ h => absurd h (Nat.not_lt_zero k), by omega, fun _ s h => absurd h (Nat.not_lt_zero s), fun k h => absurd h (Nat.not_lt_zero k)⟩
  | succ r ih =>
    intro m' K' R' e
    obtain ⟨m, K, R, e0⟩ : ∃ m K R, ol_so ok key r = (m, K, R) := ⟨_, _, _, rfl⟩
    obtain ⟨h1, h2, h3, h4⟩ := ih m K R e0
    rcases Classical.em (ol_new ok key r m K) with c | c
    · rw [ol_so_y e0 c] at e
      cases e
      obtain ⟨c1, c2, c3⟩ := c
      have hl := ol_ps_le K (key r) m
      refine ⟨ol_srt_ins h1 c2, by omega, fun hm s hs ho => ?_, fun k hk => ?_⟩
      · by_cases es : s = r
        · exact ⟨ol_ps K (key r) m, by omega, by rw [ol_ins_eq, es]⟩
        · obtain ⟨k, hk, ek⟩ := h3 c3 s (by omega) ho
          by_cases d : k < ol_ps K (key r) m
          · exact ⟨k, by omega, by rw [ol_ins_lt d]; exact ek⟩
          · exact ⟨k + 1, by omega, by rw [ol_ins_gt (by omega)]; exact ek⟩
      · rcases Nat.lt_trichotomy k (ol_ps K (key r) m) with d | d | d
        · rw [ol_ins_lt d, ol_ins_lt d]
          obtain ⟨q1, q2, q3⟩ := h4 k (by omega)
          exact ⟨by omega, q2, q3⟩
        · rw [d, ol_ins_eq, ol_ins_eq]
          exact ⟨by omega, c1, rfl⟩
        · rw [ol_ins_gt d, ol_ins_gt d]
          obtain ⟨q1, q2, q3⟩ := h4 (k - 1) (by omega)
          exact ⟨by omega, q2, q3⟩
    · rw [ol_so_n e0 c] at e
      cases e
      refine ⟨h1, h2, fun hm s hs ho => ?_, fun k hk => ?_⟩
      · by_cases es : s = r
        · subst es
          rcases Classical.em (∃ k, k < m' ∧ K' k = key s) with d | d
          · exact d
          · exact absurd ⟨ho, fun k hk ek => d ⟨k, hk, ek⟩, hm⟩ c
        · exact h3 hm s (by omega) ho
      · obtain ⟨q1, q2, q3⟩ := h4 k hk
        exact ⟨by omega, q2, q3⟩
/-- the first place whose key is not below x -/
theorem ol_fst {m x q : Nat} {K : Nat → Nat} (h : ol_srt m K) (hq : q ≤ m) (hlo : ∀ i, i < q → K i < x) (hhi : q < m → x ≤ K q) (hne : q = m ∨ K q ≠ x) : (∀ k, k < m → K k ≠ x) ∧ ol_ps K x m = q := by
  have hgt : ∀ k, q ≤ k → k < m → x < K k := by
    intro k hk hm
    have h1 := hhi (by omega)
    have h2 := ol_srt_le h hk hm
    rcases hne with e | e
    · omega
    · omega
  constructor
  · intro k hk e
    by_cases c : k < q
    · have := hlo k c; omega
    · have := hgt k (by omega) hk; omega
  · have hl := ol_ps_le K x m
    rcases Nat.lt_trichotomy (ol_ps K x m) q with c | c | c
    · have h1 := hlo _ c
      have h2 := ol_ps_hi K x m _ (Nat.le_refl _) (by omega)
      omega
    · exact c
    · have h1 := ol_ps_lo K x m (by omega)
      have h2 := hgt (ol_ps K x m - 1) (by omega) (by omega)
      omega
/-! which pairs were seen -/
def ol_pr (ok : Nat → Prop) (key : Nat → Nat) (bef : Nat → Nat → Nat → Prop) (r m : Nat) (K S : Nat → Nat) : Prop :=
  ∀ k, k < m → S k < 2 ^ 36 ∧ ∀ a b, a < 6 → b < 6 → ((S k).testBit (a * 6 + b) = true ↔ ∃ s, s < r ∧ ok s ∧ key s = K k ∧ bef s a b)
theorem ol_ex_s {r : Nat} {P : Nat → Prop} : (∃ s, s < r + 1 ∧ P s) ↔ ((∃ s, s < r ∧ P s) ∨ P r) := by
  constructor
  · rintro ⟨s, hs, h⟩
    by_cases e : s = r
    · subst e; exact Or.inr h
    · exact Or.inl ⟨s, by omega, h⟩
  · rintro (⟨s, hs, h⟩ | h)
    · exact ⟨s, by omega, h⟩
    · exact ⟨r, by omega, h⟩
/-- a round that no place of the list has -/
theorem ol_pr_n {ok : Nat → Prop} {key : Nat → Nat} {bef : Nat → Nat → Nat → Prop} {r m : Nat} {K S : Nat → Nat} (h : ol_pr ok key bef r m K S) (hn : ok r → ∀ k, k < m → K k ≠ key r) : ol_pr ok key bef (r + 1) m K S := by
  intro k hk
  refine ⟨(h k hk).1, fun a b ha hb => ?_⟩
  rw [(h k hk).2 a b ha hb, ol_ex_s]
  exact ⟨Or.inl, fun z => z.elim id (fun z => absurd z.2.1.symm (hn z.1 k hk))⟩
theorem ol_pr_f {ok : Nat → Prop} {key : Nat → Nat} {bef : Nat → Nat → Nat → Prop} {r m j B : Nat} {K S S' : Nat → Nat} (hs : ol_srt m K) (h : ol_pr ok key bef r m K S) (ho : ok r) (hj : j < m) (ej : K j = key r)
    (hB : B < 2 ^ 36 ∧ ∀ a b, a < 6 → b < 6 → (B.testBit (a * 6 + b) = true ↔ bef r a b)) (e1 : S' j = S j ||| B) (e2 : ∀ k, k < m → k ≠ j → S' k = S k) : ol_pr ok key bef (r + 1) m K S' := by
  intro k hk
  by_cases e : k = j
  · subst e
    rw [e1]
    refine ⟨Nat.or_lt_two_pow (h k hk).1 hB.1, fun a b ha hb => ?_⟩
    rw [Nat.testBit_or, Bool.or_eq_true, (h k hk).2 a b ha hb, hB.2 a b ha hb, ol_ex_s]
    exact ⟨fun z => z.elim Or.inl (fun z => Or.inr ⟨ho, ej.symm, z⟩), fun z => z.elim Or.inl (fun z => Or.inr z.2.2)⟩
  · rw [e2 k hk e]
    refine ⟨(h k hk).1, fun a b ha hb => ?_⟩
    rw [(h k hk).2 a b ha hb, ol_ex_s]
    refine ⟨Or.inl, fun z => z.elim id (fun z => ?_)⟩
    have e3 : K k = K j := by rw [ej]; exact z.2.1.symm
    rcases Nat.lt_trichotomy k j with c | c | c
    · have := hs k j c hj; omega
    · exact absurd c e
    · have := hs j k c hk; omega
theorem ol_pr_y {ok : Nat → Prop} {key : Nat → Nat} {bef : Nat → Nat → Nat → Prop} {r m j B : Nat} {K S S' : Nat → Nat} (h : ol_pr ok key bef r m K S) (ho : ok r) (hj : j ≤ m) (hn : ∀ k, k < m → K k ≠ key r)
    (hsn : ∀ s, s < r → ok s → ∃ k, k < m ∧ K k = key s)
    (hB : B < 2 ^ 36 ∧ ∀ a b, a < 6 → b < 6 → (B.testBit (a * 6 + b) = true ↔ bef r a b)) (e1 : S' j = B) (e2 : ∀ k, k < j → S' k = S k) (e3 : ∀ k, j < k → k < m + 1 → S' k = S (k - 1)) : ol_pr ok key bef (r + 1) (m + 1) (ol_ins j (key r) K) S' := by
  intro k hk
  rcases Nat.lt_trichotomy k j with c | c | c
  · rw [e2 k c, ol_ins_lt c]
    exact ol_pr_n h (fun _ => hn) k (by omega)
  · subst c
    rw [e1, ol_ins_eq]
    refine ⟨hB.1, fun a b ha hb => ?_⟩
    rw [hB.2 a b ha hb, ol_ex_s]
    refine ⟨fun z => Or.inr ⟨ho, rfl, z⟩, fun z => z.elim (fun ⟨s, hs, os, es, _⟩ => ?_) (fun z => z.2.2)⟩
    obtain ⟨k', hk', ek'⟩ := hsn s hs os
    exact absurd (ek'.trans es) (hn k' hk')
  · rw [e3 k c hk, ol_ins_gt c]
    exact ol_pr_n h (fun _ => hn) (k - 1) (by omega)
