/-! the closed order, the runs, what holds in every run -/
def od_W (M : Nat → Nat → Prop) : Nat → Nat → Nat → Prop
  | 0 => M
  | k + 1 => fun a b => od_W M k a b ∨ (od_W M k a k ∧ od_W M k k b)
theorem od_up {M : Nat → Nat → Prop} {a b : Nat} (h : M a b) : ∀ k, od_W M k a b := by
  intro k
  induction k with
  | zero => exact h
  | succ k ih => exact Or.inl ih
theorem od_fr {M : Nat → Nat → Prop} {k a : Nat} : od_W M (k + 1) a k ↔ od_W M k a k :=
  ⟨fun h => h.elim id (fun z => z.1), Or.inl⟩
theorem od_fl {M : Nat → Nat → Prop} {k b : Nat} : od_W M (k + 1) k b ↔ od_W M k k b :=
  ⟨fun h => h.elim id (fun z => z.2), Or.inl⟩
theorem od_tr {M : Nat → Nat → Prop} : ∀ k m a b, m < k → od_W M k a m → od_W M k m b → od_W M k a b := by
  intro k
  induction k with
  | zero => intro m a b h; omega
  | succ k ih =>
    intro m a b hm h1 h2
    by_cases e : m = k
    · subst e
      exact Or.inr ⟨od_fr.mp h1, od_fl.mp h2⟩
    · have hk : m < k := by omega
      rcases h1 with h1 | ⟨h1, h1'⟩
      · rcases h2 with h2 | ⟨h2, h2'⟩
        · exact Or.inl (ih m a b hk h1 h2)
        · exact Or.inr ⟨ih m a k hk h1 h2, h2'⟩
      · rcases h2 with h2 | ⟨_, h2'⟩
        · exact Or.inr ⟨h1, ih m k b hk h1' h2⟩
        · exact Or.inr ⟨h1, h2'⟩
theorem od_least {M R : Nat → Nat → Prop} (hM : ∀ a b, M a b → R a b) (ht : ∀ a m b, R a m → R m b → R a b) : ∀ k a b, od_W M k a b → R a b := by
  intro k
  induction k with
  | zero => exact hM
  | succ k ih =>
    intro a b h
    rcases h with h | ⟨h, h'⟩
    · exact ih a b h
    · exact ht a k b (ih _ _ h) (ih _ _ h')
theorem od_lt {M : Nat → Nat → Prop} {n : Nat} (hM : ∀ a b, M a b → a < b ∧ b < n) {k a b : Nat} (h : od_W M k a b) : a < b ∧ b < n :=
  od_least (R := fun a b => a < b ∧ b < n) hM (fun a m b h1 h2 => ⟨Nat.lt_trans h1.1 h2.1, h2.2⟩) k a b h
/-- a run: no pair stands against M -/
def od_ok (M : Nat → Nat → Prop) (n : Nat) (g : Nat → Nat) : Prop := ∀ p q, p < q → q < n → ¬ M (g q) (g p)
def od_bef (n : Nat) (g : Nat → Nat) (a b : Nat) : Prop := ∃ p q, p < q ∧ q < n ∧ g p = a ∧ g q = b
theorem od_okW {M : Nat → Nat → Prop} {n r : Nat} (hM : ∀ a b, M a b → a < b ∧ b < n) (hr : r < pq_N n) : od_ok (od_W M n) n (pq_pm n r) ↔ od_ok M n (pq_pm n r) := by
  constructor
  · exact fun h p q hp hq z => h p q hp hq (od_up z n)
  · intro h p q hp hq z
    have hR : ∀ a b, od_W M n a b → (b < n ∧ ∀ i j, i < n → j < n → pq_pm n r i = a → pq_pm n r j = b → i < j) := by
      refine od_least (R := fun a b => (b < n ∧ ∀ i j, i < n → j < n → pq_pm n r i = a → pq_pm n r j = b → i < j)) ?_ ?_ n
      · intro a b hab
        refine ⟨(hM a b hab).2, fun i j hi hj ei ej => ?_⟩
        rcases Nat.lt_trichotomy i j with c | c | c
        · exact c
        · subst c
          have := (hM a b hab).1
          omega
        · subst ei ej
          exact absurd hab (h j i c hi)
      · intro a m b h1 h2
        refine ⟨h2.1, fun i j hi hj ei ej => ?_⟩
        obtain ⟨k, hk, ek⟩ := pq_sur hr h1.1
        exact Nat.lt_trans (h1.2 i k hi hk ei ek) (h2.2 k j hk hj ek ej)
    have := (hR _ _ z).2 q p hq (by omega) rfl rfl
    omega
theorem od_befof {M : Nat → Nat → Prop} {n r a b : Nat} (hM : ∀ a b, M a b → a < b ∧ b < n) (hr : r < pq_N n) (ho : od_ok M n (pq_pm n r)) (hw : od_W M n a b) (ha : a < n) (hb : b < n) : od_bef n (pq_pm n r) a b := by
  obtain ⟨p, hp, ep⟩ := pq_sur hr ha
  obtain ⟨q, hq, eq⟩ := pq_sur hr hb
  have hl := od_lt hM hw
  rcases Nat.lt_trichotomy p q with c | c | c
  · exact ⟨p, q, c, hq, ep, eq⟩
  · subst c
    omega
  · have := (od_okW hM hr).mpr ho q p c hp
    rw [ep, eq] at this
    exact absurd hw this
theorem od_nbef {n r p q : Nat} (hr : r < pq_N n) (hp : p < n) (hq : q < n) (h : q ≤ p) : ¬ od_bef n (pq_pm n r) (pq_pm n r p) (pq_pm n r q) := by
  rintro ⟨i, j, hij, hj, ei, ej⟩
  have e1 := pq_inj hr (by omega) hp ei
  have e2 := pq_inj hr hj hq ej
  omega
/-- what no chain forces, some run has otherwise -/
theorem od_ex {M : Nat → Nat → Prop} {n a b : Nat} (hM : ∀ a b, M a b → a < b ∧ b < n) (ha : a < n) (hb : b < n) (hw : ¬ od_W M n a b) : ∃ r, r < pq_N n ∧ od_ok M n (pq_pm n r) ∧ ¬ od_bef n (pq_pm n r) a b := by
  have hD : ∃ D : Nat → Bool, ∀ x, D x = true ↔ (od_W M n x b ∨ x = b) :=
    ⟨fun x => @decide (od_W M n x b ∨ x = b) (Classical.propDecidable _), fun x => @decide_eq_true_iff _ (Classical.propDecidable _)⟩
  obtain ⟨D, hD⟩ := hD
  have hP : ((List.range n).filter D ++ (List.range n).filter (fun x => !D x)).Perm (List.range n) := List.filter_append_perm D _
  generalize hl : (List.range n).filter D ++ (List.range n).filter (fun x => !D x) = l at hP
  have hlen : l.length = n := by rw [hP.length_eq, List.length_range]
  have hnd : l.Nodup := hP.nodup_iff.mpr List.nodup_range
  have hmem : ∀ y, y ∈ l → y < n := fun y hy => List.mem_range.mp (hP.mem_iff.mp hy)
  have hpw : l.Pairwise (fun x y => ¬ M y x ∧ (D y = true → D x = true)) := by
    rw [← hl, List.pairwise_append]
    refine ⟨?_, ?_, ?_⟩
    · have h1 : ((List.range n).filter D).Pairwise (· < ·) := List.Pairwise.filter D List.pairwise_lt_range
      refine List.Pairwise.imp_of_mem ?_ h1
      intro x y hx hy hxy
      refine ⟨fun z => ?_, fun _ => (List.mem_filter.mp hx).2⟩
      have := (hM _ _ z).1
      omega
    · have h1 : ((List.range n).filter (fun x => !D x)).Pairwise (· < ·) := List.Pairwise.filter _ List.pairwise_lt_range
      refine List.Pairwise.imp_of_mem ?_ h1
      intro x y hx hy hxy
      refine ⟨fun z => ?_, fun z => ?_⟩
      · have := (hM _ _ z).1
        omega
      · have := (List.mem_filter.mp hy).2
        rw [z] at this
        exact absurd this (by simp)
    · intro x hx y hy
      have h1 := (List.mem_filter.mp hx).2
      have h2 := (List.mem_filter.mp hy).2
      have h3 : ¬ D y = true := by
        intro z; rw [z] at h2; exact absurd h2 (by simp)
      refine ⟨fun z => h3 ((hD y).mpr (Or.inl ?_)), fun z => absurd z h3⟩
      rcases (hD x).mp h1 with h4 | h4
      · exact od_tr n x y b (Nat.lt_trans (od_lt hM h4).1 (od_lt hM h4).2) (od_up z n) h4
      · rw [← h4]; exact od_up z n
  obtain ⟨r, hr, hpm⟩ := pq_com l hlen hnd hmem
  refine ⟨r, hr, ?_, ?_⟩
  · intro p q hpq hq
    rw [hpm, hpm, pq_get (by omega : p < l.length), pq_get (by omega : q < l.length)]
    exact (List.pairwise_iff_getElem.mp hpw p q (by omega) (by omega) hpq).1
  · rintro ⟨p, q, hpq, hq, ep, eq⟩
    rw [hpm, pq_get (by omega : p < l.length)] at ep
    rw [hpm, pq_get (by omega : q < l.length)] at eq
    have h5 := (List.pairwise_iff_getElem.mp hpw p q (by omega) (by omega) hpq).2
    rw [ep, eq] at h5
    rcases (hD a).mp (h5 ((hD b).mpr (Or.inr rfl))) with h6 | h6
    · exact hw h6
    · have h7 := List.pairwise_iff_getElem.mp hnd p q (by omega) (by omega) hpq
      rw [ep, eq] at h7
      exact h7 h6
theorem od_alw {M : Nat → Nat → Prop} {n a b : Nat} (hM : ∀ a b, M a b → a < b ∧ b < n) (ha : a < n) (hb : b < n) : od_W M n a b ↔ ∀ r, r < pq_N n → od_ok M n (pq_pm n r) → od_bef n (pq_pm n r) a b := by
  constructor
  · exact fun h r hr ho => od_befof hM hr ho h ha hb
  · intro h
    rcases Classical.em (od_W M n a b) with c | c
    · exact c
    · obtain ⟨r, hr, ho, hn⟩ := od_ex hM ha hb c
      exact absurd (h r hr ho) hn
