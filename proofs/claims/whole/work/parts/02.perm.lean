/-! the orders of n events as a table, each with its next one -/
def pq_pl : Nat → List Nat → List (List Nat)
  | 0, _ => [[]]
  | k + 1, xs => xs.flatMap (fun x => (pq_pl k (xs.erase x)).map (fun t => x :: t))
def pq_tab (n : Nat) : List (List Nat) := pq_pl n (List.range n)
def pq_N (n : Nat) : Nat := (pq_tab n).length
def pq_pm (n r p : Nat) : Nat := ((pq_tab n).getD r []).getD p 0
theorem pq_pl_s (k : Nat) (xs l : List Nat) : l ∈ pq_pl (k + 1) xs ↔ ∃ x, x ∈ xs ∧ ∃ t, t ∈ pq_pl k (xs.erase x) ∧ x :: t = l := by
  show l ∈ xs.flatMap (fun x => (pq_pl k (xs.erase x)).map (fun t => x :: t)) ↔ _
  rw [List.mem_flatMap]
  constructor
  · rintro ⟨x, hx, hl⟩
    rw [List.mem_map] at hl
    exact ⟨x, hx, hl⟩
  · rintro ⟨x, hx, hl⟩
    exact ⟨x, hx, List.mem_map.mpr hl⟩
theorem pq_pl_len : ∀ (k : Nat) (xs l : List Nat), l ∈ pq_pl k xs → l.length = k := by
  intro k
  induction k with
  | zero =>
    intro xs l h
    have h2 : l = [] := List.mem_singleton.mp h
    rw [h2]; rfl
  | succ k ih =>
    intro xs l h
    obtain ⟨x, _, t, ht, rfl⟩ := (pq_pl_s k xs l).mp h
    rw [List.length_cons, ih _ _ ht]
theorem pq_pl_sub : ∀ (k : Nat) (xs l : List Nat), l ∈ pq_pl k xs → ∀ y, y ∈ l → y ∈ xs := by
  intro k
  induction k with
  | zero =>
    intro xs l h y hy
    have h2 : l = [] := List.mem_singleton.mp h
    rw [h2] at hy
    exact absurd hy List.not_mem_nil
  | succ k ih =>
    intro xs l h y hy
    obtain ⟨x, hx, t, ht, rfl⟩ := (pq_pl_s k xs l).mp h
    rcases List.mem_cons.mp hy with h1 | h1
    · rw [h1]; exact hx
    · exact List.mem_of_mem_erase (ih _ _ ht y h1)
theorem pq_pl_nd : ∀ (k : Nat) (xs l : List Nat), xs.Nodup → l ∈ pq_pl k xs → l.Nodup := by
  intro k
  induction k with
  | zero =>
    intro xs l _ h
    have h2 : l = [] := List.mem_singleton.mp h
    rw [h2]; exact List.nodup_nil
  | succ k ih =>
    intro xs l hn h
    obtain ⟨x, hx, t, ht, rfl⟩ := (pq_pl_s k xs l).mp h
    refine List.nodup_cons.mpr ⟨fun hm => ?_, ih _ _ (hn.erase x) ht⟩
    exact hn.not_mem_erase (pq_pl_sub _ _ _ ht x hm)
theorem pq_pl_all : ∀ (k : Nat) (xs l : List Nat), xs.length = k → l ∈ pq_pl k xs → ∀ x, x ∈ xs → x ∈ l := by
  intro k
  induction k with
  | zero =>
    intro xs l hl _ x hx
    rw [List.length_eq_zero_iff.mp hl] at hx
    exact absurd hx List.not_mem_nil
  | succ k ih =>
    intro xs l hl h x hx
    obtain ⟨y, hy, t, ht, rfl⟩ := (pq_pl_s k xs l).mp h
    by_cases e : x = y
    · rw [e]; exact List.mem_cons_self
    · refine List.mem_cons_of_mem _ (ih (xs.erase y) t ?_ ht x ((List.mem_erase_of_ne e).mpr hx))
      rw [List.length_erase_of_mem hy, hl]; rfl
theorem pq_pl_mem : ∀ (k : Nat) (xs l : List Nat), l.length = k → l.Nodup → (∀ y, y ∈ l → y ∈ xs) → l ∈ pq_pl k xs := by
  intro k
  induction k with
  | zero =>
    intro xs l hl _ _
    rw [List.length_eq_zero_iff.mp hl]
    exact List.mem_singleton.mpr rfl
  | succ k ih =>
    intro xs l hl hn hs
    cases l with
    | nil => exact absurd hl (by simp)
    | cons y t =>
      refine (pq_pl_s k xs _).mpr ⟨y, hs y List.mem_cons_self, t, ?_, rfl⟩
      have h2 := List.nodup_cons.mp hn
      refine ih _ _ (by simpa using hl) h2.2 (fun z hz => ?_)
      have e : z ≠ y := fun e => h2.1 (e ▸ hz)
      exact (List.mem_erase_of_ne e).mpr (hs z (List.mem_cons_of_mem _ hz))
theorem pq_row {n r : Nat} (h : r < pq_N n) : (pq_tab n).getD r [] ∈ pq_tab n := by
  unfold pq_N at h
  rw [List.getD_eq_getElem?_getD, List.getElem?_eq_getElem h]
  exact List.getElem_mem h
theorem pq_get {l : List Nat} {p : Nat} (h : p < l.length) : l.getD p 0 = l[p] := by
  rw [List.getD_eq_getElem?_getD, List.getElem?_eq_getElem h]; rfl
theorem pq_rlen {n r : Nat} (h : r < pq_N n) : ((pq_tab n).getD r []).length = n := pq_pl_len _ _ _ (pq_row h)
theorem pq_lt {n r p : Nat} (h : r < pq_N n) (hp : p < n) : pq_pm n r p < n := by
  unfold pq_pm
  have hl : p < ((pq_tab n).getD r []).length := by rw [pq_rlen h]; exact hp
  rw [pq_get hl]
  exact List.mem_range.mp (pq_pl_sub _ _ _ (pq_row h) _ (List.getElem_mem hl))
theorem pq_inj {n r p q : Nat} (h : r < pq_N n) (hp : p < n) (hq : q < n) (e : pq_pm n r p = pq_pm n r q) : p = q := by
  unfold pq_pm at e
  have hl : p < ((pq_tab n).getD r []).length := by rw [pq_rlen h]; exact hp
  have hl2 : q < ((pq_tab n).getD r []).length := by rw [pq_rlen h]; exact hq
  rw [pq_get hl, pq_get hl2] at e
  have hn : ((pq_tab n).getD r []).Nodup := pq_pl_nd _ _ _ List.nodup_range (pq_row h)
  have hn2 := List.pairwise_iff_getElem.mp hn
  rcases Nat.lt_trichotomy p q with c | c | c
  · exact absurd e (hn2 p q hl hl2 c)
  · exact c
  · exact absurd e.symm (hn2 q p hl2 hl c)
theorem pq_sur {n r x : Nat} (h : r < pq_N n) (hx : x < n) : ∃ p, p < n ∧ pq_pm n r p = x := by
  have hm : x ∈ (pq_tab n).getD r [] := pq_pl_all _ _ _ List.length_range (pq_row h) x (List.mem_range.mpr hx)
  obtain ⟨i, hi, e⟩ := List.getElem_of_mem hm
  refine ⟨i, by rw [pq_rlen h] at hi; exact hi, ?_⟩
  unfold pq_pm
  rw [pq_get hi]; exact e
theorem pq_com {n : Nat} (l : List Nat) (hl : l.length = n) (hn : l.Nodup) (hs : ∀ y, y ∈ l → y < n) : ∃ r, r < pq_N n ∧ ∀ p, pq_pm n r p = l.getD p 0 := by
  have hm : l ∈ pq_tab n := pq_pl_mem n (List.range n) l hl hn (fun y hy => List.mem_range.mpr (hs y hy))
  obtain ⟨i, hi, e⟩ := List.getElem_of_mem hm
  refine ⟨i, hi, fun p => ?_⟩
  unfold pq_pm
  rw [List.getD_eq_getElem?_getD (l := pq_tab n), List.getElem?_eq_getElem hi, e]; rfl
/-! the next order -/
def pq_rise (g : Nat → Nat) : Nat → Option Nat
  | 0 => none
  | k + 1 => if g k < g (k + 1) then some k else pq_rise g k
def pq_sw (g : Nat → Nat) (i : Nat) : Nat → Nat
  | 0 => 0
  | k + 1 => if g i < g k then k else pq_sw g i k
def pq_nf (n i j : Nat) (g : Nat → Nat) (p : Nat) : Nat :=
  if p < i then g p else if p = i then g j else if n + i - p = j then g i else g (n + i - p)
def pq_st (n : Nat) (l l' : List Nat) : Bool :=
  match pq_rise (fun p => l.getD p 0) (n - 1) with
  | none => false
  | some i => (List.range n).all (fun p => l'.getD p 0 == pq_nf n i (pq_sw (fun p => l.getD p 0) i n) (fun p => l.getD p 0) p)
def pq_ck (n : Nat) : List (List Nat) → Bool
  | [] => true
  | l :: t =>
    match t with
    | [] => (pq_rise (fun p => l.getD p 0) (n - 1)).isNone
    | l' :: _ => pq_st n l l' && pq_ck n t
theorem pq_ck_at (n : Nat) : ∀ (T : List (List Nat)), pq_ck n T = true → ∀ r, r + 1 < T.length → pq_st n (T.getD r []) (T.getD (r + 1) []) = true := by
  intro T
  induction T with
  | nil => intro _ r h; exact absurd h (by simp)
  | cons l t ih =>
    intro h r hr
    cases t with
    | nil => exact absurd hr (by simp)
    | cons l' t' =>
      have h2 : (pq_st n l l' && pq_ck n (l' :: t')) = true := h
      rw [Bool.and_eq_true] at h2
      cases r with
      | zero => exact h2.1
      | succ r => exact ih h2.2 r (by simpa using hr)
theorem pq_ck_last (n : Nat) : ∀ (T : List (List Nat)), pq_ck n T = true → ∀ r, r + 1 = T.length → pq_rise (fun p => (T.getD r []).getD p 0) (n - 1) = none := by
  intro T
  induction T with
  | nil => intro _ r h; exact absurd h (by simp)
  | cons l t ih =>
    intro h r hr
    cases t with
    | nil =>
      have e : r = 0 := by simpa using hr
      subst e
      have h2 : (pq_rise (fun p => l.getD p 0) (n - 1)).isNone = true := h
      exact Option.isNone_iff_eq_none.mp h2
    | cons l' t' =>
      have h2 : (pq_st n l l' && pq_ck n (l' :: t')) = true := h
      rw [Bool.and_eq_true] at h2
      cases r with
      | zero => exact absurd hr (by simp)
      | succ r => exact ih h2.2 r (by simpa using hr)
theorem pq_ck0 : pq_ck 0 (pq_tab 0) = true := by decide +kernel
theorem pq_ck1 : pq_ck 1 (pq_tab 1) = true := by decide +kernel
theorem pq_ck2 : pq_ck 2 (pq_tab 2) = true := by decide +kernel
theorem pq_ck3 : pq_ck 3 (pq_tab 3) = true := by decide +kernel
theorem pq_ck4 : pq_ck 4 (pq_tab 4) = true := by decide +kernel
theorem pq_ck5 : pq_ck 5 (pq_tab 5) = true := by decide +kernel
theorem pq_ck6 : pq_ck 6 (pq_tab 6) = true := by decide +kernel
theorem pq_n7 {n : Nat} (h : n ≤ 6) {P : Nat → Prop} (h0 : P 0) (h1 : P 1) (h2 : P 2) (h3 : P 3) (h4 : P 4) (h5 : P 5) (h6 : P 6) : P n := by
  rcases n with _ | _ | _ | _ | _ | _ | _ | n
  · exact h0
  · exact h1
  · exact h2
  · exact h3
  · exact h4
  · exact h5
  · exact h6
  · omega
theorem pq_ckn {n : Nat} (h : n ≤ 6) : pq_ck n (pq_tab n) = true := pq_n7 (P := fun n => pq_ck n (pq_tab n) = true) h pq_ck0 pq_ck1 pq_ck2 pq_ck3 pq_ck4 pq_ck5 pq_ck6
theorem pq_N0 : pq_N 0 = 1 := by decide +kernel
theorem pq_N1 : pq_N 1 = 1 := by decide +kernel
theorem pq_N2 : pq_N 2 = 2 := by decide +kernel
theorem pq_N3 : pq_N 3 = 6 := by decide +kernel
theorem pq_N4 : pq_N 4 = 24 := by decide +kernel
theorem pq_N5 : pq_N 5 = 120 := by decide +kernel
theorem pq_N6 : pq_N 6 = 720 := by decide +kernel
theorem pq_Nb {n : Nat} (h : n ≤ 6) : 0 < pq_N n ∧ pq_N n ≤ 720 :=
  pq_n7 (P := fun n => 0 < pq_N n ∧ pq_N n ≤ 720) h (by rw [pq_N0]; omega) (by rw [pq_N1]; omega) (by rw [pq_N2]; omega) (by rw [pq_N3]; omega) (by rw [pq_N4]; omega) (by rw [pq_N5]; omega) (by rw [pq_N6]; omega)
def pq_id (n : Nat) : Bool := (List.range n).all (fun p => pq_pm n 0 p == p)
theorem pq_idn {n : Nat} (h : n ≤ 6) : pq_id n = true := pq_n7 (P := fun n => pq_id n = true) h (by decide +kernel) (by decide +kernel) (by decide +kernel) (by decide +kernel) (by decide +kernel) (by decide +kernel) (by decide +kernel)
theorem pq_first {n p : Nat} (h : n ≤ 6) (hp : p < n) : pq_pm n 0 p = p := by
  have e := pq_idn h
  unfold pq_id at e
  rw [List.all_eq_true] at e
  exact eq_of_beq (e p (List.mem_range.mpr hp))
theorem pq_step {n r : Nat} (h : n ≤ 6) (hr : r + 1 < pq_N n) : ∃ i, pq_rise (pq_pm n r) (n - 1) = some i ∧ ∀ p, p < n → pq_pm n (r + 1) p = pq_nf n i (pq_sw (pq_pm n r) i n) (pq_pm n r) p := by
  have e := pq_ck_at n _ (pq_ckn h) r hr
  unfold pq_st at e
  split at e
  · exact absurd e (by simp)
  · rename_i i hi
    refine ⟨i, hi, fun p hp => ?_⟩
    rw [List.all_eq_true] at e
    exact eq_of_beq (e p (List.mem_range.mpr hp))
theorem pq_end {n r : Nat} (h : n ≤ 6) (hr : r + 1 = pq_N n) : pq_rise (pq_pm n r) (n - 1) = none := pq_ck_last n _ (pq_ckn h) r hr
