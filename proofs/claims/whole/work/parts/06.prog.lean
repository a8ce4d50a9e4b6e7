/-! the program: which event must precede which; what a run does -/
def mu_G (th rd wr ft fk fp : Nat → Int32) (a b g : Nat) : Prop :=
  ft g = th a ∧ ¬ fp g ≤ nI a ∧ ¬ nI b < fp g ∧ (fk g = 3 ∨ (fk g = 1 ∧ ¬ rd a = 0) ∨ (fk g = 2 ∧ ¬ wr a = 0 ∧ ¬ wr b = 0))
def mu_F (F : Nat) (th rd wr ft fk fp : Nat → Int32) (a b : Nat) : Prop := ∃ g, g < F ∧ mu_G th rd wr ft fk fp a b g
def mu_D (wr on : Nat → Int32) (a b : Nat) : Prop :=
  on (4 * b + 1) = nI a ∨ on (4 * b + 2) = nI a ∨ (on (4 * b + 3) = nI a ∧ ¬ wr b = 0) ∨ (∃ c, c < b ∧ on (4 * c + 2) = nI a ∧ ¬ wr b = 0)
def mu_A (aq rl : Nat → Int32) (a b : Nat) : Prop := ¬ aq a = 0 ∨ ¬ rl b = 0 ∨ (¬ rl a = 0 ∧ ¬ aq b = 0)
def mu_M (n F : Nat) (th ad rd wr aq rl on ft fk fp : Nat → Int32) (a b : Nat) : Prop :=
  (a < b ∧ b < n) ∧ th a = th b ∧ (ad a = ad b ∨ mu_F F th rd wr ft fk fp a b ∨ mu_A aq rl a b ∨ mu_D wr on a b)
theorem mu_M_lt {n F : Nat} {th ad rd wr aq rl on ft fk fp : Nat → Int32} : ∀ a b, mu_M n F th ad rd wr aq rl on ft fk fp a b → a < b ∧ b < n := fun _ _ h => h.1
/-- what holds of a program: n events, A addresses, F fences -/
def mu_P (n A F : Nat) (th ad co rd wr aq rl on fk fi : Nat → Int32) : Prop :=
  (n ≤ 6 ∧ 1 ≤ A ∧ A ≤ 3 ∧ F ≤ 8) ∧ (∀ e, e < n → ∃ j, j < A ∧ ad e = nI j) ∧ (∀ g, g < F → fk g = 1 ∨ fk g = 2 ∨ fk g = 3)
  ∧ (∀ e c, e < n → 1 ≤ c → c ≤ 3 → on (4 * e + c) = -1 ∨ ∃ j, j < e ∧ on (4 * e + c) = nI j ∧ th j = th e)
  ∧ (∀ e c, n ≤ e → e < 6 → 1 ≤ c → c ≤ 3 → on (4 * e + c) = -1)
  ∧ (∀ x, ∃ j, j < 16 ∧ fi x = nI j) ∧ (∀ x, A ≤ x → x < 3 → fi x = 0)
  ∧ (∀ e, (rd e = 0 ∨ rd e = 1) ∧ (wr e = 0 ∨ wr e = 1) ∧ (aq e = 0 ∨ aq e = 1) ∧ (rl e = 0 ∨ rl e = 1))
section
variable (ad co rd wr on fi : Nat → Int32)
def ca_v (mem got : Nat → Int32) (e : Nat) : Int32 :=
  ((if rd e = 0 then 0 else mem (ad e).toNatClampNeg) + co e + (if on (4 * e + 1) < 0 then 0 else got (on (4 * e + 1)).toNatClampNeg)) &&& 15
def ca_m (mem got : Nat → Int32) (e : Nat) : Nat → Int32 := if wr e = 0 then mem else upd mem (ad e).toNatClampNeg (ca_v ad co rd on mem got e)
def ca_g (mem got : Nat → Int32) (e : Nat) : Nat → Int32 := if rd e = 0 then got else upd got e (mem (ad e).toNatClampNeg)
def ca_s (g : Nat → Nat) : Nat → (Nat → Int32) × (Nat → Int32)
  | 0 => (fi, fun _ => 0)
  | p + 1 => (ca_m ad co rd wr on (ca_s g p).1 (ca_s g p).2 (g p), ca_g ad rd (ca_s g p).1 (ca_s g p).2 (g p))
def ca_d (n : Nat) (g : Nat → Nat) (i : Nat) : Nat :=
  if i < 6 then ((ca_s ad co rd wr on fi g n).2 i).toNatClampNeg else ((ca_s ad co rd wr on fi g n).1 (i - 6)).toNatClampNeg
def ca_k (n : Nat) (g : Nat → Nat) : Nat := dg_z (ca_d ad co rd wr on fi n g) 9
end
theorem ca_v16 {ad co rd on mem got : Nat → Int32} {e : Nat} : ∃ j, j < 16 ∧ ca_v ad co rd on mem got e = nI j := pk_andE _ 4 (by decide)
theorem ca_rng {ad co rd wr on fi : Nat → Int32} (hf : ∀ x, ∃ j, j < 16 ∧ fi x = nI j) (g : Nat → Nat) : ∀ p, (∀ x, ∃ j, j < 16 ∧ (ca_s ad co rd wr on fi g p).1 x = nI j) ∧ (∀ e, ∃ j, j < 16 ∧ (ca_s ad co rd wr on fi g p).2 e = nI j) := by
  intro p
  induction p with
  | zero => exact ⟨hf, fun e => ⟨0, by omega, rfl⟩⟩
  | succ p ih =>
    obtain ⟨h1, h2⟩ := ih
    constructor
    · intro x
      show ∃ j, j < 16 ∧ ca_m ad co rd wr on _ _ _ x = nI j
      unfold ca_m
      split
      · exact h1 x
      · by_cases c : x = (ad (g p)).toNatClampNeg
        · rw [c, pk_us]; exact ca_v16
        · rw [pk_un c]; exact h1 x
    · intro e
      show ∃ j, j < 16 ∧ ca_g ad rd _ _ _ e = nI j
      unfold ca_g
      split
      · exact h2 e
      · by_cases c : e = g p
        · rw [c, pk_us]; exact h1 _
        · rw [pk_un c]; exact h2 e
theorem ca_g0 {ad co rd wr on fi : Nat → Int32} (g : Nat → Nat) (e : Nat) : ∀ p, (∀ q, q < p → g q ≠ e) → (ca_s ad co rd wr on fi g p).2 e = 0 := by
  intro p
  induction p with
  | zero => intro _; rfl
  | succ p ih =>
    intro h
    show ca_g ad rd _ _ _ e = 0
    unfold ca_g
    split
    · exact ih (fun q hq => h q (by omega))
    · rw [pk_un (fun z => h p (by omega) z.symm)]
      exact ih (fun q hq => h q (by omega))
theorem ca_m0 {ad co rd wr on fi : Nat → Int32} (g : Nat → Nat) (x : Nat) : ∀ p, (∀ q, q < p → (ad (g q)).toNatClampNeg ≠ x) → (ca_s ad co rd wr on fi g p).1 x = fi x := by
  intro p
  induction p with
  | zero => intro _; rfl
  | succ p ih =>
    intro h
    show ca_m ad co rd wr on _ _ _ x = fi x
    unfold ca_m
    split
    · exact ih (fun q hq => h q (by omega))
    · rw [pk_un (fun z => h p (by omega) z.symm)]
      exact ih (fun q hq => h q (by omega))
theorem ca_sc {ad co rd wr on fi : Nat → Int32} (g g' : Nat → Nat) : ∀ p, (∀ q, q < p → g q = g' q) → ca_s ad co rd wr on fi g p = ca_s ad co rd wr on fi g' p := by
  intro p
  induction p with
  | zero => intro _; rfl
  | succ p ih =>
    intro h
    show (ca_m ad co rd wr on (ca_s ad co rd wr on fi g p).1 (ca_s ad co rd wr on fi g p).2 (g p), ca_g ad rd (ca_s ad co rd wr on fi g p).1 (ca_s ad co rd wr on fi g p).2 (g p)) = (ca_m ad co rd wr on (ca_s ad co rd wr on fi g' p).1 (ca_s ad co rd wr on fi g' p).2 (g' p), ca_g ad rd (ca_s ad co rd wr on fi g' p).1 (ca_s ad co rd wr on fi g' p).2 (g' p))
    rw [ih (fun q hq => h q (by omega)), h p (by omega)]
theorem ca_cl {x : Int32} (h : ∃ j, j < 16 ∧ x = nI j) : x.toNatClampNeg < 16 ∧ x = nI x.toNatClampNeg := by
  obtain ⟨j, hj, rfl⟩ := h
  rw [nI_clamp (by omega)]
  exact ⟨hj, rfl⟩
theorem ca_d16 {ad co rd wr on fi : Nat → Int32} (hf : ∀ x, ∃ j, j < 16 ∧ fi x = nI j) (n : Nat) (g : Nat → Nat) (i : Nat) : ca_d ad co rd wr on fi n g i < 16 := by
  unfold ca_d
  obtain ⟨h1, h2⟩ := ca_rng (ad := ad) (co := co) (rd := rd) (wr := wr) (on := on) hf g n
  split
  · exact (ca_cl (h2 i)).1
  · exact (ca_cl (h1 (i - 6))).1
theorem ca_klt {ad co rd wr on fi : Nat → Int32} (hf : ∀ x, ∃ j, j < 16 ∧ fi x = nI j) (n : Nat) (g : Nat → Nat) : ca_k ad co rd wr on fi n g < 2 ^ 36 := by
  have h := dg_z_lt (ca_d ad co rd wr on fi n g) 9 (fun i _ => ca_d16 hf n g i)
  exact h
/-- a source of data has been carried out before, in a run -/
theorem ca_src {n A F r p j : Nat} {th ad co rd wr aq rl on ft fk fp fi : Nat → Int32} (hP : mu_P n A F th ad co rd wr aq rl on fk fi) (hr : r < pq_N n) (ho : od_ok (mu_M n F th ad rd wr aq rl on ft fk fp) n (pq_pm n r)) (hp : p < n)
    (e : on (4 * pq_pm n r p + 1) = nI j) (hj : j < 2 ^ 31) : ∃ q, q < p ∧ pq_pm n r q = j := by
  obtain ⟨h0, _, _, h4, _⟩ := hP
  have hl := pq_lt hr hp
  rcases h4 (pq_pm n r p) 1 hl (by omega) (by omega) with h | ⟨i, hi, ei, et⟩
  · rw [e] at h
    have h5 := congrArg Int32.toInt h
    rw [nI_toInt hj] at h5
    have h6 : (-1 : Int32).toInt = -1 := by decide
    omega
  · rw [e, nI_eq hj (by omega)] at ei
    subst ei
    obtain ⟨q, hq, eq⟩ := pq_sur hr (show j < n by omega)
    refine ⟨q, ?_, eq⟩
    rcases Nat.lt_trichotomy q p with c | c | c
    · exact c
    · subst c
      omega
    · have h7 := ho p q c hq
      rw [eq] at h7
      exact absurd ⟨⟨hi, hl⟩, et, Or.inr (Or.inr (Or.inr (Or.inl e)))⟩ h7
