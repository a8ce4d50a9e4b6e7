/-! counts; shifted arrays; the relation's pieces -/
noncomputable def cn_t (P : Nat → Prop) : Nat → Nat
  | 0 => 0
  | k + 1 => cn_t P k + ol_if (P k) 1 0
theorem cn_le (P : Nat → Prop) : ∀ k, cn_t P k ≤ k := by
  intro k
  induction k with
  | zero => exact Nat.le_refl 0
  | succ k ih =>
    show cn_t P k + ol_if (P k) 1 0 ≤ k + 1
    rcases Classical.em (P k) with c | c
    · rw [ol_if_t c]; omega
    · rw [ol_if_f c]; omega
theorem cn_y {P : Nat → Prop} {k : Nat} (h : P k) : cn_t P (k + 1) = cn_t P k + 1 := by
  show cn_t P k + ol_if (P k) 1 0 = _
  rw [ol_if_t h]
theorem cn_n {P : Nat → Prop} {k : Nat} (h : ¬ P k) : cn_t P (k + 1) = cn_t P k := by
  show cn_t P k + ol_if (P k) 1 0 = _
  rw [ol_if_f h]; rfl
/-- f' is f with all from q on moved up by one, up to place m -/
def sh_i {α : Type} (q m : Nat) (f f' : Nat → α) : Prop := (∀ k, k < q → f' k = f k) ∧ (∀ k, q < k → k ≤ m → f' k = f (k - 1))
theorem sh_0 {α : Type} {m : Nat} {f : Nat → α} : sh_i m m f f := ⟨fun _ _ => rfl, fun k h1 h2 => by omega⟩
theorem sh_s {q m : Nat} {f f' : Nat → Int32} (h : sh_i (q + 1) m f f') : sh_i q m f (upd f' (q + 1) (f' q)) := by
  constructor
  · intro k hk
    rw [pk_un (by omega)]
    exact h.1 k (by omega)
  · intro k hk hm
    by_cases e : k = q + 1
    · rw [e, pk_us, h.1 q (by omega)]; rfl
    · rw [pk_un e]
      exact h.2 k (by omega) hm
theorem sh_sL {q m : Nat} {f f' : Nat → Int64} (h : sh_i (q + 1) m f f') : sh_i q m f (vp_updL f' (q + 1) (f' q)) := by
  constructor
  · intro k hk
    rw [pk_uLn (by omega)]
    exact h.1 k (by omega)
  · intro k hk hm
    by_cases e : k = q + 1
    · rw [e, pk_uLs, h.1 q (by omega)]; rfl
    · rw [pk_uLn e]
      exact h.2 k (by omega) hm
/-! the relation -/
def re_T (tr rd wr aq rl : Nat → Int32) : Prop := ∀ e, (tr e &&& 1 = 0 ↔ rd e = 0) ∧ (tr e &&& 2 = 0 ↔ wr e = 0) ∧ (tr e &&& 4 = 0 ↔ aq e = 0) ∧ (tr e &&& 8 = 0 ↔ rl e = 0)
def re_S (ds az cs on : Nat → Int32) : Prop := ∀ e, e < 6 → ds e = on (4 * e + 1) ∧ az e = on (4 * e + 2) ∧ cs e = on (4 * e + 3)
def re_W (n A : Nat) (wre wme : Nat → Int32) : Prop := (∀ e, wre e = -1 ∨ ∃ j, j < 16 ∧ wre e = nI j) ∧ (∀ x, wme x = -1 ∨ ∃ j, j < 16 ∧ wme x = nI j) ∧ (∀ e, n ≤ e → e < 6 → wre e = -1) ∧ (∀ x, A ≤ x → x < 3 → wme x = -1)
def re_ok (n F : Nat) (th ad rd wr aq rl on ft fk fp : Nat → Int32) (r : Nat) : Prop := od_ok (mu_M n F th ad rd wr aq rl on ft fk fp) n (pq_pm n r)
def re_key (n : Nat) (ad co rd wr on fi : Nat → Int32) (r : Nat) : Nat := ca_k ad co rd wr on fi n (pq_pm n r)
def re_bef (n r a b : Nat) : Prop := od_bef n (pq_pm n r) a b
def re_X (n m : Nat) (K R : Nat → Nat) (oc : Int32) (xok : Nat → Int64) (xlr : Nat → Int32) : Prop := oc = nI m ∧ ∀ k, k < m → xok k = lN (K k) ∧ xlr k = nI (dg_x (pq_pm n (R k)) n)
def re_Y (n m : Nat) (K R : Nat → Nat) (yo : Int32) (yok : Nat → Int64) (yl : Nat → Int32) : Prop := yo = nI m ∧ ∀ k, k < m → yok k = lN (K k) ∧ yl k = nI (dg_y (pq_pm n (R k)) n)
def re_O (n : Nat) (ok : Nat → Prop) (key : Nat → Nat) (oc : Int32) (xok : Nat → Int64) (xlr : Nat → Int32) (xps : Nat → Int64) (yo : Int32) (yok : Nat → Int64) (yl : Nat → Int32) : Prop :=
  ∃ m K R S, ol_so ok key (pq_N n) = (m, K, R) ∧ ol_pr ok key (re_bef n) (pq_N n) m K S ∧ re_X n m K R oc xok xlr ∧ (∀ k, k < m → xps k = lN (S k)) ∧ re_Y n m K R yo yok yl
/-- an order kept in an array -/
def re_or (n r : Nat) (o : Nat → Int32) : Prop := ∀ p, p < n → o p = nI (pq_pm n r p)
