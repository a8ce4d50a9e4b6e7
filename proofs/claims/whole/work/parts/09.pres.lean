/-! what a call does to the program keeps mu_P -/
def fl_f (f : Nat → Int32) (k : Nat) (v : Int32) : Nat → Int32 := fun j => if j < k then v else f j
theorem fl_0 (f : Nat → Int32) (v : Int32) : fl_f f 0 v = f := funext (fun j => if_neg (Nat.not_lt_zero j))
theorem fl_s (f : Nat → Int32) (k : Nat) (v : Int32) : upd (fl_f f k v) k v = fl_f f (k + 1) v := by
  funext j
  unfold upd fl_f
  by_cases c : j = k
  · rw [if_pos c, if_pos (by omega)]
  · rw [if_neg c]
    by_cases d : j < k
    · rw [if_pos d, if_pos (by omega)]
    · rw [if_neg d, if_neg (by omega)]
theorem fl_lt {f : Nat → Int32} {k j : Nat} {v : Int32} (h : j < k) : fl_f f k v j = v := if_pos h
theorem re_T_up {n : Nat} {tr rd wr aq rl tr' rd' wr' aq' rl' : Nat → Int32} (h : re_T tr rd wr aq rl)
    (hn : (tr' n &&& 1 = 0 ↔ rd' n = 0) ∧ (tr' n &&& 2 = 0 ↔ wr' n = 0) ∧ (tr' n &&& 4 = 0 ↔ aq' n = 0) ∧ (tr' n &&& 8 = 0 ↔ rl' n = 0))
    (ho : ∀ e, e ≠ n → tr' e = tr e ∧ rd' e = rd e ∧ wr' e = wr e ∧ aq' e = aq e ∧ rl' e = rl e) : re_T tr' rd' wr' aq' rl' := by
  intro e
  by_cases c : e = n
  · rw [c]; exact hn
  · obtain ⟨h1, h2, h3, h4, h5⟩ := ho e c
    rw [h1, h2, h3, h4, h5]
    exact h e
theorem mu_app {n A F x : Nat} {th ad co rd wr aq rl on fk fi co' rd' wr' aq' rl' : Nat → Int32} {t : Int32} (h : mu_P n A F th ad co rd wr aq rl on fk fi) (hn : n < 6) (hx : x < A)
    (hf : (rd' n = 0 ∨ rd' n = 1) ∧ (wr' n = 0 ∨ wr' n = 1) ∧ (aq' n = 0 ∨ aq' n = 1) ∧ (rl' n = 0 ∨ rl' n = 1))
    (ho : ∀ e, e ≠ n → rd' e = rd e ∧ wr' e = wr e ∧ aq' e = aq e ∧ rl' e = rl e) : mu_P (n + 1) A F (upd th n t) (upd ad n (nI x)) co' rd' wr' aq' rl' on fk fi := by
  obtain ⟨h1, h2, h3, h4, h5, h6, h7, h8⟩ := h
  refine ⟨by omega, ?_, h3, ?_, ?_, h6, h7, ?_⟩
  · intro e he
    by_cases c : e = n
    · rw [c, pk_us]; exact ⟨x, hx, rfl⟩
    · rw [pk_un c]; exact h2 e (by omega)
  · intro e c he hc1 hc2
    by_cases d : e = n
    · rw [d]; exact Or.inl (h5 n c (Nat.le_refl n) hn hc1 hc2)
    · rcases h4 e c (by omega) hc1 hc2 with h9 | ⟨j, hj, ej, tj⟩
      · exact Or.inl h9
      · refine Or.inr ⟨j, hj, ej, ?_⟩
        rw [pk_un (by omega), pk_un (by omega)]; exact tj
  · intro e c he h6' hc1 hc2
    exact h5 e c (by omega) h6' hc1 hc2
  · intro e
    by_cases d : e = n
    · rw [d]; exact hf
    · obtain ⟨q1, q2, q3, q4⟩ := ho e d
      rw [q1, q2, q3, q4]; exact h8 e
theorem mu_fen {n A F : Nat} {th ad co rd wr aq rl on fk fi : Nat → Int32} {kd : Int32} (h : mu_P n A F th ad co rd wr aq rl on fk fi) (hF : F < 8) (hk : kd = 1 ∨ kd = 2 ∨ kd = 3) : mu_P n A (F + 1) th ad co rd wr aq rl on (upd fk F kd) fi := by
  obtain ⟨h1, h2, h3, h4⟩ := h
  refine ⟨by omega, h2, ?_, h4⟩
  intro g hg
  by_cases c : g = F
  · rw [c, pk_us]; exact hk
  · rw [pk_un c]; exact h3 g (by omega)
theorem mu_dep {n A F l e k : Nat} {th ad co rd wr aq rl on fk fi : Nat → Int32} (h : mu_P n A F th ad co rd wr aq rl on fk fi) (hl : l < n) (he : e < l) (ht : th e = th l) (hk1 : 1 ≤ k) (hk2 : k ≤ 3) : mu_P n A F th ad co rd wr aq rl (upd on (4 * l + k) (nI e)) fk fi := by
  obtain ⟨h1, h2, h3, h4, h5, h6⟩ := h
  refine ⟨h1, h2, h3, ?_, ?_, h6⟩
  · intro e' c he' hc1 hc2
    by_cases d : 4 * e' + c = 4 * l + k
    · rw [d, pk_us]
      have : e' = l := by omega
      subst this
      exact Or.inr ⟨e, he, rfl, ht⟩
    · rw [pk_un d]; exact h4 e' c he' hc1 hc2
  · intro e' c hn he' hc1 hc2
    rw [pk_un (by omega)]; exact h5 e' c hn he' hc1 hc2
theorem re_S_up {l e k : Nat} {ds az cs ds' az' cs' on : Nat → Int32} (h : re_S ds az cs on) (hl : l < 6) (hk1 : 1 ≤ k) (hk2 : k ≤ 3)
    (h1 : ds' = if k = 1 then upd ds l (nI e) else ds) (h2 : az' = if k = 2 then upd az l (nI e) else az) (h3 : cs' = if k = 3 then upd cs l (nI e) else cs) : re_S ds' az' cs' (upd on (4 * l + k) (nI e)) := by
  intro i hi
  obtain ⟨q1, q2, q3⟩ := h i hi
  have hk : k = 1 ∨ k = 2 ∨ k = 3 := by omega
  by_cases c : i = l
  · subst c
    rcases hk with rfl | rfl | rfl
    · subst h1 h2 h3
      refine ⟨?_, ?_, ?_⟩
      · rw [if_pos rfl, pk_us, pk_us]
      · rw [pk_un (by omega)]; exact q2
      · rw [pk_un (by omega)]; exact q3
    · subst h1 h2 h3
      refine ⟨?_, ?_, ?_⟩
      · rw [pk_un (by omega)]; exact q1
      · rw [if_pos rfl, pk_us, pk_us]
      · rw [pk_un (by omega)]; exact q3
    · subst h1 h2 h3
      refine ⟨?_, ?_, ?_⟩
      · rw [pk_un (by omega)]; exact q1
      · rw [pk_un (by omega)]; exact q2
      · rw [if_pos rfl, pk_us, pk_us]
  · have e1 : ds' i = ds i := by
      rw [h1]; split
      · exact pk_un c
      · rfl
    have e2 : az' i = az i := by
      rw [h2]; split
      · exact pk_un c
      · rfl
    have e3 : cs' i = cs i := by
      rw [h3]; split
      · exact pk_un c
      · rfl
    rw [e1, e2, e3, pk_un (by omega), pk_un (by omega), pk_un (by omega)]
    exact ⟨q1, q2, q3⟩
theorem mu_ini {n A F x j : Nat} {th ad co rd wr aq rl on fk fi : Nat → Int32} (h : mu_P n A F th ad co rd wr aq rl on fk fi) (hx : x < A) (hj : j < 16) : mu_P n A F th ad co rd wr aq rl on fk (upd fi x (nI j)) := by
  obtain ⟨h1, h2, h3, h4, h5, h6, h7, h8⟩ := h
  refine ⟨h1, h2, h3, h4, h5, ?_, ?_, h8⟩
  · intro y
    by_cases c : y = x
    · rw [c, pk_us]; exact ⟨j, hj, rfl⟩
    · rw [pk_un c]; exact h6 y
  · intro y hy hy3
    rw [pk_un (by omega)]; exact h7 y hy hy3
theorem mu_clr {n A F : Nat} {th ad co rd wr aq rl on fk fi : Nat → Int32} (h : mu_P n A F th ad co rd wr aq rl on fk fi) : mu_P 0 A 0 th ad co rd wr aq rl (fl_f on 24 (-1)) fk (fl_f fi 3 0) := by
  obtain ⟨h1, h2, h3, h4, h5, h6, h7, h8⟩ := h
  refine ⟨by omega, fun e he => by omega, fun g hg => by omega, fun e c he => by omega, ?_, ?_, ?_, h8⟩
  · intro e c _ he hc1 hc2
    exact fl_lt (by omega)
  · intro x
    by_cases c : x < 3
    · rw [fl_lt c]; exact ⟨0, by omega, rfl⟩
    · have : fl_f fi 3 0 x = fi x := if_neg c
      rw [this]; exact h6 x
  · intro x _ hx
    exact fl_lt hx
theorem re_S_clr {ds az cs on : Nat → Int32} : re_S (fl_f ds 6 (-1)) (fl_f az 6 (-1)) (fl_f cs 6 (-1)) (fl_f on 24 (-1)) := by
  intro e he
  rw [fl_lt he, fl_lt he, fl_lt he, fl_lt (by omega), fl_lt (by omega), fl_lt (by omega)]
  exact ⟨rfl, rfl, rfl⟩
theorem re_W_clr {n n' A : Nat} {wre wme : Nat → Int32} (h : re_W n A wre wme) : re_W n' A (fl_f wre 6 (-1)) (fl_f wme 3 (-1)) := by
  obtain ⟨h1, h2, h3, h4⟩ := h
  refine ⟨?_, ?_, fun e _ he => fl_lt he, fun x _ hx => fl_lt hx⟩
  · intro e
    by_cases c : e < 6
    · rw [fl_lt c]; exact Or.inl rfl
    · have : fl_f wre 6 (-1) e = wre e := if_neg c
      rw [this]; exact h1 e
  · intro x
    by_cases c : x < 3
    · rw [fl_lt c]; exact Or.inl rfl
    · have : fl_f wme 3 (-1) x = wme x := if_neg c
      rw [this]; exact h2 x
theorem re_W_app {n A : Nat} {wre wme : Nat → Int32} (h : re_W n A wre wme) : re_W (n + 1) A wre wme :=
  ⟨h.1, h.2.1, fun e he h6 => h.2.2.1 e (by omega) h6, h.2.2.2⟩
theorem re_W_r {n A e : Nat} {v : Int32} {wre wme : Nat → Int32} (h : re_W n A wre wme) (he : e < n) (hv : v = -1 ∨ ∃ j, j < 16 ∧ v = nI j) : re_W n A (upd wre e v) wme := by
  refine ⟨?_, h.2.1, ?_, h.2.2.2⟩
  · intro i
    by_cases c : i = e
    · rw [c, pk_us]; exact hv
    · rw [pk_un c]; exact h.1 i
  · intro i hi h6
    rw [pk_un (by omega)]; exact h.2.2.1 i hi h6
theorem re_W_m {n A x : Nat} {v : Int32} {wre wme : Nat → Int32} (h : re_W n A wre wme) (hx : x < A) (hv : v = -1 ∨ ∃ j, j < 16 ∧ v = nI j) : re_W n A wre (upd wme x v) := by
  refine ⟨h.1, ?_, h.2.2.1, ?_⟩
  · intro i
    by_cases c : i = x
    · rw [c, pk_us]; exact hv
    · rw [pk_un c]; exact h.2.1 i
  · intro i hi h3
    rw [pk_un (by omega)]; exact h.2.2.2 i hi h3
