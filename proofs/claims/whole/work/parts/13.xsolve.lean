/-! the class: the list of outcomes, solve -/
def si_i {α : Type} (j m : Nat) (x : α) (f f' : Nat → α) : Prop := f' j = x ∧ (∀ k, k < j → f' k = f k) ∧ (∀ k, j < k → k ≤ m → f' k = f (k - 1))
theorem si_s {j m : Nat} {x : Int32} {f f' : Nat → Int32} (h : sh_i j m f f') : si_i j m x f (upd f' j x) :=
  ⟨pk_us, fun k hk => by rw [pk_un (by omega)]; exact h.1 k hk, fun k h1 h2 => by rw [pk_un (by omega)]; exact h.2 k h1 h2⟩
theorem si_sL {j m : Nat} {x : Int64} {f f' : Nat → Int64} (h : sh_i j m f f') : si_i j m x f (vp_updL f' j x) :=
  ⟨pk_uLs, fun k hk => by rw [pk_uLn (by omega)]; exact h.1 k hk, fun k h1 h2 => by rw [pk_uLn (by omega)]; exact h.2 k h1 h2⟩
def so_mo (N i : Nat) : Int32 := if i < N then 1 else 0
theorem so_mo1 {N i : Nat} (h : i < N) : so_mo N i = 1 := if_pos h
theorem so_mo0 {N i : Nat} (h : ¬ i < N) : so_mo N i = 0 := if_neg h
section
variable {tc ac ec fc sv oc : Int32} {xth xad xco xtr xft xfk xfp xds xas xcs xfi xwr xwm xbo xor xme xvr xlr : Nat → Int32} {xok xps : Nat → Int64} {n A F r m : Nat} {rd wr aq rl on : Nat → Int32} {K R S : Nat → Nat}
theorem xw_place {post : Int32 → Prop} {x : Nat} (hm : m ≤ 180) (hx : x < 2 ^ 36) (hK : ∀ k, k < m → K k < 2 ^ 36) (hok : ∀ k, k < m → xok k = lN (K k))
    (hp : ∀ q, q ≤ m → (∀ k, k < q → K k < x) → (q < m → x ≤ K q) → post (nI q)) : wpX_placeOfKey post (tc, ac, ec, fc, sv, nI m, xth, xad, xco, xtr, xft, xfk, xfp, xds, xas, xcs, xfi, xwr, xwm, xbo, xor, xme, xvr, xok, xlr, xps) (lN x) := by
  unfold wpX_placeOfKey
  refine pk_loop (σ := Unit) (fun f i _ => wX_placeOfKey_2 post (lN x) tc ac ec fc sv (nI m) xth xad xco xtr xft xfk xfp xds xas xcs xfi xwr xwm xbo xor xme xvr xok xlr xps f (nI i)) (fun i _ => ∀ k, k < i → K k < x) m 0 () (by omega) (fun k h => by omega) ?_ ?_
  · exact fun f _ hI => br_t (nI_le (Nat.le_refl m) (by omega)) (hp m (Nat.le_refl m) hI (fun h => by omega))
  · intro f i _ hi hI ih
    have hKi := hK i hi
    refine br_f (nI_ge hi (by omega)) ⟨vp_in_nI (by omega) (by omega), ?_⟩
    rw [nI_clamp (show i < 2 ^ 31 by omega), hok i hi, pk_lLT (by omega) (by omega)]
    refine br_c (fun c => nm_r (nI_1 i) (ih () (fun k hk => ?_))) (fun c => hp i (by omega) hI (fun _ => by omega))
    by_cases e : k = i
    · rw [e]; exact c
    · exact hI k (by omega)
theorem xw_insert {post : SX → Prop} {j : Nat} {key : Int64} (hn : n ≤ 6) (hr : r < pq_N n) (ho : re_or n r xor) (hm : m < 180) (hj : j ≤ m)
    (hp : ∀ ok' lr' ps', si_i j m key xok ok' → si_i j m (nI (dg_x (pq_pm n r) n)) xlr lr' → si_i j m 0 xps ps' → post (tc, ac, nI n, fc, sv, nI (m + 1), xth, xad, xco, xtr, xft, xfk, xfp, xds, xas, xcs, xfi, xwr, xwm, xbo, xor, xme, xvr, ok', lr', ps')) : wpX_insertOutcome post (tc, ac, nI n, fc, sv, nI m, xth, xad, xco, xtr, xft, xfk, xfp, xds, xas, xcs, xfi, xwr, xwm, xbo, xor, xme, xvr, xok, xlr, xps) (nI j) key := by
  have vj : vp_in (nI j) 180 := vp_in_nI (by omega) (by omega)
  unfold wpX_insertOutcome
  have hl := pk_loopD (σ := (Nat → Int64) × (Nat → Int32) × (Nat → Int64)) (fun f d s => wX_insertOutcome_6 post (nI j) key tc ac (nI n) fc sv (nI m) f (nI (j + d)) xth xad xco xtr xft xfk xfp xds xas xcs xfi xwr xwm xbo xor xme xvr s.1 s.2.1 s.2.2) (fun d s => j + d ≤ m ∧ sh_i (j + d) m xok s.1 ∧ sh_i (j + d) m xlr s.2.1 ∧ sh_i (j + d) m xps s.2.2) ?_ ?_ (m - j) (xok, xlr, xps) ?_
  · rw [show j + (m - j) = m by omega] at hl
    exact ⟨_, hl⟩
  · intro f s hI
    refine br_t (nI_le (Nat.le_refl j) (by omega)) ⟨vj, ?_⟩
    rw [nI_clamp (show j < 2 ^ 31 by omega)]
    exact nm_e (xw_pack hn hr ho ⟨vj, nm_e ⟨vj, nm_e (nm_r (nI_1 m) (hp _ _ _ (si_sL hI.2.1) (si_s hI.2.2.1) (si_sL hI.2.2.2)))⟩⟩)
  · intro f d s hI ih
    have hb := hI.1
    have v0 : vp_in (nI (j + d)) 180 := vp_in_nI (by omega) (by omega)
    have v1 : vp_in (nI (j + d + 1)) 180 := vp_in_nI (by omega) (by omega)
    refine br_f (nI_ge (by omega) (by omega)) ?_
    rw [show j + (d + 1) = j + d + 1 from rfl, nI_pred (j + d), nI_clamp (show j + d < 2 ^ 31 by omega), nI_clamp (show j + d + 1 < 2 ^ 31 by omega)]
    exact ⟨v0, v1, nm_e ⟨v0, v1, nm_e ⟨v0, v1, nm_e (nm_r (pk_m1 (j + d)) (ih (_, _, _) ⟨by omega, sh_sL hI.2.1, sh_s hI.2.2.1, sh_sL hI.2.2.2⟩))⟩⟩⟩
  · rw [show j + (m - j) = m by omega]
    exact ⟨Nat.le_refl m, sh_0, sh_0, sh_0⟩
theorem xw_k47 {post : SX → Prop} {j : Nat} (hn : n ≤ 6) (hr : r < pq_N n) (ho : re_or n r xor) (hj : j < 180)
    (hp : ∀ B, (B < 2 ^ 36 ∧ ∀ a b, a < 6 → b < 6 → (B.testBit (a * 6 + b) = true ↔ re_bef n r a b)) → post (tc, ac, nI n, fc, sv, oc, xth, xad, xco, xtr, xft, xfk, xfp, xds, xas, xcs, xfi, xwr, xwm, xbo, xor, xme, xvr, xok, xlr, vp_updL xps j (xps j ||| lN B))) : wX_keepOutcome_47 post (nI j) tc ac (nI n) fc sv oc xth xad xco xtr xft xfk xfp xds xas xcs xfi xwr xwm xbo xor xme xvr xok xlr xps := by
  have vj : vp_in (nI j) 180 := vp_in_nI (by omega) (by omega)
  unfold wX_keepOutcome_47
  rw [nI_clamp (show j < 2 ^ 31 by omega)]
  exact ⟨vj, xw_pairs hn hr ho (fun B hB => ⟨vj, nm_e (hp B hB)⟩)⟩
/-- the list after r rounds, as the class keeps it -/
def xl_I (n : Nat) (ok : Nat → Prop) (key : Nat → Nat) (r : Nat) (oc : Int32) (xok : Nat → Int64) (xlr : Nat → Int32) (xps : Nat → Int64) : Prop :=
  ∃ m K R S, ol_so ok key r = (m, K, R) ∧ ol_pr ok key (re_bef n) r m K S ∧ re_X n m K R oc xok xlr ∧ (∀ k, k < m → xps k = lN (S k))
theorem xw_keep {post : SX → Prop} (hP : mu_P n A F xth xad xco rd wr aq rl on xfk xfi) (hr : r < pq_N n) (ho : re_or n r xor)
    (hm : ∀ y, y < A → xme y = (ca_s xad xco rd wr on xfi (pq_pm n r) n).1 y) (hv : ∀ e, e < n → xvr e = (ca_s xad xco rd wr on xfi (pq_pm n r) n).2 e)
    (hk : re_ok n F xth xad rd wr aq rl on xft xfk xfp r)
    (hI : xl_I n (re_ok n F xth xad rd wr aq rl on xft xfk xfp) (re_key n xad xco rd wr on xfi) r oc xok xlr xps)
    (hp : ∀ oc' ok' lr' ps', xl_I n (re_ok n F xth xad rd wr aq rl on xft xfk xfp) (re_key n xad xco rd wr on xfi) (r + 1) oc' ok' lr' ps' → post (tc, nI A, nI n, fc, sv, oc', xth, xad, xco, xtr, xft, xfk, xfp, xds, xas, xcs, xfi, xwr, xwm, xbo, xor, xme, xvr, ok', lr', ps')) : wpX_keepOutcome post (tc, nI A, nI n, fc, sv, oc, xth, xad, xco, xtr, xft, xfk, xfp, xds, xas, xcs, xfi, xwr, xwm, xbo, xor, xme, xvr, xok, xlr, xps) := by
  obtain ⟨m, K, R, S, e0, h1, ⟨rfl, h2⟩, h3⟩ := hI
  have hn := hP.1.1
  obtain ⟨i1, i2, i3, i4⟩ := ol_inv_all _ _ r m K R e0
  have hkl : ∀ s, re_key n xad xco rd wr on xfi s < 2 ^ 36 := fun s => ca_klt hP.2.2.2.2.2.1 n _
  have hKl : ∀ k, k < m → K k < 2 ^ 36 := fun k hk' => by rw [(i4 k hk').2.2]; exact hkl _
  unfold wpX_keepOutcome
  refine xw_key hP hr hm hv (xw_place i2 (hkl r) hKl (fun k hk' => (h2 k hk').1) (fun q hq hlo hhi => ?_))
  have h30 : (q = m ∨ K q ≠ re_key n xad xco rd wr on xfi r) → wX_keepOutcome_30 post (lN (re_key n xad xco rd wr on xfi r)) (nI q) tc (nI A) (nI n) fc sv (nI m) xth xad xco xtr xft xfk xfp xds xas xcs xfi xwr xwm xbo xor xme xvr xok xlr xps := by
    intro hne
    obtain ⟨hnew, hps⟩ := ol_fst i1 hq hlo hhi hne
    unfold wX_keepOutcome_30
    refine pk_lt m 180 (fun hm180 => ?_) (fun hm180 => ?_)
    · refine xw_insert hn hr ho hm180 hq (fun ok' lr' ps' s1 s2 s3 => xw_k47 hn hr ho (by omega) (fun B hB => hp _ _ _ _ ?_))
      have e1 := ol_so_y e0 ⟨hk, hnew, hm180⟩
      rw [hps] at e1
      refine ⟨_, _, _, ol_ins q B S, e1, ol_pr_y h1 hk hq hnew (i3 hm180) hB ol_ins_eq (fun k hk' => ol_ins_lt hk') (fun k hk' _ => ol_ins_gt hk'), ⟨rfl, fun k hk' => ?_⟩, fun k hk' => ?_⟩
      · rcases Nat.lt_trichotomy k q with c | c | c
        · rw [ol_ins_lt c, ol_ins_lt c, s1.2.1 k c, s2.2.1 k c]
          exact h2 k (by omega)
        · rw [c, ol_ins_eq, ol_ins_eq]
          exact ⟨s1.1, s2.1⟩
        · rw [ol_ins_gt c, ol_ins_gt c, s1.2.2 k c (by omega), s2.2.2 k c (by omega)]
          exact h2 (k - 1) (by omega)
      · rcases Nat.lt_trichotomy k q with c | c | c
        · rw [ol_ins_lt c, pk_uLn (by omega), s3.2.1 k c]
          exact h3 k (by omega)
        · rw [c, ol_ins_eq, pk_uLs, s3.1, Int64.zero_or]
        · rw [ol_ins_gt c, pk_uLn (by omega), s3.2.2 k c (by omega)]
          exact h3 (k - 1) (by omega)
    · exact hp _ _ _ _ ⟨m, K, R, S, ol_so_n e0 (fun z => by have := z.2.2; omega), ol_pr_n h1 (fun _ => hnew), ⟨rfl, h2⟩, h3⟩
  refine pk_eq q m (fun e => h30 (Or.inl e)) (fun e => ⟨vp_in_nI (by omega) (by omega), ?_⟩)
  have hqm : q < m := by omega
  rw [nI_clamp (show q < 2 ^ 31 by omega), (h2 q hqm).1, pk_lEQ (by have := hKl q hqm; omega) (by have := hkl r; omega)]
  refine br_c (fun c => ?_) (fun c => h30 (Or.inr c))
  refine xw_k47 hn hr ho (by omega) (fun B hB => hp _ _ _ _ ?_)
  refine ⟨m, K, R, (fun k => if k = q then S q ||| B else S k), ol_so_n e0 (fun z => z.2.1 q hqm c), ol_pr_f i1 h1 hk hqm c hB (if_pos rfl) (fun k _ hne => if_neg hne), ⟨rfl, h2⟩, fun k hk' => ?_⟩
  by_cases e2 : k = q
  · rw [e2, pk_uLs, h3 q hqm, wb_or (by have := (h1 q hqm).1; omega) (by have := hB.1; omega)]
    exact congrArg lN (if_pos rfl).symm
  · rw [pk_uLn e2, h3 k hk']
    exact congrArg lN (if_neg e2).symm
theorem xw_43 {post : Int32 → SX → Prop} {f i : Nat} (hn : n ≤ 6) (hi : i < pq_N n) (ho : re_or n i xor)
    (ih : ∀ o', (i + 1 < pq_N n → re_or n (i + 1) o') → wX_solve_17 post f (so_mo (pq_N n) (i + 1)) (nI (i + 1)) tc ac (nI n) fc sv oc xth xad xco xtr xft xfk xfp xds xas xcs xfi xwr xwm xbo o' xme xvr xok xlr xps) : wX_solve_43 post (wX_solve_17 post f) (nI i) tc ac (nI n) fc sv oc xth xad xco xtr xft xfk xfp xds xas xcs xfi xwr xwm xbo xor xme xvr xok xlr xps := by
  unfold wX_solve_43
  refine xw_next hn hi ho (fun h => nm_r (nI_1 i) ?_) (fun h o' ho' => nm_r (nI_1 i) ?_)
  · have z := ih xor (fun h2 => by omega)
    rw [so_mo0 (by omega)] at z
    exact z
  · have z := ih o' (fun _ => ho')
    rw [so_mo1 h] at z
    exact z
theorem xw_solve {post : Int32 → SX → Prop} (hP : mu_P n A F xth xad xco rd wr aq rl on xfk xfi) (hT : re_T xtr rd wr aq rl) (hS : re_S xds xas xcs on)
    (hp : ∀ bo' or' me' vr' oc' ok' lr' ps', xl_I n (re_ok n F xth xad rd wr aq rl on xft xfk xfp) (re_key n xad xco rd wr on xfi) (pq_N n) oc' ok' lr' ps' → post oc' (tc, nI A, nI n, nI F, 1, oc', xth, xad, xco, xtr, xft, xfk, xfp, xds, xas, xcs, xfi, xwr, xwm, bo', or', me', vr', ok', lr', ps')) : wpX_solve post (tc, nI A, nI n, nI F, sv, oc, xth, xad, xco, xtr, xft, xfk, xfp, xds, xas, xcs, xfi, xwr, xwm, xbo, xor, xme, xvr, xok, xlr, xps) := by
  have hn := hP.1.1
  have hN := pq_Nb hn
  unfold wpX_solve
  refine xw_bounds hP hT hS (fun bo hb => xw_first hn (fun o0 ho0 => ?_))
  have hl := pk_loop (σ := Int32 × (Nat → Int32) × (Nat → Int32) × (Nat → Int32) × (Nat → Int64) × (Nat → Int32) × (Nat → Int64))
    (fun f i s => wX_solve_17 post f (so_mo (pq_N n) i) (nI i) tc (nI A) (nI n) (nI F) sv s.1 xth xad xco xtr xft xfk xfp xds xas xcs xfi xwr xwm bo s.2.1 s.2.2.1 s.2.2.2.1 s.2.2.2.2.1 s.2.2.2.2.2.1 s.2.2.2.2.2.2)
    (fun i s => (i < pq_N n → re_or n i s.2.1) ∧ xl_I n (re_ok n F xth xad rd wr aq rl on xft xfk xfp) (re_key n xad xco rd wr on xfi) i s.1 s.2.2.2.2.1 s.2.2.2.2.2.1 s.2.2.2.2.2.2)
    (pq_N n) 0 (0, o0, xme, xvr, xok, xlr, xps) (by omega) ⟨fun _ => ho0, ⟨0, _, _, fun _ => 0, rfl, fun k hk => by omega, ⟨rfl, fun k hk => by omega⟩, fun k hk => by omega⟩⟩ ?_ ?_
  · rw [so_mo1 hN.1] at hl
    exact hl
  · intro f s hI
    exact br_c (fun _ => hp _ _ _ _ _ _ _ _ hI.2) (fun _ => br_t (so_mo0 (Nat.lt_irrefl _)) (hp _ _ _ _ _ _ _ _ hI.2))
  · intro f i s hi hI ih
    have ho := hI.1 hi
    refine br_f (nI_ge (b := 720) (by omega) (by decide)) (br_f (by rw [so_mo1 hi]; exact x1_0) ?_)
    refine xw_isRun hn hb (g := pq_pm n i) ho (fun p hp' => pq_lt hi hp') (fun hok => ?_) (fun hok => ?_)
    · have hok' : re_ok n F xth xad rd wr aq rl on xft xfk xfp i := (od_okW mu_M_lt hi).mp hok
      refine br_f x1_0 (xw_carry hP hT hS hi ho hok' (fun me' vr' c1 c2 => xw_keep hP hi ho c1 c2 hok' hI.2 (fun oc' ok' lr' ps' hI' => ?_)))
      exact xw_43 hn hi ho (fun o' ho' => ih (oc', o', me', vr', ok', lr', ps') ⟨ho', hI'⟩)
    · have hok' : ¬ re_ok n F xth xad rd wr aq rl on xft xfk xfp i := fun z => hok ((od_okW mu_M_lt hi).mpr z)
      refine br_t rfl (xw_43 hn hi ho (fun o' ho' => ih (s.1, o', s.2.2.1, s.2.2.2.1, s.2.2.2.2.1, s.2.2.2.2.2.1, s.2.2.2.2.2.2) ⟨ho', ?_⟩))
      obtain ⟨m, K, R, S, e0, h1, h2, h3⟩ := hI.2
      exact ⟨m, K, R, S, ol_so_n e0 (fun z => hok' z.1), ol_pr_n h1 (fun z => absurd z hok'), h2, h3⟩
end
