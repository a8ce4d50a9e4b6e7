/-! the class: the closed order, the orders, the runs -/
theorem xb_1 : vp_nar .boolean 1 = 1 := rfl
theorem xb_0 : vp_nar .boolean 0 = 0 := rfl
theorem nu_p2 (i : Nat) : nI i + 2 = nI (i + 2) := nI_add i 2
theorem nu_d {p : Nat} (h : 0 < p) : nI p + (-1) = nI (p - 1) := by
  obtain ⟨q, rfl⟩ : ∃ q, p = q + 1 := ⟨p - 1, by omega⟩
  exact pk_m1 q
/-- an array of pairs holds the relation B of the first n events -/
def bo_r (n : Nat) (B : Nat → Nat → Prop) (bo : Nat → Int32) : Prop := ∀ a b, a < n → b < n → (¬ bo (a * 6 + b) = 0 ↔ B a b)
def bo_f (n : Nat) (B : Nat → Nat → Prop) (a b : Nat) (bo : Nat → Int32) : Prop := ∀ a' b', a' < n → b' < n → (a' < a ∨ (a' = a ∧ b' < b)) → (¬ bo (a' * 6 + b') = 0 ↔ B a' b')
def bo_m (n : Nat) (M : Nat → Nat → Prop) (k a b : Nat) (bo : Nat → Int32) : Prop :=
  ∀ a' b', a' < n → b' < n → ((a' < a ∨ (a' = a ∧ b' < b)) → (¬ bo (a' * 6 + b') = 0 ↔ od_W M (k + 1) a' b')) ∧ (¬ (a' < a ∨ (a' = a ∧ b' < b)) → (¬ bo (a' * 6 + b') = 0 ↔ od_W M k a' b'))
theorem bo_f_put {n a b : Nat} {B : Nat → Nat → Prop} {bo : Nat → Int32} {z : Int32} (hn : n ≤ 6) (hb : b < n) (h : bo_f n B a b bo) (hz : ¬ z = 0 ↔ B a b) : bo_f n B a (b + 1) (upd bo (a * 6 + b) z) := by
  intro a' b' ha' hb' hc
  by_cases e : a' = a ∧ b' = b
  · rw [e.1, e.2, pk_us]; exact hz
  · rw [pk_un (by omega)]
    exact h a' b' ha' hb' (by omega)
theorem bo_f_row {n a : Nat} {B : Nat → Nat → Prop} {bo : Nat → Int32} (h : bo_f n B a n bo) : bo_f n B (a + 1) 0 bo :=
  fun a' b' ha' hb' hc => h a' b' ha' hb' (by omega)
theorem bo_f_all {n : Nat} {B : Nat → Nat → Prop} {bo : Nat → Int32} (h : bo_f n B n 0 bo) : bo_r n B bo :=
  fun a b ha hb => h a b ha hb (by omega)
theorem bo_m_0 {n k : Nat} {M : Nat → Nat → Prop} {bo : Nat → Int32} (h : bo_r n (od_W M k) bo) : bo_m n M k 0 0 bo :=
  fun a b ha hb => ⟨fun z => by omega, fun _ => h a b ha hb⟩
theorem bo_m_row {n k a : Nat} {M : Nat → Nat → Prop} {bo : Nat → Int32} (h : bo_m n M k a n bo) : bo_m n M k (a + 1) 0 bo :=
  fun a' b' ha' hb' => ⟨fun z => (h a' b' ha' hb').1 (by omega), fun z => (h a' b' ha' hb').2 (by omega)⟩
theorem bo_m_all {n k : Nat} {M : Nat → Nat → Prop} {bo : Nat → Int32} (h : bo_m n M k n 0 bo) : bo_r n (od_W M (k + 1)) bo :=
  fun a b ha hb => (h a b ha hb).1 (by omega)
theorem bo_m_r {n k a b : Nat} {M : Nat → Nat → Prop} {bo : Nat → Int32} (h : bo_m n M k a b bo) {a' : Nat} (hk : k < n) (ha : a' < n) : ¬ bo (a' * 6 + k) = 0 ↔ od_W M k a' k := by
  rcases Classical.em (a' < a ∨ (a' = a ∧ k < b)) with c | c
  · rw [(h a' k ha hk).1 c, od_fr]
  · exact (h a' k ha hk).2 c
theorem bo_m_l {n k a b : Nat} {M : Nat → Nat → Prop} {bo : Nat → Int32} (h : bo_m n M k a b bo) {b' : Nat} (hk : k < n) (hb : b' < n) : ¬ bo (k * 6 + b') = 0 ↔ od_W M k k b' := by
  rcases Classical.em (k < a ∨ (k = a ∧ b' < b)) with c | c
  · rw [(h k b' hk hb).1 c, od_fl]
  · exact (h k b' hk hb).2 c
theorem bo_m_n {n k a b : Nat} {M : Nat → Nat → Prop} {bo : Nat → Int32} (h : bo_m n M k a b bo) (hn : ¬ (od_W M k a k ∧ od_W M k k b)) : bo_m n M k a (b + 1) bo := by
  intro a' b' ha' hb'
  refine ⟨fun z => ?_, fun z => (h a' b' ha' hb').2 (by omega)⟩
  by_cases e : a' = a ∧ b' = b
  · rw [(h a' b' ha' hb').2 (by omega), e.1, e.2]
    exact ⟨Or.inl, fun q => q.elim id (fun q => absurd q hn)⟩
  · exact (h a' b' ha' hb').1 (by omega)
theorem bo_m_y {n k a b : Nat} {M : Nat → Nat → Prop} {bo : Nat → Int32} (hn6 : n ≤ 6) (hb : b < n) (h : bo_m n M k a b bo) (h1 : od_W M k a k) (h2 : od_W M k k b) : bo_m n M k a (b + 1) (upd bo (a * 6 + b) 1) := by
  intro a' b' ha' hb'
  by_cases e : a' = a ∧ b' = b
  · rw [e.1, e.2, pk_us]
    exact ⟨fun _ => ⟨fun _ => Or.inr ⟨h1, h2⟩, fun _ => by decide⟩, fun z => by omega⟩
  · rw [pk_un (by omega)]
    exact ⟨fun z => (h a' b' ha' hb').1 (by omega), fun z => (h a' b' ha' hb').2 (by omega)⟩
section
variable {tc ac ec fc sv oc : Int32} {xth xad xco xtr xft xfk xfp xds xas xcs xfi xwr xwm xbo xor xme xvr xlr : Nat → Int32} {xok xps : Nat → Int64} {n A F : Nat} {rd wr aq rl on : Nat → Int32} {M : Nat → Nat → Prop}
variable {post : SX → Prop} {J51 J61 J2 : Int32 → (Nat → Int32) → (Nat → Int32) → (Nat → Int32) → (Nat → Int32) → (Nat → Int32) → (Nat → Int32) → (Nat → Int32) → (Nat → Int32) → (Nat → Int32) → (Nat → Int32) → (Nat → Int32) → (Nat → Int32) → (Nat → Int32) → (Nat → Int32) → (Nat → Int32) → (Nat → Int32) → (Nat → Int32) → (Nat → Int64) → (Nat → Int32) → (Nat → Int64) → Prop}
theorem xw_71 {k a : Nat} (hn : n ≤ 6) (hk : k < n) (ha : a < n) (bo : Nat → Int32) (h : bo_m n M k a 0 bo) (hJ : ∀ bo', bo_m n M k (a + 1) 0 bo' → J61 (nI (a + 1)) xth xad xco xtr xft xfk xfp xds xas xcs xfi xwr xwm bo' xor xme xvr xok xlr xps) :
    ∃ f, wX_findBounds_71 post J51 J61 (nI k) (nI a) tc ac (nI n) fc sv oc f 0 xth xad xco xtr xft xfk xfp xds xas xcs xfi xwr xwm bo xor xme xvr xok xlr xps := by
  refine pk_loop (σ := Nat → Int32) (fun f i bo => wX_findBounds_71 post J51 J61 (nI k) (nI a) tc ac (nI n) fc sv oc f (nI i) xth xad xco xtr xft xfk xfp xds xas xcs xfi xwr xwm bo xor xme xvr xok xlr xps) (fun i bo => bo_m n M k a i bo) n 0 bo (by omega) h ?_ ?_
  · intro f bo' hI
    exact br_t (nI_le (Nat.le_refl n) (by omega)) (nm_r (nI_1 a) (hJ bo' (bo_m_row hI)))
  · intro f i bo' hi hI ih
    have v1 : vp_in (nI (a * 6 + k)) 36 := vp_in_nI (by omega) (by omega)
    have v2 : vp_in (nI (k * 6 + i)) 36 := vp_in_nI (by omega) (by omega)
    have v3 : vp_in (nI (a * 6 + i)) 36 := vp_in_nI (by omega) (by omega)
    refine br_f (nI_ge hi (by omega)) ?_
    rw [nu_6, nu_6, nu_6, nI_clamp (show a * 6 + k < 2 ^ 31 by omega), nI_clamp (show k * 6 + i < 2 ^ 31 by omega), nI_clamp (show a * 6 + i < 2 ^ 31 by omega)]
    refine ⟨v1, br_c (fun e1 => nm_r (nI_1 i) (ih bo' (bo_m_n hI (fun z => (bo_m_r hI hk ha).mpr z.1 e1)))) (fun e1 => ⟨v2, br_c (fun e2 => nm_r (nI_1 i) (ih bo' (bo_m_n hI (fun z => (bo_m_l hI hk hi).mpr z.2 e2)))) (fun e2 => ⟨v3, nm_e (nm_r (nI_1 i) (ih _ (bo_m_y hn hi hI ((bo_m_r hI hk ha).mp e1) ((bo_m_l hI hk hi).mp e2))))⟩)⟩)⟩
theorem xw_61 {k : Nat} (hn : n ≤ 6) (hk : k < n) (bo : Nat → Int32) (h : bo_r n (od_W M k) bo) (hJ : ∀ bo', bo_r n (od_W M (k + 1)) bo' → J51 (nI (k + 1)) xth xad xco xtr xft xfk xfp xds xas xcs xfi xwr xwm bo' xor xme xvr xok xlr xps) :
    ∃ f, wX_findBounds_61 post J51 (nI k) tc ac (nI n) fc sv oc f 0 xth xad xco xtr xft xfk xfp xds xas xcs xfi xwr xwm bo xor xme xvr xok xlr xps := by
  refine pk_loop (σ := Nat → Int32) (fun f i bo => wX_findBounds_61 post J51 (nI k) tc ac (nI n) fc sv oc f (nI i) xth xad xco xtr xft xfk xfp xds xas xcs xfi xwr xwm bo xor xme xvr xok xlr xps) (fun i bo => bo_m n M k i 0 bo) n 0 bo (by omega) (bo_m_0 h) ?_ ?_
  · intro f bo' hI
    exact br_t (nI_le (Nat.le_refl n) (by omega)) (nm_r (nI_1 k) (hJ bo' (bo_m_all hI)))
  · intro f i bo' hi hI ih
    exact br_f (nI_ge hi (by omega)) (xw_71 hn hk hi bo' hI (fun bo2 h2 => ih bo2 h2))
theorem xw_51 (hn : n ≤ 6) (bo : Nat → Int32) (h : bo_r n M bo) (hp : ∀ bo', bo_r n (od_W M n) bo' → post (tc, ac, nI n, fc, sv, oc, xth, xad, xco, xtr, xft, xfk, xfp, xds, xas, xcs, xfi, xwr, xwm, bo', xor, xme, xvr, xok, xlr, xps)) :
    ∃ f, wX_findBounds_51 post tc ac (nI n) fc sv oc f 0 xth xad xco xtr xft xfk xfp xds xas xcs xfi xwr xwm bo xor xme xvr xok xlr xps := by
  refine pk_loop (σ := Nat → Int32) (fun f i bo => wX_findBounds_51 post tc ac (nI n) fc sv oc f (nI i) xth xad xco xtr xft xfk xfp xds xas xcs xfi xwr xwm bo xor xme xvr xok xlr xps) (fun i bo => bo_r n (od_W M i) bo) n 0 bo (by omega) h ?_ ?_
  · intro f bo' hI
    exact br_t (nI_le (Nat.le_refl n) (by omega)) (hp bo' hI)
  · intro f i bo' hi hI ih
    exact br_f (nI_ge hi (by omega)) (xw_61 hn hi bo' hI (fun bo2 h2 => ih bo2 h2))
theorem xw_12 {a : Nat} (hP : mu_P n A F xth xad xco rd wr aq rl on xfk xfi) (hT : re_T xtr rd wr aq rl) (hS : re_S xds xas xcs on) (ha : a < n) (bo : Nat → Int32)
    (h : bo_f n (mu_M n F xth xad rd wr aq rl on xft xfk xfp) a 0 bo) (hJ : ∀ bo', bo_f n (mu_M n F xth xad rd wr aq rl on xft xfk xfp) (a + 1) 0 bo' → J2 (nI (a + 1)) xth xad xco xtr xft xfk xfp xds xas xcs xfi xwr xwm bo' xor xme xvr xok xlr xps) :
    ∃ f, wX_findBounds_12 post J2 (nI a) tc ac (nI n) (nI F) sv oc f 0 xth xad xco xtr xft xfk xfp xds xas xcs xfi xwr xwm bo xor xme xvr xok xlr xps := by
  have hn := hP.1.1
  refine pk_loop (σ := Nat → Int32) (fun f i bo => wX_findBounds_12 post J2 (nI a) tc ac (nI n) (nI F) sv oc f (nI i) xth xad xco xtr xft xfk xfp xds xas xcs xfi xwr xwm bo xor xme xvr xok xlr xps) (fun i bo => bo_f n (mu_M n F xth xad rd wr aq rl on xft xfk xfp) a i bo) n 0 bo (by omega) h ?_ ?_
  · intro f bo' hI
    exact br_t (nI_le (Nat.le_refl n) (by omega)) (nm_r (nI_1 a) (hJ bo' (bo_f_row hI)))
  · intro f i bo' hi hI ih
    have v3 : vp_in (nI (a * 6 + i)) 36 := vp_in_nI (by omega) (by omega)
    refine br_f (nI_ge hi (by omega)) ?_
    rw [nu_6, nI_clamp (show a * 6 + i < 2 ^ 31 by omega)]
    exact xr_must hP hT hS ha hi (fun hm => ⟨v3, nm_e (nm_r (nI_1 i) (ih _ (bo_f_put hn hi hI ⟨fun _ => hm, fun _ => x1_0⟩)))⟩) (fun hm => ⟨v3, nm_e (nm_r (nI_1 i) (ih _ (bo_f_put hn hi hI ⟨fun z => absurd rfl z, fun z => absurd z hm⟩)))⟩)
theorem xw_bounds (hP : mu_P n A F xth xad xco rd wr aq rl on xfk xfi) (hT : re_T xtr rd wr aq rl) (hS : re_S xds xas xcs on)
    (hp : ∀ bo', bo_r n (od_W (mu_M n F xth xad rd wr aq rl on xft xfk xfp) n) bo' → post (tc, ac, nI n, nI F, sv, oc, xth, xad, xco, xtr, xft, xfk, xfp, xds, xas, xcs, xfi, xwr, xwm, bo', xor, xme, xvr, xok, xlr, xps)) : wpX_findBounds post (tc, ac, nI n, nI F, sv, oc, xth, xad, xco, xtr, xft, xfk, xfp, xds, xas, xcs, xfi, xwr, xwm, xbo, xor, xme, xvr, xok, xlr, xps) := by
  have hn := hP.1.1
  unfold wpX_findBounds
  refine pk_loop (σ := Nat → Int32) (fun f i bo => wX_findBounds_2 post tc ac (nI n) (nI F) sv oc f (nI i) xth xad xco xtr xft xfk xfp xds xas xcs xfi xwr xwm bo xor xme xvr xok xlr xps) (fun i bo => bo_f n (mu_M n F xth xad rd wr aq rl on xft xfk xfp) i 0 bo) n 0 xbo (by omega) (fun a b _ _ z => by omega) ?_ ?_
  · intro f bo' hI
    exact br_t (nI_le (Nat.le_refl n) (by omega)) (xw_51 hn bo' (bo_f_all hI) hp)
  · intro f i bo' hi hI ih
    exact br_f (nI_ge hi (by omega)) (xw_12 hP hT hS hi bo' hI (fun bo2 h2 => ih bo2 h2))
theorem xw_first (hn : n ≤ 6) (hp : ∀ o', re_or n 0 o' → post (tc, ac, nI n, fc, sv, oc, xth, xad, xco, xtr, xft, xfk, xfp, xds, xas, xcs, xfi, xwr, xwm, xbo, o', xme, xvr, xok, xlr, xps)) : wpX_takeFirstOrder post (tc, ac, nI n, fc, sv, oc, xth, xad, xco, xtr, xft, xfk, xfp, xds, xas, xcs, xfi, xwr, xwm, xbo, xor, xme, xvr, xok, xlr, xps) := by
  unfold wpX_takeFirstOrder
  refine pk_loop (σ := Nat → Int32) (fun f i o => wX_takeFirstOrder_2 post tc ac (nI n) fc sv oc f (nI i) xth xad xco xtr xft xfk xfp xds xas xcs xfi xwr xwm xbo o xme xvr xok xlr xps) (fun i o => ∀ p, p < i → o p = nI p) n 0 xor (by omega) (fun p h => by omega) ?_ ?_
  · intro f o hI
    exact br_t (nI_le (Nat.le_refl n) (by omega)) (hp o (fun p h => by rw [hI p h, pq_first hn h]))
  · intro f i o hi hI ih
    refine br_f (nI_ge hi (by omega)) ⟨vp_in_nI (by omega) (by omega), nm_e (nm_r (nI_1 i) (ih _ (fun p h => ?_)))⟩
    rw [nI_clamp (show i < 2 ^ 31 by omega)]
    by_cases e : p = i
    · rw [e, pk_us]
    · rw [pk_un e]; exact hI p (by omega)
theorem xw_swap {p q : Nat} (hp : p < 6) (hq : q < 6) (h : post (tc, ac, ec, fc, sv, oc, xth, xad, xco, xtr, xft, xfk, xfp, xds, xas, xcs, xfi, xwr, xwm, xbo, upd (upd xor p (xor q)) q (xor p), xme, xvr, xok, xlr, xps)) : wpX_swapPlaces post (tc, ac, ec, fc, sv, oc, xth, xad, xco, xtr, xft, xfk, xfp, xds, xas, xcs, xfi, xwr, xwm, xbo, xor, xme, xvr, xok, xlr, xps) (nI p) (nI q) := by
  unfold wpX_swapPlaces
  rw [nI_clamp (show p < 2 ^ 31 by omega), nI_clamp (show q < 2 ^ 31 by omega)]
  exact ⟨vp_in_nI hp (by omega), nm_e ⟨vp_in_nI hq (by omega), vp_in_nI hp (by omega), nm_e ⟨vp_in_nI hq (by omega), nm_e h⟩⟩⟩
end
section
variable {tc ac ec fc sv oc : Int32} {xth xad xco xtr xft xfk xfp xds xas xcs xfi xwr xwm xbo xor xme xvr xlr : Nat → Int32} {xok xps : Nat → Int64} {n : Nat} {B : Nat → Nat → Prop} {g : Nat → Nat} {post : Int32 → Prop}
theorem xw_isRun (hn : n ≤ 6) (hb : bo_r n B xbo) (ho : ∀ p, p < n → xor p = nI (g p)) (hg : ∀ p, p < n → g p < n) (h1 : od_ok B n g → post 1) (h0 : ¬ od_ok B n g → post 0) : wpX_isRun post (tc, ac, nI n, fc, sv, oc, xth, xad, xco, xtr, xft, xfk, xfp, xds, xas, xcs, xfi, xwr, xwm, xbo, xor, xme, xvr, xok, xlr, xps) := by
  unfold wpX_isRun
  refine pk_loop (σ := Unit) (fun f i _ => wX_isRun_2 post tc ac (nI n) fc sv oc xth xad xco xtr xft xfk xfp xds xas xcs xfi xwr xwm xbo xor xme xvr xok xlr xps f (nI i)) (fun i _ => ∀ p q, p < i → p < q → q < n → ¬ B (g q) (g p)) n 0 () (by omega) (fun p q h => by omega) ?_ ?_
  · intro f _ hI
    exact br_t (nI_le (Nat.le_refl n) (by omega)) (h1 (fun p q hpq hq => hI p q (by omega) hpq hq))
  · intro f i _ hi hI ih
    refine br_f (nI_ge hi (by omega)) (nm_r (nI_1 i) ?_)
    refine pk_loop (σ := Unit) (fun f2 j _ => wX_isRun_14 post (wX_isRun_2 post tc ac (nI n) fc sv oc xth xad xco xtr xft xfk xfp xds xas xcs xfi xwr xwm xbo xor xme xvr xok xlr xps f) (nI i) tc ac (nI n) fc sv oc xth xad xco xtr xft xfk xfp xds xas xcs xfi xwr xwm xbo xor xme xvr xok xlr xps f2 (nI j)) (fun j _ => i < j ∧ ∀ q, i < q → q < j → ¬ B (g q) (g i)) n (i + 1) () (by omega) ⟨by omega, fun q h h2 => by omega⟩ ?_ ?_
    · intro f2 _ hJ
      refine br_t (nI_le (Nat.le_refl n) (by omega)) (nm_r (nI_1 i) (ih () (fun p q hp hpq hq => ?_)))
      by_cases e : p = i
      · rw [e]; exact hJ.2 q (by omega) hq
      · exact hI p q (by omega) hpq hq
    · intro f2 j _ hj hJ ih2
      have g1 := hg i hi
      have g2 := hg j hj
      refine br_f (nI_ge hj (by omega)) ?_
      rw [nI_clamp (show i < 2 ^ 31 by omega), nI_clamp (show j < 2 ^ 31 by omega), ho i hi, ho j hj, nu_6, nI_clamp (show g j * 6 + g i < 2 ^ 31 by omega)]
      refine ⟨vp_in_nI (by omega) (by omega), vp_in_nI (by omega) (by omega), vp_in_nI (by omega) (by omega), br_c (fun e => nm_r (nI_1 j) (ih2 () ⟨by omega, fun q q1 q2 => ?_⟩)) (fun e => h0 (fun z => z i j hJ.1 hj ((hb _ _ g2 g1).mp e)))⟩
      by_cases e2 : q = j
      · rw [e2]; exact fun z => (hb _ _ g2 g1).mpr z e
      · exact hJ.2 q q1 (by omega)
theorem xw_lr7 (hn : n ≤ 6) (ho : ∀ p, p < n → xor p = nI (g p)) (hg : ∀ p, p < n → g p < n) : ∀ k, k + 1 ≤ n → (pq_rise g k = none → post (-1)) → (∀ i, pq_rise g k = some i → post (nI i)) → wX_lastRise_7 post tc ac (nI n) fc sv oc xth xad xco xtr xft xfk xfp xds xas xcs xfi xwr xwm xbo xor xme xvr xok xlr xps (k + 1) (nI k + (-1)) := by
  intro k
  induction k with
  | zero => exact fun _ h1 _ => br_t (by decide) (h1 rfl)
  | succ k ih =>
    intro hk h1 h2
    rw [pk_m1 k]
    have g1 := hg k (by omega)
    have g2 := hg (k + 1) (by omega)
    refine br_f (nI_pos (by omega)) ?_
    rw [nI_1, nI_clamp (show k < 2 ^ 31 by omega), nI_clamp (show k + 1 < 2 ^ 31 by omega), ho k (by omega), ho (k + 1) (by omega)]
    refine ⟨vp_in_nI (by omega) (by omega), vp_in_nI (by omega) (by omega), pk_le (g (k + 1)) (g k) (fun c => nm_e ?_) (fun c => h2 k (by rw [pq_rise, if_pos c]))⟩
    have e : pq_rise g (k + 1) = pq_rise g k := by rw [pq_rise, if_neg (by omega)]
    rw [e] at h1 h2
    exact ih (by omega) h1 h2
theorem xw_lr (hn : n ≤ 6) (ho : ∀ p, p < n → xor p = nI (g p)) (hg : ∀ p, p < n → g p < n) (h1 : pq_rise g (n - 1) = none → post (-1)) (h2 : ∀ i, pq_rise g (n - 1) = some i → post (nI i)) : wpX_lastRise post (tc, ac, nI n, fc, sv, oc, xth, xad, xco, xtr, xft, xfk, xfp, xds, xas, xcs, xfi, xwr, xwm, xbo, xor, xme, xvr, xok, xlr, xps) := by
  unfold wpX_lastRise
  rcases Nat.eq_zero_or_pos n with e | e
  · subst e
    exact nm_e ⟨1, br_t (by decide) (h1 rfl)⟩
  · refine nm_r (e' := nI (n - 1) + (-1)) ?_ ⟨_, xw_lr7 hn ho hg (n - 1) (by omega) h1 h2⟩
    obtain ⟨m, rfl⟩ : ∃ m, n = m + 1 := ⟨n - 1, by omega⟩
    rw [Nat.add_sub_cancel, ← nI_1, show (2 : Int32) = 1 + 1 from rfl]
    grind
end
section
variable {tc ac ec fc sv oc : Int32} {xth xad xco xtr xft xfk xfp xds xas xcs xfi xwr xwm xbo xor xme xvr xlr : Nat → Int32} {xok xps : Nat → Int64} {n r : Nat} {post : Int32 → SX → Prop}
theorem xw_69 {i j : Nat} {g : Nat → Nat} (hn : n ≤ 6) (hij : i < j) (hj : j < n) (o : Nat → Int32) (h : ∀ p, p < n → o p = nI (nw_h i j g p)) (hp : ∀ o', (∀ p, p < n → o' p = nI (pq_nf n i j g p)) → post 1 (tc, ac, nI n, fc, sv, oc, xth, xad, xco, xtr, xft, xfk, xfp, xds, xas, xcs, xfi, xwr, xwm, xbo, o', xme, xvr, xok, xlr, xps)) :
    ∃ f, wX_takeNextOrder_69 post f (nI (n - 1)) (nI (i + 1)) tc ac (nI n) fc sv oc xth xad xco xtr xft xfk xfp xds xas xcs xfi xwr xwm xbo o xme xvr xok xlr xps := by
  refine pk_loop (σ := Nat → Int32) (fun f t o => wX_takeNextOrder_69 post f (nI (n - 1 - t)) (nI (i + 1 + t)) tc ac (nI n) fc sv oc xth xad xco xtr xft xfk xfp xds xas xcs xfi xwr xwm xbo o xme xvr xok xlr xps) (fun t o => ∀ p, p < n → o p = nI (nw_t n i t (nw_h i j g) p)) ((n - i - 1) / 2) 0 o (by omega) (fun p hp' => by rw [nw_t0 hp']; exact h p hp') ?_ ?_
  · intro f o' hI
    exact br_t (nI_le (by omega) (by omega)) (hp o' (fun p hp' => by rw [hI p hp', nw_te hp' hij hj (by omega) (by omega)]))
  · intro f t o' ht hI ih
    refine br_f (nI_ge (by omega) (by omega)) (xw_swap (by omega) (by omega) (nm_r (nu_d (by omega)) (nm_r (nI_1 _) (ih _ (fun p hp' => ?_)))))
    rw [nw_ts hp' (by omega) (by omega)]
    by_cases e1 : p = n - 1 - t
    · rw [if_pos e1, e1, pk_us]; exact hI _ (by omega)
    · rw [if_neg e1, pk_un e1]
      by_cases e2 : p = i + 1 + t
      · rw [if_pos e2, e2, pk_us]; exact hI _ (by omega)
      · rw [if_neg e2, pk_un e2]; exact hI p hp'
theorem xw_next (hn : n ≤ 6) (hr : r < pq_N n) (ho : re_or n r xor) (hE : r + 1 = pq_N n → post 0 (tc, ac, nI n, fc, sv, oc, xth, xad, xco, xtr, xft, xfk, xfp, xds, xas, xcs, xfi, xwr, xwm, xbo, xor, xme, xvr, xok, xlr, xps)) (hN : r + 1 < pq_N n → ∀ o', re_or n (r + 1) o' → post 1 (tc, ac, nI n, fc, sv, oc, xth, xad, xco, xtr, xft, xfk, xfp, xds, xas, xcs, xfi, xwr, xwm, xbo, o', xme, xvr, xok, xlr, xps)) : wpX_takeNextOrder post (tc, ac, nI n, fc, sv, oc, xth, xad, xco, xtr, xft, xfk, xfp, xds, xas, xcs, xfi, xwr, xwm, xbo, xor, xme, xvr, xok, xlr, xps) := by
  unfold wpX_takeNextOrder
  refine xw_lr hn ho (fun p hp => pq_lt hr hp) (fun h => br_t rfl (hE ?_)) (fun i h => ?_)
  · rcases Nat.lt_trichotomy (r + 1) (pq_N n) with c | c | c
    · obtain ⟨i, hi, _⟩ := pq_step hn c
      rw [h] at hi
      exact absurd hi (by simp)
    · exact c
    · omega
  · have hc : r + 1 < pq_N n := by
      rcases Nat.lt_trichotomy (r + 1) (pq_N n) with c | c | c
      · exact c
      · have h2 := pq_end hn c
        rw [h] at h2
        exact absurd h2 (by simp)
      · omega
    obtain ⟨i', hi', hs⟩ := pq_step hn hc
    have e : i' = i := by
      rw [h] at hi'
      exact (Option.some.inj hi').symm
    subst e
    obtain ⟨q1, q2⟩ := nw_rise _ _ h
    have q3 := nw_sw q2 n (by omega)
    obtain ⟨g, hg⟩ : ∃ g, pq_pm n r = g := ⟨_, rfl⟩
    rw [hg] at q2 q3 hs
    refine br_f (nu_m1 _ (by omega)) (nm_r (nI_1 i') (nm_r (nu_p2 i') ?_))
    have e0 : pq_sw g i' (i' + 2) = i' + 1 := by rw [pq_sw, if_pos q2]
    have hl := pk_loop (σ := Unit) (fun f k _ => wX_takeNextOrder_20 post (nI i') tc ac (nI n) fc sv oc xth xad xco xtr xft xfk xfp xds xas xcs xfi xwr xwm xbo xor xme xvr xok xlr xps f (nI (pq_sw g i' k)) (nI k)) (fun k _ => i' + 2 ≤ k) n (i' + 2) () (by omega) (Nat.le_refl _) ?_ ?_
    · rw [e0] at hl
      exact hl
    · intro f _ _
      refine br_t (nI_le (Nat.le_refl n) (by omega)) (xw_swap (by omega) (by omega) (nm_r (pk_sub (a := n) (b := 1) (by omega)) (nm_r (nI_1 i') ?_)))
      refine xw_69 (g := g) hn q3.1 q3.2 _ (fun p hp => ?_) (fun o' ho' => hN hc o' (fun p hp => ?_))
      · unfold nw_h
        by_cases e1 : p = pq_sw g i' n
        · rw [if_pos e1, e1, pk_us, ho _ (by omega), hg]
        · rw [if_neg e1, pk_un e1]
          by_cases e2 : p = i'
          · rw [if_pos e2, e2, pk_us, ho _ (by omega), hg]
          · rw [if_neg e2, pk_un e2, ho _ hp, hg]
      · rw [ho' p hp, hs p hp]
    · intro f k _ hk hI ih
      have g1 : xor k = nI (g k) := by rw [ho k hk, hg]
      have g2 : xor i' = nI (g i') := by rw [ho i' (by omega), hg]
      have g3 : g k < n := by rw [← hg]; exact pq_lt hr hk
      have g4 : g i' < n := by rw [← hg]; exact pq_lt hr (by omega)
      refine br_f (nI_ge hk (by omega)) ?_
      rw [nI_clamp (show k < 2 ^ 31 by omega), nI_clamp (show i' < 2 ^ 31 by omega), g1, g2]
      refine ⟨vp_in_nI (by omega) (by omega), vp_in_nI (by omega) (by omega), pk_le (g k) (g i') (fun c => nm_r (nI_1 k) ?_) (fun c => nm_r (nI_1 k) ?_)⟩
      · have e1 : pq_sw g i' (k + 1) = pq_sw g i' k := by rw [pq_sw, if_neg (by omega)]
        have z := ih () (by omega)
        rw [e1] at z
        exact z
      · have e1 : pq_sw g i' (k + 1) = k := by rw [pq_sw, if_pos c]
        have z := ih () (by omega)
        rw [e1] at z
        exact z
end
