/-! the class: a run's effect, its key, its pairs -/
theorem kx_step {d : Nat → Nat} {i : Nat} (hi : i < 9) (hd : ∀ j, d j < 16) : lN (dg_z d i * 16 ^ (9 - i)) ||| lN (d i * 2 ^ ((8 - i) * 4)) = lN (dg_z d (i + 1) * 16 ^ (9 - (i + 1))) := by
  have h1 := dg_z_lt d (i + 1) (fun j _ => hd j)
  have h2 : (16 : Nat) ^ (9 - i) = 16 * 16 ^ (8 - i) := by
    rw [← Nat.pow_succ']; exact congrArg (fun z => 16 ^ z) (by omega)
  have h3 : (16 : Nat) ^ 9 = 16 ^ (i + 1) * 16 ^ (8 - i) := by
    rw [← Nat.pow_add]; exact congrArg (fun z => 16 ^ z) (by omega)
  have h4 : 0 < (16 : Nat) ^ (8 - i) := Nat.pow_pos (by decide)
  have h5 : dg_z d (i + 1) * 16 ^ (8 - i) < 16 ^ 9 := by
    rw [h3]; exact Nat.mul_lt_mul_of_pos_right h1 h4
  have h6 : dg_z d i * 16 ^ (9 - i) + d i * 16 ^ (8 - i) = dg_z d (i + 1) * 16 ^ (8 - i) := by
    show _ = (dg_z d i * 16 + d i) * 16 ^ (8 - i)
    rw [h2, Nat.add_mul, Nat.mul_assoc]
  have h7 : d i * 16 ^ (8 - i) < 16 ^ (9 - i) := by
    rw [h2]; exact Nat.mul_lt_mul_of_pos_right (hd i) h4
  have h8 : (16 : Nat) ^ 9 < 2 ^ 64 := by decide
  rw [← nu_16, g_or (k := (9 - i) * 4) (nu_16 _).symm h7 (by omega), h6]
  exact congrArg (fun z => lN (dg_z d (i + 1) * 16 ^ z)) (by omega)
section
variable {n A F r : Nat} {th ad co rd wr aq rl on ft fk fp fi : Nat → Int32}
theorem kx_d0 (hP : mu_P n A F th ad co rd wr aq rl on fk fi) (hr : r < pq_N n) {i : Nat} (h : (n ≤ i ∧ i < 6) ∨ (6 + A ≤ i ∧ i < 9)) : ca_d ad co rd wr on fi n (pq_pm n r) i = 0 := by
  unfold ca_d
  rcases h with h | h
  · rw [if_pos h.2, ca_g0 _ _ n (fun q hq => by have := pq_lt hr hq; omega)]; rfl
  · rw [if_neg (by omega), ca_m0 _ _ n (fun q hq => ?_), hP.2.2.2.2.2.2.1 (i - 6) (by omega) (by omega)]
    · rfl
    · obtain ⟨j, hj, e⟩ := hP.2.1 _ (pq_lt hr hq)
      have hA := hP.1
      rw [e, nI_clamp (by omega)]
      omega
theorem kx_6 (hP : mu_P n A F th ad co rd wr aq rl on fk fi) (hr : r < pq_N n) : dg_z (ca_d ad co rd wr on fi n (pq_pm n r)) 6 * 16 ^ 3 = dg_z (ca_d ad co rd wr on fi n (pq_pm n r)) n * 16 ^ (9 - n) := by
  have hn := hP.1
  have h := dg_z_0 (ca_d ad co rd wr on fi n (pq_pm n r)) (6 - n) n (fun i h1 h2 => kx_d0 hP hr (Or.inl ⟨h1, by omega⟩))
  rw [show n + (6 - n) = 6 by omega] at h
  rw [h, Nat.mul_assoc, ← Nat.pow_add, show 6 - n + 3 = 9 - n by omega]
theorem kx_9 (hP : mu_P n A F th ad co rd wr aq rl on fk fi) (hr : r < pq_N n) : dg_z (ca_d ad co rd wr on fi n (pq_pm n r)) (6 + A) * 16 ^ (9 - (6 + A)) = ca_k ad co rd wr on fi n (pq_pm n r) := by
  have hn := hP.1
  have h := dg_z_0 (ca_d ad co rd wr on fi n (pq_pm n r)) (9 - (6 + A)) (6 + A) (fun i h1 h2 => kx_d0 hP hr (Or.inr ⟨h1, by omega⟩))
  rw [show 6 + A + (9 - (6 + A)) = 9 by omega] at h
  exact h.symm
end
/-- which pairs stand in the first i places against later ones, and place i against those before j -/
def pb_i (n : Nat) (g : Nat → Nat) (i j S : Nat) : Prop := S < 2 ^ 36 ∧ ∀ a b, a < 6 → b < 6 → (S.testBit (a * 6 + b) = true ↔ ∃ p q, p < q ∧ q < n ∧ (p < i ∨ (p = i ∧ q < j)) ∧ g p = a ∧ g q = b)
theorem pb_s {n i j S : Nat} {g : Nat → Nat} (h : pb_i n g i j S) (hn : n ≤ 6) (hg : ∀ p, p < n → g p < n) (hij : i < j) (hj : j < n) : pb_i n g i (j + 1) (S ||| 2 ^ (g i * 6 + g j)) := by
  have g1 := hg i (by omega)
  have g2 := hg j hj
  refine ⟨Nat.or_lt_two_pow h.1 (wb_lt2 (by omega)), fun a b ha hb => ?_⟩
  rw [Nat.testBit_or, Bool.or_eq_true, h.2 a b ha hb, Nat.testBit_two_pow, decide_eq_true_iff]
  constructor
  · rintro (⟨p, q, h1, h2, h3, h4⟩ | z)
    · exact ⟨p, q, h1, h2, by omega, h4⟩
    · exact ⟨i, j, hij, hj, Or.inr ⟨rfl, by omega⟩, by omega, by omega⟩
  · rintro ⟨p, q, h1, h2, h3, h4, h5⟩
    by_cases e : p = i ∧ q = j
    · rw [e.1] at h4
      rw [e.2] at h5
      exact Or.inr (by rw [h4, h5])
    · exact Or.inl ⟨p, q, h1, h2, by omega, h4, h5⟩
theorem pb_0 {n : Nat} {g : Nat → Nat} : pb_i n g 0 1 0 := by
  refine ⟨by decide, fun a b ha hb => ?_⟩
  rw [Nat.zero_testBit]
  exact ⟨fun z => by simp at z, fun ⟨p, q, h1, h2, h3, _⟩ => by omega⟩
theorem pb_row {n i S : Nat} {g : Nat → Nat} (h : pb_i n g i n S) : pb_i n g (i + 1) (i + 1 + 1) S := by
  refine ⟨h.1, fun a b ha hb => ?_⟩
  rw [h.2 a b ha hb]
  constructor
  · rintro ⟨p, q, h1, h2, h3, h4⟩
    exact ⟨p, q, h1, h2, by omega, h4⟩
  · rintro ⟨p, q, h1, h2, h3, h4⟩
    exact ⟨p, q, h1, h2, by omega, h4⟩
theorem pb_all {n j S : Nat} {g : Nat → Nat} (h : pb_i n g n j S) : S < 2 ^ 36 ∧ ∀ a b, a < 6 → b < 6 → (S.testBit (a * 6 + b) = true ↔ od_bef n g a b) := by
  refine ⟨h.1, fun a b ha hb => ?_⟩
  rw [h.2 a b ha hb]
  constructor
  · rintro ⟨p, q, h1, h2, _, h4, h5⟩
    exact ⟨p, q, h1, h2, h4, h5⟩
  · rintro ⟨p, q, h1, h2, h4, h5⟩
    exact ⟨p, q, h1, h2, by omega, h4, h5⟩
section
variable {tc ac ec fc sv oc : Int32} {xth xad xco xtr xft xfk xfp xds xas xcs xfi xwr xwm xbo xor xme xvr xlr : Nat → Int32} {xok xps : Nat → Int64} {n A F r : Nat} {rd wr aq rl on : Nat → Int32}
theorem xw_effect {post : SX → Prop} {e : Nat} {mem got : Nat → Int32} (hP : mu_P n A F xth xad xco rd wr aq rl on xfk xfi) (hT : re_T xtr rd wr aq rl) (hS : re_S xds xas xcs on) (he : e < n)
    (hm : ∀ y, y < A → xme y = mem y) (hg : got e = 0) (hs : ∀ j, j < 6 → on (4 * e + 1) = nI j → xvr j = got j ∧ j ≠ e)
    (hp : ∀ me' vr', (∀ y, y < A → me' y = ca_m xad xco rd wr on mem got e y) → vr' e = ca_g xad rd mem got e e → (∀ i, i ≠ e → vr' i = xvr i) → post (tc, ac, ec, fc, sv, oc, xth, xad, xco, xtr, xft, xfk, xfp, xds, xas, xcs, xfi, xwr, xwm, xbo, xor, me', vr', xok, xlr, xps)) : wpX_takeEffect post (tc, ac, ec, fc, sv, oc, xth, xad, xco, xtr, xft, xfk, xfp, xds, xas, xcs, xfi, xwr, xwm, xbo, xor, xme, xvr, xok, xlr, xps) (nI e) := by
  have hn := hP.1
  have ve : vp_in (nI e) 6 := vp_in_nI (by omega) (by omega)
  obtain ⟨x, hx, ex⟩ := hP.2.1 e he
  have vx : vp_in (nI x) 3 := vp_in_nI (by omega) (by omega)
  have key : ∀ z0, z0 = (if rd e = 0 then 0 else mem x) → wX_takeEffect_31 post (nI e) (nI x) z0 (nI e) tc ac ec fc sv oc xth xad xco xtr xft xfk xfp xds xas xcs xfi xwr xwm xbo xor xme xvr xok xlr xps := by
    intro z0 hz
    have hge : upd xvr e z0 e = ca_g xad rd mem got e e := by
      rw [pk_us, hz]
      unfold ca_g
      by_cases c : rd e = 0
      · rw [if_pos c, if_pos c, hg]
      · rw [if_neg c, if_neg c, pk_us, ex, nI_clamp (by omega)]
    have hgo : ∀ i, i ≠ e → upd xvr e z0 i = xvr i := fun i hi => pk_un hi
    refine ⟨ve, ?_⟩
    rw [nI_clamp (show e < 2 ^ 31 by omega)]
    refine nm_e (xr_wr hT (by omega) (fun hw => br_t rfl (hp _ _ (fun y hy => ?_) hge hgo)) (fun hw => br_f x1_0 ⟨ve, ve, ?_⟩))
    · unfold ca_m
      rw [if_pos hw]; exact hm y hy
    · have hfin : ∀ dv, dv = (if on (4 * e + 1) < 0 then 0 else got (on (4 * e + 1)).toNatClampNeg) → ∀ y, y < A → upd xme x (((upd xvr e z0 e + xco e) + dv) &&& 15) y = ca_m xad xco rd wr on mem got e y := by
        intro dv hdv y hy
        unfold ca_m ca_v
        rw [if_neg hw, ex, nI_clamp (show x < 2 ^ 31 by omega), pk_us, hz, hdv]
        by_cases c : y = x
        · rw [c, pk_us, pk_us]
        · rw [pk_un c, pk_un c]; exact hm y hy
      unfold wpX_dataFor
      rw [nI_clamp (show e < 2 ^ 31 by omega), nI_clamp (show x < 2 ^ 31 by omega)]
      refine ⟨ve, nm_r (hS e (by omega)).1 ?_⟩
      rcases hP.2.2.2.1 e 1 he (by omega) (by omega) with c | ⟨j, hj, ej, _⟩
      · exact br_t c (nm_e ⟨vx, nm_e (hp _ _ (hfin 0 (by rw [c, if_pos nu_neg1])) hge hgo)⟩)
      · refine br_f (by rw [ej]; exact nu_m1 j (by omega)) ?_
        rw [ej, nI_clamp (show j < 2 ^ 31 by omega)]
        refine ⟨vp_in_nI (by omega) (by omega), nm_e ⟨vx, nm_e (hp _ _ (hfin _ ?_) hge hgo)⟩⟩
        obtain ⟨s1, s2⟩ := hs j (by omega) ej
        rw [ej, if_neg (nI_pos (by omega)), nI_clamp (by omega), pk_un s2, s1]
  unfold wpX_takeEffect
  rw [nI_clamp (show e < 2 ^ 31 by omega)]
  refine ⟨ve, nm_r ex (xr_rd hT (by omega) (fun c => br_t rfl (key 0 (by rw [if_pos c]))) (fun c => br_f x1_0 ⟨vx, key _ ?_⟩))⟩
  rw [if_neg c, nI_clamp (by omega)]; exact hm x hx
theorem xw_carry {post : SX → Prop} (hP : mu_P n A F xth xad xco rd wr aq rl on xfk xfi) (hT : re_T xtr rd wr aq rl) (hS : re_S xds xas xcs on) (hr : r < pq_N n) (ho : re_or n r xor) (hk : re_ok n F xth xad rd wr aq rl on xft xfk xfp r)
    (hp : ∀ me' vr', (∀ y, y < A → me' y = (ca_s xad xco rd wr on xfi (pq_pm n r) n).1 y) → (∀ e, e < n → vr' e = (ca_s xad xco rd wr on xfi (pq_pm n r) n).2 e) → post (tc, nI A, nI n, fc, sv, oc, xth, xad, xco, xtr, xft, xfk, xfp, xds, xas, xcs, xfi, xwr, xwm, xbo, xor, me', vr', xok, xlr, xps)) : wpX_carryOut post (tc, nI A, nI n, fc, sv, oc, xth, xad, xco, xtr, xft, xfk, xfp, xds, xas, xcs, xfi, xwr, xwm, xbo, xor, xme, xvr, xok, xlr, xps) := by
  have hn := hP.1
  unfold wpX_carryOut
  refine pk_loop (σ := Nat → Int32) (fun f i me => wX_carryOut_2 post tc (nI A) (nI n) fc sv oc f (nI i) xth xad xco xtr xft xfk xfp xds xas xcs xfi xwr xwm xbo xor me xvr xok xlr xps) (fun i me => ∀ y, y < i → me y = xfi y) A 0 xme (by omega) (fun y h => by omega) ?_ ?_
  · intro f me hI
    refine br_t (nI_le (Nat.le_refl A) (by omega)) ?_
    refine pk_loop (σ := (Nat → Int32) × (Nat → Int32)) (fun f i s => wX_carryOut_30 post f (nI i) tc (nI A) (nI n) fc sv oc xth xad xco xtr xft xfk xfp xds xas xcs xfi xwr xwm xbo xor s.1 s.2 xok xlr xps) (fun i s => (∀ y, y < A → s.1 y = (ca_s xad xco rd wr on xfi (pq_pm n r) i).1 y) ∧ (∀ q, q < i → s.2 (pq_pm n r q) = (ca_s xad xco rd wr on xfi (pq_pm n r) i).2 (pq_pm n r q))) n 0 (me, xvr) (by omega) ⟨hI, fun q h => by omega⟩ ?_ ?_
    · intro f2 s hJ
      refine br_t (nI_le (Nat.le_refl n) (by omega)) (hp s.1 s.2 hJ.1 (fun e he => ?_))
      obtain ⟨q, hq, eq⟩ := pq_sur hr he
      rw [← eq]; exact hJ.2 q hq
    · intro f2 i s hi hJ ih
      have hl := pq_lt hr hi
      refine br_f (nI_ge hi (by omega)) ⟨vp_in_nI (by omega) (by omega), ?_⟩
      rw [nI_clamp (show i < 2 ^ 31 by omega), ho i hi]
      refine xw_effect hP hT hS hl hJ.1 (ca_g0 _ _ i (fun q hq z => by have := pq_inj hr (by omega) hi z; omega)) (fun j hj ej => ?_) (fun me' vr' h1 h2 h3 => nm_r (nI_1 i) (ih (me', vr') ⟨h1, fun q hq => ?_⟩))
      · obtain ⟨q, hq, eq⟩ := ca_src hP hr hk hi ej (by omega)
        rw [← eq]
        exact ⟨hJ.2 q hq, fun z => by have := pq_inj hr (by omega) hi z; omega⟩
      · show vr' (pq_pm n r q) = ca_g xad rd (ca_s xad xco rd wr on xfi (pq_pm n r) i).1 (ca_s xad xco rd wr on xfi (pq_pm n r) i).2 (pq_pm n r i) (pq_pm n r q)
        by_cases e : q = i
        · rw [e]; exact h2
        · have hne : pq_pm n r q ≠ pq_pm n r i := fun z => e (pq_inj hr (by omega) hi z)
          rw [h3 _ hne, hJ.2 q (by omega)]
          unfold ca_g
          split
          · rfl
          · rw [pk_un hne]
  · intro f i me hi hI ih
    refine br_f (nI_ge hi (by omega)) ⟨vp_in_nI (by omega) (by omega), vp_in_nI (by omega) (by omega), nm_e (nm_r (nI_1 i) (ih _ (fun y hy => ?_)))⟩
    rw [nI_clamp (show i < 2 ^ 31 by omega)]
    by_cases e : y = i
    · rw [e, pk_us]
    · rw [pk_un e]; exact hI y (by omega)
theorem xw_key {post : Int64 → Prop} (hP : mu_P n A F xth xad xco rd wr aq rl on xfk xfi) (hr : r < pq_N n)
    (hm : ∀ y, y < A → xme y = (ca_s xad xco rd wr on xfi (pq_pm n r) n).1 y) (hv : ∀ e, e < n → xvr e = (ca_s xad xco rd wr on xfi (pq_pm n r) n).2 e)
    (hp : post (lN (re_key n xad xco rd wr on xfi r))) : wpX_keyOfRun post (tc, nI A, nI n, fc, sv, oc, xth, xad, xco, xtr, xft, xfk, xfp, xds, xas, xcs, xfi, xwr, xwm, xbo, xor, xme, xvr, xok, xlr, xps) := by
  have hn := hP.1
  obtain ⟨d, hd⟩ : ∃ d, ca_d xad xco rd wr on xfi n (pq_pm n r) = d := ⟨_, rfl⟩
  have hd16 : ∀ j, d j < 16 := fun j => by rw [← hd]; exact ca_d16 hP.2.2.2.2.2.1 n _ j
  have hrg := ca_rng (ad := xad) (co := xco) (rd := rd) (wr := wr) (on := on) hP.2.2.2.2.2.1 (pq_pm n r) n
  have hd1 : ∀ e, e < n → xvr e = nI (d e) := by
    intro e he
    rw [hv e he, ← hd]
    unfold ca_d
    rw [if_pos (by omega)]
    exact (ca_cl (hrg.2 e)).2
  have hd2 : ∀ x, x < A → xme x = nI (d (6 + x)) := by
    intro x hx
    rw [hm x hx, ← hd]
    unfold ca_d
    rw [if_neg (by omega), Nat.add_sub_cancel_left]
    exact (ca_cl (hrg.1 x)).2
  have e6 := kx_6 hP hr
  have e9 := kx_9 hP hr
  rw [hd] at e6 e9
  unfold wpX_keyOfRun
  have hl := pk_loop (σ := Unit) (fun f i _ => wX_keyOfRun_4 post tc (nI A) (nI n) fc sv oc xth xad xco xtr xft xfk xfp xds xas xcs xfi xwr xwm xbo xor xme xvr xok xlr xps f (lN (dg_z d i * 16 ^ (9 - i))) (nI i)) (fun _ _ => True) n 0 () (by omega) trivial ?_ ?_
  · rw [show lN (dg_z d 0 * 16 ^ (9 - 0)) = 0 from by rw [dg_z, Nat.zero_mul]; rfl] at hl
    exact hl
  · intro f _ _
    refine br_t (nI_le (Nat.le_refl n) (by omega)) ?_
    rw [← e6]
    refine pk_loop (σ := Unit) (fun f x _ => wX_keyOfRun_35 post tc (nI A) (nI n) fc sv oc xth xad xco xtr xft xfk xfp xds xas xcs xfi xwr xwm xbo xor xme xvr xok xlr xps f (lN (dg_z d (6 + x) * 16 ^ (9 - (6 + x)))) (nI x)) (fun _ _ => True) A 0 () (by omega) trivial ?_ ?_
    · intro f2 _ _
      refine br_t (nI_le (Nat.le_refl A) (by omega)) ?_
      rw [e9]; exact hp
    · intro f2 x _ hx _ ih
      refine br_f (nI_ge hx (by omega)) ⟨vp_in_nI (by omega) (by omega), ?_⟩
      rw [nI_clamp (show x < 2 ^ 31 by omega), hd2 x hx]
      refine nm_r ?_ (nm_r (nI_1 x) (ih () trivial))
      rw [show (2 : Int32) - nI x = nI (2 - x) from pk_sub (a := 2) (by omega), show nI (2 - x) * 4 = nI ((2 - x) * 4) from pk_mul _ 4, nu_vshl (hd16 _) (by omega), show (2 - x) * 4 = (8 - (6 + x)) * 4 by omega]
      exact kx_step (by omega) hd16
  · intro f i _ hi _ ih
    refine br_f (nI_ge hi (by omega)) ⟨vp_in_nI (by omega) (by omega), ?_⟩
    rw [nI_clamp (show i < 2 ^ 31 by omega), hd1 i hi]
    refine nm_r ?_ (nm_r (nI_1 i) (ih () trivial))
    rw [show (8 : Int32) - nI i = nI (8 - i) from pk_sub (a := 8) (by omega), show nI (8 - i) * 4 = nI ((8 - i) * 4) from pk_mul _ 4, nu_vshl (hd16 _) (by omega)]
    exact kx_step (by omega) hd16
theorem xw_pack {post : Int32 → Prop} (hn : n ≤ 6) (hr : r < pq_N n) (ho : re_or n r xor) (hp : post (nI (dg_x (pq_pm n r) n))) : wpX_packedRun post (tc, ac, nI n, fc, sv, oc, xth, xad, xco, xtr, xft, xfk, xfp, xds, xas, xcs, xfi, xwr, xwm, xbo, xor, xme, xvr, xok, xlr, xps) := by
  unfold wpX_packedRun
  refine pk_loop (σ := Unit) (fun f i _ => wX_packedRun_4 post tc ac (nI n) fc sv oc xth xad xco xtr xft xfk xfp xds xas xcs xfi xwr xwm xbo xor xme xvr xok xlr xps f (nI (dg_x (pq_pm n r) i)) (nI i)) (fun _ _ => True) n 0 () (by omega) trivial ?_ ?_
  · exact fun f _ _ => br_t (nI_le (Nat.le_refl n) (by omega)) hp
  · intro f i _ hi _ ih
    have hl := pq_lt hr hi
    have h1 := dg_x_lt (pq_pm n r) i (fun j hj => by have := pq_lt hr (show j < n by omega); omega)
    have h2 := dg_x_lt (pq_pm n r) (i + 1) (fun j hj => by have := pq_lt hr (show j < n by omega); omega)
    have h3 : (16 : Nat) ^ (i + 1) ≤ 16 ^ 6 := Nat.pow_le_pow_right (by decide) (by omega)
    have h4 : (16 : Nat) ^ 6 < 2 ^ 32 := by decide
    refine br_f (nI_ge hi (by omega)) ⟨vp_in_nI (by omega) (by omega), ?_⟩
    rw [nI_clamp (show i < 2 ^ 31 by omega), ho i hi]
    refine nm_r ?_ (nm_r (nI_1 i) (ih () trivial))
    rw [nu_xp (by omega) (by omega)]
    exact dg_ior (k := i * 4) (nu_16 i).symm h1 (Nat.lt_of_lt_of_le h2 (by omega))
theorem xw_pairs {post : Int64 → Prop} (hn : n ≤ 6) (hr : r < pq_N n) (ho : re_or n r xor)
    (hp : ∀ S, (S < 2 ^ 36 ∧ ∀ a b, a < 6 → b < 6 → (S.testBit (a * 6 + b) = true ↔ re_bef n r a b)) → post (lN S)) : wpX_pairsOfRun post (tc, ac, nI n, fc, sv, oc, xth, xad, xco, xtr, xft, xfk, xfp, xds, xas, xcs, xfi, xwr, xwm, xbo, xor, xme, xvr, xok, xlr, xps) := by
  unfold wpX_pairsOfRun
  refine pk_loop (σ := Nat) (fun f i S => wX_pairsOfRun_4 post tc ac (nI n) fc sv oc xth xad xco xtr xft xfk xfp xds xas xcs xfi xwr xwm xbo xor xme xvr xok xlr xps f (lN S) (nI i)) (fun i S => pb_i n (pq_pm n r) i (i + 1) S) n 0 0 (by omega) pb_0 ?_ ?_
  · exact fun f S hI => br_t (nI_le (Nat.le_refl n) (by omega)) (hp S (pb_all hI))
  · intro f i S hi hI ih
    refine br_f (nI_ge hi (by omega)) (nm_r (nI_1 i) ?_)
    refine pk_loop (σ := Nat) (fun f2 j S => wX_pairsOfRun_17 post (wX_pairsOfRun_4 post tc ac (nI n) fc sv oc xth xad xco xtr xft xfk xfp xds xas xcs xfi xwr xwm xbo xor xme xvr xok xlr xps f) (nI i) tc ac (nI n) fc sv oc xth xad xco xtr xft xfk xfp xds xas xcs xfi xwr xwm xbo xor xme xvr xok xlr xps f2 (lN S) (nI j)) (fun j S => i < j ∧ pb_i n (pq_pm n r) i j S) n (i + 1) S (by omega) ⟨by omega, hI⟩ ?_ ?_
    · exact fun f2 S2 hJ => br_t (nI_le (Nat.le_refl n) (by omega)) (nm_r (nI_1 i) (ih S2 (pb_row hJ.2)))
    · intro f2 j S2 hj hJ ih2
      have g1 := pq_lt hr hi
      have g2 := pq_lt hr hj
      refine br_f (nI_ge hj (by omega)) ⟨vp_in_nI (by omega) (by omega), vp_in_nI (by omega) (by omega), ?_⟩
      rw [nI_clamp (show i < 2 ^ 31 by omega), nI_clamp (show j < 2 ^ 31 by omega), ho i hi, ho j hj, nu_6, nu_1shl (by omega), wb_or (by have := hJ.2.1; omega) (Nat.lt_trans (wb_lt2 (show pq_pm n r i * 6 + pq_pm n r j < 36 by omega)) (by decide))]
      exact nm_e (nm_r (nI_1 j) (ih2 _ ⟨by omega, pb_s hJ.2 hn (fun p hp => pq_lt hr hp) hJ.1 hj⟩))
end
