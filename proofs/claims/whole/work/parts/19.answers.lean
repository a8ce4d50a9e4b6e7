/-! depend; what was solved; the questions -/
section
variable {tc ac ec fc sv oc : Int32} {xth xad xco xtr xft xfk xfp xds xas xcs xfi xwr xwm xbo xor xme xvr xlr : Nat → Int32} {xok xps : Nat → Int64} {yt ya yn yf ys yo : Int32} {yth yad yco yrd ywr yaq yrl yon yft yfk yfp yfi ywe ywm yle ysh yor ybo yme ygo : Nat → Int32} {yok : Nat → Int64} {A n F k e l : Nat}
theorem xw_lnk {post : Int32 → SX → Prop} (hl : l < 6)
    (h0 : xds l = -1 → post 0 (tc, ac, ec, fc, 0, oc, xth, xad, xco, xtr, xft, xfk, xfp, upd xds l (nI e), xas, xcs, xfi, xwr, xwm, xbo, xor, xme, xvr, xok, xlr, xps)) (h1 : ¬ xds l = -1 → post (-7) (tc, ac, ec, fc, sv, oc, xth, xad, xco, xtr, xft, xfk, xfp, xds, xas, xcs, xfi, xwr, xwm, xbo, xor, xme, xvr, xok, xlr, xps)) : wpX_link__dataSource post (tc, ac, ec, fc, sv, oc, xth, xad, xco, xtr, xft, xfk, xfp, xds, xas, xcs, xfi, xwr, xwm, xbo, xor, xme, xvr, xok, xlr, xps) (nI l) (nI e) := by
  have v6 : vp_in (nI l) 6 := vp_in_nI (by omega) (by omega)
  unfold wpX_link__dataSource
  dsimp only
  rw [nI_clamp (show l < 2 ^ 31 by omega)]
  exact ⟨v6, br_c (fun c => ⟨v6, nm_e (h0 c)⟩) h1⟩
theorem xw_lnk2 {post : Int32 → SX → Prop} (hl : l < 6)
    (h0 : xas l = -1 → post 0 (tc, ac, ec, fc, 0, oc, xth, xad, xco, xtr, xft, xfk, xfp, xds, upd xas l (nI e), xcs, xfi, xwr, xwm, xbo, xor, xme, xvr, xok, xlr, xps)) (h1 : ¬ xas l = -1 → post (-7) (tc, ac, ec, fc, sv, oc, xth, xad, xco, xtr, xft, xfk, xfp, xds, xas, xcs, xfi, xwr, xwm, xbo, xor, xme, xvr, xok, xlr, xps)) : wpX_link__addressSource post (tc, ac, ec, fc, sv, oc, xth, xad, xco, xtr, xft, xfk, xfp, xds, xas, xcs, xfi, xwr, xwm, xbo, xor, xme, xvr, xok, xlr, xps) (nI l) (nI e) := by
  have v6 : vp_in (nI l) 6 := vp_in_nI (by omega) (by omega)
  unfold wpX_link__addressSource
  dsimp only
  rw [nI_clamp (show l < 2 ^ 31 by omega)]
  exact ⟨v6, br_c (fun c => ⟨v6, nm_e (h0 c)⟩) h1⟩
theorem xw_lnk3 {post : Int32 → SX → Prop} (hl : l < 6)
    (h0 : xcs l = -1 → post 0 (tc, ac, ec, fc, 0, oc, xth, xad, xco, xtr, xft, xfk, xfp, xds, xas, upd xcs l (nI e), xfi, xwr, xwm, xbo, xor, xme, xvr, xok, xlr, xps)) (h1 : ¬ xcs l = -1 → post (-7) (tc, ac, ec, fc, sv, oc, xth, xad, xco, xtr, xft, xfk, xfp, xds, xas, xcs, xfi, xwr, xwm, xbo, xor, xme, xvr, xok, xlr, xps)) : wpX_link__controlSource post (tc, ac, ec, fc, sv, oc, xth, xad, xco, xtr, xft, xfk, xfp, xds, xas, xcs, xfi, xwr, xwm, xbo, xor, xme, xvr, xok, xlr, xps) (nI l) (nI e) := by
  have v6 : vp_in (nI l) 6 := vp_in_nI (by omega) (by omega)
  unfold wpX_link__controlSource
  dsimp only
  rw [nI_clamp (show l < 2 ^ 31 by omega)]
  exact ⟨v6, br_c (fun c => ⟨v6, nm_e (h0 c)⟩) h1⟩
theorem yw_81 {post : Int32 → SY → Prop} {c : Nat} (hl : l < 6) (hc : c ≤ 3) (h0 : yon (4 * l + c) < 0 → post 0 (yt, ya, yn, yf, 0, yo, yth, yad, yco, yrd, ywr, yaq, yrl, upd yon (4 * l + c) (nI e), yft, yfk, yfp, yfi, ywe, ywm, yok, yle, ysh, yor, ybo, yme, ygo)) (h1 : ¬ yon (4 * l + c) < 0 → post (-7) (yt, ya, yn, yf, ys, yo, yth, yad, yco, yrd, ywr, yaq, yrl, yon, yft, yfk, yfp, yfi, ywe, ywm, yok, yle, ysh, yor, ybo, yme, ygo)) : wY_depend_81 post (nI l) (nI e) (nI c) yt ya yn yf ys yo yth yad yco yrd ywr yaq yrl yon yft yfk yfp yfi ywe ywm yok yle ysh yor ybo yme ygo := by
  have v : vp_in (nI (4 * l + c)) 24 := vp_in_nI (by omega) (by omega)
  unfold wY_depend_81
  rw [nu_4, nI_clamp (show 4 * l + c < 2 ^ 31 by omega)]
  exact ⟨v, br_c (fun q => ⟨v, nm_e (h0 q)⟩) h1⟩
end
theorem vc_neg {n A F l c : Nat} {th ad co rd wr aq rl on fk fi : Nat → Int32} (hP : mu_P n A F th ad co rd wr aq rl on fk fi) (hl : l < n) (h1 : 1 ≤ c) (h2 : c ≤ 3) : on (4 * l + c) < 0 ↔ on (4 * l + c) = -1 := by
  have hh := hP.1
  rcases hP.2.2.2.1 l c hl h1 h2 with z | ⟨j, hj, z, _⟩
  · rw [z]; decide
  · rw [z]
    exact ⟨fun q => absurd q (nI_pos (by omega)), fun q => absurd q (nu_m1 j (by omega))⟩
theorem i_vc_depend {k : Nat} {u : SX} {v : SY} (I : i_Rel k u v) (hk : k + 5 ≤ 2562) (v1 : Int32) (v2 : Int32) (v3 : Int32) : wpX_depend (fun r u' => wpY_depend (fun r' v' => r' = r ∧ i_Rel (k + 5) u' v') v v1 v2 v3) u v1 v2 v3 := by
  obtain ⟨tc, sv, oc, yo, A, n, F, xth, xad, xco, xtr, xft, xfk, xfp, xds, xas, xcs, xfi, xwr, xwm, xbo, xor, xme, xvr, xok, xlr, xps, yrd, ywr, yaq, yrl, yon, yok, yle, ysh, yor, ybo, yme, ygo, rfl, rfl, hP, hT, hS, hW, hO⟩ := I
  have hh := hP.1
  have bad : ∀ r : Int32, r = r ∧ i_Rel (k + 5) (tc, nI A, nI n, nI F, sv, oc, xth, xad, xco, xtr, xft, xfk, xfp, xds, xas, xcs, xfi, xwr, xwm, xbo, xor, xme, xvr, xok, xlr, xps) (tc, nI A, nI n, nI F, sv, yo, xth, xad, xco, yrd, ywr, yaq, yrl, yon, xft, xfk, xfp, xfi, xwr, xwm, yok, yle, ysh, yor, ybo, yme, ygo) := fun r => ⟨rfl, re_mk hP hT hS hW hO⟩
  unfold wpX_depend
  rcases pk_ix v1 (n := n) (by omega) with z | z | ⟨l, hl, rfl⟩
  · refine xr_evN (Or.inl z) (br_t rfl ?_)
    unfold wpY_depend
    exact yr_evN (Or.inl z) (br_t rfl (bad _))
  · refine xr_evN (Or.inr z) (br_t rfl ?_)
    unfold wpY_depend
    exact yr_evN (Or.inr z) (br_t rfl (bad _))
  refine xr_evY hh.1 hl (br_f x1_0 ?_)
  rcases pk_ix v2 (n := n) (by omega) with z | z | ⟨e, he, rfl⟩
  · refine xr_evN (Or.inl z) (br_t rfl ?_)
    unfold wpY_depend
    exact yr_evY hh.1 hl (br_f x1_0 (yr_evN (Or.inl z) (br_t rfl (bad _))))
  · refine xr_evN (Or.inr z) (br_t rfl ?_)
    unfold wpY_depend
    exact yr_evY hh.1 hl (br_f x1_0 (yr_evN (Or.inr z) (br_t rfl (bad _))))
  refine xr_evY hh.1 he (br_f x1_0 ?_)
  have vl : vp_in (nI l) 6 := vp_in_nI (by omega) (by omega)
  have ve : vp_in (nI e) 6 := vp_in_nI (by omega) (by omega)
  have cl : (nI l).toNatClampNeg = l := nI_clamp (by omega)
  have ce : (nI e).toNatClampNeg = e := nI_clamp (by omega)
  rw [cl, ce]
  refine ⟨vl, ve, ?_⟩
  by_cases et : xth l = xth e
  rotate_left
  · refine br_f et ?_
    unfold wpY_depend
    rw [cl, ce]
    exact yr_evY hh.1 hl (br_f x1_0 (yr_evY hh.1 he (br_f x1_0 ⟨vl, ve, br_f et (bad _)⟩)))
  refine br_t et ?_
  by_cases el : nI l ≤ nI e
  · refine br_t el ?_
    unfold wpY_depend
    rw [cl, ce]
    exact yr_evY hh.1 hl (br_f x1_0 (yr_evY hh.1 he (br_f x1_0 ⟨vl, ve, br_t et (br_t el (bad _))⟩)))
  refine br_f el ?_
  have hel : e < l := by
    rw [nI_leI (by omega) (by omega)] at el
    omega
  refine xr_rd hT (by omega) (fun c => br_t rfl ?_) (fun c => br_f x1_0 ?_)
  · unfold wpY_depend
    rw [cl, ce]
    exact yr_evY hh.1 hl (br_f x1_0 (yr_evY hh.1 he (br_f x1_0 ⟨vl, ve, br_t et (br_f el ⟨ve, br_t c (bad _)⟩)⟩)))
  have hq := hS l (by omega)
  have yk : ∀ (P : Int32 → SY → Prop), (¬ v3 < 1 → v3 ≤ 3 → (v3 = 1 → ywr l = 0 → P (-6) (tc, nI A, nI n, nI F, sv, yo, xth, xad, xco, yrd, ywr, yaq, yrl, yon, xft, xfk, xfp, xfi, xwr, xwm, yok, yle, ysh, yor, ybo, yme, ygo)) ∧ ((v3 = 1 → ¬ ywr l = 0) → wY_depend_81 P (nI l) (nI e) v3 tc (nI A) (nI n) (nI F) sv yo xth xad xco yrd ywr yaq yrl yon xft xfk xfp xfi xwr xwm yok yle ysh yor ybo yme ygo)) → ((v3 < 1 ∨ ¬ v3 ≤ 3) → P (-3) (tc, nI A, nI n, nI F, sv, yo, xth, xad, xco, yrd, ywr, yaq, yrl, yon, xft, xfk, xfp, xfi, xwr, xwm, yok, yle, ysh, yor, ybo, yme, ygo)) → wpY_depend P (tc, nI A, nI n, nI F, sv, yo, xth, xad, xco, yrd, ywr, yaq, yrl, yon, xft, xfk, xfp, xfi, xwr, xwm, yok, yle, ysh, yor, ybo, yme, ygo) (nI l) (nI e) v3 := by
    intro P h1 h2
    unfold wpY_depend
    rw [cl, ce]
    refine yr_evY hh.1 hl (br_f x1_0 (yr_evY hh.1 he (br_f x1_0 ⟨vl, ve, br_t et (br_f el ⟨ve, br_f c ?_⟩)⟩)))
    by_cases g1 : v3 < 1
    · exact br_t g1 (h2 (Or.inl g1))
    by_cases g2 : v3 ≤ 3
    · refine br_f g1 (br_t g2 (br_c (fun e1 => ⟨vl, br_c (fun w => (h1 g1 g2).1 e1 w) (fun w => (h1 g1 g2).2 (fun _ => w))⟩) (fun e1 => (h1 g1 g2).2 (fun z => absurd z e1))))
    · exact br_f g1 (br_f g2 (h2 (Or.inr g2)))
  refine br_c (fun e1 => ?_) (fun e1 => br_c (fun e2 => ?_) (fun e2 => br_c (fun e3 => ?_) (fun e3 => ?_)))
  · subst e1
    unfold wX_depend_69
    refine br_t rfl (xr_wr hT (by omega) (fun w => br_t rfl (yk _ (fun _ _ => ⟨fun _ _ => bad _, fun z => absurd w (z rfl)⟩) (fun z => absurd z (by decide)))) (fun w => br_f x1_0 ?_))
    unfold wX_depend_86
    refine br_t rfl (xw_lnk (by omega) (fun d => yk _ (fun _ _ => ⟨fun _ z => absurd z w, fun _ => ?_⟩) (fun z => absurd z (by decide))) (fun d => yk _ (fun _ _ => ⟨fun _ z => absurd z w, fun _ => ?_⟩) (fun z => absurd z (by decide))))
    · rw [hq.1] at d
      refine yw_81 (c := 1) (by omega) (by omega) (fun q => ⟨rfl, re_mk (mu_dep hP hl hel et.symm (by omega) (by omega)) hT (re_S_up (k := 1) hS (by omega) (by omega) (by omega) (if_pos rfl).symm rfl rfl) hW re_n0⟩) (fun q => absurd ((vc_neg hP hl (by omega) (by omega)).mpr d) q)
    · rw [hq.1] at d
      exact yw_81 (c := 1) (by omega) (by omega) (fun q => absurd ((vc_neg hP hl (by omega) (by omega)).mp q) d) (fun q => bad _)
  · subst e2
    unfold wX_depend_69
    refine br_f (by decide) ?_
    unfold wX_depend_86
    refine br_f (by decide) (br_t rfl (xw_lnk2 (by omega) (fun d => yk _ (fun _ _ => ⟨fun z => absurd z (by decide), fun _ => ?_⟩) (fun z => absurd z (by decide))) (fun d => yk _ (fun _ _ => ⟨fun z => absurd z (by decide), fun _ => ?_⟩) (fun z => absurd z (by decide)))))
    · rw [hq.2.1] at d
      refine yw_81 (c := 2) (by omega) (by omega) (fun q => ⟨rfl, re_mk (mu_dep hP hl hel et.symm (by omega) (by omega)) hT (re_S_up (k := 2) hS (by omega) (by omega) (by omega) rfl (if_pos rfl).symm rfl) hW re_n0⟩) (fun q => absurd ((vc_neg hP hl (by omega) (by omega)).mpr d) q)
    · rw [hq.2.1] at d
      exact yw_81 (c := 2) (by omega) (by omega) (fun q => absurd ((vc_neg hP hl (by omega) (by omega)).mp q) d) (fun q => bad _)
  · subst e3
    unfold wX_depend_69
    refine br_f (by decide) ?_
    unfold wX_depend_86
    refine br_f (by decide) (br_f (by decide) (xw_lnk3 (by omega) (fun d => yk _ (fun _ _ => ⟨fun z => absurd z (by decide), fun _ => ?_⟩) (fun z => absurd z (by decide))) (fun d => yk _ (fun _ _ => ⟨fun z => absurd z (by decide), fun _ => ?_⟩) (fun z => absurd z (by decide)))))
    · rw [hq.2.2] at d
      refine yw_81 (c := 3) (by omega) (by omega) (fun q => ⟨rfl, re_mk (mu_dep hP hl hel et.symm (by omega) (by omega)) hT (re_S_up (k := 3) hS (by omega) (by omega) (by omega) rfl rfl (if_pos rfl).symm) hW re_n0⟩) (fun q => absurd ((vc_neg hP hl (by omega) (by omega)).mpr d) q)
    · rw [hq.2.2] at d
      exact yw_81 (c := 3) (by omega) (by omega) (fun q => absurd ((vc_neg hP hl (by omega) (by omega)).mp q) d) (fun q => bad _)
  · refine yk _ (fun g1 g2 => ?_) (fun _ => bad _)
    exfalso
    have c0 : ¬ v3 < 0 := fun z => g1 (Int32.lt_trans z (by decide))
    obtain ⟨j, hj, rfl⟩ := nI_of2 (n := 3) (show (3 : Int32).toInt = ((3 : Nat) : Int) by decide) c0 g2
    have hj4 : j = 0 ∨ j = 1 ∨ j = 2 ∨ j = 3 := by omega
    rcases hj4 with rfl | rfl | rfl | rfl
    · exact g1 (by decide)
    · exact e1 rfl
    · exact e2 rfl
    · exact e3 rfl
theorem i_vc_solve {k : Nat} {u : SX} {v : SY} (I : i_Rel k u v) (hk : k + 5 ≤ 2562) : wpX_solve (fun r u' => wpY_solve (fun r' v' => r' = r ∧ i_Rel (k + 5) u' v') v) u := by
  obtain ⟨tc, sv, oc, yo, A, n, F, xth, xad, xco, xtr, xft, xfk, xfp, xds, xas, xcs, xfi, xwr, xwm, xbo, xor, xme, xvr, xok, xlr, xps, yrd, ywr, yaq, yrl, yon, yok, yle, ysh, yor, ybo, yme, ygo, rfl, rfl, hP, hT, hS, hW, hO⟩ := I
  refine xw_solve hP hT hS (fun bo' or' me' vr' oc' ok' lr' ps' hX => yw_solve hP (fun or2 bo2 me2 go2 yo' yok' le' hY => ?_))
  obtain ⟨m, K, R, S, e0, h1, h2, h3⟩ := hX
  obtain ⟨m', K', R', e0', h2'⟩ := hY
  rw [e0] at e0'
  cases e0'
  exact ⟨h2'.1.trans h2.1.symm, re_mk hP hT hS hW (fun _ => ⟨m, K, R, S, e0, h1, h2, h3, h2'⟩)⟩
