/-! the calls that build a program, and the wishes -/
section
variable {tc ac ec fc sv oc : Int32} {xth xad xco xtr xft xfk xfp xds xas xcs xfi xwr xwm xbo xor xme xvr xlr : Nat → Int32} {xok xps : Nat → Int64} {yt ya yn yf ys yo : Int32} {yth yad yco yrd ywr yaq yrl yon yft yfk yfp yfi ywe ywm yle ysh yor ybo yme ygo : Nat → Int32} {yok : Nat → Int64} {A n F k : Nat}
theorem rf_both (t x mk gm : Int32) (hn : n ≤ 6) (hA : A ≤ 3) :
    (∃ c : Int32, ¬ c = 0 ∧ ¬ 0 ≤ c ∧ (∀ post : Int32 → Prop, post c → wpX_refusalOfEvent post (tc, nI A, nI n, fc, sv, oc, xth, xad, xco, xtr, xft, xfk, xfp, xds, xas, xcs, xfi, xwr, xwm, xbo, xor, xme, xvr, xok, xlr, xps) t x mk gm) ∧ (∀ post : Int32 → Prop, post c → wpY_refuse post (tc, nI A, nI n, yf, ys, yo, yth, yad, yco, yrd, ywr, yaq, yrl, yon, yft, yfk, yfp, yfi, ywe, ywm, yok, yle, ysh, yor, ybo, yme, ygo) t x mk gm))
    ∨ (n < 6 ∧ (∃ j, j < A ∧ x = nI j) ∧ ¬ mk < 0 ∧ mk ≤ gm ∧ (∀ post : Int32 → Prop, post 0 → wpX_refusalOfEvent post (tc, nI A, nI n, fc, sv, oc, xth, xad, xco, xtr, xft, xfk, xfp, xds, xas, xcs, xfi, xwr, xwm, xbo, xor, xme, xvr, xok, xlr, xps) t x mk gm) ∧ (∀ post : Int32 → Prop, post 0 → wpY_refuse post (tc, nI A, nI n, yf, ys, yo, yth, yad, yco, yrd, ywr, yaq, yrl, yon, yft, yfk, yfp, yfi, ywe, ywm, yok, yle, ysh, yor, ybo, yme, ygo) t x mk gm)) := by
  by_cases t0 : t < 0
  · refine Or.inl ⟨-1, by decide, by decide, fun post hp => ?_, fun post hp => ?_⟩
    · unfold wpX_refusalOfEvent
      exact xr_thN (Or.inl t0) (br_t rfl hp)
    · unfold wpY_refuse
      exact br_t t0 hp
  by_cases t1 : tc ≤ t
  · refine Or.inl ⟨-1, by decide, by decide, fun post hp => ?_, fun post hp => ?_⟩
    · unfold wpX_refusalOfEvent
      exact xr_thN (Or.inr t1) (br_t rfl hp)
    · unfold wpY_refuse
      exact br_f t0 (br_f (Int32.not_lt.mpr t1) hp)
  have t2 : t < tc := Int32.not_le.mp t1
  by_cases x0 : x < 0
  · refine Or.inl ⟨-2, by decide, by decide, fun post hp => ?_, fun post hp => ?_⟩
    · unfold wpX_refusalOfEvent
      exact xr_thY t0 t1 (br_f x1_0 (xr_adN (Or.inl x0) (br_t rfl hp)))
    · unfold wpY_refuse
      exact br_f t0 (br_t t2 (br_t x0 hp))
  by_cases x1 : nI A ≤ x
  · refine Or.inl ⟨-2, by decide, by decide, fun post hp => ?_, fun post hp => ?_⟩
    · unfold wpX_refusalOfEvent
      exact xr_thY t0 t1 (br_f x1_0 (xr_adN (Or.inr x1) (br_t rfl hp)))
    · unfold wpY_refuse
      exact br_f t0 (br_t t2 (br_f x0 (br_f (Int32.not_lt.mpr x1) hp)))
  have x2 : x < nI A := Int32.not_le.mp x1
  by_cases m0 : mk < 0
  · refine Or.inl ⟨-3, by decide, by decide, fun post hp => ?_, fun post hp => ?_⟩
    · unfold wpX_refusalOfEvent
      exact xr_thY t0 t1 (br_f x1_0 (xr_adY x0 x1 (br_f x1_0 (br_t m0 hp))))
    · unfold wpY_refuse
      exact br_f t0 (br_t t2 (br_f x0 (br_t x2 (br_t m0 hp))))
  by_cases m1 : mk ≤ gm
  · by_cases c : n < 6
    · refine Or.inr ⟨c, ?_, m0, m1, fun post hp => ?_, fun post hp => ?_⟩
      · rcases pk_ix x (n := A) (by omega) with z | z | z
        · exact absurd z x0
        · exact absurd z x1
        · exact z
      · unfold wpX_refusalOfEvent
        exact xr_thY t0 t1 (br_f x1_0 (xr_adY x0 x1 (br_f x1_0 (br_f m0 (br_t m1 (br_t (nI_lt (b := 6) c (by decide)) hp))))))
      · unfold wpY_refuse
        refine br_f t0 (br_t t2 (br_f x0 (br_t x2 (br_f m0 (br_t m1 (br_f ?_ hp))))))
        rw [show (6 : Int32) = nI 6 from rfl, nI_eq (by omega) (by decide)]; omega
    · have e : n = 6 := by omega
      subst e
      refine Or.inl ⟨-4, by decide, by decide, fun post hp => ?_, fun post hp => ?_⟩
      · unfold wpX_refusalOfEvent
        exact xr_thY t0 t1 (br_f x1_0 (xr_adY x0 x1 (br_f x1_0 (br_f m0 (br_t m1 (br_f (by decide) hp))))))
      · unfold wpY_refuse
        exact br_f t0 (br_t t2 (br_f x0 (br_t x2 (br_f m0 (br_t m1 (br_t rfl hp))))))
  · refine Or.inl ⟨-3, by decide, by decide, fun post hp => ?_, fun post hp => ?_⟩
    · unfold wpX_refusalOfEvent
      exact xr_thY t0 t1 (br_f x1_0 (xr_adY x0 x1 (br_f x1_0 (br_f m0 (br_f m1 hp)))))
    · unfold wpY_refuse
      exact br_f t0 (br_t t2 (br_f x0 (br_t x2 (br_f m0 (br_f m1 hp)))))
theorem xw_app {post : Int32 → SX → Prop} {p0 p1 p2 p3 : Int32} (hn : n < 6) (hp : post (nI n) (tc, ac, nI (n + 1), fc, 0, oc, upd xth n p0, upd xad n p1, upd xco n (p2 &&& 15), upd xtr n p3, xft, xfk, xfp, xds, xas, xcs, xfi, xwr, xwm, xbo, xor, xme, xvr, xok, xlr, xps)) : wpX_appendEvent post (tc, ac, nI n, fc, sv, oc, xth, xad, xco, xtr, xft, xfk, xfp, xds, xas, xcs, xfi, xwr, xwm, xbo, xor, xme, xvr, xok, xlr, xps) p0 p1 p2 p3 := by
  have v6 : vp_in (nI n) 6 := vp_in_nI hn (by omega)
  unfold wpX_appendEvent
  dsimp only
  rw [nI_clamp (show n < 2 ^ 31 by omega)]
  exact ⟨v6, nm_e ⟨v6, nm_e ⟨v6, nm_e ⟨v6, nm_e (nm_r (nI_1 n) hp)⟩⟩⟩⟩
theorem yw_app {post : Int32 → SY → Prop} {p0 p1 p2 p3 p4 : Int32} (hn : n < 6) (hp : post (nI n) (yt, ya, nI (n + 1), yf, 0, yo, upd yth n p0, upd yad n p1, upd yco n (p2 &&& 15), upd yrd n (vp_nar .boolean p3), upd ywr n (vp_nar .boolean p4), upd yaq n (vp_nar .boolean 0), upd yrl n (vp_nar .boolean 0), yon, yft, yfk, yfp, yfi, ywe, ywm, yok, yle, ysh, yor, ybo, yme, ygo)) : wpY_append post (yt, ya, nI n, yf, ys, yo, yth, yad, yco, yrd, ywr, yaq, yrl, yon, yft, yfk, yfp, yfi, ywe, ywm, yok, yle, ysh, yor, ybo, yme, ygo) p0 p1 p2 p3 p4 := by
  have v6 : vp_in (nI n) 6 := vp_in_nI hn (by omega)
  unfold wpY_append
  dsimp only
  rw [nI_clamp (show n < 2 ^ 31 by omega)]
  refine ⟨v6, nm_e ⟨v6, nm_e ⟨v6, nm_e ⟨v6, nm_e ⟨v6, nm_e ⟨v6, nm_e ⟨v6, nm_e (nm_r (nI_1 n) ?_)⟩⟩⟩⟩⟩⟩⟩
  rw [nI_pred]; exact hp
theorem vc_app {t c tz : Int32} {x : Nat} {rd' wr' aq' rl' : Nat → Int32} (hP : mu_P n A F xth xad xco yrd ywr yaq yrl yon xfk xfi) (hT : re_T xtr yrd ywr yaq yrl) (hS : re_S xds xas xcs yon) (hW : re_W n A xwr xwm) (hn : n < 6) (hx : x < A)
    (hb : (tz &&& 1 = 0 ↔ rd' n = 0) ∧ (tz &&& 2 = 0 ↔ wr' n = 0) ∧ (tz &&& 4 = 0 ↔ aq' n = 0) ∧ (tz &&& 8 = 0 ↔ rl' n = 0))
    (hf : (rd' n = 0 ∨ rd' n = 1) ∧ (wr' n = 0 ∨ wr' n = 1) ∧ (aq' n = 0 ∨ aq' n = 1) ∧ (rl' n = 0 ∨ rl' n = 1))
    (ho : ∀ e, e ≠ n → rd' e = yrd e ∧ wr' e = ywr e ∧ aq' e = yaq e ∧ rl' e = yrl e) :
    i_Rel k (tc, nI A, nI (n + 1), nI F, 0, oc, upd xth n t, upd xad n (nI x), upd xco n c, upd xtr n tz, xft, xfk, xfp, xds, xas, xcs, xfi, xwr, xwm, xbo, xor, xme, xvr, xok, xlr, xps) (tc, nI A, nI (n + 1), nI F, 0, yo, upd xth n t, upd xad n (nI x), upd xco n c, rd', wr', aq', rl', yon, xft, xfk, xfp, xfi, xwr, xwm, yok, yle, ysh, yor, ybo, yme, ygo) :=
  re_mk (mu_app hP hn hx hf ho) (re_T_up (n := n) hT (by rw [pk_us]; exact hb) (fun e he => ⟨pk_un he, ho e he⟩)) hS (re_W_app hW) re_n0
theorem up2 {f : Nat → Int32} {j : Nat} {x y : Int32} : upd (upd f j x) j y j = y := pk_us
theorem up2n {f : Nat → Int32} {j e : Nat} {x y : Int32} (h : e ≠ j) : upd (upd f j x) j y e = f e := by rw [pk_un h, pk_un h]
end
theorem i_vc_load {k : Nat} {u : SX} {v : SY} (I : i_Rel k u v) (hk : k + 5 ≤ 2562) (v1 : Int32) (v2 : Int32) (v3 : Int32) : wpX_load (fun r u' => wpY_load (fun r' v' => r' = r ∧ i_Rel (k + 5) u' v') v v1 v2 v3) u v1 v2 v3 := by
  obtain ⟨tc, sv, oc, yo, A, n, F, xth, xad, xco, xtr, xft, xfk, xfp, xds, xas, xcs, xfi, xwr, xwm, xbo, xor, xme, xvr, xok, xlr, xps, yrd, ywr, yaq, yrl, yon, yok, yle, ysh, yor, ybo, yme, ygo, rfl, rfl, hP, hT, hS, hW, hO⟩ := I
  have hh := hP.1
  unfold wpX_load
  rcases rf_both v1 v2 v3 1 hh.1 hh.2.2.1 with ⟨c, c1, c2, hX, hY⟩ | ⟨hn, ⟨x, hx, rfl⟩, m0, m1, hX, hY⟩
  · refine hX _ (br_f c1 ?_)
    unfold wpY_load
    exact hY _ (br_f c2 ⟨rfl, re_mk hP hT hS hW hO⟩)
  · have v6 : vp_in (nI n) 6 := vp_in_nI hn (by omega)
    refine hX _ (br_t rfl (br_c (fun e => ?_) (fun e => ?_)))
    · unfold wX_load_28
      refine xw_app hn ?_
      unfold wpY_load
      refine hY _ (br_t (by decide) (yw_app hn (br_t e ⟨v6, ?_⟩)))
      rw [nI_clamp (show n < 2 ^ 31 by omega)]
      refine nm_e ⟨rfl, vc_app hP hT hS hW hn hx ?_ ?_ (fun e he => ⟨pk_un he, pk_un he, up2n he, pk_un he⟩)⟩
      · rw [up2, pk_us, pk_us, pk_us]; decide
      · rw [up2, pk_us, pk_us, pk_us]; decide
    · unfold wX_load_28
      refine xw_app hn ?_
      unfold wpY_load
      refine hY _ (br_t (by decide) (yw_app hn (br_f e ⟨v6, ?_⟩)))
      rw [nI_clamp (show n < 2 ^ 31 by omega)]
      refine nm_e ⟨rfl, vc_app hP hT hS hW hn hx ?_ ?_ (fun e he => ⟨pk_un he, pk_un he, up2n he, pk_un he⟩)⟩
      · rw [up2, pk_us, pk_us, pk_us]; decide
      · rw [up2, pk_us, pk_us, pk_us]; decide
theorem i_vc_store {k : Nat} {u : SX} {v : SY} (I : i_Rel k u v) (hk : k + 5 ≤ 2562) (v1 : Int32) (v2 : Int32) (v3 : Int32) (v4 : Int32) : wpX_store (fun r u' => wpY_store (fun r' v' => r' = r ∧ i_Rel (k + 5) u' v') v v1 v2 v3 v4) u v1 v2 v3 v4 := by
  obtain ⟨tc, sv, oc, yo, A, n, F, xth, xad, xco, xtr, xft, xfk, xfp, xds, xas, xcs, xfi, xwr, xwm, xbo, xor, xme, xvr, xok, xlr, xps, yrd, ywr, yaq, yrl, yon, yok, yle, ysh, yor, ybo, yme, ygo, rfl, rfl, hP, hT, hS, hW, hO⟩ := I
  have hh := hP.1
  unfold wpX_store
  rcases rf_both v1 v2 v4 1 hh.1 hh.2.2.1 with ⟨c, c1, c2, hX, hY⟩ | ⟨hn, ⟨x, hx, rfl⟩, m0, m1, hX, hY⟩
  · refine hX _ (br_f c1 ?_)
    unfold wpY_store
    exact hY _ (br_f c2 ⟨rfl, re_mk hP hT hS hW hO⟩)
  · have v6 : vp_in (nI n) 6 := vp_in_nI hn (by omega)
    refine hX _ (br_t rfl (br_c (fun e => ?_) (fun e => ?_)))
    · unfold wX_store_31
      refine xw_app hn ?_
      unfold wpY_store
      refine hY _ (br_t (by decide) (yw_app hn (br_t e ⟨v6, ?_⟩)))
      rw [nI_clamp (show n < 2 ^ 31 by omega)]
      refine nm_e ⟨rfl, vc_app hP hT hS hW hn hx ?_ ?_ (fun e he => ⟨pk_un he, pk_un he, pk_un he, up2n he⟩)⟩
      · rw [up2, pk_us, pk_us, pk_us]; decide
      · rw [up2, pk_us, pk_us, pk_us]; decide
    · unfold wX_store_31
      refine xw_app hn ?_
      unfold wpY_store
      refine hY _ (br_t (by decide) (yw_app hn (br_f e ⟨v6, ?_⟩)))
      rw [nI_clamp (show n < 2 ^ 31 by omega)]
      refine nm_e ⟨rfl, vc_app hP hT hS hW hn hx ?_ ?_ (fun e he => ⟨pk_un he, pk_un he, pk_un he, up2n he⟩)⟩
      · rw [up2, pk_us, pk_us, pk_us]; decide
      · rw [up2, pk_us, pk_us, pk_us]; decide
theorem i_vc_add {k : Nat} {u : SX} {v : SY} (I : i_Rel k u v) (hk : k + 5 ≤ 2562) (v1 : Int32) (v2 : Int32) (v3 : Int32) (v4 : Int32) : wpX_add (fun r u' => wpY_add (fun r' v' => r' = r ∧ i_Rel (k + 5) u' v') v v1 v2 v3 v4) u v1 v2 v3 v4 := by
  obtain ⟨tc, sv, oc, yo, A, n, F, xth, xad, xco, xtr, xft, xfk, xfp, xds, xas, xcs, xfi, xwr, xwm, xbo, xor, xme, xvr, xok, xlr, xps, yrd, ywr, yaq, yrl, yon, yok, yle, ysh, yor, ybo, yme, ygo, rfl, rfl, hP, hT, hS, hW, hO⟩ := I
  have hh := hP.1
  unfold wpX_add
  rcases rf_both v1 v2 v4 3 hh.1 hh.2.2.1 with ⟨c, c1, c2, hX, hY⟩ | ⟨hn, ⟨x, hx, rfl⟩, m0, m1, hX, hY⟩
  · refine hX _ (br_f c1 ?_)
    unfold wpY_add
    exact hY _ (br_f c2 ⟨rfl, re_mk hP hT hS hW hO⟩)
  · have v6 : vp_in (nI n) 6 := vp_in_nI hn (by omega)
    have cn : (nI n).toNatClampNeg = n := nI_clamp (by omega)
    obtain ⟨j, hj, rfl⟩ := nI_of2 (n := 3) (show (3 : Int32).toInt = ((3 : Nat) : Int) by decide) m0 m1
    have hj4 : j = 0 ∨ j = 1 ∨ j = 2 ∨ j = 3 := by omega
    rcases hj4 with rfl | rfl | rfl | rfl
    · refine hX _ (br_t rfl (br_t (by decide) ?_))
      unfold wX_add_31
      refine br_t (by decide) ?_
      unfold wX_add_46
      refine xw_app hn ?_
      unfold wpY_add
      refine hY _ (br_t (by decide) (yw_app hn (br_f (by decide) (br_f (by decide) ?_))))
      unfold wY_add_53
      rw [cn]
      refine ⟨v6, nm_e (br_f (by decide) (br_f (by decide) ⟨v6, ?_⟩))⟩
      refine nm_e ⟨rfl, vc_app hP hT hS hW hn hx ?_ ?_ (fun e he => ⟨pk_un he, pk_un he, up2n he, up2n he⟩)⟩
      · rw [up2, up2, pk_us, pk_us]; decide
      · rw [up2, up2, pk_us, pk_us]; decide
    · refine hX _ (br_t rfl (br_f (by decide) ?_))
      unfold wX_add_31
      refine br_t (by decide) ?_
      unfold wX_add_46
      refine xw_app hn ?_
      unfold wpY_add
      refine hY _ (br_t (by decide) (yw_app hn (br_t (by decide) ?_)))
      unfold wY_add_48
      unfold wY_add_53
      rw [cn]
      refine ⟨v6, nm_e (br_f (by decide) (br_f (by decide) ⟨v6, ?_⟩))⟩
      refine nm_e ⟨rfl, vc_app hP hT hS hW hn hx ?_ ?_ (fun e he => ⟨pk_un he, pk_un he, up2n he, up2n he⟩)⟩
      · rw [up2, up2, pk_us, pk_us]; decide
      · rw [up2, up2, pk_us, pk_us]; decide
    · refine hX _ (br_t rfl (br_t (by decide) ?_))
      unfold wX_add_31
      refine br_f (by decide) ?_
      unfold wX_add_46
      refine xw_app hn ?_
      unfold wpY_add
      refine hY _ (br_t (by decide) (yw_app hn (br_f (by decide) (br_f (by decide) ?_))))
      unfold wY_add_53
      rw [cn]
      refine ⟨v6, nm_e (br_t (by decide) ⟨v6, ?_⟩)⟩
      refine nm_e ⟨rfl, vc_app hP hT hS hW hn hx ?_ ?_ (fun e he => ⟨pk_un he, pk_un he, up2n he, up2n he⟩)⟩
      · rw [up2, up2, pk_us, pk_us]; decide
      · rw [up2, up2, pk_us, pk_us]; decide
    · refine hX _ (br_t rfl (br_f (by decide) ?_))
      unfold wX_add_31
      refine br_f (by decide) ?_
      unfold wX_add_46
      refine xw_app hn ?_
      unfold wpY_add
      refine hY _ (br_t (by decide) (yw_app hn (br_f (by decide) (br_t (by decide) ?_))))
      unfold wY_add_48
      unfold wY_add_53
      rw [cn]
      refine ⟨v6, nm_e (br_f (by decide) (br_t (by decide) ⟨v6, ?_⟩))⟩
      refine nm_e ⟨rfl, vc_app hP hT hS hW hn hx ?_ ?_ (fun e he => ⟨pk_un he, pk_un he, up2n he, up2n he⟩)⟩
      · rw [up2, up2, pk_us, pk_us]; decide
      · rw [up2, up2, pk_us, pk_us]; decide
theorem i_vc_fence {k : Nat} {u : SX} {v : SY} (I : i_Rel k u v) (hk : k + 5 ≤ 2562) (v1 : Int32) (v2 : Int32) : wpX_fence (fun r u' => wpY_fence (fun r' v' => r' = r ∧ i_Rel (k + 5) u' v') v v1 v2) u v1 v2 := by
  obtain ⟨tc, sv, oc, yo, A, n, F, xth, xad, xco, xtr, xft, xfk, xfp, xds, xas, xcs, xfi, xwr, xwm, xbo, xor, xme, xvr, xok, xlr, xps, yrd, ywr, yaq, yrl, yon, yok, yle, ysh, yor, ybo, yme, ygo, rfl, rfl, hP, hT, hS, hW, hO⟩ := I
  have hh := hP.1
  unfold wpX_fence
  by_cases t0 : v1 < 0
  · refine xr_thN (Or.inl t0) (br_t rfl ?_)
    unfold wpY_fence
    exact br_t t0 ⟨rfl, re_mk hP hT hS hW hO⟩
  by_cases t1 : tc ≤ v1
  · refine xr_thN (Or.inr t1) (br_t rfl ?_)
    unfold wpY_fence
    exact br_f t0 (br_f (Int32.not_lt.mpr t1) ⟨rfl, re_mk hP hT hS hW hO⟩)
  have t2 : v1 < tc := Int32.not_le.mp t1
  refine xr_thY t0 t1 (br_f x1_0 ?_)
  have main : (v2 = 1 ∨ v2 = 2 ∨ v2 = 3) → wX_fence_28 (fun r u' => wpY_fence (fun r' v' => r' = r ∧ i_Rel (k + 5) u' v') (tc, nI A, nI n, nI F, sv, yo, xth, xad, xco, yrd, ywr, yaq, yrl, yon, xft, xfk, xfp, xfi, xwr, xwm, yok, yle, ysh, yor, ybo, yme, ygo) v1 v2) v1 v2 tc (nI A) (nI n) (nI F) sv oc xth xad xco xtr xft xfk xfp xds xas xcs xfi xwr xwm xbo xor xme xvr xok xlr xps := by
    intro h
    have g1 : ¬ v2 < 1 := by rcases h with rfl | rfl | rfl <;> decide
    have g2 : v2 ≤ 3 := by rcases h with rfl | rfl | rfl <;> decide
    unfold wX_fence_28
    by_cases c : F < 8
    · have v8 : vp_in (nI F) 8 := vp_in_nI c (by omega)
      have cF : (nI F).toNatClampNeg = F := nI_clamp (by omega)
      refine br_t (nI_lt (b := 8) c (by decide)) ?_
      rw [cF]
      refine ⟨v8, nm_e ⟨v8, nm_e ⟨v8, nm_e (nm_r (nI_1 F) ?_)⟩⟩⟩
      unfold wpY_fence
      refine br_f t0 (br_t t2 (br_f g1 (br_t g2 (br_f ?_ ?_))))
      · rw [show (8 : Int32) = nI 8 from rfl, nI_eq (by omega) (by decide)]; omega
      · rw [cF]
        refine ⟨v8, nm_e ⟨v8, nm_e ⟨v8, nm_e (nm_r (nI_1 F) ⟨nI_pred F, ?_⟩)⟩⟩⟩
        exact re_mk (F := F + 1) (mu_fen hP c h) hT hS hW re_n0
    · have e : F = 8 := by omega
      subst e
      refine br_f (by decide) ?_
      unfold wpY_fence
      exact br_f t0 (br_t t2 (br_f g1 (br_t g2 (br_t rfl ⟨rfl, re_mk hP hT hS hW hO⟩))))
  refine br_c (fun e1 => main (Or.inl e1)) (fun e1 => br_c (fun e2 => main (Or.inr (Or.inl e2))) (fun e2 => br_c (fun e3 => main (Or.inr (Or.inr e3))) (fun e3 => ?_)))
  unfold wpY_fence
  by_cases g1 : v2 < 1
  · exact br_f t0 (br_t t2 (br_t g1 ⟨rfl, re_mk hP hT hS hW hO⟩))
  · by_cases g2 : v2 ≤ 3
    · exfalso
      have c0 : ¬ v2 < 0 := fun z => g1 (Int32.lt_trans z (by decide))
      obtain ⟨j, hj, rfl⟩ := nI_of2 (n := 3) (show (3 : Int32).toInt = ((3 : Nat) : Int) by decide) c0 g2
      have hj4 : j = 0 ∨ j = 1 ∨ j = 2 ∨ j = 3 := by omega
      rcases hj4 with rfl | rfl | rfl | rfl
      · exact g1 (by decide)
      · exact e1 rfl
      · exact e2 rfl
      · exact e3 rfl
    · exact br_f t0 (br_t t2 (br_f g1 (br_f g2 ⟨rfl, re_mk hP hT hS hW hO⟩)))
theorem i_vc_initial {k : Nat} {u : SX} {v : SY} (I : i_Rel k u v) (hk : k + 5 ≤ 2562) (v1 : Int32) (v2 : Int32) : wpX_initial (fun r u' => wpY_initial (fun r' v' => r' = r ∧ i_Rel (k + 5) u' v') v v1 v2) u v1 v2 := by
  obtain ⟨tc, sv, oc, yo, A, n, F, xth, xad, xco, xtr, xft, xfk, xfp, xds, xas, xcs, xfi, xwr, xwm, xbo, xor, xme, xvr, xok, xlr, xps, yrd, ywr, yaq, yrl, yon, yok, yle, ysh, yor, ybo, yme, ygo, rfl, rfl, hP, hT, hS, hW, hO⟩ := I
  have hh := hP.1
  unfold wpX_initial
  rcases pk_ix v1 (n := A) (by omega) with z | z | ⟨x, hx, rfl⟩
  · refine xr_adN (Or.inl z) (br_t rfl ?_)
    unfold wpY_initial
    exact br_t z ⟨rfl, re_mk hP hT hS hW hO⟩
  · refine xr_adN (Or.inr z) (br_t rfl ?_)
    unfold wpY_initial
    by_cases c : v1 < 0
    · exact br_t c ⟨rfl, re_mk hP hT hS hW hO⟩
    · exact br_f c (br_f (Int32.not_lt.mpr z) ⟨rfl, re_mk hP hT hS hW hO⟩)
  · have v3 : vp_in (nI x) 3 := vp_in_nI (by omega) (by omega)
    obtain ⟨j, hj, ej⟩ := pk_andE v2 (m := 15) 4 (by decide)
    refine xr_adY (nI_pos (by omega)) (nI_ge hx (by omega)) (br_f x1_0 ⟨v3, ?_⟩)
    rw [nI_clamp (show x < 2 ^ 31 by omega), ej]
    refine nm_e ?_
    unfold wpY_initial
    refine br_f (nI_pos (by omega)) (br_t (nI_lt hx (by omega)) ⟨v3, ?_⟩)
    rw [nI_clamp (show x < 2 ^ 31 by omega), ej]
    exact nm_e ⟨rfl, re_mk (mu_ini hP hx hj) hT hS hW re_n0⟩
theorem vc_wv (v : Int32) : ∀ z, (z = -1 ∨ z = v &&& 15) → (z = -1 ∨ ∃ j, j < 16 ∧ z = nI j) := by
  intro z h
  rcases h with h | h
  · exact Or.inl h
  · obtain ⟨j, hj, ej⟩ := pk_andE v (m := 15) 4 (by decide)
    exact Or.inr ⟨j, hj, h.trans ej⟩
theorem i_vc_wantMemory {k : Nat} {u : SX} {v : SY} (I : i_Rel k u v) (hk : k + 5 ≤ 2562) (v1 : Int32) (v2 : Int32) : wpX_wantMemory (fun r u' => wpY_wantMemory (fun r' v' => r' = r ∧ i_Rel (k + 5) u' v') v v1 v2) u v1 v2 := by
  obtain ⟨tc, sv, oc, yo, A, n, F, xth, xad, xco, xtr, xft, xfk, xfp, xds, xas, xcs, xfi, xwr, xwm, xbo, xor, xme, xvr, xok, xlr, xps, yrd, ywr, yaq, yrl, yon, yok, yle, ysh, yor, ybo, yme, ygo, rfl, rfl, hP, hT, hS, hW, hO⟩ := I
  have hh := hP.1
  unfold wpX_wantMemory
  rcases pk_ix v1 (n := A) (by omega) with z | z | ⟨x, hx, rfl⟩
  · refine xr_adN (Or.inl z) (br_t rfl ?_)
    unfold wpY_wantMemory
    exact br_t z ⟨rfl, re_mk hP hT hS hW hO⟩
  · refine xr_adN (Or.inr z) (br_t rfl ?_)
    unfold wpY_wantMemory
    by_cases c : v1 < 0
    · exact br_t c ⟨rfl, re_mk hP hT hS hW hO⟩
    · exact br_f c (br_f (Int32.not_lt.mpr z) ⟨rfl, re_mk hP hT hS hW hO⟩)
  · have v3 : vp_in (nI x) 3 := vp_in_nI (by omega) (by omega)
    have cx : (nI x).toNatClampNeg = x := nI_clamp (by omega)
    refine xr_adY (nI_pos (by omega)) (nI_ge hx (by omega)) (br_f x1_0 ?_)
    unfold wpY_wantMemory
    rw [cx]
    by_cases c : 0 ≤ v2
    · exact br_t c ⟨v3, nm_e (br_f (nI_pos (by omega)) (br_t (nI_lt hx (by omega)) (br_t c ⟨v3, nm_e ⟨rfl, re_mk hP hT hS (re_W_m hW hx (vc_wv v2 _ (Or.inr rfl))) hO⟩⟩)))⟩
    · exact br_f c ⟨v3, nm_e (br_f (nI_pos (by omega)) (br_t (nI_lt hx (by omega)) (br_f c ⟨v3, nm_e ⟨rfl, re_mk hP hT hS (re_W_m hW hx (vc_wv v2 _ (Or.inl rfl))) hO⟩⟩)))⟩
theorem i_vc_wantRead {k : Nat} {u : SX} {v : SY} (I : i_Rel k u v) (hk : k + 5 ≤ 2562) (v1 : Int32) (v2 : Int32) : wpX_wantRead (fun r u' => wpY_wantRead (fun r' v' => r' = r ∧ i_Rel (k + 5) u' v') v v1 v2) u v1 v2 := by
  obtain ⟨tc, sv, oc, yo, A, n, F, xth, xad, xco, xtr, xft, xfk, xfp, xds, xas, xcs, xfi, xwr, xwm, xbo, xor, xme, xvr, xok, xlr, xps, yrd, ywr, yaq, yrl, yon, yok, yle, ysh, yor, ybo, yme, ygo, rfl, rfl, hP, hT, hS, hW, hO⟩ := I
  have hh := hP.1
  unfold wpX_wantRead
  rcases pk_ix v1 (n := n) (by omega) with z | z | ⟨e, he, rfl⟩
  · refine xr_evN (Or.inl z) (br_t rfl ?_)
    unfold wpY_wantRead
    exact yr_evN (Or.inl z) (br_t rfl ⟨rfl, re_mk hP hT hS hW hO⟩)
  · refine xr_evN (Or.inr z) (br_t rfl ?_)
    unfold wpY_wantRead
    exact yr_evN (Or.inr z) (br_t rfl ⟨rfl, re_mk hP hT hS hW hO⟩)
  · have v6 : vp_in (nI e) 6 := vp_in_nI (by omega) (by omega)
    have ce : (nI e).toNatClampNeg = e := nI_clamp (by omega)
    refine xr_evY hh.1 he (br_f x1_0 (xr_rd hT (by omega) (fun c => br_t rfl ?_) (fun c => br_f x1_0 ?_)))
    · unfold wpY_wantRead
      rw [ce]
      exact yr_evY hh.1 he (br_f x1_0 ⟨v6, br_t c ⟨rfl, re_mk hP hT hS hW hO⟩⟩)
    · unfold wpY_wantRead
      rw [ce]
      by_cases d : 0 ≤ v2
      · exact br_t d ⟨v6, nm_e (yr_evY hh.1 he (br_f x1_0 ⟨v6, br_f c (br_t d ⟨v6, nm_e ⟨rfl, re_mk hP hT hS (re_W_r hW he (vc_wv v2 _ (Or.inr rfl))) hO⟩⟩)⟩))⟩
      · exact br_f d ⟨v6, nm_e (yr_evY hh.1 he (br_f x1_0 ⟨v6, br_f c (br_f d ⟨v6, nm_e ⟨rfl, re_mk hP hT hS (re_W_r hW he (vc_wv v2 _ (Or.inl rfl))) hO⟩⟩)⟩))⟩
theorem i_vc_events {k : Nat} {u : SX} {v : SY} (I : i_Rel k u v) (hk : k + 5 ≤ 2562) : wpX_events (fun r => wpY_events (fun r' => r' = r ∧ i_Rel (k + 5) u v) v) u := by
  obtain ⟨tc, sv, oc, yo, A, n, F, xth, xad, xco, xtr, xft, xfk, xfp, xds, xas, xcs, xfi, xwr, xwm, xbo, xor, xme, xvr, xok, xlr, xps, yrd, ywr, yaq, yrl, yon, yok, yle, ysh, yor, ybo, yme, ygo, rfl, rfl, hP, hT, hS, hW, hO⟩ := I
  unfold wpX_events wpY_events
  exact ⟨rfl, re_mk hP hT hS hW hO⟩
