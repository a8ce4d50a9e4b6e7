/-! the questions about what was solved, and always -/
section
variable {A n F k : Nat} {th ad co rd wr aq rl on ft fk fp fi : Nat → Int32} {ok : Nat → Prop} {key : Nat → Nat} {oc yo : Int32} {xok yok xps : Nat → Int64} {xlr yle : Nat → Int32}
/-- what both sides keep of a solved program -/
theorem ro_O (hk : ∀ s, key s < 2 ^ 36) (h : re_O n ok key oc xok xlr xps yo yok yle) : ∃ (m : Nat) (K R S : Nat → Nat), oc = nI m ∧ yo = nI m ∧ m ≤ 180 ∧ ol_srt m K ∧ ol_pr ok key (re_bef n) (pq_N n) m K S ∧
    (∀ k, k < m → K k < 2 ^ 36 ∧ R k < pq_N n ∧ xok k = lN (K k) ∧ yok k = lN (K k) ∧ xlr k = nI (dg_x (pq_pm n (R k)) n) ∧ yle k = nI (dg_y (pq_pm n (R k)) n) ∧ xps k = lN (S k)) := by
  obtain ⟨m, K, R, S, e0, h1, h2, h3, h4⟩ := h
  obtain ⟨i1, i2, i3, i4⟩ := ol_inv_all _ _ _ m K R e0
  refine ⟨m, K, R, S, h2.1, h4.1, i2, i1, h1, fun k hk' => ⟨?_, (i4 k hk').1, (h2.2 k hk').1, (h4.2 k hk').1, (h2.2 k hk').2, (h4.2 k hk').2, h3 k hk'⟩⟩
  rw [(i4 k hk').2.2]; exact hk _
end
theorem i_vc_readIn {k : Nat} {u : SX} {v : SY} (I : i_Rel k u v) (hk : k + 5 ≤ 2562) (v1 : Int32) (v2 : Int32) : wpX_readIn (fun r => wpY_readIn (fun r' => r' = r ∧ i_Rel (k + 5) u v) v v1 v2) u v1 v2 := by
  have I2 := I
  obtain ⟨tc, sv, oc, yo, A, n, F, xth, xad, xco, xtr, xft, xfk, xfp, xds, xas, xcs, xfi, xwr, xwm, xbo, xor, xme, xvr, xok, xlr, xps, yrd, ywr, yaq, yrl, yon, yok, yle, ysh, yor, ybo, yme, ygo, rfl, rfl, hP, hT, hS, hW, hO⟩ := I
  have hh := hP.1
  have hkl : ∀ s, re_key n xad xco yrd ywr yon xfi s < 2 ^ 36 := fun s => ca_klt hP.2.2.2.2.2.1 n _
  have fin : ∀ r : Int32, r = r ∧ i_Rel (k + 5) _ _ := fun r => ⟨rfl, i_up I2⟩
  unfold wpX_readIn
  by_cases s0 : sv = 0
  · refine br_t s0 ?_
    unfold wpY_readIn
    exact br_t s0 (fin _)
  refine br_f s0 ?_
  obtain ⟨m, K, R, S, rfl, rfl, hm, hs, hpr, hK⟩ := ro_O hkl (hO s0)
  rcases pk_ix v1 (n := m) (by omega) with z | z | ⟨o, ho, rfl⟩
  · refine xr_ouN (Or.inl z) (br_t rfl ?_)
    unfold wpY_readIn
    exact br_f s0 (br_t z (fin _))
  · refine xr_ouN (Or.inr z) (br_t rfl ?_)
    unfold wpY_readIn
    by_cases c : v1 < 0
    · exact br_f s0 (br_t c (fin _))
    · exact br_f s0 (br_f c (br_f (Int32.not_lt.mpr z) (fin _)))
  refine xr_ouY hm ho (br_f x1_0 ?_)
  obtain ⟨q1, q2, q3, q4, q5, q6, q7⟩ := hK o ho
  have o0 : ¬ nI o < 0 := nI_pos (by omega)
  have o1 : nI o < nI m := nI_lt ho (by omega)
  rcases pk_ix v2 (n := n) (by omega) with z | z | ⟨e, he, rfl⟩
  · refine xr_evN (Or.inl z) (br_t rfl ?_)
    unfold wpY_readIn
    exact br_f s0 (br_f o0 (br_t o1 (yr_evN (Or.inl z) (br_t rfl (fin _)))))
  · refine xr_evN (Or.inr z) (br_t rfl ?_)
    unfold wpY_readIn
    exact br_f s0 (br_f o0 (br_t o1 (yr_evN (Or.inr z) (br_t rfl (fin _)))))
  have v6 : vp_in (nI e) 6 := vp_in_nI (by omega) (by omega)
  have ce : (nI e).toNatClampNeg = e := nI_clamp (by omega)
  have co' : (nI o).toNatClampNeg = o := nI_clamp (by omega)
  refine xr_evY hh.1 he (br_f x1_0 (xr_rd hT (by omega) (fun c => br_t rfl ?_) (fun c => br_f x1_0 (xw_rk (by omega) q1 q3 (by omega) ?_))))
  · unfold wpY_readIn
    dsimp only
    rw [ce]
    exact br_f s0 (br_f o0 (br_t o1 (yr_evY hh.1 he (br_f x1_0 ⟨v6, br_t c (fin _)⟩))))
  · unfold wpY_readIn
    dsimp only
    rw [ce, co', q4, nu_s8' (by omega)]
    exact br_f s0 (br_f o0 (br_t o1 (yr_evY hh.1 he (br_f x1_0 ⟨v6, br_f c ⟨vp_in_nI (by omega) (by omega), fin _⟩⟩))))
theorem i_vc_memoryIn {k : Nat} {u : SX} {v : SY} (I : i_Rel k u v) (hk : k + 5 ≤ 2562) (v1 : Int32) (v2 : Int32) : wpX_memoryIn (fun r => wpY_memoryIn (fun r' => r' = r ∧ i_Rel (k + 5) u v) v v1 v2) u v1 v2 := by
  have I2 := I
  obtain ⟨tc, sv, oc, yo, A, n, F, xth, xad, xco, xtr, xft, xfk, xfp, xds, xas, xcs, xfi, xwr, xwm, xbo, xor, xme, xvr, xok, xlr, xps, yrd, ywr, yaq, yrl, yon, yok, yle, ysh, yor, ybo, yme, ygo, rfl, rfl, hP, hT, hS, hW, hO⟩ := I
  have hh := hP.1
  have hkl : ∀ s, re_key n xad xco yrd ywr yon xfi s < 2 ^ 36 := fun s => ca_klt hP.2.2.2.2.2.1 n _
  have fin : ∀ r : Int32, r = r ∧ i_Rel (k + 5) _ _ := fun r => ⟨rfl, i_up I2⟩
  unfold wpX_memoryIn
  by_cases s0 : sv = 0
  · refine br_t s0 ?_
    unfold wpY_memoryIn
    exact br_t s0 (fin _)
  refine br_f s0 ?_
  obtain ⟨m, K, R, S, rfl, rfl, hm, hs, hpr, hK⟩ := ro_O hkl (hO s0)
  rcases pk_ix v1 (n := m) (by omega) with z | z | ⟨o, ho, rfl⟩
  · refine xr_ouN (Or.inl z) (br_t rfl ?_)
    unfold wpY_memoryIn
    exact br_f s0 (br_t z (fin _))
  · refine xr_ouN (Or.inr z) (br_t rfl ?_)
    unfold wpY_memoryIn
    by_cases c : v1 < 0
    · exact br_f s0 (br_t c (fin _))
    · exact br_f s0 (br_f c (br_f (Int32.not_lt.mpr z) (fin _)))
  refine xr_ouY hm ho (br_f x1_0 ?_)
  obtain ⟨q1, q2, q3, q4, q5, q6, q7⟩ := hK o ho
  have o0 : ¬ nI o < 0 := nI_pos (by omega)
  have o1 : nI o < nI m := nI_lt ho (by omega)
  rcases pk_ix v2 (n := A) (by omega) with z | z | ⟨e, he, rfl⟩
  · refine xr_adN (Or.inl z) (br_t rfl ?_)
    unfold wpY_memoryIn
    exact br_f s0 (br_f o0 (br_t o1 (br_t z (fin _))))
  · refine xr_adN (Or.inr z) (br_t rfl ?_)
    unfold wpY_memoryIn
    by_cases c : v2 < 0
    · exact br_f s0 (br_f o0 (br_t o1 (br_t c (fin _))))
    · exact br_f s0 (br_f o0 (br_t o1 (br_f c (br_f (Int32.not_lt.mpr z) (fin _)))))
  have co' : (nI o).toNatClampNeg = o := nI_clamp (by omega)
  refine xr_adY (nI_pos (by omega)) (nI_ge he (by omega)) (br_f x1_0 (xw_mk (by omega) q1 q3 (by omega) ?_))
  unfold wpY_memoryIn
  dsimp only
  rw [co', q4, nu_s2' (by omega)]
  exact br_f s0 (br_f o0 (br_t o1 (br_f (nI_pos (by omega)) (br_t (nI_lt he (by omega)) ⟨vp_in_nI (by omega) (by omega), fin _⟩))))
theorem i_vc_runIn {k : Nat} {u : SX} {v : SY} (I : i_Rel k u v) (hk : k + 5 ≤ 2562) (v1 : Int32) (v2 : Int32) : wpX_runIn (fun r => wpY_runIn (fun r' => r' = r ∧ i_Rel (k + 5) u v) v v1 v2) u v1 v2 := by
  have I2 := I
  obtain ⟨tc, sv, oc, yo, A, n, F, xth, xad, xco, xtr, xft, xfk, xfp, xds, xas, xcs, xfi, xwr, xwm, xbo, xor, xme, xvr, xok, xlr, xps, yrd, ywr, yaq, yrl, yon, yok, yle, ysh, yor, ybo, yme, ygo, rfl, rfl, hP, hT, hS, hW, hO⟩ := I
  have hh := hP.1
  have hkl : ∀ s, re_key n xad xco yrd ywr yon xfi s < 2 ^ 36 := fun s => ca_klt hP.2.2.2.2.2.1 n _
  have fin : ∀ r : Int32, r = r ∧ i_Rel (k + 5) _ _ := fun r => ⟨rfl, i_up I2⟩
  unfold wpX_runIn
  by_cases s0 : sv = 0
  · refine br_t s0 ?_
    unfold wpY_runIn
    exact br_t s0 (fin _)
  refine br_f s0 ?_
  obtain ⟨m, K, R, S, rfl, rfl, hm, hs, hpr, hK⟩ := ro_O hkl (hO s0)
  rcases pk_ix v1 (n := m) (by omega) with z | z | ⟨o, ho, rfl⟩
  · refine xr_ouN (Or.inl z) (br_t rfl ?_)
    unfold wpY_runIn
    exact br_f s0 (br_t z (fin _))
  · refine xr_ouN (Or.inr z) (br_t rfl ?_)
    unfold wpY_runIn
    by_cases c : v1 < 0
    · exact br_f s0 (br_t c (fin _))
    · exact br_f s0 (br_f c (br_f (Int32.not_lt.mpr z) (fin _)))
  refine xr_ouY hm ho (br_f x1_0 ?_)
  obtain ⟨q1, q2, q3, q4, q5, q6, q7⟩ := hK o ho
  have o0 : ¬ nI o < 0 := nI_pos (by omega)
  have o1 : nI o < nI m := nI_lt ho (by omega)
  rcases pk_ix v2 (n := n) (by omega) with z | z | ⟨p, hp, rfl⟩
  · refine br_t z ?_
    unfold wpY_runIn
    exact br_f s0 (br_f o0 (br_t o1 (yr_evN (Or.inl z) (br_t rfl (fin _)))))
  · by_cases c : v2 < 0
    · refine br_t c ?_
      unfold wpY_runIn
      exact br_f s0 (br_f o0 (br_t o1 (yr_evN (Or.inl c) (br_t rfl (fin _)))))
    · refine br_f c (br_f (Int32.not_lt.mpr z) ?_)
      unfold wpY_runIn
      exact br_f s0 (br_f o0 (br_t o1 (yr_evN (Or.inr z) (br_t rfl (fin _)))))
  have co' : (nI o).toNatClampNeg = o := nI_clamp (by omega)
  have g16 : ∀ i, i < n → pq_pm n (R o) i < 16 := fun i hi => by have := pq_lt q2 hi; omega
  have g8 : ∀ i, i < n → pq_pm n (R o) i < 8 := fun i hi => by have := pq_lt q2 hi; omega
  have lx : dg_x (pq_pm n (R o)) n < 2 ^ 31 := by
    have h1 := dg_x_lt _ n g16
    have h2 : (16 : Nat) ^ n ≤ 16 ^ 6 := Nat.pow_le_pow_right (by decide) hh.1
    have h3 : (16 : Nat) ^ 6 < 2 ^ 31 := by decide
    omega
  have ly : dg_y (pq_pm n (R o)) n < 2 ^ 31 := by
    have h1 := dg_y_lt _ n g8
    have h2 : (8 : Nat) ^ n ≤ 8 ^ 6 := Nat.pow_le_pow_right (by decide) hh.1
    have h3 : (8 : Nat) ^ 6 < 2 ^ 31 := by decide
    omega
  refine br_f (nI_pos (by omega)) (br_t (nI_lt hp (by omega)) ⟨vp_in_nI (by omega) (by omega), ?_⟩)
  rw [co', q5, nu_xd lx (by omega), dg_x_d _ n g16 p hp]
  unfold wpY_runIn
  dsimp only
  rw [co', q6, show nI n - 1 = nI (n - 1) from pk_sub (a := n) (b := 1) (by omega), pk_sub (by omega), nu_yd ly (by omega), dg_y_d _ n g8 p hp]
  exact br_f s0 (br_f o0 (br_t o1 (yr_evY hh.1 hp (br_f x1_0 ⟨vp_in_nI (by omega) (by omega), fin _⟩))))
theorem i_vc_always {k : Nat} {u : SX} {v : SY} (I : i_Rel k u v) (hk : k + 5 ≤ 2562) (v1 : Int32) (v2 : Int32) : wpX_always (fun r u' => wpY_always (fun r' v' => r' = r ∧ i_Rel (k + 5) u' v') v v1 v2) u v1 v2 := by
  obtain ⟨tc, sv, oc, yo, A, n, F, xth, xad, xco, xtr, xft, xfk, xfp, xds, xas, xcs, xfi, xwr, xwm, xbo, xor, xme, xvr, xok, xlr, xps, yrd, ywr, yaq, yrl, yon, yok, yle, ysh, yor, ybo, yme, ygo, rfl, rfl, hP, hT, hS, hW, hO⟩ := I
  have hh := hP.1
  unfold wpX_always
  rcases pk_ix v1 (n := n) (by omega) with z | z | ⟨a, ha, rfl⟩
  · refine xr_evN (Or.inl z) (br_t rfl ?_)
    unfold wpY_always
    exact yr_evN (Or.inl z) (br_t rfl ⟨rfl, re_mk hP hT hS hW hO⟩)
  · refine xr_evN (Or.inr z) (br_t rfl ?_)
    unfold wpY_always
    exact yr_evN (Or.inr z) (br_t rfl ⟨rfl, re_mk hP hT hS hW hO⟩)
  refine xr_evY hh.1 ha (br_f x1_0 ?_)
  rcases pk_ix v2 (n := n) (by omega) with z | z | ⟨b, hb, rfl⟩
  · refine xr_evN (Or.inl z) (br_t rfl ?_)
    unfold wpY_always
    exact yr_evY hh.1 ha (br_f x1_0 (yr_evN (Or.inl z) (br_t rfl ⟨rfl, re_mk hP hT hS hW hO⟩)))
  · refine xr_evN (Or.inr z) (br_t rfl ?_)
    unfold wpY_always
    exact yr_evY hh.1 ha (br_f x1_0 (yr_evN (Or.inr z) (br_t rfl ⟨rfl, re_mk hP hT hS hW hO⟩)))
  refine xr_evY hh.1 hb (br_f x1_0 (xw_bounds hP hT hS (fun bo' hbo => ?_)))
  dsimp only
  rw [nu_6, nI_clamp (show a * 6 + b < 2 ^ 31 by omega)]
  refine ⟨vp_in_nI (by omega) (by omega), br_c (fun c => ?_) (fun c => ?_)⟩
  · exact yw_alw hh.1 hh.2.2.2 ha hb (fun w => absurd c ((hbo a b ha hb).mpr w)) (fun _ o' bo2 => ⟨rfl, re_mk hP hT hS hW hO⟩)
  · exact yw_alw hh.1 hh.2.2.2 ha hb (fun _ o' bo2 => ⟨rfl, re_mk hP hT hS hW hO⟩) (fun w => absurd ((hbo a b ha hb).mp c) w)
theorem i_vc_lost {k : Nat} {u : SX} {v : SY} (I : i_Rel k u v) (hk : k + 5 ≤ 2562) (v1 : Int32) (v2 : Int32) : wpX_lost (fun r => wpY_lost (fun r' v' => r' = r ∧ i_Rel (k + 5) u v') v v1 v2) u v1 v2 := by
  obtain ⟨tc, sv, oc, yo, A, n, F, xth, xad, xco, xtr, xft, xfk, xfp, xds, xas, xcs, xfi, xwr, xwm, xbo, xor, xme, xvr, xok, xlr, xps, yrd, ywr, yaq, yrl, yon, yok, yle, ysh, yor, ybo, yme, ygo, rfl, rfl, hP, hT, hS, hW, hO⟩ := I
  have hh := hP.1
  have hkl : ∀ s, re_key n xad xco yrd ywr yon xfi s < 2 ^ 36 := fun s => ca_klt hP.2.2.2.2.2.1 n _
  unfold wpX_lost
  by_cases s0 : sv = 0
  · refine br_t s0 ?_
    unfold wpY_lost
    exact br_t s0 ⟨rfl, re_mk hP hT hS hW hO⟩
  refine br_f s0 ?_
  rcases pk_ix v1 (n := n) (by omega) with z | z | ⟨a, ha, rfl⟩
  · refine xr_evN (Or.inl z) (br_t rfl ?_)
    unfold wpY_lost
    exact br_f s0 (yr_evN (Or.inl z) (br_t rfl ⟨rfl, re_mk hP hT hS hW hO⟩))
  · refine xr_evN (Or.inr z) (br_t rfl ?_)
    unfold wpY_lost
    exact br_f s0 (yr_evN (Or.inr z) (br_t rfl ⟨rfl, re_mk hP hT hS hW hO⟩))
  refine xr_evY hh.1 ha (br_f x1_0 ?_)
  rcases pk_ix v2 (n := n) (by omega) with z | z | ⟨b, hb, rfl⟩
  · refine xr_evN (Or.inl z) (br_t rfl ?_)
    unfold wpY_lost
    exact br_f s0 (yr_evY hh.1 ha (br_f x1_0 (yr_evN (Or.inl z) (br_t rfl ⟨rfl, re_mk hP hT hS hW hO⟩))))
  · refine xr_evN (Or.inr z) (br_t rfl ?_)
    unfold wpY_lost
    exact br_f s0 (yr_evY hh.1 ha (br_f x1_0 (yr_evN (Or.inr z) (br_t rfl ⟨rfl, re_mk hP hT hS hW hO⟩))))
  refine xr_evY hh.1 hb (br_f x1_0 ?_)
  by_cases eab : a = b
  · subst eab
    refine br_t rfl ?_
    unfold wpY_lost
    exact br_f s0 (yr_evY hh.1 ha (br_f x1_0 (yr_evY hh.1 hb (br_f x1_0 (br_t rfl ⟨rfl, re_mk hP hT hS hW hO⟩)))))
  refine br_f (by rw [nI_eq (by omega) (by omega)]; exact eab) ?_
  obtain ⟨m, K, R, S, rfl, rfl, hm, hs, hpr, hK⟩ := ro_O hkl (hO s0)
  rw [nu_6, nu_1shl (by omega)]
  refine nm_e (xw_lost52 (S := S) (P := lo_P n (re_ok n F xth xad yrd ywr yaq yrl yon xft xfk xfp) (re_key n xad xco yrd ywr yon xfi) K a b) hm (by omega) (by omega) (fun k hk' => (hpr k hk').1) (fun k hk' => (hK k hk').2.2.2.2.2.2) (fun k hk' => ?_) ?_)
  · unfold lo_P
    rw [← (hpr k hk').2 a b (by omega) (by omega), Bool.not_eq_true]
  · exact yw_lost hP ha hb eab s0 hm hs (fun k hk' => (hK k hk').1) (fun k hk' => (hK k hk').2.2.2.1) (fun sh' o' bo' me' go' => ⟨rfl, re_mk hP hT hS hW hO⟩)
theorem i_vc_wished {k : Nat} {u : SX} {v : SY} (I : i_Rel k u v) (hk : k + 5 ≤ 2562) : wpX_wished (fun r => wpY_wished (fun r' => r' = r ∧ i_Rel (k + 5) u v) v) u := by
  have I2 := I
  obtain ⟨tc, sv, oc, yo, A, n, F, xth, xad, xco, xtr, xft, xfk, xfp, xds, xas, xcs, xfi, xwr, xwm, xbo, xor, xme, xvr, xok, xlr, xps, yrd, ywr, yaq, yrl, yon, yok, yle, ysh, yor, ybo, yme, ygo, rfl, rfl, hP, hT, hS, hW, hO⟩ := I
  have hh := hP.1
  have hkl : ∀ s, re_key n xad xco yrd ywr yon xfi s < 2 ^ 36 := fun s => ca_klt hP.2.2.2.2.2.1 n _
  by_cases s0 : sv = 0
  · unfold wpX_wished
    refine br_t s0 ?_
    unfold wpY_wished
    exact br_t s0 ⟨rfl, i_up I2⟩
  obtain ⟨m, K, R, S, rfl, rfl, hm, hs, hpr, hK⟩ := ro_O hkl (hO s0)
  exact xw_wished (Kf := K) hh.1 hh.2.2.1 hm (fun k hk' => (hK k hk').1) (fun k hk' => (hK k hk').2.2.1) s0 (yw_wished (Kf := K) hh.1 hh.2.2.1 hW hm (fun k hk' => (hK k hk').2.2.2.1) s0 ⟨rfl, i_up I2⟩)
