/-! the relation; the small private methods; the beginning -/
def i_Rel (_ : Nat) (u : SX) (v : SY) : Prop :=
  ∃ (tc sv oc yo : Int32) (A n F : Nat) (xth xad xco xtr xft xfk xfp xds xas xcs xfi xwr xwm xbo xor xme xvr : Nat → Int32) (xok : Nat → Int64) (xlr : Nat → Int32) (xps : Nat → Int64) (yrd ywr yaq yrl yon : Nat → Int32) (yok : Nat → Int64) (yle ysh yor ybo yme ygo : Nat → Int32),
    u = (tc, nI A, nI n, nI F, sv, oc, xth, xad, xco, xtr, xft, xfk, xfp, xds, xas, xcs, xfi, xwr, xwm, xbo, xor, xme, xvr, xok, xlr, xps) ∧ v = (tc, nI A, nI n, nI F, sv, yo, xth, xad, xco, yrd, ywr, yaq, yrl, yon, xft, xfk, xfp, xfi, xwr, xwm, yok, yle, ysh, yor, ybo, yme, ygo)
    ∧ mu_P n A F xth xad xco yrd ywr yaq yrl yon xfk xfi ∧ re_T xtr yrd ywr yaq yrl ∧ re_S xds xas xcs yon ∧ re_W n A xwr xwm
    ∧ (¬ sv = 0 → re_O n (re_ok n F xth xad yrd ywr yaq yrl yon xft xfk xfp) (re_key n xad xco yrd ywr yon xfi) oc xok xlr xps yo yok yle)
theorem i_up {k : Nat} {u : SX} {v : SY} (h : i_Rel k u v) : i_Rel (k + 5) u v := h
section
variable {tc ac ec fc sv oc : Int32} {xth xad xco xtr xft xfk xfp xds xas xcs xfi xwr xwm xbo xor xme xvr xlr : Nat → Int32} {xok xps : Nat → Int64} {yt ya yn yf ys yo : Int32} {yth yad yco yrd ywr yaq yrl yon yft yfk yfp yfi ywe ywm yle ysh yor ybo yme ygo : Nat → Int32} {yok : Nat → Int64} {A n F k : Nat}
theorem re_mk (hP : mu_P n A F xth xad xco yrd ywr yaq yrl yon xfk xfi) (hT : re_T xtr yrd ywr yaq yrl) (hS : re_S xds xas xcs yon) (hW : re_W n A xwr xwm)
    (hO : ¬ sv = 0 → re_O n (re_ok n F xth xad yrd ywr yaq yrl yon xft xfk xfp) (re_key n xad xco yrd ywr yon xfi) oc xok xlr xps yo yok yle) :
    i_Rel k (tc, nI A, nI n, nI F, sv, oc, xth, xad, xco, xtr, xft, xfk, xfp, xds, xas, xcs, xfi, xwr, xwm, xbo, xor, xme, xvr, xok, xlr, xps) (tc, nI A, nI n, nI F, sv, yo, xth, xad, xco, yrd, ywr, yaq, yrl, yon, xft, xfk, xfp, xfi, xwr, xwm, yok, yle, ysh, yor, ybo, yme, ygo) :=
  ⟨tc, sv, oc, yo, A, n, F, xth, xad, xco, xtr, xft, xfk, xfp, xds, xas, xcs, xfi, xwr, xwm, xbo, xor, xme, xvr, xok, xlr, xps, yrd, ywr, yaq, yrl, yon, yok, yle, ysh, yor, ybo, yme, ygo, rfl, rfl, hP, hT, hS, hW, hO⟩
theorem re_n0 {P : Prop} : ¬ (0 : Int32) = 0 → P := fun z => absurd rfl z
end
section
variable {tc ac ec fc sv oc : Int32} {xth xad xco xtr xft xfk xfp xds xas xcs xfi xwr xwm xbo xor xme xvr xlr : Nat → Int32} {xok xps : Nat → Int64} {post : Int32 → Prop} {A n m : Nat} {p : Int32}
theorem xr_thN (h : p < 0 ∨ tc ≤ p) (hp : post 0) : wpX_isThread post (tc, ac, ec, fc, sv, oc, xth, xad, xco, xtr, xft, xfk, xfp, xds, xas, xcs, xfi, xwr, xwm, xbo, xor, xme, xvr, xok, xlr, xps) p := by
  unfold wpX_isThread
  by_cases c : p < 0
  · exact br_t c hp
  · exact br_f c (br_t (h.resolve_left c) hp)
theorem xr_thY (h1 : ¬ p < 0) (h2 : ¬ tc ≤ p) (hp : post 1) : wpX_isThread post (tc, ac, ec, fc, sv, oc, xth, xad, xco, xtr, xft, xfk, xfp, xds, xas, xcs, xfi, xwr, xwm, xbo, xor, xme, xvr, xok, xlr, xps) p := by
  unfold wpX_isThread
  exact br_f h1 (br_f h2 hp)
theorem xr_adN (h : p < 0 ∨ ac ≤ p) (hp : post 0) : wpX_isAddress post (tc, ac, ec, fc, sv, oc, xth, xad, xco, xtr, xft, xfk, xfp, xds, xas, xcs, xfi, xwr, xwm, xbo, xor, xme, xvr, xok, xlr, xps) p := by
  unfold wpX_isAddress
  by_cases c : p < 0
  · exact br_t c hp
  · exact br_f c (br_t (h.resolve_left c) hp)
theorem xr_adY (h1 : ¬ p < 0) (h2 : ¬ ac ≤ p) (hp : post 1) : wpX_isAddress post (tc, ac, ec, fc, sv, oc, xth, xad, xco, xtr, xft, xfk, xfp, xds, xas, xcs, xfi, xwr, xwm, xbo, xor, xme, xvr, xok, xlr, xps) p := by
  unfold wpX_isAddress
  exact br_f h1 (br_f h2 hp)
theorem xr_evN (h : p < 0 ∨ ec ≤ p) (hp : post 0) : wpX_isEvent post (tc, ac, ec, fc, sv, oc, xth, xad, xco, xtr, xft, xfk, xfp, xds, xas, xcs, xfi, xwr, xwm, xbo, xor, xme, xvr, xok, xlr, xps) p := by
  unfold wpX_isEvent
  by_cases c : p < 0
  · exact br_t c hp
  · exact br_f c (br_t (h.resolve_left c) hp)
theorem xr_evY {e : Nat} (hn : n ≤ 6) (he : e < n) (hp : post 1) : wpX_isEvent post (tc, ac, nI n, fc, sv, oc, xth, xad, xco, xtr, xft, xfk, xfp, xds, xas, xcs, xfi, xwr, xwm, xbo, xor, xme, xvr, xok, xlr, xps) (nI e) := by
  unfold wpX_isEvent
  exact br_f (nI_pos (by omega)) (br_f (nI_ge he (by omega)) hp)
theorem xr_ouN (h : p < 0 ∨ oc ≤ p) (hp : post 0) : wpX_isOutcome post (tc, ac, ec, fc, sv, oc, xth, xad, xco, xtr, xft, xfk, xfp, xds, xas, xcs, xfi, xwr, xwm, xbo, xor, xme, xvr, xok, xlr, xps) p := by
  unfold wpX_isOutcome
  by_cases c : p < 0
  · exact br_t c hp
  · exact br_f c (br_t (h.resolve_left c) hp)
theorem xr_ouY {o : Nat} (hm : m ≤ 180) (ho : o < m) (hp : post 1) : wpX_isOutcome post (tc, ac, ec, fc, sv, nI m, xth, xad, xco, xtr, xft, xfk, xfp, xds, xas, xcs, xfi, xwr, xwm, xbo, xor, xme, xvr, xok, xlr, xps) (nI o) := by
  unfold wpX_isOutcome
  exact br_f (nI_pos (by omega)) (br_f (nI_ge ho (by omega)) hp)
end
theorem xw_rem {tc ac ec fc sv oc : Int32} {xth xad xco xtr xft xfk xfp xds xas xcs xfi xwr xwm xbo xor xme xvr xlr : Nat → Int32} {xok xps : Nat → Int64} {post : SX → Prop} (hp : post (tc, ac, 0, 0, 0, oc, xth, xad, xco, xtr, xft, xfk, xfp, fl_f xds 6 (-1), fl_f xas 6 (-1), fl_f xcs 6 (-1), fl_f xfi 3 0, fl_f xwr 6 (-1), fl_f xwm 3 (-1), xbo, xor, xme, xvr, xok, xlr, xps)) : wpX_removeAll post (tc, ac, ec, fc, sv, oc, xth, xad, xco, xtr, xft, xfk, xfp, xds, xas, xcs, xfi, xwr, xwm, xbo, xor, xme, xvr, xok, xlr, xps) := by
  unfold wpX_removeAll
  have hl := pk_loop (σ := Unit) (fun f i _ => wX_removeAll_17 post tc ac 0 0 0 oc f (nI i) xth xad xco xtr xft xfk xfp (fl_f xds i (-1)) (fl_f xas i (-1)) (fl_f xcs i (-1)) xfi (fl_f xwr i (-1)) xwm xbo xor xme xvr xok xlr xps) (fun _ _ => True) 6 0 () (by omega) trivial ?_ ?_
  · rw [fl_0, fl_0, fl_0, fl_0] at hl
    exact hl
  · intro f _ _
    refine br_t (nI_le (b := 6) (Nat.le_refl 6) (by decide)) ?_
    have hl2 := pk_loop (σ := Unit) (fun f i _ => wX_removeAll_59 post tc ac 0 0 0 oc f (nI i) xth xad xco xtr xft xfk xfp (fl_f xds 6 (-1)) (fl_f xas 6 (-1)) (fl_f xcs 6 (-1)) (fl_f xfi i 0) (fl_f xwr 6 (-1)) (fl_f xwm i (-1)) xbo xor xme xvr xok xlr xps) (fun _ _ => True) 3 0 () (by omega) trivial ?_ ?_
    · rw [fl_0 xfi, fl_0 xwm] at hl2
      exact hl2
    · exact fun f _ _ => br_t (nI_le (b := 3) (Nat.le_refl 3) (by decide)) hp
    · intro f2 i _ hi _ ih
      have v3 : vp_in (nI i) 3 := vp_in_nI (by omega) (by omega)
      refine br_f (nI_ge (b := 3) hi (by decide)) ⟨v3, ?_⟩
      rw [nI_clamp (show i < 2 ^ 31 by omega), fl_s, fl_s]
      exact nm_e ⟨v3, nm_e (nm_r (nI_1 i) (ih () trivial))⟩
  · intro f i _ hi _ ih
    have v6 : vp_in (nI i) 6 := vp_in_nI (by omega) (by omega)
    refine br_f (nI_ge (b := 6) hi (by decide)) ⟨v6, ?_⟩
    rw [nI_clamp (show i < 2 ^ 31 by omega), fl_s, fl_s, fl_s, fl_s]
    exact nm_e ⟨v6, nm_e ⟨v6, nm_e ⟨v6, nm_e (nm_r (nI_1 i) (ih () trivial))⟩⟩⟩
theorem yw_clr {yt ya yn yf ys yo : Int32} {yth yad yco yrd ywr yaq yrl yon yft yfk yfp yfi ywe ywm yle ysh yor ybo yme ygo : Nat → Int32} {yok : Nat → Int64} {post : SY → Prop} (hp : post (yt, ya, 0, 0, 0, 0, yth, yad, yco, yrd, ywr, yaq, yrl, fl_f yon 24 (-1), yft, yfk, yfp, fl_f yfi 3 0, fl_f ywe 6 (-1), fl_f ywm 3 (-1), yok, yle, ysh, yor, ybo, yme, ygo)) : wpY_clear post (yt, ya, yn, yf, ys, yo, yth, yad, yco, yrd, ywr, yaq, yrl, yon, yft, yfk, yfp, yfi, ywe, ywm, yok, yle, ysh, yor, ybo, yme, ygo) := by
  unfold wpY_clear
  have hl := pk_loop (σ := Unit) (fun f i _ => wY_clear_12 post yt ya 0 0 ys yo f (nI i) yth yad yco yrd ywr yaq yrl (fl_f yon i (-1)) yft yfk yfp yfi ywe ywm yok yle ysh yor ybo yme ygo) (fun _ _ => True) 24 0 () (by omega) trivial ?_ ?_
  · rw [fl_0] at hl
    exact hl
  · intro f _ _
    refine br_t (nI_le (b := 24) (Nat.le_refl 24) (by decide)) ?_
    have hl2 := pk_loop (σ := Unit) (fun f i _ => wY_clear_33 post yt ya 0 0 ys yo f (nI i) yth yad yco yrd ywr yaq yrl (fl_f yon 24 (-1)) yft yfk yfp yfi (fl_f ywe i (-1)) ywm yok yle ysh yor ybo yme ygo) (fun _ _ => True) 6 0 () (by omega) trivial ?_ ?_
    · rw [fl_0 ywe] at hl2
      exact hl2
    · intro f2 _ _
      refine br_t (nI_le (b := 6) (Nat.le_refl 6) (by decide)) ?_
      have hl3 := pk_loop (σ := Unit) (fun f i _ => wY_clear_54 post yt ya 0 0 ys yo f (nI i) yth yad yco yrd ywr yaq yrl (fl_f yon 24 (-1)) yft yfk yfp (fl_f yfi i 0) (fl_f ywe 6 (-1)) (fl_f ywm i (-1)) yok yle ysh yor ybo yme ygo) (fun _ _ => True) 3 0 () (by omega) trivial ?_ ?_
      · rw [fl_0 yfi, fl_0 ywm] at hl3
        exact hl3
      · exact fun f _ _ => br_t (nI_le (b := 3) (Nat.le_refl 3) (by decide)) hp
      · intro f3 i _ hi _ ih
        have v3 : vp_in (nI i) 3 := vp_in_nI (by omega) (by omega)
        refine br_f (nI_ge (b := 3) hi (by decide)) ⟨v3, ?_⟩
        rw [nI_clamp (show i < 2 ^ 31 by omega), fl_s, fl_s]
        exact nm_e ⟨v3, nm_e (nm_r (nI_1 i) (ih () trivial))⟩
    · intro f2 i _ hi _ ih
      refine br_f (nI_ge (b := 6) hi (by decide)) ⟨vp_in_nI (by omega) (by omega), ?_⟩
      rw [nI_clamp (show i < 2 ^ 31 by omega), fl_s]
      exact nm_e (nm_r (nI_1 i) (ih () trivial))
  · intro f i _ hi _ ih
    refine br_f (nI_ge (b := 24) hi (by decide)) ⟨vp_in_nI (by omega) (by omega), ?_⟩
    rw [nI_clamp (show i < 2 ^ 31 by omega), fl_s]
    exact nm_e (nm_r (nI_1 i) (ih () trivial))
theorem in_w (p : Int32) (M : Nat) (h1 : 1 ≤ M) (h2 : M < 2 ^ 31) : ∃ j, 1 ≤ j ∧ j ≤ M ∧ ∀ P : Int32 → Prop, P (nI j) → ((1 ≤ p → ((p ≤ nI M → P p) ∧ (¬ p ≤ nI M → P (nI M)))) ∧ (¬ 1 ≤ p → P 1)) := by
  by_cases c : 1 ≤ p
  · by_cases d : p ≤ nI M
    · have c0 : ¬ p < 0 := fun z => by
        have z2 := Int32.lt_of_lt_of_le z (show (0 : Int32) ≤ 1 by decide)
        exact absurd c (Int32.not_le.mpr z2)
      obtain ⟨j, hj, e⟩ := nI_of c0
      rw [e, nI_leI hj h2] at d
      rw [e, show (1 : Int32) = nI 1 from rfl, nI_leI (by decide) hj] at c
      refine ⟨j, c, d, fun P hP => ?_⟩
      rw [← e] at hP
      refine br_t ?_ (br_t ?_ hP)
      · rw [e]; exact nI_le (a := 1) c hj
      · rw [e]; exact nI_le d h2
    · exact ⟨M, h1, Nat.le_refl M, fun P hP => br_t c (br_f d hP)⟩
  · exact ⟨1, Nat.le_refl 1, h1, fun P hP => br_f c hP⟩
theorem xw_wi {p : Int32} {M j : Nat} {post : Int32 → Prop} (h : ∀ P : Int32 → Prop, P (nI j) → ((1 ≤ p → ((p ≤ nI M → P p) ∧ (¬ p ≤ nI M → P (nI M)))) ∧ (¬ 1 ≤ p → P 1))) (hp : post (nI j)) : wpX_within post p (nI M) := by
  unfold wpX_within
  exact h post hp
theorem re_P0 {A : Nat} (h1 : 1 ≤ A) (h2 : A ≤ 3) : mu_P 0 A 0 (fun _ => 0) (fun _ => 0) (fun _ => 0) (fun _ => 0) (fun _ => 0) (fun _ => 0) (fun _ => 0) (fl_f (fun _ => 0) 24 (-1)) (fun _ => 0) (fl_f (fun _ => 0) 3 0) := by
  have hz : ∀ x, fl_f (fun _ => 0) 3 0 x = 0 := by
    intro x
    unfold fl_f
    split <;> rfl
  exact ⟨by omega, fun e he => by omega, fun g hg => by omega, fun e c he => by omega, fun e c _ he hc1 hc2 => fl_lt (by omega), fun x => ⟨0, by omega, hz x⟩, fun x _ _ => hz x, fun e => ⟨Or.inl rfl, Or.inl rfl, Or.inl rfl, Or.inl rfl⟩⟩
theorem re_W0 {A : Nat} : re_W 0 A (fl_f (fun _ => 0) 6 (-1)) (fl_f (fun _ => 0) 3 (-1)) := by
  refine ⟨fun e => ?_, fun x => ?_, fun e _ he => fl_lt he, fun x _ hx => fl_lt hx⟩
  · by_cases c : e < 6
    · exact Or.inl (fl_lt c)
    · exact Or.inr ⟨0, by omega, if_neg c⟩
  · by_cases c : x < 3
    · exact Or.inl (fl_lt c)
    · exact Or.inr ⟨0, by omega, if_neg c⟩
theorem i_vc0 (k0 : Int32) (k1 : Int32) : wpX_init (fun u => wpY_init (fun v => i_Rel 2 u v) k0 k1) k0 k1 := by
  obtain ⟨T, hT1, hT2, hT⟩ := in_w k0 4 (by decide) (by decide)
  obtain ⟨A, hA1, hA2, hA⟩ := in_w k1 3 (by decide) (by decide)
  unfold wpX_init
  refine xw_wi hT (xw_wi hA (xw_rem ?_))
  unfold wpY_init
  refine hT (fun z => wY_init_192 _ k1 z _ _ _ _ _ _ _ _ _ _ _ _ _ _ _ _ _ _ _ _ _ _ _ _ _ _ _) ?_
  refine hA (fun z => wY_init_215 _ z _ _ _ _ _ _ _ _ _ _ _ _ _ _ _ _ _ _ _ _ _ _ _ _ _ _ _) ?_
  unfold wY_init_215
  refine yw_clr ?_
  exact re_mk (n := 0) (F := 0) (A := A) (re_P0 hA1 hA2) (fun e => ⟨by decide, by decide, by decide, by decide⟩) re_S_clr re_W0 re_n0
theorem i_vc_clear {k : Nat} {u : SX} {v : SY} (I : i_Rel k u v) (hk : k + 5 ≤ 2562) : wpX_clear (fun u' => wpY_clear (fun v' => i_Rel (k + 5) u' v') v) u := by
  obtain ⟨tc, sv, oc, yo, A, n, F, xth, xad, xco, xtr, xft, xfk, xfp, xds, xas, xcs, xfi, xwr, xwm, xbo, xor, xme, xvr, xok, xlr, xps, yrd, ywr, yaq, yrl, yon, yok, yle, ysh, yor, ybo, yme, ygo, rfl, rfl, hP, hT, hS, hW, hO⟩ := I
  unfold wpX_clear
  refine xw_rem ?_
  refine yw_clr ?_
  exact re_mk (n := 0) (F := 0) (mu_clr hP) hT re_S_clr (re_W_clr hW) re_n0
