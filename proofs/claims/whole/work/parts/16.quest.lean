/-! the questions: always, lost, wished -/
section
variable {yt ya yn yf ys yo : Int32} {yth yad yco yrd ywr yaq yrl yon yft yfk yfp yfi ywe ywm yle ysh yor ybo yme ygo : Nat → Int32} {yok : Nat → Int64} {n A F r m a b : Nat} {K R : Nat → Nat}
theorem yr_evN {post : Int32 → Prop} {p : Int32} (h : p < 0 ∨ nI n ≤ p) (hp : post 0) : wpY_event post (yt, ya, nI n, yf, ys, yo, yth, yad, yco, yrd, ywr, yaq, yrl, yon, yft, yfk, yfp, yfi, ywe, ywm, yok, yle, ysh, yor, ybo, yme, ygo) p := by
  unfold wpY_event
  by_cases c : p < 0
  · exact br_t c hp
  · exact br_f c (br_t (h.resolve_left c) hp)
theorem yr_evY {post : Int32 → Prop} {e : Nat} (hn : n ≤ 6) (he : e < n) (hp : post 1) : wpY_event post (yt, ya, nI n, yf, ys, yo, yth, yad, yco, yrd, ywr, yaq, yrl, yon, yft, yfk, yfp, yfi, ywe, ywm, yok, yle, ysh, yor, ybo, yme, ygo) (nI e) := by
  unfold wpY_event
  exact br_f (nI_pos (by omega)) (br_f (nI_ge he (by omega)) hp)
theorem yw_cb {post : Int32 → Prop} (hn : n ≤ 6) (hr : r < pq_N n) (ho : re_or n r yor) (ha : a < n) (hb : b < n) (h1 : re_bef n r a b → post 1) (h0 : ¬ re_bef n r a b → post 0) : wpY_comesBefore post (yt, ya, nI n, yf, ys, yo, yth, yad, yco, yrd, ywr, yaq, yrl, yon, yft, yfk, yfp, yfi, ywe, ywm, yok, yle, ysh, yor, ybo, yme, ygo) (nI a) (nI b) := by
  unfold wpY_comesBefore
  refine pk_loop (σ := Unit) (fun f i _ => wY_comesBefore_2 post (nI a) (nI b) yt ya (nI n) yf ys yo yth yad yco yrd ywr yaq yrl yon yft yfk yfp yfi ywe ywm yok yle ysh yor ybo yme ygo f (nI i)) (fun i _ => ∀ q, q < i → pq_pm n r q ≠ a ∧ pq_pm n r q ≠ b) n 0 () (by omega) (fun q h => by omega) ?_ ?_
  · intro f _ hI
    obtain ⟨p, hp, ep⟩ := pq_sur hr ha
    exact absurd ep (hI p hp).1
  · intro f i _ hi hI ih
    have g1 := pq_lt hr hi
    refine br_f (nI_ge hi (by omega)) ⟨vp_in_nI (by omega) (by omega), ?_⟩
    rw [nI_clamp (show i < 2 ^ 31 by omega), ho i hi]
    refine pk_eq (pq_pm n r i) a (fun e => pk_eq a b (fun e2 => h0 ?_) (fun e2 => h1 ?_)) (fun e => ⟨vp_in_nI (by omega) (by omega), pk_eq (pq_pm n r i) b (fun e2 => h0 ?_) (fun e2 => nm_r (nI_1 i) (ih () (fun q hq => ?_)))⟩)
    · rintro ⟨p, q, h2, h3, h4, h5⟩
      have := pq_inj hr (show p < n by omega) h3 (by omega)
      omega
    · obtain ⟨q, hq, eq⟩ := pq_sur hr hb
      rcases Nat.lt_trichotomy q i with c | c | c
      · exact absurd eq (hI q c).2
      · subst c; omega
      · exact ⟨i, q, c, hq, e, eq⟩
    · rintro ⟨p, q, h2, h3, h4, h5⟩
      have := pq_inj hr h3 hi (by omega)
      subst this
      exact (hI p h2).1 h4
    · by_cases e3 : q = i
      · rw [e3]; exact ⟨e, e2⟩
      · exact hI q (by omega)
theorem yw_58 {post : Int32 → SY → Prop} {f i : Nat} {x y : Int32} (hn : n ≤ 6) (hi : i < pq_N n) (ho : re_or n i yor)
    (ih : ∀ o', (i + 1 < pq_N n → re_or n (i + 1) o') → wY_always_28 post x y f (so_mo (pq_N n) (i + 1)) (nI (i + 1)) yt ya (nI n) yf ys yo yth yad yco yrd ywr yaq yrl yon yft yfk yfp yfi ywe ywm yok yle ysh o' ybo yme ygo) : wY_always_58 post (wY_always_28 post x y f) x y (nI i) yt ya (nI n) yf ys yo yth yad yco yrd ywr yaq yrl yon yft yfk yfp yfi ywe ywm yok yle ysh yor ybo yme ygo := by
  unfold wY_always_58
  refine yw_next hn hi ho (fun h => nm_r (nI_1 i) ?_) (fun h o' ho' => nm_r (nI_1 i) ?_)
  · have z := ih yor (fun h2 => by omega)
    rw [so_mo0 (by omega)] at z
    exact z
  · have z := ih o' (fun _ => ho')
    rw [so_mo1 h] at z
    exact z
theorem yw_alw {post : Int32 → SY → Prop} (hn : n ≤ 6) (hF : F ≤ 8) (ha : a < n) (hb : b < n)
    (h1 : od_W (mu_M n F yth yad yrd ywr yaq yrl yon yft yfk yfp) n a b → ∀ o' bo', post 1 (yt, ya, nI n, nI F, ys, yo, yth, yad, yco, yrd, ywr, yaq, yrl, yon, yft, yfk, yfp, yfi, ywe, ywm, yok, yle, ysh, o', bo', yme, ygo))
    (h0 : ¬ od_W (mu_M n F yth yad yrd ywr yaq yrl yon yft yfk yfp) n a b → ∀ o' bo', post 0 (yt, ya, nI n, nI F, ys, yo, yth, yad, yco, yrd, ywr, yaq, yrl, yon, yft, yfk, yfp, yfi, ywe, ywm, yok, yle, ysh, o', bo', yme, ygo)) : wpY_always post (yt, ya, nI n, nI F, ys, yo, yth, yad, yco, yrd, ywr, yaq, yrl, yon, yft, yfk, yfp, yfi, ywe, ywm, yok, yle, ysh, yor, ybo, yme, ygo) (nI a) (nI b) := by
  have hN := pq_Nb hn
  unfold wpY_always
  refine yr_evY hn ha (br_f x1_0 (yr_evY hn hb (br_f x1_0 (yw_start hn hF (fun o0 bo ho0 hbo => ?_)))))
  have hl := pk_loop (σ := Nat → Int32) (fun f i o => wY_always_28 post (nI a) (nI b) f (so_mo (pq_N n) i) (nI i) yt ya (nI n) (nI F) ys yo yth yad yco yrd ywr yaq yrl yon yft yfk yfp yfi ywe ywm yok yle ysh o bo yme ygo)
    (fun i o => (i < pq_N n → re_or n i o) ∧ ∀ s, s < i → od_ok (mu_M n F yth yad yrd ywr yaq yrl yon yft yfk yfp) n (pq_pm n s) → re_bef n s a b) (pq_N n) 0 o0 (by omega) ⟨fun _ => ho0, fun s h => by omega⟩ ?_ ?_
  · rw [so_mo1 hN.1] at hl
    exact hl
  · intro f o hI
    have hw := (od_alw mu_M_lt ha hb).mpr hI.2
    exact br_c (fun _ => h1 hw _ _) (fun _ => br_t (so_mo0 (Nat.lt_irrefl _)) (h1 hw _ _))
  · intro f i o hi hI ih
    have ho := hI.1 hi
    refine br_f (nI_ge (b := 720) (by omega) (by decide)) (br_f (by rw [so_mo1 hi]; exact x1_0) ?_)
    refine yw_isRun hn hbo (g := pq_pm n i) ho (fun p hp' => pq_lt hi hp') (fun hok => br_f x1_0 (yw_cb hn hi ho ha hb (fun hbe => br_f x1_0 (yw_58 hn hi ho (fun o' ho' => ih o' ⟨ho', fun s hs hk => ?_⟩))) (fun hbe => br_t rfl (h0 (fun hw => hbe ((od_alw mu_M_lt ha hb).mp hw i hi hok)) _ _)))) (fun hok => br_t rfl (yw_58 hn hi ho (fun o' ho' => ih o' ⟨ho', fun s hs hk => ?_⟩)))
    · by_cases e : s = i
      · rw [e]; exact hbe
      · exact hI.2 s (by omega) hk
    · by_cases e : s = i
      · rw [e] at hk; exact absurd hk hok
      · exact hI.2 s (by omega) hk
theorem yw_124 {post : Int32 → SY → Prop} {f i : Nat} {x y : Int32} (hn : n ≤ 6) (hi : i < pq_N n) (ho : re_or n i yor)
    (ih : ∀ o', (i + 1 < pq_N n → re_or n (i + 1) o') → wY_lost_69 post x y f (so_mo (pq_N n) (i + 1)) (nI (i + 1)) yt ya (nI n) yf ys yo yth yad yco yrd ywr yaq yrl yon yft yfk yfp yfi ywe ywm yok yle ysh o' ybo yme ygo) : wY_lost_124 post (wY_lost_69 post x y f) x y (nI i) yt ya (nI n) yf ys yo yth yad yco yrd ywr yaq yrl yon yft yfk yfp yfi ywe ywm yok yle ysh yor ybo yme ygo := by
  unfold wY_lost_124
  refine yw_next hn hi ho (fun h => nm_r (nI_1 i) ?_) (fun h o' ho' => nm_r (nI_1 i) ?_)
  · have z := ih yor (fun h2 => by omega)
    rw [so_mo0 (by omega)] at z
    exact z
  · have z := ih o' (fun _ => ho')
    rw [so_mo1 h] at z
    exact z
/-- outcome k vanishes if no run with it has a before b -/
def lo_P (n : Nat) (ok : Nat → Prop) (key : Nat → Nat) (K : Nat → Nat) (a b k : Nat) : Prop := ¬ ∃ s, s < pq_N n ∧ ok s ∧ key s = K k ∧ re_bef n s a b
theorem yw_141 {post : Int32 → SY → Prop} {P : Nat → Prop} (hm : m ≤ 180) (h : ∀ k, k < m → (ysh k = 0 ↔ P k)) (hp : post (nI (cn_t P m)) (yt, ya, yn, yf, ys, nI m, yth, yad, yco, yrd, ywr, yaq, yrl, yon, yft, yfk, yfp, yfi, ywe, ywm, yok, yle, ysh, yor, ybo, yme, ygo)) : ∃ f, wY_lost_141 post yt ya yn yf ys (nI m) yth yad yco yrd ywr yaq yrl yon yft yfk yfp yfi ywe ywm yok yle ysh yor ybo yme ygo f 0 0 := by
  refine pk_loop (σ := Unit) (fun f i _ => wY_lost_141 post yt ya yn yf ys (nI m) yth yad yco yrd ywr yaq yrl yon yft yfk yfp yfi ywe ywm yok yle ysh yor ybo yme ygo f (nI (cn_t P i)) (nI i)) (fun _ _ => True) m 0 () (by omega) trivial ?_ ?_
  · exact fun f _ _ => br_t (nI_le (Nat.le_refl m) (by omega)) hp
  · intro f i _ hi _ ih
    have z := ih () trivial
    refine br_f (nI_ge hi (by omega)) ⟨vp_in_nI (by omega) (by omega), ?_⟩
    rw [nI_clamp (show i < 2 ^ 31 by omega)]
    refine br_c (fun c => ?_) (fun c => ?_)
    · rw [cn_y ((h i hi).mp c)] at z
      exact nm_r (nI_1 _) (nm_r (nI_1 i) z)
    · rw [cn_n (fun q => c ((h i hi).mpr q))] at z
      exact nm_r (nI_1 i) z
theorem yw_lost {post : Int32 → SY → Prop} (hP : mu_P n A F yth yad yco yrd ywr yaq yrl yon yfk yfi) (ha : a < n) (hb : b < n) (hab : a ≠ b) (hys : ¬ ys = 0) (hm : m ≤ 180) (hs : ol_srt m K) (hKl : ∀ k, k < m → K k < 2 ^ 36) (hok : ∀ k, k < m → yok k = lN (K k))
    (hp : ∀ sh' o' bo' me' go', post (nI (cn_t (lo_P n (re_ok n F yth yad yrd ywr yaq yrl yon yft yfk yfp) (re_key n yad yco yrd ywr yon yfi) K a b) m)) (yt, ya, nI n, nI F, ys, nI m, yth, yad, yco, yrd, ywr, yaq, yrl, yon, yft, yfk, yfp, yfi, ywe, ywm, yok, yle, sh', o', bo', me', go')) : wpY_lost post (yt, ya, nI n, nI F, ys, nI m, yth, yad, yco, yrd, ywr, yaq, yrl, yon, yft, yfk, yfp, yfi, ywe, ywm, yok, yle, ysh, yor, ybo, yme, ygo) (nI a) (nI b) := by
  have hn := hP.1.1
  have hF := hP.1.2.2.2
  have hN := pq_Nb hn
  have hkl : ∀ s, re_key n yad yco yrd ywr yon yfi s < 2 ^ 36 := fun s => ca_klt hP.2.2.2.2.2.1 n _
  unfold wpY_lost
  refine br_f hys (yr_evY hn ha (br_f x1_0 (yr_evY hn hb (br_f x1_0 (br_f (by rw [nI_eq (by omega) (by omega)]; exact hab) ?_)))))
  refine pk_loop (σ := Nat → Int32) (fun f i sh => wY_lost_39 post (nI a) (nI b) yt ya (nI n) (nI F) ys (nI m) f (nI i) yth yad yco yrd ywr yaq yrl yon yft yfk yfp yfi ywe ywm yok yle sh yor ybo yme ygo) (fun i sh => ∀ k, k < i → sh k = 0) m 0 ysh (by omega) (fun k h => by omega) ?_ ?_
  · intro f sh0 hsh
    refine br_t (nI_le (Nat.le_refl m) (by omega)) (yw_start hn hF (fun o0 bo ho0 hbo => ?_))
    have hl := pk_loop (σ := (Nat → Int32) × (Nat → Int32) × (Nat → Int32) × (Nat → Int32))
      (fun f i s => wY_lost_69 post (nI a) (nI b) f (so_mo (pq_N n) i) (nI i) yt ya (nI n) (nI F) ys (nI m) yth yad yco yrd ywr yaq yrl yon yft yfk yfp yfi ywe ywm yok yle s.1 s.2.1 bo s.2.2.1 s.2.2.2)
      (fun i s => (i < pq_N n → re_or n i s.2.1) ∧ ∀ k, k < m → (¬ s.1 k = 0 ↔ ∃ t, t < i ∧ re_ok n F yth yad yrd ywr yaq yrl yon yft yfk yfp t ∧ re_key n yad yco yrd ywr yon yfi t = K k ∧ re_bef n t a b)) (pq_N n) 0 (sh0, o0, yme, ygo) (by omega) ⟨fun _ => ho0, fun k hk => ⟨fun z => absurd (hsh k hk) z, fun ⟨t, ht, _⟩ => by omega⟩⟩ ?_ ?_
    · rw [so_mo1 hN.1] at hl
      exact hl
    · intro f s hI
      have hfin : ∃ f, wY_lost_141 post yt ya (nI n) (nI F) ys (nI m) yth yad yco yrd ywr yaq yrl yon yft yfk yfp yfi ywe ywm yok yle s.1 s.2.1 bo s.2.2.1 s.2.2.2 f 0 0 := by
        refine yw_141 hm (fun k hk => ?_) (hp _ _ _ _ _)
        unfold lo_P
        rw [← hI.2 k hk, Classical.not_not]
      exact br_c (fun _ => hfin) (fun _ => br_t (so_mo0 (Nat.lt_irrefl _)) hfin)
    · intro f i s hi hI ih
      have ho := hI.1 hi
      have same : ∀ sh' : Nat → Int32, (∀ k, k < m → (¬ sh' k = 0 ↔ (¬ s.1 k = 0 ∨ (re_ok n F yth yad yrd ywr yaq yrl yon yft yfk yfp i ∧ re_key n yad yco yrd ywr yon yfi i = K k ∧ re_bef n i a b)))) → ∀ k, k < m → (¬ sh' k = 0 ↔ ∃ t, t < i + 1 ∧ re_ok n F yth yad yrd ywr yaq yrl yon yft yfk yfp t ∧ re_key n yad yco yrd ywr yon yfi t = K k ∧ re_bef n t a b) := fun sh' h k hk => by
        rw [h k hk, hI.2 k hk, ol_ex_s]
      have keep : ∀ me' go', (∀ k, k < m → ¬ (re_ok n F yth yad yrd ywr yaq yrl yon yft yfk yfp i ∧ re_key n yad yco yrd ywr yon yfi i = K k ∧ re_bef n i a b)) → wY_lost_124 post (wY_lost_69 post (nI a) (nI b) f) (nI a) (nI b) (nI i) yt ya (nI n) (nI F) ys (nI m) yth yad yco yrd ywr yaq yrl yon yft yfk yfp yfi ywe ywm yok yle s.1 s.2.1 bo me' go' := fun me' go' h =>
        yw_124 hn hi ho (fun o' ho' => ih (s.1, o', me', go') ⟨ho', same s.1 (fun k hk => ⟨Or.inl, fun z => z.elim id (fun z => absurd z (h k hk))⟩)⟩)
      refine br_f (nI_ge (b := 720) (by omega) (by decide)) (br_f (by rw [so_mo1 hi]; exact x1_0) ?_)
      refine yw_cb hn hi ho ha hb (fun hbe => br_f x1_0 ?_) (fun hbe => br_t rfl (keep _ _ (fun k _ z => hbe z.2.2)))
      refine yw_isRun hn hbo (g := pq_pm n i) ho (fun p hp' => pq_lt hi hp') (fun hk1 => br_f x1_0 (yw_result hP hi ho (fun me' go' => ?_))) (fun hk1 => br_t rfl (keep _ _ (fun k _ z => hk1 z.1)))
      refine yw_find hm (hkl i) hKl hok (fun hnew => br_t nu_neg1 (keep _ _ (fun k hk z => hnew k hk z.2.1.symm))) (fun q hq eq => br_f (nI_pos (by omega)) ⟨vp_in_nI (by omega) (by omega), nm_e ?_⟩)
      rw [nI_clamp (show q < 2 ^ 31 by omega)]
      refine yw_124 hn hi ho (fun o' ho' => ih (upd s.1 q (vp_nar .boolean 1), o', me', go') ⟨ho', same (upd s.1 q (vp_nar .boolean 1)) (fun k hk => ?_)⟩)
      by_cases e : k = q
      · rw [e]
        exact ⟨fun _ => Or.inr ⟨hk1, eq.symm, hbe⟩, fun _ => by rw [pk_us]; exact x1_0⟩
      · rw [pk_un e]
        refine ⟨Or.inl, fun z => z.elim id (fun z => ?_)⟩
        have e3 : K k = K q := by rw [eq]; exact z.2.1.symm
        rcases Nat.lt_trichotomy k q with c | c | c
        · have := hs k q c hq; omega
        · exact absurd c e
        · have := hs q k c hk; omega
  · intro f i sh hi hI ih
    refine br_f (nI_ge hi (by omega)) ⟨vp_in_nI (by omega) (by omega), nm_e (nm_r (nI_1 i) (ih _ (fun k hk => ?_)))⟩
    rw [nI_clamp (show i < 2 ^ 31 by omega)]
    by_cases e : k = i
    · rw [e, pk_us]; rfl
    · rw [pk_un e]; exact hI k (by omega)
end
/-! a kept value; the wishes -/
def wk_r (K e : Nat) : Int32 := ((lN K >>> ((nI ((8 - e) * 4)).toInt64 &&& 63)).toInt32) &&& 15
def wk_m (K x : Nat) : Int32 := ((lN K >>> ((nI ((2 - x) * 4)).toInt64 &&& 63)).toInt32) &&& 15
def wi_R (n : Nat) (we : Nat → Int32) (K : Nat) : Prop := ∀ e, e < n → we e = -1 ∨ we e = wk_r K e
def wi_M (A : Nat) (wm : Nat → Int32) (K : Nat) : Prop := ∀ x, x < A → wm x = -1 ∨ wm x = wk_m K x
theorem nu_s8 {e : Nat} (h : e ≤ 8) : ((8 : Int32) - nI e) * 4 = nI ((8 - e) * 4) := by
  rw [show (8 : Int32) - nI e = nI (8 - e) from pk_sub (a := 8) h]; exact pk_mul _ 4
theorem nu_s8' {e : Nat} (h : e ≤ 8) : 4 * ((8 : Int32) - nI e) = nI ((8 - e) * 4) := by
  rw [show (8 : Int32) - nI e = nI (8 - e) from pk_sub (a := 8) h, Nat.mul_comm]; exact pk_mul 4 _
theorem nu_s2 {e : Nat} (h : e ≤ 2) : ((2 : Int32) - nI e) * 4 = nI ((2 - e) * 4) := by
  rw [show (2 : Int32) - nI e = nI (2 - e) from pk_sub (a := 2) h]; exact pk_mul _ 4
theorem nu_s2' {e : Nat} (h : e ≤ 2) : 4 * ((2 : Int32) - nI e) = nI ((2 - e) * 4) := by
  rw [show (2 : Int32) - nI e = nI (2 - e) from pk_sub (a := 2) h, Nat.mul_comm]; exact pk_mul 4 _
section
variable {tc ac ec fc sv oc : Int32} {xth xad xco xtr xft xfk xfp xds xas xcs xfi xwr xwm xbo xor xme xvr xlr : Nat → Int32} {xok xps : Nat → Int64} {n A m a b k K : Nat} {post : Int32 → Prop}
theorem xw_rk {e : Nat} (hk : k < 180) (hK : K < 2 ^ 36) (ek : xok k = lN K) (he : e < 6) (hp : post (wk_r K e)) : wpX_readKept post (tc, ac, ec, fc, sv, oc, xth, xad, xco, xtr, xft, xfk, xfp, xds, xas, xcs, xfi, xwr, xwm, xbo, xor, xme, xvr, xok, xlr, xps) (nI k) (nI e) := by
  unfold wpX_readKept wpX_shiftOfRead
  dsimp only
  rw [nI_clamp (show k < 2 ^ 31 by omega), ek, nu_s8 (by omega)]
  refine ⟨vp_in_nI hk (by omega), ?_⟩
  show post _
  rw [nu_rk hK (by omega)]
  exact hp
theorem xw_mk {e : Nat} (hk : k < 180) (hK : K < 2 ^ 36) (ek : xok k = lN K) (he : e < 3) (hp : post (wk_m K e)) : wpX_memoryKept post (tc, ac, ec, fc, sv, oc, xth, xad, xco, xtr, xft, xfk, xfp, xds, xas, xcs, xfi, xwr, xwm, xbo, xor, xme, xvr, xok, xlr, xps) (nI k) (nI e) := by
  unfold wpX_memoryKept wpX_shiftOfMemory
  dsimp only
  rw [nI_clamp (show k < 2 ^ 31 by omega), ek, nu_s2 (by omega)]
  refine ⟨vp_in_nI hk (by omega), ?_⟩
  show post _
  rw [nu_rk hK (by omega)]
  exact hp
theorem xw_rw (hn : n ≤ 6) (hk : k < 180) (hK : K < 2 ^ 36) (ek : xok k = lN K) (h1 : wi_R n xwr K → post 1) (h0 : ¬ wi_R n xwr K → post 0) : wpX_readWishesHold post (tc, ac, nI n, fc, sv, oc, xth, xad, xco, xtr, xft, xfk, xfp, xds, xas, xcs, xfi, xwr, xwm, xbo, xor, xme, xvr, xok, xlr, xps) (nI k) := by
  unfold wpX_readWishesHold
  refine pk_loop (σ := Unit) (fun f i _ => wX_readWishesHold_2 post (nI k) tc ac (nI n) fc sv oc xth xad xco xtr xft xfk xfp xds xas xcs xfi xwr xwm xbo xor xme xvr xok xlr xps f (nI i)) (fun i _ => wi_R i xwr K) n 0 () (by omega) (fun e h => by omega) ?_ ?_
  · exact fun f _ hI => br_t (nI_le (Nat.le_refl n) (by omega)) (h1 hI)
  · intro f i _ hi hI ih
    have vi : vp_in (nI i) 6 := vp_in_nI (by omega) (by omega)
    have nxt : (xwr i = -1 ∨ xwr i = wk_r K i) → ∀ y, y = nI i + 1 → wX_readWishesHold_2 post (nI k) tc ac (nI n) fc sv oc xth xad xco xtr xft xfk xfp xds xas xcs xfi xwr xwm xbo xor xme xvr xok xlr xps f y := fun z => nm_r (nI_1 i) (ih () (fun e he => by
      by_cases c : e = i
      · rw [c]; exact z
      · exact hI e (by omega)))
    refine br_f (nI_ge hi (by omega)) ⟨vi, ?_⟩
    rw [nI_clamp (show i < 2 ^ 31 by omega)]
    refine br_c (fun c => nxt (Or.inl c)) (fun c => ⟨vi, xw_rk hk hK ek (by omega) (br_c (fun d => nxt (Or.inr d)) (fun d => h0 (fun z => ?_)))⟩)
    exact (z i hi).elim c d
theorem xw_mw (hA : A ≤ 3) (hk : k < 180) (hK : K < 2 ^ 36) (ek : xok k = lN K) (h1 : wi_M A xwm K → post 1) (h0 : ¬ wi_M A xwm K → post 0) : wpX_memoryWishesHold post (tc, nI A, ec, fc, sv, oc, xth, xad, xco, xtr, xft, xfk, xfp, xds, xas, xcs, xfi, xwr, xwm, xbo, xor, xme, xvr, xok, xlr, xps) (nI k) := by
  unfold wpX_memoryWishesHold
  refine pk_loop (σ := Unit) (fun f i _ => wX_memoryWishesHold_2 post (nI k) tc (nI A) ec fc sv oc xth xad xco xtr xft xfk xfp xds xas xcs xfi xwr xwm xbo xor xme xvr xok xlr xps f (nI i)) (fun i _ => wi_M i xwm K) A 0 () (by omega) (fun e h => by omega) ?_ ?_
  · exact fun f _ hI => br_t (nI_le (Nat.le_refl A) (by omega)) (h1 hI)
  · intro f i _ hi hI ih
    have vi : vp_in (nI i) 3 := vp_in_nI (by omega) (by omega)
    have nxt : (xwm i = -1 ∨ xwm i = wk_m K i) → ∀ y, y = nI i + 1 → wX_memoryWishesHold_2 post (nI k) tc (nI A) ec fc sv oc xth xad xco xtr xft xfk xfp xds xas xcs xfi xwr xwm xbo xor xme xvr xok xlr xps f y := fun z => nm_r (nI_1 i) (ih () (fun e he => by
      by_cases c : e = i
      · rw [c]; exact z
      · exact hI e (by omega)))
    refine br_f (nI_ge hi (by omega)) ⟨vi, ?_⟩
    rw [nI_clamp (show i < 2 ^ 31 by omega)]
    refine br_c (fun c => nxt (Or.inl c)) (fun c => ⟨vi, xw_mk hk hK ek (by omega) (br_c (fun d => nxt (Or.inr d)) (fun d => h0 (fun z => ?_)))⟩)
    exact (z i hi).elim c d
theorem xw_wished {Kf : Nat → Nat} (hn : n ≤ 6) (hA : A ≤ 3) (hm : m ≤ 180) (hK : ∀ k, k < m → Kf k < 2 ^ 36) (ek : ∀ k, k < m → xok k = lN (Kf k)) (hs : ¬ sv = 0)
    (hp : post (nI (cn_t (fun k => wi_R n xwr (Kf k) ∧ wi_M A xwm (Kf k)) m))) : wpX_wished post (tc, nI A, nI n, fc, sv, nI m, xth, xad, xco, xtr, xft, xfk, xfp, xds, xas, xcs, xfi, xwr, xwm, xbo, xor, xme, xvr, xok, xlr, xps) := by
  unfold wpX_wished
  refine br_f hs ?_
  refine pk_loop (σ := Unit) (fun f i _ => wX_wished_14 post tc (nI A) (nI n) fc sv (nI m) xth xad xco xtr xft xfk xfp xds xas xcs xfi xwr xwm xbo xor xme xvr xok xlr xps f (nI (cn_t (fun k => wi_R n xwr (Kf k) ∧ wi_M A xwm (Kf k)) i)) (nI i)) (fun _ _ => True) m 0 () (by omega) trivial ?_ ?_
  · exact fun f _ _ => br_t (nI_le (Nat.le_refl m) (by omega)) hp
  · intro f i _ hi _ ih
    have z := ih () trivial
    have hno : ¬ (wi_R n xwr (Kf i) ∧ wi_M A xwm (Kf i)) → ∀ y, y = nI i + 1 → wX_wished_14 post tc (nI A) (nI n) fc sv (nI m) xth xad xco xtr xft xfk xfp xds xas xcs xfi xwr xwm xbo xor xme xvr xok xlr xps f (nI (cn_t (fun k => wi_R n xwr (Kf k) ∧ wi_M A xwm (Kf k)) i)) y := by
      intro c
      rw [cn_n (P := fun k => wi_R n xwr (Kf k) ∧ wi_M A xwm (Kf k)) c] at z
      exact nm_r (nI_1 i) z
    refine br_f (nI_ge hi (by omega)) ?_
    refine xw_rw hn (by omega) (hK i hi) (ek i hi) (fun c1 => br_f x1_0 (xw_mw hA (by omega) (hK i hi) (ek i hi) (fun c2 => br_f x1_0 ?_) (fun c2 => br_t rfl (hno (fun q => c2 q.2))))) (fun c1 => br_t rfl (hno (fun q => c1 q.1)))
    rw [cn_y (P := fun k => wi_R n xwr (Kf k) ∧ wi_M A xwm (Kf k)) ⟨c1, c2⟩] at z
    exact nm_r (nI_1 _) (nm_r (nI_1 i) z)
theorem xw_lost52 {S : Nat → Nat} {P : Nat → Prop} (hm : m ≤ 180) (ha : a < 6) (hb : b < 6) (hS : ∀ k, k < m → S k < 2 ^ 36) (es : ∀ k, k < m → xps k = lN (S k)) (hP : ∀ k, k < m → ((S k).testBit (a * 6 + b) = false ↔ P k))
    (hp : post (nI (cn_t P m))) : ∃ f, wX_lost_52 post (lN (2 ^ (a * 6 + b))) tc ac ec fc sv (nI m) xth xad xco xtr xft xfk xfp xds xas xcs xfi xwr xwm xbo xor xme xvr xok xlr xps f 0 0 := by
  refine pk_loop (σ := Unit) (fun f i _ => wX_lost_52 post (lN (2 ^ (a * 6 + b))) tc ac ec fc sv (nI m) xth xad xco xtr xft xfk xfp xds xas xcs xfi xwr xwm xbo xor xme xvr xok xlr xps f (nI (cn_t P i)) (nI i)) (fun _ _ => True) m 0 () (by omega) trivial ?_ ?_
  · exact fun f _ _ => br_t (nI_le (Nat.le_refl m) (by omega)) hp
  · intro f i _ hi _ ih
    have z := ih () trivial
    refine br_f (nI_ge hi (by omega)) ⟨vp_in_nI (by omega) (by omega), ?_⟩
    rw [nI_clamp (show i < 2 ^ 31 by omega), es i hi, dg_bit0 (hS i hi) (by omega)]
    refine br_c (fun c => ?_) (fun c => ?_)
    · rw [cn_y ((hP i hi).mp c)] at z
      exact nm_r (nI_1 _) (nm_r (nI_1 i) z)
    · rw [cn_n (fun q => c ((hP i hi).mpr q))] at z
      exact nm_r (nI_1 i) z
end
section
variable {yt ya yn yf ys yo : Int32} {yth yad yco yrd ywr yaq yrl yon yft yfk yfp yfi ywe ywm yle ysh yor ybo yme ygo : Nat → Int32} {yok : Nat → Int64} {n A m k K : Nat} {post : Int32 → Prop}
theorem wi_ng {x : Int32} (h : x = -1 ∨ ∃ j, j < 16 ∧ x = nI j) : x < 0 ↔ x = -1 := by
  constructor
  · intro c
    rcases h with z | ⟨j, hj, z⟩
    · exact z
    · rw [z] at c
      exact absurd c (nI_pos (by omega))
  · intro c
    rw [c]; exact nu_neg1
theorem yw_gr (hW : re_W n A ywe ywm) (hk : k < 180) (ek : yok k = lN K) (h1 : wi_R 6 ywe K ∧ wi_M 3 ywm K → post 1) (h0 : ¬ (wi_R 6 ywe K ∧ wi_M 3 ywm K) → post 0) : wpY_granted post (yt, ya, yn, yf, ys, yo, yth, yad, yco, yrd, ywr, yaq, yrl, yon, yft, yfk, yfp, yfi, ywe, ywm, yok, yle, ysh, yor, ybo, yme, ygo) (nI k) := by
  have vk : vp_in (nI k) 180 := vp_in_nI hk (by omega)
  have ck : (nI k).toNatClampNeg = k := nI_clamp (by omega)
  unfold wpY_granted
  refine pk_loop (σ := Unit) (fun f i _ => wY_granted_2 post (nI k) yt ya yn yf ys yo yth yad yco yrd ywr yaq yrl yon yft yfk yfp yfi ywe ywm yok yle ysh yor ybo yme ygo f (nI i)) (fun i _ => wi_R i ywe K) 6 0 () (by omega) (fun e h => by omega) ?_ ?_
  · intro f _ hI
    refine br_t (nI_le (b := 6) (Nat.le_refl 6) (by decide)) ?_
    refine pk_loop (σ := Unit) (fun f i _ => wY_granted_55 post (nI k) yt ya yn yf ys yo yth yad yco yrd ywr yaq yrl yon yft yfk yfp yfi ywe ywm yok yle ysh yor ybo yme ygo f (nI i)) (fun i _ => wi_M i ywm K) 3 0 () (by omega) (fun e h => by omega) ?_ ?_
    · exact fun f _ hJ => br_t (nI_le (b := 3) (Nat.le_refl 3) (by decide)) (h1 ⟨hI, hJ⟩)
    · intro f i _ hi hJ ih
      have vi : vp_in (nI i) 3 := vp_in_nI (by omega) (by omega)
      have nxt : (ywm i = -1 ∨ ywm i = wk_m K i) → ∀ y, y = nI i + 1 → wY_granted_55 post (nI k) yt ya yn yf ys yo yth yad yco yrd ywr yaq yrl yon yft yfk yfp yfi ywe ywm yok yle ysh yor ybo yme ygo f y := fun z => nm_r (nI_1 i) (ih () (fun e he => by
        by_cases c : e = i
        · rw [c]; exact z
        · exact hJ e (by omega)))
      refine br_f (nI_ge (b := 3) hi (by decide)) ⟨vk, ?_⟩
      rw [nI_clamp (show i < 2 ^ 31 by omega), ck, ek, nu_s2' (by omega)]
      refine nm_e ⟨vi, br_c (fun c => nxt (Or.inl ((wi_ng (hW.2.1 i)).mp c))) (fun c => ⟨vi, br_c (fun d => nxt (Or.inr d)) (fun d => h0 (fun z => ?_))⟩)⟩
      exact (z.2 i hi).elim (fun q => c ((wi_ng (hW.2.1 i)).mpr q)) d
  · intro f i _ hi hJ ih
    have vi : vp_in (nI i) 6 := vp_in_nI (by omega) (by omega)
    have nxt : (ywe i = -1 ∨ ywe i = wk_r K i) → ∀ y, y = nI i + 1 → wY_granted_2 post (nI k) yt ya yn yf ys yo yth yad yco yrd ywr yaq yrl yon yft yfk yfp yfi ywe ywm yok yle ysh yor ybo yme ygo f y := fun z => nm_r (nI_1 i) (ih () (fun e he => by
      by_cases c : e = i
      · rw [c]; exact z
      · exact hJ e (by omega)))
    refine br_f (nI_ge (b := 6) hi (by decide)) ⟨vk, ?_⟩
    rw [nI_clamp (show i < 2 ^ 31 by omega), ck, ek, nu_s8' (by omega)]
    refine nm_e ⟨vi, br_c (fun c => nxt (Or.inl ((wi_ng (hW.1 i)).mp c))) (fun c => ⟨vi, br_c (fun d => nxt (Or.inr d)) (fun d => h0 (fun z => ?_))⟩)⟩
    exact (z.1 i hi).elim (fun q => c ((wi_ng (hW.1 i)).mpr q)) d
theorem wi_6 {we wm : Nat → Int32} {K : Nat} (hn : n ≤ 6) (hA : A ≤ 3) (hW : re_W n A we wm) : (wi_R 6 we K ∧ wi_M 3 wm K) ↔ (wi_R n we K ∧ wi_M A wm K) := by
  constructor
  · exact fun z => ⟨fun e he => z.1 e (by omega), fun x hx => z.2 x (by omega)⟩
  · refine fun z => ⟨fun e he => ?_, fun x hx => ?_⟩
    · by_cases c : e < n
      · exact z.1 e c
      · exact Or.inl (hW.2.2.1 e (by omega) he)
    · by_cases c : x < A
      · exact z.2 x c
      · exact Or.inl (hW.2.2.2 x (by omega) hx)
theorem yw_wished {Kf : Nat → Nat} (hn : n ≤ 6) (hA : A ≤ 3) (hW : re_W n A ywe ywm) (hm : m ≤ 180) (ek : ∀ k, k < m → yok k = lN (Kf k)) (hs : ¬ ys = 0)
    (hp : post (nI (cn_t (fun k => wi_R n ywe (Kf k) ∧ wi_M A ywm (Kf k)) m))) : wpY_wished post (yt, ya, yn, yf, ys, nI m, yth, yad, yco, yrd, ywr, yaq, yrl, yon, yft, yfk, yfp, yfi, ywe, ywm, yok, yle, ysh, yor, ybo, yme, ygo) := by
  unfold wpY_wished
  refine br_f hs ?_
  refine pk_loop (σ := Unit) (fun f i _ => wY_wished_14 post yt ya yn yf ys (nI m) yth yad yco yrd ywr yaq yrl yon yft yfk yfp yfi ywe ywm yok yle ysh yor ybo yme ygo f (nI (cn_t (fun k => wi_R n ywe (Kf k) ∧ wi_M A ywm (Kf k)) i)) (nI i)) (fun _ _ => True) m 0 () (by omega) trivial ?_ ?_
  · exact fun f _ _ => br_t (nI_le (Nat.le_refl m) (by omega)) hp
  · intro f i _ hi _ ih
    have z := ih () trivial
    refine br_f (nI_ge hi (by omega)) ?_
    refine yw_gr hW (by omega) (ek i hi) (fun c => br_f x1_0 ?_) (fun c => br_t rfl ?_)
    · rw [cn_y (P := fun k => wi_R n ywe (Kf k) ∧ wi_M A ywm (Kf k)) ((wi_6 hn hA hW).mp c)] at z
      exact nm_r (nI_1 _) (nm_r (nI_1 i) z)
    · rw [cn_n (P := fun k => wi_R n ywe (Kf k) ∧ wi_M A ywm (Kf k)) (fun q => c ((wi_6 hn hA hW).mpr q))] at z
      exact nm_r (nI_1 i) z
end
