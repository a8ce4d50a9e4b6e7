/-! the reference: a run's effect, the list, solve, always, lost -/
section
variable {yt ya yn yf ys yo : Int32} {yth yad yco yrd ywr yaq yrl yon yft yfk yfp yfi ywe ywm yle ysh yor ybo yme ygo : Nat → Int32} {yok : Nat → Int64} {n A F r m : Nat} {K R : Nat → Nat}
theorem yw_effect {post : SY → Prop} {e : Nat} {mem got : Nat → Int32} (hP : mu_P n A F yth yad yco yrd ywr yaq yrl yon yfk yfi) (he : e < n)
    (hm : ∀ y, y < 3 → yme y = mem y) (hg : ∀ i, i < 6 → ygo i = got i)
    (hp : ∀ me' go', (∀ y, y < 3 → me' y = ca_m yad yco yrd ywr yon mem got e y) → (∀ i, i < 6 → go' i = ca_g yad yrd mem got e i) → post (yt, ya, yn, yf, ys, yo, yth, yad, yco, yrd, ywr, yaq, yrl, yon, yft, yfk, yfp, yfi, ywe, ywm, yok, yle, ysh, yor, ybo, me', go')) : wpY_effect post (yt, ya, yn, yf, ys, yo, yth, yad, yco, yrd, ywr, yaq, yrl, yon, yft, yfk, yfp, yfi, ywe, ywm, yok, yle, ysh, yor, ybo, yme, ygo) (nI e) := by
  have hn := hP.1
  have ve : vp_in (nI e) 6 := vp_in_nI (by omega) (by omega)
  have ce : (nI e).toNatClampNeg = e := nI_clamp (by omega)
  obtain ⟨x, hx, ex⟩ := hP.2.1 e he
  have vx : vp_in (nI x) 3 := vp_in_nI (by omega) (by omega)
  have cx : (nI x).toNatClampNeg = x := nI_clamp (by omega)
  have hmx : yme x = mem x := hm x (by omega)
  have h86 : ∀ me', (∀ y, y < 3 → me' y = ca_m yad yco yrd ywr yon mem got e y) → wY_effect_86 post (nI e) (mem x) yt ya yn yf ys yo yth yad yco yrd ywr yaq yrl yon yft yfk yfp yfi ywe ywm yok yle ysh yor ybo me' ygo := by
    intro me' h1
    unfold wY_effect_86
    rw [ce]
    refine ⟨ve, br_c (fun c => hp _ _ h1 (fun i hi => ?_)) (fun c => ⟨ve, nm_e (hp _ _ h1 (fun i hi => ?_))⟩)⟩
    · unfold ca_g
      rw [if_pos c]; exact hg i hi
    · unfold ca_g
      rw [if_neg c, ex, cx]
      by_cases e2 : i = e
      · rw [e2, pk_us, pk_us]
      · rw [pk_un e2, pk_un e2]; exact hg i hi
  have h51 : ∀ dv, dv = (if yon (4 * e + 1) < 0 then 0 else got (yon (4 * e + 1)).toNatClampNeg) → ¬ ywr e = 0 → wY_effect_51 post (nI e) (nI x) (mem x) dv yt ya yn yf ys yo yth yad yco yrd ywr yaq yrl yon yft yfk yfp yfi ywe ywm yok yle ysh yor ybo yme ygo := by
    intro dv hdv hw
    have h72 : ∀ z0, z0 = (if yrd e = 0 then 0 else mem x) → wY_effect_72 post (nI e) (mem x) dv z0 (nI x) yt ya yn yf ys yo yth yad yco yrd ywr yaq yrl yon yft yfk yfp yfi ywe ywm yok yle ysh yor ybo yme ygo := by
      intro z0 hz
      unfold wY_effect_72
      rw [ce, cx]
      refine ⟨ve, vx, nm_e (h86 _ (fun y hy => ?_))⟩
      unfold ca_m ca_v
      rw [if_neg hw, ex, cx, hz, hdv]
      by_cases c : y = x
      · rw [c, pk_us, pk_us]
      · rw [pk_un c, pk_un c]; exact hm y hy
    unfold wY_effect_51
    rw [ce]
    exact ⟨ve, br_c (fun c => h72 0 (by rw [if_pos c])) (fun c => h72 _ (by rw [if_neg c]))⟩
  unfold wpY_effect
  rw [nu_41, ce, nI_clamp (show 4 * e + 1 < 2 ^ 31 by omega)]
  refine ⟨ve, nm_r ex ⟨vx, ?_⟩⟩
  rw [cx, hmx]
  refine nm_e ⟨ve, br_c (fun hw => h86 _ (fun y hy => ?_)) (fun hw => ⟨vp_in_nI (by omega) (by omega), nm_e (br_c (fun c => h51 0 (by rw [if_pos c]) hw) (fun c => ?_))⟩)⟩
  · unfold ca_m
    rw [if_pos hw]; exact hm y hy
  · rcases hP.2.2.2.1 e 1 he (by omega) (by omega) with z | ⟨j, hj, ej, _⟩
    · rw [z] at c
      exact absurd nu_neg1 c
    · refine ⟨by rw [ej]; exact vp_in_nI (by omega) (by omega), h51 _ ?_ hw⟩
      rw [if_neg c, ej, nI_clamp (by omega)]
      exact hg j (by omega)
theorem yw_result {post : Int64 → SY → Prop} (hP : mu_P n A F yth yad yco yrd ywr yaq yrl yon yfk yfi) (hr : r < pq_N n) (ho : re_or n r yor)
    (hp : ∀ me' go', post (lN (re_key n yad yco yrd ywr yon yfi r)) (yt, ya, nI n, yf, ys, yo, yth, yad, yco, yrd, ywr, yaq, yrl, yon, yft, yfk, yfp, yfi, ywe, ywm, yok, yle, ysh, yor, ybo, me', go')) : wpY_result post (yt, ya, nI n, yf, ys, yo, yth, yad, yco, yrd, ywr, yaq, yrl, yon, yft, yfk, yfp, yfi, ywe, ywm, yok, yle, ysh, yor, ybo, yme, ygo) := by
  have hn := hP.1
  obtain ⟨d, hd⟩ : ∃ d, ca_d yad yco yrd ywr yon yfi n (pq_pm n r) = d := ⟨_, rfl⟩
  have hd16 : ∀ j, d j < 16 := fun j => by rw [← hd]; exact ca_d16 hP.2.2.2.2.2.1 n _ j
  have hrg := ca_rng (ad := yad) (co := yco) (rd := yrd) (wr := ywr) (on := yon) hP.2.2.2.2.2.1 (pq_pm n r) n
  unfold wpY_result
  refine pk_loop (σ := Nat → Int32) (fun f i me => wY_result_2 post yt ya (nI n) yf ys yo f (nI i) yth yad yco yrd ywr yaq yrl yon yft yfk yfp yfi ywe ywm yok yle ysh yor ybo me ygo) (fun i me => ∀ y, y < i → me y = yfi y) 3 0 yme (by omega) (fun y h => by omega) ?_ ?_
  · intro f me hI
    refine br_t (nI_le (b := 3) (Nat.le_refl 3) (by decide)) ?_
    refine pk_loop (σ := Nat → Int32) (fun f i go => wY_result_27 post yt ya (nI n) yf ys yo f (nI i) yth yad yco yrd ywr yaq yrl yon yft yfk yfp yfi ywe ywm yok yle ysh yor ybo me go) (fun i go => ∀ y, y < i → go y = 0) 6 0 ygo (by omega) (fun y h => by omega) ?_ ?_
    · intro f go hJ
      refine br_t (nI_le (b := 6) (Nat.le_refl 6) (by decide)) ?_
      refine pk_loop (σ := (Nat → Int32) × (Nat → Int32)) (fun f i s => wY_result_48 post f (nI i) yt ya (nI n) yf ys yo yth yad yco yrd ywr yaq yrl yon yft yfk yfp yfi ywe ywm yok yle ysh yor ybo s.1 s.2) (fun i s => (∀ y, y < 3 → s.1 y = (ca_s yad yco yrd ywr yon yfi (pq_pm n r) i).1 y) ∧ (∀ y, y < 6 → s.2 y = (ca_s yad yco yrd ywr yon yfi (pq_pm n r) i).2 y)) n 0 (me, go) (by omega) ⟨hI, hJ⟩ ?_ ?_
      · intro f s hL
        have hd1 : ∀ e, e < 6 → s.2 e = nI (d e) := by
          intro e he
          rw [hL.2 e he, ← hd]
          unfold ca_d
          rw [if_pos he]
          exact (ca_cl (hrg.2 e)).2
        have hd2 : ∀ x, x < 3 → s.1 x = nI (d (6 + x)) := by
          intro x hx
          rw [hL.1 x hx, ← hd]
          unfold ca_d
          rw [if_neg (by omega), Nat.add_sub_cancel_left]
          exact (ca_cl (hrg.1 x)).2
        have hst : ∀ i, lN (dg_z d i) * 16 + (nI (d i)).toInt64 = lN (dg_z d (i + 1)) := by
          intro i
          rw [nI_l (by have := hd16 i; omega), show (16 : Int64) = lN 16 from rfl, lN_mul, lN_add]; rfl
        refine br_t (nI_le (Nat.le_refl n) (by omega)) ?_
        refine pk_loop (σ := Unit) (fun f i _ => wY_result_76 post yt ya (nI n) yf ys yo yth yad yco yrd ywr yaq yrl yon yft yfk yfp yfi ywe ywm yok yle ysh yor ybo s.1 s.2 f (lN (dg_z d i)) (nI i)) (fun _ _ => True) 6 0 () (by omega) trivial ?_ ?_
        · intro f2 _ _
          refine br_t (nI_le (b := 6) (Nat.le_refl 6) (by decide)) ?_
          refine pk_loop (σ := Unit) (fun f i _ => wY_result_104 post yt ya (nI n) yf ys yo yth yad yco yrd ywr yaq yrl yon yft yfk yfp yfi ywe ywm yok yle ysh yor ybo s.1 s.2 f (lN (dg_z d (6 + i))) (nI i)) (fun _ _ => True) 3 0 () (by omega) trivial ?_ ?_
          · intro f3 _ _
            have z := hp s.1 s.2
            unfold re_key ca_k at z
            rw [hd] at z
            exact br_t (nI_le (b := 3) (Nat.le_refl 3) (by decide)) z
          · intro f3 i _ hi _ ih
            refine br_f (nI_ge (b := 3) hi (by decide)) ⟨vp_in_nI (by omega) (by omega), ?_⟩
            rw [nI_clamp (show i < 2 ^ 31 by omega), hd2 i hi, hst]
            exact nm_e (nm_r (nI_1 i) (ih () trivial))
        · intro f2 i _ hi _ ih
          refine br_f (nI_ge (b := 6) hi (by decide)) ⟨vp_in_nI (by omega) (by omega), ?_⟩
          rw [nI_clamp (show i < 2 ^ 31 by omega), hd1 i hi, hst]
          exact nm_e (nm_r (nI_1 i) (ih () trivial))
      · intro f i s hi hL ih
        have hl := pq_lt hr hi
        refine br_f (nI_ge hi (by omega)) ⟨vp_in_nI (by omega) (by omega), ?_⟩
        rw [nI_clamp (show i < 2 ^ 31 by omega), ho i hi]
        exact yw_effect hP hl hL.1 hL.2 (fun me' go' h1 h2 => nm_r (nI_1 i) (ih (me', go') ⟨h1, h2⟩))
    · intro f i go hi hJ ih
      refine br_f (nI_ge (b := 6) hi (by decide)) ⟨vp_in_nI (by omega) (by omega), nm_e (nm_r (nI_1 i) (ih _ (fun y hy => ?_)))⟩
      rw [nI_clamp (show i < 2 ^ 31 by omega)]
      by_cases e : y = i
      · rw [e, pk_us]
      · rw [pk_un e]; exact hJ y (by omega)
  · intro f i me hi hI ih
    refine br_f (nI_ge (b := 3) hi (by decide)) ⟨vp_in_nI (by omega) (by omega), vp_in_nI (by omega) (by omega), nm_e (nm_r (nI_1 i) (ih _ (fun y hy => ?_)))⟩
    rw [nI_clamp (show i < 2 ^ 31 by omega)]
    by_cases e : y = i
    · rw [e, pk_us]
    · rw [pk_un e]; exact hI y (by omega)
theorem yw_spell {post : Int32 → Prop} (hn : n ≤ 6) (ho : re_or n r yor) (hp : post (nI (dg_y (pq_pm n r) n))) : wpY_spelled post (yt, ya, nI n, yf, ys, yo, yth, yad, yco, yrd, ywr, yaq, yrl, yon, yft, yfk, yfp, yfi, ywe, ywm, yok, yle, ysh, yor, ybo, yme, ygo) := by
  unfold wpY_spelled
  refine pk_loop (σ := Unit) (fun f i _ => wY_spelled_4 post yt ya (nI n) yf ys yo yth yad yco yrd ywr yaq yrl yon yft yfk yfp yfi ywe ywm yok yle ysh yor ybo yme ygo f (nI (dg_y (pq_pm n r) i)) (nI i)) (fun _ _ => True) n 0 () (by omega) trivial ?_ ?_
  · exact fun f _ _ => br_t (nI_le (Nat.le_refl n) (by omega)) hp
  · intro f i _ hi _ ih
    refine br_f (nI_ge hi (by omega)) ⟨vp_in_nI (by omega) (by omega), ?_⟩
    rw [nI_clamp (show i < 2 ^ 31 by omega), ho i hi, show nI (dg_y (pq_pm n r) i) * 8 = nI (dg_y (pq_pm n r) i * 8) from pk_mul _ 8, nI_add]
    exact nm_e (nm_r (nI_1 i) (ih () trivial))
theorem yw_find {post : Int32 → Prop} {x : Nat} (hm : m ≤ 180) (hx : x < 2 ^ 36) (hK : ∀ k, k < m → K k < 2 ^ 36) (hok : ∀ k, k < m → yok k = lN (K k))
    (h0 : (∀ k, k < m → K k ≠ x) → post (-1)) (h1 : ∀ q, q < m → K q = x → post (nI q)) : wpY_find post (yt, ya, yn, yf, ys, nI m, yth, yad, yco, yrd, ywr, yaq, yrl, yon, yft, yfk, yfp, yfi, ywe, ywm, yok, yle, ysh, yor, ybo, yme, ygo) (lN x) := by
  unfold wpY_find
  refine pk_loop (σ := Unit) (fun f i _ => wY_find_2 post (lN x) yt ya yn yf ys (nI m) yth yad yco yrd ywr yaq yrl yon yft yfk yfp yfi ywe ywm yok yle ysh yor ybo yme ygo f (nI i)) (fun i _ => ∀ k, k < i → K k ≠ x) m 0 () (by omega) (fun k h => by omega) ?_ ?_
  · exact fun f _ hI => br_t (nI_le (Nat.le_refl m) (by omega)) (h0 hI)
  · intro f i _ hi hI ih
    have hKi := hK i hi
    refine br_f (nI_ge hi (by omega)) ⟨vp_in_nI (by omega) (by omega), ?_⟩
    rw [nI_clamp (show i < 2 ^ 31 by omega), hok i hi, pk_lEQ (by omega) (by omega)]
    refine br_c (fun c => h1 i hi c) (fun c => nm_r (nI_1 i) (ih () (fun k hk => ?_)))
    by_cases e : k = i
    · rw [e]; exact c
    · exact hI k (by omega)
theorem yw_keep {post : SY → Prop} {x : Nat} {w : Int32} (hm : m < 180) (hx : x < 2 ^ 36) (hK : ∀ k, k < m → K k < 2 ^ 36) (hok : ∀ k, k < m → yok k = lN (K k))
    (hp : ∀ ok' le', si_i (ol_ps K x m) m (lN x) yok ok' → si_i (ol_ps K x m) m w yle le' → post (yt, ya, yn, yf, ys, nI (m + 1), yth, yad, yco, yrd, ywr, yaq, yrl, yon, yft, yfk, yfp, yfi, ywe, ywm, ok', le', ysh, yor, ybo, yme, ygo)) : wpY_keep post (yt, ya, yn, yf, ys, nI m, yth, yad, yco, yrd, ywr, yaq, yrl, yon, yft, yfk, yfp, yfi, ywe, ywm, yok, yle, ysh, yor, ybo, yme, ygo) (lN x) w := by
  have h74 : ∀ (q : Nat) (ok' : Nat → Int64) (le' : Nat → Int32), q ≤ m → ol_ps K x m = q → sh_i q m yok ok' → sh_i q m yle le' → wY_keep_74 post (lN x) w (nI q) yt ya yn yf ys (nI m) yth yad yco yrd ywr yaq yrl yon yft yfk yfp yfi ywe ywm ok' le' ysh yor ybo yme ygo := by
    intro q ok' le' hq e s1 s2
    have vq : vp_in (nI q) 180 := vp_in_nI (by omega) (by omega)
    rw [e] at hp
    unfold wY_keep_74
    rw [nI_clamp (show q < 2 ^ 31 by omega)]
    exact ⟨vq, nm_e ⟨vq, nm_e (nm_r (nI_1 m) (hp _ _ (si_sL s1) (si_s s2)))⟩⟩
  unfold wpY_keep
  refine pk_lt m 180 (fun _ => ?_) (fun h => by omega)
  refine ⟨m + 1, ?_⟩
  refine pk_loopD (σ := (Nat → Int64) × (Nat → Int32)) (fun f q s => wY_keep_17 post (lN x) w yt ya yn yf ys (nI m) f (nI q) yth yad yco yrd ywr yaq yrl yon yft yfk yfp yfi ywe ywm s.1 s.2 ysh yor ybo yme ygo) (fun q s => q ≤ m ∧ ol_ps K x m = ol_ps K x q ∧ sh_i q m yok s.1 ∧ sh_i q m yle s.2) ?_ ?_ m (yok, yle) ⟨Nat.le_refl m, rfl, sh_0, sh_0⟩
  · intro f s hI
    exact br_t (nI_le (Nat.le_refl 0) (by decide)) (h74 0 _ _ (by omega) hI.2.1 hI.2.2.1 hI.2.2.2)
  · intro f q s hI ih
    have hq := hI.1
    have hKq := hK q (by omega)
    have v0 : vp_in (nI q) 180 := vp_in_nI (by omega) (by omega)
    have v1 : vp_in (nI (q + 1)) 180 := vp_in_nI (by omega) (by omega)
    refine br_f (nI_nle (by omega) (by omega)) ?_
    have e1 : s.1 q = lN (K q) := by rw [hI.2.2.1.1 q (by omega)]; exact hok q (by omega)
    rw [nI_pred q, nI_clamp (show q < 2 ^ 31 by omega), nI_clamp (show q + 1 < 2 ^ 31 by omega)]
    refine ⟨v0, ?_⟩
    have e2 : (s.1 q ≤ lN x) ↔ (K q ≤ x) := by rw [e1, pk_lLE (by omega) (by omega)]
    refine br_c (fun c => ?_) (fun c => ?_)
    · have c' := e2.mp c
      refine h74 (q + 1) _ _ hq ?_ hI.2.2.1 hI.2.2.2
      rw [hI.2.1, ol_ps, if_neg (by omega)]
    · have c' : ¬ K q ≤ x := fun z => c (e2.mpr z)
      refine ⟨v0, v1, nm_e ⟨v0, v1, nm_e (nm_r (pk_m1 q) (ih (_, _) ⟨by omega, ?_, sh_sL hI.2.2.1, sh_s hI.2.2.2⟩))⟩⟩
      rw [hI.2.1, ol_ps, if_pos (by omega)]
/-- the list after r rounds, as the reference keeps it -/
def yl_I (n : Nat) (ok : Nat → Prop) (key : Nat → Nat) (r : Nat) (yo : Int32) (yok : Nat → Int64) (yle : Nat → Int32) : Prop :=
  ∃ m K R, ol_so ok key r = (m, K, R) ∧ re_Y n m K R yo yok yle
theorem yw_57 {post : Int32 → SY → Prop} {f i : Nat} (hn : n ≤ 6) (hi : i < pq_N n) (ho : re_or n i yor)
    (ih : ∀ o', (i + 1 < pq_N n → re_or n (i + 1) o') → wY_solve_13 post f (so_mo (pq_N n) (i + 1)) (nI (i + 1)) yt ya (nI n) yf ys yo yth yad yco yrd ywr yaq yrl yon yft yfk yfp yfi ywe ywm yok yle ysh o' ybo yme ygo) : wY_solve_57 post (wY_solve_13 post f) (nI i) yt ya (nI n) yf ys yo yth yad yco yrd ywr yaq yrl yon yft yfk yfp yfi ywe ywm yok yle ysh yor ybo yme ygo := by
  unfold wY_solve_57
  refine yw_next hn hi ho (fun h => nm_r (nI_1 i) ?_) (fun h o' ho' => nm_r (nI_1 i) ?_)
  · have z := ih yor (fun h2 => by omega)
    rw [so_mo0 (by omega)] at z
    exact z
  · have z := ih o' (fun _ => ho')
    rw [so_mo1 h] at z
    exact z
theorem yw_solve {post : Int32 → SY → Prop} (hP : mu_P n A F yth yad yco yrd ywr yaq yrl yon yfk yfi)
    (hp : ∀ or' bo' me' go' yo' ok' le', yl_I n (re_ok n F yth yad yrd ywr yaq yrl yon yft yfk yfp) (re_key n yad yco yrd ywr yon yfi) (pq_N n) yo' ok' le' → post yo' (yt, ya, nI n, nI F, 1, yo', yth, yad, yco, yrd, ywr, yaq, yrl, yon, yft, yfk, yfp, yfi, ywe, ywm, ok', le', ysh, or', bo', me', go')) : wpY_solve post (yt, ya, nI n, nI F, ys, yo, yth, yad, yco, yrd, ywr, yaq, yrl, yon, yft, yfk, yfp, yfi, ywe, ywm, yok, yle, ysh, yor, ybo, yme, ygo) := by
  have hn := hP.1.1
  have hF := hP.1.2.2.2
  have hN := pq_Nb hn
  unfold wpY_solve
  refine yw_start hn hF (fun o0 bo ho0 hb => ?_)
  have hl := pk_loop (σ := Int32 × (Nat → Int64) × (Nat → Int32) × (Nat → Int32) × (Nat → Int32) × (Nat → Int32))
    (fun f i s => wY_solve_13 post f (so_mo (pq_N n) i) (nI i) yt ya (nI n) (nI F) ys s.1 yth yad yco yrd ywr yaq yrl yon yft yfk yfp yfi ywe ywm s.2.1 s.2.2.1 ysh s.2.2.2.1 bo s.2.2.2.2.1 s.2.2.2.2.2)
    (fun i s => (i < pq_N n → re_or n i s.2.2.2.1) ∧ yl_I n (re_ok n F yth yad yrd ywr yaq yrl yon yft yfk yfp) (re_key n yad yco yrd ywr yon yfi) i s.1 s.2.1 s.2.2.1)
    (pq_N n) 0 (0, yok, yle, o0, yme, ygo) (by omega) ⟨fun _ => ho0, ⟨0, _, _, rfl, ⟨rfl, fun k hk => by omega⟩⟩⟩ ?_ ?_
  · rw [so_mo1 hN.1] at hl
    exact hl
  · intro f s hI
    exact br_c (fun _ => hp _ _ _ _ _ _ _ hI.2) (fun _ => br_t (so_mo0 (Nat.lt_irrefl _)) (hp _ _ _ _ _ _ _ hI.2))
  · intro f i s hi hI ih
    have ho := hI.1 hi
    obtain ⟨m, K, R, e0, h1, h2⟩ := hI.2
    obtain ⟨i1, i2, i3, i4⟩ := ol_inv_all _ _ i m K R e0
    have hkl : ∀ s, re_key n yad yco yrd ywr yon yfi s < 2 ^ 36 := fun s => ca_klt hP.2.2.2.2.2.1 n _
    have hKl : ∀ k, k < m → K k < 2 ^ 36 := fun k hk' => by rw [(i4 k hk').2.2]; exact hkl _
    have same : ¬ ol_new (re_ok n F yth yad yrd ywr yaq yrl yon yft yfk yfp) (re_key n yad yco yrd ywr yon yfi) i m K → yl_I n (re_ok n F yth yad yrd ywr yaq yrl yon yft yfk yfp) (re_key n yad yco yrd ywr yon yfi) (i + 1) s.1 s.2.1 s.2.2.1 := fun z => ⟨m, K, R, ol_so_n e0 z, h1, h2⟩
    refine br_f (nI_ge (b := 720) (by omega) (by decide)) (br_f (by rw [so_mo1 hi]; exact x1_0) ?_)
    refine yw_isRun hn hb (g := pq_pm n i) ho (fun p hp' => pq_lt hi hp') (fun hok => ?_) (fun hok => ?_)
    · refine br_f x1_0 (yw_result hP hi ho (fun me' go' => ?_))
      rw [h1]
      refine yw_find i2 (hkl i) hKl (fun k hk => (h2 k hk).1) (fun hnew => br_f (by decide) (yw_spell hn ho ?_)) (fun q hq eq => br_t (nI_pos' (by omega)) ?_)
      · by_cases hm180 : m < 180
        · refine yw_keep hm180 (hkl i) hKl (fun k hk => (h2 k hk).1) (fun ok' le' s1 s2 => yw_57 hn hi ho (fun o' ho' => ih (_, ok', le', o', me', go') ⟨ho', ?_⟩))
          refine ⟨_, _, _, ol_so_y e0 ⟨hok, hnew, hm180⟩, rfl, fun k hk => ?_⟩
          have hps := ol_ps_le K (re_key n yad yco yrd ywr yon yfi i) m
          rcases Nat.lt_trichotomy k (ol_ps K (re_key n yad yco yrd ywr yon yfi i) m) with c | c | c
          · rw [ol_ins_lt c, ol_ins_lt c]
            show ok' k = _ ∧ le' k = _
            rw [s1.2.1 k c, s2.2.1 k c]
            exact h2 k (by omega)
          · rw [c, ol_ins_eq, ol_ins_eq]
            exact ⟨s1.1, s2.1⟩
          · rw [ol_ins_gt c, ol_ins_gt c]
            show ok' k = _ ∧ le' k = _
            rw [s1.2.2 k c (by omega), s2.2.2 k c (by omega)]
            exact h2 (k - 1) (by omega)
        · unfold wpY_keep
          refine pk_lt m 180 (fun z => absurd z hm180) (fun _ => yw_57 hn hi ho (fun o' ho' => ?_))
          have z := ih (s.1, s.2.1, s.2.2.1, o', me', go') ⟨ho', same (fun z => hm180 z.2.2)⟩
          rw [h1] at z
          exact z
      · refine yw_57 hn hi ho (fun o' ho' => ?_)
        have z := ih (s.1, s.2.1, s.2.2.1, o', me', go') ⟨ho', same (fun z => z.2.1 q hq eq)⟩
        rw [h1] at z
        exact z
    · exact br_t rfl (yw_57 hn hi ho (fun o' ho' => ih (s.1, s.2.1, s.2.2.1, o', s.2.2.2.2.1, s.2.2.2.2.2) ⟨ho', same (fun z => hok z.1)⟩))
end
