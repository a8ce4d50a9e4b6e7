/-! the reference: which event must precede which, the start, the next order, the runs -/
section
variable {yt ya yn yf ys yo : Int32} {yth yad yco yrd ywr yaq yrl yon yft yfk yfp yfi ywe ywm yle ysh yor ybo yme ygo : Nat → Int32} {yok : Nat → Int64} {n A F a b : Nat} {post : Int32 → Prop}
theorem yr_fen (ha : a < 6) (hb : b < 6) (hF : F ≤ 8) (h1 : mu_F F yth yrd ywr yft yfk yfp a b → post 1) (h0 : ¬ mu_F F yth yrd ywr yft yfk yfp a b → post 0) : wpY_fenced post (yt, ya, yn, nI F, ys, yo, yth, yad, yco, yrd, ywr, yaq, yrl, yon, yft, yfk, yfp, yfi, ywe, ywm, yok, yle, ysh, yor, ybo, yme, ygo) (nI a) (nI b) := by
  unfold wpY_fenced
  refine pk_loop (σ := Unit) (fun f i _ => wY_fenced_2 post (nI a) (nI b) yt ya yn (nI F) ys yo yth yad yco yrd ywr yaq yrl yon yft yfk yfp yfi ywe ywm yok yle ysh yor ybo yme ygo f (nI i)) (fun i _ => ∀ g, g < i → ¬ mu_G yth yrd ywr yft yfk yfp a b g) F 0 () (by omega) (fun g hg => by omega) ?_ ?_
  · intro f _ hI
    exact br_t (nI_le (Nat.le_refl F) (by omega)) (h0 (fun ⟨g, hg, z⟩ => hI g hg z))
  · intro f i _ hi hI ih
    have hno : ¬ mu_G yth yrd ywr yft yfk yfp a b i → ∀ y, y = nI i + 1 → wY_fenced_2 post (nI a) (nI b) yt ya yn (nI F) ys yo yth yad yco yrd ywr yaq yrl yon yft yfk yfp yfi ywe ywm yok yle ysh yor ybo yme ygo f y := fun z =>
      nm_r (nI_1 i) (ih () (fun g hg => by
        by_cases e : g = i
        · rw [e]; exact z
        · exact hI g (by omega)))
    have hyes : mu_G yth yrd ywr yft yfk yfp a b i → post 1 := fun z => h1 ⟨i, hi, z⟩
    have v8 : vp_in (nI i) 8 := vp_in_nI (by omega) (by omega)
    have va : vp_in (nI a) 6 := vp_in_nI (by omega) (by omega)
    have vb : vp_in (nI b) 6 := vp_in_nI (by omega) (by omega)
    have ci : (nI i).toNatClampNeg = i := nI_clamp (by omega)
    have ca : (nI a).toNatClampNeg = a := nI_clamp (by omega)
    have cb : (nI b).toNatClampNeg = b := nI_clamp (by omega)
    refine br_f (nI_ge hi (by omega)) ?_
    rw [ci, ca]
    refine ⟨v8, va, br_c (fun e1 => ⟨v8, br_c (fun e2 => hno (fun z => z.2.1 e2)) (fun e2 => ⟨v8, br_c (fun e3 => hno (fun z => z.2.2.1 e3)) (fun e3 => ⟨v8, br_c (fun e4 => hyes ⟨e1, e2, e3, Or.inl e4⟩) (fun e4 => ⟨v8, ?_⟩)⟩)⟩)⟩) (fun e1 => hno (fun z => e1 z.1))⟩
    have h78 : ¬ (yfk i = 1 ∧ ¬ yrd a = 0) → wY_fenced_78 post (wY_fenced_2 post (nI a) (nI b) yt ya yn (nI F) ys yo yth yad yco yrd ywr yaq yrl yon yft yfk yfp yfi ywe ywm yok yle ysh yor ybo yme ygo f) (nI a) (nI b) (nI i) yt ya yn (nI F) ys yo yth yad yco yrd ywr yaq yrl yon yft yfk yfp yfi ywe ywm yok yle ysh yor ybo yme ygo := by
      intro hn1
      unfold wY_fenced_78
      rw [ci, ca, cb]
      refine ⟨v8, br_c (fun k2 => ⟨va, br_c (fun w1 => hno ?_) (fun w1 => ⟨vb, br_c (fun w2 => hno ?_) (fun w2 => hyes ⟨e1, e2, e3, Or.inr (Or.inr ⟨k2, w1, w2⟩)⟩)⟩)⟩) (fun k2 => hno ?_)⟩
      · rintro ⟨_, _, _, z | z | z⟩
        · exact e4 z
        · exact hn1 z
        · exact z.2.1 w1
      · rintro ⟨_, _, _, z | z | z⟩
        · exact e4 z
        · exact hn1 z
        · exact z.2.2 w2
      · rintro ⟨_, _, _, z | z | z⟩
        · exact e4 z
        · exact hn1 z
        · exact k2 z.1
    exact br_c (fun k1 => ⟨va, br_c (fun w => h78 (fun z => z.2 w)) (fun w => hyes ⟨e1, e2, e3, Or.inr (Or.inl ⟨k1, w⟩)⟩)⟩) (fun k1 => h78 (fun z => k1 z.1))
theorem yr_86 (hab : a < b) (hb : b < 6) (h1 : mu_D ywr yon a b → post 1) (h0 : ¬ mu_D ywr yon a b → post 0) : wY_must_86 post (nI a) (nI b) yt ya yn yf ys yo yth yad yco yrd ywr yaq yrl yon yft yfk yfp yfi ywe ywm yok yle ysh yor ybo yme ygo := by
  have vb : vp_in (nI b) 6 := vp_in_nI (by omega) (by omega)
  have cb : (nI b).toNatClampNeg = b := nI_clamp (by omega)
  have hloop : ¬ yon (4 * b + 1) = nI a → ¬ yon (4 * b + 2) = nI a → ¬ (yon (4 * b + 3) = nI a ∧ ¬ ywr b = 0) → ∃ f, wY_must_143 post (nI a) (nI b) yt ya yn yf ys yo yth yad yco yrd ywr yaq yrl yon yft yfk yfp yfi ywe ywm yok yle ysh yor ybo yme ygo f 0 := by
    intro e1 e2 e3
    refine pk_loop (σ := Unit) (fun f i _ => wY_must_143 post (nI a) (nI b) yt ya yn yf ys yo yth yad yco yrd ywr yaq yrl yon yft yfk yfp yfi ywe ywm yok yle ysh yor ybo yme ygo f (nI i)) (fun i _ => ∀ c, c < i → ¬ (yon (4 * c + 2) = nI a ∧ ¬ ywr b = 0)) b 0 () (by omega) (fun c h => by omega) ?_ ?_
    · intro f _ hI
      refine br_t (nI_le (Nat.le_refl b) (by omega)) (h0 ?_)
      rintro (z | z | z | ⟨c, hc, z⟩)
      · exact e1 z
      · exact e2 z
      · exact e3 z
      · exact hI c hc z
    · intro f i _ hi hI ih
      have hno : ¬ (yon (4 * i + 2) = nI a ∧ ¬ ywr b = 0) → ∀ y, y = nI i + 1 → wY_must_143 post (nI a) (nI b) yt ya yn yf ys yo yth yad yco yrd ywr yaq yrl yon yft yfk yfp yfi ywe ywm yok yle ysh yor ybo yme ygo f y := fun z =>
        nm_r (nI_1 i) (ih () (fun g hg => by
          by_cases e : g = i
          · rw [e]; exact z
          · exact hI g (by omega)))
      refine br_f (nI_ge hi (by omega)) ?_
      rw [nu_42, nI_clamp (show 4 * i + 2 < 2 ^ 31 by omega), cb]
      exact ⟨vp_in_nI (by omega) (by omega), br_c (fun c => ⟨vb, br_c (fun w => hno (fun z => z.2 w)) (fun w => h1 (Or.inr (Or.inr (Or.inr ⟨i, hi, c, w⟩))))⟩) (fun c => hno (fun z => c z.1))⟩
  unfold wY_must_86
  rw [nu_41, nu_42, nu_43, nI_clamp (show 4 * b + 1 < 2 ^ 31 by omega), nI_clamp (show 4 * b + 2 < 2 ^ 31 by omega), nI_clamp (show 4 * b + 3 < 2 ^ 31 by omega), cb]
  exact ⟨vp_in_nI (by omega) (by omega), br_c (fun e1 => h1 (Or.inl e1)) (fun e1 => ⟨vp_in_nI (by omega) (by omega), br_c (fun e2 => h1 (Or.inr (Or.inl e2))) (fun e2 => ⟨vp_in_nI (by omega) (by omega), br_c (fun e3 => ⟨vb, br_c (fun w => hloop e1 e2 (fun z => z.2 w)) (fun w => h1 (Or.inr (Or.inr (Or.inl ⟨e3, w⟩))))⟩) (fun e3 => hloop e1 e2 (fun z => e3 z.1))⟩)⟩)⟩
theorem yr_must (hn : n ≤ 6) (hF : F ≤ 8) (ha : a < n) (hb : b < n)
    (h1 : mu_M n F yth yad yrd ywr yaq yrl yon yft yfk yfp a b → post 1) (h0 : ¬ mu_M n F yth yad yrd ywr yaq yrl yon yft yfk yfp a b → post 0) : wpY_must post (yt, ya, yn, nI F, ys, yo, yth, yad, yco, yrd, ywr, yaq, yrl, yon, yft, yfk, yfp, yfi, ywe, ywm, yok, yle, ysh, yor, ybo, yme, ygo) (nI a) (nI b) := by
  have va : vp_in (nI a) 6 := vp_in_nI (by omega) (by omega)
  have vb : vp_in (nI b) 6 := vp_in_nI (by omega) (by omega)
  have ca : (nI a).toNatClampNeg = a := nI_clamp (by omega)
  have cb : (nI b).toNatClampNeg = b := nI_clamp (by omega)
  unfold wpY_must
  simp only [ca, cb]
  refine pk_le b a (fun c => h0 (fun z => by have := z.1.1; omega)) (fun hab => ⟨va, vb, br_c (fun et => ⟨va, vb, br_c (fun ea => h1 ⟨⟨hab, hb⟩, et, Or.inl ea⟩) (fun ea => ?_)⟩) (fun et => h0 (fun z => et z.2.1))⟩)
  refine yr_fen (by omega) (by omega) hF (fun hF' => br_f x1_0 (h1 ⟨⟨hab, hb⟩, et, Or.inr (Or.inl hF')⟩)) (fun hF' => br_t rfl ?_)
  have hA1 : mu_A yaq yrl a b → post 1 := fun z => h1 ⟨⟨hab, hb⟩, et, Or.inr (Or.inr (Or.inl z))⟩
  have h86 : ¬ mu_A yaq yrl a b → wY_must_86 post (nI a) (nI b) yt ya yn (nI F) ys yo yth yad yco yrd ywr yaq yrl yon yft yfk yfp yfi ywe ywm yok yle ysh yor ybo yme ygo := by
    intro hA
    refine yr_86 hab (by omega) (fun hD => h1 ⟨⟨hab, hb⟩, et, Or.inr (Or.inr (Or.inr hD))⟩) (fun hD => h0 ?_)
    rintro ⟨_, _, z | z | z | z⟩
    · exact ea z
    · exact hF' z
    · exact hA z
    · exact hD z
  refine ⟨va, br_c (fun e1 => ⟨vb, br_c (fun e2 => ⟨va, br_c (fun e3 => h86 ?_) (fun e3 => ⟨vb, br_c (fun e4 => h86 ?_) (fun e4 => hA1 (Or.inr (Or.inr ⟨e3, e4⟩)))⟩)⟩) (fun e2 => hA1 (Or.inr (Or.inl e2)))⟩) (fun e1 => hA1 (Or.inl e1))⟩
  · rintro (z | z | z)
    · exact z e1
    · exact z e2
    · exact z.1 e3
  · rintro (z | z | z)
    · exact z e1
    · exact z e2
    · exact z.2 e4
end
section
variable {yt ya yn yf ys yo : Int32} {yth yad yco yrd ywr yaq yrl yon yft yfk yfp yfi ywe ywm yle ysh yor ybo yme ygo : Nat → Int32} {yok : Nat → Int64} {n A F : Nat} {post : SY → Prop} {J2 : Int32 → (Nat → Int32) → (Nat → Int32) → (Nat → Int32) → (Nat → Int32) → (Nat → Int32) → (Nat → Int32) → (Nat → Int32) → (Nat → Int32) → (Nat → Int32) → (Nat → Int32) → (Nat → Int32) → (Nat → Int32) → (Nat → Int32) → (Nat → Int32) → (Nat → Int64) → (Nat → Int32) → (Nat → Int32) → (Nat → Int32) → (Nat → Int32) → (Nat → Int32) → (Nat → Int32) → Prop}
theorem yw_17 {a : Nat} (hn : n ≤ 6) (hF : F ≤ 8) (ha : a < 6) (bo : Nat → Int32)
    (h : bo_f 6 (mu_M n F yth yad yrd ywr yaq yrl yon yft yfk yfp) a 0 bo) (hJ : ∀ bo', bo_f 6 (mu_M n F yth yad yrd ywr yaq yrl yon yft yfk yfp) (a + 1) 0 bo' → J2 (nI (a + 1)) yth yad yco yrd ywr yaq yrl yon yft yfk yfp yfi ywe ywm yok yle ysh yor bo' yme ygo) :
    ∃ f, wY_start_17 post J2 (nI a) yt ya (nI n) (nI F) ys yo f 0 yth yad yco yrd ywr yaq yrl yon yft yfk yfp yfi ywe ywm yok yle ysh yor bo yme ygo := by
  refine pk_loop (σ := Nat → Int32) (fun f i bo => wY_start_17 post J2 (nI a) yt ya (nI n) (nI F) ys yo f (nI i) yth yad yco yrd ywr yaq yrl yon yft yfk yfp yfi ywe ywm yok yle ysh yor bo yme ygo) (fun i bo => bo_f 6 (mu_M n F yth yad yrd ywr yaq yrl yon yft yfk yfp) a i bo) 6 0 bo (by omega) h ?_ ?_
  · intro f bo' hI
    exact br_t (nI_le (b := 6) (Nat.le_refl 6) (by decide)) (nm_r (nI_1 a) (hJ bo' (bo_f_row hI)))
  · intro f i bo' hi hI ih
    have v3 : vp_in (nI (a * 6 + i)) 36 := vp_in_nI (by omega) (by omega)
    have h0 : ¬ mu_M n F yth yad yrd ywr yaq yrl yon yft yfk yfp a i → ∀ y, y = nI i + 1 → wY_start_17 post J2 (nI a) yt ya (nI n) (nI F) ys yo f y yth yad yco yrd ywr yaq yrl yon yft yfk yfp yfi ywe ywm yok yle ysh yor (upd bo' (a * 6 + i) (vp_nar .boolean 0)) yme ygo := fun hm =>
      nm_r (nI_1 i) (ih _ (bo_f_put (Nat.le_refl 6) hi hI ⟨fun z => absurd rfl z, fun z => absurd z hm⟩))
    refine br_f (nI_ge (b := 6) hi (by decide)) ?_
    rw [nu_6', nI_clamp (show a * 6 + i < 2 ^ 31 by omega)]
    refine pk_le n a (fun c => ⟨v3, nm_e (h0 (fun z => by have := z.1; omega))⟩) (fun c => pk_le n i (fun c2 => ⟨v3, nm_e (h0 (fun z => by have := z.1; omega))⟩) (fun c2 => ?_))
    exact yr_must hn hF c c2 (fun hm => br_f x1_0 ⟨v3, nm_e (nm_r (nI_1 i) (ih _ (bo_f_put (Nat.le_refl 6) hi hI ⟨fun _ => hm, fun _ => x1_0⟩)))⟩) (fun hm => br_t rfl ⟨v3, nm_e (h0 hm)⟩)
theorem yw_start (hn : n ≤ 6) (hF : F ≤ 8) (hp : ∀ o' bo', re_or n 0 o' → bo_r n (mu_M n F yth yad yrd ywr yaq yrl yon yft yfk yfp) bo' → post (yt, ya, nI n, nI F, ys, yo, yth, yad, yco, yrd, ywr, yaq, yrl, yon, yft, yfk, yfp, yfi, ywe, ywm, yok, yle, ysh, o', bo', yme, ygo)) : wpY_start post (yt, ya, nI n, nI F, ys, yo, yth, yad, yco, yrd, ywr, yaq, yrl, yon, yft, yfk, yfp, yfi, ywe, ywm, yok, yle, ysh, yor, ybo, yme, ygo) := by
  unfold wpY_start
  refine pk_loop (σ := (Nat → Int32) × (Nat → Int32)) (fun f i s => wY_start_2 post yt ya (nI n) (nI F) ys yo f (nI i) yth yad yco yrd ywr yaq yrl yon yft yfk yfp yfi ywe ywm yok yle ysh s.1 s.2 yme ygo) (fun i s => (∀ p, p < i → s.1 p = nI p) ∧ bo_f 6 (mu_M n F yth yad yrd ywr yaq yrl yon yft yfk yfp) i 0 s.2) 6 0 (yor, ybo) (by omega) ⟨fun p h => by omega, fun a b _ _ z => by omega⟩ ?_ ?_
  · intro f s hI
    exact br_t (nI_le (b := 6) (Nat.le_refl 6) (by decide)) (hp s.1 s.2 (fun p h => by rw [hI.1 p (by omega), pq_first hn h]) (fun a b ha hb => bo_f_all hI.2 a b (by omega) (by omega)))
  · intro f i s hi hI ih
    refine br_f (nI_ge (b := 6) hi (by decide)) ⟨vp_in_nI (by omega) (by omega), nm_e ?_⟩
    rw [nI_clamp (show i < 2 ^ 31 by omega)]
    refine yw_17 hn hF hi s.2 hI.2 (fun bo2 h2 => ih (_, bo2) ⟨fun p hp' => ?_, h2⟩)
    show upd s.1 i (nI i) p = nI p
    by_cases e : p = i
    · rw [e, pk_us]
    · rw [pk_un e]; exact hI.1 p (by omega)
end
section
variable {yt ya yn yf ys yo : Int32} {yth yad yco yrd ywr yaq yrl yon yft yfk yfp yfi ywe ywm yle ysh yor ybo yme ygo : Nat → Int32} {yok : Nat → Int64} {n r : Nat} {g : Nat → Nat}
theorem yw_isRun {post : Int32 → Prop} {B : Nat → Nat → Prop} (hn : n ≤ 6) (hb : bo_r n B ybo) (ho : ∀ p, p < n → yor p = nI (g p)) (hg : ∀ p, p < n → g p < n) (h1 : od_ok B n g → post 1) (h0 : ¬ od_ok B n g → post 0) : wpY_isRun post (yt, ya, nI n, yf, ys, yo, yth, yad, yco, yrd, ywr, yaq, yrl, yon, yft, yfk, yfp, yfi, ywe, ywm, yok, yle, ysh, yor, ybo, yme, ygo) := by
  unfold wpY_isRun
  rcases Nat.eq_zero_or_pos n with e0 | e0
  · subst e0
    exact ⟨1, br_t (by decide) (h1 (fun p q _ h => by omega))⟩
  refine pk_loop (σ := Unit) (fun f i _ => wY_isRun_2 post yt ya (nI n) yf ys yo yth yad yco yrd ywr yaq yrl yon yft yfk yfp yfi ywe ywm yok yle ysh yor ybo yme ygo f (nI i)) (fun i _ => ∀ p q, q < i → p < q → ¬ B (g q) (g p)) n 1 () (by omega) (fun p q h => by omega) ?_ ?_
  · intro f _ hI
    exact br_t (nI_le (Nat.le_refl n) (by omega)) (h1 (fun p q hpq hq => hI p q hq hpq))
  · intro f i _ hi hI ih
    refine br_f (nI_ge hi (by omega)) ?_
    refine pk_loop (σ := Unit) (fun f2 j _ => wY_isRun_12 post (wY_isRun_2 post yt ya (nI n) yf ys yo yth yad yco yrd ywr yaq yrl yon yft yfk yfp yfi ywe ywm yok yle ysh yor ybo yme ygo f) (nI i) yt ya (nI n) yf ys yo yth yad yco yrd ywr yaq yrl yon yft yfk yfp yfi ywe ywm yok yle ysh yor ybo yme ygo f2 (nI j)) (fun j _ => ∀ p, p < j → ¬ B (g i) (g p)) i 0 () (by omega) (fun p h => by omega) ?_ ?_
    · intro f2 _ hJ
      refine br_t (nI_le (Nat.le_refl i) (by omega)) (nm_r (nI_1 i) (ih () (fun p q hq hpq => ?_)))
      by_cases e : q = i
      · rw [e]; exact hJ p (by omega)
      · exact hI p q (by omega) hpq
    · intro f2 j _ hj hJ ih2
      have g1 := hg i hi
      have g2 := hg j (by omega)
      refine br_f (nI_ge hj (by omega)) ?_
      rw [nI_clamp (show i < 2 ^ 31 by omega), nI_clamp (show j < 2 ^ 31 by omega), ho i hi, ho j (by omega), nu_6', nI_clamp (show g i * 6 + g j < 2 ^ 31 by omega)]
      refine ⟨vp_in_nI (by omega) (by omega), vp_in_nI (by omega) (by omega), vp_in_nI (by omega) (by omega), br_c (fun e => nm_r (nI_1 j) (ih2 () (fun p q2 => ?_))) (fun e => h0 (fun z => z j i hj hi ((hb _ _ g1 g2).mp e)))⟩
      by_cases e2 : p = j
      · rw [e2]; exact fun z => (hb _ _ g1 g2).mpr z e
      · exact hJ p (by omega)
theorem yw_112 {post : Int32 → SY → Prop} {i j : Nat} (hn : n ≤ 6) (hij : i < j) (hj : j < n) (o : Nat → Int32) (h : ∀ p, p < n → o p = nI (nw_h i j g p)) (hp : ∀ o', (∀ p, p < n → o' p = nI (pq_nf n i j g p)) → post 1 (yt, ya, nI n, yf, ys, yo, yth, yad, yco, yrd, ywr, yaq, yrl, yon, yft, yfk, yfp, yfi, ywe, ywm, yok, yle, ysh, o', ybo, yme, ygo)) :
    ∃ f, wY_next_112 post yt ya (nI n) yf ys yo f (nI (i + 1)) (nI (n - 1)) yth yad yco yrd ywr yaq yrl yon yft yfk yfp yfi ywe ywm yok yle ysh o ybo yme ygo := by
  refine pk_loop (σ := Nat → Int32) (fun f t o => wY_next_112 post yt ya (nI n) yf ys yo f (nI (i + 1 + t)) (nI (n - 1 - t)) yth yad yco yrd ywr yaq yrl yon yft yfk yfp yfi ywe ywm yok yle ysh o ybo yme ygo) (fun t o => ∀ p, p < n → o p = nI (nw_t n i t (nw_h i j g) p)) ((n - i - 1) / 2) 0 o (by omega) (fun p hp' => by rw [nw_t0 hp']; exact h p hp') ?_ ?_
  · intro f o' hI
    exact br_t (nI_le (by omega) (by omega)) (hp o' (fun p hp' => by rw [hI p hp', nw_te hp' hij hj (by omega) (by omega)]))
  · intro f t o' ht hI ih
    have v1 : vp_in (nI (i + 1 + t)) 6 := vp_in_nI (by omega) (by omega)
    have v2 : vp_in (nI (n - 1 - t)) 6 := vp_in_nI (by omega) (by omega)
    refine br_f (nI_ge (by omega) (by omega)) ?_
    rw [nI_clamp (show i + 1 + t < 2 ^ 31 by omega), nI_clamp (show n - 1 - t < 2 ^ 31 by omega)]
    refine ⟨v1, nm_e ⟨v2, v1, nm_e ⟨v2, nm_e (nm_r (nI_1 _) (nm_r (nu_d (by omega)) (ih _ (fun p hp' => ?_))))⟩⟩⟩
    rw [nw_ts hp' (by omega) (by omega)]
    by_cases e1 : p = n - 1 - t
    · rw [if_pos e1, e1, pk_us]; exact hI _ (by omega)
    · rw [if_neg e1, pk_un e1]
      by_cases e2 : p = i + 1 + t
      · rw [if_pos e2, e2, pk_us]; exact hI _ (by omega)
      · rw [if_neg e2, pk_un e2]; exact hI p hp'
theorem yw_73 {post : Int32 → SY → Prop} {i j : Nat} (hn : n ≤ 6) (hij : i < j) (hj : j < n) (ho : ∀ p, p < n → yor p = nI (g p)) (hp : ∀ o', (∀ p, p < n → o' p = nI (pq_nf n i j g p)) → post 1 (yt, ya, nI n, yf, ys, yo, yth, yad, yco, yrd, ywr, yaq, yrl, yon, yft, yfk, yfp, yfi, ywe, ywm, yok, yle, ysh, o', ybo, yme, ygo)) : wY_next_73 post (nI i) (nI j) yt ya (nI n) yf ys yo yth yad yco yrd ywr yaq yrl yon yft yfk yfp yfi ywe ywm yok yle ysh yor ybo yme ygo := by
  have v1 : vp_in (nI i) 6 := vp_in_nI (by omega) (by omega)
  have v2 : vp_in (nI j) 6 := vp_in_nI (by omega) (by omega)
  unfold wY_next_73
  rw [nI_clamp (show i < 2 ^ 31 by omega), nI_clamp (show j < 2 ^ 31 by omega)]
  refine ⟨v1, nm_e ⟨v2, v1, nm_e ⟨v2, nm_e (nm_r (nI_1 i) (nm_r (pk_sub (a := n) (b := 1) (by omega)) (yw_112 (g := g) hn hij hj _ (fun p hp' => ?_) hp)))⟩⟩⟩
  unfold nw_h
  by_cases e1 : p = j
  · rw [if_pos e1, e1, pk_us, ho _ (by omega)]
  · rw [if_neg e1, pk_un e1]
    by_cases e2 : p = i
    · rw [if_pos e2, e2, pk_us, ho _ (by omega)]
    · rw [if_neg e2, pk_un e2, ho _ hp']
theorem yw_47 {post : Int32 → SY → Prop} {i : Nat} (hn : n ≤ 6) (ho : ∀ p, p < n → yor p = nI (g p)) (hg : ∀ p, p < n → g p < n) (hinj : ∀ p q, p < n → q < n → g p = g q → p = q) (hi : g i < g (i + 1)) :
    ∀ k, i + 1 < k → k ≤ n → wY_next_73 post (nI i) (nI (pq_sw g i k)) yt ya (nI n) yf ys yo yth yad yco yrd ywr yaq yrl yon yft yfk yfp yfi ywe ywm yok yle ysh yor ybo yme ygo → wY_next_47 post (nI i) yt ya (nI n) yf ys yo yth yad yco yrd ywr yaq yrl yon yft yfk yfp yfi ywe ywm yok yle ysh yor ybo yme ygo k (nI (k - 1)) := by
  intro k
  induction k with
  | zero => intro h; omega
  | succ k ih =>
    intro h1 h2 h73
    have g1 := hg i (by omega)
    have g2 := hg k (by omega)
    rw [Nat.add_sub_cancel]
    refine br_f (nI_ge (by omega) (by omega)) ?_
    rw [nI_clamp (show i < 2 ^ 31 by omega), nI_clamp (show k < 2 ^ 31 by omega), ho i (by omega), ho k (by omega)]
    refine ⟨vp_in_nI (by omega) (by omega), vp_in_nI (by omega) (by omega), pk_le (g i) (g k) (fun c => ?_) (fun c => nm_r (nu_d (by omega)) ?_)⟩
    · have hne : g i ≠ g k := fun z => by have := hinj i k (by omega) (by omega) z; omega
      rw [pq_sw, if_pos (by omega)] at h73
      exact h73
    · have hk : i + 1 ≠ k := fun z => by subst z; omega
      rw [pq_sw, if_neg (by omega)] at h73
      exact ih (by omega) (by omega) h73
theorem yw_7 {post : Int32 → SY → Prop} (hn : n ≤ 6) (ho : ∀ p, p < n → yor p = nI (g p)) (hg : ∀ p, p < n → g p < n) (hinj : ∀ p q, p < n → q < n → g p = g q → p = q) :
    ∀ k, k + 1 ≤ n → (pq_rise g k = none → wY_next_34 post (-1) yt ya (nI n) yf ys yo yth yad yco yrd ywr yaq yrl yon yft yfk yfp yfi ywe ywm yok yle ysh yor ybo yme ygo) → (∀ i, pq_rise g k = some i → wY_next_34 post (nI i) yt ya (nI n) yf ys yo yth yad yco yrd ywr yaq yrl yon yft yfk yfp yfi ywe ywm yok yle ysh yor ybo yme ygo) → wY_next_7 post yt ya (nI n) yf ys yo yth yad yco yrd ywr yaq yrl yon yft yfk yfp yfi ywe ywm yok yle ysh yor ybo yme ygo (k + 1) (nI k + (-1)) := by
  intro k
  induction k with
  | zero => exact fun _ h1 _ => br_t (by decide) (h1 rfl)
  | succ k ih =>
    intro hk h1 h2
    rw [pk_m1 k]
    have g1 := hg k (by omega)
    have g2 := hg (k + 1) (by omega)
    refine br_f (nI_pos (by omega)) ?_
    rw [nI_1, nI_clamp (show k < 2 ^ 31 by omega), nI_clamp (show k + 1 < 2 ^ 31 by omega), ho k (by omega), ho (k + 1) (by omega)]
    refine ⟨vp_in_nI (by omega) (by omega), vp_in_nI (by omega) (by omega), pk_le (g k) (g (k + 1)) (fun c => h2 k ?_) (fun c => nm_e ?_)⟩
    · have hne : g k ≠ g (k + 1) := fun z => by have := hinj k (k + 1) (by omega) (by omega) z; omega
      rw [pq_rise, if_pos (by omega)]
    · have e : pq_rise g (k + 1) = pq_rise g k := by rw [pq_rise, if_neg (by omega)]
      rw [e] at h1 h2
      exact ih (by omega) h1 h2
theorem yw_next {post : Int32 → SY → Prop} (hn : n ≤ 6) (hr : r < pq_N n) (ho : re_or n r yor) (hE : r + 1 = pq_N n → post 0 (yt, ya, nI n, yf, ys, yo, yth, yad, yco, yrd, ywr, yaq, yrl, yon, yft, yfk, yfp, yfi, ywe, ywm, yok, yle, ysh, yor, ybo, yme, ygo)) (hN : r + 1 < pq_N n → ∀ o', re_or n (r + 1) o' → post 1 (yt, ya, nI n, yf, ys, yo, yth, yad, yco, yrd, ywr, yaq, yrl, yon, yft, yfk, yfp, yfi, ywe, ywm, yok, yle, ysh, o', ybo, yme, ygo)) : wpY_next post (yt, ya, nI n, yf, ys, yo, yth, yad, yco, yrd, ywr, yaq, yrl, yon, yft, yfk, yfp, yfi, ywe, ywm, yok, yle, ysh, yor, ybo, yme, ygo) := by
  have hnone : pq_rise (pq_pm n r) (n - 1) = none → r + 1 = pq_N n := by
    intro h
    rcases Nat.lt_trichotomy (r + 1) (pq_N n) with c | c | c
    · obtain ⟨i, hi, _⟩ := pq_step hn c
      rw [h] at hi
      exact absurd hi (by simp)
    · exact c
    · omega
  have h34 : ∀ i, pq_rise (pq_pm n r) (n - 1) = some i → wY_next_34 post (nI i) yt ya (nI n) yf ys yo yth yad yco yrd ywr yaq yrl yon yft yfk yfp yfi ywe ywm yok yle ysh yor ybo yme ygo := by
    intro i h
    have hc : r + 1 < pq_N n := by
      rcases Nat.lt_trichotomy (r + 1) (pq_N n) with c | c | c
      · exact c
      · have h2 := pq_end hn c
        rw [h] at h2
        exact absurd h2 (by simp)
      · omega
    obtain ⟨i', hi', hs⟩ := pq_step hn hc
    have e : i' = i := by
      rw [h] at hi'
      exact (Option.some.inj hi').symm
    subst e
    obtain ⟨q1, q2⟩ := nw_rise _ _ h
    have q3 := nw_sw q2 n (by omega)
    unfold wY_next_34
    refine br_t (nI_pos' (by omega)) (nm_r (pk_sub (a := n) (b := 1) (by omega)) ⟨n, ?_⟩)
    refine yw_47 hn ho (fun p hp => pq_lt hr hp) (fun p q hp hq z => pq_inj hr hp hq z) q2 n (by omega) (Nat.le_refl n) ?_
    exact yw_73 hn q3.1 q3.2 ho (fun o' ho' => hN hc o' (fun p hp => by rw [ho' p hp, hs p hp]))
  unfold wpY_next
  rcases Nat.eq_zero_or_pos n with e | e
  · subst e
    exact nm_e ⟨1, br_t (by decide) (br_f (by decide) (hE (hnone rfl)))⟩
  · refine nm_r (e' := nI (n - 1) + (-1)) ?_ ⟨_, yw_7 hn ho (fun p hp => pq_lt hr hp) (fun p q hp hq z => pq_inj hr hp hq z) (n - 1) (by omega) (fun h => br_f (by decide) (hE (hnone h))) h34⟩
    obtain ⟨m, rfl⟩ : ∃ m, n = m + 1 := ⟨n - 1, by omega⟩
    rw [Nat.add_sub_cancel, ← nI_1, show (2 : Int32) = 1 + 1 from rfl]
    grind
end
