/-! the class: which event must precede which -/
theorem x1_0 : ¬ (1 : Int32) = 0 := by decide
theorem xm_D {n A F a b : Nat} {th ad co rd wr aq rl on fk fi ds az cs : Nat → Int32} (hP : mu_P n A F th ad co rd wr aq rl on fk fi) (hS : re_S ds az cs on) (hab : a < b) (hb : b < n) :
    mu_D wr on a b ↔ (ds b = nI a ∨ az b = nI a ∨ (¬ wr b = 0 ∧ ((∃ c, a < c ∧ c < b ∧ az c = nI a) ∨ cs b = nI a))) := by
  have hn := hP.1.1
  obtain ⟨q1, q2, q3⟩ := hS b (by omega)
  unfold mu_D
  rw [q1, q2, q3]
  constructor
  · rintro (h | h | h | ⟨c, hc, ec, hw⟩)
    · exact Or.inl h
    · exact Or.inr (Or.inl h)
    · exact Or.inr (Or.inr ⟨h.2, Or.inr h.1⟩)
    · refine Or.inr (Or.inr ⟨hw, Or.inl ⟨c, ?_, hc, ?_⟩⟩)
      · rcases hP.2.2.2.1 c 2 (by omega) (by omega) (by omega) with h | ⟨j, hj, ej, _⟩
        · rw [ec] at h
          exact absurd h (nu_m1 a (by omega))
        · rw [ec, nI_eq (by omega) (by omega)] at ej
          omega
      · rw [(hS c (by omega)).2.1]; exact ec
  · rintro (h | h | ⟨hw, ⟨c, _, hc, ec⟩ | h⟩)
    · exact Or.inl h
    · exact Or.inr (Or.inl h)
    · refine Or.inr (Or.inr (Or.inr ⟨c, hc, ?_, hw⟩))
      rw [← (hS c (by omega)).2.1]; exact ec
    · exact Or.inr (Or.inr (Or.inl ⟨h, hw⟩))
section
variable {tc ac ec fc sv oc : Int32} {xth xad xco xtr xft xfk xfp xds xas xcs xfi xwr xwm xbo xor xme xvr xlr : Nat → Int32} {xok xps : Nat → Int64} {n A F a b : Nat} {rd wr aq rl on : Nat → Int32} {post : Int32 → Prop}
theorem xr_isA {e : Nat} {t : Int32} (he : e < 6) (h0 : xtr e &&& t = 0 → post 0) (h1 : ¬ xtr e &&& t = 0 → post 1) : wpX_isA post (tc, ac, ec, fc, sv, oc, xth, xad, xco, xtr, xft, xfk, xfp, xds, xas, xcs, xfi, xwr, xwm, xbo, xor, xme, xvr, xok, xlr, xps) (nI e) t := by
  unfold wpX_isA
  simp only [nI_clamp (show e < 2 ^ 31 by omega)]
  exact ⟨vp_in_nI he (by omega), h0, h1⟩
theorem xr_rd {e : Nat} (hT : re_T xtr rd wr aq rl) (he : e < 6) (h0 : rd e = 0 → post 0) (h1 : ¬ rd e = 0 → post 1) : wpX_isA post (tc, ac, ec, fc, sv, oc, xth, xad, xco, xtr, xft, xfk, xfp, xds, xas, xcs, xfi, xwr, xwm, xbo, xor, xme, xvr, xok, xlr, xps) (nI e) 1 :=
  xr_isA he (fun h => h0 ((hT e).1.mp h)) (fun h => h1 (fun z => h ((hT e).1.mpr z)))
theorem xr_wr {e : Nat} (hT : re_T xtr rd wr aq rl) (he : e < 6) (h0 : wr e = 0 → post 0) (h1 : ¬ wr e = 0 → post 1) : wpX_isA post (tc, ac, ec, fc, sv, oc, xth, xad, xco, xtr, xft, xfk, xfp, xds, xas, xcs, xfi, xwr, xwm, xbo, xor, xme, xvr, xok, xlr, xps) (nI e) 2 :=
  xr_isA he (fun h => h0 ((hT e).2.1.mp h)) (fun h => h1 (fun z => h ((hT e).2.1.mpr z)))
theorem xr_aq {e : Nat} (hT : re_T xtr rd wr aq rl) (he : e < 6) (h0 : aq e = 0 → post 0) (h1 : ¬ aq e = 0 → post 1) : wpX_isA post (tc, ac, ec, fc, sv, oc, xth, xad, xco, xtr, xft, xfk, xfp, xds, xas, xcs, xfi, xwr, xwm, xbo, xor, xme, xvr, xok, xlr, xps) (nI e) 4 :=
  xr_isA he (fun h => h0 ((hT e).2.2.1.mp h)) (fun h => h1 (fun z => h ((hT e).2.2.1.mpr z)))
theorem xr_rl {e : Nat} (hT : re_T xtr rd wr aq rl) (he : e < 6) (h0 : rl e = 0 → post 0) (h1 : ¬ rl e = 0 → post 1) : wpX_isA post (tc, ac, ec, fc, sv, oc, xth, xad, xco, xtr, xft, xfk, xfp, xds, xas, xcs, xfi, xwr, xwm, xbo, xor, xme, xvr, xok, xlr, xps) (nI e) 8 :=
  xr_isA he (fun h => h0 ((hT e).2.2.2.mp h)) (fun h => h1 (fun z => h ((hT e).2.2.2.mpr z)))
theorem xr_kind {kd : Int32} (hT : re_T xtr rd wr aq rl) (ha : a < 6) (hb : b < 6)
    (k1 : kd = 1 → (rd a = 0 → post 0) ∧ (¬ rd a = 0 → post 1)) (k2 : kd = 2 → (wr a = 0 ∨ wr b = 0 → post 0) ∧ (¬ wr a = 0 → ¬ wr b = 0 → post 1)) (k3 : ¬ kd = 1 → ¬ kd = 2 → post 1) : wpX_kindBinds post (tc, ac, ec, fc, sv, oc, xth, xad, xco, xtr, xft, xfk, xfp, xds, xas, xcs, xfi, xwr, xwm, xbo, xor, xme, xvr, xok, xlr, xps) kd (nI a) (nI b) := by
  unfold wpX_kindBinds
  refine br_c (fun e => ?_) (fun e => br_c (fun e2 => ?_) (fun e2 => k3 e e2))
  · exact xr_rd hT ha (fun h => ⟨rfl, (k1 e).1 h⟩) (fun h => ⟨rfl, (k1 e).2 h⟩)
  · exact xr_wr hT ha (fun h => br_t rfl ((k2 e2).1 (Or.inl h))) (fun h => br_f x1_0 (xr_wr hT hb (fun h2 => br_t rfl ((k2 e2).1 (Or.inr h2))) (fun h2 => br_f x1_0 ((k2 e2).2 h h2))))
theorem xr_fen (hT : re_T xtr rd wr aq rl) (ha : a < 6) (hb : b < 6) (hF : F ≤ 8) (hk : ∀ g, g < F → xfk g = 1 ∨ xfk g = 2 ∨ xfk g = 3)
    (h1 : mu_F F xth rd wr xft xfk xfp a b → post 1) (h0 : ¬ mu_F F xth rd wr xft xfk xfp a b → post 0) : wpX_fencesBind post (tc, ac, ec, nI F, sv, oc, xth, xad, xco, xtr, xft, xfk, xfp, xds, xas, xcs, xfi, xwr, xwm, xbo, xor, xme, xvr, xok, xlr, xps) (nI a) (nI b) := by
  unfold wpX_fencesBind
  refine pk_loop (σ := Unit) (fun f i _ => wX_fencesBind_2 post (nI a) (nI b) tc ac ec (nI F) sv oc xth xad xco xtr xft xfk xfp xds xas xcs xfi xwr xwm xbo xor xme xvr xok xlr xps f (nI i)) (fun i _ => ∀ g, g < i → ¬ mu_G xth rd wr xft xfk xfp a b g) F 0 () (by omega) (fun g hg => by omega) ?_ ?_
  · intro f _ hI
    exact br_t (nI_le (Nat.le_refl F) (by omega)) (h0 (fun ⟨g, hg, z⟩ => hI g hg z))
  · intro f i _ hi hI ih
    have hno : ¬ mu_G xth rd wr xft xfk xfp a b i → wX_fencesBind_49 post (wX_fencesBind_2 post (nI a) (nI b) tc ac ec (nI F) sv oc xth xad xco xtr xft xfk xfp xds xas xcs xfi xwr xwm xbo xor xme xvr xok xlr xps f) (nI a) (nI b) (nI i) tc ac ec (nI F) sv oc xth xad xco xtr xft xfk xfp xds xas xcs xfi xwr xwm xbo xor xme xvr xok xlr xps := fun z =>
      br_t rfl (nm_r (nI_1 i) (ih () (fun g hg => by
        by_cases e : g = i
        · rw [e]; exact z
        · exact hI g (by omega))))
    have hno2 : ¬ mu_G xth rd wr xft xfk xfp a b i → ∀ y, y = nI i + 1 → wX_fencesBind_2 post (nI a) (nI b) tc ac ec (nI F) sv oc xth xad xco xtr xft xfk xfp xds xas xcs xfi xwr xwm xbo xor xme xvr xok xlr xps f y := fun z =>
      nm_r (nI_1 i) (ih () (fun g hg => by
        by_cases e : g = i
        · rw [e]; exact z
        · exact hI g (by omega)))
    have hyes : mu_G xth rd wr xft xfk xfp a b i → post 1 := fun z => h1 ⟨i, hi, z⟩
    have v8 : vp_in (nI i) 8 := vp_in_nI (by omega) (by omega)
    refine br_f (nI_ge hi (by omega)) ?_
    rw [nI_clamp (show i < 2 ^ 31 by omega), nI_clamp (show a < 2 ^ 31 by omega)]
    refine ⟨v8, vp_in_nI ha (by omega), br_c (fun e1 => ⟨v8, br_c (fun e2 => hno (fun z => z.2.1 e2)) (fun e2 => ⟨v8, br_c (fun e3 => hno (fun z => z.2.2.1 e3)) (fun e3 => ?_)⟩)⟩) (fun e1 => hno (fun z => e1 z.1))⟩
    refine br_f x1_0 ⟨v8, ?_⟩
    rw [nI_clamp (show i < 2 ^ 31 by omega)]
    refine xr_kind hT ha hb (fun k => ⟨fun h => br_t rfl (hno2 ?_), fun h => br_f x1_0 (hyes ⟨e1, e2, e3, Or.inr (Or.inl ⟨k, h⟩)⟩)⟩) (fun k => ⟨fun h => br_t rfl (hno2 ?_), fun h h2 => br_f x1_0 (hyes ⟨e1, e2, e3, Or.inr (Or.inr ⟨k, h, h2⟩)⟩)⟩) (fun k k2 => br_f x1_0 (hyes ⟨e1, e2, e3, Or.inl ?_⟩))
    · rintro ⟨_, _, _, z | z | z⟩
      · exact absurd (k.symm.trans z) (by decide)
      · exact z.2 h
      · exact absurd (k.symm.trans z.1) (by decide)
    · rintro ⟨_, _, _, z | z | z⟩
      · exact absurd (k.symm.trans z) (by decide)
      · exact absurd (k.symm.trans z.1) (by decide)
      · exact h.elim z.2.1 z.2.2
    · rcases hk i hi with z | z | z
      · exact absurd z k
      · exact absurd z k2
      · exact z
theorem xr_marks (hT : re_T xtr rd wr aq rl) (ha : a < 6) (hb : b < 6) (h1 : mu_A aq rl a b → post 1) (h0 : ¬ mu_A aq rl a b → post 0) : wpX_marksBind post (tc, ac, ec, fc, sv, oc, xth, xad, xco, xtr, xft, xfk, xfp, xds, xas, xcs, xfi, xwr, xwm, xbo, xor, xme, xvr, xok, xlr, xps) (nI a) (nI b) := by
  unfold wpX_marksBind
  refine xr_aq hT ha (fun e1 => br_t rfl (xr_rl hT hb (fun e2 => br_t rfl (xr_rl hT ha (fun e3 => br_t rfl (h0 ?_)) (fun e3 => br_f x1_0 (xr_aq hT hb (fun e4 => br_t rfl (h0 ?_)) (fun e4 => br_f x1_0 (h1 (Or.inr (Or.inr ⟨e3, e4⟩)))))))) (fun e2 => br_f x1_0 (h1 (Or.inr (Or.inl e2)))))) (fun e1 => br_f x1_0 (h1 (Or.inl e1)))
  · rintro (z | z | z)
    · exact z e1
    · exact z e2
    · exact z.1 e3
  · rintro (z | z | z)
    · exact z e1
    · exact z e2
    · exact z.2 e4
theorem xr_deps (hP : mu_P n A F xth xad xco rd wr aq rl on xfk xfi) (hT : re_T xtr rd wr aq rl) (hS : re_S xds xas xcs on) (hab : a < b) (hb : b < n)
    (h1 : mu_D wr on a b → post 1) (h0 : ¬ mu_D wr on a b → post 0) : wpX_dependenciesBind post (tc, ac, ec, fc, sv, oc, xth, xad, xco, xtr, xft, xfk, xfp, xds, xas, xcs, xfi, xwr, xwm, xbo, xor, xme, xvr, xok, xlr, xps) (nI a) (nI b) := by
  have hn := hP.1.1
  have v6 : vp_in (nI b) 6 := vp_in_nI (by omega) (by omega)
  rw [xm_D hP hS hab hb] at h1 h0
  unfold wpX_dependenciesBind
  simp only [nI_clamp (show b < 2 ^ 31 by omega)]
  refine ⟨v6, br_c (fun e1 => h1 (Or.inl e1)) (fun e1 => ⟨v6, br_c (fun e2 => h1 (Or.inr (Or.inl e2))) (fun e2 => xr_wr hT (by omega) (fun hw => br_t rfl (h0 ?_)) (fun hw => br_f x1_0 (nm_r (nI_1 a) ?_)))⟩)⟩
  · rintro (z | z | z)
    · exact e1 z
    · exact e2 z
    · exact z.1 hw
  · refine pk_loop (σ := Unit) (fun f i _ => wX_dependenciesBind_37 post (nI a) (nI b) tc ac ec fc sv oc xth xad xco xtr xft xfk xfp xds xas xcs xfi xwr xwm xbo xor xme xvr xok xlr xps f (nI i)) (fun i _ => ∀ c, a < c → c < i → ¬ xas c = nI a) b (a + 1) () (by omega) (fun c h2 h3 => by omega) ?_ ?_
    · intro f _ hI
      refine br_t (nI_le (Nat.le_refl b) (by omega)) ⟨v6, ?_⟩
      rw [nI_clamp (show b < 2 ^ 31 by omega)]
      refine br_c (fun e3 => h1 (Or.inr (Or.inr ⟨hw, Or.inr e3⟩))) (fun e3 => h0 ?_)
      rintro (z | z | ⟨_, ⟨c, q1, q2, q3⟩ | z⟩)
      · exact e1 z
      · exact e2 z
      · exact hI c q1 q2 q3
      · exact e3 z
    · intro f i _ hi hI ih
      by_cases hai : a < i
      · refine br_f (nI_ge hi (by omega)) ⟨vp_in_nI (by omega) (by omega), ?_⟩
        rw [nI_clamp (show i < 2 ^ 31 by omega)]
        refine br_c (fun e3 => h1 (Or.inr (Or.inr ⟨hw, Or.inl ⟨i, hai, hi, e3⟩⟩))) (fun e3 => nm_r (nI_1 i) (ih () (fun c q1 q2 => ?_)))
        by_cases e : c = i
        · rw [e]; exact e3
        · exact hI c q1 (by omega)
      · refine br_f (nI_ge hi (by omega)) ⟨vp_in_nI (by omega) (by omega), ?_⟩
        rw [nI_clamp (show i < 2 ^ 31 by omega)]
        refine br_c (fun e3 => ?_) (fun e3 => nm_r (nI_1 i) (ih () (fun c q1 q2 => by omega)))
        have q := hP.2.2.2.1 i 2 (by omega) (by omega) (by omega)
        rw [← (hS i (by omega)).2.1, e3] at q
        rcases q with q | ⟨j, hj, ej, _⟩
        · exact absurd q (nu_m1 a (by omega))
        · rw [nI_eq (by omega) (by omega)] at ej
          omega
theorem xr_must (hP : mu_P n A F xth xad xco rd wr aq rl on xfk xfi) (hT : re_T xtr rd wr aq rl) (hS : re_S xds xas xcs on) (ha : a < n) (hb : b < n)
    (h1 : mu_M n F xth xad rd wr aq rl on xft xfk xfp a b → post 1) (h0 : ¬ mu_M n F xth xad rd wr aq rl on xft xfk xfp a b → post 0) : wpX_mustPrecede post (tc, ac, ec, nI F, sv, oc, xth, xad, xco, xtr, xft, xfk, xfp, xds, xas, xcs, xfi, xwr, xwm, xbo, xor, xme, xvr, xok, xlr, xps) (nI a) (nI b) := by
  have hn := hP.1
  have va : vp_in (nI a) 6 := vp_in_nI (by omega) (by omega)
  have vb : vp_in (nI b) 6 := vp_in_nI (by omega) (by omega)
  unfold wpX_mustPrecede
  simp only [nI_clamp (show a < 2 ^ 31 by omega), nI_clamp (show b < 2 ^ 31 by omega)]
  refine pk_le b a (fun c => h0 (fun z => by have := z.1.1; omega)) (fun hab => ⟨va, vb, br_c (fun et => ⟨va, vb, br_c (fun ea => h1 ⟨⟨hab, hb⟩, et, Or.inl ea⟩) (fun ea => ?_)⟩) (fun et => h0 (fun z => et z.2.1))⟩)
  refine xr_fen hT (by omega) (by omega) (by omega) hP.2.2.1 (fun hF => br_f x1_0 (h1 ⟨⟨hab, hb⟩, et, Or.inr (Or.inl hF)⟩)) (fun hF => br_t rfl ?_)
  refine xr_marks hT (by omega) (by omega) (fun hA => br_f x1_0 (h1 ⟨⟨hab, hb⟩, et, Or.inr (Or.inr (Or.inl hA))⟩)) (fun hA => br_t rfl ?_)
  refine xr_deps hP hT hS hab hb (fun hD => br_f x1_0 (h1 ⟨⟨hab, hb⟩, et, Or.inr (Or.inr (Or.inr hD))⟩)) (fun hD => br_t rfl (h0 ?_))
  rintro ⟨_, _, z | z | z | z⟩
  · exact ea z
  · exact hF z
  · exact hA z
  · exact hD z
end
