/-! 07: the reference reads the text up to a gap. Written by wip/whole/gen07.py -/
theorem sy_pl2 {post : Int32 → SY → Prop} {i : Nat} (hi : i < 64) {l tp : Int32} {t am ae ad ap aj ac ay ak : Nat → Int32} {q : Nat} (hq : q < 64) (hT : tp = nI q) (ht : t i = 2) (h : post 0 (l, nI (q + 1), t, am, ae, ad, ap, upd aj i 1, ac, ay, upd ak q (nI i))) : wpY_plain post (l, tp, t, am, ae, ad, ap, aj, ac, ay, ak) (nI i) :=
  have k : (nI i).toNatClampNeg = i := sx_cl (by omega)
  ⟨sx_v64 hi, nm_r (e' := 2) (by rw [k]; exact ht) (br_t rfl ⟨sx_v64 hi, nm_r (e' := upd aj i 1) (by rw [k, sx_n1]) ⟨by rw [hT]; exact sx_v64 hq, nm_r (e' := upd ak q (nI i)) (by rw [hT, sx_cl (by omega)]) (nm_r (e' := nI (q + 1)) (by rw [hT, nI_1]) (br_f (by decide) (br_f (by decide) (br_f (by decide) (br_f (by decide) h)))))⟩⟩)⟩
theorem sy_pl3s {post : Int32 → SY → Prop} {i : Nat} (hi : i < 64) {l tp : Int32} {t am ae ad ap aj ac ay ak : Nat → Int32} (hT : tp = 0) (ht : t i = 3) (h : post 0 (l, tp, t, am, ae, ad, ap, aj, upd ac i 1, upd ay i 1, ak)) : wpY_plain post (l, tp, t, am, ae, ad, ap, aj, ac, ay, ak) (nI i) :=
  have k : (nI i).toNatClampNeg = i := sx_cl (by omega)
  ⟨sx_v64 hi, nm_r (e' := 3) (by rw [k]; exact ht) (br_f (by decide) (br_t rfl ⟨sx_v64 hi, nm_r (e' := upd ac i 1) (by rw [k, sx_n1]) (br_t hT ⟨sx_v64 hi, nm_r (e' := upd ay i 1) (by rw [k, sx_n1]) (br_f (by decide) (br_f (by decide) (br_f (by decide) h)))⟩)⟩))⟩
theorem sy_pl3p {post : Int32 → SY → Prop} {i : Nat} (hi : i < 64) {l tp : Int32} {t am ae ad ap aj ac ay ak : Nat → Int32} {q o : Nat} (hq : q < 64) (ho : o < 64) (hT : tp = nI (q + 1)) (hk : ak q = nI o) (ht : t i = 3) (h : post 0 (l, nI q, t, am, ae, ad, upd (upd ap i (nI o)) o (nI i), aj, upd ac i 1, ay, ak)) : wpY_plain post (l, tp, t, am, ae, ad, ap, aj, ac, ay, ak) (nI i) :=
  have k : (nI i).toNatClampNeg = i := sx_cl (by omega)
  have kq : (nI q).toNatClampNeg = q := sx_cl (by omega)
  ⟨sx_v64 hi, nm_r (e' := 3) (by rw [k]; exact ht) (br_f (by decide) (br_t rfl ⟨sx_v64 hi, nm_r (e' := upd ac i 1) (by rw [k, sx_n1]) (br_f (by rw [hT]; exact nI_ne0 (by omega) (by omega)) (nm_r (e' := nI q) (by rw [hT, nI_pred]) ⟨sx_v64 hq, sx_v64 hi, nm_r (e' := upd ap i (nI o)) (by rw [k, kq, hk]) ⟨sx_v64 hq, by rw [kq, hk]; exact sx_v64 ho, nm_r (e' := upd (upd ap i (nI o)) o (nI i)) (by rw [kq, hk, sx_cl (by omega)]) (br_f (by decide) (br_f (by decide) (br_f (by decide) h)))⟩⟩))⟩))⟩
theorem sy_pl4 {post : Int32 → SY → Prop} {i : Nat} (hi : i < 64) {l tp : Int32} {t am ae ad ap aj ac ay ak : Nat → Int32} (ht : t i = 4) (h : post 2 (l, tp, t, am, ae, ad, ap, aj, ac, ay, ak)) : wpY_plain post (l, tp, t, am, ae, ad, ap, aj, ac, ay, ak) (nI i) :=
  have k : (nI i).toNatClampNeg = i := sx_cl (by omega)
  ⟨sx_v64 hi, nm_r (e' := 4) (by rw [k]; exact ht) (br_f (by decide) (br_f (by decide) (br_t rfl h)))⟩
theorem sy_pl5 {post : Int32 → SY → Prop} {i : Nat} (hi : i < 64) {l tp : Int32} {t am ae ad ap aj ac ay ak : Nat → Int32} (ht : t i = 5) (h : post 1 (l, tp, t, am, ae, ad, ap, aj, ac, ay, ak)) : wpY_plain post (l, tp, t, am, ae, ad, ap, aj, ac, ay, ak) (nI i) :=
  have k : (nI i).toNatClampNeg = i := sx_cl (by omega)
  ⟨sx_v64 hi, nm_r (e' := 5) (by rw [k]; exact ht) (br_f (by decide) (br_f (by decide) (br_f (by decide) (br_t rfl h))))⟩
theorem sy_pl6 {post : Int32 → SY → Prop} {i : Nat} (hi : i < 64) {l tp : Int32} {t am ae ad ap aj ac ay ak : Nat → Int32} (ht : t i = 6) (h : post 3 (l, tp, t, am, ae, ad, ap, aj, ac, ay, ak)) : wpY_plain post (l, tp, t, am, ae, ad, ap, aj, ac, ay, ak) (nI i) :=
  have k : (nI i).toNatClampNeg = i := sx_cl (by omega)
  ⟨sx_v64 hi, nm_r (e' := 6) (by rw [k]; exact ht) (br_f (by decide) (br_f (by decide) (br_f (by decide) (br_f (by decide) (br_t rfl h)))))⟩
theorem sy_pl0 {post : Int32 → SY → Prop} {i : Nat} (hi : i < 64) {l tp : Int32} {t am ae ad ap aj ac ay ak : Nat → Int32} (h2 : ¬ t i = 2) (h3 : ¬ t i = 3) (h4 : ¬ t i = 4) (h5 : ¬ t i = 5) (h6 : ¬ t i = 6) (h : post 0 (l, tp, t, am, ae, ad, ap, aj, ac, ay, ak)) : wpY_plain post (l, tp, t, am, ae, ad, ap, aj, ac, ay, ak) (nI i) :=
  have k : (nI i).toNatClampNeg = i := sx_cl (by omega)
  ⟨sx_v64 hi, nm_r (e' := t i) (by rw [k]) (br_f h2 (br_f h3 (br_f h4 (br_f h5 (br_f h6 h)))))⟩
def sm_cv (t : Nat → Int32) (j : Nat) : Int32 := if sm_C t j then 1 else 0
def sm_g (v : Nat → Int32) (i j : Nat) : Int32 := if j < i then v j else 0
theorem sm_gk {v : Nat → Int32} {i : Nat} (h : v i = 0) : sm_g v (i + 1) = sm_g v i := by
  funext j
  unfold sm_g
  by_cases e : j = i
  · rw [e, if_pos (by omega), if_neg (by omega), h]
  · by_cases q : j < i
    · rw [if_pos q, if_pos (by omega)]
    · rw [if_neg q, if_neg (by omega)]
theorem sm_gs {v : Nat → Int32} {i : Nat} {x : Int32} (h : v i = x) : sm_g v (i + 1) = upd (sm_g v i) i x := by
  funext j
  unfold sm_g
  by_cases e : j = i
  · rw [e, sm_us, if_pos (by omega), h]
  · rw [sm_un e]
    by_cases q : j < i
    · rw [if_pos q, if_pos (by omega)]
    · rw [if_neg q, if_neg (by omega)]
def sm_YD (t : Nat → Int32) (i : Nat) (tp : Int32) (am ae ad ap aj ac ay ak : Nat → Int32) : Prop :=
  tp = nI (sm_T t i) ∧ (∀ j, j < i + 1 → am j = sm_M t j) ∧ (∀ j, j < i + 1 → ae j = sm_E t j) ∧ (∀ j, j < i + 1 → ad j = nI (sm_T t j)) ∧
  (∀ j, j < 64 → ap j = sm_PA t i j) ∧ (∀ j, j < 64 → aj j = sm_g (sm_jv t) i j) ∧ (∀ j, j < 64 → ac j = sm_g (sm_cv t) i j) ∧ (∀ j, j < 64 → ay j = sm_g (sm_yv t) i j) ∧
  (∀ m, m < sm_T t i → ak m = nI (sm_K t i m))
def sm_YI (t : Nat → Int32) (i : Nat) (x2 x3 tp : Int32) (am ae ad ap aj ac ay ak : Nat → Int32) : Prop :=
  x2 = sm_M t i ∧ x3 = sm_E t i ∧ tp = nI (sm_T t i) ∧ (∀ j, j < i → am j = sm_M t j) ∧ (∀ j, j < i → ae j = sm_E t j) ∧ (∀ j, j < i → ad j = nI (sm_T t j)) ∧
  (∀ j, j < 64 → ap j = sm_PA t i j) ∧ (∀ j, j < 64 → aj j = sm_g (sm_jv t) i j) ∧ (∀ j, j < 64 → ac j = sm_g (sm_cv t) i j) ∧ (∀ j, j < 64 → ay j = sm_g (sm_yv t) i j) ∧
  (∀ m, m < sm_T t i → ak m = nI (sm_K t i m))
theorem sy_xd {t : Nat → Int32} {i : Nat} {tp : Int32} {am ae ad ap aj ac ay ak : Nat → Int32} {x2 x3 : Int32} (I : sm_YD t i tp am ae ad ap aj ac ay ak) (nJ : ¬ sm_J t i) (nC : ¬ sm_C t i) (A : x2 = sm_M t (i + 1)) (B : x3 = sm_E t (i + 1)) : sm_YI t (i + 1) x2 x3 tp am ae ad ap aj ac ay ak := by
  obtain ⟨hT, hm, he, hd, hp, hj, hc, hy, hk⟩ := I
  have nD : ¬ sm_D t i := fun z => nC z.1
  exact ⟨A, B, by rw [sm_Tn nJ nC]; exact hT, hm, he, hd, by rw [sm_PAn nD]; exact hp, by rw [sm_gk (by rw [sm_jv, if_neg nJ])]; exact hj, by rw [sm_gk (by rw [sm_cv, if_neg nC])]; exact hc, by rw [sm_gk (by rw [sm_yv, if_neg (fun z => nC z.1)])]; exact hy, by rw [sm_Tn nJ nC, sm_Kn nJ]; exact hk⟩
theorem sy_xJ {t : Nat → Int32} {i : Nat} {tp : Int32} {am ae ad ap aj ac ay ak : Nat → Int32} (I : sm_YD t i tp am ae ad ap aj ac ay ak) (J : sm_J t i) : sm_YI t (i + 1) 0 0 (nI (sm_T t i + 1)) am ae ad ap (upd aj i 1) ac ay (upd ak (sm_T t i) (nI i)) := by
  obtain ⟨hT, hm, he, hd, hp, hj, hc, hy, hk⟩ := I
  have nC := sm_JC J
  have nD : ¬ sm_D t i := fun z => nC z.1
  have z := sm_s_pl J.1 J.2.1
  refine ⟨by rw [z.1, J.2.2]; decide, by rw [z.2, J.2.2]; decide, by rw [sm_TJ J], hm, he, hd, by rw [sm_PAn nD]; exact hp, by rw [sm_gs (x := 1) (by rw [sm_jv, if_pos J])]; exact sx_lu hj, by rw [sm_gk (by rw [sm_cv, if_neg nC])]; exact hc, by rw [sm_gk (by rw [sm_yv, if_neg (fun z => nC z.1)])]; exact hy, fun m hm => ?_⟩
  rw [sm_TJ J] at hm
  rw [sm_KJ J]
  by_cases e : m = sm_T t i
  · rw [e, sm_us, if_pos rfl]
  · rw [sm_un e, if_neg e]; exact hk m (by omega)
theorem sy_xS {t : Nat → Int32} {i : Nat} {tp : Int32} {am ae ad ap aj ac ay ak : Nat → Int32} (I : sm_YD t i tp am ae ad ap aj ac ay ak) (C : sm_C t i) (T0 : sm_T t i = 0) : sm_YI t (i + 1) 0 0 tp am ae ad ap aj (upd ac i 1) (upd ay i 1) ak := by
  obtain ⟨hT, hm, he, hd, hp, hj, hc, hy, hk⟩ := I
  have nJ : ¬ sm_J t i := fun z => sm_JC z C
  have nD : ¬ sm_D t i := fun z => z.2 T0
  have z := sm_s_pl C.1 C.2.1
  refine ⟨by rw [z.1, C.2.2]; decide, by rw [z.2, C.2.2]; decide, by rw [sm_TC C, hT, T0], hm, he, hd, by rw [sm_PAn nD]; exact hp, by rw [sm_gk (by rw [sm_jv, if_neg nJ])]; exact hj, by rw [sm_gs (x := 1) (by rw [sm_cv, if_pos C])]; exact sx_lu hc, by rw [sm_gs (x := 1) (by rw [sm_yv, if_pos ⟨C, T0⟩])]; exact sx_lu hy, fun m hm => ?_⟩
  rw [sm_TC C, T0] at hm
  omega
theorem sy_xD {t : Nat → Int32} {i : Nat} {tp : Int32} {am ae ad ap aj ac ay ak : Nat → Int32} (I : sm_YD t i tp am ae ad ap aj ac ay ak) (D : sm_D t i) : sm_YI t (i + 1) 0 0 (nI (sm_T t i - 1)) am ae ad (upd (upd ap i (nI (sm_o t i))) (sm_o t i) (nI i)) aj (upd ac i 1) ay ak := by
  obtain ⟨hT, hm, he, hd, hp, hj, hc, hy, hk⟩ := I
  have C := D.1
  have T0 := D.2
  have o := (sm_oJ D.2).1
  have nJ : ¬ sm_J t i := fun z => sm_JC z C
  have z := sm_s_pl C.1 C.2.1
  refine ⟨by rw [z.1, C.2.2]; decide, by rw [z.2, C.2.2]; decide, by rw [sm_TC C], hm, he, hd, ?_, by rw [sm_gk (by rw [sm_jv, if_neg nJ])]; exact hj, by rw [sm_gs (x := 1) (by rw [sm_cv, if_pos C])]; exact sx_lu hc, by rw [sm_gk (by rw [sm_yv, if_neg (fun z => T0 z.2)])]; exact hy, fun m hm => ?_⟩
  · intro j h
    rw [sm_PAD D]
    by_cases e : j = sm_o t i
    · rw [e, sm_us, sm_un (by omega), sm_us]
    · rw [sm_un e]
      by_cases e2 : j = i
      · rw [e2, sm_us, sm_us]
      · rw [sm_un e2, sm_un e2, sm_un e]; exact hp j h
  · rw [sm_TC C] at hm
    rw [sm_Kn nJ]
    exact hk m (by omega)
theorem sy_nE {x : Int32} (h : x = 0 ∨ x = 1) : vp_nar .boolean x = x := by
  rcases h with h | h
  · rw [h]; rfl
  · rw [h]; rfl
theorem sy_loop {post : SY → Prop} {g : Nat} (hg : g ≤ 64) {l : Int32} {t : Nat → Int32}
    (H : ∀ (tp : Int32) (am ae ad ap aj ac ay ak : Nat → Int32), sm_YD t g tp am ae ad ap aj ac ay ak → post (l, tp, t, am, ae, ad, ap, aj, ac, ay, ak)) :
    ∀ (d i : Nat) (x2 x3 tp : Int32) (am ae ad ap aj ac ay ak : Nat → Int32), i ≤ g → g + 2 ≤ d + i → sm_YI t i x2 x3 tp am ae ad ap aj ac ay ak → wY_read_60 post (nI g) d x2 x3 (nI i) l tp t am ae ad ap aj ac ay ak := by
  intro d
  induction d with
  | zero => intro i x2 x3 tp am ae ad ap aj ac ay ak h1 h2; omega
  | succ d ih =>
    intro i x2 x3 tp am ae ad ap aj ac ay ak hi hd I
    obtain ⟨h2, h3, hT, hm, he, hdd, hp, hj, hc, hy, hk⟩ := I
    have k : (nI i).toNatClampNeg = i := sx_cl (by omega)
    have v := sx_v65 (i := i) (by omega)
    have D : sm_YD t i tp (upd am i x2) (upd ae i x3) (upd ad i tp) ap aj ac ay ak := ⟨hT, sx_ls hm h2, sx_ls he h3, sx_ls (f := fun j => nI (sm_T t j)) hdd hT, hp, hj, hc, hy, hk⟩
    have e01 : x3 = 0 ∨ x3 = 1 := by rw [h3]; exact sm_E01 t i
    refine br_f (nI_nlt hi (by omega)) (br_f (nI_nlt (b := i) (a := 64) (by omega) (by omega)) ⟨v, nm_r (e' := upd am i x2) (by rw [k]) ⟨v, nm_r (e' := upd ae i x3) (by rw [k, sy_nE e01]) ⟨v, nm_r (e' := upd ad i tp) (by rw [k]) ?_⟩⟩⟩)
    generalize upd am i x2 = am at D ⊢
    generalize upd ae i x3 = ae at D ⊢
    generalize upd ad i tp = ad at D ⊢
    by_cases q : i = g
    · subst q
      obtain ⟨d', rfl⟩ : ∃ d', d = d' + 1 := ⟨d - 1, by omega⟩
      exact br_t (nI_le (Nat.le_refl i) (by omega)) (nm_r (nI_1 i) (br_t (nI_lt (by omega) (by omega)) (H _ _ _ _ _ _ _ _ _ D)))
    · have hi' : i < 64 := by omega
      have go : ∀ (x2 x3 tp : Int32) (am ae ad ap aj ac ay ak : Nat → Int32), sm_YI t (i + 1) x2 x3 tp am ae ad ap aj ac ay ak → wY_read_60 post (nI g) d x2 x3 (nI (i + 1)) l tp t am ae ad ap aj ac ay ak := fun x2 x3 tp am ae ad ap aj ac ay ak X => ih (i + 1) x2 x3 tp am ae ad ap aj ac ay ak (by omega) (by omega) X
      clear ih
      refine br_f (nI_ge (by omega) (by omega)) (br_f (nI_ge (a := i) (b := 64) (by omega) (by omega)) ⟨sx_v64 hi', nm_r (e' := t i) (by rw [k]) ?_⟩)
      by_cases e : sm_E t i = 0
      · refine br_t (h3.trans e) ?_
        by_cases m0 : sm_M t i = 0
        · refine br_t (h2.trans m0) ?_
          have z := sm_s_pl e m0
          by_cases k2 : t i = 2
          · have hTi := sm_Tle t i
            exact sy_pl2 hi' (q := sm_T t i) (by omega) hT k2 (br_f (by decide) (br_t (by decide) (nm_r (nI_1 i) (go _ _ _ _ _ _ _ _ _ _ _ (sy_xJ D ⟨e, m0, k2⟩)))))
          · have nJ : ¬ sm_J t i := fun y => k2 y.2.2
            by_cases k3 : t i = 3
            · by_cases T0 : sm_T t i = 0
              · exact sy_pl3s hi' (by rw [hT, T0, nI_0]) k3 (br_f (by decide) (br_t (by decide) (nm_r (nI_1 i) (go _ _ _ _ _ _ _ _ _ _ _ (sy_xS D ⟨e, m0, k3⟩ T0)))))
              · have o := (sm_oJ T0).1
                have hTi := sm_Tle t i
                exact sy_pl3p hi' (q := sm_T t i - 1) (o := sm_o t i) (by omega) (by omega) (by rw [hT, Nat.sub_add_cancel (by omega)]) (hk _ (by omega)) k3 (br_f (by decide) (br_t (by decide) (nm_r (nI_1 i) (go _ _ _ _ _ _ _ _ _ _ _ (sy_xD D ⟨⟨e, m0, k3⟩, T0⟩)))))
            · have nC : ¬ sm_C t i := fun y => k3 y.2.2
              by_cases k4 : t i = 4
              · exact sy_pl4 hi' k4 (br_f (by decide) (br_f (by decide) (nm_r (e' := 1) (by decide) (nm_r (nI_1 i) (go _ _ _ _ _ _ _ _ _ _ _ (sy_xd D nJ nC (by rw [z.1, k4]; decide) (by rw [z.2, k4]; decide)))))))
              · by_cases k5 : t i = 5
                · exact sy_pl5 hi' k5 (br_t rfl (br_t (by decide) (nm_r (nI_1 i) (go _ _ _ _ _ _ _ _ _ _ _ (sy_xd D nJ nC (by rw [z.1, k5]; decide) (by rw [z.2, k5]; decide))))))
                · by_cases k6 : t i = 6
                  · exact sy_pl6 hi' k6 (br_f (by decide) (br_f (by decide) (nm_r (e' := 2) (by decide) (nm_r (nI_1 i) (go _ _ _ _ _ _ _ _ _ _ _ (sy_xd D nJ nC (by rw [z.1, k6]; decide) (by rw [z.2, k6]; decide)))))))
                  · exact sy_pl0 hi' k2 k3 k4 k5 k6 (br_f (by decide) (br_t (by decide) (nm_r (nI_1 i) (go _ _ _ _ _ _ _ _ _ _ _ (sy_xd D nJ nC (by rw [z.1, if_neg k4, if_neg k6]) (by rw [z.2, if_neg k5]))))))
        · refine br_f (by rw [h2]; exact m0) ?_
          have nJ : ¬ sm_J t i := fun y => m0 y.2.1
          have nC : ¬ sm_C t i := fun y => m0 y.2.1
          by_cases m1 : sm_M t i = 1
          · refine br_t (h2.trans m1) ?_
            have z := sm_s_st e m1
            by_cases k5 : t i = 5
            · exact br_t k5 (br_f (by rw [k5]; decide) (nm_r (nI_1 i) (go _ _ _ _ _ _ _ _ _ _ _ (sy_xd D nJ nC (by rw [z.1, k5, h2, m1]; decide) (by rw [z.2, k5]; decide)))))
            · refine br_f k5 ?_
              by_cases k4 : t i = 4
              · exact br_t k4 (nm_r (nI_1 i) (go _ _ _ _ _ _ _ _ _ _ _ (sy_xd D nJ nC (by rw [z.1, if_pos k4]) (by rw [z.2, if_neg k5]))))
              · exact br_f k4 (nm_r (nI_1 i) (go _ _ _ _ _ _ _ _ _ _ _ (sy_xd D nJ nC (by rw [z.1, if_neg k4, h2, m1]) (by rw [z.2, if_neg k5]))))
          · refine br_f (by rw [h2]; exact m1) ?_
            have z := sm_s_rm e m0 m1
            by_cases k7 : t i = 7
            · exact br_t k7 (nm_r (nI_1 i) (go _ _ _ _ _ _ _ _ _ _ _ (sy_xd D nJ nC (by rw [z.1, if_pos k7]) (by rw [z.2, h3, e]))))
            · exact br_f k7 (nm_r (nI_1 i) (go _ _ _ _ _ _ _ _ _ _ _ (sy_xd D nJ nC (by rw [z.1, if_neg k7, h2]) (by rw [z.2, h3, e]))))
      · have z := sm_s_esc e
        have nJ : ¬ sm_J t i := fun y => e y.1
        have nC : ¬ sm_C t i := fun y => e y.1
        exact br_f (by rw [h3]; exact e) (nm_r (nI_1 i) (go _ _ _ _ _ _ _ _ _ _ _ (sy_xd D nJ nC (by rw [z.1, h2]) z.2.symm)))
theorem sy_clear {post : SY → Prop} {g : Nat} (hg : g ≤ 64) {l : Int32} {t am ae ad ak : Nat → Int32}
    (H : ∀ (tp : Int32) (am ae ad ap aj ac ay ak : Nat → Int32), sm_YD t g tp am ae ad ap aj ac ay ak → post (l, tp, t, am, ae, ad, ap, aj, ac, ay, ak)) :
    ∀ (d i : Nat) (ap aj ac ay : Nat → Int32), i ≤ 64 → 64 < d + i → (∀ j, j < i → ap j = -1 ∧ aj j = 0 ∧ ac j = 0 ∧ ay j = 0) → wY_read_12 post (nI g) 0 0 l 0 d (nI i) t am ae ad ap aj ac ay ak := by
  intro d
  induction d with
  | zero => intro i ap aj ac ay h1 h2; omega
  | succ d ih =>
    intro i ap aj ac ay hi hd I
    by_cases q : i = 64
    · subst q
      refine br_t (nI_le (a := 64) (b := 64) (by omega) (by omega)) ⟨g + 2, ?_⟩
      refine sy_loop hg H (g + 2) 0 0 0 0 am ae ad ap aj ac ay ak (by omega) (by omega) ⟨rfl, rfl, rfl, fun j h => by omega, fun j h => by omega, fun j h => by omega, fun j h => (I j h).1, fun j h => ?_, fun j h => ?_, fun j h => ?_, fun m h => absurd h (Nat.not_lt_zero m)⟩
      · rw [sm_g, if_neg (by omega)]; exact (I j h).2.1
      · rw [sm_g, if_neg (by omega)]; exact (I j h).2.2.1
      · rw [sm_g, if_neg (by omega)]; exact (I j h).2.2.2
    · have hi' : i < 64 := by omega
      have v := sx_v64 hi'
      have k : (nI i).toNatClampNeg = i := sx_cl (by omega)
      refine br_f (nI_ge (a := i) (b := 64) (by omega) (by omega)) ⟨v, nm_r (e' := upd ap i (-1)) (by rw [k]) ⟨v, nm_r (e' := upd aj i 0) (by rw [k, sx_n0]) ⟨v, nm_r (e' := upd ac i 0) (by rw [k, sx_n0]) ⟨v, nm_r (e' := upd ay i 0) (by rw [k, sx_n0]) (nm_r (nI_1 i) (ih (i + 1) _ _ _ _ (by omega) (by omega) (fun j hj => ?_)))⟩⟩⟩⟩
      by_cases e : j = i
      · subst e; exact ⟨sm_us, sm_us, sm_us, sm_us⟩
      · rw [sm_un e, sm_un e, sm_un e, sm_un e]; exact I j (by omega)
theorem sy_read {post : SY → Prop} {g : Nat} (hg : g ≤ 64) {l tp : Int32} {t am ae ad ap aj ac ay ak : Nat → Int32}
    (H : ∀ (tp : Int32) (am ae ad ap aj ac ay ak : Nat → Int32), sm_YD t g tp am ae ad ap aj ac ay ak → post (l, tp, t, am, ae, ad, ap, aj, ac, ay, ak)) : wpY_read post (l, tp, t, am, ae, ad, ap, aj, ac, ay, ak) (nI g) :=
  ⟨65, sy_clear hg H 65 0 ap aj ac ay (by omega) (by omega) (fun j h => by omega)⟩
