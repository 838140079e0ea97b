/-! 06: one character read, and the loop over them. Written by wip/whole/gen06.py -/
def sm_XD (t : Nat → Int32) (n i : Nat) (fs fu fb : Int32) (am ae ad ai aj ay ap au ab : Nat → Int32) : Prop :=
  (∀ j, j ≤ i → am j = sm_M t j) ∧ am (i + 1) = sm_M t i ∧ (∀ j, j ≤ i → ae j = sm_E t j) ∧ ae (i + 1) = 0 ∧
  (∀ j, j ≤ i → ad j = nI (sm_T t j)) ∧ ad (i + 1) = nI (sm_T t i) ∧ (∀ j, j ≤ i → ai j = sm_I t j) ∧ ai (i + 1) = sm_I t i ∧
  (∀ j, j < i → aj j = sm_jv t j) ∧ aj i = 0 ∧ (∀ j, j < i → ay j = sm_yv t j) ∧ ay i = 0 ∧
  (∀ j, j < i + 1 → ap j = sm_PA t i j) ∧ (∀ j, j < i + 1 → au j = sm_SU t i j) ∧ (∀ j, j < i + 1 → ab j = sm_SB t i j) ∧
  fs = nI (sm_SC t i) ∧ fu = nI (sm_cn (sm_SU t i) n) ∧ (sm_M t i = 1 → fb = nI (sm_sb t i))
theorem sx_XD {t : Nat → Int32} {n i : Nat} {fs fu fb : Int32} {am ae ad ai aj ay ap au ab : Nat → Int32} (I : sm_XI t n i fs fu fb am ae ad ai aj ay ap au ab) : sm_XD t n i fs fu fb (upd am (i + 1) (am i)) (upd ae (i + 1) 0) (upd ad (i + 1) (ad i)) (upd ai (i + 1) (ai i)) (upd aj i 0) (upd ay i 0) (upd ap i (-1)) (upd au i (-1)) (upd ab i (-1)) := by
  obtain ⟨hm, he, hd, hi, hj, hy, hp, hu, hb, hfs, hfu, hfb⟩ := I
  have g := sm_SUge t i i (Nat.le_refl i)
  exact ⟨sx_gn hm, sm_us.trans (hm i (Nat.le_refl i)), sx_gn he, sm_us, sx_gn (f := fun j => nI (sm_T t j)) hd, sm_us.trans (hd i (Nat.le_refl i)), sx_gn hi, sm_us.trans (hi i (Nat.le_refl i)), sx_ln hj, sm_us, sx_ln hy, sm_us, sx_ls hp (sm_PAge t i i (Nat.le_refl i)).symm, sx_ls hu g.2.1.symm, sx_ls hb g.2.2.symm, hfs, hfu, hfb⟩
theorem sx_xd {t : Nat → Int32} {n i : Nat} {fs fu fb : Int32} {am ae ad ai aj ay ap au ab : Nat → Int32} {fb' : Int32} {am' ae' : Nat → Int32} (I : sm_XD t n i fs fu fb am ae ad ai aj ay ap au ab) (nJ : ¬ sm_J t i) (nC : ¬ sm_C t i) (nZ : ¬ sm_Z t i) (A : ∀ j, j ≤ i + 1 → am' j = sm_M t j) (B : ∀ j, j ≤ i + 1 → ae' j = sm_E t j) (F : sm_M t (i + 1) = 1 → fb' = nI (sm_sb t (i + 1))) : sm_XI t n (i + 1) fs fu fb' am' ae' ad ai aj ay ap au ab := by
  obtain ⟨hm, hm2, he, he2, hd, hd2, hi, hi2, hj, hj2, hy, hy2, hp, hu, hb, hfs, hfu, hfb⟩ := I
  have nD : ¬ sm_D t i := fun z => nC z.1
  have zS : sm_SC t (i + 1) = sm_SC t i := by rw [sm_SC, if_neg (fun z => nC z.1)]
  refine ⟨A, B, sx_gk (f := fun j => nI (sm_T t j)) hd (by rw [hd2, sm_Tn nJ nC]), sx_gk hi (by rw [hi2, sm_In nJ nD]), sx_lk hj (by rw [hj2, sm_jv, if_neg nJ]), sx_lk hy (by rw [hy2, sm_yv, if_neg (fun z => nC z.1)]), by rw [sm_PAn nD]; exact hp, by rw [sm_SUn nD nZ]; exact hu, by rw [sm_SBn nD nZ]; exact hb, by rw [zS]; exact hfs, by rw [sm_SUn nD nZ]; exact hfu, F⟩
theorem sx_xJ {t : Nat → Int32} {n i : Nat} {fs fu fb : Int32} {am ae ad ai aj ay ap au ab : Nat → Int32} (I : sm_XD t n i fs fu fb am ae ad ai aj ay ap au ab) (J : sm_J t i) : sm_XI t n (i + 1) fs fu fb am ae (upd ad (i + 1) (ad i + 1)) (upd ai (i + 1) (nI i)) (upd aj i 1) ay ap au ab := by
  obtain ⟨hm, hm2, he, he2, hd, hd2, hi, hi2, hj, hj2, hy, hy2, hp, hu, hb, hfs, hfu, hfb⟩ := I
  have nC := sm_JC J
  have nZ := sm_JZ J
  have nD : ¬ sm_D t i := fun z => nC z.1
  have zS : sm_SC t (i + 1) = sm_SC t i := by rw [sm_SC, if_neg (fun z => nC z.1)]
  have z := sm_s_pl J.1 J.2.1
  have zM : sm_M t (i + 1) = 0 := by rw [z.1, J.2.2]; decide
  have zE : sm_E t (i + 1) = 0 := by rw [z.2, J.2.2]; decide
  refine ⟨sx_gk hm (by rw [hm2, zM]; exact J.2.1), sx_gk he (by rw [he2, zE]), sx_gs (f := fun j => nI (sm_T t j)) hd (by rw [hd i (Nat.le_refl i), nI_1, sm_TJ J]), sx_gs hi (by rw [sm_IJ J]), sx_ls hj (by rw [sm_jv, if_pos J]), sx_lk hy (by rw [hy2, sm_yv, if_neg (fun z => nC z.1)]), by rw [sm_PAn nD]; exact hp, by rw [sm_SUn nD nZ]; exact hu, by rw [sm_SBn nD nZ]; exact hb, by rw [zS]; exact hfs, by rw [sm_SUn nD nZ]; exact hfu, fun q => absurd (zM.symm.trans q) (by decide)⟩
theorem sx_xS {t : Nat → Int32} {n i : Nat} {fs fu fb : Int32} {am ae ad ai aj ay ap au ab : Nat → Int32} (I : sm_XD t n i fs fu fb am ae ad ai aj ay ap au ab) (C : sm_C t i) (T0 : sm_T t i = 0) : sm_XI t n (i + 1) (fs + 1) fu fb am ae ad ai aj (upd ay i 1) ap au ab := by
  obtain ⟨hm, hm2, he, he2, hd, hd2, hi, hi2, hj, hj2, hy, hy2, hp, hu, hb, hfs, hfu, hfb⟩ := I
  have nJ : ¬ sm_J t i := fun z => sm_JC z C
  have nZ := sm_CZ C
  have nD : ¬ sm_D t i := fun z => z.2 T0
  have zS : sm_SC t (i + 1) = sm_SC t i + 1 := by rw [sm_SC, if_pos ⟨C, T0⟩]
  have z := sm_s_pl C.1 C.2.1
  have zM : sm_M t (i + 1) = 0 := by rw [z.1, C.2.2]; decide
  have zE : sm_E t (i + 1) = 0 := by rw [z.2, C.2.2]; decide
  refine ⟨sx_gk hm (by rw [hm2, zM]; exact C.2.1), sx_gk he (by rw [he2, zE]), sx_gk (f := fun j => nI (sm_T t j)) hd (by rw [hd2, sm_TC C, T0]), sx_gk hi (by rw [hi2, sm_In nJ nD]), sx_lk hj (by rw [hj2, sm_jv, if_neg nJ]), sx_ls hy (by rw [sm_yv, if_pos ⟨C, T0⟩]), by rw [sm_PAn nD]; exact hp, by rw [sm_SUn nD nZ]; exact hu, by rw [sm_SBn nD nZ]; exact hb, by rw [zS, hfs, nI_1], by rw [sm_SUn nD nZ]; exact hfu, fun q => absurd (zM.symm.trans q) (by decide)⟩
theorem sx_xD {t : Nat → Int32} {n i : Nat} {fs fu fb : Int32} {am ae ad ai aj ay ap au ab : Nat → Int32} (hn : n ≤ 64) (hin : i < n) (I : sm_XD t n i fs fu fb am ae ad ai aj ay ap au ab) (D : sm_D t i) : sm_XI t n (i + 1) fs (fu + 1) fb am ae (upd ad (i + 1) (ad i - 1)) (upd ai (i + 1) (ai (sm_o t i))) aj ay (upd (upd ap (sm_o t i) (nI i)) i (nI (sm_o t i))) (upd au (sm_o t i) (nI i)) (upd ab i (nI (sm_o t i))) := by
  obtain ⟨hm, hm2, he, he2, hd, hd2, hi, hi2, hj, hj2, hy, hy2, hp, hu, hb, hfs, hfu, hfb⟩ := I
  have C := D.1
  have T0 := D.2
  have nJ : ¬ sm_J t i := fun z => sm_JC z C
  have o := (sm_oJ D.2).1
  have zS : sm_SC t (i + 1) = sm_SC t i := by rw [sm_SC, if_neg (fun z => T0 z.2)]
  have z := sm_s_pl C.1 C.2.1
  have zM : sm_M t (i + 1) = 0 := by rw [z.1, C.2.2]; decide
  have zE : sm_E t (i + 1) = 0 := by rw [z.2, C.2.2]; decide
  have zd : nI (sm_T t i) - 1 = nI (sm_T t i - 1) := by
    obtain ⟨q, hq⟩ : ∃ q, sm_T t i = q + 1 := ⟨sm_T t i - 1, by omega⟩
    rw [hq, nI_pred]; rfl
  refine ⟨sx_gk hm (by rw [hm2, zM]; exact C.2.1), sx_gk he (by rw [he2, zE]), sx_gs (f := fun j => nI (sm_T t j)) hd (by rw [hd i (Nat.le_refl i), zd, sm_TC C]), sx_gs hi (by rw [sm_ID D]; exact hi _ (by omega)), sx_lk hj (by rw [hj2, sm_jv, if_neg nJ]), sx_lk hy (by rw [hy2, sm_yv, if_neg (fun z => T0 z.2)]), by rw [sm_PAD D]; exact sx_lu (sx_lu hp), by rw [sm_SUD D]; exact sx_lu hu, by rw [sm_SBD D]; exact sx_lu hb, by rw [zS]; exact hfs, by rw [sm_SUD D, sm_cnu (sm_SUo D) (sm_nn (by omega)) n (by omega), hfu, nI_1], fun q => absurd (zM.symm.trans q) (by decide)⟩
theorem sx_xZ {t : Nat → Int32} {n i : Nat} {fs fu fb : Int32} {am ae ad ai aj ay ap au ab : Nat → Int32} (hn : n ≤ 64) (hin : i < n) (I : sm_XD t n i fs fu fb am ae ad ai aj ay ap au ab) (Z : sm_Z t i) : sm_XI t n (i + 1) fs (fu + 1) fb (upd am (i + 1) 0) ae ad ai aj ay ap (upd au (sm_sb t i) (nI i)) (upd ab i (nI (sm_sb t i))) := by
  obtain ⟨hm, hm2, he, he2, hd, hd2, hi, hi2, hj, hj2, hy, hy2, hp, hu, hb, hfs, hfu, hfb⟩ := I
  have nJ : ¬ sm_J t i := fun z => sm_JZ z Z
  have nC : ¬ sm_C t i := fun z => sm_CZ z Z
  have nD : ¬ sm_D t i := fun z => nC z.1
  have o := (sm_SUge t i i (Nat.le_refl i)).1 Z.2.1
  have zS : sm_SC t (i + 1) = sm_SC t i := by rw [sm_SC, if_neg (fun z => nC z.1)]
  have z := sm_s_st Z.1 Z.2.1
  have zM : sm_M t (i + 1) = 0 := by rw [z.1, Z.2.2]; decide
  have zE : sm_E t (i + 1) = 0 := by rw [z.2, Z.2.2]; decide
  refine ⟨sx_gs hm (by rw [zM]), sx_gk he (by rw [he2, zE]), sx_gk (f := fun j => nI (sm_T t j)) hd (by rw [hd2, sm_Tn nJ nC]), sx_gk hi (by rw [hi2, sm_In nJ nD]), sx_lk hj (by rw [hj2, sm_jv, if_neg nJ]), sx_lk hy (by rw [hy2, sm_yv, if_neg (fun z => nC z.1)]), by rw [sm_PAn nD]; exact hp, by rw [sm_SUZ Z]; exact sx_lu hu, by rw [sm_SBZ Z]; exact sx_lu hb, by rw [zS]; exact hfs, by rw [sm_SUZ Z, sm_cnu ((sm_str t i (by omega)).1 Z.2.1) (sm_nn (by omega)) n (by omega), hfu, nI_1], fun q => absurd (zM.symm.trans q) (by decide)⟩
theorem sx_loop {post : SX → Prop} {n : Nat} (hn : n ≤ 64) {c : Int32} {t : Nat → Int32} (hc : c = nI n)
    (H : ∀ (fs fu fb : Int32) (am ae ad ai aj ay ap au ab : Nat → Int32), sm_XR t n fs fu am ae ad ai aj ay ap au ab → post (c, fs, fu, fb, t, am, ae, ad, ai, aj, ay, ap, au, ab)) :
    ∀ (d i : Nat) (fs fu fb : Int32) (am ae ad ai aj ay ap au ab : Nat → Int32), i ≤ n → n - i < d → sm_XI t n i fs fu fb am ae ad ai aj ay ap au ab → wX_readText_6 post d (nI i) c fs fu fb t am ae ad ai aj ay ap au ab := by
  intro d
  induction d with
  | zero => intro i fs fu fb am ae ad ai aj ay ap au ab _ h; omega
  | succ d ih =>
    intro i fs fu fb am ae ad ai aj ay ap au ab hi hd I
    by_cases q : i = n
    · subst q
      obtain ⟨hm, he, hd, hin, hj, hy, hp, hu, hb, hfs, hfu, hfb⟩ := I
      refine br_t (by rw [hc]; exact nI_le (Nat.le_refl i) (by omega)) ⟨i + 1, ?_⟩
      exact sx_words hn hc hm he (fun fu' au' ab' F => H fs fu' fb am ae ad ai aj ay ap au' ab' ⟨hm, he, hd, hin, hj, hy, hp, F.1, F.2.1, hfs, F.2.2⟩) (i + 1) 0 fu au ab (by omega) (by omega) ⟨hu, hb, hfu⟩
    · have hi' : i < 64 := by omega
      have k : (nI i).toNatClampNeg = i := sx_cl (by omega)
      have v := sx_v65 (i := i) (by omega)
      have D := sx_XD I
      refine br_f (by rw [hc]; exact nI_ge (by omega) (by omega)) (sx_forget hi' (sx_carry hi' ⟨v, ?_⟩))
      generalize upd am (i + 1) (am i) = am at D ⊢
      generalize upd ae (i + 1) 0 = ae at D ⊢
      generalize upd ad (i + 1) (ad i) = ad at D ⊢
      generalize upd ai (i + 1) (ai i) = ai at D ⊢
      generalize upd aj i 0 = aj at D ⊢
      generalize upd ay i 0 = ay at D ⊢
      generalize upd ap i (-1) = ap at D ⊢
      generalize upd au i (-1) = au at D ⊢
      generalize upd ab i (-1) = ab at D ⊢
      have D0 := D
      obtain ⟨hm, hm2, he, he2, hdp, hd2, hin, hin2, hj, hj2, hy, hy2, hp, hu, hb, hfs, hfu, hfb⟩ := D0
      have go : ∀ (fs fu fb : Int32) (am ae ad ai aj ay ap au ab : Nat → Int32), sm_XI t n (i + 1) fs fu fb am ae ad ai aj ay ap au ab → wX_readText_6 post d (nI (i + 1)) c fs fu fb t am ae ad ai aj ay ap au ab := fun fs fu fb am ae ad ai aj ay ap au ab X => ih (i + 1) fs fu fb am ae ad ai aj ay ap au ab (by omega) (by omega) X
      clear ih
      have hmi := hm i (Nat.le_refl i)
      have hei := he i (Nat.le_refl i)
      have hii := hin i (Nat.le_refl i)
      by_cases e : sm_E t i = 0
      · refine br_t (by rw [k, hei]; exact e) ⟨v, ?_⟩
        by_cases m0 : sm_M t i = 0
        · refine br_t (by rw [k, hmi]; exact m0) ?_
          have z := sm_s_pl e m0
          have nZ : ¬ sm_Z t i := fun y => absurd (m0.symm.trans y.2.1) (by decide)
          by_cases h2 : t i = 2
          · exact sx_pl2 hi' h2 (nm_r (nI_1 i) (go _ _ _ _ _ _ _ _ _ _ _ _ (sx_xJ D ⟨e, m0, h2⟩)))
          · have nJ : ¬ sm_J t i := fun y => h2 y.2.2
            by_cases h3 : t i = 3
            · by_cases T0 : sm_T t i = 0
              · exact sx_pl3s hi' h3 (by rw [hii, sm_I, if_pos T0]) (nm_r (nI_1 i) (go _ _ _ _ _ _ _ _ _ _ _ _ (sx_xS D ⟨e, m0, h3⟩ T0)))
              · have o := (sm_oJ T0).1
                exact sx_pl3p hi' (o := sm_o t i) (by omega) h3 (by rw [hii, sm_I, if_neg T0]) (nm_r (nI_1 i) (go _ _ _ _ _ _ _ _ _ _ _ _ (sx_xD hn (by omega) D ⟨⟨e, m0, h3⟩, T0⟩)))
            · have nC : ¬ sm_C t i := fun y => h3 y.2.2
              by_cases h4 : t i = 4
              · have zM : sm_M t (i + 1) = 1 := by rw [z.1, h4]; decide
                have zE : sm_E t (i + 1) = 0 := by rw [z.2, h4]; decide
                exact sx_pl4 hi' h4 (nm_r (nI_1 i) (go _ _ _ _ _ _ _ _ _ _ _ _ (sx_xd D nJ nC nZ (sx_gs hm zM.symm) (sx_gk he (he2.trans zE.symm)) (fun _ => by rw [sm_sbO ⟨e, m0, h4⟩]))))
              · have nO : ¬ sm_O t i := fun y => h4 y.2.2
                by_cases h5 : t i = 5
                · have zM : sm_M t (i + 1) = 0 := by rw [z.1, h5]; decide
                  have zE : sm_E t (i + 1) = 1 := by rw [z.2, h5]; decide
                  exact sx_pl5 hi' h5 (nm_r (nI_1 i) (go _ _ _ _ _ _ _ _ _ _ _ _ (sx_xd D nJ nC nZ (sx_gk hm (by rw [hm2, zM, m0])) (sx_gs he zE.symm) (fun y => absurd (zM.symm.trans y) (by decide)))))
                · by_cases h6 : t i = 6
                  · have zM : sm_M t (i + 1) = 2 := by rw [z.1, h6]; decide
                    have zE : sm_E t (i + 1) = 0 := by rw [z.2, h6]; decide
                    exact sx_pl6 hi' h6 (nm_r (nI_1 i) (go _ _ _ _ _ _ _ _ _ _ _ _ (sx_xd D nJ nC nZ (sx_gs hm zM.symm) (sx_gk he (he2.trans zE.symm)) (fun y => absurd (zM.symm.trans y) (by decide)))))
                  · have zM : sm_M t (i + 1) = 0 := by rw [z.1, if_neg h4, if_neg h6]
                    have zE : sm_E t (i + 1) = 0 := by rw [z.2, if_neg h5]
                    exact sx_pl0 hi' h2 h3 h4 h5 h6 (nm_r (nI_1 i) (go _ _ _ _ _ _ _ _ _ _ _ _ (sx_xd D nJ nC nZ (sx_gk hm (by rw [hm2, zM, m0])) (sx_gk he (he2.trans zE.symm)) (fun y => absurd (zM.symm.trans y) (by decide)))))
        · refine br_f (by rw [k, hmi]; exact m0) ⟨v, ?_⟩
          have nJ : ¬ sm_J t i := fun y => m0 y.2.1
          have nC : ¬ sm_C t i := fun y => m0 y.2.1
          have nO : ¬ sm_O t i := fun y => m0 y.2.1
          by_cases m1 : sm_M t i = 1
          · refine br_t (by rw [k, hmi]; exact m1) ?_
            have z := sm_s_st e m1
            by_cases h4 : t i = 4
            · have o := (sm_SUge t i i (Nat.le_refl i)).1 m1
              exact sx_st4 hi' (b := sm_sb t i) (by omega) (hfb m1) h4 (nm_r (nI_1 i) (go _ _ _ _ _ _ _ _ _ _ _ _ (sx_xZ hn (by omega) D ⟨e, m1, h4⟩)))
            · have nZ : ¬ sm_Z t i := fun y => h4 y.2.2
              have zM : sm_M t (i + 1) = 1 := by rw [z.1, if_neg h4]
              by_cases h5 : t i = 5
              · have zE : sm_E t (i + 1) = 1 := by rw [z.2, h5]; decide
                exact sx_st5 hi' h5 (nm_r (nI_1 i) (go _ _ _ _ _ _ _ _ _ _ _ _ (sx_xd D nJ nC nZ (sx_gk hm (by rw [hm2, zM, m1])) (sx_gs he zE.symm) (fun _ => by rw [sm_sbn nO]; exact hfb m1))))
              · have zE : sm_E t (i + 1) = 0 := by rw [z.2, if_neg h5]
                exact sx_st0 hi' h4 h5 (nm_r (nI_1 i) (go _ _ _ _ _ _ _ _ _ _ _ _ (sx_xd D nJ nC nZ (sx_gk hm (by rw [hm2, zM, m1])) (sx_gk he (he2.trans zE.symm)) (fun _ => by rw [sm_sbn nO]; exact hfb m1))))
          · refine br_f (by rw [k, hmi]; exact m1) ?_
            have nZ : ¬ sm_Z t i := fun y => m1 y.2.1
            have z := sm_s_rm e m0 m1
            by_cases h7 : t i = 7
            · have zM : sm_M t (i + 1) = 0 := by rw [z.1, if_pos h7]
              exact sx_rm7 hi' h7 (nm_r (nI_1 i) (go _ _ _ _ _ _ _ _ _ _ _ _ (sx_xd D nJ nC nZ (sx_gs hm zM.symm) (sx_gk he (he2.trans z.2.symm)) (fun y => absurd (zM.symm.trans y) (by decide)))))
            · have zM : sm_M t (i + 1) = sm_M t i := by rw [z.1, if_neg h7]
              exact sx_rm0 hi' h7 (nm_r (nI_1 i) (go _ _ _ _ _ _ _ _ _ _ _ _ (sx_xd D nJ nC nZ (sx_gk hm (hm2.trans zM.symm)) (sx_gk he (he2.trans z.2.symm)) (fun y => absurd (zM.symm.trans y) m1))))
      · have z := sm_s_esc e
        have nJ : ¬ sm_J t i := fun y => e y.1
        have nC : ¬ sm_C t i := fun y => e y.1
        have nO : ¬ sm_O t i := fun y => e y.1
        have nZ : ¬ sm_Z t i := fun y => e y.1
        exact br_f (by rw [k, hei]; exact e) (nm_r (nI_1 i) (go _ _ _ _ _ _ _ _ _ _ _ _ (sx_xd D nJ nC nZ (sx_gk hm (hm2.trans z.1.symm)) (sx_gk he (he2.trans z.2.symm)) (fun y => by rw [sm_sbn nO]; exact hfb (z.1.symm.trans y)))))
theorem sx_read {post : SX → Prop} {n : Nat} (hn : n ≤ 64) {c fs fu fb : Int32} {t am ae ad ai aj ay ap au ab : Nat → Int32} (hc : c = nI n)
    (H : ∀ (fs fu fb : Int32) (am ae ad ai aj ay ap au ab : Nat → Int32), sm_XR t n fs fu am ae ad ai aj ay ap au ab → post (c, fs, fu, fb, t, am, ae, ad, ai, aj, ay, ap, au, ab)) : wpX_readText post (c, fs, fu, fb, t, am, ae, ad, ai, aj, ay, ap, au, ab) := by
  unfold wpX_readText
  refine sx_start ?_
  refine ⟨n + 1, ?_⟩
  refine sx_loop hn hc H (n + 1) 0 _ _ _ _ _ _ _ _ _ _ _ _ (by omega) (by omega) ⟨fun j hj => ?_, fun j hj => ?_, fun j hj => ?_, fun j hj => ?_, fun j hj => ?_, fun j hj => ?_, fun j hj => ?_, fun j hj => ?_, fun j hj => ?_, rfl, ?_, fun z => absurd (show (0 : Int32) = 1 from z) (by decide)⟩
  · have : j = 0 := by omega
    subst this; rfl
  · have : j = 0 := by omega
    subst this; rfl
  · have : j = 0 := by omega
    subst this; rfl
  · have : j = 0 := by omega
    subst this; rfl
  · omega
  · omega
  · omega
  · omega
  · omega
  · rw [sm_cn1 (U := sm_SU t 0) n (fun j _ => rfl), nI_0]
