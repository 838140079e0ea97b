/-! 12: each method on both sides, from the relation taken apart. Written by wip/whole/gen12.py -/
theorem sm_rel {k n : Nat} (hn : n ≤ 64) {fs fu fb : Int32} {t am ae ad ai aj ay ap au ab : Nat → Int32} {tp : Int32} {bm be bd bp bj bc by_ bk : Nat → Int32} (X : sm_XR t n fs fu am ae ad ai aj ay ap au ab) : i_Rel k (nI n, fs, fu, fb, t, am, ae, ad, ai, aj, ay, ap, au, ab) (nI n, tp, t, bm, be, bd, bp, bj, bc, by_, bk) := ⟨rfl, rfl, n, hn, rfl, X⟩
theorem sm_upv {t : Nat → Int32} {g : Nat} (hg : g ≤ 64) : (if sm_T t g = 0 then (-2 : Int32) else nI (sm_o t g)) = if sm_I t g = -1 then -2 else sm_I t g := by
  unfold sm_I
  by_cases z : sm_T t g = 0
  · rw [if_pos z, if_pos z, if_pos rfl]
  · have o := (sm_oJ z).1
    rw [if_neg z, if_neg z, if_neg (sm_nn (by omega))]
theorem sx_length {post : Int32 → Prop} {n : Nat} {fs fu fb : Int32} {t am ae ad ai aj ay ap au ab : Nat → Int32} (h : post (nI n)) : wpX_length post (nI n, fs, fu, fb, t, am, ae, ad, ai, aj, ay, ap, au, ab) := h
theorem sy_length {post : Int32 → Prop} {n : Nat} {tp : Int32} {t bm be bd bp bj bc by_ bk : Nat → Int32} (h : post (nI n)) : wpY_length post (nI n, tp, t, bm, be, bd, bp, bj, bc, by_, bk) := h
theorem sx_strays {post : Int32 → Prop} {n : Nat} {fs fu fb : Int32} {t am ae ad ai aj ay ap au ab : Nat → Int32} (h : post fs) : wpX_strays post (nI n, fs, fu, fb, t, am, ae, ad, ai, aj, ay, ap, au, ab) := h
theorem sx_units {post : Int32 → Prop} {n : Nat} {fs fu fb : Int32} {t am ae ad ai aj ay ap au ab : Nat → Int32} (h : post fu) : wpX_units post (nI n, fs, fu, fb, t, am, ae, ad, ai, aj, ay, ap, au, ab) := h
theorem sy_strays {post : Int32 → SY → Prop} {n : Nat} (hn : n ≤ 64) {tp : Int32} {t bm be bd bp bj bc by_ bk : Nat → Int32} (h : ∀ (tp : Int32) (bm be bd bp bj bc by_ bk : Nat → Int32), post (nI (sm_SC t n)) (nI n, tp, t, bm, be, bd, bp, bj, bc, by_, bk)) : wpY_strays post (nI n, tp, t, bm, be, bd, bp, bj, bc, by_, bk) := by
  unfold wpY_strays
  refine sy_read hn ?_
  intro tp bm be bd bp bj bc by_ bk Y
  have z := sy_st hn Y (h tp bm be bd bp bj bc by_ bk) 64 0 rfl
  rw [show min 0 n = 0 by omega] at z
  exact ⟨65, z⟩
theorem sy_units {post : Int32 → SY → Prop} {n : Nat} (hn : n ≤ 64) {tp : Int32} {t bm be bd bp bj bc by_ bk : Nat → Int32} (h : ∀ (tp : Int32) (bm be bd bp bj bc by_ bk : Nat → Int32), post (nI (sm_cn (sm_FU t n n) n)) (nI n, tp, t, bm, be, bd, bp, bj, bc, by_, bk)) : wpY_units post (nI n, tp, t, bm, be, bd, bp, bj, bc, by_, bk) := by
  unfold wpY_units
  refine sy_read hn ?_
  intro tp bm be bd bp bj bc by_ bk Y
  have z := sy_un hn Y (h tp bm be bd bp bj bc by_ bk) n 0 (by omega)
  exact ⟨n + 1, z⟩
theorem sx_forward1 {post : Int32 → Prop} {n g : Nat} (hn : n ≤ 64) (hg : g ≤ n) {fs fu fb : Int32} {t am ae ad ai aj ay ap au ab : Nat → Int32} (d : Nat) (h : wX_forward_12 post (nI n) fs fu fb t am ae ad ai aj ay ap au ab d (nI g)) : wpX_forward post (nI n, fs, fu, fb, t, am, ae, ad, ai, aj, ay, ap, au, ab) (nI g) := by
  unfold wpX_forward
  exact sx_g1 hn hg (br_f (by decide) ⟨d, h⟩)
theorem sy_forward1 {post : Int32 → SY → Prop} {n g : Nat} (hn : n ≤ 64) (hg : g ≤ n) {tp : Int32} {t bm be bd bp bj bc by_ bk : Nat → Int32} (d : Nat) (h : ∀ (tp : Int32) (bm be bd bp bj bc by_ bk : Nat → Int32), sm_YD t n tp bm be bd bp bj bc by_ bk → wY_forward_20 post (nI n) tp t bm be bd bp bj bc by_ bk d (nI g)) : wpY_forward post (nI n, tp, t, bm, be, bd, bp, bj, bc, by_, bk) (nI g) := by
  unfold wpY_forward
  refine sy_g1 hn hg (br_t rfl (sy_read hn ?_))
  intro tp bm be bd bp bj bc by_ bk Y
  exact ⟨d, h _ _ _ _ _ _ _ _ _ Y⟩
theorem sx_backward1 {post : Int32 → Prop} {n g : Nat} (hn : n ≤ 64) (hg : g ≤ n) {fs fu fb : Int32} {t am ae ad ai aj ay ap au ab : Nat → Int32} (d : Nat) (h : wX_backward_14 post (nI g) (nI n) fs fu fb t am ae ad ai aj ay ap au ab d (nI g + (-1))) : wpX_backward post (nI n, fs, fu, fb, t, am, ae, ad, ai, aj, ay, ap, au, ab) (nI g) := by
  unfold wpX_backward
  exact sx_g1 hn hg (br_f (by decide) (nm_r (sx_s1 _) ⟨d, h⟩))
theorem sy_backward1 {post : Int32 → SY → Prop} {n g : Nat} (hn : n ≤ 64) (hg : g ≤ n) {tp : Int32} {t bm be bd bp bj bc by_ bk : Nat → Int32} (d : Nat) (h : ∀ (tp : Int32) (bm be bd bp bj bc by_ bk : Nat → Int32), sm_YD t n tp bm be bd bp bj bc by_ bk → wY_backward_22 post (nI g) (nI n) tp t bm be bd bp bj bc by_ bk d (nI g + (-1))) : wpY_backward post (nI n, tp, t, bm, be, bd, bp, bj, bc, by_, bk) (nI g) := by
  unfold wpY_backward
  refine sy_g1 hn hg (br_t rfl (sy_read hn ?_))
  intro tp bm be bd bp bj bc by_ bk Y
  exact nm_r (sx_s1 _) ⟨d, h _ _ _ _ _ _ _ _ _ Y⟩
theorem sx_down1 {post : Int32 → Prop} {n g : Nat} (hn : n ≤ 64) (hg : g ≤ n) {fs fu fb : Int32} {t am ae ad ai aj ay ap au ab : Nat → Int32} (d : Nat) (h : wX_down_14 post (nI n) fs fu fb t am ae ad ai aj ay ap au ab d 0 (nI g)) : wpX_down post (nI n, fs, fu, fb, t, am, ae, ad, ai, aj, ay, ap, au, ab) (nI g) := by
  unfold wpX_down
  exact sx_g1 hn hg (br_f (by decide) ⟨d, h⟩)
theorem sy_down1 {post : Int32 → SY → Prop} {n g : Nat} (hn : n ≤ 64) (hg : g ≤ n) {tp : Int32} {t bm be bd bp bj bc by_ bk : Nat → Int32} (d : Nat) (h : ∀ (tp : Int32) (bm be bd bp bj bc by_ bk : Nat → Int32), sm_YD t n tp bm be bd bp bj bc by_ bk → wY_down_22 post (nI n) tp t bm be bd bp bj bc by_ bk d 0 (nI g)) : wpY_down post (nI n, tp, t, bm, be, bd, bp, bj, bc, by_, bk) (nI g) := by
  unfold wpY_down
  refine sy_g1 hn hg (br_t rfl (sy_read hn ?_))
  intro tp bm be bd bp bj bc by_ bk Y
  exact ⟨d, h _ _ _ _ _ _ _ _ _ Y⟩
theorem sq_length {k n : Nat} (hn : n ≤ 64) {fs fu fb : Int32} {t am ae ad ai aj ay ap au ab : Nat → Int32} {tp : Int32} {bm be bd bp bj bc by_ bk : Nat → Int32} (X : sm_XR t n fs fu am ae ad ai aj ay ap au ab) : wpX_length (fun r => wpY_length (fun r' => r' = r ∧ i_Rel (k + 3) (nI n, fs, fu, fb, t, am, ae, ad, ai, aj, ay, ap, au, ab) (nI n, tp, t, bm, be, bd, bp, bj, bc, by_, bk)) (nI n, tp, t, bm, be, bd, bp, bj, bc, by_, bk) ) (nI n, fs, fu, fb, t, am, ae, ad, ai, aj, ay, ap, au, ab)  := by
  exact sx_length (sy_length ⟨rfl, sm_rel hn X⟩)
theorem sq_kindAt {k n : Nat} (hn : n ≤ 64) {fs fu fb : Int32} {t am ae ad ai aj ay ap au ab : Nat → Int32} {tp : Int32} {bm be bd bp bj bc by_ bk : Nat → Int32} (X : sm_XR t n fs fu am ae ad ai aj ay ap au ab) (v1 : Int32) : wpX_kindAt (fun r => wpY_kindAt (fun r' => r' = r ∧ i_Rel (k + 3) (nI n, fs, fu, fb, t, am, ae, ad, ai, aj, ay, ap, au, ab) (nI n, tp, t, bm, be, bd, bp, bj, bc, by_, bk)) (nI n, tp, t, bm, be, bd, bp, bj, bc, by_, bk) v1) (nI n, fs, fu, fb, t, am, ae, ad, ai, aj, ay, ap, au, ab) v1 := by
  rcases sm_pc v1 hn with ⟨g, hg, rfl⟩ | hb
  · exact sx_kindAt1 hn hg (sy_kindAt1 hn hg ⟨rfl, sm_rel hn X⟩)
  · exact sx_kindAt0 hb (sy_kindAt0 hb ⟨rfl, sm_rel hn X⟩)
theorem sq_mode {k n : Nat} (hn : n ≤ 64) {fs fu fb : Int32} {t am ae ad ai aj ay ap au ab : Nat → Int32} {tp : Int32} {bm be bd bp bj bc by_ bk : Nat → Int32} (X : sm_XR t n fs fu am ae ad ai aj ay ap au ab) (v1 : Int32) : wpX_mode (fun r => wpY_mode (fun r' v' => r' = r ∧ i_Rel (k + 3) (nI n, fs, fu, fb, t, am, ae, ad, ai, aj, ay, ap, au, ab) v') (nI n, tp, t, bm, be, bd, bp, bj, bc, by_, bk) v1) (nI n, fs, fu, fb, t, am, ae, ad, ai, aj, ay, ap, au, ab) v1 := by
  rcases sm_gc v1 hn with ⟨g, hg, rfl⟩ | hb
  · exact sx_mode1 hn hg (sy_mode1 hn hg (fun _ _ _ _ _ _ _ _ _ => ⟨(X.1 g hg).symm, sm_rel hn X⟩))
  · exact sx_mode0 hb (sy_mode0 hb ⟨rfl, sm_rel hn X⟩)
theorem sq_escaped {k n : Nat} (hn : n ≤ 64) {fs fu fb : Int32} {t am ae ad ai aj ay ap au ab : Nat → Int32} {tp : Int32} {bm be bd bp bj bc by_ bk : Nat → Int32} (X : sm_XR t n fs fu am ae ad ai aj ay ap au ab) (v1 : Int32) : wpX_escaped (fun r => wpY_escaped (fun r' v' => r' = r ∧ i_Rel (k + 3) (nI n, fs, fu, fb, t, am, ae, ad, ai, aj, ay, ap, au, ab) v') (nI n, tp, t, bm, be, bd, bp, bj, bc, by_, bk) v1) (nI n, fs, fu, fb, t, am, ae, ad, ai, aj, ay, ap, au, ab) v1 := by
  rcases sm_gc v1 hn with ⟨g, hg, rfl⟩ | hb
  · exact sx_escaped1 hn hg (sy_escaped1 hn hg (fun _ _ _ _ _ _ _ _ _ => ⟨by rw [X.2.1 g hg], sm_rel hn X⟩))
  · exact sx_escaped0 hb (sy_escaped0 hb ⟨rfl, sm_rel hn X⟩)
theorem sq_depth {k n : Nat} (hn : n ≤ 64) {fs fu fb : Int32} {t am ae ad ai aj ay ap au ab : Nat → Int32} {tp : Int32} {bm be bd bp bj bc by_ bk : Nat → Int32} (X : sm_XR t n fs fu am ae ad ai aj ay ap au ab) (v1 : Int32) : wpX_depth (fun r => wpY_depth (fun r' v' => r' = r ∧ i_Rel (k + 3) (nI n, fs, fu, fb, t, am, ae, ad, ai, aj, ay, ap, au, ab) v') (nI n, tp, t, bm, be, bd, bp, bj, bc, by_, bk) v1) (nI n, fs, fu, fb, t, am, ae, ad, ai, aj, ay, ap, au, ab) v1 := by
  rcases sm_gc v1 hn with ⟨g, hg, rfl⟩ | hb
  · exact sx_depth1 hn hg (sy_depth1 hn hg (fun _ _ _ _ _ _ _ _ _ => ⟨(X.2.2.1 g hg).symm, sm_rel hn X⟩))
  · exact sx_depth0 hb (sy_depth0 hb ⟨rfl, sm_rel hn X⟩)
theorem sq_up {k n : Nat} (hn : n ≤ 64) {fs fu fb : Int32} {t am ae ad ai aj ay ap au ab : Nat → Int32} {tp : Int32} {bm be bd bp bj bc by_ bk : Nat → Int32} (X : sm_XR t n fs fu am ae ad ai aj ay ap au ab) (v1 : Int32) : wpX_up (fun r => wpY_up (fun r' v' => r' = r ∧ i_Rel (k + 3) (nI n, fs, fu, fb, t, am, ae, ad, ai, aj, ay, ap, au, ab) v') (nI n, tp, t, bm, be, bd, bp, bj, bc, by_, bk) v1) (nI n, fs, fu, fb, t, am, ae, ad, ai, aj, ay, ap, au, ab) v1 := by
  rcases sm_gc v1 hn with ⟨g, hg, rfl⟩ | hb
  · exact sx_up1 hn hg (sy_up1 hn hg (fun _ _ _ _ _ _ _ _ _ => ⟨by rw [X.2.2.2.1 g hg]; exact sm_upv (by omega), sm_rel hn X⟩))
  · exact sx_up0 hb (sy_up0 hb ⟨rfl, sm_rel hn X⟩)
theorem sq_partner {k n : Nat} (hn : n ≤ 64) {fs fu fb : Int32} {t am ae ad ai aj ay ap au ab : Nat → Int32} {tp : Int32} {bm be bd bp bj bc by_ bk : Nat → Int32} (X : sm_XR t n fs fu am ae ad ai aj ay ap au ab) (v1 : Int32) : wpX_partner (fun r => wpY_partner (fun r' v' => r' = r ∧ i_Rel (k + 3) (nI n, fs, fu, fb, t, am, ae, ad, ai, aj, ay, ap, au, ab) v') (nI n, tp, t, bm, be, bd, bp, bj, bc, by_, bk) v1) (nI n, fs, fu, fb, t, am, ae, ad, ai, aj, ay, ap, au, ab) v1 := by
  rcases sm_pc v1 hn with ⟨g, hg, rfl⟩ | hb
  · exact sx_partner1 hn hg (sy_partner1 hn hg (fun _ _ _ _ _ _ _ _ _ => ⟨by rw [X.2.2.2.2.2.2.1 g hg], sm_rel hn X⟩))
  · exact sx_partner0 hb (sy_partner0 hb ⟨rfl, sm_rel hn X⟩)
theorem sq_bracketAt {k n : Nat} (hn : n ≤ 64) {fs fu fb : Int32} {t am ae ad ai aj ay ap au ab : Nat → Int32} {tp : Int32} {bm be bd bp bj bc by_ bk : Nat → Int32} (X : sm_XR t n fs fu am ae ad ai aj ay ap au ab) (v1 : Int32) (v2 : Int32) : wpX_bracketAt (fun r => wpY_bracketAt (fun r' v' => r' = r ∧ i_Rel (k + 3) (nI n, fs, fu, fb, t, am, ae, ad, ai, aj, ay, ap, au, ab) v') (nI n, tp, t, bm, be, bd, bp, bj, bc, by_, bk) v1 v2) (nI n, fs, fu, fb, t, am, ae, ad, ai, aj, ay, ap, au, ab) v1 v2 := by
  rcases sm_gc v1 hn with ⟨g, hg, rfl⟩ | hb
  · have hT := sm_Tle t g
    by_cases a : v2 < 0
    · exact sx_bracketAt2 hn hg X (Or.inl a) (sy_bracketAt2 hn hg (Or.inl a) (fun _ _ _ _ _ _ _ _ _ => ⟨rfl, sm_rel hn X⟩))
    · by_cases b : v2 < nI (sm_T t g)
      · obtain ⟨v, hv, rfl⟩ := nI_of a
        rw [nI_ltI hv (by omega)] at b
        exact sx_bracketAt1 hn hg X b (sy_bracketAt1 hn hg b (fun _ _ _ _ _ _ _ _ _ => ⟨rfl, sm_rel hn X⟩))
      · exact sx_bracketAt2 hn hg X (Or.inr ⟨a, b⟩) (sy_bracketAt2 hn hg (Or.inr ⟨a, b⟩) (fun _ _ _ _ _ _ _ _ _ => ⟨rfl, sm_rel hn X⟩))
  · exact sx_bracketAt0 hb (sy_bracketAt0 hb ⟨rfl, sm_rel hn X⟩)
theorem sq_strays {k n : Nat} (hn : n ≤ 64) {fs fu fb : Int32} {t am ae ad ai aj ay ap au ab : Nat → Int32} {tp : Int32} {bm be bd bp bj bc by_ bk : Nat → Int32} (X : sm_XR t n fs fu am ae ad ai aj ay ap au ab) : wpX_strays (fun r => wpY_strays (fun r' v' => r' = r ∧ i_Rel (k + 3) (nI n, fs, fu, fb, t, am, ae, ad, ai, aj, ay, ap, au, ab) v') (nI n, tp, t, bm, be, bd, bp, bj, bc, by_, bk) ) (nI n, fs, fu, fb, t, am, ae, ad, ai, aj, ay, ap, au, ab)  := by
  exact sx_strays (sy_strays hn (fun _ _ _ _ _ _ _ _ _ => ⟨X.2.2.2.2.2.2.2.2.2.1.symm, sm_rel hn X⟩))
theorem sq_units {k n : Nat} (hn : n ≤ 64) {fs fu fb : Int32} {t am ae ad ai aj ay ap au ab : Nat → Int32} {tp : Int32} {bm be bd bp bj bc by_ bk : Nat → Int32} (X : sm_XR t n fs fu am ae ad ai aj ay ap au ab) : wpX_units (fun r => wpY_units (fun r' v' => r' = r ∧ i_Rel (k + 3) (nI n, fs, fu, fb, t, am, ae, ad, ai, aj, ay, ap, au, ab) v') (nI n, tp, t, bm, be, bd, bp, bj, bc, by_, bk) ) (nI n, fs, fu, fb, t, am, ae, ad, ai, aj, ay, ap, au, ab)  := by
  exact sx_units (sy_units hn (fun _ _ _ _ _ _ _ _ _ => ⟨X.2.2.2.2.2.2.2.2.2.2.symm, sm_rel hn X⟩))
theorem sq_forward {k n : Nat} (hn : n ≤ 64) {fs fu fb : Int32} {t am ae ad ai aj ay ap au ab : Nat → Int32} {tp : Int32} {bm be bd bp bj bc by_ bk : Nat → Int32} (X : sm_XR t n fs fu am ae ad ai aj ay ap au ab) (v1 : Int32) : wpX_forward (fun r => wpY_forward (fun r' v' => r' = r ∧ i_Rel (k + 3) (nI n, fs, fu, fb, t, am, ae, ad, ai, aj, ay, ap, au, ab) v') (nI n, tp, t, bm, be, bd, bp, bj, bc, by_, bk) v1) (nI n, fs, fu, fb, t, am, ae, ad, ai, aj, ay, ap, au, ab) v1 := by
  rcases sm_gc v1 hn with ⟨g, hg, rfl⟩ | hb
  · obtain ⟨r, hX, hY⟩ := sm_fw hn X (n - g) g (by omega)
    exact sx_forward1 hn hg _ (hX _ (sy_forward1 hn hg _ (fun tp bm be bd bp bj bc by_ bk Y => hY _ tp bm be bd bp bj bc by_ bk Y ⟨rfl, sm_rel hn X⟩)))
  · exact sx_forward0 hb (sy_forward0 hb ⟨rfl, sm_rel hn X⟩)
theorem sq_backward {k n : Nat} (hn : n ≤ 64) {fs fu fb : Int32} {t am ae ad ai aj ay ap au ab : Nat → Int32} {tp : Int32} {bm be bd bp bj bc by_ bk : Nat → Int32} (X : sm_XR t n fs fu am ae ad ai aj ay ap au ab) (v1 : Int32) : wpX_backward (fun r => wpY_backward (fun r' v' => r' = r ∧ i_Rel (k + 3) (nI n, fs, fu, fb, t, am, ae, ad, ai, aj, ay, ap, au, ab) v') (nI n, tp, t, bm, be, bd, bp, bj, bc, by_, bk) v1) (nI n, fs, fu, fb, t, am, ae, ad, ai, aj, ay, ap, au, ab) v1 := by
  rcases sm_gc v1 hn with ⟨g, hg, rfl⟩ | hb
  · obtain ⟨r, hX, hY⟩ := sm_bw hn hg X g (Nat.le_refl g)
    exact sx_backward1 hn hg _ (hX _ (sy_backward1 hn hg _ (fun tp bm be bd bp bj bc by_ bk Y => hY _ tp bm be bd bp bj bc by_ bk Y ⟨rfl, sm_rel hn X⟩)))
  · exact sx_backward0 hb (sy_backward0 hb ⟨rfl, sm_rel hn X⟩)
theorem sq_down {k n : Nat} (hn : n ≤ 64) {fs fu fb : Int32} {t am ae ad ai aj ay ap au ab : Nat → Int32} {tp : Int32} {bm be bd bp bj bc by_ bk : Nat → Int32} (X : sm_XR t n fs fu am ae ad ai aj ay ap au ab) (v1 : Int32) : wpX_down (fun r => wpY_down (fun r' v' => r' = r ∧ i_Rel (k + 3) (nI n, fs, fu, fb, t, am, ae, ad, ai, aj, ay, ap, au, ab) v') (nI n, tp, t, bm, be, bd, bp, bj, bc, by_, bk) v1) (nI n, fs, fu, fb, t, am, ae, ad, ai, aj, ay, ap, au, ab) v1 := by
  rcases sm_gc v1 hn with ⟨g, hg, rfl⟩ | hb
  · obtain ⟨r, hX, hY⟩ := sm_dn hn X (n - g) g 0 (by omega) (Or.inl rfl)
    exact sx_down1 hn hg _ (hX _ (sy_down1 hn hg _ (fun tp bm be bd bp bj bc by_ bk Y => hY _ tp bm be bd bp bj bc by_ bk Y ⟨rfl, sm_rel hn X⟩)))
  · exact sx_down0 hb (sy_down0 hb ⟨rfl, sm_rel hn X⟩)
theorem sq_set {k n : Nat} (hn : n ≤ 64) {fs fu fb : Int32} {t am ae ad ai aj ay ap au ab : Nat → Int32} {tp : Int32} {bm be bd bp bj bc by_ bk : Nat → Int32} (X : sm_XR t n fs fu am ae ad ai aj ay ap au ab) (v1 : Int32) (v2 : Int32) : wpX_set (fun r u' => wpY_set (fun r' v' => r' = r ∧ i_Rel (k + 3) u' v') (nI n, tp, t, bm, be, bd, bp, bj, bc, by_, bk) v1 v2) (nI n, fs, fu, fb, t, am, ae, ad, ai, aj, ay, ap, au, ab) v1 v2 := by
  rcases sm_pc v1 hn with ⟨g, hg, rfl⟩ | hb
  · by_cases b : sm_bk0 v2
    · exact sx_set2 hn hg b (sy_set2 hn hg b ⟨rfl, sm_rel hn X⟩)
    · exact sx_set1 hn hg b (fun _ _ _ _ _ _ _ _ _ _ _ _ X' => sy_set1 hn hg b ⟨rfl, sm_rel hn X'⟩)
  · exact sx_set0 hb (sy_set0 hb ⟨rfl, sm_rel hn X⟩)
theorem sq_insert {k n : Nat} (hn : n ≤ 64) {fs fu fb : Int32} {t am ae ad ai aj ay ap au ab : Nat → Int32} {tp : Int32} {bm be bd bp bj bc by_ bk : Nat → Int32} (X : sm_XR t n fs fu am ae ad ai aj ay ap au ab) (v1 : Int32) (v2 : Int32) : wpX_insert (fun r u' => wpY_insert (fun r' v' => r' = r ∧ i_Rel (k + 3) u' v') (nI n, tp, t, bm, be, bd, bp, bj, bc, by_, bk) v1 v2) (nI n, fs, fu, fb, t, am, ae, ad, ai, aj, ay, ap, au, ab) v1 v2 := by
  rcases sm_gc v1 hn with ⟨g, hg, rfl⟩ | hb
  · by_cases b : sm_bk0 v2
    · exact sx_ins2 hn hg b (sy_ins2 hn hg b ⟨rfl, sm_rel hn X⟩)
    · by_cases h64 : n = 64
      · exact sx_ins3 hn hg b h64 (sy_ins3 hn hg b h64 ⟨rfl, sm_rel hn X⟩)
      · have hn' : n < 64 := by omega
        obtain ⟨t', hX, hY⟩ := sm_ins hn' hg v2 (n - g) t (by omega)
        rw [show g + (n - g) = n by omega] at hX hY
        exact sx_ins1 hn' hg b _ (hX _ _ _ _ _ _ _ _ _ _ _ _ _ (fun _ _ _ _ _ _ _ _ _ _ _ _ X' => sy_ins1 hn' hg b _ (hY _ _ _ _ _ _ _ _ _ _ ⟨rfl, sm_rel (by omega) X'⟩)))
  · exact sx_ins0 hb (sy_ins0 hb ⟨rfl, sm_rel hn X⟩)
theorem sq_delete {k n : Nat} (hn : n ≤ 64) {fs fu fb : Int32} {t am ae ad ai aj ay ap au ab : Nat → Int32} {tp : Int32} {bm be bd bp bj bc by_ bk : Nat → Int32} (X : sm_XR t n fs fu am ae ad ai aj ay ap au ab) (v1 : Int32) (v2 : Int32) : wpX_delete (fun r u' => wpY_delete (fun r' v' => r' = r ∧ i_Rel (k + 3) u' v') (nI n, tp, t, bm, be, bd, bp, bj, bc, by_, bk) v1 v2) (nI n, fs, fu, fb, t, am, ae, ad, ai, aj, ay, ap, au, ab) v1 v2 := by
  by_cases a : v1 < 0
  · exact br_t a (br_t a ⟨rfl, sm_rel hn X⟩)
  · by_cases b : v2 < v1
    · exact br_f a (br_t b (br_f a (br_t b ⟨rfl, sm_rel hn X⟩)))
    · by_cases d : v2 ≤ nI n
      · have a2 : ¬ v2 < 0 := fun z => a (Int32.lt_of_le_of_lt (Int32.not_lt.mp b) z)
        obtain ⟨f, hf, rfl⟩ := nI_of a
        obtain ⟨e, he, rfl⟩ := nI_of a2
        have b' := b
        have d' := d
        rw [nI_ltI he hf] at b'
        rw [nI_leI he (by omega)] at d'
        obtain ⟨t', hX, hY⟩ := sm_del hn (r := e - f) (by omega) (n - e) f t (by omega)
        rw [show f + (e - f) = e by omega] at hX
        exact br_f a (br_f b (br_t d (nm_r (sx_sub (by omega)) ⟨_, hX _ _ _ _ _ _ _ _ _ _ _ _ _ (fun _ _ _ _ _ _ _ _ _ _ _ _ X' => br_f a (br_f b (br_t d (nm_r (sx_sub (by omega)) ⟨_, hY _ _ _ _ _ _ _ _ _ _ ⟨rfl, sm_rel (by omega) X'⟩⟩))))⟩)))
      · exact br_f a (br_f b (br_f d (br_f a (br_f b (br_f d ⟨rfl, sm_rel hn X⟩)))))
