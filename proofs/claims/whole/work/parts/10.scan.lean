/-! 10: the questions that scan: both sides by one answer. Written by wip/whole/gen10.py -/
theorem sx_rc {post : Int32 → Prop} {n j : Nat} (hn : n ≤ 64) (hj : j < n) {fs fu fb : Int32} {t am ae ad ai aj ay ap au ab : Nat → Int32} (X : sm_XR t n fs fu am ae ad ai aj ay ap au ab) (hC : sm_C t j → post 1) (hN : ¬ sm_C t j → post 0) : wpX_isReadClose post (nI n, fs, fu, fb, t, am, ae, ad, ai, aj, ay, ap, au, ab) (nI j) := by
  have k : (nI j).toNatClampNeg = j := sx_cl (by omega)
  have v := sx_v64 (i := j) (by omega)
  have hp : ap (nI j).toNatClampNeg = sm_PA t n j := by rw [k]; exact X.2.2.2.2.2.2.1 j hj
  have hy : ay (nI j).toNatClampNeg = sm_yv t j := by rw [k]; exact X.2.2.2.2.2.1 j hj
  have rc := sm_rc (t := t) hn hj
  refine ⟨v, br_c (fun z => ⟨v, br_c (fun p => ⟨v, br_c (fun y => hN fun c => ?_) (fun y => hC ?_)⟩) (fun p => hC ?_)⟩) (fun z => hN fun c => z (by rw [k]; exact c.2.2))⟩
  · rw [hp] at p
    rw [hy] at y
    rcases (rc.mp c).2 with q | q
    · exact q p
    · rw [sm_yv, if_pos q] at y; exact absurd y (by decide)
  · rw [hy] at y
    refine Classical.byContradiction fun c => y ?_
    rw [sm_yv, if_neg (fun q => c q.1)]
  · rw [hp] at p
    rw [k] at z
    exact rc.mpr ⟨z, Or.inl p⟩
theorem sm_fw {n : Nat} (hn : n ≤ 64) {fs fu fb : Int32} {t am ae ad ai aj ay ap au ab : Nat → Int32} (X : sm_XR t n fs fu am ae ad ai aj ay ap au ab) : ∀ d k, k + d = n → ∃ r : Int32, (∀ post : Int32 → Prop, post r → wX_forward_12 post (nI n) fs fu fb t am ae ad ai aj ay ap au ab (d + 1) (nI k)) ∧ (∀ (post : Int32 → SY → Prop) (tp : Int32) (bm be bd bp bj bc by_ bk : Nat → Int32), sm_YD t n tp bm be bd bp bj bc by_ bk → post r (nI n, tp, t, bm, be, bd, bp, bj, bc, by_, bk) → wY_forward_20 post (nI n) tp t bm be bd bp bj bc by_ bk (d + 1) (nI k)) := by
  intro d
  induction d with
  | zero =>
    intro k hk
    have : k = n := by omega
    subst this
    exact ⟨-2, fun post h => br_t (nI_le (Nat.le_refl k) (by omega)) h, fun post tp bm be bd bp bj bc by_ bk Y h => br_t (nI_le (Nat.le_refl k) (by omega)) h⟩
  | succ d ih =>
    intro k hk
    have hkn : k < n := by omega
    have kk : (nI k).toNatClampNeg = k := sx_cl (by omega)
    have v := sx_v64 (i := k) (by omega)
    have h1 : ¬ nI n ≤ nI k := nI_ge hkn (by omega)
    have h2 : ¬ (64 : Int32) ≤ nI k := nI_ge (a := k) (b := 64) (by omega) (by omega)
    have hu : au (nI k).toNatClampNeg = sm_FU t n n k := by rw [kk]; exact X.2.2.2.2.2.2.2.1 k hkn
    by_cases C : sm_C t k
    · refine ⟨-3, fun post h => br_f h1 (sx_rc hn hkn X (fun _ => br_f (by decide) h) (fun z => absurd C z)), fun post tp bm be bd bp bj bc by_ bk Y h => br_f h1 (br_f h2 ⟨v, br_f ?_ h⟩)⟩
      rw [kk, Y.2.2.2.2.2.2.1 k (by omega), sm_g, if_pos hkn, sm_cv, if_pos C]; decide
    · have hc : ∀ bc : Nat → Int32, (∀ j, j < 64 → bc j = sm_g (sm_cv t) n j) → bc (nI k).toNatClampNeg = 0 := by
        intro bc hb
        rw [kk, hb k (by omega), sm_g, if_pos hkn, sm_cv, if_neg C]
      rcases (sm_BJ2 t hn n (Nat.le_refl n)).1 k with z | ⟨e, a, b, z, _⟩
      · obtain ⟨r, hX, hY⟩ := ih (k + 1) (by omega)
        refine ⟨r, fun post h => br_f h1 (sx_rc hn hkn X (fun c => absurd c C) (fun _ => br_t rfl ⟨v, br_t (hu.trans z) (nm_r (nI_1 k) (hX post h))⟩)), fun post tp bm be bd bp bj bc by_ bk Y h => br_f h1 (br_f h2 ⟨v, br_t (hc bc Y.2.2.2.2.2.2.1) (sy_uE hn hkn Y (br_t (sx_neg z) (nm_r (nI_1 k) (hY post tp bm be bd bp bj bc by_ bk Y h))))⟩)⟩
      · refine ⟨nI e + 1, fun post h => br_f h1 (sx_rc hn hkn X (fun c => absurd c C) (fun _ => br_t rfl ⟨v, br_f (by rw [hu, z]; exact sm_nn (by omega)) ⟨v, by rw [hu, z]; exact h⟩⟩)), fun post tp bm be bd bp bj bc by_ bk Y h => br_f h1 (br_f h2 ⟨v, br_t (hc bc Y.2.2.2.2.2.2.1) (sy_uE hn hkn Y (br_f (by rw [z]; exact nI_pos (by omega)) (by rw [z]; exact h)))⟩)⟩
def sm_ac (t : Nat → Int32) (n q g : Nat) : Prop := sm_J t q ∧ (sm_PA t n q = -1 ∨ ∃ p, p < n ∧ g ≤ p ∧ sm_PA t n q = nI p)
theorem sx_ac {post : Int32 → Prop} {n q g : Nat} (hn : n ≤ 64) (hq : q < n) (hg : g ≤ n) {fs fu fb : Int32} {t am ae ad ai aj ay ap au ab : Nat → Int32} (X : sm_XR t n fs fu am ae ad ai aj ay ap au ab) (hA : sm_ac t n q g → post 1) (hN : ¬ sm_ac t n q g → post 0) : wpX_isOpenAcross post (nI n, fs, fu, fb, t, am, ae, ad, ai, aj, ay, ap, au, ab) (nI q) (nI g) := by
  have k : (nI q).toNatClampNeg = q := sx_cl (by omega)
  have v := sx_v64 (i := q) (by omega)
  have hp : ap (nI q).toNatClampNeg = sm_PA t n q := by rw [k]; exact X.2.2.2.2.2.2.1 q hq
  have hj : aj (nI q).toNatClampNeg = sm_jv t q := by rw [k]; exact X.2.2.2.2.1 q hq
  by_cases J : sm_J t q
  · refine ⟨v, br_f (by rw [hj, sm_jv, if_pos J]; decide) ⟨v, ?_⟩⟩
    rcases sm_PAr t n q with z | ⟨p, hpn, z⟩
    · exact br_t (hp.trans z) (hA ⟨J, Or.inl z⟩)
    · refine br_f (by rw [hp, z]; exact sm_nn (by omega)) ⟨v, ?_⟩
      by_cases y : p < g
      · refine br_t (by rw [hp, z]; exact nI_lt y (by omega)) (hN fun a => ?_)
        rcases a.2 with w | ⟨p', a1, a2, a3⟩
        · exact sm_nn (by omega) (z.symm.trans w)
        · have e := z.symm.trans a3
          rw [nI_eq (by omega) (by omega)] at e
          omega
      · exact br_f (by rw [hp, z]; exact nI_nlt (by omega) (by omega)) (hA ⟨J, Or.inr ⟨p, hpn, by omega, z⟩⟩)
  · exact ⟨v, br_t (by rw [hj, sm_jv, if_neg J]) (hN fun a => J a.1)⟩
theorem sy_ac {post : Int32 → SY → Prop} {n q g d : Nat} (hn : n ≤ 64) (hq : q < n) (hg : g ≤ n) {tp : Int32} {t bm be bd bp bj bc by_ bk : Nat → Int32} (Y : sm_YD t n tp bm be bd bp bj bc by_ bk) (hA : sm_ac t n q g → post (-3) (nI n, tp, t, bm, be, bd, bp, bj, bc, by_, bk)) (hN : ¬ sm_ac t n q g → wY_backward_57 post (wY_backward_22 post (nI g) (nI n) tp t bm be bd bp bj bc by_ bk d) (nI g) (nI q) (nI n) tp t bm be bd bp bj bc by_ bk) : wY_backward_22 post (nI g) (nI n) tp t bm be bd bp bj bc by_ bk (d + 1) (nI q) := by
  have k : (nI q).toNatClampNeg = q := sx_cl (by omega)
  have v := sx_v64 (i := q) (by omega)
  have hp : bp (nI q).toNatClampNeg = sm_PA t n q := by rw [k]; exact Y.2.2.2.2.1 q (by omega)
  have hj : bj (nI q).toNatClampNeg = sm_jv t q := by rw [k, Y.2.2.2.2.2.1 q (by omega), sm_g, if_pos hq]
  have h0 : ¬ nI q < 0 := nI_pos (by omega)
  by_cases J : sm_J t q
  · refine br_f h0 ⟨v, br_f (by rw [hj, sm_jv, if_pos J]; decide) ⟨v, ?_⟩⟩
    rcases sm_PAr t n q with z | ⟨p, hpn, z⟩
    · exact br_t (by rw [hp]; exact sx_neg z) (hA ⟨J, Or.inl z⟩)
    · refine br_f (by rw [hp, z]; exact nI_pos (by omega)) ⟨v, ?_⟩
      by_cases y : p < g
      · refine br_t (by rw [hp, z]; exact nI_lt y (by omega)) (hN fun a => ?_)
        rcases a.2 with w | ⟨p', a1, a2, a3⟩
        · exact sm_nn (by omega) (z.symm.trans w)
        · have e := z.symm.trans a3
          rw [nI_eq (by omega) (by omega)] at e
          omega
      · exact br_f (by rw [hp, z]; exact nI_nlt (by omega) (by omega)) (hA ⟨J, Or.inr ⟨p, hpn, by omega, z⟩⟩)
  · exact br_f h0 ⟨v, br_t (by rw [hj, sm_jv, if_neg J]) (hN fun a => J a.1)⟩
theorem sm_bw {n g : Nat} (hn : n ≤ 64) (hg : g ≤ n) {fs fu fb : Int32} {t am ae ad ai aj ay ap au ab : Nat → Int32} (X : sm_XR t n fs fu am ae ad ai aj ay ap au ab) : ∀ k, k ≤ g → ∃ r : Int32, (∀ post : Int32 → Prop, post r → wX_backward_14 post (nI g) (nI n) fs fu fb t am ae ad ai aj ay ap au ab (k + 1) (nI k + (-1))) ∧ (∀ (post : Int32 → SY → Prop) (tp : Int32) (bm be bd bp bj bc by_ bk : Nat → Int32), sm_YD t n tp bm be bd bp bj bc by_ bk → post r (nI n, tp, t, bm, be, bd, bp, bj, bc, by_, bk) → wY_backward_22 post (nI g) (nI n) tp t bm be bd bp bj bc by_ bk (k + 1) (nI k + (-1))) := by
  intro k
  induction k with
  | zero =>
    intro _
    rw [sx_mm]
    exact ⟨-2, fun post h => br_t (by decide) h, fun post tp bm be bd bp bj bc by_ bk Y h => br_t (by decide) h⟩
  | succ q ih =>
    intro hk
    rw [sx_m1]
    have hqn : q < n := by omega
    have kk : (nI q).toNatClampNeg = q := sx_cl (by omega)
    have v := sx_v64 (i := q) (by omega)
    have h0 : ¬ nI q < 0 := nI_pos (by omega)
    have hb : ab (nI q).toNatClampNeg = sm_FB t n n q := by rw [kk]; exact X.2.2.2.2.2.2.2.2.1 q hqn
    by_cases A : sm_ac t n q g
    · exact ⟨-3, fun post h => br_f h0 (sx_ac hn hqn hg X (fun _ => br_f (by decide) h) (fun z => absurd A z)), fun post tp bm be bd bp bj bc by_ bk Y h => sy_ac hn hqn hg Y (fun _ => h) (fun z => absurd A z)⟩
    · rcases (sm_BJ2 t hn n (Nat.le_refl n)).2 q with z | ⟨i, a, b, z, _⟩
      · obtain ⟨r, hX, hY⟩ := ih (by omega)
        exact ⟨r, fun post h => br_f h0 (sx_ac hn hqn hg X (fun c => absurd c A) (fun _ => br_t rfl ⟨v, br_t (hb.trans z) (nm_e (hX post h))⟩)), fun post tp bm be bd bp bj bc by_ bk Y h => sy_ac hn hqn hg Y (fun c => absurd c A) (fun _ => sy_uS hn hqn Y (br_t (sx_neg z) (nm_e (hY post tp bm be bd bp bj bc by_ bk Y h))))⟩
      · exact ⟨nI i, fun post h => br_f h0 (sx_ac hn hqn hg X (fun c => absurd c A) (fun _ => br_t rfl ⟨v, br_f (by rw [hb, z]; exact sm_nn (by omega)) ⟨v, by rw [hb, z]; exact h⟩⟩)), fun post tp bm be bd bp bj bc by_ bk Y h => sy_ac hn hqn hg Y (fun c => absurd c A) (fun _ => sy_uS hn hqn Y (br_f (by rw [z]; exact nI_pos (by omega)) (by rw [z]; exact h)))⟩
theorem sm_dn {n : Nat} (hn : n ≤ 64) {fs fu fb : Int32} {t am ae ad ai aj ay ap au ab : Nat → Int32} (X : sm_XR t n fs fu am ae ad ai aj ay ap au ab) : ∀ d k f, k + d = n → (f = 0 ∨ f = 1) → ∃ r : Int32, (∀ post : Int32 → Prop, post r → wX_down_14 post (nI n) fs fu fb t am ae ad ai aj ay ap au ab (d + 1) f (nI k)) ∧ (∀ (post : Int32 → SY → Prop) (tp : Int32) (bm be bd bp bj bc by_ bk : Nat → Int32), sm_YD t n tp bm be bd bp bj bc by_ bk → post r (nI n, tp, t, bm, be, bd, bp, bj, bc, by_, bk) → wY_down_22 post (nI n) tp t bm be bd bp bj bc by_ bk (d + 1) f (nI k)) := by
  intro d
  induction d with
  | zero =>
    intro k f hk _
    have : k = n := by omega
    subst this
    exact ⟨-2, fun post h => br_t (nI_le (Nat.le_refl k) (by omega)) h, fun post tp bm be bd bp bj bc by_ bk Y h => br_t (nI_le (Nat.le_refl k) (by omega)) h⟩
  | succ d ih =>
    intro k f hk hf
    have hkn : k < n := by omega
    have kk : (nI k).toNatClampNeg = k := sx_cl (by omega)
    have v := sx_v64 (i := k) (by omega)
    have h1 : ¬ nI n ≤ nI k := nI_ge hkn (by omega)
    have h2 : ¬ (64 : Int32) ≤ nI k := nI_ge (a := k) (b := 64) (by omega) (by omega)
    have hj : aj (nI k).toNatClampNeg = sm_jv t k := by rw [kk]; exact X.2.2.2.2.1 k hkn
    have gj : ∀ bj : Nat → Int32, (∀ j, j < 64 → bj j = sm_g (sm_jv t) n j) → bj (nI k).toNatClampNeg = sm_jv t k := by
      intro bj hb
      rw [kk, hb k (by omega), sm_g, if_pos hkn]
    have gc : ∀ bc : Nat → Int32, (∀ j, j < 64 → bc j = sm_g (sm_cv t) n j) → bc (nI k).toNatClampNeg = sm_cv t k := by
      intro bc hb
      rw [kk, hb k (by omega), sm_g, if_pos hkn]
    by_cases J : sm_J t k
    · have j1 : ¬ sm_jv t k = 0 := by rw [sm_jv, if_pos J]; decide
      by_cases f0 : f = 0
      · exact ⟨nI k + 1, fun post h => br_f h1 ⟨v, br_f (by rw [hj]; exact j1) (br_t f0 h)⟩, fun post tp bm be bd bp bj bc by_ bk Y h => br_f h1 (br_f h2 ⟨v, br_f (by rw [gj bj Y.2.2.2.2.2.1]; exact j1) (br_t f0 h)⟩)⟩
      · exact ⟨-3, fun post h => br_f h1 ⟨v, br_f (by rw [hj]; exact j1) (br_f f0 h)⟩, fun post tp bm be bd bp bj bc by_ bk Y h => br_f h1 (br_f h2 ⟨v, br_f (by rw [gj bj Y.2.2.2.2.2.1]; exact j1) (br_f f0 h)⟩)⟩
    · have j0 : sm_jv t k = 0 := by rw [sm_jv, if_neg J]
      by_cases C : sm_C t k
      · have c1 : ¬ sm_cv t k = 0 := by rw [sm_cv, if_pos C]; decide
        obtain ⟨r, hX, hY⟩ := ih (k + 1) 1 (by omega) (Or.inr rfl)
        refine ⟨r, fun post h => br_f h1 ⟨v, br_t (hj.trans j0) (br_c (fun _ => sx_rc hn hkn X (fun _ => br_f (by decide) (nm_r (nI_1 k) (hX post h))) (fun z => absurd C z)) (fun _ => nm_r (nI_1 k) (hX post h)))⟩, fun post tp bm be bd bp bj bc by_ bk Y h => br_f h1 (br_f h2 ⟨v, br_t ((gj bj Y.2.2.2.2.2.1).trans j0) ⟨v, br_f (by rw [gc bc Y.2.2.2.2.2.2.1]; exact c1) (nm_r (nI_1 k) (hY post tp bm be bd bp bj bc by_ bk Y h))⟩⟩)⟩
      · have c0 : sm_cv t k = 0 := by rw [sm_cv, if_neg C]
        obtain ⟨r, hX, hY⟩ := ih (k + 1) f (by omega) hf
        refine ⟨r, fun post h => br_f h1 ⟨v, br_t (hj.trans j0) (br_c (fun f0 => sx_rc hn hkn X (fun z => absurd z C) (fun _ => br_t rfl (nm_r (nI_1 k) (by rw [← f0]; exact hX post h)))) (fun f0 => nm_r (nI_1 k) ?_))⟩, fun post tp bm be bd bp bj bc by_ bk Y h => br_f h1 (br_f h2 ⟨v, br_t ((gj bj Y.2.2.2.2.2.1).trans j0) ⟨v, br_t ((gc bc Y.2.2.2.2.2.2.1).trans c0) (nm_r (nI_1 k) (hY post tp bm be bd bp bj bc by_ bk Y h))⟩⟩)⟩
        have f1 : f = 1 := hf.resolve_left f0
        rw [← f1]; exact hX post h
theorem sy_st {post : Int32 → SY → Prop} {n : Nat} (hn : n ≤ 64) {tp : Int32} {t bm be bd bp bj bc by_ bk : Nat → Int32} (Y : sm_YD t n tp bm be bd bp bj bc by_ bk) (h : post (nI (sm_SC t n)) (nI n, tp, t, bm, be, bd, bp, bj, bc, by_, bk)) : ∀ d k, k + d = 64 → wY_strays_12 post (nI n) tp t bm be bd bp bj bc by_ bk (d + 1) (nI (sm_SC t (min k n))) (nI k) := by
  intro d
  induction d with
  | zero =>
    intro k hk
    have : k = 64 := by omega
    subst this
    refine br_t (nI_le (a := 64) (b := 64) (by omega) (by omega)) ?_
    rw [show min 64 n = n by omega]; exact h
  | succ d ih =>
    intro k hk
    have kk : (nI k).toNatClampNeg = k := sx_cl (by omega)
    have hy : by_ (nI k).toNatClampNeg = sm_g (sm_yv t) n k := by rw [kk]; exact Y.2.2.2.2.2.2.2.1 k (by omega)
    have nx := ih (k + 1) (by omega)
    refine br_f (nI_ge (a := k) (b := 64) (by omega) (by omega)) ⟨sx_v64 (by omega), ?_⟩
    by_cases q : k < n
    · rw [show min (k + 1) n = k + 1 by omega] at nx
      rw [show min k n = k by omega]
      by_cases s : sm_C t k ∧ sm_T t k = 0
      · rw [sm_SC, if_pos s] at nx
        exact br_f (by rw [hy, sm_g, if_pos q, sm_yv, if_pos s]; decide) (nm_r (nI_1 _) (nm_r (nI_1 k) nx))
      · rw [sm_SC, if_neg s] at nx
        exact br_t (by rw [hy, sm_g, if_pos q, sm_yv, if_neg s]) (nm_r (nI_1 k) nx)
    · rw [show min (k + 1) n = n by omega] at nx
      rw [show min k n = n by omega]
      exact br_t (by rw [hy, sm_g, if_neg q]) (nm_r (nI_1 k) nx)
theorem sy_un {post : Int32 → SY → Prop} {n : Nat} (hn : n ≤ 64) {tp : Int32} {t bm be bd bp bj bc by_ bk : Nat → Int32} (Y : sm_YD t n tp bm be bd bp bj bc by_ bk) (h : post (nI (sm_cn (sm_FU t n n) n)) (nI n, tp, t, bm, be, bd, bp, bj, bc, by_, bk)) : ∀ d k, k + d = n → wY_units_12 post (nI n) tp t bm be bd bp bj bc by_ bk (d + 1) (nI (sm_cn (sm_FU t n n) k)) (nI k) := by
  intro d
  induction d with
  | zero =>
    intro k hk
    have : k = n := by omega
    subst this
    exact br_t (nI_le (Nat.le_refl k) (by omega)) h
  | succ d ih =>
    intro k hk
    have nx := ih (k + 1) (by omega)
    refine br_f (nI_ge (by omega) (by omega)) (br_f (nI_ge (a := k) (b := 64) (by omega) (by omega)) (sy_uE hn (by omega) Y ?_))
    rcases (sm_BJ2 t hn n (Nat.le_refl n)).1 k with z | ⟨e, a, b, z, _⟩
    · rw [sm_cn, if_pos z] at nx
      exact br_t (sx_neg z) (nm_r (nI_1 k) nx)
    · rw [sm_cn, if_neg (by rw [z]; exact sm_nn (by omega))] at nx
      exact br_f (by rw [z]; exact nI_pos (by omega)) (nm_r (nI_1 _) (nm_r (nI_1 k) nx))
