/-! 09: gaps and positions; each question on both sides. Written by wip/whole/gen09.py -/
def i_Rel (k : Nat) (u : SX) (v : SY) : Prop := match u, v with
  | (c, fs, fu, fb, t, am, ae, ad, ai, aj, ay, ap, au, ab), (l, tp, t', bm, be, bd, bp, bj, bc, by_, bk) => l = c ∧ t' = t ∧ ∃ n : Nat, n ≤ 64 ∧ c = nI n ∧ sm_XR t n fs fu am ae ad ai aj ay ap au ab
theorem i_up {k : Nat} {u : SX} {v : SY} (h : i_Rel k u v) : i_Rel (k + 3) u v := h
def sm_bg0 (n : Nat) (v : Int32) : Prop := v < 0 ∨ (¬ v < 0 ∧ nI n < v)
def sm_bp0 (n : Nat) (v : Int32) : Prop := v < 0 ∨ (¬ v < 0 ∧ nI n ≤ v)
theorem sm_gc (v : Int32) {n : Nat} (hn : n ≤ 64) : (∃ g, g ≤ n ∧ v = nI g) ∨ sm_bg0 n v := by
  by_cases h : v < 0
  · exact Or.inr (Or.inl h)
  · obtain ⟨j, hj, rfl⟩ := nI_of h
    by_cases q : j ≤ n
    · exact Or.inl ⟨j, q, rfl⟩
    · exact Or.inr (Or.inr ⟨h, nI_lt (by omega) hj⟩)
theorem sm_pc (v : Int32) {n : Nat} (hn : n ≤ 64) : (∃ g, g < n ∧ v = nI g) ∨ sm_bp0 n v := by
  by_cases h : v < 0
  · exact Or.inr (Or.inl h)
  · obtain ⟨j, hj, rfl⟩ := nI_of h
    by_cases q : j < n
    · exact Or.inl ⟨j, q, rfl⟩
    · exact Or.inr (Or.inr ⟨h, nI_le (by omega) hj⟩)
theorem sx_g1 {post : Int32 → Prop} {n g : Nat} (hn : n ≤ 64) (hg : g ≤ n) {fs fu fb : Int32} {t am ae ad ai aj ay ap au ab : Nat → Int32} (h : post 1) : wpX_isGap post (nI n, fs, fu, fb, t, am, ae, ad, ai, aj, ay, ap, au, ab) (nI g) :=
  br_f (nI_pos (by omega)) (br_f (nI_nlt hg (by omega)) h)
theorem sx_g0 {post : Int32 → Prop} {n : Nat} {v : Int32} (hb : sm_bg0 n v) {fs fu fb : Int32} {t am ae ad ai aj ay ap au ab : Nat → Int32} (h : post 0) : wpX_isGap post (nI n, fs, fu, fb, t, am, ae, ad, ai, aj, ay, ap, au, ab) v := by
  rcases hb with z | ⟨z, y⟩
  · exact br_t z h
  · exact br_f z (br_t y h)
theorem sx_p1 {post : Int32 → Prop} {n g : Nat} (hn : n ≤ 64) (hg : g < n) {fs fu fb : Int32} {t am ae ad ai aj ay ap au ab : Nat → Int32} (h : post 1) : wpX_isPosition post (nI n, fs, fu, fb, t, am, ae, ad, ai, aj, ay, ap, au, ab) (nI g) :=
  br_f (nI_pos (by omega)) (br_f (nI_ge hg (by omega)) h)
theorem sx_p0 {post : Int32 → Prop} {n : Nat} {v : Int32} (hb : sm_bp0 n v) {fs fu fb : Int32} {t am ae ad ai aj ay ap au ab : Nat → Int32} (h : post 0) : wpX_isPosition post (nI n, fs, fu, fb, t, am, ae, ad, ai, aj, ay, ap, au, ab) v := by
  rcases hb with z | ⟨z, y⟩
  · exact br_t z h
  · exact br_f z (br_t y h)
theorem sy_g1 {post : Int32 → Prop} {n g : Nat} (hn : n ≤ 64) (hg : g ≤ n) {tp : Int32} {t bm be bd bp bj bc by_ bk : Nat → Int32} (h : post 0) : wpY_badGap post (nI n, tp, t, bm, be, bd, bp, bj, bc, by_, bk) (nI g) :=
  br_f (nI_pos (by omega)) (br_f (nI_nlt hg (by omega)) (br_t (nI_le (a := g) (b := 64) (by omega) (by omega)) h))
theorem sy_g0 {post : Int32 → Prop} {n : Nat} {v : Int32} (hb : sm_bg0 n v) {tp : Int32} {t bm be bd bp bj bc by_ bk : Nat → Int32} (h : post 1) : wpY_badGap post (nI n, tp, t, bm, be, bd, bp, bj, bc, by_, bk) v := by
  rcases hb with z | ⟨z, y⟩
  · exact br_t z h
  · exact br_f z (br_t y h)
theorem sy_p1 {post : Int32 → Prop} {n g : Nat} (hn : n ≤ 64) (hg : g < n) {tp : Int32} {t bm be bd bp bj bc by_ bk : Nat → Int32} (h : post 0) : wpY_badPosition post (nI n, tp, t, bm, be, bd, bp, bj, bc, by_, bk) (nI g) :=
  br_f (nI_pos (by omega)) (br_f (nI_ge hg (by omega)) (br_t (nI_lt (a := g) (b := 64) (by omega) (by omega)) h))
theorem sy_p0 {post : Int32 → Prop} {n : Nat} {v : Int32} (hb : sm_bp0 n v) {tp : Int32} {t bm be bd bp bj bc by_ bk : Nat → Int32} (h : post 1) : wpY_badPosition post (nI n, tp, t, bm, be, bd, bp, bj, bc, by_, bk) v := by
  rcases hb with z | ⟨z, y⟩
  · exact br_t z h
  · exact br_f z (br_t y h)
theorem sx_mode0 {post : Int32 → Prop} {n : Nat} {v : Int32} (hb : sm_bg0 n v) {fs fu fb : Int32} {t am ae ad ai aj ay ap au ab : Nat → Int32} (h : post (-1)) : wpX_mode post (nI n, fs, fu, fb, t, am, ae, ad, ai, aj, ay, ap, au, ab) v := by
  unfold wpX_mode
  exact sx_g0 hb (br_t rfl h)
theorem sy_mode0 {post : Int32 → SY → Prop} {n : Nat} {v : Int32} (hb : sm_bg0 n v) {tp : Int32} {t bm be bd bp bj bc by_ bk : Nat → Int32} (h : post (-1) (nI n, tp, t, bm, be, bd, bp, bj, bc, by_, bk)) : wpY_mode post (nI n, tp, t, bm, be, bd, bp, bj, bc, by_, bk) v := by
  unfold wpY_mode
  exact sy_g0 hb (br_f (by decide) h)
theorem sx_escaped0 {post : Int32 → Prop} {n : Nat} {v : Int32} (hb : sm_bg0 n v) {fs fu fb : Int32} {t am ae ad ai aj ay ap au ab : Nat → Int32} (h : post (-1)) : wpX_escaped post (nI n, fs, fu, fb, t, am, ae, ad, ai, aj, ay, ap, au, ab) v := by
  unfold wpX_escaped
  exact sx_g0 hb (br_t rfl h)
theorem sy_escaped0 {post : Int32 → SY → Prop} {n : Nat} {v : Int32} (hb : sm_bg0 n v) {tp : Int32} {t bm be bd bp bj bc by_ bk : Nat → Int32} (h : post (-1) (nI n, tp, t, bm, be, bd, bp, bj, bc, by_, bk)) : wpY_escaped post (nI n, tp, t, bm, be, bd, bp, bj, bc, by_, bk) v := by
  unfold wpY_escaped
  exact sy_g0 hb (br_f (by decide) h)
theorem sx_depth0 {post : Int32 → Prop} {n : Nat} {v : Int32} (hb : sm_bg0 n v) {fs fu fb : Int32} {t am ae ad ai aj ay ap au ab : Nat → Int32} (h : post (-1)) : wpX_depth post (nI n, fs, fu, fb, t, am, ae, ad, ai, aj, ay, ap, au, ab) v := by
  unfold wpX_depth
  exact sx_g0 hb (br_t rfl h)
theorem sy_depth0 {post : Int32 → SY → Prop} {n : Nat} {v : Int32} (hb : sm_bg0 n v) {tp : Int32} {t bm be bd bp bj bc by_ bk : Nat → Int32} (h : post (-1) (nI n, tp, t, bm, be, bd, bp, bj, bc, by_, bk)) : wpY_depth post (nI n, tp, t, bm, be, bd, bp, bj, bc, by_, bk) v := by
  unfold wpY_depth
  exact sy_g0 hb (br_f (by decide) h)
theorem sx_forward0 {post : Int32 → Prop} {n : Nat} {v : Int32} (hb : sm_bg0 n v) {fs fu fb : Int32} {t am ae ad ai aj ay ap au ab : Nat → Int32} (h : post (-1)) : wpX_forward post (nI n, fs, fu, fb, t, am, ae, ad, ai, aj, ay, ap, au, ab) v := by
  unfold wpX_forward
  exact sx_g0 hb (br_t rfl h)
theorem sy_forward0 {post : Int32 → SY → Prop} {n : Nat} {v : Int32} (hb : sm_bg0 n v) {tp : Int32} {t bm be bd bp bj bc by_ bk : Nat → Int32} (h : post (-1) (nI n, tp, t, bm, be, bd, bp, bj, bc, by_, bk)) : wpY_forward post (nI n, tp, t, bm, be, bd, bp, bj, bc, by_, bk) v := by
  unfold wpY_forward
  exact sy_g0 hb (br_f (by decide) h)
theorem sx_backward0 {post : Int32 → Prop} {n : Nat} {v : Int32} (hb : sm_bg0 n v) {fs fu fb : Int32} {t am ae ad ai aj ay ap au ab : Nat → Int32} (h : post (-1)) : wpX_backward post (nI n, fs, fu, fb, t, am, ae, ad, ai, aj, ay, ap, au, ab) v := by
  unfold wpX_backward
  exact sx_g0 hb (br_t rfl h)
theorem sy_backward0 {post : Int32 → SY → Prop} {n : Nat} {v : Int32} (hb : sm_bg0 n v) {tp : Int32} {t bm be bd bp bj bc by_ bk : Nat → Int32} (h : post (-1) (nI n, tp, t, bm, be, bd, bp, bj, bc, by_, bk)) : wpY_backward post (nI n, tp, t, bm, be, bd, bp, bj, bc, by_, bk) v := by
  unfold wpY_backward
  exact sy_g0 hb (br_f (by decide) h)
theorem sx_up0 {post : Int32 → Prop} {n : Nat} {v : Int32} (hb : sm_bg0 n v) {fs fu fb : Int32} {t am ae ad ai aj ay ap au ab : Nat → Int32} (h : post (-1)) : wpX_up post (nI n, fs, fu, fb, t, am, ae, ad, ai, aj, ay, ap, au, ab) v := by
  unfold wpX_up
  exact sx_g0 hb (br_t rfl h)
theorem sy_up0 {post : Int32 → SY → Prop} {n : Nat} {v : Int32} (hb : sm_bg0 n v) {tp : Int32} {t bm be bd bp bj bc by_ bk : Nat → Int32} (h : post (-1) (nI n, tp, t, bm, be, bd, bp, bj, bc, by_, bk)) : wpY_up post (nI n, tp, t, bm, be, bd, bp, bj, bc, by_, bk) v := by
  unfold wpY_up
  exact sy_g0 hb (br_f (by decide) h)
theorem sx_down0 {post : Int32 → Prop} {n : Nat} {v : Int32} (hb : sm_bg0 n v) {fs fu fb : Int32} {t am ae ad ai aj ay ap au ab : Nat → Int32} (h : post (-1)) : wpX_down post (nI n, fs, fu, fb, t, am, ae, ad, ai, aj, ay, ap, au, ab) v := by
  unfold wpX_down
  exact sx_g0 hb (br_t rfl h)
theorem sy_down0 {post : Int32 → SY → Prop} {n : Nat} {v : Int32} (hb : sm_bg0 n v) {tp : Int32} {t bm be bd bp bj bc by_ bk : Nat → Int32} (h : post (-1) (nI n, tp, t, bm, be, bd, bp, bj, bc, by_, bk)) : wpY_down post (nI n, tp, t, bm, be, bd, bp, bj, bc, by_, bk) v := by
  unfold wpY_down
  exact sy_g0 hb (br_f (by decide) h)
theorem sx_bracketAt0 {post : Int32 → Prop} {n : Nat} {v w : Int32} (hb : sm_bg0 n v) {fs fu fb : Int32} {t am ae ad ai aj ay ap au ab : Nat → Int32} (h : post (-1)) : wpX_bracketAt post (nI n, fs, fu, fb, t, am, ae, ad, ai, aj, ay, ap, au, ab) v w := by
  unfold wpX_bracketAt
  exact sx_g0 hb (br_t rfl h)
theorem sy_bracketAt0 {post : Int32 → SY → Prop} {n : Nat} {v w : Int32} (hb : sm_bg0 n v) {tp : Int32} {t bm be bd bp bj bc by_ bk : Nat → Int32} (h : post (-1) (nI n, tp, t, bm, be, bd, bp, bj, bc, by_, bk)) : wpY_bracketAt post (nI n, tp, t, bm, be, bd, bp, bj, bc, by_, bk) v w := by
  unfold wpY_bracketAt
  exact sy_g0 hb (br_f (by decide) h)
theorem sx_kindAt0 {post : Int32 → Prop} {n : Nat} {v : Int32} (hb : sm_bp0 n v) {fs fu fb : Int32} {t am ae ad ai aj ay ap au ab : Nat → Int32} (h : post (-1)) : wpX_kindAt post (nI n, fs, fu, fb, t, am, ae, ad, ai, aj, ay, ap, au, ab) v := by
  unfold wpX_kindAt
  exact sx_p0 hb (br_t rfl h)
theorem sy_kindAt0 {post : Int32 → Prop} {n : Nat} {v : Int32} (hb : sm_bp0 n v) {tp : Int32} {t bm be bd bp bj bc by_ bk : Nat → Int32} (h : post (-1)) : wpY_kindAt post (nI n, tp, t, bm, be, bd, bp, bj, bc, by_, bk) v := by
  unfold wpY_kindAt
  exact sy_p0 hb (br_f (by decide) h)
theorem sx_partner0 {post : Int32 → Prop} {n : Nat} {v : Int32} (hb : sm_bp0 n v) {fs fu fb : Int32} {t am ae ad ai aj ay ap au ab : Nat → Int32} (h : post (-1)) : wpX_partner post (nI n, fs, fu, fb, t, am, ae, ad, ai, aj, ay, ap, au, ab) v := by
  unfold wpX_partner
  exact sx_p0 hb (br_t rfl h)
theorem sy_partner0 {post : Int32 → SY → Prop} {n : Nat} {v : Int32} (hb : sm_bp0 n v) {tp : Int32} {t bm be bd bp bj bc by_ bk : Nat → Int32} (h : post (-1) (nI n, tp, t, bm, be, bd, bp, bj, bc, by_, bk)) : wpY_partner post (nI n, tp, t, bm, be, bd, bp, bj, bc, by_, bk) v := by
  unfold wpY_partner
  exact sy_p0 hb (br_f (by decide) h)
theorem sx_mode1 {post : Int32 → Prop} {n g : Nat} (hn : n ≤ 64) (hg : g ≤ n) {fs fu fb : Int32} {t am ae ad ai aj ay ap au ab : Nat → Int32} (h : post (am g)) : wpX_mode post (nI n, fs, fu, fb, t, am, ae, ad, ai, aj, ay, ap, au, ab) (nI g) := by
  have k : (nI g).toNatClampNeg = g := sx_cl (by omega)
  unfold wpX_mode
  refine sx_g1 hn hg (br_f (by decide) ?_)
  exact ⟨sx_v65 (by omega), by rw [k]; exact h⟩
theorem sy_mode1 {post : Int32 → SY → Prop} {n g : Nat} (hn : n ≤ 64) (hg : g ≤ n) {tp : Int32} {t bm be bd bp bj bc by_ bk : Nat → Int32} (h : ∀ (tp : Int32) (bm be bd bp bj bc by_ bk : Nat → Int32), post (sm_M t g) (nI n, tp, t, bm, be, bd, bp, bj, bc, by_, bk)) : wpY_mode post (nI n, tp, t, bm, be, bd, bp, bj, bc, by_, bk) (nI g) := by
  have k : (nI g).toNatClampNeg = g := sx_cl (by omega)
  unfold wpY_mode
  refine sy_g1 hn hg (br_t rfl (sy_read (by omega) ?_))
  intro tp bm be bd bp bj bc by_ bk Y
  exact ⟨sx_v65 (by omega), by rw [k, Y.2.1 g (by omega)]; exact h _ _ _ _ _ _ _ _ _⟩
theorem sx_depth1 {post : Int32 → Prop} {n g : Nat} (hn : n ≤ 64) (hg : g ≤ n) {fs fu fb : Int32} {t am ae ad ai aj ay ap au ab : Nat → Int32} (h : post (ad g)) : wpX_depth post (nI n, fs, fu, fb, t, am, ae, ad, ai, aj, ay, ap, au, ab) (nI g) := by
  have k : (nI g).toNatClampNeg = g := sx_cl (by omega)
  unfold wpX_depth
  refine sx_g1 hn hg (br_f (by decide) ?_)
  exact ⟨sx_v65 (by omega), by rw [k]; exact h⟩
theorem sy_depth1 {post : Int32 → SY → Prop} {n g : Nat} (hn : n ≤ 64) (hg : g ≤ n) {tp : Int32} {t bm be bd bp bj bc by_ bk : Nat → Int32} (h : ∀ (tp : Int32) (bm be bd bp bj bc by_ bk : Nat → Int32), post (nI (sm_T t g)) (nI n, tp, t, bm, be, bd, bp, bj, bc, by_, bk)) : wpY_depth post (nI n, tp, t, bm, be, bd, bp, bj, bc, by_, bk) (nI g) := by
  have k : (nI g).toNatClampNeg = g := sx_cl (by omega)
  unfold wpY_depth
  refine sy_g1 hn hg (br_t rfl (sy_read (by omega) ?_))
  intro tp bm be bd bp bj bc by_ bk Y
  exact ⟨sx_v65 (by omega), by rw [k, Y.2.2.2.1 g (by omega)]; exact h _ _ _ _ _ _ _ _ _⟩
theorem sx_escaped1 {post : Int32 → Prop} {n g : Nat} (hn : n ≤ 64) (hg : g ≤ n) {fs fu fb : Int32} {t am ae ad ai aj ay ap au ab : Nat → Int32} (h : post (if ae g = 0 then 0 else 1)) : wpX_escaped post (nI n, fs, fu, fb, t, am, ae, ad, ai, aj, ay, ap, au, ab) (nI g) := by
  have k : (nI g).toNatClampNeg = g := sx_cl (by omega)
  unfold wpX_escaped
  refine sx_g1 hn hg (br_f (by decide) ?_)
  refine ⟨sx_v65 (by omega), br_c (fun z => ?_) (fun z => ?_)⟩
  · rw [k] at z; rw [if_pos z] at h; exact h
  · rw [k] at z; rw [if_neg z] at h; exact h
theorem sy_escaped1 {post : Int32 → SY → Prop} {n g : Nat} (hn : n ≤ 64) (hg : g ≤ n) {tp : Int32} {t bm be bd bp bj bc by_ bk : Nat → Int32} (h : ∀ (tp : Int32) (bm be bd bp bj bc by_ bk : Nat → Int32), post (if sm_E t g = 0 then 0 else 1) (nI n, tp, t, bm, be, bd, bp, bj, bc, by_, bk)) : wpY_escaped post (nI n, tp, t, bm, be, bd, bp, bj, bc, by_, bk) (nI g) := by
  have k : (nI g).toNatClampNeg = g := sx_cl (by omega)
  unfold wpY_escaped
  refine sy_g1 hn hg (br_t rfl (sy_read (by omega) ?_))
  intro tp bm be bd bp bj bc by_ bk Y
  have h := h tp bm be bd bp bj bc by_ bk
  refine ⟨sx_v65 (by omega), br_c (fun z => ?_) (fun z => ?_)⟩
  · rw [k, Y.2.2.1 g (by omega)] at z; rw [if_pos z] at h; exact h
  · rw [k, Y.2.2.1 g (by omega)] at z; rw [if_neg z] at h; exact h
theorem sx_up1 {post : Int32 → Prop} {n g : Nat} (hn : n ≤ 64) (hg : g ≤ n) {fs fu fb : Int32} {t am ae ad ai aj ay ap au ab : Nat → Int32} (h : post (if ai g = -1 then -2 else ai g)) : wpX_up post (nI n, fs, fu, fb, t, am, ae, ad, ai, aj, ay, ap, au, ab) (nI g) := by
  have k : (nI g).toNatClampNeg = g := sx_cl (by omega)
  unfold wpX_up
  refine sx_g1 hn hg (br_f (by decide) ?_)
  refine ⟨sx_v65 (by omega), br_c (fun z => ?_) (fun z => ⟨sx_v65 (by omega), ?_⟩)⟩
  · rw [k] at z; rw [if_pos z] at h; exact h
  · rw [k] at z; rw [if_neg z] at h; rw [k]; exact h
theorem sy_up1 {post : Int32 → SY → Prop} {n g : Nat} (hn : n ≤ 64) (hg : g ≤ n) {tp : Int32} {t bm be bd bp bj bc by_ bk : Nat → Int32} (h : ∀ (tp : Int32) (bm be bd bp bj bc by_ bk : Nat → Int32), post (if sm_T t g = 0 then -2 else nI (sm_o t g)) (nI n, tp, t, bm, be, bd, bp, bj, bc, by_, bk)) : wpY_up post (nI n, tp, t, bm, be, bd, bp, bj, bc, by_, bk) (nI g) := by
  have k : (nI g).toNatClampNeg = g := sx_cl (by omega)
  unfold wpY_up
  refine sy_g1 hn hg (br_t rfl (sy_read (by omega) ?_))
  intro tp bm be bd bp bj bc by_ bk Y
  have h := h tp bm be bd bp bj bc by_ bk
  have hT := sm_Tle t g
  by_cases z : sm_T t g = 0
  · rw [if_pos z] at h
    exact br_t (by rw [Y.1, z, nI_0]) h
  · rw [if_neg z] at h
    have p : tp - 1 = nI (sm_T t g - 1) := by
      obtain ⟨q, hq⟩ : ∃ q, sm_T t g = q + 1 := ⟨sm_T t g - 1, by omega⟩
      rw [Y.1, hq, nI_pred]; rfl
    refine br_f (by rw [Y.1]; exact nI_ne0 (by omega) (by omega)) ⟨by rw [p]; exact sx_v64 (by omega), ?_⟩
    rw [p, sx_cl (by omega), Y.2.2.2.2.2.2.2.2 _ (by omega)]
    exact h
theorem sx_kindAt1 {post : Int32 → Prop} {n g : Nat} (hn : n ≤ 64) (hg : g < n) {fs fu fb : Int32} {t am ae ad ai aj ay ap au ab : Nat → Int32} (h : post (t g)) : wpX_kindAt post (nI n, fs, fu, fb, t, am, ae, ad, ai, aj, ay, ap, au, ab) (nI g) := by
  have k : (nI g).toNatClampNeg = g := sx_cl (by omega)
  unfold wpX_kindAt
  exact sx_p1 hn hg (br_f (by decide) ⟨sx_v64 (by omega), by rw [k]; exact h⟩)
theorem sy_kindAt1 {post : Int32 → Prop} {n g : Nat} (hn : n ≤ 64) (hg : g < n) {tp : Int32} {t bm be bd bp bj bc by_ bk : Nat → Int32} (h : post (t g)) : wpY_kindAt post (nI n, tp, t, bm, be, bd, bp, bj, bc, by_, bk) (nI g) := by
  have k : (nI g).toNatClampNeg = g := sx_cl (by omega)
  unfold wpY_kindAt
  exact sy_p1 hn hg (br_t rfl ⟨sx_v64 (by omega), by rw [k]; exact h⟩)
theorem sx_partner1 {post : Int32 → Prop} {n g : Nat} (hn : n ≤ 64) (hg : g < n) {fs fu fb : Int32} {t am ae ad ai aj ay ap au ab : Nat → Int32} (h : post (if ap g = -1 then -2 else ap g)) : wpX_partner post (nI n, fs, fu, fb, t, am, ae, ad, ai, aj, ay, ap, au, ab) (nI g) := by
  have k : (nI g).toNatClampNeg = g := sx_cl (by omega)
  unfold wpX_partner
  refine sx_p1 hn hg (br_f (by decide) ⟨sx_v64 (by omega), br_c (fun z => ?_) (fun z => ⟨sx_v64 (by omega), ?_⟩)⟩)
  · rw [k] at z; rw [if_pos z] at h; exact h
  · rw [k] at z; rw [if_neg z] at h; rw [k]; exact h
theorem sy_partner1 {post : Int32 → SY → Prop} {n g : Nat} (hn : n ≤ 64) (hg : g < n) {tp : Int32} {t bm be bd bp bj bc by_ bk : Nat → Int32} (h : ∀ (tp : Int32) (bm be bd bp bj bc by_ bk : Nat → Int32), post (if sm_PA t n g = -1 then -2 else sm_PA t n g) (nI n, tp, t, bm, be, bd, bp, bj, bc, by_, bk)) : wpY_partner post (nI n, tp, t, bm, be, bd, bp, bj, bc, by_, bk) (nI g) := by
  have k : (nI g).toNatClampNeg = g := sx_cl (by omega)
  unfold wpY_partner
  refine sy_p1 hn hg (br_t rfl (sy_read hn ?_))
  intro tp bm be bd bp bj bc by_ bk Y
  have h := h tp bm be bd bp bj bc by_ bk
  have e : bp (nI g).toNatClampNeg = sm_PA t n g := by rw [k]; exact Y.2.2.2.2.1 g (by omega)
  rcases sm_PAr t n g with z | ⟨q, hq, z⟩
  · rw [if_pos z] at h
    exact ⟨sx_v64 (by omega), br_f (by rw [e, z]; decide) h⟩
  · rw [z, if_neg (sm_nn (by omega))] at h
    exact ⟨sx_v64 (by omega), br_t (by rw [e, z]; exact nI_pos' (by omega)) ⟨sx_v64 (by omega), by rw [e, z]; exact h⟩⟩
theorem sx_b31 {post : Int32 → Prop} {n g v : Nat} (hn : n ≤ 64) (hg : g ≤ n) {fs fu fb : Int32} {t am ae ad ai aj ay ap au ab : Nat → Int32} (X : sm_XR t n fs fu am ae ad ai aj ay ap au ab) (hv : v < sm_T t g) (h : post (nI (sm_K t g v))) : ∀ d k, k ≤ g → k < d → sm_K t g v < k → wX_bracketAt_31 post (nI v) (nI n) fs fu fb t am ae ad ai aj ay ap au ab d (nI k + (-1)) := by
  intro d
  induction d with
  | zero => intro k h1 h2; omega
  | succ d ih =>
    intro k hk hd hK
    obtain ⟨q, rfl⟩ : ∃ q, k = q + 1 := ⟨k - 1, by omega⟩
    obtain ⟨s1, s2, s3, _, s5⟩ := sm_stk t g v hv
    have hT := sm_Tle t g
    have hTq := sm_Tle t q
    have kk : (nI q).toNatClampNeg = q := sx_cl (by omega)
    rw [sx_m1]
    have hj : aj (nI q).toNatClampNeg = sm_jv t q := by rw [kk]; exact X.2.2.2.2.1 q (by omega)
    have hd' : ad (nI q).toNatClampNeg = nI (sm_T t q) := by rw [kk]; exact X.2.2.1 q (by omega)
    refine br_f (nI_pos (by omega)) ⟨sx_v64 (by omega), ?_⟩
    by_cases J : sm_J t q
    · refine br_f (by rw [hj, sm_jv, if_pos J]; decide) ⟨sx_v65 (by omega), ?_⟩
      by_cases e : sm_T t q = v
      · refine br_t (by rw [hd', e]) ?_
        have : sm_K t g v = q := by
          rcases Nat.lt_or_ge (sm_K t g v) q with y | y
          · exact absurd e (s5 q y (by omega) J)
          · omega
        rw [this] at h; exact h
      · refine br_f (by rw [hd', nI_eq (by omega) (by omega)]; exact e) (nm_e (ih q (by omega) (by omega) ?_))
        have : ¬ sm_K t g v = q := fun y => e (by rw [← y]; exact s3)
        omega
    · refine br_t (by rw [hj, sm_jv, if_neg J]) (nm_e (ih q (by omega) (by omega) ?_))
      have : ¬ sm_K t g v = q := fun y => J (by rw [← y]; exact s2)
      omega
theorem sx_bracketAt1 {post : Int32 → Prop} {n g v : Nat} (hn : n ≤ 64) (hg : g ≤ n) {fs fu fb : Int32} {t am ae ad ai aj ay ap au ab : Nat → Int32} (X : sm_XR t n fs fu am ae ad ai aj ay ap au ab) (hv : v < sm_T t g) (h : post (nI (sm_K t g v))) : wpX_bracketAt post (nI n, fs, fu, fb, t, am, ae, ad, ai, aj, ay, ap, au, ab) (nI g) (nI v) := by
  have k : (nI g).toNatClampNeg = g := sx_cl (by omega)
  have hT := sm_Tle t g
  unfold wpX_bracketAt
  refine sx_g1 hn hg (br_f (by decide) (br_f (nI_pos (by omega)) ⟨sx_v65 (by omega), br_t (by rw [k, X.2.2.1 g hg]; exact nI_lt hv (by omega)) (nm_r (sx_s1 _) ⟨g + 1, ?_⟩)⟩))
  exact sx_b31 hn hg X hv h (g + 1) g (Nat.le_refl g) (by omega) (sm_stk t g v hv).1
theorem sx_bracketAt2 {post : Int32 → Prop} {n g : Nat} {w : Int32} (hn : n ≤ 64) (hg : g ≤ n) {fs fu fb : Int32} {t am ae ad ai aj ay ap au ab : Nat → Int32} (X : sm_XR t n fs fu am ae ad ai aj ay ap au ab) (hw : w < 0 ∨ (¬ w < 0 ∧ ¬ w < nI (sm_T t g))) (h : post (-2)) : wpX_bracketAt post (nI n, fs, fu, fb, t, am, ae, ad, ai, aj, ay, ap, au, ab) (nI g) w := by
  have k : (nI g).toNatClampNeg = g := sx_cl (by omega)
  unfold wpX_bracketAt
  refine sx_g1 hn hg (br_f (by decide) ?_)
  rcases hw with z | ⟨z, y⟩
  · exact br_t z h
  · exact br_f z ⟨sx_v65 (by omega), br_f (by rw [k, X.2.2.1 g hg]; exact y) h⟩
theorem sy_bracketAt1 {post : Int32 → SY → Prop} {n g v : Nat} (hn : n ≤ 64) (hg : g ≤ n) {tp : Int32} {t bm be bd bp bj bc by_ bk : Nat → Int32} (hv : v < sm_T t g) (h : ∀ (tp : Int32) (bm be bd bp bj bc by_ bk : Nat → Int32), post (nI (sm_K t g v)) (nI n, tp, t, bm, be, bd, bp, bj, bc, by_, bk)) : wpY_bracketAt post (nI n, tp, t, bm, be, bd, bp, bj, bc, by_, bk) (nI g) (nI v) := by
  have hT := sm_Tle t g
  unfold wpY_bracketAt
  refine sy_g1 hn hg (br_t rfl (sy_read (by omega) ?_))
  intro tp bm be bd bp bj bc by_ bk Y
  refine br_f (nI_pos (by omega)) (br_t (by rw [Y.1]; exact nI_lt hv (by omega)) ⟨sx_v64 (by omega), ?_⟩)
  rw [sx_cl (by omega), Y.2.2.2.2.2.2.2.2 v hv]
  exact h _ _ _ _ _ _ _ _ _
theorem sy_bracketAt2 {post : Int32 → SY → Prop} {n g : Nat} {w : Int32} (hn : n ≤ 64) (hg : g ≤ n) {tp : Int32} {t bm be bd bp bj bc by_ bk : Nat → Int32} (hw : w < 0 ∨ (¬ w < 0 ∧ ¬ w < nI (sm_T t g))) (h : ∀ (tp : Int32) (bm be bd bp bj bc by_ bk : Nat → Int32), post (-2) (nI n, tp, t, bm, be, bd, bp, bj, bc, by_, bk)) : wpY_bracketAt post (nI n, tp, t, bm, be, bd, bp, bj, bc, by_, bk) (nI g) w := by
  unfold wpY_bracketAt
  refine sy_g1 hn hg (br_t rfl (sy_read (by omega) ?_))
  intro tp bm be bd bp bj bc by_ bk Y
  rcases hw with z | ⟨z, y⟩
  · exact br_t z (h _ _ _ _ _ _ _ _ _)
  · exact br_f z (br_f (by rw [Y.1]; exact y) (h _ _ _ _ _ _ _ _ _))
