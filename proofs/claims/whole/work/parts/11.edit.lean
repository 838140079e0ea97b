/-! 11: the edits on both sides. Written by wip/whole/gen11.py -/
def sm_bk0 (v : Int32) : Prop := v < 0 ∨ (¬ v < 0 ∧ 7 < v)
theorem sx_k1 {post : Int32 → Prop} {n : Nat} {v : Int32} (hb : ¬ sm_bk0 v) {fs fu fb : Int32} {t am ae ad ai aj ay ap au ab : Nat → Int32} (h : post 1) : wpX_isKind post (nI n, fs, fu, fb, t, am, ae, ad, ai, aj, ay, ap, au, ab) v :=
  br_f (fun z => hb (Or.inl z)) (br_f (fun z => hb (Or.inr ⟨fun y => hb (Or.inl y), z⟩)) h)
theorem sx_k0 {post : Int32 → Prop} {n : Nat} {v : Int32} (hb : sm_bk0 v) {fs fu fb : Int32} {t am ae ad ai aj ay ap au ab : Nat → Int32} (h : post 0) : wpX_isKind post (nI n, fs, fu, fb, t, am, ae, ad, ai, aj, ay, ap, au, ab) v := by
  rcases hb with z | ⟨z, y⟩
  · exact br_t z h
  · exact br_f z (br_t y h)
theorem sx_ins0 {post : Int32 → SX → Prop} {n : Nat} {v w : Int32} (hb : sm_bg0 n v) {fs fu fb : Int32} {t am ae ad ai aj ay ap au ab : Nat → Int32} (h : post (-1) (nI n, fs, fu, fb, t, am, ae, ad, ai, aj, ay, ap, au, ab)) : wpX_insert post (nI n, fs, fu, fb, t, am, ae, ad, ai, aj, ay, ap, au, ab) v w := by
  unfold wpX_insert
  exact sx_g0 hb (br_t rfl h)
theorem sx_ins2 {post : Int32 → SX → Prop} {n g : Nat} {w : Int32} (hn : n ≤ 64) (hg : g ≤ n) (hb : sm_bk0 w) {fs fu fb : Int32} {t am ae ad ai aj ay ap au ab : Nat → Int32} (h : post (-2) (nI n, fs, fu, fb, t, am, ae, ad, ai, aj, ay, ap, au, ab)) : wpX_insert post (nI n, fs, fu, fb, t, am, ae, ad, ai, aj, ay, ap, au, ab) (nI g) w := by
  unfold wpX_insert
  exact sx_g1 hn hg (br_f (by decide) (sx_k0 hb (br_t rfl h)))
theorem sx_ins3 {post : Int32 → SX → Prop} {n g : Nat} {w : Int32} (hn : n ≤ 64) (hg : g ≤ n) (hb : ¬ sm_bk0 w) (h64 : n = 64) {fs fu fb : Int32} {t am ae ad ai aj ay ap au ab : Nat → Int32} (h : post (-3) (nI n, fs, fu, fb, t, am, ae, ad, ai, aj, ay, ap, au, ab)) : wpX_insert post (nI n, fs, fu, fb, t, am, ae, ad, ai, aj, ay, ap, au, ab) (nI g) w := by
  unfold wpX_insert
  exact sx_g1 hn hg (br_f (by decide) (sx_k1 hb (br_f (by decide) (br_f (by rw [h64]; decide) h))))
theorem sy_ins0 {post : Int32 → SY → Prop} {n : Nat} {v w : Int32} (hb : sm_bg0 n v) {tp : Int32} {t bm be bd bp bj bc by_ bk : Nat → Int32} (h : post (-1) (nI n, tp, t, bm, be, bd, bp, bj, bc, by_, bk)) : wpY_insert post (nI n, tp, t, bm, be, bd, bp, bj, bc, by_, bk) v w := by
  unfold wpY_insert
  exact sy_g0 hb (br_f (by decide) h)
theorem sy_ins2 {post : Int32 → SY → Prop} {n g : Nat} {w : Int32} (hn : n ≤ 64) (hg : g ≤ n) (hb : sm_bk0 w) {tp : Int32} {t bm be bd bp bj bc by_ bk : Nat → Int32} (h : post (-2) (nI n, tp, t, bm, be, bd, bp, bj, bc, by_, bk)) : wpY_insert post (nI n, tp, t, bm, be, bd, bp, bj, bc, by_, bk) (nI g) w := by
  unfold wpY_insert
  refine sy_g1 hn hg (br_t rfl ?_)
  rcases hb with z | ⟨z, y⟩
  · exact br_t z h
  · exact br_f z (br_f (Int32.not_le.mpr y) h)
theorem sm_k7 {w : Int32} (hb : ¬ sm_bk0 w) : ¬ w < 0 ∧ w ≤ 7 :=
  ⟨fun z => hb (Or.inl z), Int32.not_lt.mp fun z => hb (Or.inr ⟨fun y => hb (Or.inl y), z⟩)⟩
theorem sy_ins3 {post : Int32 → SY → Prop} {n g : Nat} {w : Int32} (hn : n ≤ 64) (hg : g ≤ n) (hb : ¬ sm_bk0 w) (h64 : n = 64) {tp : Int32} {t bm be bd bp bj bc by_ bk : Nat → Int32} (h : post (-3) (nI n, tp, t, bm, be, bd, bp, bj, bc, by_, bk)) : wpY_insert post (nI n, tp, t, bm, be, bd, bp, bj, bc, by_, bk) (nI g) w := by
  unfold wpY_insert
  exact sy_g1 hn hg (br_t rfl (br_f (sm_k7 hb).1 (br_t (sm_k7 hb).2 (br_f (by rw [h64]; decide) h))))
/-- both sides move the same characters -/
theorem sm_ins {n g : Nat} (hn : n < 64) (hg : g ≤ n) (w : Int32) : ∀ (e : Nat) (t : Nat → Int32), g + e ≤ n → ∃ t' : Nat → Int32,
    (∀ (post : Int32 → SX → Prop) (fs fu fb : Int32) (am ae ad ai aj ay ap au ab : Nat → Int32) (h : ∀ (fs fu fb : Int32) (am ae ad ai aj ay ap au ab : Nat → Int32), sm_XR (upd t' g w) (n + 1) fs fu am ae ad ai aj ay ap au ab → post (nI (n + 1)) (nI (n + 1), fs, fu, fb, upd t' g w, am, ae, ad, ai, aj, ay, ap, au, ab)), wX_insert_38 post (nI g) w (nI n) fs fu fb (e + 1) (nI (g + e)) t am ae ad ai aj ay ap au ab) ∧
    (∀ (post : Int32 → SY → Prop) (tp : Int32) (bm be bd bp bj bc by_ bk : Nat → Int32) (h : post (nI (n + 1)) (nI (n + 1), tp, upd t' g w, bm, be, bd, bp, bj, bc, by_, bk)), wY_insert_40 post (nI g) w (nI n) tp (e + 1) (nI (g + e)) t bm be bd bp bj bc by_ bk) := by
  have kg : (nI g).toNatClampNeg = g := sx_cl (by omega)
  intro e
  induction e with
  | zero =>
    intro t he
    refine ⟨t, fun post fs fu fb am ae ad ai aj ay ap au ab h => br_t (nI_le (Nat.le_refl g) (by omega)) ⟨sx_v64 (by omega), nm_r (e' := upd t g w) (by rw [kg]) (nm_r (nI_1 n) ?_)⟩, fun post tp bm be bd bp bj bc by_ bk h => br_t (nI_le (Nat.le_refl g) (by omega)) ⟨sx_v64 (by omega), nm_r (e' := upd t g w) (by rw [kg]) (nm_r (nI_1 n) h)⟩⟩
    exact sx_read (n := n + 1) (by omega) rfl h
  | succ e ih =>
    intro t he
    obtain ⟨t', hX, hY⟩ := ih (upd t (g + e + 1) (t (g + e))) (by omega)
    have k1 : (nI (g + e + 1)).toNatClampNeg = g + e + 1 := sx_cl (by omega)
    have k0 : (nI (g + e)).toNatClampNeg = g + e := sx_cl (by omega)
    have p1 : nI (g + e + 1) - 1 = nI (g + e) := nI_pred _
    refine ⟨t', fun post fs fu fb am ae ad ai aj ay ap au ab h => ?_, fun post tp bm be bd bp bj bc by_ bk h => ?_⟩
    · exact br_f (nI_ge (a := g) (b := g + e + 1) (by omega) (by omega)) ⟨by show vp_in (nI (g + e + 1) - 1) 64; rw [p1]; exact sx_v64 (by omega), sx_v64 (i := g + e + 1) (by omega), nm_r (e' := upd t (g + e + 1) (t (g + e))) (by show upd t (nI (g + e + 1)).toNatClampNeg (t (nI (g + e + 1) - 1).toNatClampNeg) = _; rw [k1, p1, k0]) (nm_r (sx_m1 (g + e)) (hX post fs fu fb am ae ad ai aj ay ap au ab h))⟩
    · exact br_f (nI_ge (a := g) (b := g + e + 1) (by omega) (by omega)) ⟨by show vp_in (nI (g + e + 1) - 1) 64; rw [p1]; exact sx_v64 (by omega), sx_v64 (i := g + e + 1) (by omega), nm_r (e' := upd t (g + e + 1) (t (g + e))) (by show upd t (nI (g + e + 1)).toNatClampNeg (t (nI (g + e + 1) - 1).toNatClampNeg) = _; rw [k1, p1, k0]) (nm_r (sx_m1 (g + e)) (hY post tp bm be bd bp bj bc by_ bk h))⟩
theorem sx_ins1 {post : Int32 → SX → Prop} {n g : Nat} {w : Int32} (hn : n < 64) (hg : g ≤ n) (hb : ¬ sm_bk0 w) {fs fu fb : Int32} {t am ae ad ai aj ay ap au ab : Nat → Int32} (d : Nat) (h : wX_insert_38 post (nI g) w (nI n) fs fu fb d (nI n) t am ae ad ai aj ay ap au ab) : wpX_insert post (nI n, fs, fu, fb, t, am, ae, ad, ai, aj, ay, ap, au, ab) (nI g) w := by
  unfold wpX_insert
  exact sx_g1 (by omega) hg (br_f (by decide) (sx_k1 hb (br_f (by decide) (br_t (nI_lt (a := n) (b := 64) hn (by omega)) ⟨d, h⟩))))
theorem sy_ins1 {post : Int32 → SY → Prop} {n g : Nat} {w : Int32} (hn : n < 64) (hg : g ≤ n) (hb : ¬ sm_bk0 w) {tp : Int32} {t bm be bd bp bj bc by_ bk : Nat → Int32} (d : Nat) (h : wY_insert_40 post (nI g) w (nI n) tp d (nI n) t bm be bd bp bj bc by_ bk) : wpY_insert post (nI n, tp, t, bm, be, bd, bp, bj, bc, by_, bk) (nI g) w := by
  unfold wpY_insert
  exact sy_g1 (by omega) hg (br_t rfl (br_f (sm_k7 hb).1 (br_t (sm_k7 hb).2 (br_t (nI_lt (a := n) (b := 64) hn (by omega)) ⟨d, h⟩))))
theorem sx_set0 {post : Int32 → SX → Prop} {n : Nat} {v w : Int32} (hb : sm_bp0 n v) {fs fu fb : Int32} {t am ae ad ai aj ay ap au ab : Nat → Int32} (h : post (-1) (nI n, fs, fu, fb, t, am, ae, ad, ai, aj, ay, ap, au, ab)) : wpX_set post (nI n, fs, fu, fb, t, am, ae, ad, ai, aj, ay, ap, au, ab) v w := by
  unfold wpX_set
  exact sx_p0 hb (br_t rfl h)
theorem sx_set2 {post : Int32 → SX → Prop} {n g : Nat} {w : Int32} (hn : n ≤ 64) (hg : g < n) (hb : sm_bk0 w) {fs fu fb : Int32} {t am ae ad ai aj ay ap au ab : Nat → Int32} (h : post (-2) (nI n, fs, fu, fb, t, am, ae, ad, ai, aj, ay, ap, au, ab)) : wpX_set post (nI n, fs, fu, fb, t, am, ae, ad, ai, aj, ay, ap, au, ab) (nI g) w := by
  unfold wpX_set
  exact sx_p1 hn hg (br_f (by decide) (sx_k0 hb (br_t rfl h)))
theorem sx_set1 {post : Int32 → SX → Prop} {n g : Nat} {w : Int32} (hn : n ≤ 64) (hg : g < n) (hb : ¬ sm_bk0 w) {fs fu fb : Int32} {t am ae ad ai aj ay ap au ab : Nat → Int32} (h : ∀ (fs fu fb : Int32) (am ae ad ai aj ay ap au ab : Nat → Int32), sm_XR (upd t g w) n fs fu am ae ad ai aj ay ap au ab → post (t g) (nI n, fs, fu, fb, upd t g w, am, ae, ad, ai, aj, ay, ap, au, ab)) : wpX_set post (nI n, fs, fu, fb, t, am, ae, ad, ai, aj, ay, ap, au, ab) (nI g) w := by
  have k : (nI g).toNatClampNeg = g := sx_cl (by omega)
  unfold wpX_set
  refine sx_p1 hn hg (br_f (by decide) (sx_k1 hb (br_f (by decide) ⟨sx_v64 (by omega), nm_r (e' := t g) (by rw [k]) ⟨sx_v64 (by omega), nm_r (e' := upd t g w) (by rw [k]) ?_⟩⟩)))
  exact sx_read hn rfl h
theorem sy_set0 {post : Int32 → SY → Prop} {n : Nat} {v w : Int32} (hb : sm_bp0 n v) {tp : Int32} {t bm be bd bp bj bc by_ bk : Nat → Int32} (h : post (-1) (nI n, tp, t, bm, be, bd, bp, bj, bc, by_, bk)) : wpY_set post (nI n, tp, t, bm, be, bd, bp, bj, bc, by_, bk) v w := by
  unfold wpY_set
  exact sy_p0 hb (br_f (by decide) h)
theorem sy_set2 {post : Int32 → SY → Prop} {n g : Nat} {w : Int32} (hn : n ≤ 64) (hg : g < n) (hb : sm_bk0 w) {tp : Int32} {t bm be bd bp bj bc by_ bk : Nat → Int32} (h : post (-2) (nI n, tp, t, bm, be, bd, bp, bj, bc, by_, bk)) : wpY_set post (nI n, tp, t, bm, be, bd, bp, bj, bc, by_, bk) (nI g) w := by
  unfold wpY_set
  refine sy_p1 hn hg (br_t rfl ?_)
  rcases hb with z | ⟨z, y⟩
  · exact br_t z h
  · exact br_f z (br_f (Int32.not_le.mpr y) h)
theorem sy_set1 {post : Int32 → SY → Prop} {n g : Nat} {w : Int32} (hn : n ≤ 64) (hg : g < n) (hb : ¬ sm_bk0 w) {tp : Int32} {t bm be bd bp bj bc by_ bk : Nat → Int32} (h : post (t g) (nI n, tp, upd t g w, bm, be, bd, bp, bj, bc, by_, bk)) : wpY_set post (nI n, tp, t, bm, be, bd, bp, bj, bc, by_, bk) (nI g) w := by
  have k : (nI g).toNatClampNeg = g := sx_cl (by omega)
  unfold wpY_set
  exact sy_p1 hn hg (br_t rfl (br_f (sm_k7 hb).1 (br_t (sm_k7 hb).2 ⟨sx_v64 (by omega), nm_r (e' := t g) (by rw [k]) ⟨sx_v64 (by omega), nm_r (e' := upd t g w) (by rw [k]) h⟩⟩)))
theorem sx_sub {a b : Nat} (h : b ≤ a) : nI a - nI b = nI (a - b) := by
  obtain ⟨c, rfl⟩ : ∃ c, a = c + b := ⟨a - b, by omega⟩
  rw [← nI_add, Int32.add_sub_cancel, Nat.add_sub_cancel]
theorem sm_del {n r : Nat} (hn : n ≤ 64) (hr : r ≤ n) : ∀ (e a : Nat) (t : Nat → Int32), a + r + e = n → ∃ t' : Nat → Int32,
    (∀ (post : Int32 → SX → Prop) (fs fu fb : Int32) (am ae ad ai aj ay ap au ab : Nat → Int32) (h : ∀ (fs fu fb : Int32) (am ae ad ai aj ay ap au ab : Nat → Int32), sm_XR (t') (n - r) fs fu am ae ad ai aj ay ap au ab → post (nI (n - r)) (nI (n - r), fs, fu, fb, t', am, ae, ad, ai, aj, ay, ap, au, ab)), wX_delete_26 post (nI r) (nI n) fs fu fb (e + 1) (nI (a + r)) t am ae ad ai aj ay ap au ab) ∧
    (∀ (post : Int32 → SY → Prop) (tp : Int32) (bm be bd bp bj bc by_ bk : Nat → Int32) (h : post (nI (n - r)) (nI (n - r), tp, t', bm, be, bd, bp, bj, bc, by_, bk)), wY_delete_26 post (nI r) (nI n) tp (e + 1) (nI a) t bm be bd bp bj bc by_ bk) := by
  intro e
  induction e with
  | zero =>
    intro a t ha
    have q : a + r = n := by omega
    refine ⟨t, fun post fs fu fb am ae ad ai aj ay ap au ab h => br_t (by rw [q]; exact nI_le (Nat.le_refl n) (by omega)) (nm_r (sx_sub hr) ?_), fun post tp bm be bd bp bj bc by_ bk h => br_t (by rw [nI_add, q]; exact nI_le (Nat.le_refl n) (by omega)) (nm_r (sx_sub hr) h)⟩
    exact sx_read (n := n - r) (by omega) rfl h
  | succ e ih =>
    intro a t ha
    obtain ⟨t', hX, hY⟩ := ih (a + 1) (upd t a (t (a + r))) (by omega)
    have ka : (nI a).toNatClampNeg = a := sx_cl (by omega)
    have k1 : (nI (a + r)).toNatClampNeg = a + r := sx_cl (by omega)
    have p1 : nI (a + r) - nI r = nI a := by rw [sx_sub (by omega), Nat.add_sub_cancel]
    rw [show a + 1 + r = a + r + 1 by omega] at hX
    refine ⟨t', fun post fs fu fb am ae ad ai aj ay ap au ab h => ?_, fun post tp bm be bd bp bj bc by_ bk h => ?_⟩
    · exact br_f (nI_ge (by omega) (by omega)) ⟨sx_v64 (by omega), by rw [p1]; exact sx_v64 (by omega), nm_r (e' := upd t a (t (a + r))) (by rw [p1, ka, k1]) (nm_r (nI_1 (a + r)) (hX post fs fu fb am ae ad ai aj ay ap au ab h))⟩
    · exact br_f (by rw [nI_add]; exact nI_ge (by omega) (by omega)) (br_f (by rw [nI_add]; exact nI_ge (a := a + r) (b := 64) (by omega) (by omega)) ⟨by rw [nI_add]; exact sx_v64 (by omega), sx_v64 (by omega), nm_r (e' := upd t a (t (a + r))) (by rw [nI_add, ka, k1]) (nm_r (nI_1 a) (hY post tp bm be bd bp bj bc by_ bk h))⟩)
