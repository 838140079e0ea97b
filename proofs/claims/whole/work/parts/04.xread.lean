/-! 04: the component reads its text: each own method with a general post, then the loop. Written by wip/whole/gen04.py -/
theorem sx_n0 : vp_nar .boolean 0 = 0 := rfl
theorem sx_n1 : vp_nar .boolean 1 = 1 := rfl
theorem sx_cl {i : Nat} (h : i < 65) : (nI i).toNatClampNeg = i := nI_clamp (by omega)
theorem sx_v64 {i : Nat} (h : i < 64) : vp_in (nI i) 64 := vp_in_nI h (by omega)
theorem sx_v65 {i : Nat} (h : i < 65) : vp_in (nI i) 65 := vp_in_nI h (by omega)
theorem sx_v65' {i : Nat} (h : i < 64) : vp_in (nI i + 1) 65 := by rw [nI_1]; exact vp_in_nI (by omega) (by omega)
theorem sx_cl' {i : Nat} (h : i < 64) : (nI i + 1).toNatClampNeg = i + 1 := by rw [nI_1]; exact nI_clamp (by omega)
theorem sx_start {post : SX → Prop} {c fs fu fb : Int32} {t am ae ad ai aj ay ap au ab : Nat → Int32} (h : post (c, 0, 0, fb, t, upd am 0 0, upd ae 0 0, upd ad 0 0, upd ai 0 (-1), aj, ay, ap, au, ab)) : wpX_startReading post (c, fs, fu, fb, t, am, ae, ad, ai, aj, ay, ap, au, ab) :=
  nm_e (nm_r (e' := upd ae 0 0) (by rw [sx_n0]) (nm_e (nm_e h)))
theorem sx_forget {post : SX → Prop} {i : Nat} (hi : i < 64) {c fs fu fb : Int32} {t am ae ad ai aj ay ap au ab : Nat → Int32} (h : post (c, fs, fu, fb, t, am, ae, ad, ai, upd aj i 0, upd ay i 0, upd ap i (-1), upd au i (-1), upd ab i (-1))) : wpX_forgetCharacter post (c, fs, fu, fb, t, am, ae, ad, ai, aj, ay, ap, au, ab) (nI i) :=
  have v := sx_v64 hi
  have k : (nI i).toNatClampNeg = i := sx_cl (by omega)
  ⟨v, nm_r (e' := upd aj i 0) (by rw [k, sx_n0]) ⟨v, nm_r (e' := upd ay i 0) (by rw [k, sx_n0]) ⟨v, nm_r (e' := upd ap i (-1)) (by rw [k]) ⟨v, nm_r (e' := upd au i (-1)) (by rw [k]) ⟨v, nm_r (e' := upd ab i (-1)) (by rw [k]) h⟩⟩⟩⟩⟩
theorem sx_carry {post : SX → Prop} {i : Nat} (hi : i < 64) {c fs fu fb : Int32} {t am ae ad ai aj ay ap au ab : Nat → Int32} (h : post (c, fs, fu, fb, t, upd am (i + 1) (am i), upd ae (i + 1) 0, upd ad (i + 1) (ad i), upd ai (i + 1) (ai i), aj, ay, ap, au, ab)) : wpX_carryState post (c, fs, fu, fb, t, am, ae, ad, ai, aj, ay, ap, au, ab) (nI i) :=
  have v := sx_v65 (i := i) (by omega)
  have w := sx_v65' hi
  have k : (nI i).toNatClampNeg = i := sx_cl (by omega)
  have k1 : (nI i + 1).toNatClampNeg = i + 1 := sx_cl' hi
  ⟨v, w, nm_r (e' := upd am (i + 1) (am i)) (by rw [k, k1]) ⟨w, nm_r (e' := upd ae (i + 1) 0) (by rw [k1, sx_n0]) ⟨v, w, nm_r (e' := upd ad (i + 1) (ad i)) (by rw [k, k1]) ⟨v, w, nm_r (e' := upd ai (i + 1) (ai i)) (by rw [k, k1]) h⟩⟩⟩⟩
theorem sx_open {post : SX → Prop} {i : Nat} (hi : i < 64) {c fs fu fb : Int32} {t am ae ad ai aj ay ap au ab : Nat → Int32} (h : post (c, fs, fu, fb, t, am, ae, upd ad (i + 1) (ad i + 1), upd ai (i + 1) (nI i), upd aj i 1, ay, ap, au, ab)) : wpX_openBracket post (c, fs, fu, fb, t, am, ae, ad, ai, aj, ay, ap, au, ab) (nI i) :=
  have v := sx_v65 (i := i) (by omega)
  have v0 := sx_v64 hi
  have w := sx_v65' hi
  have k : (nI i).toNatClampNeg = i := sx_cl (by omega)
  have k1 : (nI i + 1).toNatClampNeg = i + 1 := sx_cl' hi
  ⟨v0, nm_r (e' := upd aj i 1) (by rw [k, sx_n1]) ⟨w, nm_r (e' := upd ai (i + 1) (nI i)) (by rw [k1]) ⟨v, w, nm_r (e' := upd ad (i + 1) (ad i + 1)) (by rw [k, k1]) h⟩⟩⟩
theorem sx_add {post : SX → Prop} {b e : Nat} (hb : b < 64) (he : e < 64) {c fs fu fb : Int32} {t am ae ad ai aj ay ap au ab : Nat → Int32} (h : post (c, fs, fu + 1, fb, t, am, ae, ad, ai, aj, ay, ap, upd au b (nI e), upd ab e (nI b))) : wpX_addUnit post (c, fs, fu, fb, t, am, ae, ad, ai, aj, ay, ap, au, ab) (nI b) (nI e) :=
  have k : (nI b).toNatClampNeg = b := sx_cl (by omega)
  have k1 : (nI e).toNatClampNeg = e := sx_cl (by omega)
  ⟨sx_v64 hb, nm_r (e' := upd au b (nI e)) (by rw [k]) ⟨sx_v64 he, nm_r (e' := upd ab e (nI b)) (by rw [k1]) (nm_e h)⟩⟩
theorem sx_close_s {post : SX → Prop} {i : Nat} (hi : i < 64) {c fs fu fb : Int32} {t am ae ad ai aj ay ap au ab : Nat → Int32} (hs : ai i = -1) (h : post (c, fs + 1, fu, fb, t, am, ae, ad, ai, aj, upd ay i 1, ap, au, ab)) : wpX_closeBracket post (c, fs, fu, fb, t, am, ae, ad, ai, aj, ay, ap, au, ab) (nI i) :=
  have v := sx_v65 (i := i) (by omega)
  have k : (nI i).toNatClampNeg = i := sx_cl (by omega)
  ⟨v, nm_r (e' := -1) (by rw [k]; exact hs) (br_t rfl ⟨sx_v64 hi, nm_r (e' := upd ay i 1) (by rw [k, sx_n1]) (nm_e h)⟩)⟩
theorem sx_close_p {post : SX → Prop} {i o : Nat} (hi : i < 64) (ho : o < 64) {c fs fu fb : Int32} {t am ae ad ai aj ay ap au ab : Nat → Int32} (hs : ai i = nI o) (h : post (c, fs, fu + 1, fb, t, am, ae, upd ad (i + 1) (ad i - 1), upd ai (i + 1) (ai o), aj, ay, upd (upd ap o (nI i)) i (nI o), upd au o (nI i), upd ab i (nI o))) : wpX_closeBracket post (c, fs, fu, fb, t, am, ae, ad, ai, aj, ay, ap, au, ab) (nI i) :=
  have v := sx_v65 (i := i) (by omega)
  have w := sx_v65' hi
  have v0 := sx_v64 hi
  have k : (nI i).toNatClampNeg = i := sx_cl (by omega)
  have k1 : (nI i + 1).toNatClampNeg = i + 1 := sx_cl' hi
  have ko : (nI o).toNatClampNeg = o := sx_cl (by omega)
  ⟨v, nm_r (e' := nI o) (by rw [k]; exact hs) (br_f (sm_nn (by omega)) ⟨sx_v64 ho, nm_r (e' := upd ap o (nI i)) (by rw [ko]) ⟨v0, nm_r (e' := upd (upd ap o (nI i)) i (nI o)) (by rw [k]) ⟨sx_v65 (by omega), w, nm_r (e' := upd ai (i + 1) (ai o)) (by rw [k1, ko]) ⟨v, w, nm_r (e' := upd ad (i + 1) (ad i - 1)) (by rw [k, k1]) (sx_add ho hi h)⟩⟩⟩⟩)⟩
theorem sx_pl2 {post : SX → Prop} {i : Nat} (hi : i < 64) {c fs fu fb : Int32} {t am ae ad ai aj ay ap au ab : Nat → Int32} (ht : t i = 2) (h : post (c, fs, fu, fb, t, am, ae, upd ad (i + 1) (ad i + 1), upd ai (i + 1) (nI i), upd aj i 1, ay, ap, au, ab)) : wpX_readInPlain post (c, fs, fu, fb, t, am, ae, ad, ai, aj, ay, ap, au, ab) (nI i) :=
  have k : (nI i).toNatClampNeg = i := sx_cl (by omega)
  ⟨sx_v64 hi, nm_r (e' := 2) (by rw [k]; exact ht) (br_f (by decide) (br_f (by decide) (br_t rfl (sx_open hi h))))⟩
theorem sx_pl3s {post : SX → Prop} {i : Nat} (hi : i < 64) {c fs fu fb : Int32} {t am ae ad ai aj ay ap au ab : Nat → Int32} (ht : t i = 3) (hs : ai i = -1) (h : post (c, fs + 1, fu, fb, t, am, ae, ad, ai, aj, upd ay i 1, ap, au, ab)) : wpX_readInPlain post (c, fs, fu, fb, t, am, ae, ad, ai, aj, ay, ap, au, ab) (nI i) :=
  have k : (nI i).toNatClampNeg = i := sx_cl (by omega)
  ⟨sx_v64 hi, nm_r (e' := 3) (by rw [k]; exact ht) (br_f (by decide) (br_f (by decide) (br_f (by decide) (br_t rfl (sx_close_s hi hs h)))))⟩
theorem sx_pl3p {post : SX → Prop} {i : Nat} (hi : i < 64) {c fs fu fb : Int32} {t am ae ad ai aj ay ap au ab : Nat → Int32} {o : Nat} (ho : o < 64) (ht : t i = 3) (hs : ai i = nI o) (h : post (c, fs, fu + 1, fb, t, am, ae, upd ad (i + 1) (ad i - 1), upd ai (i + 1) (ai o), aj, ay, upd (upd ap o (nI i)) i (nI o), upd au o (nI i), upd ab i (nI o))) : wpX_readInPlain post (c, fs, fu, fb, t, am, ae, ad, ai, aj, ay, ap, au, ab) (nI i) :=
  have k : (nI i).toNatClampNeg = i := sx_cl (by omega)
  ⟨sx_v64 hi, nm_r (e' := 3) (by rw [k]; exact ht) (br_f (by decide) (br_f (by decide) (br_f (by decide) (br_t rfl (sx_close_p hi ho hs h)))))⟩
theorem sx_pl4 {post : SX → Prop} {i : Nat} (hi : i < 64) {c fs fu fb : Int32} {t am ae ad ai aj ay ap au ab : Nat → Int32} (ht : t i = 4) (h : post (c, fs, fu, nI i, t, upd am (i + 1) 1, ae, ad, ai, aj, ay, ap, au, ab)) : wpX_readInPlain post (c, fs, fu, fb, t, am, ae, ad, ai, aj, ay, ap, au, ab) (nI i) :=
  have k : (nI i).toNatClampNeg = i := sx_cl (by omega)
  ⟨sx_v64 hi, nm_r (e' := 4) (by rw [k]; exact ht) (br_f (by decide) (br_f (by decide) (br_f (by decide) (br_f (by decide) (br_t rfl ⟨sx_v65' hi, nm_r (e' := upd am (i + 1) 1) (by rw [sx_cl' hi]) h⟩)))))⟩
theorem sx_pl5 {post : SX → Prop} {i : Nat} (hi : i < 64) {c fs fu fb : Int32} {t am ae ad ai aj ay ap au ab : Nat → Int32} (ht : t i = 5) (h : post (c, fs, fu, fb, t, am, upd ae (i + 1) 1, ad, ai, aj, ay, ap, au, ab)) : wpX_readInPlain post (c, fs, fu, fb, t, am, ae, ad, ai, aj, ay, ap, au, ab) (nI i) :=
  have k : (nI i).toNatClampNeg = i := sx_cl (by omega)
  ⟨sx_v64 hi, nm_r (e' := 5) (by rw [k]; exact ht) (br_f (by decide) (br_f (by decide) (br_f (by decide) (br_f (by decide) (br_f (by decide) (br_t rfl ⟨sx_v65' hi, nm_r (e' := upd ae (i + 1) 1) (by rw [sx_cl' hi, sx_n1]) h⟩))))))⟩
theorem sx_pl6 {post : SX → Prop} {i : Nat} (hi : i < 64) {c fs fu fb : Int32} {t am ae ad ai aj ay ap au ab : Nat → Int32} (ht : t i = 6) (h : post (c, fs, fu, fb, t, upd am (i + 1) 2, ae, ad, ai, aj, ay, ap, au, ab)) : wpX_readInPlain post (c, fs, fu, fb, t, am, ae, ad, ai, aj, ay, ap, au, ab) (nI i) :=
  have k : (nI i).toNatClampNeg = i := sx_cl (by omega)
  ⟨sx_v64 hi, nm_r (e' := 6) (by rw [k]; exact ht) (br_f (by decide) (br_f (by decide) (br_f (by decide) (br_f (by decide) (br_f (by decide) (br_f (by decide) (br_t rfl ⟨sx_v65' hi, nm_r (e' := upd am (i + 1) 2) (by rw [sx_cl' hi]) h⟩)))))))⟩
theorem sx_pl0 {post : SX → Prop} {i : Nat} (hi : i < 64) {c fs fu fb : Int32} {t am ae ad ai aj ay ap au ab : Nat → Int32} (h2 : ¬ t i = 2) (h3 : ¬ t i = 3) (h4 : ¬ t i = 4) (h5 : ¬ t i = 5) (h6 : ¬ t i = 6) (h : post (c, fs, fu, fb, t, am, ae, ad, ai, aj, ay, ap, au, ab)) : wpX_readInPlain post (c, fs, fu, fb, t, am, ae, ad, ai, aj, ay, ap, au, ab) (nI i) :=
  have k : (nI i).toNatClampNeg = i := sx_cl (by omega)
  ⟨sx_v64 hi, nm_r (e' := t i) (by rw [k]) (br_c (fun _ => h) (fun _ => br_c (fun _ => h) (fun _ => br_f h2 (br_f h3 (br_f h4 (br_f h5 (br_f h6 trivial)))))))⟩
theorem sx_st4 {post : SX → Prop} {i : Nat} (hi : i < 64) {c fs fu fb : Int32} {t am ae ad ai aj ay ap au ab : Nat → Int32} {b : Nat} (hb : b < 64) (hf : fb = nI b) (ht : t i = 4) (h : post (c, fs, fu + 1, fb, t, upd am (i + 1) 0, ae, ad, ai, aj, ay, ap, upd au b (nI i), upd ab i (nI b))) : wpX_readInString post (c, fs, fu, fb, t, am, ae, ad, ai, aj, ay, ap, au, ab) (nI i) :=
  have k : (nI i).toNatClampNeg = i := sx_cl (by omega)
  ⟨sx_v64 hi, br_t (by rw [k]; exact ht) ⟨sx_v65' hi, nm_r (e' := upd am (i + 1) 0) (by rw [sx_cl' hi]) (by subst hf; exact sx_add hb hi h)⟩⟩
theorem sx_st5 {post : SX → Prop} {i : Nat} (hi : i < 64) {c fs fu fb : Int32} {t am ae ad ai aj ay ap au ab : Nat → Int32} (ht : t i = 5) (h : post (c, fs, fu, fb, t, am, upd ae (i + 1) 1, ad, ai, aj, ay, ap, au, ab)) : wpX_readInString post (c, fs, fu, fb, t, am, ae, ad, ai, aj, ay, ap, au, ab) (nI i) :=
  have k : (nI i).toNatClampNeg = i := sx_cl (by omega)
  ⟨sx_v64 hi, br_f (by rw [k, ht]; decide) ⟨sx_v64 hi, br_t (by rw [k]; exact ht) ⟨sx_v65' hi, nm_r (e' := upd ae (i + 1) 1) (by rw [sx_cl' hi, sx_n1]) h⟩⟩⟩
theorem sx_st0 {post : SX → Prop} {i : Nat} (hi : i < 64) {c fs fu fb : Int32} {t am ae ad ai aj ay ap au ab : Nat → Int32} (h4 : ¬ t i = 4) (h5 : ¬ t i = 5) (h : post (c, fs, fu, fb, t, am, ae, ad, ai, aj, ay, ap, au, ab)) : wpX_readInString post (c, fs, fu, fb, t, am, ae, ad, ai, aj, ay, ap, au, ab) (nI i) :=
  have k : (nI i).toNatClampNeg = i := sx_cl (by omega)
  ⟨sx_v64 hi, br_f (by rw [k]; exact h4) ⟨sx_v64 hi, br_f (by rw [k]; exact h5) h⟩⟩
theorem sx_rm7 {post : SX → Prop} {i : Nat} (hi : i < 64) {c fs fu fb : Int32} {t am ae ad ai aj ay ap au ab : Nat → Int32} (ht : t i = 7) (h : post (c, fs, fu, fb, t, upd am (i + 1) 0, ae, ad, ai, aj, ay, ap, au, ab)) : wpX_readInRemark post (c, fs, fu, fb, t, am, ae, ad, ai, aj, ay, ap, au, ab) (nI i) :=
  have k : (nI i).toNatClampNeg = i := sx_cl (by omega)
  ⟨sx_v64 hi, br_t (by rw [k]; exact ht) ⟨sx_v65' hi, nm_r (e' := upd am (i + 1) 0) (by rw [sx_cl' hi]) h⟩⟩
theorem sx_rm0 {post : SX → Prop} {i : Nat} (hi : i < 64) {c fs fu fb : Int32} {t am ae ad ai aj ay ap au ab : Nat → Int32} (h7 : ¬ t i = 7) (h : post (c, fs, fu, fb, t, am, ae, ad, ai, aj, ay, ap, au, ab)) : wpX_readInRemark post (c, fs, fu, fb, t, am, ae, ad, ai, aj, ay, ap, au, ab) (nI i) :=
  have k : (nI i).toNatClampNeg = i := sx_cl (by omega)
  ⟨sx_v64 hi, br_f (by rw [k]; exact h7) h⟩
