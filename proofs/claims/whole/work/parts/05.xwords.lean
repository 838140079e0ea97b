/-! 05: the component's words, and its whole reading. Written by wip/whole/gen05.py -/
def sm_jv (t : Nat → Int32) (j : Nat) : Int32 := if sm_J t j then 1 else 0
def sm_yv (t : Nat → Int32) (j : Nat) : Int32 := if sm_C t j ∧ sm_T t j = 0 then 1 else 0
def sm_bg (t : Nat → Int32) (i : Nat) : Int32 := if sm_fb t i = i then -1 else nI (sm_fb t i)
def sm_XF (t : Nat → Int32) (n i : Nat) (fu : Int32) (au ab : Nat → Int32) : Prop := (∀ j, j < n → au j = sm_FU t n i j) ∧ (∀ j, j < n → ab j = sm_FB t n i j) ∧ fu = nI (sm_cn (sm_FU t n i) n)
def sm_XI (t : Nat → Int32) (n i : Nat) (fs fu fb : Int32) (am ae ad ai aj ay ap au ab : Nat → Int32) : Prop :=
  (∀ j, j ≤ i → am j = sm_M t j) ∧ (∀ j, j ≤ i → ae j = sm_E t j) ∧ (∀ j, j ≤ i → ad j = nI (sm_T t j)) ∧ (∀ j, j ≤ i → ai j = sm_I t j) ∧
  (∀ j, j < i → aj j = sm_jv t j) ∧ (∀ j, j < i → ay j = sm_yv t j) ∧ (∀ j, j < i → ap j = sm_PA t i j) ∧ (∀ j, j < i → au j = sm_SU t i j) ∧ (∀ j, j < i → ab j = sm_SB t i j) ∧
  fs = nI (sm_SC t i) ∧ fu = nI (sm_cn (sm_SU t i) n) ∧ (sm_M t i = 1 → fb = nI (sm_sb t i))
def sm_XR (t : Nat → Int32) (n : Nat) (fs fu : Int32) (am ae ad ai aj ay ap au ab : Nat → Int32) : Prop :=
  (∀ j, j ≤ n → am j = sm_M t j) ∧ (∀ j, j ≤ n → ae j = sm_E t j) ∧ (∀ j, j ≤ n → ad j = nI (sm_T t j)) ∧ (∀ j, j ≤ n → ai j = sm_I t j) ∧
  (∀ j, j < n → aj j = sm_jv t j) ∧ (∀ j, j < n → ay j = sm_yv t j) ∧ (∀ j, j < n → ap j = sm_PA t n j) ∧ (∀ j, j < n → au j = sm_FU t n n j) ∧ (∀ j, j < n → ab j = sm_FB t n n j) ∧
  fs = nI (sm_SC t n) ∧ fu = nI (sm_cn (sm_FU t n n) n)
theorem sx_wp {post : Int32 → Prop} {i : Nat} (hi : i < 64) {c fs fu fb : Int32} {t am ae ad ai aj ay ap au ab : Nat → Int32} (hm : am i = sm_M t i) (he : ae i = sm_E t i) (hW : sm_W t i → post 1) (hN : ¬ sm_W t i → post 0) : wpX_isWordPart post (c, fs, fu, fb, t, am, ae, ad, ai, aj, ay, ap, au, ab) (nI i) := by
  have k : (nI i).toNatClampNeg = i := sx_cl (by omega)
  have v := sx_v65 (i := i) (by omega)
  have v0 := sx_v64 hi
  have w28 : (¬ sm_E t i = 0 ∨ t i = 0 ∨ t i = 5) → wX_isWordPart_28 post (nI i) c fs fu fb t am ae ad ai aj ay ap au ab := fun hx =>
    br_f (by decide) ⟨v, br_c (fun z => hW ⟨by rw [k, hm] at z; exact z, hx⟩) (fun z => hN (fun y => z (by rw [k, hm]; exact y.1)))⟩
  refine ⟨v, br_c (fun z => ⟨v0, br_c (fun z1 => w28 (Or.inr (Or.inl (by rw [k] at z1; exact z1)))) (fun z1 => ⟨v0, br_c (fun z2 => w28 (Or.inr (Or.inr (by rw [k] at z2; exact z2)))) (fun z2 => br_t rfl (hN fun y => ?_))⟩)⟩) (fun z => w28 (Or.inl (by rw [k, he] at z; exact z)))⟩
  rw [k] at z z1 z2
  rcases y.2 with q | q | q
  · exact q (he.symm.trans z)
  · exact z1 q
  · exact z2 q
theorem sx_we {post : Int32 → Prop} {n i : Nat} (hn : n ≤ 64) (hi : i < n) {c fs fu fb : Int32} {t am ae ad ai aj ay ap au ab : Nat → Int32} (hc : c = nI n) (hm : ∀ j, j ≤ n → am j = sm_M t j) (he : ∀ j, j ≤ n → ae j = sm_E t j) (hw : sm_W t i) (hW : sm_we t n i → post 1) (hN : ¬ sm_we t n i → post 0) : wpX_isWordEnd post (c, fs, fu, fb, t, am, ae, ad, ai, aj, ay, ap, au, ab) (nI i) := by
  have k1 : (nI i + 1).toNatClampNeg = i + 1 := sx_cl' (by omega)
  refine ⟨sx_v65' (by omega), br_c (fun z => br_c (fun y => ?_) (fun y => ?_)) (fun z => hN fun q => z ?_)⟩
  · rw [k1, he _ (by omega)] at z
    rw [hc, nI_1, nI_eq (by omega) (by omega)] at y
    exact hW ⟨hw, z, Or.inl y⟩
  · rw [k1, he _ (by omega)] at z
    rw [hc, nI_1, nI_eq (by omega) (by omega)] at y
    rw [nI_1]
    refine sx_wp (by omega) (hm _ (by omega)) (he _ (by omega)) (fun q => br_f (by decide) (hN fun x => ?_)) (fun q => br_t rfl (hW ⟨hw, z, Or.inr q⟩))
    rcases x.2.2 with x | x
    · exact y x
    · exact x q
  · rw [k1, he _ (by omega)]; exact q.2.1
theorem sx_words {post : SX → Prop} {n : Nat} (hn : n ≤ 64) {c fs fb : Int32} {t am ae ad ai aj ay ap : Nat → Int32} (hc : c = nI n) (hm : ∀ j, j ≤ n → am j = sm_M t j) (he : ∀ j, j ≤ n → ae j = sm_E t j)
    (H : ∀ fu au ab, sm_XF t n n fu au ab → post (c, fs, fu, fb, t, am, ae, ad, ai, aj, ay, ap, au, ab)) : ∀ (d i : Nat) (fu : Int32) (au ab : Nat → Int32), i ≤ n → n - i < d → sm_XF t n i fu au ab → wX_findWords_4 post d (sm_bg t i) (nI i) c fs fu fb t am ae ad ai aj ay ap au ab := by
  intro d
  induction d with
  | zero => intro i fu au ab _ h; omega
  | succ d ih =>
    intro i fu au ab hi hd I
    by_cases e : i = n
    · subst e
      exact br_t (by rw [hc]; exact nI_le (Nat.le_refl i) (by omega)) (H fu au ab I)
    · refine br_f (by rw [hc]; exact nI_ge (by omega) (by omega)) (sx_wp (by omega) (hm _ hi) (he _ hi) (fun w => br_f (by decide) ?_) (fun w => br_t rfl (nm_r (nI_1 i) ?_)))
      · have hf := (sm_fbl t i).1
        have b' : sm_bg t (i + 1) = nI (sm_fb t i) := by
          unfold sm_bg
          rw [sm_fbW w, if_neg (by omega)]
        have main : wX_findWords_32 post (wX_findWords_4 post d) (nI (sm_fb t i)) (nI i) c fs fu fb t am ae ad ai aj ay ap au ab := by
          refine sx_we hn (by omega) hc hm he w (fun q => br_f (by decide) (sx_add (by omega) (by omega) (nm_r (nI_1 i) ?_))) (fun q => br_t rfl (nm_r (nI_1 i) ?_))
          · have z := sm_FUb (by omega) q
            have h := ih (i + 1) (fu + 1) (upd au (sm_fb t i) (nI i)) (upd ab i (nI (sm_fb t i))) (by omega) (by omega) ⟨fun j hj => ?_, fun j hj => ?_, ?_⟩
            · rw [b'] at h; exact h
            · rw [sm_FUw q]; unfold upd; split
              · rfl
              · exact I.1 j hj
            · rw [sm_FBw q]; unfold upd; split
              · rfl
              · exact I.2.1 j hj
            · rw [sm_FUw q, I.2.2, nI_1, sm_cnu z.1 (sm_nn (by omega)) n (by omega)]
          · have h := ih (i + 1) fu au ab (by omega) (by omega) (by unfold sm_XF; rw [sm_FUn q, sm_FBn q]; exact I)
            rw [b'] at h; exact h
        by_cases f : sm_fb t i = i
        · refine br_t (by unfold sm_bg; rw [if_pos f]) ?_
          rw [f] at main; exact main
        · have bi : sm_bg t i = nI (sm_fb t i) := by unfold sm_bg; rw [if_neg f]
          rw [bi]
          exact br_f (sm_nn (by omega)) main
      · have b' : sm_bg t (i + 1) = -1 := by
          unfold sm_bg
          rw [sm_fbn w, if_pos rfl]
        have q : ¬ sm_we t n i := fun z => w z.1
        have h := ih (i + 1) fu au ab (by omega) (by omega) (by unfold sm_XF; rw [sm_FUn q, sm_FBn q]; exact I)
        rw [b'] at h; exact h
theorem sx_gk {a f : Nat → Int32} {i : Nat} (h : ∀ j, j ≤ i → a j = f j) (h1 : a (i + 1) = f (i + 1)) : ∀ j, j ≤ i + 1 → a j = f j := by
  intro j hj
  by_cases e : j = i + 1
  · rw [e]; exact h1
  · exact h j (by omega)
theorem sx_gs {a f : Nat → Int32} {i : Nat} {v : Int32} (h : ∀ j, j ≤ i → a j = f j) (h1 : v = f (i + 1)) : ∀ j, j ≤ i + 1 → upd a (i + 1) v j = f j := by
  intro j hj
  by_cases e : j = i + 1
  · rw [e, sm_us]; exact h1
  · rw [sm_un e]; exact h j (by omega)
theorem sx_gn {a f : Nat → Int32} {i : Nat} {v : Int32} (h : ∀ j, j ≤ i → a j = f j) : ∀ j, j ≤ i → upd a (i + 1) v j = f j := by
  intro j hj
  rw [sm_un (by omega)]; exact h j hj
theorem sx_lk {a f : Nat → Int32} {i : Nat} (h : ∀ j, j < i → a j = f j) (h1 : a i = f i) : ∀ j, j < i + 1 → a j = f j := by
  intro j hj
  by_cases e : j = i
  · rw [e]; exact h1
  · exact h j (by omega)
theorem sx_ls {a f : Nat → Int32} {i : Nat} {v : Int32} (h : ∀ j, j < i → a j = f j) (h1 : v = f i) : ∀ j, j < i + 1 → upd a i v j = f j := by
  intro j hj
  by_cases e : j = i
  · rw [e, sm_us]; exact h1
  · rw [sm_un e]; exact h j (by omega)
theorem sx_ln {a f : Nat → Int32} {i : Nat} {v : Int32} (h : ∀ j, j < i → a j = f j) : ∀ j, j < i → upd a i v j = f j := by
  intro j hj
  rw [sm_un (by omega)]; exact h j hj
theorem sx_lu {a f : Nat → Int32} {m k : Nat} {v : Int32} (h : ∀ j, j < m → a j = f j) : ∀ j, j < m → upd a k v j = upd f k v j := by
  intro j hj
  unfold upd
  split
  · rfl
  · exact h j hj
