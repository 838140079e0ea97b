/-! 08: the reference's units. Written by wip/whole/gen08.py -/
theorem sx_m1 (n : Nat) : nI (n + 1) + (-1) = nI n := by
  rw [← nI_1, Int32.add_assoc, show (1 : Int32) + (-1) = 0 from rfl, Int32.add_zero]
theorem sx_s1 (x : Int32) : x - 1 = x + (-1) := by rw [Int32.sub_eq_add_neg]
theorem sx_mm : nI 0 + (-1) = -1 := by decide
theorem sx_neg {x : Int32} (h : x = -1) : x < 0 := by rw [h]; decide
theorem sy_wy {post : Int32 → Prop} {n i : Nat} (hn : n ≤ 64) (hi : i < n) {tp : Int32} {t am ae ad ap aj ac ay ak : Nat → Int32} (Y : sm_YD t n tp am ae ad ap aj ac ay ak) (hW : sm_W t i → post 1) (hN : ¬ sm_W t i → post 0) : wpY_wordy post (nI n, tp, t, am, ae, ad, ap, aj, ac, ay, ak) (nI i) := by
  have k : (nI i).toNatClampNeg = i := sx_cl (by omega)
  have v := sx_v65 (i := i) (by omega)
  have v0 := sx_v64 (i := i) (by omega)
  have hm := Y.2.1 i (by omega)
  have he := Y.2.2.1 i (by omega)
  refine br_f (nI_pos (by omega)) (br_f (nI_ge hi (by omega)) (br_t (nI_lt (a := i) (b := 64) (by omega) (by omega)) ⟨v, br_c (fun m => ⟨v0, br_c (fun z => ?_) (fun z => ⟨v0, br_c (fun z2 => ?_) (fun z2 => ⟨v, br_c (fun z3 => ?_) (fun z3 => ?_)⟩)⟩)⟩) (fun m => ?_)⟩))
  · rw [k] at m z; rw [hm] at m
    exact hW ⟨m, Or.inr (Or.inl z)⟩
  · rw [k] at m z2; rw [hm] at m
    exact hW ⟨m, Or.inr (Or.inr z2)⟩
  · rw [k] at z z2 z3; rw [he] at z3
    refine hN fun w => ?_
    rcases w.2 with q | q | q
    · exact q z3
    · exact z q
    · exact z2 q
  · rw [k] at m z3; rw [hm] at m; rw [he] at z3
    exact hW ⟨m, Or.inl z3⟩
  · rw [k, hm] at m
    exact hN fun w => m w.1
theorem sy_wn {post : Int32 → Prop} {n : Nat} (hn : n ≤ 64) {tp : Int32} {t am ae ad ap aj ac ay ak : Nat → Int32} (h : post 0) : wpY_wordy post (nI n, tp, t, am, ae, ad, ap, aj, ac, ay, ak) (nI n) :=
  br_f (nI_pos (by omega)) (br_t (nI_le (Nat.le_refl n) (by omega)) h)
theorem sy_w53 {post : Int32 → Prop} {n i e : Nat} (hn : n ≤ 64) {tp : Int32} {t am ae ad ap aj ac ay ak : Nat → Int32} (Y : sm_YD t n tp am ae ad ap aj ac ay ak) (hi : i ≤ e) (he : e < n) (hw : ∀ k, i ≤ k → k ≤ e → sm_W t k) (hb : ∀ k, k + 1 = i → ¬ sm_W t k) (hx : e + 1 = n ∨ ¬ sm_W t (e + 1)) (h : post (sm_FU t n n i)) : wY_wordEnd_53 post (nI e) (nI n) tp t am ae ad ap aj ac ay ak := by
  rw [sm_FUrun hi he hw hb hx] at h
  have k1 : (nI e + 1).toNatClampNeg = e + 1 := sx_cl' (by omega)
  have hE := Y.2.2.1 (e + 1) (by omega)
  refine ⟨sx_v65' (by omega), br_c (fun z => ?_) (fun z => ?_)⟩
  · rw [k1, hE] at z
    rw [if_pos z] at h; exact h
  · rw [k1, hE] at z
    rw [if_neg z] at h; exact h
theorem sy_w31 {post : Int32 → Prop} {n i : Nat} (hn : n ≤ 64) {tp : Int32} {t am ae ad ap aj ac ay ak : Nat → Int32} (Y : sm_YD t n tp am ae ad ap aj ac ay ak) (hb : ∀ k, k + 1 = i → ¬ sm_W t k) (h : post (sm_FU t n n i)) : ∀ d k, i ≤ k → k < n → n ≤ d + k → (∀ m, i ≤ m → m ≤ k → sm_W t m) → wY_wordEnd_31 post (nI n) tp t am ae ad ap aj ac ay ak d (nI k) := by
  intro d
  induction d with
  | zero => intro k h1 h2 h3; omega
  | succ d ih =>
    intro k hik hk hd hw
    by_cases e : k + 1 = n
    · have fin := sy_w53 hn Y hik hk hw hb (Or.inl e) h
      by_cases q : k = 63
      · exact br_t (by rw [q]; decide) fin
      · refine br_f (nI_ge (a := k) (b := 63) (by omega) (by omega)) ?_
        rw [nI_1, e]
        exact sy_wn hn (br_t rfl fin)
    · refine br_f (nI_ge (a := k) (b := 63) (by omega) (by omega)) ?_
      rw [nI_1]
      refine sy_wy hn (by omega) Y (fun w => br_f (by decide) (nm_e (ih (k + 1) (by omega) (by omega) (by omega) (fun m h1 h2 => ?_)))) (fun w => br_t rfl (sy_w53 hn Y hik hk hw hb (Or.inr w) h))
      by_cases q : m = k + 1
      · rw [q]; exact w
      · exact hw m h1 (by omega)
theorem sy_wE {post : Int32 → Prop} {n i : Nat} (hn : n ≤ 64) (hi : i < n) {tp : Int32} {t am ae ad ap aj ac ay ak : Nat → Int32} (Y : sm_YD t n tp am ae ad ap aj ac ay ak) (hS : (sm_W t i ∧ ∀ k, k + 1 = i → ¬ sm_W t k) → post (sm_FU t n n i)) (hN : ¬ (sm_W t i ∧ ∀ k, k + 1 = i → ¬ sm_W t k) → post (-1)) : wpY_wordEnd post (nI n, tp, t, am, ae, ad, ap, aj, ac, ay, ak) (nI i) := by
  have k : (nI i).toNatClampNeg = i := sx_cl (by omega)
  unfold wpY_wordEnd
  refine sy_wy hn hi Y (fun w => br_f (by decide) ?_) (fun w => br_t rfl (hN fun z => w z.1))
  have fin : (∀ k, k + 1 = i → ¬ sm_W t k) → vp_in (nI i) 65 ∧ ((ae (nI i).toNatClampNeg = 0 → ∃ n31 : Nat, wY_wordEnd_31 post (nI n) tp t am ae ad ap aj ac ay ak n31 (nI i)) ∧ (¬ ae (nI i).toNatClampNeg = 0 → post (-1))) := fun hb =>
    ⟨sx_v65 (by omega), br_t (by rw [k, Y.2.2.1 i (by omega)]; exact sm_We w hb) ⟨n, sy_w31 hn Y hb (hS ⟨w, hb⟩) n i (Nat.le_refl i) hi (by omega) (fun m h1 h2 => by rw [show m = i by omega]; exact w)⟩⟩
  cases i with
  | zero => exact br_t (by decide) (br_t rfl (fin fun k hk => by omega))
  | succ i =>
    rw [nI_pred]
    refine sy_wy hn (by omega) Y (fun w' => br_f (by decide) (hN fun z => z.2 i rfl w')) (fun w' => br_t rfl (fin fun k hk => ?_))
    rw [show k = i by omega]; exact w'
theorem sy_s34 {post : Int32 → Prop} {n i : Nat} (hn : n ≤ 64) (hi : i < n) {tp : Int32} {t am ae ad ap aj ac ay ak : Nat → Int32} (Y : sm_YD t n tp am ae ad ap aj ac ay ak) (hO : sm_O t i) (h : post (sm_SU t n i)) : ∀ d k, i < k → k ≤ n → n - k < d → (∀ m, i < m → m < k → ¬ sm_Z t m) → wY_stringEnd_34 post (nI n) tp t am ae ad ap aj ac ay ak d (nI k) := by
  intro d
  induction d with
  | zero => intro k h1 h2 h3; omega
  | succ d ih =>
    intro k hik hk hd hz
    have st := (sm_str t n hn).2 i hi hO
    by_cases e : k = n
    · subst e
      refine br_t (nI_le (Nat.le_refl k) (by omega)) ?_
      rcases st with ⟨a, _⟩ | ⟨e, a, b, c, _⟩
      · rw [a] at h; exact h
      · exact absurd c (hz e a b)
    · have kk : (nI k).toNatClampNeg = k := sx_cl (by omega)
      have v := sx_v65 (i := k) (by omega)
      have hm := Y.2.1 k (by omega)
      have he := Y.2.2.1 k (by omega)
      have next : ¬ sm_Z t k → wY_stringEnd_34 post (nI n) tp t am ae ad ap aj ac ay ak d (nI (k + 1)) := fun nz => ih (k + 1) (by omega) (by omega) (by omega) (fun m h1 h2 => by
        by_cases q : m = k
        · rw [q]; exact nz
        · exact hz m h1 (by omega))
      refine br_f (nI_ge (by omega) (by omega)) (br_f (nI_ge (a := k) (b := 64) (by omega) (by omega)) ⟨sx_v64 (by omega), br_c (fun z4 => ⟨v, br_c (fun z1 => ⟨v, br_c (fun z0 => ?_) (fun z0 => nm_r (nI_1 k) (next fun z => ?_))⟩) (fun z1 => nm_r (nI_1 k) (next fun z => ?_))⟩) (fun z4 => nm_r (nI_1 k) (next fun z => ?_))⟩)
      · rw [kk] at z4 z1 z0
        rw [hm] at z1; rw [he] at z0
        have Z : sm_Z t k := ⟨z0, z1, z4⟩
        rcases st with ⟨_, _, _, a⟩ | ⟨e, a, b, c, d', f⟩
        · exact absurd Z (a k hik (by omega))
        · have : e = k := by
            rcases Nat.lt_trichotomy e k with q | q | q
            · exact absurd c (hz e a q)
            · exact q
            · exact absurd Z (d' k hik q)
          rw [f, this] at h; exact h
      · rw [kk, he] at z0; exact z0 z.1
      · rw [kk, hm] at z1; exact z1 z.2.1
      · rw [kk] at z4; exact z4 z.2.2
theorem sy_sE {post : Int32 → Prop} {n i : Nat} (hn : n ≤ 64) (hi : i < n) {tp : Int32} {t am ae ad ap aj ac ay ak : Nat → Int32} (Y : sm_YD t n tp am ae ad ap aj ac ay ak) (nJ : ¬ sm_J t i) (h : post (sm_SU t n i)) : wpY_stringEnd post (nI n, tp, t, am, ae, ad, ap, aj, ac, ay, ak) (nI i) := by
  have k : (nI i).toNatClampNeg = i := sx_cl (by omega)
  have v := sx_v65 (i := i) (by omega)
  have hm := Y.2.1 i (by omega)
  have he := Y.2.2.1 i (by omega)
  have no : ¬ sm_O t i → post (-1) := fun z => by rw [sm_SUx t n i nJ z] at h; exact h
  refine ⟨sx_v64 (by omega), br_c (fun z4 => ⟨v, br_c (fun z1 => ⟨v, br_c (fun z0 => nm_r (nI_1 i) ⟨n + 1, ?_⟩) (fun z0 => no fun z => ?_)⟩) (fun z1 => no fun z => ?_)⟩) (fun z4 => no fun z => ?_)⟩
  · rw [k] at z4 z1 z0
    rw [hm] at z1; rw [he] at z0
    exact sy_s34 hn hi Y ⟨z0, z1, z4⟩ h (n + 1) (i + 1) (by omega) (by omega) (by omega) (fun m h1 h2 => by omega)
  · rw [k, he] at z0; exact z0 z.1
  · rw [k, hm] at z1; exact z1 z.2.1
  · rw [k] at z4; exact z4 z.2.2
theorem sy_uE {post : Int32 → Prop} {n i : Nat} (hn : n ≤ 64) (hi : i < n) {tp : Int32} {t am ae ad ap aj ac ay ak : Nat → Int32} (Y : sm_YD t n tp am ae ad ap aj ac ay ak) (h : post (sm_FU t n n i)) : wpY_unitEnd post (nI n, tp, t, am, ae, ad, ap, aj, ac, ay, ak) (nI i) := by
  have k : (nI i).toNatClampNeg = i := sx_cl (by omega)
  have v := sx_v64 (i := i) (by omega)
  have hj : aj (nI i).toNatClampNeg = sm_jv t i := by rw [k, Y.2.2.2.2.2.1 i (by omega), sm_g, if_pos hi]
  by_cases J : sm_J t i
  · refine ⟨v, br_f (by rw [hj, sm_jv, if_pos J]; decide) ⟨v, ?_⟩⟩
    rw [k, Y.2.2.2.2.1 i (by omega), ← sm_SUJ t n i J]
    rw [sm_FUno (fun z => (sm_Wx z.1).1 J)] at h
    exact h
  · refine ⟨v, br_t (by rw [hj, sm_jv, if_neg J]) (sy_wE hn hi Y (fun w => ?_) (fun w => br_t (by decide) (sy_sE hn hi Y J ?_)))⟩
    · rcases (sm_BJ2 t hn n (Nat.le_refl n)).1 i with z | ⟨e, a, b, c, _⟩
      · refine br_t (sx_neg z) (sy_sE hn hi Y J ?_)
        rw [sm_SUx t n i J (sm_Wx w.1).2.2.1, ← z]; exact h
      · exact br_f (by rw [c]; exact nI_pos (by omega)) h
    · rw [sm_FUno w] at h; exact h
theorem sy_u2 {post : Int32 → Prop} {n e : Nat} (hn : n ≤ 64) (he : e < n) {tp : Int32} {t am ae ad ap aj ac ay ak : Nat → Int32} (Y : sm_YD t n tp am ae ad ap aj ac ay ak) (h : post (sm_FB t n n e)) : ∀ d k, k ≤ e + 1 → e + 1 < d + k → (∀ i, i < k → ¬ sm_FU t n n i = nI e) → wY_unitStart_2 post (nI e) (nI n) tp t am ae ad ap aj ac ay ak d (nI k) := by
  intro d
  induction d with
  | zero => intro k h1 h2; omega
  | succ d ih =>
    intro k hk hd hu
    have B := sm_BJ2 t hn n (Nat.le_refl n)
    by_cases q : k = e + 1
    · refine br_t (by rw [q]; exact nI_lt (by omega) (by omega)) ?_
      rcases B.2 e with z | ⟨i, a, b, c, f⟩
      · rw [z] at h; exact h
      · exact absurd f (hu i (by omega))
    · refine br_f (nI_nlt (by omega) (by omega)) (sy_uE hn (by omega) Y (br_c (fun z => ?_) (fun z => nm_r (nI_1 k) (ih (k + 1) (by omega) (by omega) (fun i hi => ?_)))))
      · rcases B.1 k with y | ⟨e', a, b, c, f⟩
        · rw [y] at z; exact absurd z.symm (sm_nn (by omega))
        · rw [c, nI_eq (by omega) (by omega)] at z
          rw [z] at f
          rw [f] at h; exact h
      · by_cases y : i = k
        · rw [y]; exact z
        · exact hu i (by omega)
theorem sy_uS {post : Int32 → Prop} {n e : Nat} (hn : n ≤ 64) (he : e < n) {tp : Int32} {t am ae ad ap aj ac ay ak : Nat → Int32} (Y : sm_YD t n tp am ae ad ap aj ac ay ak) (h : post (sm_FB t n n e)) : wpY_unitStart post (nI n, tp, t, am, ae, ad, ap, aj, ac, ay, ak) (nI e) :=
  ⟨e + 2, sy_u2 hn he Y h (e + 2) 0 (by omega) (by omega) (fun i hi => by omega)⟩
