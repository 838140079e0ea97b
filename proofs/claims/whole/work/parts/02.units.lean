/-! 02: partners and units of the text, as the arrays hold them -/
theorem sm_PAge (t : Nat → Int32) : ∀ i j, i ≤ j → sm_PA t i j = -1 := by
  intro i
  induction i with
  | zero => intro j _; rfl
  | succ i ih =>
    intro j h
    by_cases hD : sm_D t i
    · have o := (sm_oJ hD.2).1
      rw [sm_PAD hD, sm_un (by omega), sm_un (by omega)]
      exact ih j (by omega)
    · rw [sm_PAn hD]; exact ih j (by omega)
theorem sm_SUge (t : Nat → Int32) : ∀ i j, i ≤ j → (sm_M t i = 1 → sm_sb t i < i) ∧ sm_SU t i j = -1 ∧ sm_SB t i j = -1 := by
  intro i
  induction i with
  | zero => intro j _; exact ⟨fun z => absurd (show (0 : Int32) = 1 from z) (by decide), rfl, rfl⟩
  | succ i ih =>
    intro j h
    obtain ⟨hs, hu, hb⟩ := ih j (by omega)
    refine ⟨fun m => ?_, ?_⟩
    · by_cases hO : sm_O t i
      · rw [sm_sbO hO]; omega
      · rw [sm_sbn hO]
        have : sm_M t i = 1 := by
          by_cases e : sm_E t i = 0
          · by_cases m0 : sm_M t i = 0
            · rw [(sm_s_pl e m0).1] at m
              by_cases h4 : t i = 4
              · exact absurd ⟨e, m0, h4⟩ hO
              · rw [if_neg h4] at m
                split at m <;> exact absurd m (by decide)
            · by_cases m1 : sm_M t i = 1
              · exact m1
              · rw [(sm_s_rm e m0 m1).1] at m
                split at m
                · exact absurd m (by decide)
                · exact m
          · exact (sm_s_esc e).1.symm.trans m
        have := hs this
        omega
    · by_cases hD : sm_D t i
      · have o := (sm_oJ hD.2).1
        rw [sm_SUD hD, sm_SBD hD, sm_un (by omega), sm_un (by omega)]
        exact ⟨hu, hb⟩
      · by_cases hZ : sm_Z t i
        · have o := hs hZ.2.1
          rw [sm_SUZ hZ, sm_SBZ hZ, sm_un (by omega), sm_un (by omega)]
          exact ⟨hu, hb⟩
        · rw [sm_SUn hD hZ, sm_SBn hD hZ]
          exact ⟨hu, hb⟩
theorem sm_sbO2 (t : Nat → Int32) : ∀ i, sm_M t i = 1 → sm_O t (sm_sb t i) := by
  intro i
  induction i with
  | zero => exact fun z => absurd (show (0 : Int32) = 1 from z) (by decide)
  | succ i ih =>
    intro m
    by_cases hO : sm_O t i
    · rw [sm_sbO hO]; exact hO
    · rw [sm_sbn hO]
      refine ih ?_
      by_cases e : sm_E t i = 0
      · by_cases m0 : sm_M t i = 0
        · rw [(sm_s_pl e m0).1] at m
          by_cases h4 : t i = 4
          · exact absurd ⟨e, m0, h4⟩ hO
          · rw [if_neg h4] at m
            split at m <;> exact absurd m (by decide)
        · by_cases m1 : sm_M t i = 1
          · exact m1
          · rw [(sm_s_rm e m0 m1).1] at m
            split at m
            · exact absurd m (by decide)
            · exact m
      · exact (sm_s_esc e).1.symm.trans m
/-- a partner is none or a position that is read -/
theorem sm_PAr (t : Nat → Int32) : ∀ i j, sm_PA t i j = -1 ∨ ∃ k, k < i ∧ sm_PA t i j = nI k := by
  intro i
  induction i with
  | zero => intro j; exact Or.inl rfl
  | succ i ih =>
    intro j
    by_cases hD : sm_D t i
    · have o := (sm_oJ hD.2).1
      rw [sm_PAD hD]
      by_cases e : j = i
      · subst e; exact Or.inr ⟨_, by omega, sm_us⟩
      · rw [sm_un e]
        by_cases e2 : j = sm_o t i
        · subst e2; exact Or.inr ⟨i, by omega, sm_us⟩
        · rw [sm_un e2]
          rcases ih j with h | ⟨k, hk, h⟩
          · exact Or.inl h
          · exact Or.inr ⟨k, by omega, h⟩
    · rw [sm_PAn hD]
      rcases ih j with h | ⟨k, hk, h⟩
      · exact Or.inl h
      · exact Or.inr ⟨k, by omega, h⟩
theorem sm_PAx (t : Nat → Int32) : ∀ i j, ¬ sm_J t j → ¬ sm_D t j → sm_PA t i j = -1 := by
  intro i
  induction i with
  | zero => intro j _ _; rfl
  | succ i ih =>
    intro j hj hd
    by_cases hD : sm_D t i
    · have o := (sm_oJ hD.2).2.1
      rw [sm_PAD hD, sm_un (fun z : j = i => hd (z ▸ hD)), sm_un (fun z : j = sm_o t i => hj (z ▸ o))]
      exact ih j hj hd
    · rw [sm_PAn hD]; exact ih j hj hd
theorem sm_PAc (t : Nat → Int32) : ∀ i j, j < i → sm_D t j → sm_PA t i j = nI (sm_o t j) := by
  intro i
  induction i with
  | zero => intro j h; omega
  | succ i ih =>
    intro j h hd
    by_cases e : j = i
    · subst e
      rw [sm_PAD hd]; exact sm_us
    · by_cases hD : sm_D t i
      · have o := (sm_oJ hD.2).2.1
        rw [sm_PAD hD, sm_un e, sm_un (fun z : j = sm_o t i => sm_JC (z ▸ o) hd.1)]
        exact ih j (by omega) hd
      · rw [sm_PAn hD]; exact ih j (by omega) hd
/-- a CLOSE that is read is one with a partner, or a stray one -/
theorem sm_rc {t : Nat → Int32} {n j : Nat} (hn : n ≤ 64) (h : j < n) : sm_C t j ↔ t j = 3 ∧ (¬ sm_PA t n j = -1 ∨ (sm_C t j ∧ sm_T t j = 0)) := by
  constructor
  · intro c
    refine ⟨c.2.2, ?_⟩
    by_cases z : sm_T t j = 0
    · exact Or.inr ⟨c, z⟩
    · refine Or.inl ?_
      have o := (sm_oJ z).1
      rw [sm_PAc t n j h ⟨c, z⟩]
      exact sm_nn (by omega)
  · rintro ⟨e, h | h⟩
    · refine Classical.byContradiction fun c => h (sm_PAx t n j (fun z => ?_) (fun z => c z.1))
      exact absurd (e.symm.trans z.2.2) (by decide)
    · exact h.1
theorem sm_SUJ (t : Nat → Int32) : ∀ i j, sm_J t j → sm_SU t i j = sm_PA t i j := by
  intro i
  induction i with
  | zero => intro j _; rfl
  | succ i ih =>
    intro j hj
    by_cases hD : sm_D t i
    · rw [sm_PAD hD, sm_SUD hD, sm_un (f := upd (sm_PA t i) (sm_o t i) (nI i)) (fun z : j = i => sm_JC (z ▸ hj) hD.1)]
      by_cases e : j = sm_o t i
      · rw [e, sm_us, sm_us]
      · rw [sm_un e, sm_un e]; exact ih j hj
    · rw [sm_PAn hD]
      by_cases hZ : sm_Z t i
      · rw [sm_SUZ hZ, sm_un (fun z : j = sm_sb t i => sm_JO hj (z ▸ sm_sbO2 t i hZ.2.1))]
        exact ih j hj
      · rw [sm_SUn hD hZ]; exact ih j hj
theorem sm_SUx (t : Nat → Int32) : ∀ i j, ¬ sm_J t j → ¬ sm_O t j → sm_SU t i j = -1 := by
  intro i
  induction i with
  | zero => intro j _ _; rfl
  | succ i ih =>
    intro j hj ho
    by_cases hD : sm_D t i
    · rw [sm_SUD hD, sm_un (fun z : j = sm_o t i => hj (z ▸ (sm_oJ hD.2).2.1))]
      exact ih j hj ho
    · by_cases hZ : sm_Z t i
      · rw [sm_SUZ hZ, sm_un (fun z : j = sm_sb t i => ho (z ▸ sm_sbO2 t i hZ.2.1))]
        exact ih j hj ho
      · rw [sm_SUn hD hZ]; exact ih j hj ho
theorem sm_SBx (t : Nat → Int32) : ∀ i j, ¬ sm_C t j → ¬ sm_Z t j → sm_SB t i j = -1 := by
  intro i
  induction i with
  | zero => intro j _ _; rfl
  | succ i ih =>
    intro j hj ho
    by_cases hD : sm_D t i
    · rw [sm_SBD hD, sm_un (fun z : j = i => hj (z ▸ hD.1))]
      exact ih j hj ho
    · by_cases hZ : sm_Z t i
      · rw [sm_SBZ hZ, sm_un (fun z : j = i => ho (z ▸ hZ))]
        exact ih j hj ho
      · rw [sm_SBn hD hZ]; exact ih j hj ho
/-- a bracket in the list has no partner yet -/
theorem sm_PAk (t : Nat → Int32) : ∀ i l, l < sm_T t i → sm_PA t i (sm_K t i l) = -1 := by
  intro i
  induction i with
  | zero => intro l h; exact absurd h (Nat.not_lt_zero l)
  | succ i ih =>
    intro l h
    by_cases hJ : sm_J t i
    · have hD : ¬ sm_D t i := fun z => sm_JC hJ z.1
      rw [sm_PAn hD, sm_KJ hJ]
      rw [sm_TJ hJ] at h
      by_cases e : l = sm_T t i
      · rw [if_pos e]; exact sm_PAge t i i (Nat.le_refl i)
      · rw [if_neg e]; exact ih l (by omega)
    · rw [sm_Kn hJ]
      by_cases hC : sm_C t i
      · rw [sm_TC hC] at h
        have hD : sm_D t i := ⟨hC, by omega⟩
        have a := sm_stk t i l (by omega)
        have o := sm_oJ hD.2
        rw [sm_PAD hD, sm_un (by omega), sm_un (fun z => ?_)]
        · exact ih l (by omega)
        · have : sm_T t (sm_K t i l) = sm_T t (sm_o t i) := by rw [z]
          have := a.2.2.1
          omega
      · rw [sm_Tn hJ hC] at h
        rw [sm_PAn (fun z => hC z.1)]
        exact ih l h
/-- a string's end -/
theorem sm_str (t : Nat → Int32) : ∀ i, i ≤ 64 → (sm_M t i = 1 → sm_SU t i (sm_sb t i) = -1) ∧ ∀ j, j < i → sm_O t j → (sm_SU t i j = -1 ∧ sm_M t i = 1 ∧ sm_sb t i = j ∧ ∀ k, j < k → k < i → ¬ sm_Z t k) ∨ ∃ e, j < e ∧ e < i ∧ sm_Z t e ∧ (∀ k, j < k → k < e → ¬ sm_Z t k) ∧ sm_SU t i j = nI e := by
  intro i
  induction i with
  | zero => intro _; exact ⟨fun z => absurd (show (0 : Int32) = 1 from z) (by decide), fun j h => by omega⟩
  | succ i ih =>
    intro hi
    obtain ⟨ih1, ih2⟩ := ih (by omega)
    by_cases hZ : sm_Z t i
    · have hD : ¬ sm_D t i := fun z => sm_CZ z.1 hZ
      have m' : sm_M t (i + 1) = 0 := by rw [(sm_s_st hZ.1 hZ.2.1).1, if_pos hZ.2.2]
      refine ⟨fun z => absurd (m'.symm.trans z) (by decide), fun j hj hO => ?_⟩
      have hji : ¬ j = i := fun z => sm_OZ (z ▸ hO) hZ
      rcases ih2 j (by omega) hO with ⟨a, b, c, d⟩ | ⟨e, a, b, c, d, f⟩
      · refine Or.inr ⟨i, by omega, by omega, hZ, d, ?_⟩
        rw [sm_SUZ hZ, c]; exact sm_us
      · refine Or.inr ⟨e, a, by omega, c, d, ?_⟩
        rw [sm_SUZ hZ, sm_un (fun z => ?_)]
        · exact f
        · have := ih1 hZ.2.1
          rw [← z, f] at this
          exact sm_nn (by omega) this
    · have hU : ∀ j, sm_O t j → sm_SU t (i + 1) j = sm_SU t i j := by
        intro j hO
        by_cases hD : sm_D t i
        · rw [sm_SUD hD, sm_un (fun z : j = sm_o t i => sm_JO (z ▸ (sm_oJ hD.2).2.1) hO)]
        · rw [sm_SUn hD hZ]
      by_cases hO' : sm_O t i
      · have m' : sm_M t (i + 1) = 1 := by rw [(sm_s_pl hO'.1 hO'.2.1).1, if_pos hO'.2.2]
        have s' := sm_sbO hO'
        refine ⟨fun _ => ?_, fun j hj hO => ?_⟩
        · rw [s', hU i hO']; exact (sm_SUge t i i (Nat.le_refl i)).2.1
        · rw [hU j hO]
          by_cases e : j = i
          · subst e
            exact Or.inl ⟨(sm_SUge t j j (Nat.le_refl j)).2.1, m', s', fun k h1 h2 => by omega⟩
          · rcases ih2 j (by omega) hO with ⟨a, b, c, d⟩ | ⟨e, a, b, c, d, f⟩
            · exact absurd (b.symm.trans hO'.2.1) (by decide)
            · exact Or.inr ⟨e, a, by omega, c, d, f⟩
      · have s' := sm_sbn hO'
        have m1 : sm_M t (i + 1) = 1 → sm_M t i = 1 := by
          intro m
          by_cases e : sm_E t i = 0
          · by_cases m0 : sm_M t i = 0
            · rw [(sm_s_pl e m0).1] at m
              by_cases h4 : t i = 4
              · exact absurd ⟨e, m0, h4⟩ hO'
              · rw [if_neg h4] at m
                split at m <;> exact absurd m (by decide)
            · by_cases m1 : sm_M t i = 1
              · exact m1
              · rw [(sm_s_rm e m0 m1).1] at m
                split at m
                · exact absurd m (by decide)
                · exact m
          · exact (sm_s_esc e).1.symm.trans m
        have m2 : sm_M t i = 1 → sm_M t (i + 1) = 1 := by
          intro m
          by_cases e : sm_E t i = 0
          · rw [(sm_s_st e m).1, if_neg (fun z => hZ ⟨e, m, z⟩)]
          · exact (sm_s_esc e).1.trans m
        refine ⟨fun m => ?_, fun j hj hO => ?_⟩
        · rw [s', hU _ (sm_sbO2 t i (m1 m))]; exact ih1 (m1 m)
        · rw [hU j hO]
          have hji : ¬ j = i := fun z => hO' (z ▸ hO)
          rcases ih2 j (by omega) hO with ⟨a, b, c, d⟩ | ⟨e, a, b, c, d, f⟩
          · refine Or.inl ⟨a, m2 b, s'.trans c, fun k h1 h2 => ?_⟩
            by_cases q : k = i
            · rw [q]; exact hZ
            · exact d k h1 (by omega)
          · exact Or.inr ⟨e, a, by omega, c, d, f⟩
