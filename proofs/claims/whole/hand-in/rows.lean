section
/-! 01: the text read by itself: mode, escape, brackets, units as functions of the text t -/
def sm_me (t : Nat → Int32) : Nat → Int32 × Int32
  | 0 => (0, 0)
  | i + 1 =>
    if (sm_me t i).2 = 0 then
      if (sm_me t i).1 = 0 then
        if t i = 4 then (1, 0) else if t i = 5 then (0, 1) else if t i = 6 then (2, 0) else (0, 0)
      else if (sm_me t i).1 = 1 then
        if t i = 4 then (0, 0) else if t i = 5 then (1, 1) else (1, 0)
      else if t i = 7 then (0, 0) else ((sm_me t i).1, 0)
    else ((sm_me t i).1, 0)
def sm_M (t : Nat → Int32) (i : Nat) : Int32 := (sm_me t i).1
def sm_E (t : Nat → Int32) (i : Nat) : Int32 := (sm_me t i).2
theorem sm_M0 (t : Nat → Int32) : sm_M t 0 = 0 := rfl
theorem sm_E0 (t : Nat → Int32) : sm_E t 0 = 0 := rfl
theorem sm_s_esc {t : Nat → Int32} {i : Nat} (h : ¬ sm_E t i = 0) : sm_M t (i + 1) = sm_M t i ∧ sm_E t (i + 1) = 0 := by
  unfold sm_M sm_E at *
  simp only [sm_me, h, if_false, and_self]
theorem sm_s_pl {t : Nat → Int32} {i : Nat} (h : sm_E t i = 0) (m : sm_M t i = 0) : sm_M t (i + 1) = (if t i = 4 then 1 else if t i = 6 then 2 else 0) ∧ sm_E t (i + 1) = (if t i = 5 then 1 else 0) := by
  unfold sm_M sm_E at *
  simp only [sm_me, h, m, if_true]
  by_cases h4 : t i = 4
  · simp [h4]
  · by_cases h5 : t i = 5
    · simp [h5]
    · by_cases h6 : t i = 6
      · simp [h6]
      · simp [h4, h5, h6]
theorem sm_s_st {t : Nat → Int32} {i : Nat} (h : sm_E t i = 0) (m : sm_M t i = 1) : sm_M t (i + 1) = (if t i = 4 then 0 else 1) ∧ sm_E t (i + 1) = (if t i = 5 then 1 else 0) := by
  unfold sm_M sm_E at *
  have m0 : ¬ (1 : Int32) = 0 := by decide
  simp only [sm_me, h, m, if_true, m0, if_false]
  by_cases h4 : t i = 4
  · simp [h4]
  · by_cases h5 : t i = 5
    · simp [h5]
    · simp [h4, h5]
theorem sm_s_rm {t : Nat → Int32} {i : Nat} (h : sm_E t i = 0) (m : ¬ sm_M t i = 0) (m1 : ¬ sm_M t i = 1) : sm_M t (i + 1) = (if t i = 7 then 0 else sm_M t i) ∧ sm_E t (i + 1) = 0 := by
  unfold sm_M sm_E at *
  simp only [sm_me, h, m, if_true, m1, if_false]
  by_cases h7 : t i = 7
  · simp [h7]
  · simp [h7]
theorem sm_E01 (t : Nat → Int32) : ∀ i, sm_E t i = 0 ∨ sm_E t i = 1 := by
  intro i
  cases i with
  | zero => exact Or.inl rfl
  | succ i =>
    by_cases h : sm_E t i = 0
    · by_cases m : sm_M t i = 0
      · rw [(sm_s_pl h m).2]; split <;> simp
      · by_cases m1 : sm_M t i = 1
        · rw [(sm_s_st h m1).2]; split <;> simp
        · exact Or.inl (sm_s_rm h m m1).2
    · exact Or.inl (sm_s_esc h).2
theorem sm_Ep {t : Nat → Int32} {i : Nat} (h : ¬ sm_E t (i + 1) = 0) : sm_E t i = 0 ∧ t i = 5 ∧ sm_M t (i + 1) = sm_M t i := by
  by_cases e : sm_E t i = 0
  · by_cases m : sm_M t i = 0
    · have z := sm_s_pl e m
      by_cases h5 : t i = 5
      · refine ⟨e, h5, ?_⟩
        rw [z.1, m, h5]; decide
      · exact absurd (by rw [z.2, if_neg h5]) h
    · by_cases m1 : sm_M t i = 1
      · have z := sm_s_st e m1
        by_cases h5 : t i = 5
        · refine ⟨e, h5, ?_⟩
          rw [z.1, m1, h5]; decide
        · exact absurd (by rw [z.2, if_neg h5]) h
      · exact absurd (sm_s_rm e m m1).2 h
  · exact absurd (sm_s_esc e).2 h
abbrev sm_J (t : Nat → Int32) (i : Nat) : Prop := sm_E t i = 0 ∧ sm_M t i = 0 ∧ t i = 2
abbrev sm_C (t : Nat → Int32) (i : Nat) : Prop := sm_E t i = 0 ∧ sm_M t i = 0 ∧ t i = 3
abbrev sm_O (t : Nat → Int32) (i : Nat) : Prop := sm_E t i = 0 ∧ sm_M t i = 0 ∧ t i = 4
abbrev sm_Z (t : Nat → Int32) (i : Nat) : Prop := sm_E t i = 0 ∧ sm_M t i = 1 ∧ t i = 4
abbrev sm_W (t : Nat → Int32) (i : Nat) : Prop := sm_M t i = 0 ∧ (¬ sm_E t i = 0 ∨ t i = 0 ∨ t i = 5)
theorem sm_JC {t : Nat → Int32} {i : Nat} (h : sm_J t i) : ¬ sm_C t i := fun z => absurd (h.2.2.symm.trans z.2.2) (by decide)
theorem sm_JO {t : Nat → Int32} {i : Nat} (h : sm_J t i) : ¬ sm_O t i := fun z => absurd (h.2.2.symm.trans z.2.2) (by decide)
theorem sm_JZ {t : Nat → Int32} {i : Nat} (h : sm_J t i) : ¬ sm_Z t i := fun z => absurd (h.2.2.symm.trans z.2.2) (by decide)
theorem sm_CZ {t : Nat → Int32} {i : Nat} (h : sm_C t i) : ¬ sm_Z t i := fun z => absurd (h.2.2.symm.trans z.2.2) (by decide)
theorem sm_CO {t : Nat → Int32} {i : Nat} (h : sm_C t i) : ¬ sm_O t i := fun z => absurd (h.2.2.symm.trans z.2.2) (by decide)
theorem sm_OZ {t : Nat → Int32} {i : Nat} (h : sm_O t i) : ¬ sm_Z t i := fun z => absurd (h.2.1.symm.trans z.2.1) (by decide)
theorem sm_Wx {t : Nat → Int32} {i : Nat} (h : sm_W t i) : ¬ sm_J t i ∧ ¬ sm_C t i ∧ ¬ sm_O t i ∧ ¬ sm_Z t i := by
  obtain ⟨m, h⟩ := h
  refine ⟨fun z => ?_, fun z => ?_, fun z => ?_, fun z => ?_⟩
  · rcases h with h | h | h
    · exact h z.1
    · exact absurd (h.symm.trans z.2.2) (by decide)
    · exact absurd (h.symm.trans z.2.2) (by decide)
  · rcases h with h | h | h
    · exact h z.1
    · exact absurd (h.symm.trans z.2.2) (by decide)
    · exact absurd (h.symm.trans z.2.2) (by decide)
  · rcases h with h | h | h
    · exact h z.1
    · exact absurd (h.symm.trans z.2.2) (by decide)
    · exact absurd (h.symm.trans z.2.2) (by decide)
  · exact absurd (m.symm.trans z.2.1) (by decide)
def sm_T (t : Nat → Int32) : Nat → Nat
  | 0 => 0
  | i + 1 => if sm_J t i then sm_T t i + 1 else if sm_C t i then sm_T t i - 1 else sm_T t i
def sm_K (t : Nat → Int32) : Nat → Nat → Nat
  | 0 => fun _ => 0
  | i + 1 => if sm_J t i then (fun l => if l = sm_T t i then i else sm_K t i l) else sm_K t i
def sm_o (t : Nat → Int32) (i : Nat) : Nat := sm_K t i (sm_T t i - 1)
def sm_I (t : Nat → Int32) (i : Nat) : Int32 := if sm_T t i = 0 then -1 else nI (sm_o t i)
abbrev sm_D (t : Nat → Int32) (i : Nat) : Prop := sm_C t i ∧ ¬ sm_T t i = 0
def sm_sb (t : Nat → Int32) : Nat → Nat
  | 0 => 0
  | i + 1 => if sm_O t i then i else sm_sb t i
def sm_PA (t : Nat → Int32) : Nat → Nat → Int32
  | 0 => fun _ => -1
  | i + 1 => if sm_D t i then upd (upd (sm_PA t i) (sm_o t i) (nI i)) i (nI (sm_o t i)) else sm_PA t i
def sm_SU (t : Nat → Int32) : Nat → Nat → Int32
  | 0 => fun _ => -1
  | i + 1 => if sm_D t i then upd (sm_SU t i) (sm_o t i) (nI i) else if sm_Z t i then upd (sm_SU t i) (sm_sb t i) (nI i) else sm_SU t i
def sm_SB (t : Nat → Int32) : Nat → Nat → Int32
  | 0 => fun _ => -1
  | i + 1 => if sm_D t i then upd (sm_SB t i) i (nI (sm_o t i)) else if sm_Z t i then upd (sm_SB t i) i (nI (sm_sb t i)) else sm_SB t i
def sm_SC (t : Nat → Int32) : Nat → Nat
  | 0 => 0
  | i + 1 => if sm_C t i ∧ sm_T t i = 0 then sm_SC t i + 1 else sm_SC t i
/-! one step of each -/
theorem sm_TJ {t : Nat → Int32} {i : Nat} (h : sm_J t i) : sm_T t (i + 1) = sm_T t i + 1 := by rw [sm_T, if_pos h]
theorem sm_TC {t : Nat → Int32} {i : Nat} (h : sm_C t i) : sm_T t (i + 1) = sm_T t i - 1 := by rw [sm_T, if_neg (fun z => sm_JC z h), if_pos h]
theorem sm_Tn {t : Nat → Int32} {i : Nat} (h : ¬ sm_J t i) (hc : ¬ sm_C t i) : sm_T t (i + 1) = sm_T t i := by rw [sm_T, if_neg h, if_neg hc]
theorem sm_KJ {t : Nat → Int32} {i : Nat} (h : sm_J t i) (l : Nat) : sm_K t (i + 1) l = if l = sm_T t i then i else sm_K t i l := by rw [sm_K, if_pos h]
theorem sm_Kn {t : Nat → Int32} {i : Nat} (h : ¬ sm_J t i) : sm_K t (i + 1) = sm_K t i := by rw [sm_K, if_neg h]
theorem sm_PAD {t : Nat → Int32} {i : Nat} (h : sm_D t i) : sm_PA t (i + 1) = upd (upd (sm_PA t i) (sm_o t i) (nI i)) i (nI (sm_o t i)) := by rw [sm_PA, if_pos h]
theorem sm_PAn {t : Nat → Int32} {i : Nat} (h : ¬ sm_D t i) : sm_PA t (i + 1) = sm_PA t i := by rw [sm_PA, if_neg h]
theorem sm_SUD {t : Nat → Int32} {i : Nat} (h : sm_D t i) : sm_SU t (i + 1) = upd (sm_SU t i) (sm_o t i) (nI i) := by rw [sm_SU, if_pos h]
theorem sm_SUZ {t : Nat → Int32} {i : Nat} (h : sm_Z t i) : sm_SU t (i + 1) = upd (sm_SU t i) (sm_sb t i) (nI i) := by rw [sm_SU, if_neg (fun z => sm_CZ z.1 h), if_pos h]
theorem sm_SUn {t : Nat → Int32} {i : Nat} (h : ¬ sm_D t i) (hz : ¬ sm_Z t i) : sm_SU t (i + 1) = sm_SU t i := by rw [sm_SU, if_neg h, if_neg hz]
theorem sm_SBD {t : Nat → Int32} {i : Nat} (h : sm_D t i) : sm_SB t (i + 1) = upd (sm_SB t i) i (nI (sm_o t i)) := by rw [sm_SB, if_pos h]
theorem sm_SBZ {t : Nat → Int32} {i : Nat} (h : sm_Z t i) : sm_SB t (i + 1) = upd (sm_SB t i) i (nI (sm_sb t i)) := by rw [sm_SB, if_neg (fun z => sm_CZ z.1 h), if_pos h]
theorem sm_SBn {t : Nat → Int32} {i : Nat} (h : ¬ sm_D t i) (hz : ¬ sm_Z t i) : sm_SB t (i + 1) = sm_SB t i := by rw [sm_SB, if_neg h, if_neg hz]
theorem sm_sbO {t : Nat → Int32} {i : Nat} (h : sm_O t i) : sm_sb t (i + 1) = i := by rw [sm_sb, if_pos h]
theorem sm_sbn {t : Nat → Int32} {i : Nat} (h : ¬ sm_O t i) : sm_sb t (i + 1) = sm_sb t i := by rw [sm_sb, if_neg h]
theorem sm_us {f : Nat → Int32} {k : Nat} {x : Int32} : upd f k x k = x := if_pos rfl
theorem sm_un {f : Nat → Int32} {k j : Nat} {x : Int32} (h : ¬ j = k) : upd f k x j = f j := if_neg h
theorem sm_nn {e : Nat} (h : e < 2 ^ 31) : ¬ nI e = -1 := by
  intro z
  have h1 := congrArg Int32.toInt z
  rw [nI_toInt h] at h1
  have h2 : (-1 : Int32).toInt = -1 := by decide
  omega
theorem sm_Tle (t : Nat → Int32) : ∀ i, sm_T t i ≤ i := by
  intro i
  induction i with
  | zero => exact Nat.le_refl 0
  | succ i ih =>
    rw [sm_T]
    split
    · omega
    · split <;> omega
/-- what the list of brackets at a gap is -/
theorem sm_stk (t : Nat → Int32) : ∀ i l, l < sm_T t i → sm_K t i l < i ∧ sm_J t (sm_K t i l) ∧ sm_T t (sm_K t i l) = l ∧ (∀ m, m < l → sm_K t (sm_K t i l) m = sm_K t i m) ∧ (∀ j, sm_K t i l < j → j < i → sm_J t j → ¬ sm_T t j = l) := by
  intro i
  induction i with
  | zero => intro l h; exact absurd h (Nat.not_lt_zero l)
  | succ i ih =>
    intro l h
    by_cases hJ : sm_J t i
    · rw [sm_TJ hJ] at h
      by_cases e : l = sm_T t i
      · have k : sm_K t (i + 1) l = i := by rw [sm_KJ hJ, if_pos e]
        rw [k]
        refine ⟨by omega, hJ, e.symm, fun m hm => ?_, fun j h1 h2 => by omega⟩
        rw [sm_KJ hJ, if_neg (by omega)]
      · have k : sm_K t (i + 1) l = sm_K t i l := by rw [sm_KJ hJ, if_neg e]
        rw [k]
        obtain ⟨a, b, c, d, f⟩ := ih l (by omega)
        refine ⟨by omega, b, c, fun m hm => ?_, fun j h1 h2 h3 => ?_⟩
        · rw [sm_KJ hJ, if_neg (by omega)]; exact d m hm
        · by_cases q : j = i
          · subst q; exact fun z => e z.symm
          · exact f j h1 (by omega) h3
    · have h' : l < sm_T t i := by
        by_cases hC : sm_C t i
        · rw [sm_TC hC] at h; omega
        · rw [sm_Tn hJ hC] at h; exact h
      rw [sm_Kn hJ]
      obtain ⟨a, b, c, d, f⟩ := ih l h'
      refine ⟨by omega, b, c, d, fun j h1 h2 h3 => ?_⟩
      by_cases q : j = i
      · subst q; exact absurd h3 hJ
      · exact f j h1 (by omega) h3
theorem sm_oJ {t : Nat → Int32} {i : Nat} (h : ¬ sm_T t i = 0) : sm_o t i < i ∧ sm_J t (sm_o t i) ∧ sm_T t (sm_o t i) = sm_T t i - 1 := by
  obtain ⟨a, b, c, _⟩ := sm_stk t i (sm_T t i - 1) (by omega)
  exact ⟨a, b, c⟩
/-- the innermost after a CLOSE is the one that was innermost at its OPEN -/
theorem sm_ID {t : Nat → Int32} {i : Nat} (h : sm_D t i) : sm_I t (i + 1) = sm_I t (sm_o t i) := by
  obtain ⟨a, b, c, d, _⟩ := sm_stk t i (sm_T t i - 1) (by have := h.2; omega)
  have hT := h.2
  have hJ : ¬ sm_J t i := fun z => sm_JC z h.1
  have e : sm_T t (sm_o t i) = sm_T t i - 1 := c
  unfold sm_I
  rw [sm_TC h.1, e]
  by_cases z : sm_T t i - 1 = 0
  · rw [if_pos z, if_pos z]
  · rw [if_neg z, if_neg z]
    have : sm_o t (i + 1) = sm_o t (sm_o t i) := by
      show sm_K t (i + 1) (sm_T t (i + 1) - 1) = sm_K t (sm_o t i) (sm_T t (sm_o t i) - 1)
      rw [sm_TC h.1, e, sm_Kn hJ]
      exact (d (sm_T t i - 1 - 1) (by omega)).symm
    rw [this]
theorem sm_IJ {t : Nat → Int32} {i : Nat} (h : sm_J t i) : sm_I t (i + 1) = nI i := by
  unfold sm_I sm_o
  rw [sm_TJ h, if_neg (by omega), sm_KJ h, if_pos (by omega)]
theorem sm_In {t : Nat → Int32} {i : Nat} (h : ¬ sm_J t i) (hd : ¬ sm_D t i) : sm_I t (i + 1) = sm_I t i := by
  have e : sm_T t (i + 1) = sm_T t i := by
    by_cases hC : sm_C t i
    · rw [sm_TC hC]
      have : sm_T t i = 0 := Classical.byContradiction fun z => hd ⟨hC, z⟩
      omega
    · exact sm_Tn h hC
  unfold sm_I sm_o
  rw [e, sm_Kn h]
end
section
/-! 02: partners and units of the text, as the arrays hold them -/
theorem sm_PAge (t : Nat → Int32) : ∀ i j, i ≤ j → sm_PA t i j = -1 := by
  intro i
  induction i with
  | zero => intro j _; rfl
  | succ i ih =>
    intro j h
    by_cases hD : sm_D t i
    · have o := (sm_oJ hD.2).1
      rw [sm_PAD hD, sm_un (by omega), sm_un (by omega)]
      exact ih j (by omega)
    · rw [sm_PAn hD]; exact ih j (by omega)
theorem sm_SUge (t : Nat → Int32) : ∀ i j, i ≤ j → (sm_M t i = 1 → sm_sb t i < i) ∧ sm_SU t i j = -1 ∧ sm_SB t i j = -1 := by
  intro i
  induction i with
  | zero => intro j _; exact ⟨fun z => absurd (show (0 : Int32) = 1 from z) (by decide), rfl, rfl⟩
  | succ i ih =>
    intro j h
    obtain ⟨hs, hu, hb⟩ := ih j (by omega)
    refine ⟨fun m => ?_, ?_⟩
    · by_cases hO : sm_O t i
      · rw [sm_sbO hO]; omega
      · rw [sm_sbn hO]
        have : sm_M t i = 1 := by
          by_cases e : sm_E t i = 0
          · by_cases m0 : sm_M t i = 0
            · rw [(sm_s_pl e m0).1] at m
              by_cases h4 : t i = 4
              · exact absurd ⟨e, m0, h4⟩ hO
              · rw [if_neg h4] at m
                split at m <;> exact absurd m (by decide)
            · by_cases m1 : sm_M t i = 1
              · exact m1
              · rw [(sm_s_rm e m0 m1).1] at m
                split at m
                · exact absurd m (by decide)
                · exact m
          · exact (sm_s_esc e).1.symm.trans m
        have := hs this
        omega
    · by_cases hD : sm_D t i
      · have o := (sm_oJ hD.2).1
        rw [sm_SUD hD, sm_SBD hD, sm_un (by omega), sm_un (by omega)]
        exact ⟨hu, hb⟩
      · by_cases hZ : sm_Z t i
        · have o := hs hZ.2.1
          rw [sm_SUZ hZ, sm_SBZ hZ, sm_un (by omega), sm_un (by omega)]
          exact ⟨hu, hb⟩
        · rw [sm_SUn hD hZ, sm_SBn hD hZ]
          exact ⟨hu, hb⟩
theorem sm_sbO2 (t : Nat → Int32) : ∀ i, sm_M t i = 1 → sm_O t (sm_sb t i) := by
  intro i
  induction i with
  | zero => exact fun z => absurd (show (0 : Int32) = 1 from z) (by decide)
  | succ i ih =>
    intro m
    by_cases hO : sm_O t i
    · rw [sm_sbO hO]; exact hO
    · rw [sm_sbn hO]
      refine ih ?_
      by_cases e : sm_E t i = 0
      · by_cases m0 : sm_M t i = 0
        · rw [(sm_s_pl e m0).1] at m
          by_cases h4 : t i = 4
          · exact absurd ⟨e, m0, h4⟩ hO
          · rw [if_neg h4] at m
            split at m <;> exact absurd m (by decide)
        · by_cases m1 : sm_M t i = 1
          · exact m1
          · rw [(sm_s_rm e m0 m1).1] at m
            split at m
            · exact absurd m (by decide)
            · exact m
      · exact (sm_s_esc e).1.symm.trans m
/-- a partner is none or a position that is read -/
theorem sm_PAr (t : Nat → Int32) : ∀ i j, sm_PA t i j = -1 ∨ ∃ k, k < i ∧ sm_PA t i j = nI k := by
  intro i
  induction i with
  | zero => intro j; exact Or.inl rfl
  | succ i ih =>
    intro j
    by_cases hD : sm_D t i
    · have o := (sm_oJ hD.2).1
      rw [sm_PAD hD]
      by_cases e : j = i
      · subst e; exact Or.inr ⟨_, by omega, sm_us⟩
      · rw [sm_un e]
        by_cases e2 : j = sm_o t i
        · subst e2; exact Or.inr ⟨i, by omega, sm_us⟩
        · rw [sm_un e2]
          rcases ih j with h | ⟨k, hk, h⟩
          · exact Or.inl h
          · exact Or.inr ⟨k, by omega, h⟩
    · rw [sm_PAn hD]
      rcases ih j with h | ⟨k, hk, h⟩
      · exact Or.inl h
      · exact Or.inr ⟨k, by omega, h⟩
theorem sm_PAx (t : Nat → Int32) : ∀ i j, ¬ sm_J t j → ¬ sm_D t j → sm_PA t i j = -1 := by
  intro i
  induction i with
  | zero => intro j _ _; rfl
  | succ i ih =>
    intro j hj hd
    by_cases hD : sm_D t i
    · have o := (sm_oJ hD.2).2.1
      rw [sm_PAD hD, sm_un (fun z : j = i => hd (z ▸ hD)), sm_un (fun z : j = sm_o t i => hj (z ▸ o))]
      exact ih j hj hd
    · rw [sm_PAn hD]; exact ih j hj hd
theorem sm_PAc (t : Nat → Int32) : ∀ i j, j < i → sm_D t j → sm_PA t i j = nI (sm_o t j) := by
  intro i
  induction i with
  | zero => intro j h; omega
  | succ i ih =>
    intro j h hd
    by_cases e : j = i
    · subst e
      rw [sm_PAD hd]; exact sm_us
    · by_cases hD : sm_D t i
      · have o := (sm_oJ hD.2).2.1
        rw [sm_PAD hD, sm_un e, sm_un (fun z : j = sm_o t i => sm_JC (z ▸ o) hd.1)]
        exact ih j (by omega) hd
      · rw [sm_PAn hD]; exact ih j (by omega) hd
/-- a CLOSE that is read is one with a partner, or a stray one -/
theorem sm_rc {t : Nat → Int32} {n j : Nat} (hn : n ≤ 64) (h : j < n) : sm_C t j ↔ t j = 3 ∧ (¬ sm_PA t n j = -1 ∨ (sm_C t j ∧ sm_T t j = 0)) := by
  constructor
  · intro c
    refine ⟨c.2.2, ?_⟩
    by_cases z : sm_T t j = 0
    · exact Or.inr ⟨c, z⟩
    · refine Or.inl ?_
      have o := (sm_oJ z).1
      rw [sm_PAc t n j h ⟨c, z⟩]
      exact sm_nn (by omega)
  · rintro ⟨e, h | h⟩
    · refine Classical.byContradiction fun c => h (sm_PAx t n j (fun z => ?_) (fun z => c z.1))
      exact absurd (e.symm.trans z.2.2) (by decide)
    · exact h.1
theorem sm_SUJ (t : Nat → Int32) : ∀ i j, sm_J t j → sm_SU t i j = sm_PA t i j := by
  intro i
  induction i with
  | zero => intro j _; rfl
  | succ i ih =>
    intro j hj
    by_cases hD : sm_D t i
    · rw [sm_PAD hD, sm_SUD hD, sm_un (f := upd (sm_PA t i) (sm_o t i) (nI i)) (fun z : j = i => sm_JC (z ▸ hj) hD.1)]
      by_cases e : j = sm_o t i
      · rw [e, sm_us, sm_us]
      · rw [sm_un e, sm_un e]; exact ih j hj
    · rw [sm_PAn hD]
      by_cases hZ : sm_Z t i
      · rw [sm_SUZ hZ, sm_un (fun z : j = sm_sb t i => sm_JO hj (z ▸ sm_sbO2 t i hZ.2.1))]
        exact ih j hj
      · rw [sm_SUn hD hZ]; exact ih j hj
theorem sm_SUx (t : Nat → Int32) : ∀ i j, ¬ sm_J t j → ¬ sm_O t j → sm_SU t i j = -1 := by
  intro i
  induction i with
  | zero => intro j _ _; rfl
  | succ i ih =>
    intro j hj ho
    by_cases hD : sm_D t i
    · rw [sm_SUD hD, sm_un (fun z : j = sm_o t i => hj (z ▸ (sm_oJ hD.2).2.1))]
      exact ih j hj ho
    · by_cases hZ : sm_Z t i
      · rw [sm_SUZ hZ, sm_un (fun z : j = sm_sb t i => ho (z ▸ sm_sbO2 t i hZ.2.1))]
        exact ih j hj ho
      · rw [sm_SUn hD hZ]; exact ih j hj ho
theorem sm_SBx (t : Nat → Int32) : ∀ i j, ¬ sm_C t j → ¬ sm_Z t j → sm_SB t i j = -1 := by
  intro i
  induction i with
  | zero => intro j _ _; rfl
  | succ i ih =>
    intro j hj ho
    by_cases hD : sm_D t i
    · rw [sm_SBD hD, sm_un (fun z : j = i => hj (z ▸ hD.1))]
      exact ih j hj ho
    · by_cases hZ : sm_Z t i
      · rw [sm_SBZ hZ, sm_un (fun z : j = i => ho (z ▸ hZ))]
        exact ih j hj ho
      · rw [sm_SBn hD hZ]; exact ih j hj ho
/-- a bracket in the list has no partner yet -/
theorem sm_PAk (t : Nat → Int32) : ∀ i l, l < sm_T t i → sm_PA t i (sm_K t i l) = -1 := by
  intro i
  induction i with
  | zero => intro l h; exact absurd h (Nat.not_lt_zero l)
  | succ i ih =>
    intro l h
    by_cases hJ : sm_J t i
    · have hD : ¬ sm_D t i := fun z => sm_JC hJ z.1
      rw [sm_PAn hD, sm_KJ hJ]
      rw [sm_TJ hJ] at h
      by_cases e : l = sm_T t i
      · rw [if_pos e]; exact sm_PAge t i i (Nat.le_refl i)
      · rw [if_neg e]; exact ih l (by omega)
    · rw [sm_Kn hJ]
      by_cases hC : sm_C t i
      · rw [sm_TC hC] at h
        have hD : sm_D t i := ⟨hC, by omega⟩
        have a := sm_stk t i l (by omega)
        have o := sm_oJ hD.2
        rw [sm_PAD hD, sm_un (by omega), sm_un (fun z => ?_)]
        · exact ih l (by omega)
        · have : sm_T t (sm_K t i l) = sm_T t (sm_o t i) := by rw [z]
          have := a.2.2.1
          omega
      · rw [sm_Tn hJ hC] at h
        rw [sm_PAn (fun z => hC z.1)]
        exact ih l h
/-- a string's end -/
theorem sm_str (t : Nat → Int32) : ∀ i, i ≤ 64 → (sm_M t i = 1 → sm_SU t i (sm_sb t i) = -1) ∧ ∀ j, j < i → sm_O t j → (sm_SU t i j = -1 ∧ sm_M t i = 1 ∧ sm_sb t i = j ∧ ∀ k, j < k → k < i → ¬ sm_Z t k) ∨ ∃ e, j < e ∧ e < i ∧ sm_Z t e ∧ (∀ k, j < k → k < e → ¬ sm_Z t k) ∧ sm_SU t i j = nI e := by
  intro i
  induction i with
  | zero => intro _; exact ⟨fun z => absurd (show (0 : Int32) = 1 from z) (by decide), fun j h => by omega⟩
  | succ i ih =>
    intro hi
    obtain ⟨ih1, ih2⟩ := ih (by omega)
    by_cases hZ : sm_Z t i
    · have hD : ¬ sm_D t i := fun z => sm_CZ z.1 hZ
      have m' : sm_M t (i + 1) = 0 := by rw [(sm_s_st hZ.1 hZ.2.1).1, if_pos hZ.2.2]
      refine ⟨fun z => absurd (m'.symm.trans z) (by decide), fun j hj hO => ?_⟩
      have hji : ¬ j = i := fun z => sm_OZ (z ▸ hO) hZ
      rcases ih2 j (by omega) hO with ⟨a, b, c, d⟩ | ⟨e, a, b, c, d, f⟩
      · refine Or.inr ⟨i, by omega, by omega, hZ, d, ?_⟩
        rw [sm_SUZ hZ, c]; exact sm_us
      · refine Or.inr ⟨e, a, by omega, c, d, ?_⟩
        rw [sm_SUZ hZ, sm_un (fun z => ?_)]
        · exact f
        · have := ih1 hZ.2.1
          rw [← z, f] at this
          exact sm_nn (by omega) this
    · have hU : ∀ j, sm_O t j → sm_SU t (i + 1) j = sm_SU t i j := by
        intro j hO
        by_cases hD : sm_D t i
        · rw [sm_SUD hD, sm_un (fun z : j = sm_o t i => sm_JO (z ▸ (sm_oJ hD.2).2.1) hO)]
        · rw [sm_SUn hD hZ]
      by_cases hO' : sm_O t i
      · have m' : sm_M t (i + 1) = 1 := by rw [(sm_s_pl hO'.1 hO'.2.1).1, if_pos hO'.2.2]
        have s' := sm_sbO hO'
        refine ⟨fun _ => ?_, fun j hj hO => ?_⟩
        · rw [s', hU i hO']; exact (sm_SUge t i i (Nat.le_refl i)).2.1
        · rw [hU j hO]
          by_cases e : j = i
          · subst e
            exact Or.inl ⟨(sm_SUge t j j (Nat.le_refl j)).2.1, m', s', fun k h1 h2 => by omega⟩
          · rcases ih2 j (by omega) hO with ⟨a, b, c, d⟩ | ⟨e, a, b, c, d, f⟩
            · exact absurd (b.symm.trans hO'.2.1) (by decide)
            · exact Or.inr ⟨e, a, by omega, c, d, f⟩
      · have s' := sm_sbn hO'
        have m1 : sm_M t (i + 1) = 1 → sm_M t i = 1 := by
          intro m
          by_cases e : sm_E t i = 0
          · by_cases m0 : sm_M t i = 0
            · rw [(sm_s_pl e m0).1] at m
              by_cases h4 : t i = 4
              · exact absurd ⟨e, m0, h4⟩ hO'
              · rw [if_neg h4] at m
                split at m <;> exact absurd m (by decide)
            · by_cases m1 : sm_M t i = 1
              · exact m1
              · rw [(sm_s_rm e m0 m1).1] at m
                split at m
                · exact absurd m (by decide)
                · exact m
          · exact (sm_s_esc e).1.symm.trans m
        have m2 : sm_M t i = 1 → sm_M t (i + 1) = 1 := by
          intro m
          by_cases e : sm_E t i = 0
          · rw [(sm_s_st e m).1, if_neg (fun z => hZ ⟨e, m, z⟩)]
          · exact (sm_s_esc e).1.trans m
        refine ⟨fun m => ?_, fun j hj hO => ?_⟩
        · rw [s', hU _ (sm_sbO2 t i (m1 m))]; exact ih1 (m1 m)
        · rw [hU j hO]
          have hji : ¬ j = i := fun z => hO' (z ▸ hO)
          rcases ih2 j (by omega) hO with ⟨a, b, c, d⟩ | ⟨e, a, b, c, d, f⟩
          · refine Or.inl ⟨a, m2 b, s'.trans c, fun k h1 h2 => ?_⟩
            by_cases q : k = i
            · rw [q]; exact hZ
            · exact d k h1 (by omega)
          · exact Or.inr ⟨e, a, by omega, c, d, f⟩
end
section
/-! 03: begins and ends of units belong to each other; words; how many units -/
def sm_BJ (U B : Nat → Int32) (m : Nat) : Prop := (∀ i, U i = -1 ∨ ∃ e, i ≤ e ∧ e < m ∧ U i = nI e ∧ B e = nI i) ∧ (∀ e, B e = -1 ∨ ∃ i, i ≤ e ∧ e < m ∧ B e = nI i ∧ U i = nI e)
theorem sm_BJu {U B : Nat → Int32} {m m' b e : Nat} (h : sm_BJ U B m) (hbe : b ≤ e) (he : e < m') (hm : m ≤ m') (hm' : m' ≤ 64) (hu : U b = -1) (hb : B e = -1) : sm_BJ (upd U b (nI e)) (upd B e (nI b)) m' := by
  obtain ⟨h1, h2⟩ := h
  refine ⟨fun i => ?_, fun d => ?_⟩
  · by_cases q : i = b
    · subst q
      exact Or.inr ⟨e, hbe, he, sm_us, sm_us⟩
    · rw [sm_un q]
      rcases h1 i with z | ⟨d, a1, a2, a3, a4⟩
      · exact Or.inl z
      · refine Or.inr ⟨d, a1, by omega, a3, ?_⟩
        rw [sm_un (fun z : d = e => ?_)]
        · exact a4
        · rw [z, hb] at a4
          exact sm_nn (by omega) a4.symm
  · by_cases q : d = e
    · subst q
      exact Or.inr ⟨b, hbe, he, sm_us, sm_us⟩
    · rw [sm_un q]
      rcases h2 d with z | ⟨i, a1, a2, a3, a4⟩
      · exact Or.inl z
      · refine Or.inr ⟨i, a1, by omega, a3, ?_⟩
        rw [sm_un (fun z : i = b => ?_)]
        · exact a4
        · rw [z, hu] at a4
          exact sm_nn (by omega) a4.symm
theorem sm_BJw {U B : Nat → Int32} {m m' : Nat} (h : sm_BJ U B m) (hm : m ≤ m') : sm_BJ U B m' := by
  refine ⟨fun i => ?_, fun e => ?_⟩
  · rcases h.1 i with z | ⟨e, a1, a2, a3⟩
    · exact Or.inl z
    · exact Or.inr ⟨e, a1, by omega, a3⟩
  · rcases h.2 e with z | ⟨i, a1, a2, a3⟩
    · exact Or.inl z
    · exact Or.inr ⟨i, a1, by omega, a3⟩
def sm_cn (U : Nat → Int32) : Nat → Nat
  | 0 => 0
  | i + 1 => if U i = -1 then sm_cn U i else sm_cn U i + 1
theorem sm_cnx {U V : Nat → Int32} : ∀ n, (∀ j, j < n → U j = V j) → sm_cn U n = sm_cn V n := by
  intro n
  induction n with
  | zero => intro _; rfl
  | succ n ih =>
    intro h
    rw [sm_cn, sm_cn, h n (by omega), ih (fun j hj => h j (by omega))]
theorem sm_cnu {U : Nat → Int32} {b : Nat} {v : Int32} (hu : U b = -1) (hv : ¬ v = -1) : ∀ n, b < n → sm_cn (upd U b v) n = sm_cn U n + 1 := by
  intro n
  induction n with
  | zero => intro h; omega
  | succ n ih =>
    intro h
    by_cases e : n = b
    · subst e
      rw [sm_cn, sm_cn, sm_us, if_neg hv, if_pos hu, sm_cnx n (fun j hj => sm_un (by omega))]
    · rw [sm_cn, sm_cn, sm_un e, ih (by omega)]
      split <;> rfl
theorem sm_cn1 {U : Nat → Int32} : ∀ n, (∀ j, j < n → U j = -1) → sm_cn U n = 0 := by
  intro n
  induction n with
  | zero => intro _; rfl
  | succ n ih =>
    intro h
    rw [sm_cn, if_pos (h n (by omega)), ih (fun j hj => h j (by omega))]
theorem sm_SUo {t : Nat → Int32} {i : Nat} (h : sm_D t i) : sm_SU t i (sm_o t i) = -1 := by
  have hT := h.2
  rw [sm_SUJ t i _ (sm_oJ h.2).2.1]
  exact sm_PAk t i (sm_T t i - 1) (by omega)
/-- brackets and strings -/
theorem sm_BJ1 (t : Nat → Int32) : ∀ i, i ≤ 64 → sm_BJ (sm_SU t i) (sm_SB t i) i := by
  intro i
  induction i with
  | zero => intro _; exact ⟨fun _ => Or.inl rfl, fun _ => Or.inl rfl⟩
  | succ i ih =>
    intro hi
    have h := ih (by omega)
    by_cases hD : sm_D t i
    · have o := (sm_oJ hD.2).1
      rw [sm_SUD hD, sm_SBD hD]
      exact sm_BJu h (by omega) (by omega) (by omega) hi (sm_SUo hD) (sm_SUge t i i (Nat.le_refl i)).2.2
    · by_cases hZ : sm_Z t i
      · have o := (sm_SUge t i i (Nat.le_refl i)).1 hZ.2.1
        rw [sm_SUZ hZ, sm_SBZ hZ]
        exact sm_BJu h (by omega) (by omega) (by omega) hi ((sm_str t i (by omega)).1 hZ.2.1) (sm_SUge t i i (Nat.le_refl i)).2.2
      · rw [sm_SUn hD hZ, sm_SBn hD hZ]
        exact sm_BJw h (by omega)
/-! words -/
def sm_fb (t : Nat → Int32) : Nat → Nat
  | 0 => 0
  | i + 1 => if sm_W t i then sm_fb t i else i + 1
theorem sm_fbW {t : Nat → Int32} {i : Nat} (h : sm_W t i) : sm_fb t (i + 1) = sm_fb t i := by rw [sm_fb, if_pos h]
theorem sm_fbn {t : Nat → Int32} {i : Nat} (h : ¬ sm_W t i) : sm_fb t (i + 1) = i + 1 := by rw [sm_fb, if_neg h]
theorem sm_fbl (t : Nat → Int32) : ∀ i, sm_fb t i ≤ i ∧ (∀ k, sm_fb t i ≤ k → k < i → sm_W t k) ∧ (∀ k, k + 1 = sm_fb t i → ¬ sm_W t k) := by
  intro i
  induction i with
  | zero => exact ⟨Nat.le_refl 0, fun k _ h => by omega, fun k h => absurd (show k + 1 = 0 from h) (by omega)⟩
  | succ i ih =>
    obtain ⟨a, b, c⟩ := ih
    by_cases h : sm_W t i
    · rw [sm_fbW h]
      refine ⟨by omega, fun k h1 h2 => ?_, c⟩
      by_cases q : k = i
      · rw [q]; exact h
      · exact b k h1 (by omega)
    · rw [sm_fbn h]
      refine ⟨Nat.le_refl _, fun k h1 h2 => by omega, fun k h1 => ?_⟩
      have : k = i := by omega
      rw [this]; exact h
abbrev sm_we (t : Nat → Int32) (n e : Nat) : Prop := sm_W t e ∧ sm_E t (e + 1) = 0 ∧ (e + 1 = n ∨ ¬ sm_W t (e + 1))
def sm_FU (t : Nat → Int32) (n : Nat) : Nat → Nat → Int32
  | 0 => sm_SU t n
  | i + 1 => if sm_we t n i then upd (sm_FU t n i) (sm_fb t i) (nI i) else sm_FU t n i
def sm_FB (t : Nat → Int32) (n : Nat) : Nat → Nat → Int32
  | 0 => sm_SB t n
  | i + 1 => if sm_we t n i then upd (sm_FB t n i) i (nI (sm_fb t i)) else sm_FB t n i
theorem sm_FUw {t : Nat → Int32} {n i : Nat} (h : sm_we t n i) : sm_FU t n (i + 1) = upd (sm_FU t n i) (sm_fb t i) (nI i) := by rw [sm_FU, if_pos h]
theorem sm_FUn {t : Nat → Int32} {n i : Nat} (h : ¬ sm_we t n i) : sm_FU t n (i + 1) = sm_FU t n i := by rw [sm_FU, if_neg h]
theorem sm_FBw {t : Nat → Int32} {n i : Nat} (h : sm_we t n i) : sm_FB t n (i + 1) = upd (sm_FB t n i) i (nI (sm_fb t i)) := by rw [sm_FB, if_pos h]
theorem sm_FBn {t : Nat → Int32} {n i : Nat} (h : ¬ sm_we t n i) : sm_FB t n (i + 1) = sm_FB t n i := by rw [sm_FB, if_neg h]
theorem sm_FUs (t : Nat → Int32) (n : Nat) : ∀ m j, (sm_FU t n m j = sm_SU t n j ∧ ∀ e, e < m → sm_we t n e → ¬ sm_fb t e = j) ∨ (∃ e, e < m ∧ sm_we t n e ∧ sm_fb t e = j ∧ sm_FU t n m j = nI e) := by
  intro m
  induction m with
  | zero => intro j; exact Or.inl ⟨rfl, fun e h => by omega⟩
  | succ m ih =>
    intro j
    by_cases h : sm_we t n m
    · rw [sm_FUw h]
      by_cases q : j = sm_fb t m
      · subst q
        exact Or.inr ⟨m, by omega, h, rfl, sm_us⟩
      · rw [sm_un q]
        rcases ih j with ⟨a, b⟩ | ⟨e, a, b⟩
        · refine Or.inl ⟨a, fun e h1 h2 => ?_⟩
          by_cases z : e = m
          · subst z; exact fun y => q y.symm
          · exact b e (by omega) h2
        · exact Or.inr ⟨e, by omega, b⟩
    · rw [sm_FUn h]
      rcases ih j with ⟨a, b⟩ | ⟨e, a, b⟩
      · refine Or.inl ⟨a, fun e h1 h2 => ?_⟩
        by_cases z : e = m
        · subst z; exact absurd h2 h
        · exact b e (by omega) h2
      · exact Or.inr ⟨e, by omega, b⟩
theorem sm_FBge (t : Nat → Int32) (n : Nat) : ∀ m e, m ≤ e → sm_FB t n m e = sm_SB t n e := by
  intro m
  induction m with
  | zero => intro e _; rfl
  | succ m ih =>
    intro e h
    by_cases w : sm_we t n m
    · rw [sm_FBw w, sm_un (by omega)]; exact ih e (by omega)
    · rw [sm_FBn w]; exact ih e (by omega)
/-- no unit begins yet where a word that ends now begins -/
theorem sm_FUb {t : Nat → Int32} {n m : Nat} (hm : m < n) (h : sm_we t n m) : sm_FU t n m (sm_fb t m) = -1 ∧ sm_FB t n m m = -1 := by
  obtain ⟨a, b, c⟩ := sm_fbl t m
  constructor
  · rcases sm_FUs t n m (sm_fb t m) with ⟨z, _⟩ | ⟨e, h1, h2, h3, _⟩
    · rw [z]
      have w : sm_W t (sm_fb t m) := by
        by_cases q : sm_fb t m = m
        · rw [q]; exact h.1
        · exact b _ (Nat.le_refl _) (by omega)
      have x := sm_Wx w
      exact sm_SUx t n _ x.1 x.2.2.1
    · exfalso
      obtain ⟨a', _⟩ := sm_fbl t e
      rcases h2.2.2 with y | y
      · omega
      · apply y
        by_cases q : e + 1 = m
        · rw [q]; exact h.1
        · exact b (e + 1) (by omega) (by omega)
  · rw [sm_FBge t n m m (Nat.le_refl m)]
    have x := sm_Wx h.1
    exact sm_SBx t n m x.2.1 x.2.2.2
theorem sm_BJ2 (t : Nat → Int32) {n : Nat} (hn : n ≤ 64) : ∀ m, m ≤ n → sm_BJ (sm_FU t n m) (sm_FB t n m) n := by
  intro m
  induction m with
  | zero => intro _; exact sm_BJ1 t n hn
  | succ m ih =>
    intro hm
    have h := ih (by omega)
    by_cases w : sm_we t n m
    · rw [sm_FUw w, sm_FBw w]
      have z := sm_FUb (by omega) w
      exact sm_BJu h (sm_fbl t m).1 (by omega) (Nat.le_refl n) hn z.1 z.2
    · rw [sm_FUn w, sm_FBn w]; exact h
/-- where a word begins, and where it ends -/
theorem sm_run (t : Nat → Int32) : ∀ e i, i ≤ e → (∀ k, i ≤ k → k ≤ e → sm_W t k) → (∀ k, k + 1 = i → ¬ sm_W t k) → sm_fb t e = i := by
  intro e
  induction e with
  | zero => intro i h _ _; have : i = 0 := by omega
            rw [this]; rfl
  | succ e ih =>
    intro i h hw hb
    by_cases q : i = e + 1
    · rw [sm_fbn (hb e q.symm), q]
    · rw [sm_fbW (hw e (by omega) (by omega))]
      exact ih i (by omega) (fun k h1 h2 => hw k h1 (by omega)) hb
theorem sm_FUrun {t : Nat → Int32} {n i e : Nat} (hi : i ≤ e) (he : e < n) (hw : ∀ k, i ≤ k → k ≤ e → sm_W t k) (hb : ∀ k, k + 1 = i → ¬ sm_W t k) (hx : e + 1 = n ∨ ¬ sm_W t (e + 1)) : sm_FU t n n i = if sm_E t (e + 1) = 0 then nI e else -1 := by
  have hf := sm_run t e i hi hw hb
  have hs : sm_SU t n i = -1 := by
    have x := sm_Wx (hw i (Nat.le_refl i) hi)
    exact sm_SUx t n i x.1 x.2.2.1
  have un : ∀ d, d < n → sm_we t n d → sm_fb t d = i → d = e := by
    intro d hd h1 h2
    obtain ⟨a, b, c⟩ := sm_fbl t d
    rw [h2] at a b
    rcases Nat.lt_trichotomy d e with z | z | z
    · exfalso
      rcases h1.2.2 with y | y
      · omega
      · exact y (hw (d + 1) (by omega) (by omega))
    · exact z
    · exfalso
      rcases hx with y | y
      · omega
      · apply y
        by_cases q : e + 1 = d
        · rw [q]; exact h1.1
        · exact b (e + 1) (by omega) (by omega)
  rcases sm_FUs t n n i with ⟨a, b⟩ | ⟨d, a, b, c, f⟩
  · by_cases z : sm_E t (e + 1) = 0
    · exact absurd hf (b e he ⟨hw e hi (Nat.le_refl e), z, hx⟩)
    · rw [if_neg z, a, hs]
  · have := un d a b c
    subst this
    rw [if_pos b.2.1, f]
theorem sm_FUno {t : Nat → Int32} {n i : Nat} (h : ¬ (sm_W t i ∧ ∀ k, k + 1 = i → ¬ sm_W t k)) : sm_FU t n n i = sm_SU t n i := by
  rcases sm_FUs t n n i with ⟨a, _⟩ | ⟨e, a, b, c, _⟩
  · exact a
  · exfalso
    obtain ⟨x, y, z⟩ := sm_fbl t e
    rw [c] at x y z
    refine h ⟨?_, z⟩
    by_cases q : i = e
    · rw [q]; exact b.1
    · exact y i (Nat.le_refl i) (by omega)
/-- an escaped character of a word has the ESCAPE before it -/
theorem sm_We {t : Nat → Int32} {i : Nat} (h : sm_W t i) (hb : ∀ k, k + 1 = i → ¬ sm_W t k) : sm_E t i = 0 := by
  refine Classical.byContradiction fun z => ?_
  cases i with
  | zero => exact z rfl
  | succ i =>
    obtain ⟨a, b, c⟩ := sm_Ep z
    exact hb i rfl ⟨c.symm.trans h.1, Or.inr (Or.inr b)⟩
end
section
/-! 04: the component reads its text: each own method with a general post, then the loop. Written by wip/whole/gen04.py -/
theorem sx_n0 : vp_nar .boolean 0 = 0 := rfl
theorem sx_n1 : vp_nar .boolean 1 = 1 := rfl
theorem sx_cl {i : Nat} (h : i < 65) : (nI i).toNatClampNeg = i := nI_clamp (by omega)
theorem sx_v64 {i : Nat} (h : i < 64) : vp_in (nI i) 64 := vp_in_nI h (by omega)
theorem sx_v65 {i : Nat} (h : i < 65) : vp_in (nI i) 65 := vp_in_nI h (by omega)
theorem sx_v65' {i : Nat} (h : i < 64) : vp_in (nI i + 1) 65 := by rw [nI_1]; exact vp_in_nI (by omega) (by omega)
theorem sx_cl' {i : Nat} (h : i < 64) : (nI i + 1).toNatClampNeg = i + 1 := by rw [nI_1]; exact nI_clamp (by omega)
theorem sx_start {post : SX → Prop} {c fs fu fb : Int32} {t am ae ad ai aj ay ap au ab : Nat → Int32} (h : post (c, 0, 0, fb, t, upd am 0 0, upd ae 0 0, upd ad 0 0, upd ai 0 (-1), aj, ay, ap, au, ab)) : wpX_startReading post (c, fs, fu, fb, t, am, ae, ad, ai, aj, ay, ap, au, ab) :=
  nm_e (nm_r (e' := upd ae 0 0) (by rw [sx_n0]) (nm_e (nm_e h)))
theorem sx_forget {post : SX → Prop} {i : Nat} (hi : i < 64) {c fs fu fb : Int32} {t am ae ad ai aj ay ap au ab : Nat → Int32} (h : post (c, fs, fu, fb, t, am, ae, ad, ai, upd aj i 0, upd ay i 0, upd ap i (-1), upd au i (-1), upd ab i (-1))) : wpX_forgetCharacter post (c, fs, fu, fb, t, am, ae, ad, ai, aj, ay, ap, au, ab) (nI i) :=
  have v := sx_v64 hi
  have k : (nI i).toNatClampNeg = i := sx_cl (by omega)
  ⟨v, nm_r (e' := upd aj i 0) (by rw [k, sx_n0]) ⟨v, nm_r (e' := upd ay i 0) (by rw [k, sx_n0]) ⟨v, nm_r (e' := upd ap i (-1)) (by rw [k]) ⟨v, nm_r (e' := upd au i (-1)) (by rw [k]) ⟨v, nm_r (e' := upd ab i (-1)) (by rw [k]) h⟩⟩⟩⟩⟩
theorem sx_carry {post : SX → Prop} {i : Nat} (hi : i < 64) {c fs fu fb : Int32} {t am ae ad ai aj ay ap au ab : Nat → Int32} (h : post (c, fs, fu, fb, t, upd am (i + 1) (am i), upd ae (i + 1) 0, upd ad (i + 1) (ad i), upd ai (i + 1) (ai i), aj, ay, ap, au, ab)) : wpX_carryState post (c, fs, fu, fb, t, am, ae, ad, ai, aj, ay, ap, au, ab) (nI i) :=
  have v := sx_v65 (i := i) (by omega)
  have w := sx_v65' hi
  have k : (nI i).toNatClampNeg = i := sx_cl (by omega)
  have k1 : (nI i + 1).toNatClampNeg = i + 1 := sx_cl' hi
  ⟨v, w, nm_r (e' := upd am (i + 1) (am i)) (by rw [k, k1]) ⟨w, nm_r (e' := upd ae (i + 1) 0) (by rw [k1, sx_n0]) ⟨v, w, nm_r (e' := upd ad (i + 1) (ad i)) (by rw [k, k1]) ⟨v, w, nm_r (e' := upd ai (i + 1) (ai i)) (by rw [k, k1]) h⟩⟩⟩⟩
theorem sx_open {post : SX → Prop} {i : Nat} (hi : i < 64) {c fs fu fb : Int32} {t am ae ad ai aj ay ap au ab : Nat → Int32} (h : post (c, fs, fu, fb, t, am, ae, upd ad (i + 1) (ad i + 1), upd ai (i + 1) (nI i), upd aj i 1, ay, ap, au, ab)) : wpX_openBracket post (c, fs, fu, fb, t, am, ae, ad, ai, aj, ay, ap, au, ab) (nI i) :=
  have v := sx_v65 (i := i) (by omega)
  have v0 := sx_v64 hi
  have w := sx_v65' hi
  have k : (nI i).toNatClampNeg = i := sx_cl (by omega)
  have k1 : (nI i + 1).toNatClampNeg = i + 1 := sx_cl' hi
  ⟨v0, nm_r (e' := upd aj i 1) (by rw [k, sx_n1]) ⟨w, nm_r (e' := upd ai (i + 1) (nI i)) (by rw [k1]) ⟨v, w, nm_r (e' := upd ad (i + 1) (ad i + 1)) (by rw [k, k1]) h⟩⟩⟩
theorem sx_add {post : SX → Prop} {b e : Nat} (hb : b < 64) (he : e < 64) {c fs fu fb : Int32} {t am ae ad ai aj ay ap au ab : Nat → Int32} (h : post (c, fs, fu + 1, fb, t, am, ae, ad, ai, aj, ay, ap, upd au b (nI e), upd ab e (nI b))) : wpX_addUnit post (c, fs, fu, fb, t, am, ae, ad, ai, aj, ay, ap, au, ab) (nI b) (nI e) :=
  have k : (nI b).toNatClampNeg = b := sx_cl (by omega)
  have k1 : (nI e).toNatClampNeg = e := sx_cl (by omega)
  ⟨sx_v64 hb, nm_r (e' := upd au b (nI e)) (by rw [k]) ⟨sx_v64 he, nm_r (e' := upd ab e (nI b)) (by rw [k1]) (nm_e h)⟩⟩
theorem sx_close_s {post : SX → Prop} {i : Nat} (hi : i < 64) {c fs fu fb : Int32} {t am ae ad ai aj ay ap au ab : Nat → Int32} (hs : ai i = -1) (h : post (c, fs + 1, fu, fb, t, am, ae, ad, ai, aj, upd ay i 1, ap, au, ab)) : wpX_closeBracket post (c, fs, fu, fb, t, am, ae, ad, ai, aj, ay, ap, au, ab) (nI i) :=
  have v := sx_v65 (i := i) (by omega)
  have k : (nI i).toNatClampNeg = i := sx_cl (by omega)
  ⟨v, nm_r (e' := -1) (by rw [k]; exact hs) (br_t rfl ⟨sx_v64 hi, nm_r (e' := upd ay i 1) (by rw [k, sx_n1]) (nm_e h)⟩)⟩
theorem sx_close_p {post : SX → Prop} {i o : Nat} (hi : i < 64) (ho : o < 64) {c fs fu fb : Int32} {t am ae ad ai aj ay ap au ab : Nat → Int32} (hs : ai i = nI o) (h : post (c, fs, fu + 1, fb, t, am, ae, upd ad (i + 1) (ad i - 1), upd ai (i + 1) (ai o), aj, ay, upd (upd ap o (nI i)) i (nI o), upd au o (nI i), upd ab i (nI o))) : wpX_closeBracket post (c, fs, fu, fb, t, am, ae, ad, ai, aj, ay, ap, au, ab) (nI i) :=
  have v := sx_v65 (i := i) (by omega)
  have w := sx_v65' hi
  have v0 := sx_v64 hi
  have k : (nI i).toNatClampNeg = i := sx_cl (by omega)
  have k1 : (nI i + 1).toNatClampNeg = i + 1 := sx_cl' hi
  have ko : (nI o).toNatClampNeg = o := sx_cl (by omega)
  ⟨v, nm_r (e' := nI o) (by rw [k]; exact hs) (br_f (sm_nn (by omega)) ⟨sx_v64 ho, nm_r (e' := upd ap o (nI i)) (by rw [ko]) ⟨v0, nm_r (e' := upd (upd ap o (nI i)) i (nI o)) (by rw [k]) ⟨sx_v65 (by omega), w, nm_r (e' := upd ai (i + 1) (ai o)) (by rw [k1, ko]) ⟨v, w, nm_r (e' := upd ad (i + 1) (ad i - 1)) (by rw [k, k1]) (sx_add ho hi h)⟩⟩⟩⟩)⟩
theorem sx_pl2 {post : SX → Prop} {i : Nat} (hi : i < 64) {c fs fu fb : Int32} {t am ae ad ai aj ay ap au ab : Nat → Int32} (ht : t i = 2) (h : post (c, fs, fu, fb, t, am, ae, upd ad (i + 1) (ad i + 1), upd ai (i + 1) (nI i), upd aj i 1, ay, ap, au, ab)) : wpX_readInPlain post (c, fs, fu, fb, t, am, ae, ad, ai, aj, ay, ap, au, ab) (nI i) :=
  have k : (nI i).toNatClampNeg = i := sx_cl (by omega)
  ⟨sx_v64 hi, nm_r (e' := 2) (by rw [k]; exact ht) (br_f (by decide) (br_f (by decide) (br_t rfl (sx_open hi h))))⟩
theorem sx_pl3s {post : SX → Prop} {i : Nat} (hi : i < 64) {c fs fu fb : Int32} {t am ae ad ai aj ay ap au ab : Nat → Int32} (ht : t i = 3) (hs : ai i = -1) (h : post (c, fs + 1, fu, fb, t, am, ae, ad, ai, aj, upd ay i 1, ap, au, ab)) : wpX_readInPlain post (c, fs, fu, fb, t, am, ae, ad, ai, aj, ay, ap, au, ab) (nI i) :=
  have k : (nI i).toNatClampNeg = i := sx_cl (by omega)
  ⟨sx_v64 hi, nm_r (e' := 3) (by rw [k]; exact ht) (br_f (by decide) (br_f (by decide) (br_f (by decide) (br_t rfl (sx_close_s hi hs h)))))⟩
theorem sx_pl3p {post : SX → Prop} {i : Nat} (hi : i < 64) {c fs fu fb : Int32} {t am ae ad ai aj ay ap au ab : Nat → Int32} {o : Nat} (ho : o < 64) (ht : t i = 3) (hs : ai i = nI o) (h : post (c, fs, fu + 1, fb, t, am, ae, upd ad (i + 1) (ad i - 1), upd ai (i + 1) (ai o), aj, ay, upd (upd ap o (nI i)) i (nI o), upd au o (nI i), upd ab i (nI o))) : wpX_readInPlain post (c, fs, fu, fb, t, am, ae, ad, ai, aj, ay, ap, au, ab) (nI i) :=
  have k : (nI i).toNatClampNeg = i := sx_cl (by omega)
  ⟨sx_v64 hi, nm_r (e' := 3) (by rw [k]; exact ht) (br_f (by decide) (br_f (by decide) (br_f (by decide) (br_t rfl (sx_close_p hi ho hs h)))))⟩
theorem sx_pl4 {post : SX → Prop} {i : Nat} (hi : i < 64) {c fs fu fb : Int32} {t am ae ad ai aj ay ap au ab : Nat → Int32} (ht : t i = 4) (h : post (c, fs, fu, nI i, t, upd am (i + 1) 1, ae, ad, ai, aj, ay, ap, au, ab)) : wpX_readInPlain post (c, fs, fu, fb, t, am, ae, ad, ai, aj, ay, ap, au, ab) (nI i) :=
  have k : (nI i).toNatClampNeg = i := sx_cl (by omega)
  ⟨sx_v64 hi, nm_r (e' := 4) (by rw [k]; exact ht) (br_f (by decide) (br_f (by decide) (br_f (by decide) (br_f (by decide) (br_t rfl ⟨sx_v65' hi, nm_r (e' := upd am (i + 1) 1) (by rw [sx_cl' hi]) h⟩)))))⟩
theorem sx_pl5 {post : SX → Prop} {i : Nat} (hi : i < 64) {c fs fu fb : Int32} {t am ae ad ai aj ay ap au ab : Nat → Int32} (ht : t i = 5) (h : post (c, fs, fu, fb, t, am, upd ae (i + 1) 1, ad, ai, aj, ay, ap, au, ab)) : wpX_readInPlain post (c, fs, fu, fb, t, am, ae, ad, ai, aj, ay, ap, au, ab) (nI i) :=
  have k : (nI i).toNatClampNeg = i := sx_cl (by omega)
  ⟨sx_v64 hi, nm_r (e' := 5) (by rw [k]; exact ht) (br_f (by decide) (br_f (by decide) (br_f (by decide) (br_f (by decide) (br_f (by decide) (br_t rfl ⟨sx_v65' hi, nm_r (e' := upd ae (i + 1) 1) (by rw [sx_cl' hi, sx_n1]) h⟩))))))⟩
theorem sx_pl6 {post : SX → Prop} {i : Nat} (hi : i < 64) {c fs fu fb : Int32} {t am ae ad ai aj ay ap au ab : Nat → Int32} (ht : t i = 6) (h : post (c, fs, fu, fb, t, upd am (i + 1) 2, ae, ad, ai, aj, ay, ap, au, ab)) : wpX_readInPlain post (c, fs, fu, fb, t, am, ae, ad, ai, aj, ay, ap, au, ab) (nI i) :=
  have k : (nI i).toNatClampNeg = i := sx_cl (by omega)
  ⟨sx_v64 hi, nm_r (e' := 6) (by rw [k]; exact ht) (br_f (by decide) (br_f (by decide) (br_f (by decide) (br_f (by decide) (br_f (by decide) (br_f (by decide) (br_t rfl ⟨sx_v65' hi, nm_r (e' := upd am (i + 1) 2) (by rw [sx_cl' hi]) h⟩)))))))⟩
theorem sx_pl0 {post : SX → Prop} {i : Nat} (hi : i < 64) {c fs fu fb : Int32} {t am ae ad ai aj ay ap au ab : Nat → Int32} (h2 : ¬ t i = 2) (h3 : ¬ t i = 3) (h4 : ¬ t i = 4) (h5 : ¬ t i = 5) (h6 : ¬ t i = 6) (h : post (c, fs, fu, fb, t, am, ae, ad, ai, aj, ay, ap, au, ab)) : wpX_readInPlain post (c, fs, fu, fb, t, am, ae, ad, ai, aj, ay, ap, au, ab) (nI i) :=
  have k : (nI i).toNatClampNeg = i := sx_cl (by omega)
  ⟨sx_v64 hi, nm_r (e' := t i) (by rw [k]) (br_c (fun _ => h) (fun _ => br_c (fun _ => h) (fun _ => br_f h2 (br_f h3 (br_f h4 (br_f h5 (br_f h6 trivial)))))))⟩
theorem sx_st4 {post : SX → Prop} {i : Nat} (hi : i < 64) {c fs fu fb : Int32} {t am ae ad ai aj ay ap au ab : Nat → Int32} {b : Nat} (hb : b < 64) (hf : fb = nI b) (ht : t i = 4) (h : post (c, fs, fu + 1, fb, t, upd am (i + 1) 0, ae, ad, ai, aj, ay, ap, upd au b (nI i), upd ab i (nI b))) : wpX_readInString post (c, fs, fu, fb, t, am, ae, ad, ai, aj, ay, ap, au, ab) (nI i) :=
  have k : (nI i).toNatClampNeg = i := sx_cl (by omega)
  ⟨sx_v64 hi, br_t (by rw [k]; exact ht) ⟨sx_v65' hi, nm_r (e' := upd am (i + 1) 0) (by rw [sx_cl' hi]) (by subst hf; exact sx_add hb hi h)⟩⟩
theorem sx_st5 {post : SX → Prop} {i : Nat} (hi : i < 64) {c fs fu fb : Int32} {t am ae ad ai aj ay ap au ab : Nat → Int32} (ht : t i = 5) (h : post (c, fs, fu, fb, t, am, upd ae (i + 1) 1, ad, ai, aj, ay, ap, au, ab)) : wpX_readInString post (c, fs, fu, fb, t, am, ae, ad, ai, aj, ay, ap, au, ab) (nI i) :=
  have k : (nI i).toNatClampNeg = i := sx_cl (by omega)
  ⟨sx_v64 hi, br_f (by rw [k, ht]; decide) ⟨sx_v64 hi, br_t (by rw [k]; exact ht) ⟨sx_v65' hi, nm_r (e' := upd ae (i + 1) 1) (by rw [sx_cl' hi, sx_n1]) h⟩⟩⟩
theorem sx_st0 {post : SX → Prop} {i : Nat} (hi : i < 64) {c fs fu fb : Int32} {t am ae ad ai aj ay ap au ab : Nat → Int32} (h4 : ¬ t i = 4) (h5 : ¬ t i = 5) (h : post (c, fs, fu, fb, t, am, ae, ad, ai, aj, ay, ap, au, ab)) : wpX_readInString post (c, fs, fu, fb, t, am, ae, ad, ai, aj, ay, ap, au, ab) (nI i) :=
  have k : (nI i).toNatClampNeg = i := sx_cl (by omega)
  ⟨sx_v64 hi, br_f (by rw [k]; exact h4) ⟨sx_v64 hi, br_f (by rw [k]; exact h5) h⟩⟩
theorem sx_rm7 {post : SX → Prop} {i : Nat} (hi : i < 64) {c fs fu fb : Int32} {t am ae ad ai aj ay ap au ab : Nat → Int32} (ht : t i = 7) (h : post (c, fs, fu, fb, t, upd am (i + 1) 0, ae, ad, ai, aj, ay, ap, au, ab)) : wpX_readInRemark post (c, fs, fu, fb, t, am, ae, ad, ai, aj, ay, ap, au, ab) (nI i) :=
  have k : (nI i).toNatClampNeg = i := sx_cl (by omega)
  ⟨sx_v64 hi, br_t (by rw [k]; exact ht) ⟨sx_v65' hi, nm_r (e' := upd am (i + 1) 0) (by rw [sx_cl' hi]) h⟩⟩
theorem sx_rm0 {post : SX → Prop} {i : Nat} (hi : i < 64) {c fs fu fb : Int32} {t am ae ad ai aj ay ap au ab : Nat → Int32} (h7 : ¬ t i = 7) (h : post (c, fs, fu, fb, t, am, ae, ad, ai, aj, ay, ap, au, ab)) : wpX_readInRemark post (c, fs, fu, fb, t, am, ae, ad, ai, aj, ay, ap, au, ab) (nI i) :=
  have k : (nI i).toNatClampNeg = i := sx_cl (by omega)
  ⟨sx_v64 hi, br_f (by rw [k]; exact h7) h⟩
end
section
/-! 05: the component's words, and its whole reading. Written by wip/whole/gen05.py -/
def sm_jv (t : Nat → Int32) (j : Nat) : Int32 := if sm_J t j then 1 else 0
def sm_yv (t : Nat → Int32) (j : Nat) : Int32 := if sm_C t j ∧ sm_T t j = 0 then 1 else 0
def sm_bg (t : Nat → Int32) (i : Nat) : Int32 := if sm_fb t i = i then -1 else nI (sm_fb t i)
def sm_XF (t : Nat → Int32) (n i : Nat) (fu : Int32) (au ab : Nat → Int32) : Prop := (∀ j, j < n → au j = sm_FU t n i j) ∧ (∀ j, j < n → ab j = sm_FB t n i j) ∧ fu = nI (sm_cn (sm_FU t n i) n)
def sm_XI (t : Nat → Int32) (n i : Nat) (fs fu fb : Int32) (am ae ad ai aj ay ap au ab : Nat → Int32) : Prop :=
  (∀ j, j ≤ i → am j = sm_M t j) ∧ (∀ j, j ≤ i → ae j = sm_E t j) ∧ (∀ j, j ≤ i → ad j = nI (sm_T t j)) ∧ (∀ j, j ≤ i → ai j = sm_I t j) ∧
  (∀ j, j < i → aj j = sm_jv t j) ∧ (∀ j, j < i → ay j = sm_yv t j) ∧ (∀ j, j < i → ap j = sm_PA t i j) ∧ (∀ j, j < i → au j = sm_SU t i j) ∧ (∀ j, j < i → ab j = sm_SB t i j) ∧
  fs = nI (sm_SC t i) ∧ fu = nI (sm_cn (sm_SU t i) n) ∧ (sm_M t i = 1 → fb = nI (sm_sb t i))
def sm_XR (t : Nat → Int32) (n : Nat) (fs fu : Int32) (am ae ad ai aj ay ap au ab : Nat → Int32) : Prop :=
  (∀ j, j ≤ n → am j = sm_M t j) ∧ (∀ j, j ≤ n → ae j = sm_E t j) ∧ (∀ j, j ≤ n → ad j = nI (sm_T t j)) ∧ (∀ j, j ≤ n → ai j = sm_I t j) ∧
  (∀ j, j < n → aj j = sm_jv t j) ∧ (∀ j, j < n → ay j = sm_yv t j) ∧ (∀ j, j < n → ap j = sm_PA t n j) ∧ (∀ j, j < n → au j = sm_FU t n n j) ∧ (∀ j, j < n → ab j = sm_FB t n n j) ∧
  fs = nI (sm_SC t n) ∧ fu = nI (sm_cn (sm_FU t n n) n)
theorem sx_wp {post : Int32 → Prop} {i : Nat} (hi : i < 64) {c fs fu fb : Int32} {t am ae ad ai aj ay ap au ab : Nat → Int32} (hm : am i = sm_M t i) (he : ae i = sm_E t i) (hW : sm_W t i → post 1) (hN : ¬ sm_W t i → post 0) : wpX_isWordPart post (c, fs, fu, fb, t, am, ae, ad, ai, aj, ay, ap, au, ab) (nI i) := by
  have k : (nI i).toNatClampNeg = i := sx_cl (by omega)
  have v := sx_v65 (i := i) (by omega)
  have v0 := sx_v64 hi
  have w28 : (¬ sm_E t i = 0 ∨ t i = 0 ∨ t i = 5) → wX_isWordPart_28 post (nI i) c fs fu fb t am ae ad ai aj ay ap au ab := fun hx =>
    br_f (by decide) ⟨v, br_c (fun z => hW ⟨by rw [k, hm] at z; exact z, hx⟩) (fun z => hN (fun y => z (by rw [k, hm]; exact y.1)))⟩
  refine ⟨v, br_c (fun z => ⟨v0, br_c (fun z1 => w28 (Or.inr (Or.inl (by rw [k] at z1; exact z1)))) (fun z1 => ⟨v0, br_c (fun z2 => w28 (Or.inr (Or.inr (by rw [k] at z2; exact z2)))) (fun z2 => br_t rfl (hN fun y => ?_))⟩)⟩) (fun z => w28 (Or.inl (by rw [k, he] at z; exact z)))⟩
  rw [k] at z z1 z2
  rcases y.2 with q | q | q
  · exact q (he.symm.trans z)
  · exact z1 q
  · exact z2 q
theorem sx_we {post : Int32 → Prop} {n i : Nat} (hn : n ≤ 64) (hi : i < n) {c fs fu fb : Int32} {t am ae ad ai aj ay ap au ab : Nat → Int32} (hc : c = nI n) (hm : ∀ j, j ≤ n → am j = sm_M t j) (he : ∀ j, j ≤ n → ae j = sm_E t j) (hw : sm_W t i) (hW : sm_we t n i → post 1) (hN : ¬ sm_we t n i → post 0) : wpX_isWordEnd post (c, fs, fu, fb, t, am, ae, ad, ai, aj, ay, ap, au, ab) (nI i) := by
  have k1 : (nI i + 1).toNatClampNeg = i + 1 := sx_cl' (by omega)
  refine ⟨sx_v65' (by omega), br_c (fun z => br_c (fun y => ?_) (fun y => ?_)) (fun z => hN fun q => z ?_)⟩
  · rw [k1, he _ (by omega)] at z
    rw [hc, nI_1, nI_eq (by omega) (by omega)] at y
    exact hW ⟨hw, z, Or.inl y⟩
  · rw [k1, he _ (by omega)] at z
    rw [hc, nI_1, nI_eq (by omega) (by omega)] at y
    rw [nI_1]
    refine sx_wp (by omega) (hm _ (by omega)) (he _ (by omega)) (fun q => br_f (by decide) (hN fun x => ?_)) (fun q => br_t rfl (hW ⟨hw, z, Or.inr q⟩))
    rcases x.2.2 with x | x
    · exact y x
    · exact x q
  · rw [k1, he _ (by omega)]; exact q.2.1
theorem sx_words {post : SX → Prop} {n : Nat} (hn : n ≤ 64) {c fs fb : Int32} {t am ae ad ai aj ay ap : Nat → Int32} (hc : c = nI n) (hm : ∀ j, j ≤ n → am j = sm_M t j) (he : ∀ j, j ≤ n → ae j = sm_E t j)
    (H : ∀ fu au ab, sm_XF t n n fu au ab → post (c, fs, fu, fb, t, am, ae, ad, ai, aj, ay, ap, au, ab)) : ∀ (d i : Nat) (fu : Int32) (au ab : Nat → Int32), i ≤ n → n - i < d → sm_XF t n i fu au ab → wX_findWords_4 post d (sm_bg t i) (nI i) c fs fu fb t am ae ad ai aj ay ap au ab := by
  intro d
  induction d with
  | zero => intro i fu au ab _ h; omega
  | succ d ih =>
    intro i fu au ab hi hd I
    by_cases e : i = n
    · subst e
      exact br_t (by rw [hc]; exact nI_le (Nat.le_refl i) (by omega)) (H fu au ab I)
    · refine br_f (by rw [hc]; exact nI_ge (by omega) (by omega)) (sx_wp (by omega) (hm _ hi) (he _ hi) (fun w => br_f (by decide) ?_) (fun w => br_t rfl (nm_r (nI_1 i) ?_)))
      · have hf := (sm_fbl t i).1
        have b' : sm_bg t (i + 1) = nI (sm_fb t i) := by
          unfold sm_bg
          rw [sm_fbW w, if_neg (by omega)]
        have main : wX_findWords_32 post (wX_findWords_4 post d) (nI (sm_fb t i)) (nI i) c fs fu fb t am ae ad ai aj ay ap au ab := by
          refine sx_we hn (by omega) hc hm he w (fun q => br_f (by decide) (sx_add (by omega) (by omega) (nm_r (nI_1 i) ?_))) (fun q => br_t rfl (nm_r (nI_1 i) ?_))
          · have z := sm_FUb (by omega) q
            have h := ih (i + 1) (fu + 1) (upd au (sm_fb t i) (nI i)) (upd ab i (nI (sm_fb t i))) (by omega) (by omega) ⟨fun j hj => ?_, fun j hj => ?_, ?_⟩
            · rw [b'] at h; exact h
            · rw [sm_FUw q]; unfold upd; split
              · rfl
              · exact I.1 j hj
            · rw [sm_FBw q]; unfold upd; split
              · rfl
              · exact I.2.1 j hj
            · rw [sm_FUw q, I.2.2, nI_1, sm_cnu z.1 (sm_nn (by omega)) n (by omega)]
          · have h := ih (i + 1) fu au ab (by omega) (by omega) (by unfold sm_XF; rw [sm_FUn q, sm_FBn q]; exact I)
            rw [b'] at h; exact h
        by_cases f : sm_fb t i = i
        · refine br_t (by unfold sm_bg; rw [if_pos f]) ?_
          rw [f] at main; exact main
        · have bi : sm_bg t i = nI (sm_fb t i) := by unfold sm_bg; rw [if_neg f]
          rw [bi]
          exact br_f (sm_nn (by omega)) main
      · have b' : sm_bg t (i + 1) = -1 := by
          unfold sm_bg
          rw [sm_fbn w, if_pos rfl]
        have q : ¬ sm_we t n i := fun z => w z.1
        have h := ih (i + 1) fu au ab (by omega) (by omega) (by unfold sm_XF; rw [sm_FUn q, sm_FBn q]; exact I)
        rw [b'] at h; exact h
theorem sx_gk {a f : Nat → Int32} {i : Nat} (h : ∀ j, j ≤ i → a j = f j) (h1 : a (i + 1) = f (i + 1)) : ∀ j, j ≤ i + 1 → a j = f j := by
  intro j hj
  by_cases e : j = i + 1
  · rw [e]; exact h1
  · exact h j (by omega)
theorem sx_gs {a f : Nat → Int32} {i : Nat} {v : Int32} (h : ∀ j, j ≤ i → a j = f j) (h1 : v = f (i + 1)) : ∀ j, j ≤ i + 1 → upd a (i + 1) v j = f j := by
  intro j hj
  by_cases e : j = i + 1
  · rw [e, sm_us]; exact h1
  · rw [sm_un e]; exact h j (by omega)
theorem sx_gn {a f : Nat → Int32} {i : Nat} {v : Int32} (h : ∀ j, j ≤ i → a j = f j) : ∀ j, j ≤ i → upd a (i + 1) v j = f j := by
  intro j hj
  rw [sm_un (by omega)]; exact h j hj
theorem sx_lk {a f : Nat → Int32} {i : Nat} (h : ∀ j, j < i → a j = f j) (h1 : a i = f i) : ∀ j, j < i + 1 → a j = f j := by
  intro j hj
  by_cases e : j = i
  · rw [e]; exact h1
  · exact h j (by omega)
theorem sx_ls {a f : Nat → Int32} {i : Nat} {v : Int32} (h : ∀ j, j < i → a j = f j) (h1 : v = f i) : ∀ j, j < i + 1 → upd a i v j = f j := by
  intro j hj
  by_cases e : j = i
  · rw [e, sm_us]; exact h1
  · rw [sm_un e]; exact h j (by omega)
theorem sx_ln {a f : Nat → Int32} {i : Nat} {v : Int32} (h : ∀ j, j < i → a j = f j) : ∀ j, j < i → upd a i v j = f j := by
  intro j hj
  rw [sm_un (by omega)]; exact h j hj
theorem sx_lu {a f : Nat → Int32} {m k : Nat} {v : Int32} (h : ∀ j, j < m → a j = f j) : ∀ j, j < m → upd a k v j = upd f k v j := by
  intro j hj
  unfold upd
  split
  · rfl
  · exact h j hj
end
section
/-! 06: one character read, and the loop over them. Written by wip/whole/gen06.py -/
def sm_XD (t : Nat → Int32) (n i : Nat) (fs fu fb : Int32) (am ae ad ai aj ay ap au ab : Nat → Int32) : Prop :=
  (∀ j, j ≤ i → am j = sm_M t j) ∧ am (i + 1) = sm_M t i ∧ (∀ j, j ≤ i → ae j = sm_E t j) ∧ ae (i + 1) = 0 ∧
  (∀ j, j ≤ i → ad j = nI (sm_T t j)) ∧ ad (i + 1) = nI (sm_T t i) ∧ (∀ j, j ≤ i → ai j = sm_I t j) ∧ ai (i + 1) = sm_I t i ∧
  (∀ j, j < i → aj j = sm_jv t j) ∧ aj i = 0 ∧ (∀ j, j < i → ay j = sm_yv t j) ∧ ay i = 0 ∧
  (∀ j, j < i + 1 → ap j = sm_PA t i j) ∧ (∀ j, j < i + 1 → au j = sm_SU t i j) ∧ (∀ j, j < i + 1 → ab j = sm_SB t i j) ∧
  fs = nI (sm_SC t i) ∧ fu = nI (sm_cn (sm_SU t i) n) ∧ (sm_M t i = 1 → fb = nI (sm_sb t i))
theorem sx_XD {t : Nat → Int32} {n i : Nat} {fs fu fb : Int32} {am ae ad ai aj ay ap au ab : Nat → Int32} (I : sm_XI t n i fs fu fb am ae ad ai aj ay ap au ab) : sm_XD t n i fs fu fb (upd am (i + 1) (am i)) (upd ae (i + 1) 0) (upd ad (i + 1) (ad i)) (upd ai (i + 1) (ai i)) (upd aj i 0) (upd ay i 0) (upd ap i (-1)) (upd au i (-1)) (upd ab i (-1)) := by
  obtain ⟨hm, he, hd, hi, hj, hy, hp, hu, hb, hfs, hfu, hfb⟩ := I
  have g := sm_SUge t i i (Nat.le_refl i)
  exact ⟨sx_gn hm, sm_us.trans (hm i (Nat.le_refl i)), sx_gn he, sm_us, sx_gn (f := fun j => nI (sm_T t j)) hd, sm_us.trans (hd i (Nat.le_refl i)), sx_gn hi, sm_us.trans (hi i (Nat.le_refl i)), sx_ln hj, sm_us, sx_ln hy, sm_us, sx_ls hp (sm_PAge t i i (Nat.le_refl i)).symm, sx_ls hu g.2.1.symm, sx_ls hb g.2.2.symm, hfs, hfu, hfb⟩
theorem sx_xd {t : Nat → Int32} {n i : Nat} {fs fu fb : Int32} {am ae ad ai aj ay ap au ab : Nat → Int32} {fb' : Int32} {am' ae' : Nat → Int32} (I : sm_XD t n i fs fu fb am ae ad ai aj ay ap au ab) (nJ : ¬ sm_J t i) (nC : ¬ sm_C t i) (nZ : ¬ sm_Z t i) (A : ∀ j, j ≤ i + 1 → am' j = sm_M t j) (B : ∀ j, j ≤ i + 1 → ae' j = sm_E t j) (F : sm_M t (i + 1) = 1 → fb' = nI (sm_sb t (i + 1))) : sm_XI t n (i + 1) fs fu fb' am' ae' ad ai aj ay ap au ab := by
  obtain ⟨hm, hm2, he, he2, hd, hd2, hi, hi2, hj, hj2, hy, hy2, hp, hu, hb, hfs, hfu, hfb⟩ := I
  have nD : ¬ sm_D t i := fun z => nC z.1
  have zS : sm_SC t (i + 1) = sm_SC t i := by rw [sm_SC, if_neg (fun z => nC z.1)]
  refine ⟨A, B, sx_gk (f := fun j => nI (sm_T t j)) hd (by rw [hd2, sm_Tn nJ nC]), sx_gk hi (by rw [hi2, sm_In nJ nD]), sx_lk hj (by rw [hj2, sm_jv, if_neg nJ]), sx_lk hy (by rw [hy2, sm_yv, if_neg (fun z => nC z.1)]), by rw [sm_PAn nD]; exact hp, by rw [sm_SUn nD nZ]; exact hu, by rw [sm_SBn nD nZ]; exact hb, by rw [zS]; exact hfs, by rw [sm_SUn nD nZ]; exact hfu, F⟩
theorem sx_xJ {t : Nat → Int32} {n i : Nat} {fs fu fb : Int32} {am ae ad ai aj ay ap au ab : Nat → Int32} (I : sm_XD t n i fs fu fb am ae ad ai aj ay ap au ab) (J : sm_J t i) : sm_XI t n (i + 1) fs fu fb am ae (upd ad (i + 1) (ad i + 1)) (upd ai (i + 1) (nI i)) (upd aj i 1) ay ap au ab := by
  obtain ⟨hm, hm2, he, he2, hd, hd2, hi, hi2, hj, hj2, hy, hy2, hp, hu, hb, hfs, hfu, hfb⟩ := I
  have nC := sm_JC J
  have nZ := sm_JZ J
  have nD : ¬ sm_D t i := fun z => nC z.1
  have zS : sm_SC t (i + 1) = sm_SC t i := by rw [sm_SC, if_neg (fun z => nC z.1)]
  have z := sm_s_pl J.1 J.2.1
  have zM : sm_M t (i + 1) = 0 := by rw [z.1, J.2.2]; decide
  have zE : sm_E t (i + 1) = 0 := by rw [z.2, J.2.2]; decide
  refine ⟨sx_gk hm (by rw [hm2, zM]; exact J.2.1), sx_gk he (by rw [he2, zE]), sx_gs (f := fun j => nI (sm_T t j)) hd (by rw [hd i (Nat.le_refl i), nI_1, sm_TJ J]), sx_gs hi (by rw [sm_IJ J]), sx_ls hj (by rw [sm_jv, if_pos J]), sx_lk hy (by rw [hy2, sm_yv, if_neg (fun z => nC z.1)]), by rw [sm_PAn nD]; exact hp, by rw [sm_SUn nD nZ]; exact hu, by rw [sm_SBn nD nZ]; exact hb, by rw [zS]; exact hfs, by rw [sm_SUn nD nZ]; exact hfu, fun q => absurd (zM.symm.trans q) (by decide)⟩
theorem sx_xS {t : Nat → Int32} {n i : Nat} {fs fu fb : Int32} {am ae ad ai aj ay ap au ab : Nat → Int32} (I : sm_XD t n i fs fu fb am ae ad ai aj ay ap au ab) (C : sm_C t i) (T0 : sm_T t i = 0) : sm_XI t n (i + 1) (fs + 1) fu fb am ae ad ai aj (upd ay i 1) ap au ab := by
  obtain ⟨hm, hm2, he, he2, hd, hd2, hi, hi2, hj, hj2, hy, hy2, hp, hu, hb, hfs, hfu, hfb⟩ := I
  have nJ : ¬ sm_J t i := fun z => sm_JC z C
  have nZ := sm_CZ C
  have nD : ¬ sm_D t i := fun z => z.2 T0
  have zS : sm_SC t (i + 1) = sm_SC t i + 1 := by rw [sm_SC, if_pos ⟨C, T0⟩]
  have z := sm_s_pl C.1 C.2.1
  have zM : sm_M t (i + 1) = 0 := by rw [z.1, C.2.2]; decide
  have zE : sm_E t (i + 1) = 0 := by rw [z.2, C.2.2]; decide
  refine ⟨sx_gk hm (by rw [hm2, zM]; exact C.2.1), sx_gk he (by rw [he2, zE]), sx_gk (f := fun j => nI (sm_T t j)) hd (by rw [hd2, sm_TC C, T0]), sx_gk hi (by rw [hi2, sm_In nJ nD]), sx_lk hj (by rw [hj2, sm_jv, if_neg nJ]), sx_ls hy (by rw [sm_yv, if_pos ⟨C, T0⟩]), by rw [sm_PAn nD]; exact hp, by rw [sm_SUn nD nZ]; exact hu, by rw [sm_SBn nD nZ]; exact hb, by rw [zS, hfs, nI_1], by rw [sm_SUn nD nZ]; exact hfu, fun q => absurd (zM.symm.trans q) (by decide)⟩
theorem sx_xD {t : Nat → Int32} {n i : Nat} {fs fu fb : Int32} {am ae ad ai aj ay ap au ab : Nat → Int32} (hn : n ≤ 64) (hin : i < n) (I : sm_XD t n i fs fu fb am ae ad ai aj ay ap au ab) (D : sm_D t i) : sm_XI t n (i + 1) fs (fu + 1) fb am ae (upd ad (i + 1) (ad i - 1)) (upd ai (i + 1) (ai (sm_o t i))) aj ay (upd (upd ap (sm_o t i) (nI i)) i (nI (sm_o t i))) (upd au (sm_o t i) (nI i)) (upd ab i (nI (sm_o t i))) := by
  obtain ⟨hm, hm2, he, he2, hd, hd2, hi, hi2, hj, hj2, hy, hy2, hp, hu, hb, hfs, hfu, hfb⟩ := I
  have C := D.1
  have T0 := D.2
  have nJ : ¬ sm_J t i := fun z => sm_JC z C
  have o := (sm_oJ D.2).1
  have zS : sm_SC t (i + 1) = sm_SC t i := by rw [sm_SC, if_neg (fun z => T0 z.2)]
  have z := sm_s_pl C.1 C.2.1
  have zM : sm_M t (i + 1) = 0 := by rw [z.1, C.2.2]; decide
  have zE : sm_E t (i + 1) = 0 := by rw [z.2, C.2.2]; decide
  have zd : nI (sm_T t i) - 1 = nI (sm_T t i - 1) := by
    obtain ⟨q, hq⟩ : ∃ q, sm_T t i = q + 1 := ⟨sm_T t i - 1, by omega⟩
    rw [hq, nI_pred]; rfl
  refine ⟨sx_gk hm (by rw [hm2, zM]; exact C.2.1), sx_gk he (by rw [he2, zE]), sx_gs (f := fun j => nI (sm_T t j)) hd (by rw [hd i (Nat.le_refl i), zd, sm_TC C]), sx_gs hi (by rw [sm_ID D]; exact hi _ (by omega)), sx_lk hj (by rw [hj2, sm_jv, if_neg nJ]), sx_lk hy (by rw [hy2, sm_yv, if_neg (fun z => T0 z.2)]), by rw [sm_PAD D]; exact sx_lu (sx_lu hp), by rw [sm_SUD D]; exact sx_lu hu, by rw [sm_SBD D]; exact sx_lu hb, by rw [zS]; exact hfs, by rw [sm_SUD D, sm_cnu (sm_SUo D) (sm_nn (by omega)) n (by omega), hfu, nI_1], fun q => absurd (zM.symm.trans q) (by decide)⟩
theorem sx_xZ {t : Nat → Int32} {n i : Nat} {fs fu fb : Int32} {am ae ad ai aj ay ap au ab : Nat → Int32} (hn : n ≤ 64) (hin : i < n) (I : sm_XD t n i fs fu fb am ae ad ai aj ay ap au ab) (Z : sm_Z t i) : sm_XI t n (i + 1) fs (fu + 1) fb (upd am (i + 1) 0) ae ad ai aj ay ap (upd au (sm_sb t i) (nI i)) (upd ab i (nI (sm_sb t i))) := by
  obtain ⟨hm, hm2, he, he2, hd, hd2, hi, hi2, hj, hj2, hy, hy2, hp, hu, hb, hfs, hfu, hfb⟩ := I
  have nJ : ¬ sm_J t i := fun z => sm_JZ z Z
  have nC : ¬ sm_C t i := fun z => sm_CZ z Z
  have nD : ¬ sm_D t i := fun z => nC z.1
  have o := (sm_SUge t i i (Nat.le_refl i)).1 Z.2.1
  have zS : sm_SC t (i + 1) = sm_SC t i := by rw [sm_SC, if_neg (fun z => nC z.1)]
  have z := sm_s_st Z.1 Z.2.1
  have zM : sm_M t (i + 1) = 0 := by rw [z.1, Z.2.2]; decide
  have zE : sm_E t (i + 1) = 0 := by rw [z.2, Z.2.2]; decide
  refine ⟨sx_gs hm (by rw [zM]), sx_gk he (by rw [he2, zE]), sx_gk (f := fun j => nI (sm_T t j)) hd (by rw [hd2, sm_Tn nJ nC]), sx_gk hi (by rw [hi2, sm_In nJ nD]), sx_lk hj (by rw [hj2, sm_jv, if_neg nJ]), sx_lk hy (by rw [hy2, sm_yv, if_neg (fun z => nC z.1)]), by rw [sm_PAn nD]; exact hp, by rw [sm_SUZ Z]; exact sx_lu hu, by rw [sm_SBZ Z]; exact sx_lu hb, by rw [zS]; exact hfs, by rw [sm_SUZ Z, sm_cnu ((sm_str t i (by omega)).1 Z.2.1) (sm_nn (by omega)) n (by omega), hfu, nI_1], fun q => absurd (zM.symm.trans q) (by decide)⟩
theorem sx_loop {post : SX → Prop} {n : Nat} (hn : n ≤ 64) {c : Int32} {t : Nat → Int32} (hc : c = nI n)
    (H : ∀ (fs fu fb : Int32) (am ae ad ai aj ay ap au ab : Nat → Int32), sm_XR t n fs fu am ae ad ai aj ay ap au ab → post (c, fs, fu, fb, t, am, ae, ad, ai, aj, ay, ap, au, ab)) :
    ∀ (d i : Nat) (fs fu fb : Int32) (am ae ad ai aj ay ap au ab : Nat → Int32), i ≤ n → n - i < d → sm_XI t n i fs fu fb am ae ad ai aj ay ap au ab → wX_readText_6 post d (nI i) c fs fu fb t am ae ad ai aj ay ap au ab := by
  intro d
  induction d with
  | zero => intro i fs fu fb am ae ad ai aj ay ap au ab _ h; omega
  | succ d ih =>
    intro i fs fu fb am ae ad ai aj ay ap au ab hi hd I
    by_cases q : i = n
    · subst q
      obtain ⟨hm, he, hd, hin, hj, hy, hp, hu, hb, hfs, hfu, hfb⟩ := I
      refine br_t (by rw [hc]; exact nI_le (Nat.le_refl i) (by omega)) ⟨i + 1, ?_⟩
      exact sx_words hn hc hm he (fun fu' au' ab' F => H fs fu' fb am ae ad ai aj ay ap au' ab' ⟨hm, he, hd, hin, hj, hy, hp, F.1, F.2.1, hfs, F.2.2⟩) (i + 1) 0 fu au ab (by omega) (by omega) ⟨hu, hb, hfu⟩
    · have hi' : i < 64 := by omega
      have k : (nI i).toNatClampNeg = i := sx_cl (by omega)
      have v := sx_v65 (i := i) (by omega)
      have D := sx_XD I
      refine br_f (by rw [hc]; exact nI_ge (by omega) (by omega)) (sx_forget hi' (sx_carry hi' ⟨v, ?_⟩))
      generalize upd am (i + 1) (am i) = am at D ⊢
      generalize upd ae (i + 1) 0 = ae at D ⊢
      generalize upd ad (i + 1) (ad i) = ad at D ⊢
      generalize upd ai (i + 1) (ai i) = ai at D ⊢
      generalize upd aj i 0 = aj at D ⊢
      generalize upd ay i 0 = ay at D ⊢
      generalize upd ap i (-1) = ap at D ⊢
      generalize upd au i (-1) = au at D ⊢
      generalize upd ab i (-1) = ab at D ⊢
      have D0 := D
      obtain ⟨hm, hm2, he, he2, hdp, hd2, hin, hin2, hj, hj2, hy, hy2, hp, hu, hb, hfs, hfu, hfb⟩ := D0
      have go : ∀ (fs fu fb : Int32) (am ae ad ai aj ay ap au ab : Nat → Int32), sm_XI t n (i + 1) fs fu fb am ae ad ai aj ay ap au ab → wX_readText_6 post d (nI (i + 1)) c fs fu fb t am ae ad ai aj ay ap au ab := fun fs fu fb am ae ad ai aj ay ap au ab X => ih (i + 1) fs fu fb am ae ad ai aj ay ap au ab (by omega) (by omega) X
      clear ih
      have hmi := hm i (Nat.le_refl i)
      have hei := he i (Nat.le_refl i)
      have hii := hin i (Nat.le_refl i)
      by_cases e : sm_E t i = 0
      · refine br_t (by rw [k, hei]; exact e) ⟨v, ?_⟩
        by_cases m0 : sm_M t i = 0
        · refine br_t (by rw [k, hmi]; exact m0) ?_
          have z := sm_s_pl e m0
          have nZ : ¬ sm_Z t i := fun y => absurd (m0.symm.trans y.2.1) (by decide)
          by_cases h2 : t i = 2
          · exact sx_pl2 hi' h2 (nm_r (nI_1 i) (go _ _ _ _ _ _ _ _ _ _ _ _ (sx_xJ D ⟨e, m0, h2⟩)))
          · have nJ : ¬ sm_J t i := fun y => h2 y.2.2
            by_cases h3 : t i = 3
            · by_cases T0 : sm_T t i = 0
              · exact sx_pl3s hi' h3 (by rw [hii, sm_I, if_pos T0]) (nm_r (nI_1 i) (go _ _ _ _ _ _ _ _ _ _ _ _ (sx_xS D ⟨e, m0, h3⟩ T0)))
              · have o := (sm_oJ T0).1
                exact sx_pl3p hi' (o := sm_o t i) (by omega) h3 (by rw [hii, sm_I, if_neg T0]) (nm_r (nI_1 i) (go _ _ _ _ _ _ _ _ _ _ _ _ (sx_xD hn (by omega) D ⟨⟨e, m0, h3⟩, T0⟩)))
            · have nC : ¬ sm_C t i := fun y => h3 y.2.2
              by_cases h4 : t i = 4
              · have zM : sm_M t (i + 1) = 1 := by rw [z.1, h4]; decide
                have zE : sm_E t (i + 1) = 0 := by rw [z.2, h4]; decide
                exact sx_pl4 hi' h4 (nm_r (nI_1 i) (go _ _ _ _ _ _ _ _ _ _ _ _ (sx_xd D nJ nC nZ (sx_gs hm zM.symm) (sx_gk he (he2.trans zE.symm)) (fun _ => by rw [sm_sbO ⟨e, m0, h4⟩]))))
              · have nO : ¬ sm_O t i := fun y => h4 y.2.2
                by_cases h5 : t i = 5
                · have zM : sm_M t (i + 1) = 0 := by rw [z.1, h5]; decide
                  have zE : sm_E t (i + 1) = 1 := by rw [z.2, h5]; decide
                  exact sx_pl5 hi' h5 (nm_r (nI_1 i) (go _ _ _ _ _ _ _ _ _ _ _ _ (sx_xd D nJ nC nZ (sx_gk hm (by rw [hm2, zM, m0])) (sx_gs he zE.symm) (fun y => absurd (zM.symm.trans y) (by decide)))))
                · by_cases h6 : t i = 6
                  · have zM : sm_M t (i + 1) = 2 := by rw [z.1, h6]; decide
                    have zE : sm_E t (i + 1) = 0 := by rw [z.2, h6]; decide
                    exact sx_pl6 hi' h6 (nm_r (nI_1 i) (go _ _ _ _ _ _ _ _ _ _ _ _ (sx_xd D nJ nC nZ (sx_gs hm zM.symm) (sx_gk he (he2.trans zE.symm)) (fun y => absurd (zM.symm.trans y) (by decide)))))
                  · have zM : sm_M t (i + 1) = 0 := by rw [z.1, if_neg h4, if_neg h6]
                    have zE : sm_E t (i + 1) = 0 := by rw [z.2, if_neg h5]
                    exact sx_pl0 hi' h2 h3 h4 h5 h6 (nm_r (nI_1 i) (go _ _ _ _ _ _ _ _ _ _ _ _ (sx_xd D nJ nC nZ (sx_gk hm (by rw [hm2, zM, m0])) (sx_gk he (he2.trans zE.symm)) (fun y => absurd (zM.symm.trans y) (by decide)))))
        · refine br_f (by rw [k, hmi]; exact m0) ⟨v, ?_⟩
          have nJ : ¬ sm_J t i := fun y => m0 y.2.1
          have nC : ¬ sm_C t i := fun y => m0 y.2.1
          have nO : ¬ sm_O t i := fun y => m0 y.2.1
          by_cases m1 : sm_M t i = 1
          · refine br_t (by rw [k, hmi]; exact m1) ?_
            have z := sm_s_st e m1
            by_cases h4 : t i = 4
            · have o := (sm_SUge t i i (Nat.le_refl i)).1 m1
              exact sx_st4 hi' (b := sm_sb t i) (by omega) (hfb m1) h4 (nm_r (nI_1 i) (go _ _ _ _ _ _ _ _ _ _ _ _ (sx_xZ hn (by omega) D ⟨e, m1, h4⟩)))
            · have nZ : ¬ sm_Z t i := fun y => h4 y.2.2
              have zM : sm_M t (i + 1) = 1 := by rw [z.1, if_neg h4]
              by_cases h5 : t i = 5
              · have zE : sm_E t (i + 1) = 1 := by rw [z.2, h5]; decide
                exact sx_st5 hi' h5 (nm_r (nI_1 i) (go _ _ _ _ _ _ _ _ _ _ _ _ (sx_xd D nJ nC nZ (sx_gk hm (by rw [hm2, zM, m1])) (sx_gs he zE.symm) (fun _ => by rw [sm_sbn nO]; exact hfb m1))))
              · have zE : sm_E t (i + 1) = 0 := by rw [z.2, if_neg h5]
                exact sx_st0 hi' h4 h5 (nm_r (nI_1 i) (go _ _ _ _ _ _ _ _ _ _ _ _ (sx_xd D nJ nC nZ (sx_gk hm (by rw [hm2, zM, m1])) (sx_gk he (he2.trans zE.symm)) (fun _ => by rw [sm_sbn nO]; exact hfb m1))))
          · refine br_f (by rw [k, hmi]; exact m1) ?_
            have nZ : ¬ sm_Z t i := fun y => m1 y.2.1
            have z := sm_s_rm e m0 m1
            by_cases h7 : t i = 7
            · have zM : sm_M t (i + 1) = 0 := by rw [z.1, if_pos h7]
              exact sx_rm7 hi' h7 (nm_r (nI_1 i) (go _ _ _ _ _ _ _ _ _ _ _ _ (sx_xd D nJ nC nZ (sx_gs hm zM.symm) (sx_gk he (he2.trans z.2.symm)) (fun y => absurd (zM.symm.trans y) (by decide)))))
            · have zM : sm_M t (i + 1) = sm_M t i := by rw [z.1, if_neg h7]
              exact sx_rm0 hi' h7 (nm_r (nI_1 i) (go _ _ _ _ _ _ _ _ _ _ _ _ (sx_xd D nJ nC nZ (sx_gk hm (hm2.trans zM.symm)) (sx_gk he (he2.trans z.2.symm)) (fun y => absurd (zM.symm.trans y) m1))))
      · have z := sm_s_esc e
        have nJ : ¬ sm_J t i := fun y => e y.1
        have nC : ¬ sm_C t i := fun y => e y.1
        have nO : ¬ sm_O t i := fun y => e y.1
        have nZ : ¬ sm_Z t i := fun y => e y.1
        exact br_f (by rw [k, hei]; exact e) (nm_r (nI_1 i) (go _ _ _ _ _ _ _ _ _ _ _ _ (sx_xd D nJ nC nZ (sx_gk hm (hm2.trans z.1.symm)) (sx_gk he (he2.trans z.2.symm)) (fun y => by rw [sm_sbn nO]; exact hfb (z.1.symm.trans y)))))
theorem sx_read {post : SX → Prop} {n : Nat} (hn : n ≤ 64) {c fs fu fb : Int32} {t am ae ad ai aj ay ap au ab : Nat → Int32} (hc : c = nI n)
    (H : ∀ (fs fu fb : Int32) (am ae ad ai aj ay ap au ab : Nat → Int32), sm_XR t n fs fu am ae ad ai aj ay ap au ab → post (c, fs, fu, fb, t, am, ae, ad, ai, aj, ay, ap, au, ab)) : wpX_readText post (c, fs, fu, fb, t, am, ae, ad, ai, aj, ay, ap, au, ab) := by
  unfold wpX_readText
  refine sx_start ?_
  refine ⟨n + 1, ?_⟩
  refine sx_loop hn hc H (n + 1) 0 _ _ _ _ _ _ _ _ _ _ _ _ (by omega) (by omega) ⟨fun j hj => ?_, fun j hj => ?_, fun j hj => ?_, fun j hj => ?_, fun j hj => ?_, fun j hj => ?_, fun j hj => ?_, fun j hj => ?_, fun j hj => ?_, rfl, ?_, fun z => absurd (show (0 : Int32) = 1 from z) (by decide)⟩
  · have : j = 0 := by omega
    subst this; rfl
  · have : j = 0 := by omega
    subst this; rfl
  · have : j = 0 := by omega
    subst this; rfl
  · have : j = 0 := by omega
    subst this; rfl
  · omega
  · omega
  · omega
  · omega
  · omega
  · rw [sm_cn1 (U := sm_SU t 0) n (fun j _ => rfl), nI_0]
end
section
/-! 07: the reference reads the text up to a gap. Written by wip/whole/gen07.py -/
theorem sy_pl2 {post : Int32 → SY → Prop} {i : Nat} (hi : i < 64) {l tp : Int32} {t am ae ad ap aj ac ay ak : Nat → Int32} {q : Nat} (hq : q < 64) (hT : tp = nI q) (ht : t i = 2) (h : post 0 (l, nI (q + 1), t, am, ae, ad, ap, upd aj i 1, ac, ay, upd ak q (nI i))) : wpY_plain post (l, tp, t, am, ae, ad, ap, aj, ac, ay, ak) (nI i) :=
  have k : (nI i).toNatClampNeg = i := sx_cl (by omega)
  ⟨sx_v64 hi, nm_r (e' := 2) (by rw [k]; exact ht) (br_t rfl ⟨sx_v64 hi, nm_r (e' := upd aj i 1) (by rw [k, sx_n1]) ⟨by rw [hT]; exact sx_v64 hq, nm_r (e' := upd ak q (nI i)) (by rw [hT, sx_cl (by omega)]) (nm_r (e' := nI (q + 1)) (by rw [hT, nI_1]) (br_f (by decide) (br_f (by decide) (br_f (by decide) (br_f (by decide) h)))))⟩⟩)⟩
theorem sy_pl3s {post : Int32 → SY → Prop} {i : Nat} (hi : i < 64) {l tp : Int32} {t am ae ad ap aj ac ay ak : Nat → Int32} (hT : tp = 0) (ht : t i = 3) (h : post 0 (l, tp, t, am, ae, ad, ap, aj, upd ac i 1, upd ay i 1, ak)) : wpY_plain post (l, tp, t, am, ae, ad, ap, aj, ac, ay, ak) (nI i) :=
  have k : (nI i).toNatClampNeg = i := sx_cl (by omega)
  ⟨sx_v64 hi, nm_r (e' := 3) (by rw [k]; exact ht) (br_f (by decide) (br_t rfl ⟨sx_v64 hi, nm_r (e' := upd ac i 1) (by rw [k, sx_n1]) (br_t hT ⟨sx_v64 hi, nm_r (e' := upd ay i 1) (by rw [k, sx_n1]) (br_f (by decide) (br_f (by decide) (br_f (by decide) h)))⟩)⟩))⟩
theorem sy_pl3p {post : Int32 → SY → Prop} {i : Nat} (hi : i < 64) {l tp : Int32} {t am ae ad ap aj ac ay ak : Nat → Int32} {q o : Nat} (hq : q < 64) (ho : o < 64) (hT : tp = nI (q + 1)) (hk : ak q = nI o) (ht : t i = 3) (h : post 0 (l, nI q, t, am, ae, ad, upd (upd ap i (nI o)) o (nI i), aj, upd ac i 1, ay, ak)) : wpY_plain post (l, tp, t, am, ae, ad, ap, aj, ac, ay, ak) (nI i) :=
  have k : (nI i).toNatClampNeg = i := sx_cl (by omega)
  have kq : (nI q).toNatClampNeg = q := sx_cl (by omega)
  ⟨sx_v64 hi, nm_r (e' := 3) (by rw [k]; exact ht) (br_f (by decide) (br_t rfl ⟨sx_v64 hi, nm_r (e' := upd ac i 1) (by rw [k, sx_n1]) (br_f (by rw [hT]; exact nI_ne0 (by omega) (by omega)) (nm_r (e' := nI q) (by rw [hT, nI_pred]) ⟨sx_v64 hq, sx_v64 hi, nm_r (e' := upd ap i (nI o)) (by rw [k, kq, hk]) ⟨sx_v64 hq, by rw [kq, hk]; exact sx_v64 ho, nm_r (e' := upd (upd ap i (nI o)) o (nI i)) (by rw [kq, hk, sx_cl (by omega)]) (br_f (by decide) (br_f (by decide) (br_f (by decide) h)))⟩⟩))⟩))⟩
theorem sy_pl4 {post : Int32 → SY → Prop} {i : Nat} (hi : i < 64) {l tp : Int32} {t am ae ad ap aj ac ay ak : Nat → Int32} (ht : t i = 4) (h : post 2 (l, tp, t, am, ae, ad, ap, aj, ac, ay, ak)) : wpY_plain post (l, tp, t, am, ae, ad, ap, aj, ac, ay, ak) (nI i) :=
  have k : (nI i).toNatClampNeg = i := sx_cl (by omega)
  ⟨sx_v64 hi, nm_r (e' := 4) (by rw [k]; exact ht) (br_f (by decide) (br_f (by decide) (br_t rfl h)))⟩
theorem sy_pl5 {post : Int32 → SY → Prop} {i : Nat} (hi : i < 64) {l tp : Int32} {t am ae ad ap aj ac ay ak : Nat → Int32} (ht : t i = 5) (h : post 1 (l, tp, t, am, ae, ad, ap, aj, ac, ay, ak)) : wpY_plain post (l, tp, t, am, ae, ad, ap, aj, ac, ay, ak) (nI i) :=
  have k : (nI i).toNatClampNeg = i := sx_cl (by omega)
  ⟨sx_v64 hi, nm_r (e' := 5) (by rw [k]; exact ht) (br_f (by decide) (br_f (by decide) (br_f (by decide) (br_t rfl h))))⟩
theorem sy_pl6 {post : Int32 → SY → Prop} {i : Nat} (hi : i < 64) {l tp : Int32} {t am ae ad ap aj ac ay ak : Nat → Int32} (ht : t i = 6) (h : post 3 (l, tp, t, am, ae, ad, ap, aj, ac, ay, ak)) : wpY_plain post (l, tp, t, am, ae, ad, ap, aj, ac, ay, ak) (nI i) :=
  have k : (nI i).toNatClampNeg = i := sx_cl (by omega)
  ⟨sx_v64 hi, nm_r (e' := 6) (by rw [k]; exact ht) (br_f (by decide) (br_f (by decide) (br_f (by decide) (br_f (by decide) (br_t rfl h)))))⟩
theorem sy_pl0 {post : Int32 → SY → Prop} {i : Nat} (hi : i < 64) {l tp : Int32} {t am ae ad ap aj ac ay ak : Nat → Int32} (h2 : ¬ t i = 2) (h3 : ¬ t i = 3) (h4 : ¬ t i = 4) (h5 : ¬ t i = 5) (h6 : ¬ t i = 6) (h : post 0 (l, tp, t, am, ae, ad, ap, aj, ac, ay, ak)) : wpY_plain post (l, tp, t, am, ae, ad, ap, aj, ac, ay, ak) (nI i) :=
  have k : (nI i).toNatClampNeg = i := sx_cl (by omega)
  ⟨sx_v64 hi, nm_r (e' := t i) (by rw [k]) (br_f h2 (br_f h3 (br_f h4 (br_f h5 (br_f h6 h)))))⟩
def sm_cv (t : Nat → Int32) (j : Nat) : Int32 := if sm_C t j then 1 else 0
def sm_g (v : Nat → Int32) (i j : Nat) : Int32 := if j < i then v j else 0
theorem sm_gk {v : Nat → Int32} {i : Nat} (h : v i = 0) : sm_g v (i + 1) = sm_g v i := by
  funext j
  unfold sm_g
  by_cases e : j = i
  · rw [e, if_pos (by omega), if_neg (by omega), h]
  · by_cases q : j < i
    · rw [if_pos q, if_pos (by omega)]
    · rw [if_neg q, if_neg (by omega)]
theorem sm_gs {v : Nat → Int32} {i : Nat} {x : Int32} (h : v i = x) : sm_g v (i + 1) = upd (sm_g v i) i x := by
  funext j
  unfold sm_g
  by_cases e : j = i
  · rw [e, sm_us, if_pos (by omega), h]
  · rw [sm_un e]
    by_cases q : j < i
    · rw [if_pos q, if_pos (by omega)]
    · rw [if_neg q, if_neg (by omega)]
def sm_YD (t : Nat → Int32) (i : Nat) (tp : Int32) (am ae ad ap aj ac ay ak : Nat → Int32) : Prop :=
  tp = nI (sm_T t i) ∧ (∀ j, j < i + 1 → am j = sm_M t j) ∧ (∀ j, j < i + 1 → ae j = sm_E t j) ∧ (∀ j, j < i + 1 → ad j = nI (sm_T t j)) ∧
  (∀ j, j < 64 → ap j = sm_PA t i j) ∧ (∀ j, j < 64 → aj j = sm_g (sm_jv t) i j) ∧ (∀ j, j < 64 → ac j = sm_g (sm_cv t) i j) ∧ (∀ j, j < 64 → ay j = sm_g (sm_yv t) i j) ∧
  (∀ m, m < sm_T t i → ak m = nI (sm_K t i m))
def sm_YI (t : Nat → Int32) (i : Nat) (x2 x3 tp : Int32) (am ae ad ap aj ac ay ak : Nat → Int32) : Prop :=
  x2 = sm_M t i ∧ x3 = sm_E t i ∧ tp = nI (sm_T t i) ∧ (∀ j, j < i → am j = sm_M t j) ∧ (∀ j, j < i → ae j = sm_E t j) ∧ (∀ j, j < i → ad j = nI (sm_T t j)) ∧
  (∀ j, j < 64 → ap j = sm_PA t i j) ∧ (∀ j, j < 64 → aj j = sm_g (sm_jv t) i j) ∧ (∀ j, j < 64 → ac j = sm_g (sm_cv t) i j) ∧ (∀ j, j < 64 → ay j = sm_g (sm_yv t) i j) ∧
  (∀ m, m < sm_T t i → ak m = nI (sm_K t i m))
theorem sy_xd {t : Nat → Int32} {i : Nat} {tp : Int32} {am ae ad ap aj ac ay ak : Nat → Int32} {x2 x3 : Int32} (I : sm_YD t i tp am ae ad ap aj ac ay ak) (nJ : ¬ sm_J t i) (nC : ¬ sm_C t i) (A : x2 = sm_M t (i + 1)) (B : x3 = sm_E t (i + 1)) : sm_YI t (i + 1) x2 x3 tp am ae ad ap aj ac ay ak := by
  obtain ⟨hT, hm, he, hd, hp, hj, hc, hy, hk⟩ := I
  have nD : ¬ sm_D t i := fun z => nC z.1
  exact ⟨A, B, by rw [sm_Tn nJ nC]; exact hT, hm, he, hd, by rw [sm_PAn nD]; exact hp, by rw [sm_gk (by rw [sm_jv, if_neg nJ])]; exact hj, by rw [sm_gk (by rw [sm_cv, if_neg nC])]; exact hc, by rw [sm_gk (by rw [sm_yv, if_neg (fun z => nC z.1)])]; exact hy, by rw [sm_Tn nJ nC, sm_Kn nJ]; exact hk⟩
theorem sy_xJ {t : Nat → Int32} {i : Nat} {tp : Int32} {am ae ad ap aj ac ay ak : Nat → Int32} (I : sm_YD t i tp am ae ad ap aj ac ay ak) (J : sm_J t i) : sm_YI t (i + 1) 0 0 (nI (sm_T t i + 1)) am ae ad ap (upd aj i 1) ac ay (upd ak (sm_T t i) (nI i)) := by
  obtain ⟨hT, hm, he, hd, hp, hj, hc, hy, hk⟩ := I
  have nC := sm_JC J
  have nD : ¬ sm_D t i := fun z => nC z.1
  have z := sm_s_pl J.1 J.2.1
  refine ⟨by rw [z.1, J.2.2]; decide, by rw [z.2, J.2.2]; decide, by rw [sm_TJ J], hm, he, hd, by rw [sm_PAn nD]; exact hp, by rw [sm_gs (x := 1) (by rw [sm_jv, if_pos J])]; exact sx_lu hj, by rw [sm_gk (by rw [sm_cv, if_neg nC])]; exact hc, by rw [sm_gk (by rw [sm_yv, if_neg (fun z => nC z.1)])]; exact hy, fun m hm => ?_⟩
  rw [sm_TJ J] at hm
  rw [sm_KJ J]
  by_cases e : m = sm_T t i
  · rw [e, sm_us, if_pos rfl]
  · rw [sm_un e, if_neg e]; exact hk m (by omega)
theorem sy_xS {t : Nat → Int32} {i : Nat} {tp : Int32} {am ae ad ap aj ac ay ak : Nat → Int32} (I : sm_YD t i tp am ae ad ap aj ac ay ak) (C : sm_C t i) (T0 : sm_T t i = 0) : sm_YI t (i + 1) 0 0 tp am ae ad ap aj (upd ac i 1) (upd ay i 1) ak := by
  obtain ⟨hT, hm, he, hd, hp, hj, hc, hy, hk⟩ := I
  have nJ : ¬ sm_J t i := fun z => sm_JC z C
  have nD : ¬ sm_D t i := fun z => z.2 T0
  have z := sm_s_pl C.1 C.2.1
  refine ⟨by rw [z.1, C.2.2]; decide, by rw [z.2, C.2.2]; decide, by rw [sm_TC C, hT, T0], hm, he, hd, by rw [sm_PAn nD]; exact hp, by rw [sm_gk (by rw [sm_jv, if_neg nJ])]; exact hj, by rw [sm_gs (x := 1) (by rw [sm_cv, if_pos C])]; exact sx_lu hc, by rw [sm_gs (x := 1) (by rw [sm_yv, if_pos ⟨C, T0⟩])]; exact sx_lu hy, fun m hm => ?_⟩
  rw [sm_TC C, T0] at hm
  omega
theorem sy_xD {t : Nat → Int32} {i : Nat} {tp : Int32} {am ae ad ap aj ac ay ak : Nat → Int32} (I : sm_YD t i tp am ae ad ap aj ac ay ak) (D : sm_D t i) : sm_YI t (i + 1) 0 0 (nI (sm_T t i - 1)) am ae ad (upd (upd ap i (nI (sm_o t i))) (sm_o t i) (nI i)) aj (upd ac i 1) ay ak := by
  obtain ⟨hT, hm, he, hd, hp, hj, hc, hy, hk⟩ := I
  have C := D.1
  have T0 := D.2
  have o := (sm_oJ D.2).1
  have nJ : ¬ sm_J t i := fun z => sm_JC z C
  have z := sm_s_pl C.1 C.2.1
  refine ⟨by rw [z.1, C.2.2]; decide, by rw [z.2, C.2.2]; decide, by rw [sm_TC C], hm, he, hd, ?_, by rw [sm_gk (by rw [sm_jv, if_neg nJ])]; exact hj, by rw [sm_gs (x := 1) (by rw [sm_cv, if_pos C])]; exact sx_lu hc, by rw [sm_gk (by rw [sm_yv, if_neg (fun z => T0 z.2)])]; exact hy, fun m hm => ?_⟩
  · intro j h
    rw [sm_PAD D]
    by_cases e : j = sm_o t i
    · rw [e, sm_us, sm_un (by omega), sm_us]
    · rw [sm_un e]
      by_cases e2 : j = i
      · rw [e2, sm_us, sm_us]
      · rw [sm_un e2, sm_un e2, sm_un e]; exact hp j h
  · rw [sm_TC C] at hm
    rw [sm_Kn nJ]
    exact hk m (by omega)
theorem sy_nE {x : Int32} (h : x = 0 ∨ x = 1) : vp_nar .boolean x = x := by
  rcases h with h | h
  · rw [h]; rfl
  · rw [h]; rfl
theorem sy_loop {post : SY → Prop} {g : Nat} (hg : g ≤ 64) {l : Int32} {t : Nat → Int32}
    (H : ∀ (tp : Int32) (am ae ad ap aj ac ay ak : Nat → Int32), sm_YD t g tp am ae ad ap aj ac ay ak → post (l, tp, t, am, ae, ad, ap, aj, ac, ay, ak)) :
    ∀ (d i : Nat) (x2 x3 tp : Int32) (am ae ad ap aj ac ay ak : Nat → Int32), i ≤ g → g + 2 ≤ d + i → sm_YI t i x2 x3 tp am ae ad ap aj ac ay ak → wY_read_60 post (nI g) d x2 x3 (nI i) l tp t am ae ad ap aj ac ay ak := by
  intro d
  induction d with
  | zero => intro i x2 x3 tp am ae ad ap aj ac ay ak h1 h2; omega
  | succ d ih =>
    intro i x2 x3 tp am ae ad ap aj ac ay ak hi hd I
    obtain ⟨h2, h3, hT, hm, he, hdd, hp, hj, hc, hy, hk⟩ := I
    have k : (nI i).toNatClampNeg = i := sx_cl (by omega)
    have v := sx_v65 (i := i) (by omega)
    have D : sm_YD t i tp (upd am i x2) (upd ae i x3) (upd ad i tp) ap aj ac ay ak := ⟨hT, sx_ls hm h2, sx_ls he h3, sx_ls (f := fun j => nI (sm_T t j)) hdd hT, hp, hj, hc, hy, hk⟩
    have e01 : x3 = 0 ∨ x3 = 1 := by rw [h3]; exact sm_E01 t i
    refine br_f (nI_nlt hi (by omega)) (br_f (nI_nlt (b := i) (a := 64) (by omega) (by omega)) ⟨v, nm_r (e' := upd am i x2) (by rw [k]) ⟨v, nm_r (e' := upd ae i x3) (by rw [k, sy_nE e01]) ⟨v, nm_r (e' := upd ad i tp) (by rw [k]) ?_⟩⟩⟩)
    generalize upd am i x2 = am at D ⊢
    generalize upd ae i x3 = ae at D ⊢
    generalize upd ad i tp = ad at D ⊢
    by_cases q : i = g
    · subst q
      obtain ⟨d', rfl⟩ : ∃ d', d = d' + 1 := ⟨d - 1, by omega⟩
      exact br_t (nI_le (Nat.le_refl i) (by omega)) (nm_r (nI_1 i) (br_t (nI_lt (by omega) (by omega)) (H _ _ _ _ _ _ _ _ _ D)))
    · have hi' : i < 64 := by omega
      have go : ∀ (x2 x3 tp : Int32) (am ae ad ap aj ac ay ak : Nat → Int32), sm_YI t (i + 1) x2 x3 tp am ae ad ap aj ac ay ak → wY_read_60 post (nI g) d x2 x3 (nI (i + 1)) l tp t am ae ad ap aj ac ay ak := fun x2 x3 tp am ae ad ap aj ac ay ak X => ih (i + 1) x2 x3 tp am ae ad ap aj ac ay ak (by omega) (by omega) X
      clear ih
      refine br_f (nI_ge (by omega) (by omega)) (br_f (nI_ge (a := i) (b := 64) (by omega) (by omega)) ⟨sx_v64 hi', nm_r (e' := t i) (by rw [k]) ?_⟩)
      by_cases e : sm_E t i = 0
      · refine br_t (h3.trans e) ?_
        by_cases m0 : sm_M t i = 0
        · refine br_t (h2.trans m0) ?_
          have z := sm_s_pl e m0
          by_cases k2 : t i = 2
          · have hTi := sm_Tle t i
            exact sy_pl2 hi' (q := sm_T t i) (by omega) hT k2 (br_f (by decide) (br_t (by decide) (nm_r (nI_1 i) (go _ _ _ _ _ _ _ _ _ _ _ (sy_xJ D ⟨e, m0, k2⟩)))))
          · have nJ : ¬ sm_J t i := fun y => k2 y.2.2
            by_cases k3 : t i = 3
            · by_cases T0 : sm_T t i = 0
              · exact sy_pl3s hi' (by rw [hT, T0, nI_0]) k3 (br_f (by decide) (br_t (by decide) (nm_r (nI_1 i) (go _ _ _ _ _ _ _ _ _ _ _ (sy_xS D ⟨e, m0, k3⟩ T0)))))
              · have o := (sm_oJ T0).1
                have hTi := sm_Tle t i
                exact sy_pl3p hi' (q := sm_T t i - 1) (o := sm_o t i) (by omega) (by omega) (by rw [hT, Nat.sub_add_cancel (by omega)]) (hk _ (by omega)) k3 (br_f (by decide) (br_t (by decide) (nm_r (nI_1 i) (go _ _ _ _ _ _ _ _ _ _ _ (sy_xD D ⟨⟨e, m0, k3⟩, T0⟩)))))
            · have nC : ¬ sm_C t i := fun y => k3 y.2.2
              by_cases k4 : t i = 4
              · exact sy_pl4 hi' k4 (br_f (by decide) (br_f (by decide) (nm_r (e' := 1) (by decide) (nm_r (nI_1 i) (go _ _ _ _ _ _ _ _ _ _ _ (sy_xd D nJ nC (by rw [z.1, k4]; decide) (by rw [z.2, k4]; decide)))))))
              · by_cases k5 : t i = 5
                · exact sy_pl5 hi' k5 (br_t rfl (br_t (by decide) (nm_r (nI_1 i) (go _ _ _ _ _ _ _ _ _ _ _ (sy_xd D nJ nC (by rw [z.1, k5]; decide) (by rw [z.2, k5]; decide))))))
                · by_cases k6 : t i = 6
                  · exact sy_pl6 hi' k6 (br_f (by decide) (br_f (by decide) (nm_r (e' := 2) (by decide) (nm_r (nI_1 i) (go _ _ _ _ _ _ _ _ _ _ _ (sy_xd D nJ nC (by rw [z.1, k6]; decide) (by rw [z.2, k6]; decide)))))))
                  · exact sy_pl0 hi' k2 k3 k4 k5 k6 (br_f (by decide) (br_t (by decide) (nm_r (nI_1 i) (go _ _ _ _ _ _ _ _ _ _ _ (sy_xd D nJ nC (by rw [z.1, if_neg k4, if_neg k6]) (by rw [z.2, if_neg k5]))))))
        · refine br_f (by rw [h2]; exact m0) ?_
          have nJ : ¬ sm_J t i := fun y => m0 y.2.1
          have nC : ¬ sm_C t i := fun y => m0 y.2.1
          by_cases m1 : sm_M t i = 1
          · refine br_t (h2.trans m1) ?_
            have z := sm_s_st e m1
            by_cases k5 : t i = 5
            · exact br_t k5 (br_f (by rw [k5]; decide) (nm_r (nI_1 i) (go _ _ _ _ _ _ _ _ _ _ _ (sy_xd D nJ nC (by rw [z.1, k5, h2, m1]; decide) (by rw [z.2, k5]; decide)))))
            · refine br_f k5 ?_
              by_cases k4 : t i = 4
              · exact br_t k4 (nm_r (nI_1 i) (go _ _ _ _ _ _ _ _ _ _ _ (sy_xd D nJ nC (by rw [z.1, if_pos k4]) (by rw [z.2, if_neg k5]))))
              · exact br_f k4 (nm_r (nI_1 i) (go _ _ _ _ _ _ _ _ _ _ _ (sy_xd D nJ nC (by rw [z.1, if_neg k4, h2, m1]) (by rw [z.2, if_neg k5]))))
          · refine br_f (by rw [h2]; exact m1) ?_
            have z := sm_s_rm e m0 m1
            by_cases k7 : t i = 7
            · exact br_t k7 (nm_r (nI_1 i) (go _ _ _ _ _ _ _ _ _ _ _ (sy_xd D nJ nC (by rw [z.1, if_pos k7]) (by rw [z.2, h3, e]))))
            · exact br_f k7 (nm_r (nI_1 i) (go _ _ _ _ _ _ _ _ _ _ _ (sy_xd D nJ nC (by rw [z.1, if_neg k7, h2]) (by rw [z.2, h3, e]))))
      · have z := sm_s_esc e
        have nJ : ¬ sm_J t i := fun y => e y.1
        have nC : ¬ sm_C t i := fun y => e y.1
        exact br_f (by rw [h3]; exact e) (nm_r (nI_1 i) (go _ _ _ _ _ _ _ _ _ _ _ (sy_xd D nJ nC (by rw [z.1, h2]) z.2.symm)))
theorem sy_clear {post : SY → Prop} {g : Nat} (hg : g ≤ 64) {l : Int32} {t am ae ad ak : Nat → Int32}
    (H : ∀ (tp : Int32) (am ae ad ap aj ac ay ak : Nat → Int32), sm_YD t g tp am ae ad ap aj ac ay ak → post (l, tp, t, am, ae, ad, ap, aj, ac, ay, ak)) :
    ∀ (d i : Nat) (ap aj ac ay : Nat → Int32), i ≤ 64 → 64 < d + i → (∀ j, j < i → ap j = -1 ∧ aj j = 0 ∧ ac j = 0 ∧ ay j = 0) → wY_read_12 post (nI g) 0 0 l 0 d (nI i) t am ae ad ap aj ac ay ak := by
  intro d
  induction d with
  | zero => intro i ap aj ac ay h1 h2; omega
  | succ d ih =>
    intro i ap aj ac ay hi hd I
    by_cases q : i = 64
    · subst q
      refine br_t (nI_le (a := 64) (b := 64) (by omega) (by omega)) ⟨g + 2, ?_⟩
      refine sy_loop hg H (g + 2) 0 0 0 0 am ae ad ap aj ac ay ak (by omega) (by omega) ⟨rfl, rfl, rfl, fun j h => by omega, fun j h => by omega, fun j h => by omega, fun j h => (I j h).1, fun j h => ?_, fun j h => ?_, fun j h => ?_, fun m h => absurd h (Nat.not_lt_zero m)⟩
      · rw [sm_g, if_neg (by omega)]; exact (I j h).2.1
      · rw [sm_g, if_neg (by omega)]; exact (I j h).2.2.1
      · rw [sm_g, if_neg (by omega)]; exact (I j h).2.2.2
    · have hi' : i < 64 := by omega
      have v := sx_v64 hi'
      have k : (nI i).toNatClampNeg = i := sx_cl (by omega)
      refine br_f (nI_ge (a := i) (b := 64) (by omega) (by omega)) ⟨v, nm_r (e' := upd ap i (-1)) (by rw [k]) ⟨v, nm_r (e' := upd aj i 0) (by rw [k, sx_n0]) ⟨v, nm_r (e' := upd ac i 0) (by rw [k, sx_n0]) ⟨v, nm_r (e' := upd ay i 0) (by rw [k, sx_n0]) (nm_r (nI_1 i) (ih (i + 1) _ _ _ _ (by omega) (by omega) (fun j hj => ?_)))⟩⟩⟩⟩
      by_cases e : j = i
      · subst e; exact ⟨sm_us, sm_us, sm_us, sm_us⟩
      · rw [sm_un e, sm_un e, sm_un e, sm_un e]; exact I j (by omega)
theorem sy_read {post : SY → Prop} {g : Nat} (hg : g ≤ 64) {l tp : Int32} {t am ae ad ap aj ac ay ak : Nat → Int32}
    (H : ∀ (tp : Int32) (am ae ad ap aj ac ay ak : Nat → Int32), sm_YD t g tp am ae ad ap aj ac ay ak → post (l, tp, t, am, ae, ad, ap, aj, ac, ay, ak)) : wpY_read post (l, tp, t, am, ae, ad, ap, aj, ac, ay, ak) (nI g) :=
  ⟨65, sy_clear hg H 65 0 ap aj ac ay (by omega) (by omega) (fun j h => by omega)⟩
end
section
/-! 08: the reference's units. Written by wip/whole/gen08.py -/
theorem sx_m1 (n : Nat) : nI (n + 1) + (-1) = nI n := by
  rw [← nI_1, Int32.add_assoc, show (1 : Int32) + (-1) = 0 from rfl, Int32.add_zero]
theorem sx_s1 (x : Int32) : x - 1 = x + (-1) := by rw [Int32.sub_eq_add_neg]
theorem sx_mm : nI 0 + (-1) = -1 := by decide
theorem sx_neg {x : Int32} (h : x = -1) : x < 0 := by rw [h]; decide
theorem sy_wy {post : Int32 → Prop} {n i : Nat} (hn : n ≤ 64) (hi : i < n) {tp : Int32} {t am ae ad ap aj ac ay ak : Nat → Int32} (Y : sm_YD t n tp am ae ad ap aj ac ay ak) (hW : sm_W t i → post 1) (hN : ¬ sm_W t i → post 0) : wpY_wordy post (nI n, tp, t, am, ae, ad, ap, aj, ac, ay, ak) (nI i) := by
  have k : (nI i).toNatClampNeg = i := sx_cl (by omega)
  have v := sx_v65 (i := i) (by omega)
  have v0 := sx_v64 (i := i) (by omega)
  have hm := Y.2.1 i (by omega)
  have he := Y.2.2.1 i (by omega)
  refine br_f (nI_pos (by omega)) (br_f (nI_ge hi (by omega)) (br_t (nI_lt (a := i) (b := 64) (by omega) (by omega)) ⟨v, br_c (fun m => ⟨v0, br_c (fun z => ?_) (fun z => ⟨v0, br_c (fun z2 => ?_) (fun z2 => ⟨v, br_c (fun z3 => ?_) (fun z3 => ?_)⟩)⟩)⟩) (fun m => ?_)⟩))
  · rw [k] at m z; rw [hm] at m
    exact hW ⟨m, Or.inr (Or.inl z)⟩
  · rw [k] at m z2; rw [hm] at m
    exact hW ⟨m, Or.inr (Or.inr z2)⟩
  · rw [k] at z z2 z3; rw [he] at z3
    refine hN fun w => ?_
    rcases w.2 with q | q | q
    · exact q z3
    · exact z q
    · exact z2 q
  · rw [k] at m z3; rw [hm] at m; rw [he] at z3
    exact hW ⟨m, Or.inl z3⟩
  · rw [k, hm] at m
    exact hN fun w => m w.1
theorem sy_wn {post : Int32 → Prop} {n : Nat} (hn : n ≤ 64) {tp : Int32} {t am ae ad ap aj ac ay ak : Nat → Int32} (h : post 0) : wpY_wordy post (nI n, tp, t, am, ae, ad, ap, aj, ac, ay, ak) (nI n) :=
  br_f (nI_pos (by omega)) (br_t (nI_le (Nat.le_refl n) (by omega)) h)
theorem sy_w53 {post : Int32 → Prop} {n i e : Nat} (hn : n ≤ 64) {tp : Int32} {t am ae ad ap aj ac ay ak : Nat → Int32} (Y : sm_YD t n tp am ae ad ap aj ac ay ak) (hi : i ≤ e) (he : e < n) (hw : ∀ k, i ≤ k → k ≤ e → sm_W t k) (hb : ∀ k, k + 1 = i → ¬ sm_W t k) (hx : e + 1 = n ∨ ¬ sm_W t (e + 1)) (h : post (sm_FU t n n i)) : wY_wordEnd_53 post (nI e) (nI n) tp t am ae ad ap aj ac ay ak := by
  rw [sm_FUrun hi he hw hb hx] at h
  have k1 : (nI e + 1).toNatClampNeg = e + 1 := sx_cl' (by omega)
  have hE := Y.2.2.1 (e + 1) (by omega)
  refine ⟨sx_v65' (by omega), br_c (fun z => ?_) (fun z => ?_)⟩
  · rw [k1, hE] at z
    rw [if_pos z] at h; exact h
  · rw [k1, hE] at z
    rw [if_neg z] at h; exact h
theorem sy_w31 {post : Int32 → Prop} {n i : Nat} (hn : n ≤ 64) {tp : Int32} {t am ae ad ap aj ac ay ak : Nat → Int32} (Y : sm_YD t n tp am ae ad ap aj ac ay ak) (hb : ∀ k, k + 1 = i → ¬ sm_W t k) (h : post (sm_FU t n n i)) : ∀ d k, i ≤ k → k < n → n ≤ d + k → (∀ m, i ≤ m → m ≤ k → sm_W t m) → wY_wordEnd_31 post (nI n) tp t am ae ad ap aj ac ay ak d (nI k) := by
  intro d
  induction d with
  | zero => intro k h1 h2 h3; omega
  | succ d ih =>
    intro k hik hk hd hw
    by_cases e : k + 1 = n
    · have fin := sy_w53 hn Y hik hk hw hb (Or.inl e) h
      by_cases q : k = 63
      · exact br_t (by rw [q]; decide) fin
      · refine br_f (nI_ge (a := k) (b := 63) (by omega) (by omega)) ?_
        rw [nI_1, e]
        exact sy_wn hn (br_t rfl fin)
    · refine br_f (nI_ge (a := k) (b := 63) (by omega) (by omega)) ?_
      rw [nI_1]
      refine sy_wy hn (by omega) Y (fun w => br_f (by decide) (nm_e (ih (k + 1) (by omega) (by omega) (by omega) (fun m h1 h2 => ?_)))) (fun w => br_t rfl (sy_w53 hn Y hik hk hw hb (Or.inr w) h))
      by_cases q : m = k + 1
      · rw [q]; exact w
      · exact hw m h1 (by omega)
theorem sy_wE {post : Int32 → Prop} {n i : Nat} (hn : n ≤ 64) (hi : i < n) {tp : Int32} {t am ae ad ap aj ac ay ak : Nat → Int32} (Y : sm_YD t n tp am ae ad ap aj ac ay ak) (hS : (sm_W t i ∧ ∀ k, k + 1 = i → ¬ sm_W t k) → post (sm_FU t n n i)) (hN : ¬ (sm_W t i ∧ ∀ k, k + 1 = i → ¬ sm_W t k) → post (-1)) : wpY_wordEnd post (nI n, tp, t, am, ae, ad, ap, aj, ac, ay, ak) (nI i) := by
  have k : (nI i).toNatClampNeg = i := sx_cl (by omega)
  unfold wpY_wordEnd
  refine sy_wy hn hi Y (fun w => br_f (by decide) ?_) (fun w => br_t rfl (hN fun z => w z.1))
  have fin : (∀ k, k + 1 = i → ¬ sm_W t k) → vp_in (nI i) 65 ∧ ((ae (nI i).toNatClampNeg = 0 → ∃ n31 : Nat, wY_wordEnd_31 post (nI n) tp t am ae ad ap aj ac ay ak n31 (nI i)) ∧ (¬ ae (nI i).toNatClampNeg = 0 → post (-1))) := fun hb =>
    ⟨sx_v65 (by omega), br_t (by rw [k, Y.2.2.1 i (by omega)]; exact sm_We w hb) ⟨n, sy_w31 hn Y hb (hS ⟨w, hb⟩) n i (Nat.le_refl i) hi (by omega) (fun m h1 h2 => by rw [show m = i by omega]; exact w)⟩⟩
  cases i with
  | zero => exact br_t (by decide) (br_t rfl (fin fun k hk => by omega))
  | succ i =>
    rw [nI_pred]
    refine sy_wy hn (by omega) Y (fun w' => br_f (by decide) (hN fun z => z.2 i rfl w')) (fun w' => br_t rfl (fin fun k hk => ?_))
    rw [show k = i by omega]; exact w'
theorem sy_s34 {post : Int32 → Prop} {n i : Nat} (hn : n ≤ 64) (hi : i < n) {tp : Int32} {t am ae ad ap aj ac ay ak : Nat → Int32} (Y : sm_YD t n tp am ae ad ap aj ac ay ak) (hO : sm_O t i) (h : post (sm_SU t n i)) : ∀ d k, i < k → k ≤ n → n - k < d → (∀ m, i < m → m < k → ¬ sm_Z t m) → wY_stringEnd_34 post (nI n) tp t am ae ad ap aj ac ay ak d (nI k) := by
  intro d
  induction d with
  | zero => intro k h1 h2 h3; omega
  | succ d ih =>
    intro k hik hk hd hz
    have st := (sm_str t n hn).2 i hi hO
    by_cases e : k = n
    · subst e
      refine br_t (nI_le (Nat.le_refl k) (by omega)) ?_
      rcases st with ⟨a, _⟩ | ⟨e, a, b, c, _⟩
      · rw [a] at h; exact h
      · exact absurd c (hz e a b)
    · have kk : (nI k).toNatClampNeg = k := sx_cl (by omega)
      have v := sx_v65 (i := k) (by omega)
      have hm := Y.2.1 k (by omega)
      have he := Y.2.2.1 k (by omega)
      have next : ¬ sm_Z t k → wY_stringEnd_34 post (nI n) tp t am ae ad ap aj ac ay ak d (nI (k + 1)) := fun nz => ih (k + 1) (by omega) (by omega) (by omega) (fun m h1 h2 => by
        by_cases q : m = k
        · rw [q]; exact nz
        · exact hz m h1 (by omega))
      refine br_f (nI_ge (by omega) (by omega)) (br_f (nI_ge (a := k) (b := 64) (by omega) (by omega)) ⟨sx_v64 (by omega), br_c (fun z4 => ⟨v, br_c (fun z1 => ⟨v, br_c (fun z0 => ?_) (fun z0 => nm_r (nI_1 k) (next fun z => ?_))⟩) (fun z1 => nm_r (nI_1 k) (next fun z => ?_))⟩) (fun z4 => nm_r (nI_1 k) (next fun z => ?_))⟩)
      · rw [kk] at z4 z1 z0
        rw [hm] at z1; rw [he] at z0
        have Z : sm_Z t k := ⟨z0, z1, z4⟩
        rcases st with ⟨_, _, _, a⟩ | ⟨e, a, b, c, d', f⟩
        · exact absurd Z (a k hik (by omega))
        · have : e = k := by
            rcases Nat.lt_trichotomy e k with q | q | q
            · exact absurd c (hz e a q)
            · exact q
            · exact absurd Z (d' k hik q)
          rw [f, this] at h; exact h
      · rw [kk, he] at z0; exact z0 z.1
      · rw [kk, hm] at z1; exact z1 z.2.1
      · rw [kk] at z4; exact z4 z.2.2
theorem sy_sE {post : Int32 → Prop} {n i : Nat} (hn : n ≤ 64) (hi : i < n) {tp : Int32} {t am ae ad ap aj ac ay ak : Nat → Int32} (Y : sm_YD t n tp am ae ad ap aj ac ay ak) (nJ : ¬ sm_J t i) (h : post (sm_SU t n i)) : wpY_stringEnd post (nI n, tp, t, am, ae, ad, ap, aj, ac, ay, ak) (nI i) := by
  have k : (nI i).toNatClampNeg = i := sx_cl (by omega)
  have v := sx_v65 (i := i) (by omega)
  have hm := Y.2.1 i (by omega)
  have he := Y.2.2.1 i (by omega)
  have no : ¬ sm_O t i → post (-1) := fun z => by rw [sm_SUx t n i nJ z] at h; exact h
  refine ⟨sx_v64 (by omega), br_c (fun z4 => ⟨v, br_c (fun z1 => ⟨v, br_c (fun z0 => nm_r (nI_1 i) ⟨n + 1, ?_⟩) (fun z0 => no fun z => ?_)⟩) (fun z1 => no fun z => ?_)⟩) (fun z4 => no fun z => ?_)⟩
  · rw [k] at z4 z1 z0
    rw [hm] at z1; rw [he] at z0
    exact sy_s34 hn hi Y ⟨z0, z1, z4⟩ h (n + 1) (i + 1) (by omega) (by omega) (by omega) (fun m h1 h2 => by omega)
  · rw [k, he] at z0; exact z0 z.1
  · rw [k, hm] at z1; exact z1 z.2.1
  · rw [k] at z4; exact z4 z.2.2
theorem sy_uE {post : Int32 → Prop} {n i : Nat} (hn : n ≤ 64) (hi : i < n) {tp : Int32} {t am ae ad ap aj ac ay ak : Nat → Int32} (Y : sm_YD t n tp am ae ad ap aj ac ay ak) (h : post (sm_FU t n n i)) : wpY_unitEnd post (nI n, tp, t, am, ae, ad, ap, aj, ac, ay, ak) (nI i) := by
  have k : (nI i).toNatClampNeg = i := sx_cl (by omega)
  have v := sx_v64 (i := i) (by omega)
  have hj : aj (nI i).toNatClampNeg = sm_jv t i := by rw [k, Y.2.2.2.2.2.1 i (by omega), sm_g, if_pos hi]
  by_cases J : sm_J t i
  · refine ⟨v, br_f (by rw [hj, sm_jv, if_pos J]; decide) ⟨v, ?_⟩⟩
    rw [k, Y.2.2.2.2.1 i (by omega), ← sm_SUJ t n i J]
    rw [sm_FUno (fun z => (sm_Wx z.1).1 J)] at h
    exact h
  · refine ⟨v, br_t (by rw [hj, sm_jv, if_neg J]) (sy_wE hn hi Y (fun w => ?_) (fun w => br_t (by decide) (sy_sE hn hi Y J ?_)))⟩
    · rcases (sm_BJ2 t hn n (Nat.le_refl n)).1 i with z | ⟨e, a, b, c, _⟩
      · refine br_t (sx_neg z) (sy_sE hn hi Y J ?_)
        rw [sm_SUx t n i J (sm_Wx w.1).2.2.1, ← z]; exact h
      · exact br_f (by rw [c]; exact nI_pos (by omega)) h
    · rw [sm_FUno w] at h; exact h
theorem sy_u2 {post : Int32 → Prop} {n e : Nat} (hn : n ≤ 64) (he : e < n) {tp : Int32} {t am ae ad ap aj ac ay ak : Nat → Int32} (Y : sm_YD t n tp am ae ad ap aj ac ay ak) (h : post (sm_FB t n n e)) : ∀ d k, k ≤ e + 1 → e + 1 < d + k → (∀ i, i < k → ¬ sm_FU t n n i = nI e) → wY_unitStart_2 post (nI e) (nI n) tp t am ae ad ap aj ac ay ak d (nI k) := by
  intro d
  induction d with
  | zero => intro k h1 h2; omega
  | succ d ih =>
    intro k hk hd hu
    have B := sm_BJ2 t hn n (Nat.le_refl n)
    by_cases q : k = e + 1
    · refine br_t (by rw [q]; exact nI_lt (by omega) (by omega)) ?_
      rcases B.2 e with z | ⟨i, a, b, c, f⟩
      · rw [z] at h; exact h
      · exact absurd f (hu i (by omega))
    · refine br_f (nI_nlt (by omega) (by omega)) (sy_uE hn (by omega) Y (br_c (fun z => ?_) (fun z => nm_r (nI_1 k) (ih (k + 1) (by omega) (by omega) (fun i hi => ?_)))))
      · rcases B.1 k with y | ⟨e', a, b, c, f⟩
        · rw [y] at z; exact absurd z.symm (sm_nn (by omega))
        · rw [c, nI_eq (by omega) (by omega)] at z
          rw [z] at f
          rw [f] at h; exact h
      · by_cases y : i = k
        · rw [y]; exact z
        · exact hu i (by omega)
theorem sy_uS {post : Int32 → Prop} {n e : Nat} (hn : n ≤ 64) (he : e < n) {tp : Int32} {t am ae ad ap aj ac ay ak : Nat → Int32} (Y : sm_YD t n tp am ae ad ap aj ac ay ak) (h : post (sm_FB t n n e)) : wpY_unitStart post (nI n, tp, t, am, ae, ad, ap, aj, ac, ay, ak) (nI e) :=
  ⟨e + 2, sy_u2 hn he Y h (e + 2) 0 (by omega) (by omega) (fun i hi => by omega)⟩
end
section
/-! 09: gaps and positions; each question on both sides. Written by wip/whole/gen09.py -/
def i_Rel (k : Nat) (u : SX) (v : SY) : Prop := match u, v with
  | (c, fs, fu, fb, t, am, ae, ad, ai, aj, ay, ap, au, ab), (l, tp, t', bm, be, bd, bp, bj, bc, by_, bk) => l = c ∧ t' = t ∧ ∃ n : Nat, n ≤ 64 ∧ c = nI n ∧ sm_XR t n fs fu am ae ad ai aj ay ap au ab
theorem i_up {k : Nat} {u : SX} {v : SY} (h : i_Rel k u v) : i_Rel (k + 3) u v := h
def sm_bg0 (n : Nat) (v : Int32) : Prop := v < 0 ∨ (¬ v < 0 ∧ nI n < v)
def sm_bp0 (n : Nat) (v : Int32) : Prop := v < 0 ∨ (¬ v < 0 ∧ nI n ≤ v)
theorem sm_gc (v : Int32) {n : Nat} (hn : n ≤ 64) : (∃ g, g ≤ n ∧ v = nI g) ∨ sm_bg0 n v := by
  by_cases h : v < 0
  · exact Or.inr (Or.inl h)
  · obtain ⟨j, hj, rfl⟩ := nI_of h
    by_cases q : j ≤ n
    · exact Or.inl ⟨j, q, rfl⟩
    · exact Or.inr (Or.inr ⟨h, nI_lt (by omega) hj⟩)
theorem sm_pc (v : Int32) {n : Nat} (hn : n ≤ 64) : (∃ g, g < n ∧ v = nI g) ∨ sm_bp0 n v := by
  by_cases h : v < 0
  · exact Or.inr (Or.inl h)
  · obtain ⟨j, hj, rfl⟩ := nI_of h
    by_cases q : j < n
    · exact Or.inl ⟨j, q, rfl⟩
    · exact Or.inr (Or.inr ⟨h, nI_le (by omega) hj⟩)
theorem sx_g1 {post : Int32 → Prop} {n g : Nat} (hn : n ≤ 64) (hg : g ≤ n) {fs fu fb : Int32} {t am ae ad ai aj ay ap au ab : Nat → Int32} (h : post 1) : wpX_isGap post (nI n, fs, fu, fb, t, am, ae, ad, ai, aj, ay, ap, au, ab) (nI g) :=
  br_f (nI_pos (by omega)) (br_f (nI_nlt hg (by omega)) h)
theorem sx_g0 {post : Int32 → Prop} {n : Nat} {v : Int32} (hb : sm_bg0 n v) {fs fu fb : Int32} {t am ae ad ai aj ay ap au ab : Nat → Int32} (h : post 0) : wpX_isGap post (nI n, fs, fu, fb, t, am, ae, ad, ai, aj, ay, ap, au, ab) v := by
  rcases hb with z | ⟨z, y⟩
  · exact br_t z h
  · exact br_f z (br_t y h)
theorem sx_p1 {post : Int32 → Prop} {n g : Nat} (hn : n ≤ 64) (hg : g < n) {fs fu fb : Int32} {t am ae ad ai aj ay ap au ab : Nat → Int32} (h : post 1) : wpX_isPosition post (nI n, fs, fu, fb, t, am, ae, ad, ai, aj, ay, ap, au, ab) (nI g) :=
  br_f (nI_pos (by omega)) (br_f (nI_ge hg (by omega)) h)
theorem sx_p0 {post : Int32 → Prop} {n : Nat} {v : Int32} (hb : sm_bp0 n v) {fs fu fb : Int32} {t am ae ad ai aj ay ap au ab : Nat → Int32} (h : post 0) : wpX_isPosition post (nI n, fs, fu, fb, t, am, ae, ad, ai, aj, ay, ap, au, ab) v := by
  rcases hb with z | ⟨z, y⟩
  · exact br_t z h
  · exact br_f z (br_t y h)
theorem sy_g1 {post : Int32 → Prop} {n g : Nat} (hn : n ≤ 64) (hg : g ≤ n) {tp : Int32} {t bm be bd bp bj bc by_ bk : Nat → Int32} (h : post 0) : wpY_badGap post (nI n, tp, t, bm, be, bd, bp, bj, bc, by_, bk) (nI g) :=
  br_f (nI_pos (by omega)) (br_f (nI_nlt hg (by omega)) (br_t (nI_le (a := g) (b := 64) (by omega) (by omega)) h))
theorem sy_g0 {post : Int32 → Prop} {n : Nat} {v : Int32} (hb : sm_bg0 n v) {tp : Int32} {t bm be bd bp bj bc by_ bk : Nat → Int32} (h : post 1) : wpY_badGap post (nI n, tp, t, bm, be, bd, bp, bj, bc, by_, bk) v := by
  rcases hb with z | ⟨z, y⟩
  · exact br_t z h
  · exact br_f z (br_t y h)
theorem sy_p1 {post : Int32 → Prop} {n g : Nat} (hn : n ≤ 64) (hg : g < n) {tp : Int32} {t bm be bd bp bj bc by_ bk : Nat → Int32} (h : post 0) : wpY_badPosition post (nI n, tp, t, bm, be, bd, bp, bj, bc, by_, bk) (nI g) :=
  br_f (nI_pos (by omega)) (br_f (nI_ge hg (by omega)) (br_t (nI_lt (a := g) (b := 64) (by omega) (by omega)) h))
theorem sy_p0 {post : Int32 → Prop} {n : Nat} {v : Int32} (hb : sm_bp0 n v) {tp : Int32} {t bm be bd bp bj bc by_ bk : Nat → Int32} (h : post 1) : wpY_badPosition post (nI n, tp, t, bm, be, bd, bp, bj, bc, by_, bk) v := by
  rcases hb with z | ⟨z, y⟩
  · exact br_t z h
  · exact br_f z (br_t y h)
theorem sx_mode0 {post : Int32 → Prop} {n : Nat} {v : Int32} (hb : sm_bg0 n v) {fs fu fb : Int32} {t am ae ad ai aj ay ap au ab : Nat → Int32} (h : post (-1)) : wpX_mode post (nI n, fs, fu, fb, t, am, ae, ad, ai, aj, ay, ap, au, ab) v := by
  unfold wpX_mode
  exact sx_g0 hb (br_t rfl h)
theorem sy_mode0 {post : Int32 → SY → Prop} {n : Nat} {v : Int32} (hb : sm_bg0 n v) {tp : Int32} {t bm be bd bp bj bc by_ bk : Nat → Int32} (h : post (-1) (nI n, tp, t, bm, be, bd, bp, bj, bc, by_, bk)) : wpY_mode post (nI n, tp, t, bm, be, bd, bp, bj, bc, by_, bk) v := by
  unfold wpY_mode
  exact sy_g0 hb (br_f (by decide) h)
theorem sx_escaped0 {post : Int32 → Prop} {n : Nat} {v : Int32} (hb : sm_bg0 n v) {fs fu fb : Int32} {t am ae ad ai aj ay ap au ab : Nat → Int32} (h : post (-1)) : wpX_escaped post (nI n, fs, fu, fb, t, am, ae, ad, ai, aj, ay, ap, au, ab) v := by
  unfold wpX_escaped
  exact sx_g0 hb (br_t rfl h)
theorem sy_escaped0 {post : Int32 → SY → Prop} {n : Nat} {v : Int32} (hb : sm_bg0 n v) {tp : Int32} {t bm be bd bp bj bc by_ bk : Nat → Int32} (h : post (-1) (nI n, tp, t, bm, be, bd, bp, bj, bc, by_, bk)) : wpY_escaped post (nI n, tp, t, bm, be, bd, bp, bj, bc, by_, bk) v := by
  unfold wpY_escaped
  exact sy_g0 hb (br_f (by decide) h)
theorem sx_depth0 {post : Int32 → Prop} {n : Nat} {v : Int32} (hb : sm_bg0 n v) {fs fu fb : Int32} {t am ae ad ai aj ay ap au ab : Nat → Int32} (h : post (-1)) : wpX_depth post (nI n, fs, fu, fb, t, am, ae, ad, ai, aj, ay, ap, au, ab) v := by
  unfold wpX_depth
  exact sx_g0 hb (br_t rfl h)
theorem sy_depth0 {post : Int32 → SY → Prop} {n : Nat} {v : Int32} (hb : sm_bg0 n v) {tp : Int32} {t bm be bd bp bj bc by_ bk : Nat → Int32} (h : post (-1) (nI n, tp, t, bm, be, bd, bp, bj, bc, by_, bk)) : wpY_depth post (nI n, tp, t, bm, be, bd, bp, bj, bc, by_, bk) v := by
  unfold wpY_depth
  exact sy_g0 hb (br_f (by decide) h)
theorem sx_forward0 {post : Int32 → Prop} {n : Nat} {v : Int32} (hb : sm_bg0 n v) {fs fu fb : Int32} {t am ae ad ai aj ay ap au ab : Nat → Int32} (h : post (-1)) : wpX_forward post (nI n, fs, fu, fb, t, am, ae, ad, ai, aj, ay, ap, au, ab) v := by
  unfold wpX_forward
  exact sx_g0 hb (br_t rfl h)
theorem sy_forward0 {post : Int32 → SY → Prop} {n : Nat} {v : Int32} (hb : sm_bg0 n v) {tp : Int32} {t bm be bd bp bj bc by_ bk : Nat → Int32} (h : post (-1) (nI n, tp, t, bm, be, bd, bp, bj, bc, by_, bk)) : wpY_forward post (nI n, tp, t, bm, be, bd, bp, bj, bc, by_, bk) v := by
  unfold wpY_forward
  exact sy_g0 hb (br_f (by decide) h)
theorem sx_backward0 {post : Int32 → Prop} {n : Nat} {v : Int32} (hb : sm_bg0 n v) {fs fu fb : Int32} {t am ae ad ai aj ay ap au ab : Nat → Int32} (h : post (-1)) : wpX_backward post (nI n, fs, fu, fb, t, am, ae, ad, ai, aj, ay, ap, au, ab) v := by
  unfold wpX_backward
  exact sx_g0 hb (br_t rfl h)
theorem sy_backward0 {post : Int32 → SY → Prop} {n : Nat} {v : Int32} (hb : sm_bg0 n v) {tp : Int32} {t bm be bd bp bj bc by_ bk : Nat → Int32} (h : post (-1) (nI n, tp, t, bm, be, bd, bp, bj, bc, by_, bk)) : wpY_backward post (nI n, tp, t, bm, be, bd, bp, bj, bc, by_, bk) v := by
  unfold wpY_backward
  exact sy_g0 hb (br_f (by decide) h)
theorem sx_up0 {post : Int32 → Prop} {n : Nat} {v : Int32} (hb : sm_bg0 n v) {fs fu fb : Int32} {t am ae ad ai aj ay ap au ab : Nat → Int32} (h : post (-1)) : wpX_up post (nI n, fs, fu, fb, t, am, ae, ad, ai, aj, ay, ap, au, ab) v := by
  unfold wpX_up
  exact sx_g0 hb (br_t rfl h)
theorem sy_up0 {post : Int32 → SY → Prop} {n : Nat} {v : Int32} (hb : sm_bg0 n v) {tp : Int32} {t bm be bd bp bj bc by_ bk : Nat → Int32} (h : post (-1) (nI n, tp, t, bm, be, bd, bp, bj, bc, by_, bk)) : wpY_up post (nI n, tp, t, bm, be, bd, bp, bj, bc, by_, bk) v := by
  unfold wpY_up
  exact sy_g0 hb (br_f (by decide) h)
theorem sx_down0 {post : Int32 → Prop} {n : Nat} {v : Int32} (hb : sm_bg0 n v) {fs fu fb : Int32} {t am ae ad ai aj ay ap au ab : Nat → Int32} (h : post (-1)) : wpX_down post (nI n, fs, fu, fb, t, am, ae, ad, ai, aj, ay, ap, au, ab) v := by
  unfold wpX_down
  exact sx_g0 hb (br_t rfl h)
theorem sy_down0 {post : Int32 → SY → Prop} {n : Nat} {v : Int32} (hb : sm_bg0 n v) {tp : Int32} {t bm be bd bp bj bc by_ bk : Nat → Int32} (h : post (-1) (nI n, tp, t, bm, be, bd, bp, bj, bc, by_, bk)) : wpY_down post (nI n, tp, t, bm, be, bd, bp, bj, bc, by_, bk) v := by
  unfold wpY_down
  exact sy_g0 hb (br_f (by decide) h)
theorem sx_bracketAt0 {post : Int32 → Prop} {n : Nat} {v w : Int32} (hb : sm_bg0 n v) {fs fu fb : Int32} {t am ae ad ai aj ay ap au ab : Nat → Int32} (h : post (-1)) : wpX_bracketAt post (nI n, fs, fu, fb, t, am, ae, ad, ai, aj, ay, ap, au, ab) v w := by
  unfold wpX_bracketAt
  exact sx_g0 hb (br_t rfl h)
theorem sy_bracketAt0 {post : Int32 → SY → Prop} {n : Nat} {v w : Int32} (hb : sm_bg0 n v) {tp : Int32} {t bm be bd bp bj bc by_ bk : Nat → Int32} (h : post (-1) (nI n, tp, t, bm, be, bd, bp, bj, bc, by_, bk)) : wpY_bracketAt post (nI n, tp, t, bm, be, bd, bp, bj, bc, by_, bk) v w := by
  unfold wpY_bracketAt
  exact sy_g0 hb (br_f (by decide) h)
theorem sx_kindAt0 {post : Int32 → Prop} {n : Nat} {v : Int32} (hb : sm_bp0 n v) {fs fu fb : Int32} {t am ae ad ai aj ay ap au ab : Nat → Int32} (h : post (-1)) : wpX_kindAt post (nI n, fs, fu, fb, t, am, ae, ad, ai, aj, ay, ap, au, ab) v := by
  unfold wpX_kindAt
  exact sx_p0 hb (br_t rfl h)
theorem sy_kindAt0 {post : Int32 → Prop} {n : Nat} {v : Int32} (hb : sm_bp0 n v) {tp : Int32} {t bm be bd bp bj bc by_ bk : Nat → Int32} (h : post (-1)) : wpY_kindAt post (nI n, tp, t, bm, be, bd, bp, bj, bc, by_, bk) v := by
  unfold wpY_kindAt
  exact sy_p0 hb (br_f (by decide) h)
theorem sx_partner0 {post : Int32 → Prop} {n : Nat} {v : Int32} (hb : sm_bp0 n v) {fs fu fb : Int32} {t am ae ad ai aj ay ap au ab : Nat → Int32} (h : post (-1)) : wpX_partner post (nI n, fs, fu, fb, t, am, ae, ad, ai, aj, ay, ap, au, ab) v := by
  unfold wpX_partner
  exact sx_p0 hb (br_t rfl h)
theorem sy_partner0 {post : Int32 → SY → Prop} {n : Nat} {v : Int32} (hb : sm_bp0 n v) {tp : Int32} {t bm be bd bp bj bc by_ bk : Nat → Int32} (h : post (-1) (nI n, tp, t, bm, be, bd, bp, bj, bc, by_, bk)) : wpY_partner post (nI n, tp, t, bm, be, bd, bp, bj, bc, by_, bk) v := by
  unfold wpY_partner
  exact sy_p0 hb (br_f (by decide) h)
theorem sx_mode1 {post : Int32 → Prop} {n g : Nat} (hn : n ≤ 64) (hg : g ≤ n) {fs fu fb : Int32} {t am ae ad ai aj ay ap au ab : Nat → Int32} (h : post (am g)) : wpX_mode post (nI n, fs, fu, fb, t, am, ae, ad, ai, aj, ay, ap, au, ab) (nI g) := by
  have k : (nI g).toNatClampNeg = g := sx_cl (by omega)
  unfold wpX_mode
  refine sx_g1 hn hg (br_f (by decide) ?_)
  exact ⟨sx_v65 (by omega), by rw [k]; exact h⟩
theorem sy_mode1 {post : Int32 → SY → Prop} {n g : Nat} (hn : n ≤ 64) (hg : g ≤ n) {tp : Int32} {t bm be bd bp bj bc by_ bk : Nat → Int32} (h : ∀ (tp : Int32) (bm be bd bp bj bc by_ bk : Nat → Int32), post (sm_M t g) (nI n, tp, t, bm, be, bd, bp, bj, bc, by_, bk)) : wpY_mode post (nI n, tp, t, bm, be, bd, bp, bj, bc, by_, bk) (nI g) := by
  have k : (nI g).toNatClampNeg = g := sx_cl (by omega)
  unfold wpY_mode
  refine sy_g1 hn hg (br_t rfl (sy_read (by omega) ?_))
  intro tp bm be bd bp bj bc by_ bk Y
  exact ⟨sx_v65 (by omega), by rw [k, Y.2.1 g (by omega)]; exact h _ _ _ _ _ _ _ _ _⟩
theorem sx_depth1 {post : Int32 → Prop} {n g : Nat} (hn : n ≤ 64) (hg : g ≤ n) {fs fu fb : Int32} {t am ae ad ai aj ay ap au ab : Nat → Int32} (h : post (ad g)) : wpX_depth post (nI n, fs, fu, fb, t, am, ae, ad, ai, aj, ay, ap, au, ab) (nI g) := by
  have k : (nI g).toNatClampNeg = g := sx_cl (by omega)
  unfold wpX_depth
  refine sx_g1 hn hg (br_f (by decide) ?_)
  exact ⟨sx_v65 (by omega), by rw [k]; exact h⟩
theorem sy_depth1 {post : Int32 → SY → Prop} {n g : Nat} (hn : n ≤ 64) (hg : g ≤ n) {tp : Int32} {t bm be bd bp bj bc by_ bk : Nat → Int32} (h : ∀ (tp : Int32) (bm be bd bp bj bc by_ bk : Nat → Int32), post (nI (sm_T t g)) (nI n, tp, t, bm, be, bd, bp, bj, bc, by_, bk)) : wpY_depth post (nI n, tp, t, bm, be, bd, bp, bj, bc, by_, bk) (nI g) := by
  have k : (nI g).toNatClampNeg = g := sx_cl (by omega)
  unfold wpY_depth
  refine sy_g1 hn hg (br_t rfl (sy_read (by omega) ?_))
  intro tp bm be bd bp bj bc by_ bk Y
  exact ⟨sx_v65 (by omega), by rw [k, Y.2.2.2.1 g (by omega)]; exact h _ _ _ _ _ _ _ _ _⟩
theorem sx_escaped1 {post : Int32 → Prop} {n g : Nat} (hn : n ≤ 64) (hg : g ≤ n) {fs fu fb : Int32} {t am ae ad ai aj ay ap au ab : Nat → Int32} (h : post (if ae g = 0 then 0 else 1)) : wpX_escaped post (nI n, fs, fu, fb, t, am, ae, ad, ai, aj, ay, ap, au, ab) (nI g) := by
  have k : (nI g).toNatClampNeg = g := sx_cl (by omega)
  unfold wpX_escaped
  refine sx_g1 hn hg (br_f (by decide) ?_)
  refine ⟨sx_v65 (by omega), br_c (fun z => ?_) (fun z => ?_)⟩
  · rw [k] at z; rw [if_pos z] at h; exact h
  · rw [k] at z; rw [if_neg z] at h; exact h
theorem sy_escaped1 {post : Int32 → SY → Prop} {n g : Nat} (hn : n ≤ 64) (hg : g ≤ n) {tp : Int32} {t bm be bd bp bj bc by_ bk : Nat → Int32} (h : ∀ (tp : Int32) (bm be bd bp bj bc by_ bk : Nat → Int32), post (if sm_E t g = 0 then 0 else 1) (nI n, tp, t, bm, be, bd, bp, bj, bc, by_, bk)) : wpY_escaped post (nI n, tp, t, bm, be, bd, bp, bj, bc, by_, bk) (nI g) := by
  have k : (nI g).toNatClampNeg = g := sx_cl (by omega)
  unfold wpY_escaped
  refine sy_g1 hn hg (br_t rfl (sy_read (by omega) ?_))
  intro tp bm be bd bp bj bc by_ bk Y
  have h := h tp bm be bd bp bj bc by_ bk
  refine ⟨sx_v65 (by omega), br_c (fun z => ?_) (fun z => ?_)⟩
  · rw [k, Y.2.2.1 g (by omega)] at z; rw [if_pos z] at h; exact h
  · rw [k, Y.2.2.1 g (by omega)] at z; rw [if_neg z] at h; exact h
theorem sx_up1 {post : Int32 → Prop} {n g : Nat} (hn : n ≤ 64) (hg : g ≤ n) {fs fu fb : Int32} {t am ae ad ai aj ay ap au ab : Nat → Int32} (h : post (if ai g = -1 then -2 else ai g)) : wpX_up post (nI n, fs, fu, fb, t, am, ae, ad, ai, aj, ay, ap, au, ab) (nI g) := by
  have k : (nI g).toNatClampNeg = g := sx_cl (by omega)
  unfold wpX_up
  refine sx_g1 hn hg (br_f (by decide) ?_)
  refine ⟨sx_v65 (by omega), br_c (fun z => ?_) (fun z => ⟨sx_v65 (by omega), ?_⟩)⟩
  · rw [k] at z; rw [if_pos z] at h; exact h
  · rw [k] at z; rw [if_neg z] at h; rw [k]; exact h
theorem sy_up1 {post : Int32 → SY → Prop} {n g : Nat} (hn : n ≤ 64) (hg : g ≤ n) {tp : Int32} {t bm be bd bp bj bc by_ bk : Nat → Int32} (h : ∀ (tp : Int32) (bm be bd bp bj bc by_ bk : Nat → Int32), post (if sm_T t g = 0 then -2 else nI (sm_o t g)) (nI n, tp, t, bm, be, bd, bp, bj, bc, by_, bk)) : wpY_up post (nI n, tp, t, bm, be, bd, bp, bj, bc, by_, bk) (nI g) := by
  have k : (nI g).toNatClampNeg = g := sx_cl (by omega)
  unfold wpY_up
  refine sy_g1 hn hg (br_t rfl (sy_read (by omega) ?_))
  intro tp bm be bd bp bj bc by_ bk Y
  have h := h tp bm be bd bp bj bc by_ bk
  have hT := sm_Tle t g
  by_cases z : sm_T t g = 0
  · rw [if_pos z] at h
    exact br_t (by rw [Y.1, z, nI_0]) h
  · rw [if_neg z] at h
    have p : tp - 1 = nI (sm_T t g - 1) := by
      obtain ⟨q, hq⟩ : ∃ q, sm_T t g = q + 1 := ⟨sm_T t g - 1, by omega⟩
      rw [Y.1, hq, nI_pred]; rfl
    refine br_f (by rw [Y.1]; exact nI_ne0 (by omega) (by omega)) ⟨by rw [p]; exact sx_v64 (by omega), ?_⟩
    rw [p, sx_cl (by omega), Y.2.2.2.2.2.2.2.2 _ (by omega)]
    exact h
theorem sx_kindAt1 {post : Int32 → Prop} {n g : Nat} (hn : n ≤ 64) (hg : g < n) {fs fu fb : Int32} {t am ae ad ai aj ay ap au ab : Nat → Int32} (h : post (t g)) : wpX_kindAt post (nI n, fs, fu, fb, t, am, ae, ad, ai, aj, ay, ap, au, ab) (nI g) := by
  have k : (nI g).toNatClampNeg = g := sx_cl (by omega)
  unfold wpX_kindAt
  exact sx_p1 hn hg (br_f (by decide) ⟨sx_v64 (by omega), by rw [k]; exact h⟩)
theorem sy_kindAt1 {post : Int32 → Prop} {n g : Nat} (hn : n ≤ 64) (hg : g < n) {tp : Int32} {t bm be bd bp bj bc by_ bk : Nat → Int32} (h : post (t g)) : wpY_kindAt post (nI n, tp, t, bm, be, bd, bp, bj, bc, by_, bk) (nI g) := by
  have k : (nI g).toNatClampNeg = g := sx_cl (by omega)
  unfold wpY_kindAt
  exact sy_p1 hn hg (br_t rfl ⟨sx_v64 (by omega), by rw [k]; exact h⟩)
theorem sx_partner1 {post : Int32 → Prop} {n g : Nat} (hn : n ≤ 64) (hg : g < n) {fs fu fb : Int32} {t am ae ad ai aj ay ap au ab : Nat → Int32} (h : post (if ap g = -1 then -2 else ap g)) : wpX_partner post (nI n, fs, fu, fb, t, am, ae, ad, ai, aj, ay, ap, au, ab) (nI g) := by
  have k : (nI g).toNatClampNeg = g := sx_cl (by omega)
  unfold wpX_partner
  refine sx_p1 hn hg (br_f (by decide) ⟨sx_v64 (by omega), br_c (fun z => ?_) (fun z => ⟨sx_v64 (by omega), ?_⟩)⟩)
  · rw [k] at z; rw [if_pos z] at h; exact h
  · rw [k] at z; rw [if_neg z] at h; rw [k]; exact h
theorem sy_partner1 {post : Int32 → SY → Prop} {n g : Nat} (hn : n ≤ 64) (hg : g < n) {tp : Int32} {t bm be bd bp bj bc by_ bk : Nat → Int32} (h : ∀ (tp : Int32) (bm be bd bp bj bc by_ bk : Nat → Int32), post (if sm_PA t n g = -1 then -2 else sm_PA t n g) (nI n, tp, t, bm, be, bd, bp, bj, bc, by_, bk)) : wpY_partner post (nI n, tp, t, bm, be, bd, bp, bj, bc, by_, bk) (nI g) := by
  have k : (nI g).toNatClampNeg = g := sx_cl (by omega)
  unfold wpY_partner
  refine sy_p1 hn hg (br_t rfl (sy_read hn ?_))
  intro tp bm be bd bp bj bc by_ bk Y
  have h := h tp bm be bd bp bj bc by_ bk
  have e : bp (nI g).toNatClampNeg = sm_PA t n g := by rw [k]; exact Y.2.2.2.2.1 g (by omega)
  rcases sm_PAr t n g with z | ⟨q, hq, z⟩
  · rw [if_pos z] at h
    exact ⟨sx_v64 (by omega), br_f (by rw [e, z]; decide) h⟩
  · rw [z, if_neg (sm_nn (by omega))] at h
    exact ⟨sx_v64 (by omega), br_t (by rw [e, z]; exact nI_pos' (by omega)) ⟨sx_v64 (by omega), by rw [e, z]; exact h⟩⟩
theorem sx_b31 {post : Int32 → Prop} {n g v : Nat} (hn : n ≤ 64) (hg : g ≤ n) {fs fu fb : Int32} {t am ae ad ai aj ay ap au ab : Nat → Int32} (X : sm_XR t n fs fu am ae ad ai aj ay ap au ab) (hv : v < sm_T t g) (h : post (nI (sm_K t g v))) : ∀ d k, k ≤ g → k < d → sm_K t g v < k → wX_bracketAt_31 post (nI v) (nI n) fs fu fb t am ae ad ai aj ay ap au ab d (nI k + (-1)) := by
  intro d
  induction d with
  | zero => intro k h1 h2; omega
  | succ d ih =>
    intro k hk hd hK
    obtain ⟨q, rfl⟩ : ∃ q, k = q + 1 := ⟨k - 1, by omega⟩
    obtain ⟨s1, s2, s3, _, s5⟩ := sm_stk t g v hv
    have hT := sm_Tle t g
    have hTq := sm_Tle t q
    have kk : (nI q).toNatClampNeg = q := sx_cl (by omega)
    rw [sx_m1]
    have hj : aj (nI q).toNatClampNeg = sm_jv t q := by rw [kk]; exact X.2.2.2.2.1 q (by omega)
    have hd' : ad (nI q).toNatClampNeg = nI (sm_T t q) := by rw [kk]; exact X.2.2.1 q (by omega)
    refine br_f (nI_pos (by omega)) ⟨sx_v64 (by omega), ?_⟩
    by_cases J : sm_J t q
    · refine br_f (by rw [hj, sm_jv, if_pos J]; decide) ⟨sx_v65 (by omega), ?_⟩
      by_cases e : sm_T t q = v
      · refine br_t (by rw [hd', e]) ?_
        have : sm_K t g v = q := by
          rcases Nat.lt_or_ge (sm_K t g v) q with y | y
          · exact absurd e (s5 q y (by omega) J)
          · omega
        rw [this] at h; exact h
      · refine br_f (by rw [hd', nI_eq (by omega) (by omega)]; exact e) (nm_e (ih q (by omega) (by omega) ?_))
        have : ¬ sm_K t g v = q := fun y => e (by rw [← y]; exact s3)
        omega
    · refine br_t (by rw [hj, sm_jv, if_neg J]) (nm_e (ih q (by omega) (by omega) ?_))
      have : ¬ sm_K t g v = q := fun y => J (by rw [← y]; exact s2)
      omega
theorem sx_bracketAt1 {post : Int32 → Prop} {n g v : Nat} (hn : n ≤ 64) (hg : g ≤ n) {fs fu fb : Int32} {t am ae ad ai aj ay ap au ab : Nat → Int32} (X : sm_XR t n fs fu am ae ad ai aj ay ap au ab) (hv : v < sm_T t g) (h : post (nI (sm_K t g v))) : wpX_bracketAt post (nI n, fs, fu, fb, t, am, ae, ad, ai, aj, ay, ap, au, ab) (nI g) (nI v) := by
  have k : (nI g).toNatClampNeg = g := sx_cl (by omega)
  have hT := sm_Tle t g
  unfold wpX_bracketAt
  refine sx_g1 hn hg (br_f (by decide) (br_f (nI_pos (by omega)) ⟨sx_v65 (by omega), br_t (by rw [k, X.2.2.1 g hg]; exact nI_lt hv (by omega)) (nm_r (sx_s1 _) ⟨g + 1, ?_⟩)⟩))
  exact sx_b31 hn hg X hv h (g + 1) g (Nat.le_refl g) (by omega) (sm_stk t g v hv).1
theorem sx_bracketAt2 {post : Int32 → Prop} {n g : Nat} {w : Int32} (hn : n ≤ 64) (hg : g ≤ n) {fs fu fb : Int32} {t am ae ad ai aj ay ap au ab : Nat → Int32} (X : sm_XR t n fs fu am ae ad ai aj ay ap au ab) (hw : w < 0 ∨ (¬ w < 0 ∧ ¬ w < nI (sm_T t g))) (h : post (-2)) : wpX_bracketAt post (nI n, fs, fu, fb, t, am, ae, ad, ai, aj, ay, ap, au, ab) (nI g) w := by
  have k : (nI g).toNatClampNeg = g := sx_cl (by omega)
  unfold wpX_bracketAt
  refine sx_g1 hn hg (br_f (by decide) ?_)
  rcases hw with z | ⟨z, y⟩
  · exact br_t z h
  · exact br_f z ⟨sx_v65 (by omega), br_f (by rw [k, X.2.2.1 g hg]; exact y) h⟩
theorem sy_bracketAt1 {post : Int32 → SY → Prop} {n g v : Nat} (hn : n ≤ 64) (hg : g ≤ n) {tp : Int32} {t bm be bd bp bj bc by_ bk : Nat → Int32} (hv : v < sm_T t g) (h : ∀ (tp : Int32) (bm be bd bp bj bc by_ bk : Nat → Int32), post (nI (sm_K t g v)) (nI n, tp, t, bm, be, bd, bp, bj, bc, by_, bk)) : wpY_bracketAt post (nI n, tp, t, bm, be, bd, bp, bj, bc, by_, bk) (nI g) (nI v) := by
  have hT := sm_Tle t g
  unfold wpY_bracketAt
  refine sy_g1 hn hg (br_t rfl (sy_read (by omega) ?_))
  intro tp bm be bd bp bj bc by_ bk Y
  refine br_f (nI_pos (by omega)) (br_t (by rw [Y.1]; exact nI_lt hv (by omega)) ⟨sx_v64 (by omega), ?_⟩)
  rw [sx_cl (by omega), Y.2.2.2.2.2.2.2.2 v hv]
  exact h _ _ _ _ _ _ _ _ _
theorem sy_bracketAt2 {post : Int32 → SY → Prop} {n g : Nat} {w : Int32} (hn : n ≤ 64) (hg : g ≤ n) {tp : Int32} {t bm be bd bp bj bc by_ bk : Nat → Int32} (hw : w < 0 ∨ (¬ w < 0 ∧ ¬ w < nI (sm_T t g))) (h : ∀ (tp : Int32) (bm be bd bp bj bc by_ bk : Nat → Int32), post (-2) (nI n, tp, t, bm, be, bd, bp, bj, bc, by_, bk)) : wpY_bracketAt post (nI n, tp, t, bm, be, bd, bp, bj, bc, by_, bk) (nI g) w := by
  unfold wpY_bracketAt
  refine sy_g1 hn hg (br_t rfl (sy_read (by omega) ?_))
  intro tp bm be bd bp bj bc by_ bk Y
  rcases hw with z | ⟨z, y⟩
  · exact br_t z (h _ _ _ _ _ _ _ _ _)
  · exact br_f z (br_f (by rw [Y.1]; exact y) (h _ _ _ _ _ _ _ _ _))
end
section
/-! 10: the questions that scan: both sides by one answer. Written by wip/whole/gen10.py -/
theorem sx_rc {post : Int32 → Prop} {n j : Nat} (hn : n ≤ 64) (hj : j < n) {fs fu fb : Int32} {t am ae ad ai aj ay ap au ab : Nat → Int32} (X : sm_XR t n fs fu am ae ad ai aj ay ap au ab) (hC : sm_C t j → post 1) (hN : ¬ sm_C t j → post 0) : wpX_isReadClose post (nI n, fs, fu, fb, t, am, ae, ad, ai, aj, ay, ap, au, ab) (nI j) := by
  have k : (nI j).toNatClampNeg = j := sx_cl (by omega)
  have v := sx_v64 (i := j) (by omega)
  have hp : ap (nI j).toNatClampNeg = sm_PA t n j := by rw [k]; exact X.2.2.2.2.2.2.1 j hj
  have hy : ay (nI j).toNatClampNeg = sm_yv t j := by rw [k]; exact X.2.2.2.2.2.1 j hj
  have rc := sm_rc (t := t) hn hj
  refine ⟨v, br_c (fun z => ⟨v, br_c (fun p => ⟨v, br_c (fun y => hN fun c => ?_) (fun y => hC ?_)⟩) (fun p => hC ?_)⟩) (fun z => hN fun c => z (by rw [k]; exact c.2.2))⟩
  · rw [hp] at p
    rw [hy] at y
    rcases (rc.mp c).2 with q | q
    · exact q p
    · rw [sm_yv, if_pos q] at y; exact absurd y (by decide)
  · rw [hy] at y
    refine Classical.byContradiction fun c => y ?_
    rw [sm_yv, if_neg (fun q => c q.1)]
  · rw [hp] at p
    rw [k] at z
    exact rc.mpr ⟨z, Or.inl p⟩
theorem sm_fw {n : Nat} (hn : n ≤ 64) {fs fu fb : Int32} {t am ae ad ai aj ay ap au ab : Nat → Int32} (X : sm_XR t n fs fu am ae ad ai aj ay ap au ab) : ∀ d k, k + d = n → ∃ r : Int32, (∀ post : Int32 → Prop, post r → wX_forward_12 post (nI n) fs fu fb t am ae ad ai aj ay ap au ab (d + 1) (nI k)) ∧ (∀ (post : Int32 → SY → Prop) (tp : Int32) (bm be bd bp bj bc by_ bk : Nat → Int32), sm_YD t n tp bm be bd bp bj bc by_ bk → post r (nI n, tp, t, bm, be, bd, bp, bj, bc, by_, bk) → wY_forward_20 post (nI n) tp t bm be bd bp bj bc by_ bk (d + 1) (nI k)) := by
  intro d
  induction d with
  | zero =>
    intro k hk
    have : k = n := by omega
    subst this
    exact ⟨-2, fun post h => br_t (nI_le (Nat.le_refl k) (by omega)) h, fun post tp bm be bd bp bj bc by_ bk Y h => br_t (nI_le (Nat.le_refl k) (by omega)) h⟩
  | succ d ih =>
    intro k hk
    have hkn : k < n := by omega
    have kk : (nI k).toNatClampNeg = k := sx_cl (by omega)
    have v := sx_v64 (i := k) (by omega)
    have h1 : ¬ nI n ≤ nI k := nI_ge hkn (by omega)
    have h2 : ¬ (64 : Int32) ≤ nI k := nI_ge (a := k) (b := 64) (by omega) (by omega)
    have hu : au (nI k).toNatClampNeg = sm_FU t n n k := by rw [kk]; exact X.2.2.2.2.2.2.2.1 k hkn
    by_cases C : sm_C t k
    · refine ⟨-3, fun post h => br_f h1 (sx_rc hn hkn X (fun _ => br_f (by decide) h) (fun z => absurd C z)), fun post tp bm be bd bp bj bc by_ bk Y h => br_f h1 (br_f h2 ⟨v, br_f ?_ h⟩)⟩
      rw [kk, Y.2.2.2.2.2.2.1 k (by omega), sm_g, if_pos hkn, sm_cv, if_pos C]; decide
    · have hc : ∀ bc : Nat → Int32, (∀ j, j < 64 → bc j = sm_g (sm_cv t) n j) → bc (nI k).toNatClampNeg = 0 := by
        intro bc hb
        rw [kk, hb k (by omega), sm_g, if_pos hkn, sm_cv, if_neg C]
      rcases (sm_BJ2 t hn n (Nat.le_refl n)).1 k with z | ⟨e, a, b, z, _⟩
      · obtain ⟨r, hX, hY⟩ := ih (k + 1) (by omega)
        refine ⟨r, fun post h => br_f h1 (sx_rc hn hkn X (fun c => absurd c C) (fun _ => br_t rfl ⟨v, br_t (hu.trans z) (nm_r (nI_1 k) (hX post h))⟩)), fun post tp bm be bd bp bj bc by_ bk Y h => br_f h1 (br_f h2 ⟨v, br_t (hc bc Y.2.2.2.2.2.2.1) (sy_uE hn hkn Y (br_t (sx_neg z) (nm_r (nI_1 k) (hY post tp bm be bd bp bj bc by_ bk Y h))))⟩)⟩
      · refine ⟨nI e + 1, fun post h => br_f h1 (sx_rc hn hkn X (fun c => absurd c C) (fun _ => br_t rfl ⟨v, br_f (by rw [hu, z]; exact sm_nn (by omega)) ⟨v, by rw [hu, z]; exact h⟩⟩)), fun post tp bm be bd bp bj bc by_ bk Y h => br_f h1 (br_f h2 ⟨v, br_t (hc bc Y.2.2.2.2.2.2.1) (sy_uE hn hkn Y (br_f (by rw [z]; exact nI_pos (by omega)) (by rw [z]; exact h)))⟩)⟩
def sm_ac (t : Nat → Int32) (n q g : Nat) : Prop := sm_J t q ∧ (sm_PA t n q = -1 ∨ ∃ p, p < n ∧ g ≤ p ∧ sm_PA t n q = nI p)
theorem sx_ac {post : Int32 → Prop} {n q g : Nat} (hn : n ≤ 64) (hq : q < n) (hg : g ≤ n) {fs fu fb : Int32} {t am ae ad ai aj ay ap au ab : Nat → Int32} (X : sm_XR t n fs fu am ae ad ai aj ay ap au ab) (hA : sm_ac t n q g → post 1) (hN : ¬ sm_ac t n q g → post 0) : wpX_isOpenAcross post (nI n, fs, fu, fb, t, am, ae, ad, ai, aj, ay, ap, au, ab) (nI q) (nI g) := by
  have k : (nI q).toNatClampNeg = q := sx_cl (by omega)
  have v := sx_v64 (i := q) (by omega)
  have hp : ap (nI q).toNatClampNeg = sm_PA t n q := by rw [k]; exact X.2.2.2.2.2.2.1 q hq
  have hj : aj (nI q).toNatClampNeg = sm_jv t q := by rw [k]; exact X.2.2.2.2.1 q hq
  by_cases J : sm_J t q
  · refine ⟨v, br_f (by rw [hj, sm_jv, if_pos J]; decide) ⟨v, ?_⟩⟩
    rcases sm_PAr t n q with z | ⟨p, hpn, z⟩
    · exact br_t (hp.trans z) (hA ⟨J, Or.inl z⟩)
    · refine br_f (by rw [hp, z]; exact sm_nn (by omega)) ⟨v, ?_⟩
      by_cases y : p < g
      · refine br_t (by rw [hp, z]; exact nI_lt y (by omega)) (hN fun a => ?_)
        rcases a.2 with w | ⟨p', a1, a2, a3⟩
        · exact sm_nn (by omega) (z.symm.trans w)
        · have e := z.symm.trans a3
          rw [nI_eq (by omega) (by omega)] at e
          omega
      · exact br_f (by rw [hp, z]; exact nI_nlt (by omega) (by omega)) (hA ⟨J, Or.inr ⟨p, hpn, by omega, z⟩⟩)
  · exact ⟨v, br_t (by rw [hj, sm_jv, if_neg J]) (hN fun a => J a.1)⟩
theorem sy_ac {post : Int32 → SY → Prop} {n q g d : Nat} (hn : n ≤ 64) (hq : q < n) (hg : g ≤ n) {tp : Int32} {t bm be bd bp bj bc by_ bk : Nat → Int32} (Y : sm_YD t n tp bm be bd bp bj bc by_ bk) (hA : sm_ac t n q g → post (-3) (nI n, tp, t, bm, be, bd, bp, bj, bc, by_, bk)) (hN : ¬ sm_ac t n q g → wY_backward_57 post (wY_backward_22 post (nI g) (nI n) tp t bm be bd bp bj bc by_ bk d) (nI g) (nI q) (nI n) tp t bm be bd bp bj bc by_ bk) : wY_backward_22 post (nI g) (nI n) tp t bm be bd bp bj bc by_ bk (d + 1) (nI q) := by
  have k : (nI q).toNatClampNeg = q := sx_cl (by omega)
  have v := sx_v64 (i := q) (by omega)
  have hp : bp (nI q).toNatClampNeg = sm_PA t n q := by rw [k]; exact Y.2.2.2.2.1 q (by omega)
  have hj : bj (nI q).toNatClampNeg = sm_jv t q := by rw [k, Y.2.2.2.2.2.1 q (by omega), sm_g, if_pos hq]
  have h0 : ¬ nI q < 0 := nI_pos (by omega)
  by_cases J : sm_J t q
  · refine br_f h0 ⟨v, br_f (by rw [hj, sm_jv, if_pos J]; decide) ⟨v, ?_⟩⟩
    rcases sm_PAr t n q with z | ⟨p, hpn, z⟩
    · exact br_t (by rw [hp]; exact sx_neg z) (hA ⟨J, Or.inl z⟩)
    · refine br_f (by rw [hp, z]; exact nI_pos (by omega)) ⟨v, ?_⟩
      by_cases y : p < g
      · refine br_t (by rw [hp, z]; exact nI_lt y (by omega)) (hN fun a => ?_)
        rcases a.2 with w | ⟨p', a1, a2, a3⟩
        · exact sm_nn (by omega) (z.symm.trans w)
        · have e := z.symm.trans a3
          rw [nI_eq (by omega) (by omega)] at e
          omega
      · exact br_f (by rw [hp, z]; exact nI_nlt (by omega) (by omega)) (hA ⟨J, Or.inr ⟨p, hpn, by omega, z⟩⟩)
  · exact br_f h0 ⟨v, br_t (by rw [hj, sm_jv, if_neg J]) (hN fun a => J a.1)⟩
theorem sm_bw {n g : Nat} (hn : n ≤ 64) (hg : g ≤ n) {fs fu fb : Int32} {t am ae ad ai aj ay ap au ab : Nat → Int32} (X : sm_XR t n fs fu am ae ad ai aj ay ap au ab) : ∀ k, k ≤ g → ∃ r : Int32, (∀ post : Int32 → Prop, post r → wX_backward_14 post (nI g) (nI n) fs fu fb t am ae ad ai aj ay ap au ab (k + 1) (nI k + (-1))) ∧ (∀ (post : Int32 → SY → Prop) (tp : Int32) (bm be bd bp bj bc by_ bk : Nat → Int32), sm_YD t n tp bm be bd bp bj bc by_ bk → post r (nI n, tp, t, bm, be, bd, bp, bj, bc, by_, bk) → wY_backward_22 post (nI g) (nI n) tp t bm be bd bp bj bc by_ bk (k + 1) (nI k + (-1))) := by
  intro k
  induction k with
  | zero =>
    intro _
    rw [sx_mm]
    exact ⟨-2, fun post h => br_t (by decide) h, fun post tp bm be bd bp bj bc by_ bk Y h => br_t (by decide) h⟩
  | succ q ih =>
    intro hk
    rw [sx_m1]
    have hqn : q < n := by omega
    have kk : (nI q).toNatClampNeg = q := sx_cl (by omega)
    have v := sx_v64 (i := q) (by omega)
    have h0 : ¬ nI q < 0 := nI_pos (by omega)
    have hb : ab (nI q).toNatClampNeg = sm_FB t n n q := by rw [kk]; exact X.2.2.2.2.2.2.2.2.1 q hqn
    by_cases A : sm_ac t n q g
    · exact ⟨-3, fun post h => br_f h0 (sx_ac hn hqn hg X (fun _ => br_f (by decide) h) (fun z => absurd A z)), fun post tp bm be bd bp bj bc by_ bk Y h => sy_ac hn hqn hg Y (fun _ => h) (fun z => absurd A z)⟩
    · rcases (sm_BJ2 t hn n (Nat.le_refl n)).2 q with z | ⟨i, a, b, z, _⟩
      · obtain ⟨r, hX, hY⟩ := ih (by omega)
        exact ⟨r, fun post h => br_f h0 (sx_ac hn hqn hg X (fun c => absurd c A) (fun _ => br_t rfl ⟨v, br_t (hb.trans z) (nm_e (hX post h))⟩)), fun post tp bm be bd bp bj bc by_ bk Y h => sy_ac hn hqn hg Y (fun c => absurd c A) (fun _ => sy_uS hn hqn Y (br_t (sx_neg z) (nm_e (hY post tp bm be bd bp bj bc by_ bk Y h))))⟩
      · exact ⟨nI i, fun post h => br_f h0 (sx_ac hn hqn hg X (fun c => absurd c A) (fun _ => br_t rfl ⟨v, br_f (by rw [hb, z]; exact sm_nn (by omega)) ⟨v, by rw [hb, z]; exact h⟩⟩)), fun post tp bm be bd bp bj bc by_ bk Y h => sy_ac hn hqn hg Y (fun c => absurd c A) (fun _ => sy_uS hn hqn Y (br_f (by rw [z]; exact nI_pos (by omega)) (by rw [z]; exact h)))⟩
theorem sm_dn {n : Nat} (hn : n ≤ 64) {fs fu fb : Int32} {t am ae ad ai aj ay ap au ab : Nat → Int32} (X : sm_XR t n fs fu am ae ad ai aj ay ap au ab) : ∀ d k f, k + d = n → (f = 0 ∨ f = 1) → ∃ r : Int32, (∀ post : Int32 → Prop, post r → wX_down_14 post (nI n) fs fu fb t am ae ad ai aj ay ap au ab (d + 1) f (nI k)) ∧ (∀ (post : Int32 → SY → Prop) (tp : Int32) (bm be bd bp bj bc by_ bk : Nat → Int32), sm_YD t n tp bm be bd bp bj bc by_ bk → post r (nI n, tp, t, bm, be, bd, bp, bj, bc, by_, bk) → wY_down_22 post (nI n) tp t bm be bd bp bj bc by_ bk (d + 1) f (nI k)) := by
  intro d
  induction d with
  | zero =>
    intro k f hk _
    have : k = n := by omega
    subst this
    exact ⟨-2, fun post h => br_t (nI_le (Nat.le_refl k) (by omega)) h, fun post tp bm be bd bp bj bc by_ bk Y h => br_t (nI_le (Nat.le_refl k) (by omega)) h⟩
  | succ d ih =>
    intro k f hk hf
    have hkn : k < n := by omega
    have kk : (nI k).toNatClampNeg = k := sx_cl (by omega)
    have v := sx_v64 (i := k) (by omega)
    have h1 : ¬ nI n ≤ nI k := nI_ge hkn (by omega)
    have h2 : ¬ (64 : Int32) ≤ nI k := nI_ge (a := k) (b := 64) (by omega) (by omega)
    have hj : aj (nI k).toNatClampNeg = sm_jv t k := by rw [kk]; exact X.2.2.2.2.1 k hkn
    have gj : ∀ bj : Nat → Int32, (∀ j, j < 64 → bj j = sm_g (sm_jv t) n j) → bj (nI k).toNatClampNeg = sm_jv t k := by
      intro bj hb
      rw [kk, hb k (by omega), sm_g, if_pos hkn]
    have gc : ∀ bc : Nat → Int32, (∀ j, j < 64 → bc j = sm_g (sm_cv t) n j) → bc (nI k).toNatClampNeg = sm_cv t k := by
      intro bc hb
      rw [kk, hb k (by omega), sm_g, if_pos hkn]
    by_cases J : sm_J t k
    · have j1 : ¬ sm_jv t k = 0 := by rw [sm_jv, if_pos J]; decide
      by_cases f0 : f = 0
      · exact ⟨nI k + 1, fun post h => br_f h1 ⟨v, br_f (by rw [hj]; exact j1) (br_t f0 h)⟩, fun post tp bm be bd bp bj bc by_ bk Y h => br_f h1 (br_f h2 ⟨v, br_f (by rw [gj bj Y.2.2.2.2.2.1]; exact j1) (br_t f0 h)⟩)⟩
      · exact ⟨-3, fun post h => br_f h1 ⟨v, br_f (by rw [hj]; exact j1) (br_f f0 h)⟩, fun post tp bm be bd bp bj bc by_ bk Y h => br_f h1 (br_f h2 ⟨v, br_f (by rw [gj bj Y.2.2.2.2.2.1]; exact j1) (br_f f0 h)⟩)⟩
    · have j0 : sm_jv t k = 0 := by rw [sm_jv, if_neg J]
      by_cases C : sm_C t k
      · have c1 : ¬ sm_cv t k = 0 := by rw [sm_cv, if_pos C]; decide
        obtain ⟨r, hX, hY⟩ := ih (k + 1) 1 (by omega) (Or.inr rfl)
        refine ⟨r, fun post h => br_f h1 ⟨v, br_t (hj.trans j0) (br_c (fun _ => sx_rc hn hkn X (fun _ => br_f (by decide) (nm_r (nI_1 k) (hX post h))) (fun z => absurd C z)) (fun _ => nm_r (nI_1 k) (hX post h)))⟩, fun post tp bm be bd bp bj bc by_ bk Y h => br_f h1 (br_f h2 ⟨v, br_t ((gj bj Y.2.2.2.2.2.1).trans j0) ⟨v, br_f (by rw [gc bc Y.2.2.2.2.2.2.1]; exact c1) (nm_r (nI_1 k) (hY post tp bm be bd bp bj bc by_ bk Y h))⟩⟩)⟩
      · have c0 : sm_cv t k = 0 := by rw [sm_cv, if_neg C]
        obtain ⟨r, hX, hY⟩ := ih (k + 1) f (by omega) hf
        refine ⟨r, fun post h => br_f h1 ⟨v, br_t (hj.trans j0) (br_c (fun f0 => sx_rc hn hkn X (fun z => absurd z C) (fun _ => br_t rfl (nm_r (nI_1 k) (by rw [← f0]; exact hX post h)))) (fun f0 => nm_r (nI_1 k) ?_))⟩, fun post tp bm be bd bp bj bc by_ bk Y h => br_f h1 (br_f h2 ⟨v, br_t ((gj bj Y.2.2.2.2.2.1).trans j0) ⟨v, br_t ((gc bc Y.2.2.2.2.2.2.1).trans c0) (nm_r (nI_1 k) (hY post tp bm be bd bp bj bc by_ bk Y h))⟩⟩)⟩
        have f1 : f = 1 := hf.resolve_left f0
        rw [← f1]; exact hX post h
theorem sy_st {post : Int32 → SY → Prop} {n : Nat} (hn : n ≤ 64) {tp : Int32} {t bm be bd bp bj bc by_ bk : Nat → Int32} (Y : sm_YD t n tp bm be bd bp bj bc by_ bk) (h : post (nI (sm_SC t n)) (nI n, tp, t, bm, be, bd, bp, bj, bc, by_, bk)) : ∀ d k, k + d = 64 → wY_strays_12 post (nI n) tp t bm be bd bp bj bc by_ bk (d + 1) (nI (sm_SC t (min k n))) (nI k) := by
  intro d
  induction d with
  | zero =>
    intro k hk
    have : k = 64 := by omega
    subst this
    refine br_t (nI_le (a := 64) (b := 64) (by omega) (by omega)) ?_
    rw [show min 64 n = n by omega]; exact h
  | succ d ih =>
    intro k hk
    have kk : (nI k).toNatClampNeg = k := sx_cl (by omega)
    have hy : by_ (nI k).toNatClampNeg = sm_g (sm_yv t) n k := by rw [kk]; exact Y.2.2.2.2.2.2.2.1 k (by omega)
    have nx := ih (k + 1) (by omega)
    refine br_f (nI_ge (a := k) (b := 64) (by omega) (by omega)) ⟨sx_v64 (by omega), ?_⟩
    by_cases q : k < n
    · rw [show min (k + 1) n = k + 1 by omega] at nx
      rw [show min k n = k by omega]
      by_cases s : sm_C t k ∧ sm_T t k = 0
      · rw [sm_SC, if_pos s] at nx
        exact br_f (by rw [hy, sm_g, if_pos q, sm_yv, if_pos s]; decide) (nm_r (nI_1 _) (nm_r (nI_1 k) nx))
      · rw [sm_SC, if_neg s] at nx
        exact br_t (by rw [hy, sm_g, if_pos q, sm_yv, if_neg s]) (nm_r (nI_1 k) nx)
    · rw [show min (k + 1) n = n by omega] at nx
      rw [show min k n = n by omega]
      exact br_t (by rw [hy, sm_g, if_neg q]) (nm_r (nI_1 k) nx)
theorem sy_un {post : Int32 → SY → Prop} {n : Nat} (hn : n ≤ 64) {tp : Int32} {t bm be bd bp bj bc by_ bk : Nat → Int32} (Y : sm_YD t n tp bm be bd bp bj bc by_ bk) (h : post (nI (sm_cn (sm_FU t n n) n)) (nI n, tp, t, bm, be, bd, bp, bj, bc, by_, bk)) : ∀ d k, k + d = n → wY_units_12 post (nI n) tp t bm be bd bp bj bc by_ bk (d + 1) (nI (sm_cn (sm_FU t n n) k)) (nI k) := by
  intro d
  induction d with
  | zero =>
    intro k hk
    have : k = n := by omega
    subst this
    exact br_t (nI_le (Nat.le_refl k) (by omega)) h
  | succ d ih =>
    intro k hk
    have nx := ih (k + 1) (by omega)
    refine br_f (nI_ge (by omega) (by omega)) (br_f (nI_ge (a := k) (b := 64) (by omega) (by omega)) (sy_uE hn (by omega) Y ?_))
    rcases (sm_BJ2 t hn n (Nat.le_refl n)).1 k with z | ⟨e, a, b, z, _⟩
    · rw [sm_cn, if_pos z] at nx
      exact br_t (sx_neg z) (nm_r (nI_1 k) nx)
    · rw [sm_cn, if_neg (by rw [z]; exact sm_nn (by omega))] at nx
      exact br_f (by rw [z]; exact nI_pos (by omega)) (nm_r (nI_1 _) (nm_r (nI_1 k) nx))
end
section
/-! 11: the edits on both sides. Written by wip/whole/gen11.py -/
def sm_bk0 (v : Int32) : Prop := v < 0 ∨ (¬ v < 0 ∧ 7 < v)
theorem sx_k1 {post : Int32 → Prop} {n : Nat} {v : Int32} (hb : ¬ sm_bk0 v) {fs fu fb : Int32} {t am ae ad ai aj ay ap au ab : Nat → Int32} (h : post 1) : wpX_isKind post (nI n, fs, fu, fb, t, am, ae, ad, ai, aj, ay, ap, au, ab) v :=
  br_f (fun z => hb (Or.inl z)) (br_f (fun z => hb (Or.inr ⟨fun y => hb (Or.inl y), z⟩)) h)
theorem sx_k0 {post : Int32 → Prop} {n : Nat} {v : Int32} (hb : sm_bk0 v) {fs fu fb : Int32} {t am ae ad ai aj ay ap au ab : Nat → Int32} (h : post 0) : wpX_isKind post (nI n, fs, fu, fb, t, am, ae, ad, ai, aj, ay, ap, au, ab) v := by
  rcases hb with z | ⟨z, y⟩
  · exact br_t z h
  · exact br_f z (br_t y h)
theorem sx_ins0 {post : Int32 → SX → Prop} {n : Nat} {v w : Int32} (hb : sm_bg0 n v) {fs fu fb : Int32} {t am ae ad ai aj ay ap au ab : Nat → Int32} (h : post (-1) (nI n, fs, fu, fb, t, am, ae, ad, ai, aj, ay, ap, au, ab)) : wpX_insert post (nI n, fs, fu, fb, t, am, ae, ad, ai, aj, ay, ap, au, ab) v w := by
  unfold wpX_insert
  exact sx_g0 hb (br_t rfl h)
theorem sx_ins2 {post : Int32 → SX → Prop} {n g : Nat} {w : Int32} (hn : n ≤ 64) (hg : g ≤ n) (hb : sm_bk0 w) {fs fu fb : Int32} {t am ae ad ai aj ay ap au ab : Nat → Int32} (h : post (-2) (nI n, fs, fu, fb, t, am, ae, ad, ai, aj, ay, ap, au, ab)) : wpX_insert post (nI n, fs, fu, fb, t, am, ae, ad, ai, aj, ay, ap, au, ab) (nI g) w := by
  unfold wpX_insert
  exact sx_g1 hn hg (br_f (by decide) (sx_k0 hb (br_t rfl h)))
theorem sx_ins3 {post : Int32 → SX → Prop} {n g : Nat} {w : Int32} (hn : n ≤ 64) (hg : g ≤ n) (hb : ¬ sm_bk0 w) (h64 : n = 64) {fs fu fb : Int32} {t am ae ad ai aj ay ap au ab : Nat → Int32} (h : post (-3) (nI n, fs, fu, fb, t, am, ae, ad, ai, aj, ay, ap, au, ab)) : wpX_insert post (nI n, fs, fu, fb, t, am, ae, ad, ai, aj, ay, ap, au, ab) (nI g) w := by
  unfold wpX_insert
  exact sx_g1 hn hg (br_f (by decide) (sx_k1 hb (br_f (by decide) (br_f (by rw [h64]; decide) h))))
theorem sy_ins0 {post : Int32 → SY → Prop} {n : Nat} {v w : Int32} (hb : sm_bg0 n v) {tp : Int32} {t bm be bd bp bj bc by_ bk : Nat → Int32} (h : post (-1) (nI n, tp, t, bm, be, bd, bp, bj, bc, by_, bk)) : wpY_insert post (nI n, tp, t, bm, be, bd, bp, bj, bc, by_, bk) v w := by
  unfold wpY_insert
  exact sy_g0 hb (br_f (by decide) h)
theorem sy_ins2 {post : Int32 → SY → Prop} {n g : Nat} {w : Int32} (hn : n ≤ 64) (hg : g ≤ n) (hb : sm_bk0 w) {tp : Int32} {t bm be bd bp bj bc by_ bk : Nat → Int32} (h : post (-2) (nI n, tp, t, bm, be, bd, bp, bj, bc, by_, bk)) : wpY_insert post (nI n, tp, t, bm, be, bd, bp, bj, bc, by_, bk) (nI g) w := by
  unfold wpY_insert
  refine sy_g1 hn hg (br_t rfl ?_)
  rcases hb with z | ⟨z, y⟩
  · exact br_t z h
  · exact br_f z (br_f (Int32.not_le.mpr y) h)
theorem sm_k7 {w : Int32} (hb : ¬ sm_bk0 w) : ¬ w < 0 ∧ w ≤ 7 :=
  ⟨fun z => hb (Or.inl z), Int32.not_lt.mp fun z => hb (Or.inr ⟨fun y => hb (Or.inl y), z⟩)⟩
theorem sy_ins3 {post : Int32 → SY → Prop} {n g : Nat} {w : Int32} (hn : n ≤ 64) (hg : g ≤ n) (hb : ¬ sm_bk0 w) (h64 : n = 64) {tp : Int32} {t bm be bd bp bj bc by_ bk : Nat → Int32} (h : post (-3) (nI n, tp, t, bm, be, bd, bp, bj, bc, by_, bk)) : wpY_insert post (nI n, tp, t, bm, be, bd, bp, bj, bc, by_, bk) (nI g) w := by
  unfold wpY_insert
  exact sy_g1 hn hg (br_t rfl (br_f (sm_k7 hb).1 (br_t (sm_k7 hb).2 (br_f (by rw [h64]; decide) h))))
/-- both sides move the same characters -/
theorem sm_ins {n g : Nat} (hn : n < 64) (hg : g ≤ n) (w : Int32) : ∀ (e : Nat) (t : Nat → Int32), g + e ≤ n → ∃ t' : Nat → Int32,
    (∀ (post : Int32 → SX → Prop) (fs fu fb : Int32) (am ae ad ai aj ay ap au ab : Nat → Int32) (h : ∀ (fs fu fb : Int32) (am ae ad ai aj ay ap au ab : Nat → Int32), sm_XR (upd t' g w) (n + 1) fs fu am ae ad ai aj ay ap au ab → post (nI (n + 1)) (nI (n + 1), fs, fu, fb, upd t' g w, am, ae, ad, ai, aj, ay, ap, au, ab)), wX_insert_38 post (nI g) w (nI n) fs fu fb (e + 1) (nI (g + e)) t am ae ad ai aj ay ap au ab) ∧
    (∀ (post : Int32 → SY → Prop) (tp : Int32) (bm be bd bp bj bc by_ bk : Nat → Int32) (h : post (nI (n + 1)) (nI (n + 1), tp, upd t' g w, bm, be, bd, bp, bj, bc, by_, bk)), wY_insert_40 post (nI g) w (nI n) tp (e + 1) (nI (g + e)) t bm be bd bp bj bc by_ bk) := by
  have kg : (nI g).toNatClampNeg = g := sx_cl (by omega)
  intro e
  induction e with
  | zero =>
    intro t he
    refine ⟨t, fun post fs fu fb am ae ad ai aj ay ap au ab h => br_t (nI_le (Nat.le_refl g) (by omega)) ⟨sx_v64 (by omega), nm_r (e' := upd t g w) (by rw [kg]) (nm_r (nI_1 n) ?_)⟩, fun post tp bm be bd bp bj bc by_ bk h => br_t (nI_le (Nat.le_refl g) (by omega)) ⟨sx_v64 (by omega), nm_r (e' := upd t g w) (by rw [kg]) (nm_r (nI_1 n) h)⟩⟩
    exact sx_read (n := n + 1) (by omega) rfl h
  | succ e ih =>
    intro t he
    obtain ⟨t', hX, hY⟩ := ih (upd t (g + e + 1) (t (g + e))) (by omega)
    have k1 : (nI (g + e + 1)).toNatClampNeg = g + e + 1 := sx_cl (by omega)
    have k0 : (nI (g + e)).toNatClampNeg = g + e := sx_cl (by omega)
    have p1 : nI (g + e + 1) - 1 = nI (g + e) := nI_pred _
    refine ⟨t', fun post fs fu fb am ae ad ai aj ay ap au ab h => ?_, fun post tp bm be bd bp bj bc by_ bk h => ?_⟩
    · exact br_f (nI_ge (a := g) (b := g + e + 1) (by omega) (by omega)) ⟨by show vp_in (nI (g + e + 1) - 1) 64; rw [p1]; exact sx_v64 (by omega), sx_v64 (i := g + e + 1) (by omega), nm_r (e' := upd t (g + e + 1) (t (g + e))) (by show upd t (nI (g + e + 1)).toNatClampNeg (t (nI (g + e + 1) - 1).toNatClampNeg) = _; rw [k1, p1, k0]) (nm_r (sx_m1 (g + e)) (hX post fs fu fb am ae ad ai aj ay ap au ab h))⟩
    · exact br_f (nI_ge (a := g) (b := g + e + 1) (by omega) (by omega)) ⟨by show vp_in (nI (g + e + 1) - 1) 64; rw [p1]; exact sx_v64 (by omega), sx_v64 (i := g + e + 1) (by omega), nm_r (e' := upd t (g + e + 1) (t (g + e))) (by show upd t (nI (g + e + 1)).toNatClampNeg (t (nI (g + e + 1) - 1).toNatClampNeg) = _; rw [k1, p1, k0]) (nm_r (sx_m1 (g + e)) (hY post tp bm be bd bp bj bc by_ bk h))⟩
theorem sx_ins1 {post : Int32 → SX → Prop} {n g : Nat} {w : Int32} (hn : n < 64) (hg : g ≤ n) (hb : ¬ sm_bk0 w) {fs fu fb : Int32} {t am ae ad ai aj ay ap au ab : Nat → Int32} (d : Nat) (h : wX_insert_38 post (nI g) w (nI n) fs fu fb d (nI n) t am ae ad ai aj ay ap au ab) : wpX_insert post (nI n, fs, fu, fb, t, am, ae, ad, ai, aj, ay, ap, au, ab) (nI g) w := by
  unfold wpX_insert
  exact sx_g1 (by omega) hg (br_f (by decide) (sx_k1 hb (br_f (by decide) (br_t (nI_lt (a := n) (b := 64) hn (by omega)) ⟨d, h⟩))))
theorem sy_ins1 {post : Int32 → SY → Prop} {n g : Nat} {w : Int32} (hn : n < 64) (hg : g ≤ n) (hb : ¬ sm_bk0 w) {tp : Int32} {t bm be bd bp bj bc by_ bk : Nat → Int32} (d : Nat) (h : wY_insert_40 post (nI g) w (nI n) tp d (nI n) t bm be bd bp bj bc by_ bk) : wpY_insert post (nI n, tp, t, bm, be, bd, bp, bj, bc, by_, bk) (nI g) w := by
  unfold wpY_insert
  exact sy_g1 (by omega) hg (br_t rfl (br_f (sm_k7 hb).1 (br_t (sm_k7 hb).2 (br_t (nI_lt (a := n) (b := 64) hn (by omega)) ⟨d, h⟩))))
theorem sx_set0 {post : Int32 → SX → Prop} {n : Nat} {v w : Int32} (hb : sm_bp0 n v) {fs fu fb : Int32} {t am ae ad ai aj ay ap au ab : Nat → Int32} (h : post (-1) (nI n, fs, fu, fb, t, am, ae, ad, ai, aj, ay, ap, au, ab)) : wpX_set post (nI n, fs, fu, fb, t, am, ae, ad, ai, aj, ay, ap, au, ab) v w := by
  unfold wpX_set
  exact sx_p0 hb (br_t rfl h)
theorem sx_set2 {post : Int32 → SX → Prop} {n g : Nat} {w : Int32} (hn : n ≤ 64) (hg : g < n) (hb : sm_bk0 w) {fs fu fb : Int32} {t am ae ad ai aj ay ap au ab : Nat → Int32} (h : post (-2) (nI n, fs, fu, fb, t, am, ae, ad, ai, aj, ay, ap, au, ab)) : wpX_set post (nI n, fs, fu, fb, t, am, ae, ad, ai, aj, ay, ap, au, ab) (nI g) w := by
  unfold wpX_set
  exact sx_p1 hn hg (br_f (by decide) (sx_k0 hb (br_t rfl h)))
theorem sx_set1 {post : Int32 → SX → Prop} {n g : Nat} {w : Int32} (hn : n ≤ 64) (hg : g < n) (hb : ¬ sm_bk0 w) {fs fu fb : Int32} {t am ae ad ai aj ay ap au ab : Nat → Int32} (h : ∀ (fs fu fb : Int32) (am ae ad ai aj ay ap au ab : Nat → Int32), sm_XR (upd t g w) n fs fu am ae ad ai aj ay ap au ab → post (t g) (nI n, fs, fu, fb, upd t g w, am, ae, ad, ai, aj, ay, ap, au, ab)) : wpX_set post (nI n, fs, fu, fb, t, am, ae, ad, ai, aj, ay, ap, au, ab) (nI g) w := by
  have k : (nI g).toNatClampNeg = g := sx_cl (by omega)
  unfold wpX_set
  refine sx_p1 hn hg (br_f (by decide) (sx_k1 hb (br_f (by decide) ⟨sx_v64 (by omega), nm_r (e' := t g) (by rw [k]) ⟨sx_v64 (by omega), nm_r (e' := upd t g w) (by rw [k]) ?_⟩⟩)))
  exact sx_read hn rfl h
theorem sy_set0 {post : Int32 → SY → Prop} {n : Nat} {v w : Int32} (hb : sm_bp0 n v) {tp : Int32} {t bm be bd bp bj bc by_ bk : Nat → Int32} (h : post (-1) (nI n, tp, t, bm, be, bd, bp, bj, bc, by_, bk)) : wpY_set post (nI n, tp, t, bm, be, bd, bp, bj, bc, by_, bk) v w := by
  unfold wpY_set
  exact sy_p0 hb (br_f (by decide) h)
theorem sy_set2 {post : Int32 → SY → Prop} {n g : Nat} {w : Int32} (hn : n ≤ 64) (hg : g < n) (hb : sm_bk0 w) {tp : Int32} {t bm be bd bp bj bc by_ bk : Nat → Int32} (h : post (-2) (nI n, tp, t, bm, be, bd, bp, bj, bc, by_, bk)) : wpY_set post (nI n, tp, t, bm, be, bd, bp, bj, bc, by_, bk) (nI g) w := by
  unfold wpY_set
  refine sy_p1 hn hg (br_t rfl ?_)
  rcases hb with z | ⟨z, y⟩
  · exact br_t z h
  · exact br_f z (br_f (Int32.not_le.mpr y) h)
theorem sy_set1 {post : Int32 → SY → Prop} {n g : Nat} {w : Int32} (hn : n ≤ 64) (hg : g < n) (hb : ¬ sm_bk0 w) {tp : Int32} {t bm be bd bp bj bc by_ bk : Nat → Int32} (h : post (t g) (nI n, tp, upd t g w, bm, be, bd, bp, bj, bc, by_, bk)) : wpY_set post (nI n, tp, t, bm, be, bd, bp, bj, bc, by_, bk) (nI g) w := by
  have k : (nI g).toNatClampNeg = g := sx_cl (by omega)
  unfold wpY_set
  exact sy_p1 hn hg (br_t rfl (br_f (sm_k7 hb).1 (br_t (sm_k7 hb).2 ⟨sx_v64 (by omega), nm_r (e' := t g) (by rw [k]) ⟨sx_v64 (by omega), nm_r (e' := upd t g w) (by rw [k]) h⟩⟩)))
theorem sx_sub {a b : Nat} (h : b ≤ a) : nI a - nI b = nI (a - b) := by
  obtain ⟨c, rfl⟩ : ∃ c, a = c + b := ⟨a - b, by omega⟩
  rw [← nI_add, Int32.add_sub_cancel, Nat.add_sub_cancel]
theorem sm_del {n r : Nat} (hn : n ≤ 64) (hr : r ≤ n) : ∀ (e a : Nat) (t : Nat → Int32), a + r + e = n → ∃ t' : Nat → Int32,
    (∀ (post : Int32 → SX → Prop) (fs fu fb : Int32) (am ae ad ai aj ay ap au ab : Nat → Int32) (h : ∀ (fs fu fb : Int32) (am ae ad ai aj ay ap au ab : Nat → Int32), sm_XR (t') (n - r) fs fu am ae ad ai aj ay ap au ab → post (nI (n - r)) (nI (n - r), fs, fu, fb, t', am, ae, ad, ai, aj, ay, ap, au, ab)), wX_delete_26 post (nI r) (nI n) fs fu fb (e + 1) (nI (a + r)) t am ae ad ai aj ay ap au ab) ∧
    (∀ (post : Int32 → SY → Prop) (tp : Int32) (bm be bd bp bj bc by_ bk : Nat → Int32) (h : post (nI (n - r)) (nI (n - r), tp, t', bm, be, bd, bp, bj, bc, by_, bk)), wY_delete_26 post (nI r) (nI n) tp (e + 1) (nI a) t bm be bd bp bj bc by_ bk) := by
  intro e
  induction e with
  | zero =>
    intro a t ha
    have q : a + r = n := by omega
    refine ⟨t, fun post fs fu fb am ae ad ai aj ay ap au ab h => br_t (by rw [q]; exact nI_le (Nat.le_refl n) (by omega)) (nm_r (sx_sub hr) ?_), fun post tp bm be bd bp bj bc by_ bk h => br_t (by rw [nI_add, q]; exact nI_le (Nat.le_refl n) (by omega)) (nm_r (sx_sub hr) h)⟩
    exact sx_read (n := n - r) (by omega) rfl h
  | succ e ih =>
    intro a t ha
    obtain ⟨t', hX, hY⟩ := ih (a + 1) (upd t a (t (a + r))) (by omega)
    have ka : (nI a).toNatClampNeg = a := sx_cl (by omega)
    have k1 : (nI (a + r)).toNatClampNeg = a + r := sx_cl (by omega)
    have p1 : nI (a + r) - nI r = nI a := by rw [sx_sub (by omega), Nat.add_sub_cancel]
    rw [show a + 1 + r = a + r + 1 by omega] at hX
    refine ⟨t', fun post fs fu fb am ae ad ai aj ay ap au ab h => ?_, fun post tp bm be bd bp bj bc by_ bk h => ?_⟩
    · exact br_f (nI_ge (by omega) (by omega)) ⟨sx_v64 (by omega), by rw [p1]; exact sx_v64 (by omega), nm_r (e' := upd t a (t (a + r))) (by rw [p1, ka, k1]) (nm_r (nI_1 (a + r)) (hX post fs fu fb am ae ad ai aj ay ap au ab h))⟩
    · exact br_f (by rw [nI_add]; exact nI_ge (by omega) (by omega)) (br_f (by rw [nI_add]; exact nI_ge (a := a + r) (b := 64) (by omega) (by omega)) ⟨by rw [nI_add]; exact sx_v64 (by omega), sx_v64 (by omega), nm_r (e' := upd t a (t (a + r))) (by rw [nI_add, ka, k1]) (nm_r (nI_1 a) (hY post tp bm be bd bp bj bc by_ bk h))⟩)
end
section
/-! 12: each method on both sides, from the relation taken apart. Written by wip/whole/gen12.py -/
theorem sm_rel {k n : Nat} (hn : n ≤ 64) {fs fu fb : Int32} {t am ae ad ai aj ay ap au ab : Nat → Int32} {tp : Int32} {bm be bd bp bj bc by_ bk : Nat → Int32} (X : sm_XR t n fs fu am ae ad ai aj ay ap au ab) : i_Rel k (nI n, fs, fu, fb, t, am, ae, ad, ai, aj, ay, ap, au, ab) (nI n, tp, t, bm, be, bd, bp, bj, bc, by_, bk) := ⟨rfl, rfl, n, hn, rfl, X⟩
theorem sm_upv {t : Nat → Int32} {g : Nat} (hg : g ≤ 64) : (if sm_T t g = 0 then (-2 : Int32) else nI (sm_o t g)) = if sm_I t g = -1 then -2 else sm_I t g := by
  unfold sm_I
  by_cases z : sm_T t g = 0
  · rw [if_pos z, if_pos z, if_pos rfl]
  · have o := (sm_oJ z).1
    rw [if_neg z, if_neg z, if_neg (sm_nn (by omega))]
theorem sx_length {post : Int32 → Prop} {n : Nat} {fs fu fb : Int32} {t am ae ad ai aj ay ap au ab : Nat → Int32} (h : post (nI n)) : wpX_length post (nI n, fs, fu, fb, t, am, ae, ad, ai, aj, ay, ap, au, ab) := h
theorem sy_length {post : Int32 → Prop} {n : Nat} {tp : Int32} {t bm be bd bp bj bc by_ bk : Nat → Int32} (h : post (nI n)) : wpY_length post (nI n, tp, t, bm, be, bd, bp, bj, bc, by_, bk) := h
theorem sx_strays {post : Int32 → Prop} {n : Nat} {fs fu fb : Int32} {t am ae ad ai aj ay ap au ab : Nat → Int32} (h : post fs) : wpX_strays post (nI n, fs, fu, fb, t, am, ae, ad, ai, aj, ay, ap, au, ab) := h
theorem sx_units {post : Int32 → Prop} {n : Nat} {fs fu fb : Int32} {t am ae ad ai aj ay ap au ab : Nat → Int32} (h : post fu) : wpX_units post (nI n, fs, fu, fb, t, am, ae, ad, ai, aj, ay, ap, au, ab) := h
theorem sy_strays {post : Int32 → SY → Prop} {n : Nat} (hn : n ≤ 64) {tp : Int32} {t bm be bd bp bj bc by_ bk : Nat → Int32} (h : ∀ (tp : Int32) (bm be bd bp bj bc by_ bk : Nat → Int32), post (nI (sm_SC t n)) (nI n, tp, t, bm, be, bd, bp, bj, bc, by_, bk)) : wpY_strays post (nI n, tp, t, bm, be, bd, bp, bj, bc, by_, bk) := by
  unfold wpY_strays
  refine sy_read hn ?_
  intro tp bm be bd bp bj bc by_ bk Y
  have z := sy_st hn Y (h tp bm be bd bp bj bc by_ bk) 64 0 rfl
  rw [show min 0 n = 0 by omega] at z
  exact ⟨65, z⟩
theorem sy_units {post : Int32 → SY → Prop} {n : Nat} (hn : n ≤ 64) {tp : Int32} {t bm be bd bp bj bc by_ bk : Nat → Int32} (h : ∀ (tp : Int32) (bm be bd bp bj bc by_ bk : Nat → Int32), post (nI (sm_cn (sm_FU t n n) n)) (nI n, tp, t, bm, be, bd, bp, bj, bc, by_, bk)) : wpY_units post (nI n, tp, t, bm, be, bd, bp, bj, bc, by_, bk) := by
  unfold wpY_units
  refine sy_read hn ?_
  intro tp bm be bd bp bj bc by_ bk Y
  have z := sy_un hn Y (h tp bm be bd bp bj bc by_ bk) n 0 (by omega)
  exact ⟨n + 1, z⟩
theorem sx_forward1 {post : Int32 → Prop} {n g : Nat} (hn : n ≤ 64) (hg : g ≤ n) {fs fu fb : Int32} {t am ae ad ai aj ay ap au ab : Nat → Int32} (d : Nat) (h : wX_forward_12 post (nI n) fs fu fb t am ae ad ai aj ay ap au ab d (nI g)) : wpX_forward post (nI n, fs, fu, fb, t, am, ae, ad, ai, aj, ay, ap, au, ab) (nI g) := by
  unfold wpX_forward
  exact sx_g1 hn hg (br_f (by decide) ⟨d, h⟩)
theorem sy_forward1 {post : Int32 → SY → Prop} {n g : Nat} (hn : n ≤ 64) (hg : g ≤ n) {tp : Int32} {t bm be bd bp bj bc by_ bk : Nat → Int32} (d : Nat) (h : ∀ (tp : Int32) (bm be bd bp bj bc by_ bk : Nat → Int32), sm_YD t n tp bm be bd bp bj bc by_ bk → wY_forward_20 post (nI n) tp t bm be bd bp bj bc by_ bk d (nI g)) : wpY_forward post (nI n, tp, t, bm, be, bd, bp, bj, bc, by_, bk) (nI g) := by
  unfold wpY_forward
  refine sy_g1 hn hg (br_t rfl (sy_read hn ?_))
  intro tp bm be bd bp bj bc by_ bk Y
  exact ⟨d, h _ _ _ _ _ _ _ _ _ Y⟩
theorem sx_backward1 {post : Int32 → Prop} {n g : Nat} (hn : n ≤ 64) (hg : g ≤ n) {fs fu fb : Int32} {t am ae ad ai aj ay ap au ab : Nat → Int32} (d : Nat) (h : wX_backward_14 post (nI g) (nI n) fs fu fb t am ae ad ai aj ay ap au ab d (nI g + (-1))) : wpX_backward post (nI n, fs, fu, fb, t, am, ae, ad, ai, aj, ay, ap, au, ab) (nI g) := by
  unfold wpX_backward
  exact sx_g1 hn hg (br_f (by decide) (nm_r (sx_s1 _) ⟨d, h⟩))
theorem sy_backward1 {post : Int32 → SY → Prop} {n g : Nat} (hn : n ≤ 64) (hg : g ≤ n) {tp : Int32} {t bm be bd bp bj bc by_ bk : Nat → Int32} (d : Nat) (h : ∀ (tp : Int32) (bm be bd bp bj bc by_ bk : Nat → Int32), sm_YD t n tp bm be bd bp bj bc by_ bk → wY_backward_22 post (nI g) (nI n) tp t bm be bd bp bj bc by_ bk d (nI g + (-1))) : wpY_backward post (nI n, tp, t, bm, be, bd, bp, bj, bc, by_, bk) (nI g) := by
  unfold wpY_backward
  refine sy_g1 hn hg (br_t rfl (sy_read hn ?_))
  intro tp bm be bd bp bj bc by_ bk Y
  exact nm_r (sx_s1 _) ⟨d, h _ _ _ _ _ _ _ _ _ Y⟩
theorem sx_down1 {post : Int32 → Prop} {n g : Nat} (hn : n ≤ 64) (hg : g ≤ n) {fs fu fb : Int32} {t am ae ad ai aj ay ap au ab : Nat → Int32} (d : Nat) (h : wX_down_14 post (nI n) fs fu fb t am ae ad ai aj ay ap au ab d 0 (nI g)) : wpX_down post (nI n, fs, fu, fb, t, am, ae, ad, ai, aj, ay, ap, au, ab) (nI g) := by
  unfold wpX_down
  exact sx_g1 hn hg (br_f (by decide) ⟨d, h⟩)
theorem sy_down1 {post : Int32 → SY → Prop} {n g : Nat} (hn : n ≤ 64) (hg : g ≤ n) {tp : Int32} {t bm be bd bp bj bc by_ bk : Nat → Int32} (d : Nat) (h : ∀ (tp : Int32) (bm be bd bp bj bc by_ bk : Nat → Int32), sm_YD t n tp bm be bd bp bj bc by_ bk → wY_down_22 post (nI n) tp t bm be bd bp bj bc by_ bk d 0 (nI g)) : wpY_down post (nI n, tp, t, bm, be, bd, bp, bj, bc, by_, bk) (nI g) := by
  unfold wpY_down
  refine sy_g1 hn hg (br_t rfl (sy_read hn ?_))
  intro tp bm be bd bp bj bc by_ bk Y
  exact ⟨d, h _ _ _ _ _ _ _ _ _ Y⟩
theorem sq_length {k n : Nat} (hn : n ≤ 64) {fs fu fb : Int32} {t am ae ad ai aj ay ap au ab : Nat → Int32} {tp : Int32} {bm be bd bp bj bc by_ bk : Nat → Int32} (X : sm_XR t n fs fu am ae ad ai aj ay ap au ab) : wpX_length (fun r => wpY_length (fun r' => r' = r ∧ i_Rel (k + 3) (nI n, fs, fu, fb, t, am, ae, ad, ai, aj, ay, ap, au, ab) (nI n, tp, t, bm, be, bd, bp, bj, bc, by_, bk)) (nI n, tp, t, bm, be, bd, bp, bj, bc, by_, bk) ) (nI n, fs, fu, fb, t, am, ae, ad, ai, aj, ay, ap, au, ab)  := by
  exact sx_length (sy_length ⟨rfl, sm_rel hn X⟩)
theorem sq_kindAt {k n : Nat} (hn : n ≤ 64) {fs fu fb : Int32} {t am ae ad ai aj ay ap au ab : Nat → Int32} {tp : Int32} {bm be bd bp bj bc by_ bk : Nat → Int32} (X : sm_XR t n fs fu am ae ad ai aj ay ap au ab) (v1 : Int32) : wpX_kindAt (fun r => wpY_kindAt (fun r' => r' = r ∧ i_Rel (k + 3) (nI n, fs, fu, fb, t, am, ae, ad, ai, aj, ay, ap, au, ab) (nI n, tp, t, bm, be, bd, bp, bj, bc, by_, bk)) (nI n, tp, t, bm, be, bd, bp, bj, bc, by_, bk) v1) (nI n, fs, fu, fb, t, am, ae, ad, ai, aj, ay, ap, au, ab) v1 := by
  rcases sm_pc v1 hn with ⟨g, hg, rfl⟩ | hb
  · exact sx_kindAt1 hn hg (sy_kindAt1 hn hg ⟨rfl, sm_rel hn X⟩)
  · exact sx_kindAt0 hb (sy_kindAt0 hb ⟨rfl, sm_rel hn X⟩)
theorem sq_mode {k n : Nat} (hn : n ≤ 64) {fs fu fb : Int32} {t am ae ad ai aj ay ap au ab : Nat → Int32} {tp : Int32} {bm be bd bp bj bc by_ bk : Nat → Int32} (X : sm_XR t n fs fu am ae ad ai aj ay ap au ab) (v1 : Int32) : wpX_mode (fun r => wpY_mode (fun r' v' => r' = r ∧ i_Rel (k + 3) (nI n, fs, fu, fb, t, am, ae, ad, ai, aj, ay, ap, au, ab) v') (nI n, tp, t, bm, be, bd, bp, bj, bc, by_, bk) v1) (nI n, fs, fu, fb, t, am, ae, ad, ai, aj, ay, ap, au, ab) v1 := by
  rcases sm_gc v1 hn with ⟨g, hg, rfl⟩ | hb
  · exact sx_mode1 hn hg (sy_mode1 hn hg (fun _ _ _ _ _ _ _ _ _ => ⟨(X.1 g hg).symm, sm_rel hn X⟩))
  · exact sx_mode0 hb (sy_mode0 hb ⟨rfl, sm_rel hn X⟩)
theorem sq_escaped {k n : Nat} (hn : n ≤ 64) {fs fu fb : Int32} {t am ae ad ai aj ay ap au ab : Nat → Int32} {tp : Int32} {bm be bd bp bj bc by_ bk : Nat → Int32} (X : sm_XR t n fs fu am ae ad ai aj ay ap au ab) (v1 : Int32) : wpX_escaped (fun r => wpY_escaped (fun r' v' => r' = r ∧ i_Rel (k + 3) (nI n, fs, fu, fb, t, am, ae, ad, ai, aj, ay, ap, au, ab) v') (nI n, tp, t, bm, be, bd, bp, bj, bc, by_, bk) v1) (nI n, fs, fu, fb, t, am, ae, ad, ai, aj, ay, ap, au, ab) v1 := by
  rcases sm_gc v1 hn with ⟨g, hg, rfl⟩ | hb
  · exact sx_escaped1 hn hg (sy_escaped1 hn hg (fun _ _ _ _ _ _ _ _ _ => ⟨by rw [X.2.1 g hg], sm_rel hn X⟩))
  · exact sx_escaped0 hb (sy_escaped0 hb ⟨rfl, sm_rel hn X⟩)
theorem sq_depth {k n : Nat} (hn : n ≤ 64) {fs fu fb : Int32} {t am ae ad ai aj ay ap au ab : Nat → Int32} {tp : Int32} {bm be bd bp bj bc by_ bk : Nat → Int32} (X : sm_XR t n fs fu am ae ad ai aj ay ap au ab) (v1 : Int32) : wpX_depth (fun r => wpY_depth (fun r' v' => r' = r ∧ i_Rel (k + 3) (nI n, fs, fu, fb, t, am, ae, ad, ai, aj, ay, ap, au, ab) v') (nI n, tp, t, bm, be, bd, bp, bj, bc, by_, bk) v1) (nI n, fs, fu, fb, t, am, ae, ad, ai, aj, ay, ap, au, ab) v1 := by
  rcases sm_gc v1 hn with ⟨g, hg, rfl⟩ | hb
  · exact sx_depth1 hn hg (sy_depth1 hn hg (fun _ _ _ _ _ _ _ _ _ => ⟨(X.2.2.1 g hg).symm, sm_rel hn X⟩))
  · exact sx_depth0 hb (sy_depth0 hb ⟨rfl, sm_rel hn X⟩)
theorem sq_up {k n : Nat} (hn : n ≤ 64) {fs fu fb : Int32} {t am ae ad ai aj ay ap au ab : Nat → Int32} {tp : Int32} {bm be bd bp bj bc by_ bk : Nat → Int32} (X : sm_XR t n fs fu am ae ad ai aj ay ap au ab) (v1 : Int32) : wpX_up (fun r => wpY_up (fun r' v' => r' = r ∧ i_Rel (k + 3) (nI n, fs, fu, fb, t, am, ae, ad, ai, aj, ay, ap, au, ab) v') (nI n, tp, t, bm, be, bd, bp, bj, bc, by_, bk) v1) (nI n, fs, fu, fb, t, am, ae, ad, ai, aj, ay, ap, au, ab) v1 := by
  rcases sm_gc v1 hn with ⟨g, hg, rfl⟩ | hb
  · exact sx_up1 hn hg (sy_up1 hn hg (fun _ _ _ _ _ _ _ _ _ => ⟨by rw [X.2.2.2.1 g hg]; exact sm_upv (by omega), sm_rel hn X⟩))
  · exact sx_up0 hb (sy_up0 hb ⟨rfl, sm_rel hn X⟩)
theorem sq_partner {k n : Nat} (hn : n ≤ 64) {fs fu fb : Int32} {t am ae ad ai aj ay ap au ab : Nat → Int32} {tp : Int32} {bm be bd bp bj bc by_ bk : Nat → Int32} (X : sm_XR t n fs fu am ae ad ai aj ay ap au ab) (v1 : Int32) : wpX_partner (fun r => wpY_partner (fun r' v' => r' = r ∧ i_Rel (k + 3) (nI n, fs, fu, fb, t, am, ae, ad, ai, aj, ay, ap, au, ab) v') (nI n, tp, t, bm, be, bd, bp, bj, bc, by_, bk) v1) (nI n, fs, fu, fb, t, am, ae, ad, ai, aj, ay, ap, au, ab) v1 := by
  rcases sm_pc v1 hn with ⟨g, hg, rfl⟩ | hb
  · exact sx_partner1 hn hg (sy_partner1 hn hg (fun _ _ _ _ _ _ _ _ _ => ⟨by rw [X.2.2.2.2.2.2.1 g hg], sm_rel hn X⟩))
  · exact sx_partner0 hb (sy_partner0 hb ⟨rfl, sm_rel hn X⟩)
theorem sq_bracketAt {k n : Nat} (hn : n ≤ 64) {fs fu fb : Int32} {t am ae ad ai aj ay ap au ab : Nat → Int32} {tp : Int32} {bm be bd bp bj bc by_ bk : Nat → Int32} (X : sm_XR t n fs fu am ae ad ai aj ay ap au ab) (v1 : Int32) (v2 : Int32) : wpX_bracketAt (fun r => wpY_bracketAt (fun r' v' => r' = r ∧ i_Rel (k + 3) (nI n, fs, fu, fb, t, am, ae, ad, ai, aj, ay, ap, au, ab) v') (nI n, tp, t, bm, be, bd, bp, bj, bc, by_, bk) v1 v2) (nI n, fs, fu, fb, t, am, ae, ad, ai, aj, ay, ap, au, ab) v1 v2 := by
  rcases sm_gc v1 hn with ⟨g, hg, rfl⟩ | hb
  · have hT := sm_Tle t g
    by_cases a : v2 < 0
    · exact sx_bracketAt2 hn hg X (Or.inl a) (sy_bracketAt2 hn hg (Or.inl a) (fun _ _ _ _ _ _ _ _ _ => ⟨rfl, sm_rel hn X⟩))
    · by_cases b : v2 < nI (sm_T t g)
      · obtain ⟨v, hv, rfl⟩ := nI_of a
        rw [nI_ltI hv (by omega)] at b
        exact sx_bracketAt1 hn hg X b (sy_bracketAt1 hn hg b (fun _ _ _ _ _ _ _ _ _ => ⟨rfl, sm_rel hn X⟩))
      · exact sx_bracketAt2 hn hg X (Or.inr ⟨a, b⟩) (sy_bracketAt2 hn hg (Or.inr ⟨a, b⟩) (fun _ _ _ _ _ _ _ _ _ => ⟨rfl, sm_rel hn X⟩))
  · exact sx_bracketAt0 hb (sy_bracketAt0 hb ⟨rfl, sm_rel hn X⟩)
theorem sq_strays {k n : Nat} (hn : n ≤ 64) {fs fu fb : Int32} {t am ae ad ai aj ay ap au ab : Nat → Int32} {tp : Int32} {bm be bd bp bj bc by_ bk : Nat → Int32} (X : sm_XR t n fs fu am ae ad ai aj ay ap au ab) : wpX_strays (fun r => wpY_strays (fun r' v' => r' = r ∧ i_Rel (k + 3) (nI n, fs, fu, fb, t, am, ae, ad, ai, aj, ay, ap, au, ab) v') (nI n, tp, t, bm, be, bd, bp, bj, bc, by_, bk) ) (nI n, fs, fu, fb, t, am, ae, ad, ai, aj, ay, ap, au, ab)  := by
  exact sx_strays (sy_strays hn (fun _ _ _ _ _ _ _ _ _ => ⟨X.2.2.2.2.2.2.2.2.2.1.symm, sm_rel hn X⟩))
theorem sq_units {k n : Nat} (hn : n ≤ 64) {fs fu fb : Int32} {t am ae ad ai aj ay ap au ab : Nat → Int32} {tp : Int32} {bm be bd bp bj bc by_ bk : Nat → Int32} (X : sm_XR t n fs fu am ae ad ai aj ay ap au ab) : wpX_units (fun r => wpY_units (fun r' v' => r' = r ∧ i_Rel (k + 3) (nI n, fs, fu, fb, t, am, ae, ad, ai, aj, ay, ap, au, ab) v') (nI n, tp, t, bm, be, bd, bp, bj, bc, by_, bk) ) (nI n, fs, fu, fb, t, am, ae, ad, ai, aj, ay, ap, au, ab)  := by
  exact sx_units (sy_units hn (fun _ _ _ _ _ _ _ _ _ => ⟨X.2.2.2.2.2.2.2.2.2.2.symm, sm_rel hn X⟩))
theorem sq_forward {k n : Nat} (hn : n ≤ 64) {fs fu fb : Int32} {t am ae ad ai aj ay ap au ab : Nat → Int32} {tp : Int32} {bm be bd bp bj bc by_ bk : Nat → Int32} (X : sm_XR t n fs fu am ae ad ai aj ay ap au ab) (v1 : Int32) : wpX_forward (fun r => wpY_forward (fun r' v' => r' = r ∧ i_Rel (k + 3) (nI n, fs, fu, fb, t, am, ae, ad, ai, aj, ay, ap, au, ab) v') (nI n, tp, t, bm, be, bd, bp, bj, bc, by_, bk) v1) (nI n, fs, fu, fb, t, am, ae, ad, ai, aj, ay, ap, au, ab) v1 := by
  rcases sm_gc v1 hn with ⟨g, hg, rfl⟩ | hb
  · obtain ⟨r, hX, hY⟩ := sm_fw hn X (n - g) g (by omega)
    exact sx_forward1 hn hg _ (hX _ (sy_forward1 hn hg _ (fun tp bm be bd bp bj bc by_ bk Y => hY _ tp bm be bd bp bj bc by_ bk Y ⟨rfl, sm_rel hn X⟩)))
  · exact sx_forward0 hb (sy_forward0 hb ⟨rfl, sm_rel hn X⟩)
theorem sq_backward {k n : Nat} (hn : n ≤ 64) {fs fu fb : Int32} {t am ae ad ai aj ay ap au ab : Nat → Int32} {tp : Int32} {bm be bd bp bj bc by_ bk : Nat → Int32} (X : sm_XR t n fs fu am ae ad ai aj ay ap au ab) (v1 : Int32) : wpX_backward (fun r => wpY_backward (fun r' v' => r' = r ∧ i_Rel (k + 3) (nI n, fs, fu, fb, t, am, ae, ad, ai, aj, ay, ap, au, ab) v') (nI n, tp, t, bm, be, bd, bp, bj, bc, by_, bk) v1) (nI n, fs, fu, fb, t, am, ae, ad, ai, aj, ay, ap, au, ab) v1 := by
  rcases sm_gc v1 hn with ⟨g, hg, rfl⟩ | hb
  · obtain ⟨r, hX, hY⟩ := sm_bw hn hg X g (Nat.le_refl g)
    exact sx_backward1 hn hg _ (hX _ (sy_backward1 hn hg _ (fun tp bm be bd bp bj bc by_ bk Y => hY _ tp bm be bd bp bj bc by_ bk Y ⟨rfl, sm_rel hn X⟩)))
  · exact sx_backward0 hb (sy_backward0 hb ⟨rfl, sm_rel hn X⟩)
theorem sq_down {k n : Nat} (hn : n ≤ 64) {fs fu fb : Int32} {t am ae ad ai aj ay ap au ab : Nat → Int32} {tp : Int32} {bm be bd bp bj bc by_ bk : Nat → Int32} (X : sm_XR t n fs fu am ae ad ai aj ay ap au ab) (v1 : Int32) : wpX_down (fun r => wpY_down (fun r' v' => r' = r ∧ i_Rel (k + 3) (nI n, fs, fu, fb, t, am, ae, ad, ai, aj, ay, ap, au, ab) v') (nI n, tp, t, bm, be, bd, bp, bj, bc, by_, bk) v1) (nI n, fs, fu, fb, t, am, ae, ad, ai, aj, ay, ap, au, ab) v1 := by
  rcases sm_gc v1 hn with ⟨g, hg, rfl⟩ | hb
  · obtain ⟨r, hX, hY⟩ := sm_dn hn X (n - g) g 0 (by omega) (Or.inl rfl)
    exact sx_down1 hn hg _ (hX _ (sy_down1 hn hg _ (fun tp bm be bd bp bj bc by_ bk Y => hY _ tp bm be bd bp bj bc by_ bk Y ⟨rfl, sm_rel hn X⟩)))
  · exact sx_down0 hb (sy_down0 hb ⟨rfl, sm_rel hn X⟩)
theorem sq_set {k n : Nat} (hn : n ≤ 64) {fs fu fb : Int32} {t am ae ad ai aj ay ap au ab : Nat → Int32} {tp : Int32} {bm be bd bp bj bc by_ bk : Nat → Int32} (X : sm_XR t n fs fu am ae ad ai aj ay ap au ab) (v1 : Int32) (v2 : Int32) : wpX_set (fun r u' => wpY_set (fun r' v' => r' = r ∧ i_Rel (k + 3) u' v') (nI n, tp, t, bm, be, bd, bp, bj, bc, by_, bk) v1 v2) (nI n, fs, fu, fb, t, am, ae, ad, ai, aj, ay, ap, au, ab) v1 v2 := by
  rcases sm_pc v1 hn with ⟨g, hg, rfl⟩ | hb
  · by_cases b : sm_bk0 v2
    · exact sx_set2 hn hg b (sy_set2 hn hg b ⟨rfl, sm_rel hn X⟩)
    · exact sx_set1 hn hg b (fun _ _ _ _ _ _ _ _ _ _ _ _ X' => sy_set1 hn hg b ⟨rfl, sm_rel hn X'⟩)
  · exact sx_set0 hb (sy_set0 hb ⟨rfl, sm_rel hn X⟩)
theorem sq_insert {k n : Nat} (hn : n ≤ 64) {fs fu fb : Int32} {t am ae ad ai aj ay ap au ab : Nat → Int32} {tp : Int32} {bm be bd bp bj bc by_ bk : Nat → Int32} (X : sm_XR t n fs fu am ae ad ai aj ay ap au ab) (v1 : Int32) (v2 : Int32) : wpX_insert (fun r u' => wpY_insert (fun r' v' => r' = r ∧ i_Rel (k + 3) u' v') (nI n, tp, t, bm, be, bd, bp, bj, bc, by_, bk) v1 v2) (nI n, fs, fu, fb, t, am, ae, ad, ai, aj, ay, ap, au, ab) v1 v2 := by
  rcases sm_gc v1 hn with ⟨g, hg, rfl⟩ | hb
  · by_cases b : sm_bk0 v2
    · exact sx_ins2 hn hg b (sy_ins2 hn hg b ⟨rfl, sm_rel hn X⟩)
    · by_cases h64 : n = 64
      · exact sx_ins3 hn hg b h64 (sy_ins3 hn hg b h64 ⟨rfl, sm_rel hn X⟩)
      · have hn' : n < 64 := by omega
        obtain ⟨t', hX, hY⟩ := sm_ins hn' hg v2 (n - g) t (by omega)
        rw [show g + (n - g) = n by omega] at hX hY
        exact sx_ins1 hn' hg b _ (hX _ _ _ _ _ _ _ _ _ _ _ _ _ (fun _ _ _ _ _ _ _ _ _ _ _ _ X' => sy_ins1 hn' hg b _ (hY _ _ _ _ _ _ _ _ _ _ ⟨rfl, sm_rel (by omega) X'⟩)))
  · exact sx_ins0 hb (sy_ins0 hb ⟨rfl, sm_rel hn X⟩)
theorem sq_delete {k n : Nat} (hn : n ≤ 64) {fs fu fb : Int32} {t am ae ad ai aj ay ap au ab : Nat → Int32} {tp : Int32} {bm be bd bp bj bc by_ bk : Nat → Int32} (X : sm_XR t n fs fu am ae ad ai aj ay ap au ab) (v1 : Int32) (v2 : Int32) : wpX_delete (fun r u' => wpY_delete (fun r' v' => r' = r ∧ i_Rel (k + 3) u' v') (nI n, tp, t, bm, be, bd, bp, bj, bc, by_, bk) v1 v2) (nI n, fs, fu, fb, t, am, ae, ad, ai, aj, ay, ap, au, ab) v1 v2 := by
  by_cases a : v1 < 0
  · exact br_t a (br_t a ⟨rfl, sm_rel hn X⟩)
  · by_cases b : v2 < v1
    · exact br_f a (br_t b (br_f a (br_t b ⟨rfl, sm_rel hn X⟩)))
    · by_cases d : v2 ≤ nI n
      · have a2 : ¬ v2 < 0 := fun z => a (Int32.lt_of_le_of_lt (Int32.not_lt.mp b) z)
        obtain ⟨f, hf, rfl⟩ := nI_of a
        obtain ⟨e, he, rfl⟩ := nI_of a2
        have b' := b
        have d' := d
        rw [nI_ltI he hf] at b'
        rw [nI_leI he (by omega)] at d'
        obtain ⟨t', hX, hY⟩ := sm_del hn (r := e - f) (by omega) (n - e) f t (by omega)
        rw [show f + (e - f) = e by omega] at hX
        exact br_f a (br_f b (br_t d (nm_r (sx_sub (by omega)) ⟨_, hX _ _ _ _ _ _ _ _ _ _ _ _ _ (fun _ _ _ _ _ _ _ _ _ _ _ _ X' => br_f a (br_f b (br_t d (nm_r (sx_sub (by omega)) ⟨_, hY _ _ _ _ _ _ _ _ _ _ ⟨rfl, sm_rel (by omega) X'⟩⟩))))⟩)))
      · exact br_f a (br_f b (br_f d (br_f a (br_f b (br_f d ⟨rfl, sm_rel hn X⟩)))))
end
section
/-! 13: what is owed (i_Rel and i_up stand in part 09). Written by wip/whole/gen12.py -/
theorem i_vc0 : wpX_init (fun u => wpY_init (fun v => i_Rel 0 u v)) := by
  unfold wpX_init
  refine sx_read (n := 0) (by omega) nI_0.symm ?_
  intro fs fu fb am ae ad ai aj ay ap au ab X
  exact ⟨rfl, rfl, 0, by omega, nI_0.symm, X⟩
theorem i_vc_insert {k : Nat} {u : SX} {v : SY} (I : i_Rel k u v) (hk : k + 3 ≤ 1536) (v1 : Int32) (v2 : Int32) : wpX_insert (fun r u' => wpY_insert (fun r' v' => r' = r ∧ i_Rel (k + 3) u' v') v v1 v2) u v1 v2 := by
  obtain ⟨c, fs, fu, fb, t, am, ae, ad, ai, aj, ay, ap, au, ab⟩ := u
  obtain ⟨l, tp, t', bm, be, bd, bp, bj, bc, by_, bk⟩ := v
  obtain ⟨rfl, rfl, n, hn, rfl, X⟩ := I
  exact sq_insert hn X v1 v2
theorem i_vc_delete {k : Nat} {u : SX} {v : SY} (I : i_Rel k u v) (hk : k + 3 ≤ 1536) (v1 : Int32) (v2 : Int32) : wpX_delete (fun r u' => wpY_delete (fun r' v' => r' = r ∧ i_Rel (k + 3) u' v') v v1 v2) u v1 v2 := by
  obtain ⟨c, fs, fu, fb, t, am, ae, ad, ai, aj, ay, ap, au, ab⟩ := u
  obtain ⟨l, tp, t', bm, be, bd, bp, bj, bc, by_, bk⟩ := v
  obtain ⟨rfl, rfl, n, hn, rfl, X⟩ := I
  exact sq_delete hn X v1 v2
theorem i_vc_set {k : Nat} {u : SX} {v : SY} (I : i_Rel k u v) (hk : k + 3 ≤ 1536) (v1 : Int32) (v2 : Int32) : wpX_set (fun r u' => wpY_set (fun r' v' => r' = r ∧ i_Rel (k + 3) u' v') v v1 v2) u v1 v2 := by
  obtain ⟨c, fs, fu, fb, t, am, ae, ad, ai, aj, ay, ap, au, ab⟩ := u
  obtain ⟨l, tp, t', bm, be, bd, bp, bj, bc, by_, bk⟩ := v
  obtain ⟨rfl, rfl, n, hn, rfl, X⟩ := I
  exact sq_set hn X v1 v2
theorem i_vc_length {k : Nat} {u : SX} {v : SY} (I : i_Rel k u v) (hk : k + 3 ≤ 1536) : wpX_length (fun r => wpY_length (fun r' => r' = r ∧ i_Rel (k + 3) u v) v) u := by
  obtain ⟨c, fs, fu, fb, t, am, ae, ad, ai, aj, ay, ap, au, ab⟩ := u
  obtain ⟨l, tp, t', bm, be, bd, bp, bj, bc, by_, bk⟩ := v
  obtain ⟨rfl, rfl, n, hn, rfl, X⟩ := I
  exact sq_length hn X
theorem i_vc_kindAt {k : Nat} {u : SX} {v : SY} (I : i_Rel k u v) (hk : k + 3 ≤ 1536) (v1 : Int32) : wpX_kindAt (fun r => wpY_kindAt (fun r' => r' = r ∧ i_Rel (k + 3) u v) v v1) u v1 := by
  obtain ⟨c, fs, fu, fb, t, am, ae, ad, ai, aj, ay, ap, au, ab⟩ := u
  obtain ⟨l, tp, t', bm, be, bd, bp, bj, bc, by_, bk⟩ := v
  obtain ⟨rfl, rfl, n, hn, rfl, X⟩ := I
  exact sq_kindAt hn X v1
theorem i_vc_mode {k : Nat} {u : SX} {v : SY} (I : i_Rel k u v) (hk : k + 3 ≤ 1536) (v1 : Int32) : wpX_mode (fun r => wpY_mode (fun r' v' => r' = r ∧ i_Rel (k + 3) u v') v v1) u v1 := by
  obtain ⟨c, fs, fu, fb, t, am, ae, ad, ai, aj, ay, ap, au, ab⟩ := u
  obtain ⟨l, tp, t', bm, be, bd, bp, bj, bc, by_, bk⟩ := v
  obtain ⟨rfl, rfl, n, hn, rfl, X⟩ := I
  exact sq_mode hn X v1
theorem i_vc_escaped {k : Nat} {u : SX} {v : SY} (I : i_Rel k u v) (hk : k + 3 ≤ 1536) (v1 : Int32) : wpX_escaped (fun r => wpY_escaped (fun r' v' => r' = r ∧ i_Rel (k + 3) u v') v v1) u v1 := by
  obtain ⟨c, fs, fu, fb, t, am, ae, ad, ai, aj, ay, ap, au, ab⟩ := u
  obtain ⟨l, tp, t', bm, be, bd, bp, bj, bc, by_, bk⟩ := v
  obtain ⟨rfl, rfl, n, hn, rfl, X⟩ := I
  exact sq_escaped hn X v1
theorem i_vc_depth {k : Nat} {u : SX} {v : SY} (I : i_Rel k u v) (hk : k + 3 ≤ 1536) (v1 : Int32) : wpX_depth (fun r => wpY_depth (fun r' v' => r' = r ∧ i_Rel (k + 3) u v') v v1) u v1 := by
  obtain ⟨c, fs, fu, fb, t, am, ae, ad, ai, aj, ay, ap, au, ab⟩ := u
  obtain ⟨l, tp, t', bm, be, bd, bp, bj, bc, by_, bk⟩ := v
  obtain ⟨rfl, rfl, n, hn, rfl, X⟩ := I
  exact sq_depth hn X v1
theorem i_vc_bracketAt {k : Nat} {u : SX} {v : SY} (I : i_Rel k u v) (hk : k + 3 ≤ 1536) (v1 : Int32) (v2 : Int32) : wpX_bracketAt (fun r => wpY_bracketAt (fun r' v' => r' = r ∧ i_Rel (k + 3) u v') v v1 v2) u v1 v2 := by
  obtain ⟨c, fs, fu, fb, t, am, ae, ad, ai, aj, ay, ap, au, ab⟩ := u
  obtain ⟨l, tp, t', bm, be, bd, bp, bj, bc, by_, bk⟩ := v
  obtain ⟨rfl, rfl, n, hn, rfl, X⟩ := I
  exact sq_bracketAt hn X v1 v2
theorem i_vc_partner {k : Nat} {u : SX} {v : SY} (I : i_Rel k u v) (hk : k + 3 ≤ 1536) (v1 : Int32) : wpX_partner (fun r => wpY_partner (fun r' v' => r' = r ∧ i_Rel (k + 3) u v') v v1) u v1 := by
  obtain ⟨c, fs, fu, fb, t, am, ae, ad, ai, aj, ay, ap, au, ab⟩ := u
  obtain ⟨l, tp, t', bm, be, bd, bp, bj, bc, by_, bk⟩ := v
  obtain ⟨rfl, rfl, n, hn, rfl, X⟩ := I
  exact sq_partner hn X v1
theorem i_vc_strays {k : Nat} {u : SX} {v : SY} (I : i_Rel k u v) (hk : k + 3 ≤ 1536) : wpX_strays (fun r => wpY_strays (fun r' v' => r' = r ∧ i_Rel (k + 3) u v') v) u := by
  obtain ⟨c, fs, fu, fb, t, am, ae, ad, ai, aj, ay, ap, au, ab⟩ := u
  obtain ⟨l, tp, t', bm, be, bd, bp, bj, bc, by_, bk⟩ := v
  obtain ⟨rfl, rfl, n, hn, rfl, X⟩ := I
  exact sq_strays hn X
theorem i_vc_forward {k : Nat} {u : SX} {v : SY} (I : i_Rel k u v) (hk : k + 3 ≤ 1536) (v1 : Int32) : wpX_forward (fun r => wpY_forward (fun r' v' => r' = r ∧ i_Rel (k + 3) u v') v v1) u v1 := by
  obtain ⟨c, fs, fu, fb, t, am, ae, ad, ai, aj, ay, ap, au, ab⟩ := u
  obtain ⟨l, tp, t', bm, be, bd, bp, bj, bc, by_, bk⟩ := v
  obtain ⟨rfl, rfl, n, hn, rfl, X⟩ := I
  exact sq_forward hn X v1
theorem i_vc_backward {k : Nat} {u : SX} {v : SY} (I : i_Rel k u v) (hk : k + 3 ≤ 1536) (v1 : Int32) : wpX_backward (fun r => wpY_backward (fun r' v' => r' = r ∧ i_Rel (k + 3) u v') v v1) u v1 := by
  obtain ⟨c, fs, fu, fb, t, am, ae, ad, ai, aj, ay, ap, au, ab⟩ := u
  obtain ⟨l, tp, t', bm, be, bd, bp, bj, bc, by_, bk⟩ := v
  obtain ⟨rfl, rfl, n, hn, rfl, X⟩ := I
  exact sq_backward hn X v1
theorem i_vc_up {k : Nat} {u : SX} {v : SY} (I : i_Rel k u v) (hk : k + 3 ≤ 1536) (v1 : Int32) : wpX_up (fun r => wpY_up (fun r' v' => r' = r ∧ i_Rel (k + 3) u v') v v1) u v1 := by
  obtain ⟨c, fs, fu, fb, t, am, ae, ad, ai, aj, ay, ap, au, ab⟩ := u
  obtain ⟨l, tp, t', bm, be, bd, bp, bj, bc, by_, bk⟩ := v
  obtain ⟨rfl, rfl, n, hn, rfl, X⟩ := I
  exact sq_up hn X v1
theorem i_vc_down {k : Nat} {u : SX} {v : SY} (I : i_Rel k u v) (hk : k + 3 ≤ 1536) (v1 : Int32) : wpX_down (fun r => wpY_down (fun r' v' => r' = r ∧ i_Rel (k + 3) u v') v v1) u v1 := by
  obtain ⟨c, fs, fu, fb, t, am, ae, ad, ai, aj, ay, ap, au, ab⟩ := u
  obtain ⟨l, tp, t', bm, be, bd, bp, bj, bc, by_, bk⟩ := v
  obtain ⟨rfl, rfl, n, hn, rfl, X⟩ := I
  exact sq_down hn X v1
theorem i_vc_units {k : Nat} {u : SX} {v : SY} (I : i_Rel k u v) (hk : k + 3 ≤ 1536) : wpX_units (fun r => wpY_units (fun r' v' => r' = r ∧ i_Rel (k + 3) u v') v) u := by
  obtain ⟨c, fs, fu, fb, t, am, ae, ad, ai, aj, ay, ap, au, ab⟩ := u
  obtain ⟨l, tp, t', bm, be, bd, bp, bj, bc, by_, bk⟩ := v
  obtain ⟨rfl, rfl, n, hn, rfl, X⟩ := I
  exact sq_units hn X
end
