/-! 01: the text read by itself: mode, escape, brackets, units as functions of the text t -/
def sm_me (t : Nat → Int32) : Nat → Int32 × Int32
  | 0 => (0, 0)
  | i + 1 =>
    if (sm_me t i).2 = 0 then
      if (sm_me t i).1 = 0 then
        if t i = 4 then (1, 0) else if t i = 5 then (0, 1) else if t i = 6 then (2, 0) else (0, 0)
      else if (sm_me t i).1 = 1 then
        if t i = 4 then (0, 0) else if t i = 5 then (1, 1) else (1, 0)
      else if t i = 7 then (0, 0) else ((sm_me t i).1, 0)
    else ((sm_me t i).1, 0)
def sm_M (t : Nat → Int32) (i : Nat) : Int32 := (sm_me t i).1
def sm_E (t : Nat → Int32) (i : Nat) : Int32 := (sm_me t i).2
theorem sm_M0 (t : Nat → Int32) : sm_M t 0 = 0 := rfl
theorem sm_E0 (t : Nat → Int32) : sm_E t 0 = 0 := rfl
theorem sm_s_esc {t : Nat → Int32} {i : Nat} (h : ¬ sm_E t i = 0) : sm_M t (i + 1) = sm_M t i ∧ sm_E t (i + 1) = 0 := by
  unfold sm_M sm_E at *
  simp only [sm_me, h, if_false, and_self]
theorem sm_s_pl {t : Nat → Int32} {i : Nat} (h : sm_E t i = 0) (m : sm_M t i = 0) : sm_M t (i + 1) = (if t i = 4 then 1 else if t i = 6 then 2 else 0) ∧ sm_E t (i + 1) = (if t i = 5 then 1 else 0) := by
  unfold sm_M sm_E at *
  simp only [sm_me, h, m, if_true]
  by_cases h4 : t i = 4
  · simp [h4]
  · by_cases h5 : t i = 5
    · simp [h5]
    · by_cases h6 : t i = 6
      · simp [h6]
      · simp [h4, h5, h6]
theorem sm_s_st {t : Nat → Int32} {i : Nat} (h : sm_E t i = 0) (m : sm_M t i = 1) : sm_M t (i + 1) = (if t i = 4 then 0 else 1) ∧ sm_E t (i + 1) = (if t i = 5 then 1 else 0) := by
  unfold sm_M sm_E at *
  have m0 : ¬ (1 : Int32) = 0 := by decide
  simp only [sm_me, h, m, if_true, m0, if_false]
  by_cases h4 : t i = 4
  · simp [h4]
  · by_cases h5 : t i = 5
    · simp [h5]
    · simp [h4, h5]
theorem sm_s_rm {t : Nat → Int32} {i : Nat} (h : sm_E t i = 0) (m : ¬ sm_M t i = 0) (m1 : ¬ sm_M t i = 1) : sm_M t (i + 1) = (if t i = 7 then 0 else sm_M t i) ∧ sm_E t (i + 1) = 0 := by
  unfold sm_M sm_E at *
  simp only [sm_me, h, m, if_true, m1, if_false]
  by_cases h7 : t i = 7
  · simp [h7]
  · simp [h7]
theorem sm_E01 (t : Nat → Int32) : ∀ i, sm_E t i = 0 ∨ sm_E t i = 1 := by
  intro i
  cases i with
  | zero => exact Or.inl rfl
  | succ i =>
    by_cases h : sm_E t i = 0
    · by_cases m : sm_M t i = 0
      · rw [(sm_s_pl h m).2]; split <;> simp
      · by_cases m1 : sm_M t i = 1
        · rw [(sm_s_st h m1).2]; split <;> simp
        · exact Or.inl (sm_s_rm h m m1).2
    · exact Or.inl (sm_s_esc h).2
theorem sm_Ep {t : Nat → Int32} {i : Nat} (h : ¬ sm_E t (i + 1) = 0) : sm_E t i = 0 ∧ t i = 5 ∧ sm_M t (i + 1) = sm_M t i := by
  by_cases e : sm_E t i = 0
  · by_cases m : sm_M t i = 0
    · have z := sm_s_pl e m
      by_cases h5 : t i = 5
      · refine ⟨e, h5, ?_⟩
        rw [z.1, m, h5]; decide
      · exact absurd (by rw [z.2, if_neg h5]) h
    · by_cases m1 : sm_M t i = 1
      · have z := sm_s_st e m1
        by_cases h5 : t i = 5
        · refine ⟨e, h5, ?_⟩
          rw [z.1, m1, h5]; decide
        · exact absurd (by rw [z.2, if_neg h5]) h
      · exact absurd (sm_s_rm e m m1).2 h
  · exact absurd (sm_s_esc e).2 h
abbrev sm_J (t : Nat → Int32) (i : Nat) : Prop := sm_E t i = 0 ∧ sm_M t i = 0 ∧ t i = 2
abbrev sm_C (t : Nat → Int32) (i : Nat) : Prop := sm_E t i = 0 ∧ sm_M t i = 0 ∧ t i = 3
abbrev sm_O (t : Nat → Int32) (i : Nat) : Prop := sm_E t i = 0 ∧ sm_M t i = 0 ∧ t i = 4
abbrev sm_Z (t : Nat → Int32) (i : Nat) : Prop := sm_E t i = 0 ∧ sm_M t i = 1 ∧ t i = 4
abbrev sm_W (t : Nat → Int32) (i : Nat) : Prop := sm_M t i = 0 ∧ (¬ sm_E t i = 0 ∨ t i = 0 ∨ t i = 5)
theorem sm_JC {t : Nat → Int32} {i : Nat} (h : sm_J t i) : ¬ sm_C t i := fun z => absurd (h.2.2.symm.trans z.2.2) (by decide)
theorem sm_JO {t : Nat → Int32} {i : Nat} (h : sm_J t i) : ¬ sm_O t i := fun z => absurd (h.2.2.symm.trans z.2.2) (by decide)
theorem sm_JZ {t : Nat → Int32} {i : Nat} (h : sm_J t i) : ¬ sm_Z t i := fun z => absurd (h.2.2.symm.trans z.2.2) (by decide)
theorem sm_CZ {t : Nat → Int32} {i : Nat} (h : sm_C t i) : ¬ sm_Z t i := fun z => absurd (h.2.2.symm.trans z.2.2) (by decide)
theorem sm_CO {t : Nat → Int32} {i : Nat} (h : sm_C t i) : ¬ sm_O t i := fun z => absurd (h.2.2.symm.trans z.2.2) (by decide)
theorem sm_OZ {t : Nat → Int32} {i : Nat} (h : sm_O t i) : ¬ sm_Z t i := fun z => absurd (h.2.1.symm.trans z.2.1) (by decide)
theorem sm_Wx {t : Nat → Int32} {i : Nat} (h : sm_W t i) : ¬ sm_J t i ∧ ¬ sm_C t i ∧ ¬ sm_O t i ∧ ¬ sm_Z t i := by
  obtain ⟨m, h⟩ := h
  refine ⟨fun z => ?_, fun z => ?_, fun z => ?_, fun z => ?_⟩
  · rcases h with h | h | h
    · exact h z.1
    · exact absurd (h.symm.trans z.2.2) (by decide)
    · exact absurd (h.symm.trans z.2.2) (by decide)
  · rcases h with h | h | h
    · exact h z.1
    · exact absurd (h.symm.trans z.2.2) (by decide)
    · exact absurd (h.symm.trans z.2.2) (by decide)
  · rcases h with h | h | h
    · exact h z.1
    · exact absurd (h.symm.trans z.2.2) (by decide)
    · exact absurd (h.symm.trans z.2.2) (by decide)
  · exact absurd (m.symm.trans z.2.1) (by decide)
def sm_T (t : Nat → Int32) : Nat → Nat
  | 0 => 0
  | i + 1 => if sm_J t i then sm_T t i + 1 else if sm_C t i then sm_T t i - 1 else sm_T t i
def sm_K (t : Nat → Int32) : Nat → Nat → Nat
  | 0 => fun _ => 0
  | i + 1 => if sm_J t i then (fun l => if l = sm_T t i then i else sm_K t i l) else sm_K t i
def sm_o (t : Nat → Int32) (i : Nat) : Nat := sm_K t i (sm_T t i - 1)
def sm_I (t : Nat → Int32) (i : Nat) : Int32 := if sm_T t i = 0 then -1 else nI (sm_o t i)
abbrev sm_D (t : Nat → Int32) (i : Nat) : Prop := sm_C t i ∧ ¬ sm_T t i = 0
def sm_sb (t : Nat → Int32) : Nat → Nat
  | 0 => 0
  | i + 1 => if sm_O t i then i else sm_sb t i
def sm_PA (t : Nat → Int32) : Nat → Nat → Int32
  | 0 => fun _ => -1
  | i + 1 => if sm_D t i then upd (upd (sm_PA t i) (sm_o t i) (nI i)) i (nI (sm_o t i)) else sm_PA t i
def sm_SU (t : Nat → Int32) : Nat → Nat → Int32
  | 0 => fun _ => -1
  | i + 1 => if sm_D t i then upd (sm_SU t i) (sm_o t i) (nI i) else if sm_Z t i then upd (sm_SU t i) (sm_sb t i) (nI i) else sm_SU t i
def sm_SB (t : Nat → Int32) : Nat → Nat → Int32
  | 0 => fun _ => -1
  | i + 1 => if sm_D t i then upd (sm_SB t i) i (nI (sm_o t i)) else if sm_Z t i then upd (sm_SB t i) i (nI (sm_sb t i)) else sm_SB t i
def sm_SC (t : Nat → Int32) : Nat → Nat
  | 0 => 0
  | i + 1 => if sm_C t i ∧ sm_T t i = 0 then sm_SC t i + 1 else sm_SC t i
/-! one step of each -/
theorem sm_TJ {t : Nat → Int32} {i : Nat} (h : sm_J t i) : sm_T t (i + 1) = sm_T t i + 1 := by rw [sm_T, if_pos h]
theorem sm_TC {t : Nat → Int32} {i : Nat} (h : sm_C t i) : sm_T t (i + 1) = sm_T t i - 1 := by rw [sm_T, if_neg (fun z => sm_JC z h), if_pos h]
theorem sm_Tn {t : Nat → Int32} {i : Nat} (h : ¬ sm_J t i) (hc : ¬ sm_C t i) : sm_T t (i + 1) = sm_T t i := by rw [sm_T, if_neg h, if_neg hc]
theorem sm_KJ {t : Nat → Int32} {i : Nat} (h : sm_J t i) (l : Nat) : sm_K t (i + 1) l = if l = sm_T t i then i else sm_K t i l := by rw [sm_K, if_pos h]
theorem sm_Kn {t : Nat → Int32} {i : Nat} (h : ¬ sm_J t i) : sm_K t (i + 1) = sm_K t i := by rw [sm_K, if_neg h]
theorem sm_PAD {t : Nat → Int32} {i : Nat} (h : sm_D t i) : sm_PA t (i + 1) = upd (upd (sm_PA t i) (sm_o t i) (nI i)) i (nI (sm_o t i)) := by rw [sm_PA, if_pos h]
theorem sm_PAn {t : Nat → Int32} {i : Nat} (h : ¬ sm_D t i) : sm_PA t (i + 1) = sm_PA t i := by rw [sm_PA, if_neg h]
theorem sm_SUD {t : Nat → Int32} {i : Nat} (h : sm_D t i) : sm_SU t (i + 1) = upd (sm_SU t i) (sm_o t i) (nI i) := by rw [sm_SU, if_pos h]
theorem sm_SUZ {t : Nat → Int32} {i : Nat} (h : sm_Z t i) : sm_SU t (i + 1) = upd (sm_SU t i) (sm_sb t i) (nI i) := by rw [sm_SU, if_neg (fun z => sm_CZ z.1 h), if_pos h]
theorem sm_SUn {t : Nat → Int32} {i : Nat} (h : ¬ sm_D t i) (hz : ¬ sm_Z t i) : sm_SU t (i + 1) = sm_SU t i := by rw [sm_SU, if_neg h, if_neg hz]
theorem sm_SBD {t : Nat → Int32} {i : Nat} (h : sm_D t i) : sm_SB t (i + 1) = upd (sm_SB t i) i (nI (sm_o t i)) := by rw [sm_SB, if_pos h]
theorem sm_SBZ {t : Nat → Int32} {i : Nat} (h : sm_Z t i) : sm_SB t (i + 1) = upd (sm_SB t i) i (nI (sm_sb t i)) := by rw [sm_SB, if_neg (fun z => sm_CZ z.1 h), if_pos h]
theorem sm_SBn {t : Nat → Int32} {i : Nat} (h : ¬ sm_D t i) (hz : ¬ sm_Z t i) : sm_SB t (i + 1) = sm_SB t i := by rw [sm_SB, if_neg h, if_neg hz]
theorem sm_sbO {t : Nat → Int32} {i : Nat} (h : sm_O t i) : sm_sb t (i + 1) = i := by rw [sm_sb, if_pos h]
theorem sm_sbn {t : Nat → Int32} {i : Nat} (h : ¬ sm_O t i) : sm_sb t (i + 1) = sm_sb t i := by rw [sm_sb, if_neg h]
theorem sm_us {f : Nat → Int32} {k : Nat} {x : Int32} : upd f k x k = x := if_pos rfl
theorem sm_un {f : Nat → Int32} {k j : Nat} {x : Int32} (h : ¬ j = k) : upd f k x j = f j := if_neg h
theorem sm_nn {e : Nat} (h : e < 2 ^ 31) : ¬ nI e = -1 := by
  intro z
  have h1 := congrArg Int32.toInt z
  rw [nI_toInt h] at h1
  have h2 : (-1 : Int32).toInt = -1 := by decide
  omega
theorem sm_Tle (t : Nat → Int32) : ∀ i, sm_T t i ≤ i := by
  intro i
  induction i with
  | zero => exact Nat.le_refl 0
  | succ i ih =>
    rw [sm_T]
    split
    · omega
    · split <;> omega
/-- what the list of brackets at a gap is -/
theorem sm_stk (t : Nat → Int32) : ∀ i l, l < sm_T t i → sm_K t i l < i ∧ sm_J t (sm_K t i l) ∧ sm_T t (sm_K t i l) = l ∧ (∀ m, m < l → sm_K t (sm_K t i l) m = sm_K t i m) ∧ (∀ j, sm_K t i l < j → j < i → sm_J t j → ¬ sm_T t j = l) := by
  intro i
  induction i with
  | zero => intro l h; exact absurd h (Nat.not_lt_zero l)
  | succ i ih =>
    intro l h
    by_cases hJ : sm_J t i
    · rw [sm_TJ hJ] at h
      by_cases e : l = sm_T t i
      · have k : sm_K t (i + 1) l = i := by rw [sm_KJ hJ, if_pos e]
        rw [k]
        refine ⟨by omega, hJ, e.symm, fun m hm => ?_, fun j h1 h2 => by omega⟩
        rw [sm_KJ hJ, if_neg (by omega)]
      · have k : sm_K t (i + 1) l = sm_K t i l := by rw [sm_KJ hJ, if_neg e]
        rw [k]
        obtain ⟨a, b, c, d, f⟩ := ih l (by omega)
        refine ⟨by omega, b, c, fun m hm => ?_, fun j h1 h2 h3 => ?_⟩
        · rw [sm_KJ hJ, if_neg (by omega)]; exact d m hm
        · by_cases q : j = i
          · subst q; exact fun z => e z.symm
          · exact f j h1 (by omega) h3
    · have h' : l < sm_T t i := by
        by_cases hC : sm_C t i
        · rw [sm_TC hC] at h; omega
        · rw [sm_Tn hJ hC] at h; exact h
      rw [sm_Kn hJ]
      obtain ⟨a, b, c, d, f⟩ := ih l h'
      refine ⟨by omega, b, c, d, fun j h1 h2 h3 => ?_⟩
      by_cases q : j = i
      · subst q; exact absurd h3 hJ
      · exact f j h1 (by omega) h3
theorem sm_oJ {t : Nat → Int32} {i : Nat} (h : ¬ sm_T t i = 0) : sm_o t i < i ∧ sm_J t (sm_o t i) ∧ sm_T t (sm_o t i) = sm_T t i - 1 := by
  obtain ⟨a, b, c, _⟩ := sm_stk t i (sm_T t i - 1) (by omega)
  exact ⟨a, b, c⟩
/-- the innermost after a CLOSE is the one that was innermost at its OPEN -/
theorem sm_ID {t : Nat → Int32} {i : Nat} (h : sm_D t i) : sm_I t (i + 1) = sm_I t (sm_o t i) := by
  obtain ⟨a, b, c, d, _⟩ := sm_stk t i (sm_T t i - 1) (by have := h.2; omega)
  have hT := h.2
  have hJ : ¬ sm_J t i := fun z => sm_JC z h.1
  have e : sm_T t (sm_o t i) = sm_T t i - 1 := c
  unfold sm_I
  rw [sm_TC h.1, e]
  by_cases z : sm_T t i - 1 = 0
  · rw [if_pos z, if_pos z]
  · rw [if_neg z, if_neg z]
    have : sm_o t (i + 1) = sm_o t (sm_o t i) := by
      show sm_K t (i + 1) (sm_T t (i + 1) - 1) = sm_K t (sm_o t i) (sm_T t (sm_o t i) - 1)
      rw [sm_TC h.1, e, sm_Kn hJ]
      exact (d (sm_T t i - 1 - 1) (by omega)).symm
    rw [this]
theorem sm_IJ {t : Nat → Int32} {i : Nat} (h : sm_J t i) : sm_I t (i + 1) = nI i := by
  unfold sm_I sm_o
  rw [sm_TJ h, if_neg (by omega), sm_KJ h, if_pos (by omega)]
theorem sm_In {t : Nat → Int32} {i : Nat} (h : ¬ sm_J t i) (hd : ¬ sm_D t i) : sm_I t (i + 1) = sm_I t i := by
  have e : sm_T t (i + 1) = sm_T t i := by
    by_cases hC : sm_C t i
    · rw [sm_TC hC]
      have : sm_T t i = 0 := Classical.byContradiction fun z => hd ⟨hC, z⟩
      omega
    · exact sm_Tn h hC
  unfold sm_I sm_o
  rw [e, sm_Kn h]
