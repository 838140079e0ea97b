/-! 03: begins and ends of units belong to each other; words; how many units -/
def sm_BJ (U B : Nat → Int32) (m : Nat) : Prop := (∀ i, U i = -1 ∨ ∃ e, i ≤ e ∧ e < m ∧ U i = nI e ∧ B e = nI i) ∧ (∀ e, B e = -1 ∨ ∃ i, i ≤ e ∧ e < m ∧ B e = nI i ∧ U i = nI e)
theorem sm_BJu {U B : Nat → Int32} {m m' b e : Nat} (h : sm_BJ U B m) (hbe : b ≤ e) (he : e < m') (hm : m ≤ m') (hm' : m' ≤ 64) (hu : U b = -1) (hb : B e = -1) : sm_BJ (upd U b (nI e)) (upd B e (nI b)) m' := by
  obtain ⟨h1, h2⟩ := h
  refine ⟨fun i => ?_, fun d => ?_⟩
  · by_cases q : i = b
    · subst q
      exact Or.inr ⟨e, hbe, he, sm_us, sm_us⟩
    · rw [sm_un q]
      rcases h1 i with z | ⟨d, a1, a2, a3, a4⟩
      · exact Or.inl z
      · refine Or.inr ⟨d, a1, by omega, a3, ?_⟩
        rw [sm_un (fun z : d = e => ?_)]
        · exact a4
        · rw [z, hb] at a4
          exact sm_nn (by omega) a4.symm
  · by_cases q : d = e
    · subst q
      exact Or.inr ⟨b, hbe, he, sm_us, sm_us⟩
    · rw [sm_un q]
      rcases h2 d with z | ⟨i, a1, a2, a3, a4⟩
      · exact Or.inl z
      · refine Or.inr ⟨i, a1, by omega, a3, ?_⟩
        rw [sm_un (fun z : i = b => ?_)]
        · exact a4
        · rw [z, hu] at a4
          exact sm_nn (by omega) a4.symm
theorem sm_BJw {U B : Nat → Int32} {m m' : Nat} (h : sm_BJ U B m) (hm : m ≤ m') : sm_BJ U B m' := by
  refine ⟨fun i => ?_, fun e => ?_⟩
  · rcases h.1 i with z | ⟨e, a1, a2, a3⟩
    · exact Or.inl z
    · exact Or.inr ⟨e, a1, by omega, a3⟩
  · rcases h.2 e with z | ⟨i, a1, a2, a3⟩
    · exact Or.inl z
    · exact Or.inr ⟨i, a1, by omega, a3⟩
def sm_cn (U : Nat → Int32) : Nat → Nat
  | 0 => 0
  | i + 1 => if U i = -1 then sm_cn U i else sm_cn U i + 1
theorem sm_cnx {U V : Nat → Int32} : ∀ n, (∀ j, j < n → U j = V j) → sm_cn U n = sm_cn V n := by
  intro n
  induction n with
  | zero => intro _; rfl
  | succ n ih =>
    intro h
    rw [sm_cn, sm_cn, h n (by omega), ih (fun j hj => h j (by omega))]
theorem sm_cnu {U : Nat → Int32} {b : Nat} {v : Int32} (hu : U b = -1) (hv : ¬ v = -1) : ∀ n, b < n → sm_cn (upd U b v) n = sm_cn U n + 1 := by
  intro n
  induction n with
  | zero => intro h; omega
  | succ n ih =>
    intro h
    by_cases e : n = b
    · subst e
      rw [sm_cn, sm_cn, sm_us, if_neg hv, if_pos hu, sm_cnx n (fun j hj => sm_un (by omega))]
    · rw [sm_cn, sm_cn, sm_un e, ih (by omega)]
      split <;> rfl
theorem sm_cn1 {U : Nat → Int32} : ∀ n, (∀ j, j < n → U j = -1) → sm_cn U n = 0 := by
  intro n
  induction n with
  | zero => intro _; rfl
  | succ n ih =>
    intro h
    rw [sm_cn, if_pos (h n (by omega)), ih (fun j hj => h j (by omega))]
theorem sm_SUo {t : Nat → Int32} {i : Nat} (h : sm_D t i) : sm_SU t i (sm_o t i) = -1 := by
  have hT := h.2
  rw [sm_SUJ t i _ (sm_oJ h.2).2.1]
  exact sm_PAk t i (sm_T t i - 1) (by omega)
/-- brackets and strings -/
theorem sm_BJ1 (t : Nat → Int32) : ∀ i, i ≤ 64 → sm_BJ (sm_SU t i) (sm_SB t i) i := by
  intro i
  induction i with
  | zero => intro _; exact ⟨fun _ => Or.inl rfl, fun _ => Or.inl rfl⟩
  | succ i ih =>
    intro hi
    have h := ih (by omega)
    by_cases hD : sm_D t i
    · have o := (sm_oJ hD.2).1
      rw [sm_SUD hD, sm_SBD hD]
      exact sm_BJu h (by omega) (by omega) (by omega) hi (sm_SUo hD) (sm_SUge t i i (Nat.le_refl i)).2.2
    · by_cases hZ : sm_Z t i
      · have o := (sm_SUge t i i (Nat.le_refl i)).1 hZ.2.1
        rw [sm_SUZ hZ, sm_SBZ hZ]
        exact sm_BJu h (by omega) (by omega) (by omega) hi ((sm_str t i (by omega)).1 hZ.2.1) (sm_SUge t i i (Nat.le_refl i)).2.2
      · rw [sm_SUn hD hZ, sm_SBn hD hZ]
        exact sm_BJw h (by omega)
/-! words -/
def sm_fb (t : Nat → Int32) : Nat → Nat
  | 0 => 0
  | i + 1 => if sm_W t i then sm_fb t i else i + 1
theorem sm_fbW {t : Nat → Int32} {i : Nat} (h : sm_W t i) : sm_fb t (i + 1) = sm_fb t i := by rw [sm_fb, if_pos h]
theorem sm_fbn {t : Nat → Int32} {i : Nat} (h : ¬ sm_W t i) : sm_fb t (i + 1) = i + 1 := by rw [sm_fb, if_neg h]
theorem sm_fbl (t : Nat → Int32) : ∀ i, sm_fb t i ≤ i ∧ (∀ k, sm_fb t i ≤ k → k < i → sm_W t k) ∧ (∀ k, k + 1 = sm_fb t i → ¬ sm_W t k) := by
  intro i
  induction i with
  | zero => exact ⟨Nat.le_refl 0, fun k _ h => by omega, fun k h => absurd (show k + 1 = 0 from h) (by omega)⟩
  | succ i ih =>
    obtain ⟨a, b, c⟩ := ih
    by_cases h : sm_W t i
    · rw [sm_fbW h]
      refine ⟨by omega, fun k h1 h2 => ?_, c⟩
      by_cases q : k = i
      · rw [q]; exact h
      · exact b k h1 (by omega)
    · rw [sm_fbn h]
      refine ⟨Nat.le_refl _, fun k h1 h2 => by omega, fun k h1 => ?_⟩
      have : k = i := by omega
      rw [this]; exact h
abbrev sm_we (t : Nat → Int32) (n e : Nat) : Prop := sm_W t e ∧ sm_E t (e + 1) = 0 ∧ (e + 1 = n ∨ ¬ sm_W t (e + 1))
def sm_FU (t : Nat → Int32) (n : Nat) : Nat → Nat → Int32
  | 0 => sm_SU t n
  | i + 1 => if sm_we t n i then upd (sm_FU t n i) (sm_fb t i) (nI i) else sm_FU t n i
def sm_FB (t : Nat → Int32) (n : Nat) : Nat → Nat → Int32
  | 0 => sm_SB t n
  | i + 1 => if sm_we t n i then upd (sm_FB t n i) i (nI (sm_fb t i)) else sm_FB t n i
theorem sm_FUw {t : Nat → Int32} {n i : Nat} (h : sm_we t n i) : sm_FU t n (i + 1) = upd (sm_FU t n i) (sm_fb t i) (nI i) := by rw [sm_FU, if_pos h]
theorem sm_FUn {t : Nat → Int32} {n i : Nat} (h : ¬ sm_we t n i) : sm_FU t n (i + 1) = sm_FU t n i := by rw [sm_FU, if_neg h]
theorem sm_FBw {t : Nat → Int32} {n i : Nat} (h : sm_we t n i) : sm_FB t n (i + 1) = upd (sm_FB t n i) i (nI (sm_fb t i)) := by rw [sm_FB, if_pos h]
theorem sm_FBn {t : Nat → Int32} {n i : Nat} (h : ¬ sm_we t n i) : sm_FB t n (i + 1) = sm_FB t n i := by rw [sm_FB, if_neg h]
theorem sm_FUs (t : Nat → Int32) (n : Nat) : ∀ m j, (sm_FU t n m j = sm_SU t n j ∧ ∀ e, e < m → sm_we t n e → ¬ sm_fb t e = j) ∨ (∃ e, e < m ∧ sm_we t n e ∧ sm_fb t e = j ∧ sm_FU t n m j = nI e) := by
  intro m
  induction m with
  | zero => intro j; exact Or.inl ⟨rfl, fun e h => by omega⟩
  | succ m ih =>
    intro j
    by_cases h : sm_we t n m
    · rw [sm_FUw h]
      by_cases q : j = sm_fb t m
      · subst q
        exact Or.inr ⟨m, by omega, h, rfl, sm_us⟩
      · rw [sm_un q]
        rcases ih j with ⟨a, b⟩ | ⟨e, a, b⟩
        · refine Or.inl ⟨a, fun e h1 h2 => ?_⟩
          by_cases z : e = m
          · subst z; exact fun y => q y.symm
          · exact b e (by omega) h2
        · exact Or.inr ⟨e, by omega, b⟩
    · rw [sm_FUn h]
      rcases ih j with ⟨a, b⟩ | ⟨e, a, b⟩
      · refine Or.inl ⟨a, fun e h1 h2 => ?_⟩
        by_cases z : e = m
        · subst z; exact absurd h2 h
        · exact b e (by omega) h2
      · exact Or.inr ⟨e, by omega, b⟩
theorem sm_FBge (t : Nat → Int32) (n : Nat) : ∀ m e, m ≤ e → sm_FB t n m e = sm_SB t n e := by
  intro m
  induction m with
  | zero => intro e _; rfl
  | succ m ih =>
    intro e h
    by_cases w : sm_we t n m
    · rw [sm_FBw w, sm_un (by omega)]; exact ih e (by omega)
    · rw [sm_FBn w]; exact ih e (by omega)
/-- no unit begins yet where a word that ends now begins -/
theorem sm_FUb {t : Nat → Int32} {n m : Nat} (hm : m < n) (h : sm_we t n m) : sm_FU t n m (sm_fb t m) = -1 ∧ sm_FB t n m m = -1 := by
  obtain ⟨a, b, c⟩ := sm_fbl t m
  constructor
  · rcases sm_FUs t n m (sm_fb t m) with ⟨z, _⟩ | ⟨e, h1, h2, h3, _⟩
    · rw [z]
      have w : sm_W t (sm_fb t m) := by
        by_cases q : sm_fb t m = m
        · rw [q]; exact h.1
        · exact b _ (Nat.le_refl _) (by omega)
      have x := sm_Wx w
      exact sm_SUx t n _ x.1 x.2.2.1
    · exfalso
      obtain ⟨a', _⟩ := sm_fbl t e
      rcases h2.2.2 with y | y
      · omega
      · apply y
        by_cases q : e + 1 = m
        · rw [q]; exact h.1
        · exact b (e + 1) (by omega) (by omega)
  · rw [sm_FBge t n m m (Nat.le_refl m)]
    have x := sm_Wx h.1
    exact sm_SBx t n m x.2.1 x.2.2.2
theorem sm_BJ2 (t : Nat → Int32) {n : Nat} (hn : n ≤ 64) : ∀ m, m ≤ n → sm_BJ (sm_FU t n m) (sm_FB t n m) n := by
  intro m
  induction m with
  | zero => intro _; exact sm_BJ1 t n hn
  | succ m ih =>
    intro hm
    have h := ih (by omega)
    by_cases w : sm_we t n m
    · rw [sm_FUw w, sm_FBw w]
      have z := sm_FUb (by omega) w
      exact sm_BJu h (sm_fbl t m).1 (by omega) (Nat.le_refl n) hn z.1 z.2
    · rw [sm_FUn w, sm_FBn w]; exact h
/-- where a word begins, and where it ends -/
theorem sm_run (t : Nat → Int32) : ∀ e i, i ≤ e → (∀ k, i ≤ k → k ≤ e → sm_W t k) → (∀ k, k + 1 = i → ¬ sm_W t k) → sm_fb t e = i := by
  intro e
  induction e with
  | zero => intro i h _ _; have : i = 0 := by omega
            rw [this]; rfl
  | succ e ih =>
    intro i h hw hb
    by_cases q : i = e + 1
    · rw [sm_fbn (hb e q.symm), q]
    · rw [sm_fbW (hw e (by omega) (by omega))]
      exact ih i (by omega) (fun k h1 h2 => hw k h1 (by omega)) hb
theorem sm_FUrun {t : Nat → Int32} {n i e : Nat} (hi : i ≤ e) (he : e < n) (hw : ∀ k, i ≤ k → k ≤ e → sm_W t k) (hb : ∀ k, k + 1 = i → ¬ sm_W t k) (hx : e + 1 = n ∨ ¬ sm_W t (e + 1)) : sm_FU t n n i = if sm_E t (e + 1) = 0 then nI e else -1 := by
  have hf := sm_run t e i hi hw hb
  have hs : sm_SU t n i = -1 := by
    have x := sm_Wx (hw i (Nat.le_refl i) hi)
    exact sm_SUx t n i x.1 x.2.2.1
  have un : ∀ d, d < n → sm_we t n d → sm_fb t d = i → d = e := by
    intro d hd h1 h2
    obtain ⟨a, b, c⟩ := sm_fbl t d
    rw [h2] at a b
    rcases Nat.lt_trichotomy d e with z | z | z
    · exfalso
      rcases h1.2.2 with y | y
      · omega
      · exact y (hw (d + 1) (by omega) (by omega))
    · exact z
    · exfalso
      rcases hx with y | y
      · omega
      · apply y
        by_cases q : e + 1 = d
        · rw [q]; exact h1.1
        · exact b (e + 1) (by omega) (by omega)
  rcases sm_FUs t n n i with ⟨a, b⟩ | ⟨d, a, b, c, f⟩
  · by_cases z : sm_E t (e + 1) = 0
    · exact absurd hf (b e he ⟨hw e hi (Nat.le_refl e), z, hx⟩)
    · rw [if_neg z, a, hs]
  · have := un d a b c
    subst this
    rw [if_pos b.2.1, f]
theorem sm_FUno {t : Nat → Int32} {n i : Nat} (h : ¬ (sm_W t i ∧ ∀ k, k + 1 = i → ¬ sm_W t k)) : sm_FU t n n i = sm_SU t n i := by
  rcases sm_FUs t n n i with ⟨a, _⟩ | ⟨e, a, b, c, _⟩
  · exact a
  · exfalso
    obtain ⟨x, y, z⟩ := sm_fbl t e
    rw [c] at x y z
    refine h ⟨?_, z⟩
    by_cases q : i = e
    · rw [q]; exact b.1
    · exact y i (Nat.le_refl i) (by omega)
/-- an escaped character of a word has the ESCAPE before it -/
theorem sm_We {t : Nat → Int32} {i : Nat} (h : sm_W t i) (hb : ∀ k, k + 1 = i → ¬ sm_W t k) : sm_E t i = 0 := by
  refine Classical.byContradiction fun z => ?_
  cases i with
  | zero => exact z rfl
  | succ i =>
    obtain ⟨a, b, c⟩ := sm_Ep z
    exact hb i rfl ⟨c.symm.trans h.1, Or.inr (Or.inr b)⟩
