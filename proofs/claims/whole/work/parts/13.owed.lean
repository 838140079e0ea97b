/-! 13: what is owed (i_Rel and i_up stand in part 09). Written by wip/whole/gen12.py -/
theorem i_vc0 : wpX_init (fun u => wpY_init (fun v => i_Rel 0 u v)) := by
  unfold wpX_init
  refine sx_read (n := 0) (by omega) nI_0.symm ?_
  intro fs fu fb am ae ad ai aj ay ap au ab X
  exact ⟨rfl, rfl, 0, by omega, nI_0.symm, X⟩
theorem i_vc_insert {k : Nat} {u : SX} {v : SY} (I : i_Rel k u v) (hk : k + 3 ≤ 1536) (v1 : Int32) (v2 : Int32) : wpX_insert (fun r u' => wpY_insert (fun r' v' => r' = r ∧ i_Rel (k + 3) u' v') v v1 v2) u v1 v2 := by
  obtain ⟨c, fs, fu, fb, t, am, ae, ad, ai, aj, ay, ap, au, ab⟩ := u
  obtain ⟨l, tp, t', bm, be, bd, bp, bj, bc, by_, bk⟩ := v
  obtain ⟨rfl, rfl, n, hn, rfl, X⟩ := I
  exact sq_insert hn X v1 v2
theorem i_vc_delete {k : Nat} {u : SX} {v : SY} (I : i_Rel k u v) (hk : k + 3 ≤ 1536) (v1 : Int32) (v2 : Int32) : wpX_delete (fun r u' => wpY_delete (fun r' v' => r' = r ∧ i_Rel (k + 3) u' v') v v1 v2) u v1 v2 := by
  obtain ⟨c, fs, fu, fb, t, am, ae, ad, ai, aj, ay, ap, au, ab⟩ := u
  obtain ⟨l, tp, t', bm, be, bd, bp, bj, bc, by_, bk⟩ := v
  obtain ⟨rfl, rfl, n, hn, rfl, X⟩ := I
  exact sq_delete hn X v1 v2
theorem i_vc_set {k : Nat} {u : SX} {v : SY} (I : i_Rel k u v) (hk : k + 3 ≤ 1536) (v1 : Int32) (v2 : Int32) : wpX_set (fun r u' => wpY_set (fun r' v' => r' = r ∧ i_Rel (k + 3) u' v') v v1 v2) u v1 v2 := by
  obtain ⟨c, fs, fu, fb, t, am, ae, ad, ai, aj, ay, ap, au, ab⟩ := u
  obtain ⟨l, tp, t', bm, be, bd, bp, bj, bc, by_, bk⟩ := v
  obtain ⟨rfl, rfl, n, hn, rfl, X⟩ := I
  exact sq_set hn X v1 v2
theorem i_vc_length {k : Nat} {u : SX} {v : SY} (I : i_Rel k u v) (hk : k + 3 ≤ 1536) : wpX_length (fun r => wpY_length (fun r' => r' = r ∧ i_Rel (k + 3) u v) v) u := by
  obtain ⟨c, fs, fu, fb, t, am, ae, ad, ai, aj, ay, ap, au, ab⟩ := u
  obtain ⟨l, tp, t', bm, be, bd, bp, bj, bc, by_, bk⟩ := v
  obtain ⟨rfl, rfl, n, hn, rfl, X⟩ := I
  exact sq_length hn X
theorem i_vc_kindAt {k : Nat} {u : SX} {v : SY} (I : i_Rel k u v) (hk : k + 3 ≤ 1536) (v1 : Int32) : wpX_kindAt (fun r => wpY_kindAt (fun r' => r' = r ∧ i_Rel (k + 3) u v) v v1) u v1 := by
  obtain ⟨c, fs, fu, fb, t, am, ae, ad, ai, aj, ay, ap, au, ab⟩ := u
  obtain ⟨l, tp, t', bm, be, bd, bp, bj, bc, by_, bk⟩ := v
  obtain ⟨rfl, rfl, n, hn, rfl, X⟩ := I
  exact sq_kindAt hn X v1
theorem i_vc_mode {k : Nat} {u : SX} {v : SY} (I : i_Rel k u v) (hk : k + 3 ≤ 1536) (v1 : Int32) : wpX_mode (fun r => wpY_mode (fun r' v' => r' = r ∧ i_Rel (k + 3) u v') v v1) u v1 := by
  obtain ⟨c, fs, fu, fb, t, am, ae, ad, ai, aj, ay, ap, au, ab⟩ := u
  obtain ⟨l, tp, t', bm, be, bd, bp, bj, bc, by_, bk⟩ := v
  obtain ⟨rfl, rfl, n, hn, rfl, X⟩ := I
  exact sq_mode hn X v1
theorem i_vc_escaped {k : Nat} {u : SX} {v : SY} (I : i_Rel k u v) (hk : k + 3 ≤ 1536) (v1 : Int32) : wpX_escaped (fun r => wpY_escaped (fun r' v' => r' = r ∧ i_Rel (k + 3) u v') v v1) u v1 := by
  obtain ⟨c, fs, fu, fb, t, am, ae, ad, ai, aj, ay, ap, au, ab⟩ := u
  obtain ⟨l, tp, t', bm, be, bd, bp, bj, bc, by_, bk⟩ := v
  obtain ⟨rfl, rfl, n, hn, rfl, X⟩ := I
  exact sq_escaped hn X v1
theorem i_vc_depth {k : Nat} {u : SX} {v : SY} (I : i_Rel k u v) (hk : k + 3 ≤ 1536) (v1 : Int32) : wpX_depth (fun r => wpY_depth (fun r' v' => r' = r ∧ i_Rel (k + 3) u v') v v1) u v1 := by
  obtain ⟨c, fs, fu, fb, t, am, ae, ad, ai, aj, ay, ap, au, ab⟩ := u
  obtain ⟨l, tp, t', bm, be, bd, bp, bj, bc, by_, bk⟩ := v
  obtain ⟨rfl, rfl, n, hn, rfl, X⟩ := I
  exact sq_depth hn X v1
theorem i_vc_bracketAt {k : Nat} {u : SX} {v : SY} (I : i_Rel k u v) (hk : k + 3 ≤ 1536) (v1 : Int32) (v2 : Int32) : wpX_bracketAt (fun r => wpY_bracketAt (fun r' v' => r' = r ∧ i_Rel (k + 3) u v') v v1 v2) u v1 v2 := by
  obtain ⟨c, fs, fu, fb, t, am, ae, ad, ai, aj, ay, ap, au, ab⟩ := u
  obtain ⟨l, tp, t', bm, be, bd, bp, bj, bc, by_, bk⟩ := v
  obtain ⟨rfl, rfl, n, hn, rfl, X⟩ := I
  exact sq_bracketAt hn X v1 v2
theorem i_vc_partner {k : Nat} {u : SX} {v : SY} (I : i_Rel k u v) (hk : k + 3 ≤ 1536) (v1 : Int32) : wpX_partner (fun r => wpY_partner (fun r' v' => r' = r ∧ i_Rel (k + 3) u v') v v1) u v1 := by
  obtain ⟨c, fs, fu, fb, t, am, ae, ad, ai, aj, ay, ap, au, ab⟩ := u
  obtain ⟨l, tp, t', bm, be, bd, bp, bj, bc, by_, bk⟩ := v
  obtain ⟨rfl, rfl, n, hn, rfl, X⟩ := I
  exact sq_partner hn X v1
theorem i_vc_strays {k : Nat} {u : SX} {v : SY} (I : i_Rel k u v) (hk : k + 3 ≤ 1536) : wpX_strays (fun r => wpY_strays (fun r' v' => r' = r ∧ i_Rel (k + 3) u v') v) u := by
  obtain ⟨c, fs, fu, fb, t, am, ae, ad, ai, aj, ay, ap, au, ab⟩ := u
  obtain ⟨l, tp, t', bm, be, bd, bp, bj, bc, by_, bk⟩ := v
  obtain ⟨rfl, rfl, n, hn, rfl, X⟩ := I
  exact sq_strays hn X
theorem i_vc_forward {k : Nat} {u : SX} {v : SY} (I : i_Rel k u v) (hk : k + 3 ≤ 1536) (v1 : Int32) : wpX_forward (fun r => wpY_forward (fun r' v' => r' = r ∧ i_Rel (k + 3) u v') v v1) u v1 := by
  obtain ⟨c, fs, fu, fb, t, am, ae, ad, ai, aj, ay, ap, au, ab⟩ := u
  obtain ⟨l, tp, t', bm, be, bd, bp, bj, bc, by_, bk⟩ := v
  obtain ⟨rfl, rfl, n, hn, rfl, X⟩ := I
  exact sq_forward hn X v1
theorem i_vc_backward {k : Nat} {u : SX} {v : SY} (I : i_Rel k u v) (hk : k + 3 ≤ 1536) (v1 : Int32) : wpX_backward (fun r => wpY_backward (fun r' v' => r' = r ∧ i_Rel (k + 3) u v') v v1) u v1 := by
  obtain ⟨c, fs, fu, fb, t, am, ae, ad, ai, aj, ay, ap, au, ab⟩ := u
  obtain ⟨l, tp, t', bm, be, bd, bp, bj, bc, by_, bk⟩ := v
  obtain ⟨rfl, rfl, n, hn, rfl, X⟩ := I
  exact sq_backward hn X v1
theorem i_vc_up {k : Nat} {u : SX} {v : SY} (I : i_Rel k u v) (hk : k + 3 ≤ 1536) (v1 : Int32) : wpX_up (fun r => wpY_up (fun r' v' => r' = r ∧ i_Rel (k + 3) u v') v v1) u v1 := by
  obtain ⟨c, fs, fu, fb, t, am, ae, ad, ai, aj, ay, ap, au, ab⟩ := u
  obtain ⟨l, tp, t', bm, be, bd, bp, bj, bc, by_, bk⟩ := v
  obtain ⟨rfl, rfl, n, hn, rfl, X⟩ := I
  exact sq_up hn X v1
theorem i_vc_down {k : Nat} {u : SX} {v : SY} (I : i_Rel k u v) (hk : k + 3 ≤ 1536) (v1 : Int32) : wpX_down (fun r => wpY_down (fun r' v' => r' = r ∧ i_Rel (k + 3) u v') v v1) u v1 := by
  obtain ⟨c, fs, fu, fb, t, am, ae, ad, ai, aj, ay, ap, au, ab⟩ := u
  obtain ⟨l, tp, t', bm, be, bd, bp, bj, bc, by_, bk⟩ := v
  obtain ⟨rfl, rfl, n, hn, rfl, X⟩ := I
  exact sq_down hn X v1
theorem i_vc_units {k : Nat} {u : SX} {v : SY} (I : i_Rel k u v) (hk : k + 3 ≤ 1536) : wpX_units (fun r => wpY_units (fun r' v' => r' = r ∧ i_Rel (k + 3) u v') v) u := by
  obtain ⟨c, fs, fu, fb, t, am, ae, ad, ai, aj, ay, ap, au, ab⟩ := u
  obtain ⟨l, tp, t', bm, be, bd, bp, bj, bc, by_, bk⟩ := v
  obtain ⟨rfl, rfl, n, hn, rfl, X⟩ := I
  exact sq_units hn X
