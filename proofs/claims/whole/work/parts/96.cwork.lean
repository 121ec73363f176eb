/-! ===== the one's rules and worked; the model's clauseOf and work ===== -/
/-- names that laws may ask for: s at most 2 all ten, else the first six -/
def lim (s : Nat) : Nat := if s ≤ 2 then 10 else 6
/-- the one's Laws are turned to the TEXT o (its arrays' cells) -/
def txt (M : fM) (o c s e : Nat) (nc : Nat) : Prop := mP M 7 2 = some o ∧ 82 ≤ o ∧ 82 ≤ c ∧ 82 ≤ s ∧ 82 ≤ e ∧ mS M o = some (8, 5) ∧ mP M o 0 = some c ∧ mP M o 1 = some s ∧ mP M o 2 = some e ∧ mS M c = some (12, nc) ∧ mS M s = some (12, 5) ∧ mS M e = some (12, 5)
theorem c_rules {L o c s e d u : Nat} {cd : List (Nat × Nat)} {cl : Nat} {T : Nat → Int32} {M : fM} {w : Nat} {i : Int32} {φ : Int32 → fM → Prop} (hS : Str L M) (ht : txt M o c s e cd.length) (hx : TxC cd (mI M c) (mI M s) (mI M e) (mI M d) (mI M u) cl T) (hi : i = nI w) (hw : w < 5) (h1 : fk T w = none → φ 0 M) (h2 : ∀ k, fk T w = some k → φ 1 M) : w_X1_rules 7 i M φ := by
  obtain ⟨t1, t2, t3, t4, t5, t6, t7, t8, t9, t10, t11, t12⟩ := ht
  refine ⟨isO_pt hS (by decide) rfl, nm_of (gN_of t1 (nm_of (dR_of t1 ⟨isO_of (by omega) t6, dR_of t9 (c_cellN t12 hi hw (by omega) ?_)⟩)))⟩
  rcases hx.law hw with ⟨q1, q2⟩ | ⟨k, a, b, q1, q2, q3, q4, q5, q6, q7, -⟩
  · rw [q2]
    exact iF_t (by decide) (h1 q1)
  · rw [q7]
    exact iF_f (fun q => absurd ((nIle (a := b) (b := 0) (by omega) (by omega)).mp q) (by omega)) (h2 k q1)
theorem c_rules0 {L : Nat} {M : fM} {i : Int32} {φ : Int32 → fM → Prop} (hS : Str L M) (ht : mP M 7 2 = none) (h1 : φ 0 M) : w_X1_rules 7 i M φ := ⟨isO_pt hS (by decide) rfl, nm_of (gN_no ht h1)⟩
theorem c_worked {L o c s e d u : Nat} {cd : List (Nat × Nat)} {cl : Nat} {T : Nat → Int32} {M : fM} {w k : Nat} {i : Int32} {nv : Nat → Nat} {φ : Int32 → fM → Prop} (hS : Str L M) (ht : txt M o c s e cd.length) (hx : TxC cd (mI M c) (mI M s) (mI M e) (mI M d) (mI M u) cl T) (hi : i = nI w) (hw : w < 5) (hk : fk T w = some k) (hv : ∀ v, v < lim w → mI M 8 v = nI (nv v) ∧ nv v ≤ 9999) (h : ∀ M2 vs ts, M2.2 = M.2 → (∀ r, r ≠ 9 → ∀ k, mI M2 r k = mI M r k) → lvR T w nv = some (vs, ts) → (w = 2 → ∃ t, ts = [t] ∧ vs = [] ∧ mI M2 9 0 = iI (b01 t)) → (w ≠ 2 → ∃ z, vs = [z] ∧ ts = [] ∧ (-1000000 ≤ z ∧ z ≤ 1000000) ∧ mI M2 9 0 = iI z) → φ (mI M2 9 0) M2) : w_X1_worked 7 i M φ := by
  obtain ⟨t1, t2, t3, t4, t5, t6, t7, t8, t9, t10, t11, t12⟩ := ht
  rcases hx.law hw with ⟨q1, -⟩ | ⟨k', a, b, q1, q2, q3, q4, q4', q5, q6, q7, q8, ⟨q9, q10⟩, q11⟩
  · rw [hk] at q1; cases q1
  rw [hk] at q1
  cases q1
  have hL : lvR T w nv = some (evR nv (cdl T a b) ([], [])) := by
    unfold lvR
    rw [hk, Option.map_some, q7, q8, un_nI (by omega), un_nI (by omega)]
  have hnc : cd.length ≤ 300 := hx.2.2.1
  refine ⟨isO_pt hS (by decide) rfl, nm_of (gN_of t1 (nm_of (dR_of t1 ⟨isO_of (by omega) t6, dR_of t9 (c_cellN t12 hi hw (by omega) ?_)⟩)))⟩
  refine ⟨isO_pt hS (by decide) rfl, nm_of (gN_of t1 (nm_of (dR_of t1 ⟨isO_of (by omega) t6, dR_of t8 (c_cellN t11 hi hw (by omega) ⟨(cdl T a b).length + 1, ?_⟩)⟩)))⟩
  rw [q5, q6]
  refine c_wk_l (nv := nv) (lim := lim w) (tf := [decide (w = 2)]) t2 t3 hnc q4 (by unfold lim; split <;> omega) (cdl T a b) a M [] [] [] (by rw [cdl_len]; omega) hS t1 t6 t7 t10 (fun j x hj => (q11 j x hj).1) hv (fun x hx2 => ?_) q9 ⟨rfl, rfl⟩ trivial (by simp) (fun M2 e2 f2 w2 s2 => ?_)
  · obtain ⟨z1, z2⟩ := q10 x hx2
    exact ⟨z1, z2⟩
  · refine h M2 _ _ e2 f2 hL (fun e => ?_) (fun e => ?_)
    · rw [decide_eq_true e] at w2 s2
      obtain ⟨t, l, g1, g2, g3⟩ := w2
      subst g3
      rw [g1, g2] at s2
      exact ⟨t, g1, g2, s2.1⟩
    · rw [decide_eq_false e] at w2 s2
      obtain ⟨z, l, g1, gb, g2, g3⟩ := w2
      subst g2
      rw [g1, g3] at s2
      exact ⟨z, g1, g3, gb, s2.1⟩
