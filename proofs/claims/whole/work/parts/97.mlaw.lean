/-! ===== the model's clauseOf and work ===== -/
/-- the row of the TEXT i -/
def Tx (M : fM) (i : Nat) : Nat → Int32 := fun k => mI M 73 (705 * i + k)
theorem fk_some {T : Nat → Int32} {s k : Nat} (h : fk T s = some k) : k < un (T 0) ∧ T (1 + 4 * k) = nI s ∧ ∀ j, j < k → T (1 + 4 * j) ≠ nI s := by
  unfold fk at h
  rw [List.find?_range_eq_some] at h
  obtain ⟨h1, h2, h3⟩ := h
  refine ⟨List.mem_range.mp h2, by simpa using h1, fun j hj => by simpa using h3 j hj⟩
theorem fk_none {T : Nat → Int32} {s : Nat} (h : fk T s = none) : ∀ j, j < un (T 0) → T (1 + 4 * j) ≠ nI s := by
  unfold fk at h
  rw [List.find?_range_eq_none] at h
  exact fun j hj => by simpa using h j hj
theorem m_clauseOf_l {L i cl s : Nat} {M : fM} {φ : Int32 → fM → Prop} (hS : Str L M) (hi : i < 4) (hcl : cl ≤ 24) (h0 : Tx M i 0 = nI cl) (h1 : fk (Tx M i) s = none → φ (-1) M) (h2 : ∀ k, fk (Tx M i) s = some k → φ (nI k) M) : ∀ (m k : Nat), k + m = cl → (∀ j, j < k → Tx M i (1 + 4 * j) ≠ nI s) → l_X11_clauseOf_2 φ (m + 1) 70 (nI i) (nI s) (nI k) M := by
  have hun : un (Tx M i 0) = cl := by rw [h0]; exact un_nI (by omega)
  have e1 : (705 : Int32) * nI i = nI (705 * i) := nI_muL 705 i
  have ez : ¬ nI i < 0 := fun c => absurd ((nIlt (a := i) (b := 0) (by omega) (by omega)).mp c) (by omega)
  have r0 : mI M 73 (705 * i) = nI cl := h0
  intro m
  induction m with
  | zero =>
    intro k hk hj
    show b_X11_clauseOf_2 _ φ 70 (nI i) (nI s) (nI k) M
    unfold b_X11_clauseOf_2
    rw [e1, ix_nI (by omega)]
    refine iF_f ez ⟨isO_pt hS (by decide) rfl, dR_of (Str.pg hS rfl) ⟨inA_pt hS rfl (vp_nI (by omega) (by decide)), ?_⟩⟩
    rw [r0]
    refine iF_t ((nIle (by omega) (by omega)).mpr (by omega)) (h1 ?_)
    cases e : fk (Tx M i) s with
    | none => rfl
    | some k0 =>
      obtain ⟨g1, g2, -⟩ := fk_some e
      rw [hun] at g1
      exact absurd g2 (hj k0 (by omega))
  | succ m ih =>
    intro k hk hj
    have e2 : ((nI (705 * i) + (1 : Int32)) + ((4 : Int32) * nI k)) = nI (705 * i + (1 + 4 * k)) := by
      rw [show (1 : Int32) = nI 1 from rfl, show (4 : Int32) = nI 4 from rfl, nI_muL, nI_add, nI_add, Nat.add_assoc]
    show b_X11_clauseOf_2 (l_X11_clauseOf_2 φ (m + 1)) φ 70 (nI i) (nI s) (nI k) M
    generalize l_X11_clauseOf_2 φ (m + 1) = K at ih ⊢
    unfold b_X11_clauseOf_2
    rw [e1, e2, ix_nI (by omega), ix_nI (by omega)]
    refine iF_f ez ⟨isO_pt hS (by decide) rfl, dR_of (Str.pg hS rfl) ⟨inA_pt hS rfl (vp_nI (by omega) (by decide)), iF_f ?_ (dR_of (Str.pg hS rfl) ⟨inA_pt hS rfl (vp_nI (by omega) (by decide)), ?_⟩)⟩⟩
    · rw [r0]
      exact fun c => absurd ((nIle (by omega) (by omega)).mp c) (by omega)
    by_cases e : Tx M i (1 + 4 * k) = nI s
    · refine iF_t e (h2 k ?_)
      cases e3 : fk (Tx M i) s with
      | none => exact absurd e (fk_none e3 k (by rw [hun]; omega))
      | some k0 =>
        obtain ⟨g1, g2, g3⟩ := fk_some e3
        rcases Nat.lt_trichotomy k0 k with q | q | q
        · exact absurd g2 (hj k0 q)
        · rw [q]
        · exact absurd e (g3 k q)
    · refine iF_f e (nm_of ?_)
      rw [show nI k + (1 : Int32) = nI (k + 1) from nI_add k 1]
      refine ih (k + 1) (by omega) fun j hj2 => ?_
      by_cases q : j = k
      · subst q; exact e
      · exact hj j (by omega)
theorem m_clauseOf {L i cl s : Nat} {M : fM} {a b : Int32} {φ : Int32 → fM → Prop} (hS : Str L M) (ha : a = nI i) (hb : b = nI s) (hi : i < 4) (hcl : cl ≤ 24) (h0 : Tx M i 0 = nI cl) (h1 : fk (Tx M i) s = none → φ (-1) M) (h2 : ∀ k, fk (Tx M i) s = some k → φ (nI k) M) : w_X11_clauseOf 70 a b M φ := by
  subst ha hb
  exact ⟨cl + 1, m_clauseOf_l hS hi hcl h0 h1 h2 cl 0 (by omega) fun j hj => by omega⟩
theorem m_clauseOf0 {M : fM} {b : Int32} {φ : Int32 → fM → Prop} (h1 : φ (-1) M) : w_X11_clauseOf 70 (-1) b M φ := ⟨1, iF_t (by decide) h1⟩
theorem m_work {L i w k nc : Nat} {cd : List (Nat × Nat)} {C S E D U : Nat → Int32} {cl : Nat} {M : fM} {a b : Int32} {nv : Nat → Nat} {φ : fM → Prop} (hS : Str L M) (ha : a = nI i) (hb : b = nI k) (hi : i < 4) (hw : w < 5) (hx : TxC cd C S E D U cl (Tx M i)) (hk : fk (Tx M i) w = some k) (hv : ∀ v, v < lim w → mI M 76 v = nI (nv v) ∧ nv v ≤ 9999) (h : ∀ M2 vs ts, M2.2.2 = M.2.2 → (∀ r, r ≠ 78 → ∀ k, mI M2 r k = mI M r k) → (∀ r, r ≠ 77 → ∀ k, mJ M2 r k = mJ M r k) → lvR (Tx M i) w nv = some (vs, ts) → (w = 2 → ∃ t, ts = [t] ∧ vs = [] ∧ mI M2 78 0 = iI (b01 t)) → (w ≠ 2 → ∃ z, vs = [z] ∧ ts = [] ∧ (-1000000 ≤ z ∧ z ≤ 1000000) ∧ mJ M2 77 0 = iJ z) → φ M2) : w_X11_work 70 a b M φ := by
  subst ha hb
  rcases hx.law hw with ⟨q1, -⟩ | ⟨k', a, b, q1, q2, q3, q4, q4', q5, q6, q7, q8, ⟨q9, q10⟩, q11⟩
  · rw [hk] at q1; cases q1
  rw [hk] at q1
  cases q1
  have hL : lvR (Tx M i) w nv = some (evR nv (cdl (Tx M i) a b) ([], [])) := by
    unfold lvR
    rw [hk, Option.map_some, q7, q8, un_nI (by omega), un_nI (by omega)]
  have e1 : (((705 : Int32) * nI i) + (1 : Int32)) + ((4 : Int32) * nI k) = nI (705 * i + 1 + 4 * k) := by
    rw [show (705 : Int32) = nI 705 from rfl, show (1 : Int32) = nI 1 from rfl, show (4 : Int32) = nI 4 from rfl, nI_muL, nI_muL, nI_add, nI_add]
  have e2 : ((705 : Int32) * nI i) + (97 : Int32) = nI (705 * i + 97) := by
    rw [show (705 : Int32) = nI 705 from rfl, show (97 : Int32) = nI 97 from rfl, nI_muL, nI_add]
  have e3 : nI (705 * i + 1 + 4 * k) + (2 : Int32) = nI (705 * i + 1 + 4 * k + 2) := nI_add _ 2
  have r2 : mI M 73 (705 * i + 1 + 4 * k + 2) = nI a := by
    have z : mI M 73 (705 * i + (3 + 4 * k)) = nI a := q7
    rw [show 705 * i + 1 + 4 * k + 2 = 705 * i + (3 + 4 * k) by omega]
    exact z
  have r3 : mI M 73 (705 * i + 1 + 4 * k + 3) = nI b := by
    have z : mI M 73 (705 * i + (4 + 4 * k)) = nI b := q8
    rw [show 705 * i + 1 + 4 * k + 3 = 705 * i + (4 + 4 * k) by omega]
    exact z
  refine nm_of (nm_of ?_)
  rw [e1, e2, e3, ix_nI (by omega)]
  refine ⟨isO_pt hS (by decide) rfl, dR_of (Str.pg hS rfl) ⟨inA_pt hS rfl (vp_nI (by omega) (by decide)), nm_of ⟨(cdl (Tx M i) a b).length + 1, ?_⟩⟩⟩
  rw [r2]
  refine m_wk_l (nv := nv) (lim := lim w) (tf := [decide (w = 2)]) (bb := b) q4' (by unfold lim; split <;> omega) (by omega) (by omega) (cdl (Tx M i) a b) a M [] [] [] (by rw [cdl_len]; omega) hS r3 (fun j x hj => ?_) hv (fun x hx2 => q10 x hx2) q9 ⟨rfl, rfl⟩ trivial trivial (by simp) (fun M2 e2 f2 g2 w2 s2 s3 => ?_)
  · obtain ⟨-, z1, z2⟩ := q11 j x hj
    have z1 : mI M 73 (705 * i + (97 + 2 * (a + j))) = nI x.1 := z1
    have z2 : mI M 73 (705 * i + (98 + 2 * (a + j))) = nI x.2 := z2
    rw [show 705 * i + 97 + 2 * (a + j) = 705 * i + (97 + 2 * (a + j)) by omega, show 705 * i + (97 + 2 * (a + j)) + 1 = 705 * i + (98 + 2 * (a + j)) by omega]
    exact ⟨z1, z2⟩
  · refine h M2 _ _ e2 f2 g2 hL (fun e => ?_) (fun e => ?_)
    · rw [decide_eq_true e] at w2
      obtain ⟨t, l, g1, g2, g3⟩ := w2
      subst g3
      rw [g1] at s3
      exact ⟨t, g1, g2, s3.1⟩
    · rw [decide_eq_false e] at w2
      obtain ⟨z, l, g1, gb, g2, g3⟩ := w2
      subst g2
      rw [g1] at s2
      exact ⟨z, g1, g3, gb, s2.1⟩
