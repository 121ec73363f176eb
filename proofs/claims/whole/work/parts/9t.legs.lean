/-! ===== LEGS: the HOUSE of most, of like ones the latest ===== -/
abbrev lgM (A : Nat → Nat) (a : Int32) (h i : Nat) : Prop := nI (LN A i 0) = a ∧ LN A i 1 = h
def cnN (A : Nat → Nat) (a : Int32) (h : Nat) : Nat → Nat
  | 0 => 0
  | i + 1 => if lgM A a h i then cnN A a h i + 1 else cnN A a h i
def laN (A : Nat → Nat) (a : Int32) (h : Nat) : Nat → Nat
  | 0 => 0
  | i + 1 => if lgM A a h i then i + 1 else laN A a h i
theorem cnN_s {A : Nat → Nat} {a : Int32} {h i : Nat} : cnN A a h (i + 1) = if lgM A a h i then cnN A a h i + 1 else cnN A a h i := rfl
theorem laN_s {A : Nat → Nat} {a : Int32} {h i : Nat} : laN A a h (i + 1) = if lgM A a h i then i + 1 else laN A a h i := rfl
theorem laN_le {A : Nat → Nat} {a : Int32} {h : Nat} : ∀ n, laN A a h n ≤ n ∧ cnN A a h n ≤ n ∧ (cnN A a h n = 0 ↔ laN A a h n = 0)
  | 0 => ⟨Nat.le_refl _, Nat.le_refl _, Iff.rfl⟩
  | n + 1 => by
    obtain ⟨q1, q2, q3⟩ := laN_le (A := A) (a := a) (h := h) n
    rw [cnN_s, laN_s]
    by_cases e : lgM A a h n
    · rw [if_pos e, if_pos e]
      omega
    · rw [if_neg e, if_neg e]
      omega
theorem laN_1 {A : Nat → Nat} {a : Int32} {h i : Nat} : ∀ n, laN A a h n = i + 1 → i < n ∧ lgM A a h i
  | 0, e => absurd e.symm (Nat.succ_ne_zero i)
  | n + 1, e => by
    rw [laN_s] at e
    by_cases q : lgM A a h n
    · rw [if_pos q] at e
      have z : n = i := by omega
      subst z
      exact ⟨Nat.lt_succ_self _, q⟩
    · rw [if_neg q] at e
      obtain ⟨z1, z2⟩ := laN_1 n e
      exact ⟨by omega, z2⟩
theorem laN_2 {A : Nat → Nat} {a : Int32} {h i : Nat} (q : lgM A a h i) : ∀ n, i < n → i + 1 ≤ laN A a h n
  | 0, e => absurd e (by omega)
  | n + 1, e => by
    rw [laN_s]
    by_cases q2 : lgM A a h n
    · rw [if_pos q2]
      omega
    · rw [if_neg q2]
      by_cases z : i = n
      · subst z
        exact absurd q q2
      · exact laN_2 q n (by omega)
theorem laN_i {A : Nat → Nat} {a : Int32} {h h' n : Nat} (e : laN A a h n = laN A a h' n) (p : 0 < laN A a h n) : h = h' := by
  obtain ⟨i, hi⟩ : ∃ i, laN A a h n = i + 1 := ⟨laN A a h n - 1, by omega⟩
  obtain ⟨-, -, z1⟩ := laN_1 n hi
  obtain ⟨-, -, z2⟩ := laN_1 n (e.symm.trans hi)
  exact z1.symm.trans z2
def ltN (A : Nat → Nat) (a : Int32) (h b : Nat) : Prop := cnN A a h (sh_ A) < cnN A a b (sh_ A) ∨ (cnN A a h (sh_ A) = cnN A a b (sh_ A) ∧ laN A a h (sh_ A) < laN A a b (sh_ A))
def Bst (A : Nat → Nat) (a : Int32) (m : Option Nat) : Prop := (m = none ∧ ∀ h, h < 4 → cnN A a h (sh_ A) = 0) ∨ ∃ b, m = some b ∧ b < 4 ∧ 0 < cnN A a b (sh_ A) ∧ ∀ h, h < 4 → h ≠ b → ltN A a h b
theorem Bst_u {A : Nat → Nat} {a : Int32} {m m2 : Option Nat} (h : Bst A a m) (h2 : Bst A a m2) : m = m2 := by
  rcases h with ⟨rfl, h⟩ | ⟨b, rfl, hb, hc, h⟩
  · rcases h2 with ⟨rfl, h2⟩ | ⟨b2, rfl, hb2, hc2, h2⟩
    · rfl
    · have := h b2 hb2
      omega
  · rcases h2 with ⟨rfl, h2⟩ | ⟨b2, rfl, hb2, hc2, h2⟩
    · have := h2 b hb
      omega
    · by_cases e : b = b2
      · rw [e]
      · have q1 := h b2 hb2 (fun c => e c.symm)
        have q2 := h2 b hb e
        unfold ltN at q1 q2
        omega
def lgV (A : Nat → Nat) (b : Int32) (m : Option Nat) (v : Int32) : Prop := (b = -1 ∧ m = none ∧ v = -1) ∨ (b = -1 ∧ ∃ h, m = some h ∧ v = nI (A (10 + 18 * h))) ∨ ∃ h2, h2 ≤ 3 ∧ b = nI h2 ∧ ((m = none ∧ v = -100) ∨ ∃ h, m = some h ∧ v = nI (A (10 + 18 * h)) - nI (A (10 + 18 * h2)))
def T_legs (a b : Int32) : (Nat → Int32) → (Nat → Nat) → Int32 → (Nat → Nat) → Prop := fun _ A v A2 => A2 = A ∧ ((¬ (0 ≤ a.toInt ∧ a.toInt < A 0 ∧ -1 ≤ b.toInt ∧ b.toInt ≤ 3) ∧ v = -100) ∨ (0 ≤ a.toInt ∧ a.toInt < A 0 ∧ ∃ m, Bst A a m ∧ lgV A b m v))
theorem LN_h {B i : Nat} {A : Nat → Nat} (hO : Okk B A) : LN A i 1 < 4 := hO.2.2.2.2.2.2 _ (Nat.mod_lt _ (by omega))
/-- the one's first walk: how often in each HOUSE -/
theorem c_often_l {L B nx : Nat} {A : Nat → Nat} {a : Int32} {φ : Int32 → fM → Prop} (hO : Okk B A) : ∀ (m i : Nat) (M : fM), i + m = sh_ A → Str L M → Cls M 10 A nx → (∀ h, h < 4 → mI M 65 h = nI (cnN A a h i)) → (∀ M2, Frm scr M M2 → (∀ h, h < 4 → mI M2 65 h = nI (cnN A a h (sh_ A))) → ∃ n, l_X6_mostOften_80 φ n 64 a (-1 : Int32) (nI (sh_ A) - 1) M2) → l_X6_mostOften_10 φ (m + 1) 64 a (nI i) M := by
  have o5 := hO.1.2.2.2.2.2.1
  have h40 := sh_le A
  intro m
  induction m with
  | zero =>
    intro i M hi hS hC h65 hz
    obtain rfl : i = sh_ A := by omega
    refine ⟨isO_pt hS (by decide) rfl, dR_of (Str.pg hS rfl) ⟨isO_pt hS (by decide) rfl, c_lines hS hC hO (iF_t ((nIle (by omega) (by omega)).mpr (Nat.le_refl _)) ⟨isO_pt hS (by decide) rfl, dR_of (Str.pg hS rfl) ⟨isO_pt hS (by decide) rfl, c_lines hS hC hO (nm_of (hz M Frm.rf h65))⟩⟩)⟩⟩
  | succ m ih =>
    intro i M hi hS hC h65 hz
    show b_X6_mostOften_10 (l_X6_mostOften_10 φ (m + 1)) φ 64 a (nI i) M
    generalize hK : l_X6_mostOften_10 φ (m + 1) = K at ih ⊢
    refine ⟨isO_pt hS (by decide) rfl, dR_of (Str.pg hS rfl) ⟨isO_pt hS (by decide) rfl, c_lines hS hC hO (iF_f (fun c => absurd ((nIle (by omega) (by omega)).mp c) (by omega)) ⟨isO_pt hS (by decide) rfl, dR_of (Str.pg hS rfl) ⟨isO_pt hS (by decide) rfl, c_line (k := 0) hS hC hO rfl rfl (by omega) (by omega) ?_⟩⟩)⟩⟩
    have e1 : nI i + (1 : Int32) = nI (i + 1) := nI_add _ 1
    have hh := LN_h (i := i) hO
    by_cases q : nI (LN A i 0) = a
    · refine iF_t q ⟨isO_pt hS (by decide) rfl, dR_of (Str.pg hS rfl) ⟨isO_pt hS (by decide) rfl, c_line (k := 1) hS hC hO rfl rfl (by omega) (by omega) ⟨isO_pt hS (by decide) rfl, dR_of (Str.pg hS rfl) (dR_of (Str.pg hS rfl) (c_cellN (Str.sh hS 64 _ rfl) rfl hh (by omega) (c_putN (by omega) (Str.sh hS 64 _ rfl) rfl hh (by omega) (nm_of ?_))))⟩⟩⟩
      rw [h65 _ hh, e1, show nI (cnN A a (LN A i 1) i) + (1 : Int32) = nI (cnN A a (LN A i 1) i + 1) from nI_add _ 1]
      have f : Frm scr M (wI M 65 (LN A i 1) (nI (cnN A a (LN A i 1) i + 1))) := by
        have cn : 0 + 0 = 0 := rfl; have cm : 0 + 0 = 0 := rfl; have cr : 0 + 0 = 0 := rfl; have ct : 0 + 0 = 0 := rfl; have ch : 0 + 0 = 0 := rfl; have p1 : 0 + 0 = 0 := rfl; have p2 : 0 + 0 = 0 := rfl; have p3 : 0 + 0 = 0 := rfl; have s4 : 0 + 0 = 0 := rfl; have s5 : 0 + 0 = 0 := rfl; have s6 : 0 + 0 = 0 := rfl; have s9 : 0 + 0 = 0 := rfl; have s11 : 0 + 0 = 0 := rfl; have s14 : 0 + 0 = 0 := rfl; have s15 : 0 + 0 = 0 := rfl; have s17 : 0 + 0 = 0 := rfl; have cb : 0 + 0 = 0 := rfl; have cg : 0 + 0 = 0 := rfl; have m1 : 0 + 0 = 0 := rfl; have m4 : 0 + 0 = 0 := rfl; have f5 : 0 + 0 = 0 := rfl; have f6 : 0 + 0 = 0 := rfl; have t1 : 0 + 0 = 0 := rfl; have t2 : 0 + 0 = 0 := rfl; have e1 : 0 + 0 = 0 := rfl; have e2 : 0 + 0 = 0 := rfl; have e3 : 0 + 0 = 0 := rfl
        (refine ⟨rfl, fun _ => rfl, fun r hr k hk => ?_⟩; (try unfold clr at hr); (try unfold mdr at hr); (try unfold scr at hr); simp (disch := omega) only [lit32, Nat.add_sub_cancel, Nat.sub_zero, Nat.reduceSub, nI_add, nI_muL, nI_sub, ix_nI, mI_s, mI_n, mI_fs, mI_fn, mI_ci, mI_co, mI_si, mI_so, Nat.add_zero, up_n, up_s, cpA_i, cpA_o, shA_i, shA_o, fiA_i, fiA_o, imin_l, imin_r, nI_mod, nI_div, xr_e, cn, cm, cr, ct, ch, p1, p2, p3, s4, s5, s6, s9, s11, s14, s15, s17, cb, cg, m1, m4, f5, f6, t1, t2, e1, e2, e3]; first | done | fail)
      refine ih (i + 1) _ (by omega) (f.S hS) (f.sC o5 hC) (fun h hh4 => ?_) fun M2 f2 q2 => hz M2 (f.tr f2) q2
      rw [cnN_s]
      by_cases z : LN A i 1 = h
      · rw [if_pos ⟨q, z⟩, ← z]
        exact mI_s rfl rfl
      · rw [if_neg (fun c => z c.2)]
        exact (mI_n (by omega)).trans (h65 h hh4)
    · refine iF_f q (nm_of ?_)
      rw [e1]
      refine ih (i + 1) M (by omega) hS hC (fun h hh4 => ?_) hz
      rw [cnN_s, if_neg (fun c => q c.1)]
      exact h65 h hh4
/-- the one's second walk, from the latest line on -/
theorem c_most_l {L B nx : Nat} {A : Nat → Nat} {a : Int32} {φ : Int32 → fM → Prop} (hO : Okk B A) {M : fM} (hS : Str L M) (hC : Cls M 10 A nx) (h65 : ∀ h, h < 4 → mI M 65 h = nI (cnN A a h (sh_ A))) (hz : ∀ m v, Bst A a m → ((m = none ∧ v = -1) ∨ ∃ b, m = some b ∧ v = nI b) → φ v M) : ∀ (i : Nat) (w : Int32), i ≤ sh_ A → ((w = -1 ∧ ∀ h, h < 4 → laN A a h (sh_ A) ≤ i) ∨ ∃ b, w = nI b ∧ b < 4 ∧ i < laN A a b (sh_ A) ∧ ∀ h, h < 4 → h ≠ b → i < laN A a h (sh_ A) → ltN A a h b) → l_X6_mostOften_80 φ (i + 1) 64 a w (nI i - 1) M := by
  have h40 := sh_le A
  intro i
  induction i with
  | zero =>
    intro w hi hw
    refine iF_t (by decide) ?_
    rcases hw with ⟨rfl, hw⟩ | ⟨b, rfl, hb, hb2, hw⟩
    · refine hz none (-1) (Or.inl ⟨rfl, fun h hh => ?_⟩) (Or.inl ⟨rfl, rfl⟩)
      have z := (laN_le (A := A) (a := a) (h := h) (sh_ A)).2.2
      have q := hw h hh
      omega
    · have zb := (laN_le (A := A) (a := a) (h := b) (sh_ A)).2.2
      refine hz (some b) (nI b) (Or.inr ⟨b, rfl, hb, by omega, fun h hh hne => ?_⟩) (Or.inr ⟨b, rfl, rfl⟩)
      have z := (laN_le (A := A) (a := a) (h := h) (sh_ A)).2.2
      by_cases q : 0 < laN A a h (sh_ A)
      · exact hw h hh hne q
      · unfold ltN
        omega
  | succ i ih =>
    intro w hi hw
    show b_X6_mostOften_80 (l_X6_mostOften_80 φ (i + 1)) φ 64 a w (nI (i + 1) - 1) M
    generalize hK : l_X6_mostOften_80 φ (i + 1) = K at ih ⊢
    have e : nI (i + 1) - (1 : Int32) = nI i := (nI_sub (a := i + 1) (b := 1) (by omega)).trans (by rw [Nat.add_sub_cancel])
    have e1 : nI i + (-1 : Int32) = nI i - 1 := (Int32.sub_eq_add_neg _ _).symm
    rw [e]
    have hh := LN_h (i := i) hO
    refine iF_f (fun c => absurd ((nIlt (b := 0) (by omega) (by omega)).mp c) (by omega)) ⟨isO_pt hS (by decide) rfl, dR_of (Str.pg hS rfl) ⟨isO_pt hS (by decide) rfl, c_line (k := 1) hS hC hO rfl rfl (by omega) (by omega) ⟨isO_pt hS (by decide) rfl, dR_of (Str.pg hS rfl) ⟨isO_pt hS (by decide) rfl, c_line (k := 0) hS hC hO rfl rfl (by omega) (by omega) ?_⟩⟩⟩⟩
    by_cases q : nI (LN A i 0) = a
    · refine iF_t q ?_
      have hl := laN_2 (A := A) (a := a) (h := LN A i 1) (i := i) ⟨q, rfl⟩ (sh_ A) (by omega)
      have new : ∀ h, laN A a h (sh_ A) = i + 1 → h = LN A i 1 := fun h z => (laN_1 _ z).2.2.symm
      rcases hw with ⟨rfl, hw⟩ | ⟨b, rfl, hb, hb2, hw⟩
      · refine iF_t rfl (nm_of ?_)
        rw [e1]
        refine ih (nI (LN A i 1)) (by omega) (Or.inr ⟨_, rfl, hh, by omega, fun h hh4 hne hlt => ?_⟩)
        have z := hw h hh4
        exact absurd (new h (by omega)) hne
      · refine iF_f (fun c => ?_) ⟨isO_pt hS (by decide) rfl, dR_of (Str.pg hS rfl) (c_cellN (Str.sh hS 64 _ rfl) rfl hh (by omega) ⟨isO_pt hS (by decide) rfl, dR_of (Str.pg hS rfl) (c_cellN (Str.sh hS 64 _ rfl) rfl hb (by omega) ?_)⟩)⟩
        · have z : (nI b).toInt = (-1 : Int32).toInt := congrArg Int32.toInt c
          rw [toInt_nI (by omega), show (-1 : Int32).toInt = -1 from rfl] at z
          omega
        rw [h65 _ hh, h65 _ hb]
        have lh := laN_le (A := A) (a := a) (h := LN A i 1) (sh_ A)
        have lb := laN_le (A := A) (a := a) (h := b) (sh_ A)
        by_cases z : cnN A a (LN A i 1) (sh_ A) ≤ cnN A a b (sh_ A)
        · refine iF_t ((nIle (by omega) (by omega)).mpr z) (nm_of ?_)
          rw [e1]
          refine ih (nI b) (by omega) (Or.inr ⟨b, rfl, hb, by omega, fun h hh4 hne hlt => ?_⟩)
          by_cases z2 : i + 1 < laN A a h (sh_ A)
          · exact hw h hh4 hne z2
          · have z3 : laN A a h (sh_ A) = i + 1 := by omega
            have z4 := new h z3
            unfold ltN
            rw [z4] at z3 ⊢
            omega
        · refine iF_f (fun c => z ((nIle (by omega) (by omega)).mp c)) (nm_of ?_)
          rw [e1]
          have hnb : LN A i 1 ≠ b := fun c => z (by rw [c]; exact Nat.le_refl _)
          refine ih (nI (LN A i 1)) (by omega) (Or.inr ⟨_, rfl, hh, by omega, fun h hh4 hne hlt => ?_⟩)
          by_cases z2 : i + 1 < laN A a h (sh_ A)
          · by_cases z3 : h = b
            · subst z3
              exact Or.inl (by omega)
            · have z4 := hw h hh4 z3 z2
              unfold ltN at z4 ⊢
              omega
          · exact absurd (new h (by omega)) hne
    · refine iF_f q (nm_of ?_)
      rw [e1]
      have no : ∀ h, i < laN A a h (sh_ A) → i + 1 < laN A a h (sh_ A) := fun h z => by
        by_cases z2 : laN A a h (sh_ A) = i + 1
        · exact absurd (laN_1 _ z2).2.1 q
        · omega
      refine ih w (by omega) ?_
      rcases hw with ⟨rfl, hw⟩ | ⟨b, rfl, hb, hb2, hw⟩
      · refine Or.inl ⟨rfl, fun h hh4 => ?_⟩
        have z := hw h hh4
        by_cases z2 : i < laN A a h (sh_ A)
        · have := no h z2
          omega
        · omega
      · exact Or.inr ⟨b, rfl, hb, by omega, fun h hh4 hne hlt => hw h hh4 hne (no h hlt)⟩
theorem c_most {L B nx : Nat} {A : Nat → Nat} {M : fM} {a : Int32} {φ : Int32 → fM → Prop} (hS : Str L M) (hC : Cls M 10 A nx) (hO : Okk B A) (hz : ∀ M2 m v, Frm scr M M2 → Bst A a m → ((m = none ∧ v = -1) ∨ ∃ b, m = some b ∧ v = nI b) → φ v M2) : w_X6_mostOften 64 a M φ := by
  have o5 := hO.1.2.2.2.2.2.1
  have h40 := sh_le A
  refine ⟨isO_pt hS (by decide) rfl, dR_of (Str.pg hS rfl) (c_fil (n := 4) (by omega) (by decide) (Str.sh hS 64 _ rfl) ⟨sh_ A + 1, ?_⟩)⟩
  have f : Frm scr M (fil M 65 0 4 (0 : Int32)) := by
    have cn : 0 + 0 = 0 := rfl; have cm : 0 + 0 = 0 := rfl; have cr : 0 + 0 = 0 := rfl; have ct : 0 + 0 = 0 := rfl; have ch : 0 + 0 = 0 := rfl; have p1 : 0 + 0 = 0 := rfl; have p2 : 0 + 0 = 0 := rfl; have p3 : 0 + 0 = 0 := rfl; have s4 : 0 + 0 = 0 := rfl; have s5 : 0 + 0 = 0 := rfl; have s6 : 0 + 0 = 0 := rfl; have s9 : 0 + 0 = 0 := rfl; have s11 : 0 + 0 = 0 := rfl; have s14 : 0 + 0 = 0 := rfl; have s15 : 0 + 0 = 0 := rfl; have s17 : 0 + 0 = 0 := rfl; have cb : 0 + 0 = 0 := rfl; have cg : 0 + 0 = 0 := rfl; have m1 : 0 + 0 = 0 := rfl; have m4 : 0 + 0 = 0 := rfl; have f5 : 0 + 0 = 0 := rfl; have f6 : 0 + 0 = 0 := rfl; have t1 : 0 + 0 = 0 := rfl; have t2 : 0 + 0 = 0 := rfl; have e1 : 0 + 0 = 0 := rfl; have e2 : 0 + 0 = 0 := rfl; have e3 : 0 + 0 = 0 := rfl
    (refine ⟨rfl, fun _ => rfl, fun r hr k hk => ?_⟩; (try unfold clr at hr); (try unfold mdr at hr); (try unfold scr at hr); simp (disch := omega) only [lit32, Nat.add_sub_cancel, Nat.sub_zero, Nat.reduceSub, nI_add, nI_muL, nI_sub, ix_nI, mI_s, mI_n, mI_fs, mI_fn, mI_ci, mI_co, mI_si, mI_so, Nat.add_zero, up_n, up_s, cpA_i, cpA_o, shA_i, shA_o, fiA_i, fiA_o, imin_l, imin_r, nI_mod, nI_div, xr_e, cn, cm, cr, ct, ch, p1, p2, p3, s4, s5, s6, s9, s11, s14, s15, s17, cb, cg, m1, m4, f5, f6, t1, t2, e1, e2, e3]; first | done | fail)
  refine c_often_l (B := B) (nx := nx) hO (sh_ A) 0 _ (by omega) (f.S hS) (f.sC o5 hC) (fun h hh => ?_) fun M2 f2 h65 => ⟨sh_ A + 1, c_most_l hO ((f.tr f2).S hS) ((f.tr f2).sC o5 hC) h65 (fun m v q1 q2 => hz M2 m v (f.tr f2) q1 q2) (sh_ A) (-1) (Nat.le_refl _) (Or.inl ⟨rfl, fun h _ => (laN_le _).1⟩)⟩
  rw [mI_fil, if_pos ⟨rfl, Nat.zero_le _, hh⟩]
  rfl
theorem c_legs32 {L B nx : Nat} {A : Nat → Nat} {M : fM} {a b : Int32} {o : Option Nat} {φ : Int32 → fM → Prop} (hS : Str L M) (hC : Cls M 10 A nx) (hO : Okk B A) (ho : (b = -1 ∧ o = none) ∨ ∃ h, h ≤ 3 ∧ b = nI h ∧ o = some (20 + 2 * h)) (hz : ∀ M2 m v, Frm scr M M2 → Bst A a m → lgV A b m v → φ v M2) : j_X6_legsOf_32 φ 64 a o M := by
  have o5 := hO.1.2.2.2.2.2.1
  refine ⟨isO_pt hS (by decide) rfl, dR_of (Str.pg hS rfl) (c_most hS hC hO fun M2 m w f hm hw => ?_)⟩
  have hS2 := f.S hS
  obtain ⟨cn, -⟩ := (f.sC o5 hC).f
  refine ⟨isO_pt hS2 (by decide) rfl, ?_⟩
  have hm4 : ∀ h, m = some h → h < 4 := fun h e => by
    rcases hm with ⟨q, -⟩ | ⟨b', q, z, -⟩
    · rw [q] at e
      cases e
    · rw [q] at e
      cases e
      exact z
  rcases hw with ⟨rfl, rfl⟩ | ⟨h, rfl, rfl⟩
  · refine iF_t (by decide) ?_
    rcases ho with ⟨rfl, rfl⟩ | ⟨h2, hh2, rfl, rfl⟩
    · exact gN_no rfl (gN_no rfl (hz M2 none (-1) f hm (Or.inl ⟨rfl, rfl, rfl⟩)))
    · exact gN_of rfl (gN_no rfl (hz M2 none (-100) f hm (Or.inr (Or.inr ⟨h2, hh2, rfl, Or.inl ⟨rfl, rfl⟩⟩))))
  · have hh4 := hm4 h rfl
    refine c_hO10 hS2 hh4 ?_
    rcases ho with ⟨rfl, rfl⟩ | ⟨h2, hh2, rfl, rfl⟩
    · refine gN_no rfl (gN_of rfl ⟨isO_hs hS2 hh4, ?_⟩)
      rw [cn _ hh4]
      exact hz M2 (some h) _ f hm (Or.inr (Or.inl ⟨rfl, h, rfl, rfl⟩))
    · have hh24 : h2 < 4 := by omega
      refine gN_of rfl (gN_of rfl ⟨isO_hs hS2 hh4, isO_hs hS2 hh24, ?_⟩)
      rw [cn _ hh4, cn _ hh24]
      exact hz M2 (some h) _ f hm (Or.inr (Or.inr ⟨h2, hh2, rfl, Or.inr ⟨h, rfl, rfl⟩⟩))
theorem c_legs (L B : Nat) (a b : Int32) : CSp L B (fun M φ => w_X6_legsOf 64 a b M φ) (T_legs a b) := by
  intro M A nx φ hS hC hO hT hz
  show w_X6_legsOf 64 a b M φ
  have o5 := hO.1.2.2.2.2.2.1
  have o0 := hO.1.1
  obtain ⟨cn, cm, cr, ct, ch, p1, p2, p3, s4, s5, s6, s9, s11, s14, s15, s17, cb, cg⟩ := hC.f
  have m1 : 0 + 0 = 0 := rfl; have m4 : 0 + 0 = 0 := rfl; have f5 : 0 + 0 = 0 := rfl; have f6 : 0 + 0 = 0 := rfl; have t1 : 0 + 0 = 0 := rfl; have t2 : 0 + 0 = 0 := rfl; have e1 : 0 + 0 = 0 := rfl; have e2 : 0 + 0 = 0 := rfl; have e3 : 0 + 0 = 0 := rfl
  have bad : ¬ (0 ≤ a.toInt ∧ a.toInt < A 0 ∧ -1 ≤ b.toInt ∧ b.toInt ≤ 3) → φ (-100) M := fun q => hz (-100) A nx M ⟨rfl, Or.inl ⟨q, rfl⟩⟩ Frm.rf hC
  have fin : 0 ≤ a.toInt → a.toInt < A 0 → ∀ M2 m v, Frm scr M M2 → Bst A a m → lgV A b m v → φ v M2 := fun q1 q2 M2 m v f h1 h2 => hz v A nx M2 ⟨rfl, Or.inr ⟨q1, q2, m, h1, h2⟩⟩ f.sc (f.sC o5 hC)
  refine ⟨isO_pt hS (by decide) rfl, dR_of (Str.pg hS rfl) ⟨isO_pt hS (by decide) rfl, ?_⟩⟩
  rcases Decidable.em (0 ≤ b.toInt ∧ b.toInt ≤ (3 : Nat)) with hv | hv
  · obtain ⟨h, hh, rfl⟩ := rgI hv.1 hv.2
    refine c_hO10 hS (by omega) ⟨isO_pt hS (by decide) rfl, dR_of (Str.pg hS rfl) ⟨isO_pt hS (by decide) rfl, ?_⟩⟩
    unfold w_X5_isPerson
    repeat' (first | ((with_reducible refine c_fil_hh (L := L) ?_ ?_ ?_); (exact hS); omega) | ((with_reducible refine c_build (L := L) ?_ ?_ ?_); (exact hS); omega) | with_reducible refine nm_of ?_ | with_reducible refine st_of ?_ | ((with_reducible apply dR_of); first | exact Str.pg hS rfl | exact sp_hsx hS (by omega) | exact sp_hs hS (by omega) | exact sp_hh hS (by omega) | assumption | fail) | ((with_reducible refine And.intro ?_ ?_); first | exact isO_pt hS (by decide) rfl | exact inA_pt hS rfl (by (first | exact vp_lit (by decide) | (simp (disch := omega) only [lit32, Nat.add_sub_cancel, Nat.sub_zero, Nat.reduceSub, nI_add, nI_muL, nI_sub, ix_nI, mI_s, mI_n, mI_fs, mI_fn, mI_ci, mI_co, mI_si, mI_so, Nat.add_zero, up_n, up_s, cpA_i, cpA_o, shA_i, shA_o, fiA_i, fiA_o, imin_l, imin_r, nI_mod, nI_div, xr_e, cn, cm, cr, ct, ch, p1, p2, p3, s4, s5, s6, s9, s11, s14, s15, s17, cb, cg, m1, m4, f5, f6, t1, t2, e1, e2, e3]; first | done | exact vp_nI (by omega) (by decide)) | exact vp_nI (by omega) (by decide) | fail)) | omega | exact isO_hs hS (by omega) | exact inA_hh hS (by omega) (by (first | exact vp_lit (by decide) | (simp (disch := omega) only [lit32, Nat.add_sub_cancel, Nat.sub_zero, Nat.reduceSub, nI_add, nI_muL, nI_sub, ix_nI, mI_s, mI_n, mI_fs, mI_fn, mI_ci, mI_co, mI_si, mI_so, Nat.add_zero, up_n, up_s, cpA_i, cpA_o, shA_i, shA_o, fiA_i, fiA_o, imin_l, imin_r, nI_mod, nI_div, xr_e, cn, cm, cr, ct, ch, p1, p2, p3, s4, s5, s6, s9, s11, s14, s15, s17, cb, cg, m1, m4, f5, f6, t1, t2, e1, e2, e3]; first | done | exact vp_nI (by omega) (by decide)) | exact vp_nI (by omega) (by decide) | fail)) | exact isB1 | exact isB0 | assumption | fail) | ((with_reducible apply lenA_of); first | exact Str.sh hS _ _ rfl | exact ss_hh hS (by omega) | assumption | fail) | with_reducible refine gN_of rfl ?_ | with_reducible refine gN_no rfl ?_ | ((with_reducible refine iF_t ?_ ?_); focus ((try simp (disch := omega) only [lit32, Nat.add_sub_cancel, Nat.sub_zero, Nat.reduceSub, nI_add, nI_muL, nI_sub, ix_nI, mI_s, mI_n, mI_fs, mI_fn, mI_ci, mI_co, mI_si, mI_so, Nat.add_zero, up_n, up_s, cpA_i, cpA_o, shA_i, shA_o, fiA_i, fiA_o, imin_l, imin_r, nI_mod, nI_div, xr_e, cn, cm, cr, ct, ch, p1, p2, p3, s4, s5, s6, s9, s11, s14, s15, s17, cb, cg, m1, m4, f5, f6, t1, t2, e1, e2, e3, lt_toInt, le_toInt, eq_toInt, toInt_nI, tI_neg, bt_e, tI_sub, tI_subR, tI_subL]); first | done | omega)) | ((with_reducible refine iF_f ?_ ?_); focus ((try simp (disch := omega) only [lit32, Nat.add_sub_cancel, Nat.sub_zero, Nat.reduceSub, nI_add, nI_muL, nI_sub, ix_nI, mI_s, mI_n, mI_fs, mI_fn, mI_ci, mI_co, mI_si, mI_so, Nat.add_zero, up_n, up_s, cpA_i, cpA_o, shA_i, shA_o, fiA_i, fiA_o, imin_l, imin_r, nI_mod, nI_div, xr_e, cn, cm, cr, ct, ch, p1, p2, p3, s4, s5, s6, s9, s11, s14, s15, s17, cb, cg, m1, m4, f5, f6, t1, t2, e1, e2, e3, lt_toInt, le_toInt, eq_toInt, toInt_nI, tI_neg, bt_e, tI_sub, tI_subR, tI_subL]); first | done | omega)) | ((with_reducible refine iF_s (fun hc => ?_) (fun hc => ?_)) <;> (try simp (disch := omega) only [lit32, Nat.add_sub_cancel, Nat.sub_zero, Nat.reduceSub, nI_add, nI_muL, nI_sub, ix_nI, mI_s, mI_n, mI_fs, mI_fn, mI_ci, mI_co, mI_si, mI_so, Nat.add_zero, up_n, up_s, cpA_i, cpA_o, shA_i, shA_o, fiA_i, fiA_o, imin_l, imin_r, nI_mod, nI_div, xr_e, cn, cm, cr, ct, ch, p1, p2, p3, s4, s5, s6, s9, s11, s14, s15, s17, cb, cg, m1, m4, f5, f6, t1, t2, e1, e2, e3, lt_toInt, le_toInt, eq_toInt, toInt_nI, tI_neg, bt_e, tI_sub, tI_subR, tI_subL] at hc)) | fail)
    all_goals first | (exfalso; omega) | exact bad (by omega) | exact c_legs32 hS hC hO (Or.inr ⟨h, hh, rfl, rfl⟩) (fin (by omega) (by omega)) | fail
  · have nb : (w_X5_isPerson 10 a M fun x47 M43 => iF (x47 = 0) (φ (-100 : Int32) M43) (gN none (fun y48 => j_X6_legsOf_32 φ 64 a (some y48) M43) (iF (b = (-1 : Int32)) (j_X6_legsOf_32 φ 64 a none M43) (φ (-100 : Int32) M43)))) := by
      unfold w_X5_isPerson
      by_cases e : b = -1
      · subst e
        repeat' (first | ((with_reducible refine c_fil_hh (L := L) ?_ ?_ ?_); (exact hS); omega) | ((with_reducible refine c_build (L := L) ?_ ?_ ?_); (exact hS); omega) | with_reducible refine nm_of ?_ | with_reducible refine st_of ?_ | ((with_reducible apply dR_of); first | exact Str.pg hS rfl | exact sp_hsx hS (by omega) | exact sp_hs hS (by omega) | exact sp_hh hS (by omega) | assumption | fail) | ((with_reducible refine And.intro ?_ ?_); first | exact isO_pt hS (by decide) rfl | exact inA_pt hS rfl (by (first | exact vp_lit (by decide) | (simp (disch := omega) only [lit32, Nat.add_sub_cancel, Nat.sub_zero, Nat.reduceSub, nI_add, nI_muL, nI_sub, ix_nI, mI_s, mI_n, mI_fs, mI_fn, mI_ci, mI_co, mI_si, mI_so, Nat.add_zero, up_n, up_s, cpA_i, cpA_o, shA_i, shA_o, fiA_i, fiA_o, imin_l, imin_r, nI_mod, nI_div, xr_e, cn, cm, cr, ct, ch, p1, p2, p3, s4, s5, s6, s9, s11, s14, s15, s17, cb, cg, m1, m4, f5, f6, t1, t2, e1, e2, e3]; first | done | exact vp_nI (by omega) (by decide)) | exact vp_nI (by omega) (by decide) | fail)) | omega | exact isO_hs hS (by omega) | exact inA_hh hS (by omega) (by (first | exact vp_lit (by decide) | (simp (disch := omega) only [lit32, Nat.add_sub_cancel, Nat.sub_zero, Nat.reduceSub, nI_add, nI_muL, nI_sub, ix_nI, mI_s, mI_n, mI_fs, mI_fn, mI_ci, mI_co, mI_si, mI_so, Nat.add_zero, up_n, up_s, cpA_i, cpA_o, shA_i, shA_o, fiA_i, fiA_o, imin_l, imin_r, nI_mod, nI_div, xr_e, cn, cm, cr, ct, ch, p1, p2, p3, s4, s5, s6, s9, s11, s14, s15, s17, cb, cg, m1, m4, f5, f6, t1, t2, e1, e2, e3]; first | done | exact vp_nI (by omega) (by decide)) | exact vp_nI (by omega) (by decide) | fail)) | exact isB1 | exact isB0 | assumption | fail) | ((with_reducible apply lenA_of); first | exact Str.sh hS _ _ rfl | exact ss_hh hS (by omega) | assumption | fail) | with_reducible refine gN_of rfl ?_ | with_reducible refine gN_no rfl ?_ | ((with_reducible refine iF_t ?_ ?_); focus ((try simp (disch := omega) only [lit32, Nat.add_sub_cancel, Nat.sub_zero, Nat.reduceSub, nI_add, nI_muL, nI_sub, ix_nI, mI_s, mI_n, mI_fs, mI_fn, mI_ci, mI_co, mI_si, mI_so, Nat.add_zero, up_n, up_s, cpA_i, cpA_o, shA_i, shA_o, fiA_i, fiA_o, imin_l, imin_r, nI_mod, nI_div, xr_e, cn, cm, cr, ct, ch, p1, p2, p3, s4, s5, s6, s9, s11, s14, s15, s17, cb, cg, m1, m4, f5, f6, t1, t2, e1, e2, e3, lt_toInt, le_toInt, eq_toInt, toInt_nI, tI_neg, bt_e, tI_sub, tI_subR, tI_subL]); first | done | omega)) | ((with_reducible refine iF_f ?_ ?_); focus ((try simp (disch := omega) only [lit32, Nat.add_sub_cancel, Nat.sub_zero, Nat.reduceSub, nI_add, nI_muL, nI_sub, ix_nI, mI_s, mI_n, mI_fs, mI_fn, mI_ci, mI_co, mI_si, mI_so, Nat.add_zero, up_n, up_s, cpA_i, cpA_o, shA_i, shA_o, fiA_i, fiA_o, imin_l, imin_r, nI_mod, nI_div, xr_e, cn, cm, cr, ct, ch, p1, p2, p3, s4, s5, s6, s9, s11, s14, s15, s17, cb, cg, m1, m4, f5, f6, t1, t2, e1, e2, e3, lt_toInt, le_toInt, eq_toInt, toInt_nI, tI_neg, bt_e, tI_sub, tI_subR, tI_subL]); first | done | omega)) | ((with_reducible refine iF_s (fun hc => ?_) (fun hc => ?_)) <;> (try simp (disch := omega) only [lit32, Nat.add_sub_cancel, Nat.sub_zero, Nat.reduceSub, nI_add, nI_muL, nI_sub, ix_nI, mI_s, mI_n, mI_fs, mI_fn, mI_ci, mI_co, mI_si, mI_so, Nat.add_zero, up_n, up_s, cpA_i, cpA_o, shA_i, shA_o, fiA_i, fiA_o, imin_l, imin_r, nI_mod, nI_div, xr_e, cn, cm, cr, ct, ch, p1, p2, p3, s4, s5, s6, s9, s11, s14, s15, s17, cb, cg, m1, m4, f5, f6, t1, t2, e1, e2, e3, lt_toInt, le_toInt, eq_toInt, toInt_nI, tI_neg, bt_e, tI_sub, tI_subR, tI_subL] at hc)) | fail)
        all_goals first | (exfalso; omega) | exact bad (by omega) | exact gN_no rfl (iF_t rfl (c_legs32 hS hC hO (Or.inl ⟨rfl, rfl⟩) (fin (by omega) (by omega)))) | exact c_legs32 hS hC hO (Or.inl ⟨rfl, rfl⟩) (fin (by omega) (by omega)) | fail
      · have e2 : b.toInt ≠ -1 := fun c => e (Int32.toInt_inj.mp c)
        repeat' (first | ((with_reducible refine c_fil_hh (L := L) ?_ ?_ ?_); (exact hS); omega) | ((with_reducible refine c_build (L := L) ?_ ?_ ?_); (exact hS); omega) | with_reducible refine nm_of ?_ | with_reducible refine st_of ?_ | ((with_reducible apply dR_of); first | exact Str.pg hS rfl | exact sp_hsx hS (by omega) | exact sp_hs hS (by omega) | exact sp_hh hS (by omega) | assumption | fail) | ((with_reducible refine And.intro ?_ ?_); first | exact isO_pt hS (by decide) rfl | exact inA_pt hS rfl (by (first | exact vp_lit (by decide) | (simp (disch := omega) only [lit32, Nat.add_sub_cancel, Nat.sub_zero, Nat.reduceSub, nI_add, nI_muL, nI_sub, ix_nI, mI_s, mI_n, mI_fs, mI_fn, mI_ci, mI_co, mI_si, mI_so, Nat.add_zero, up_n, up_s, cpA_i, cpA_o, shA_i, shA_o, fiA_i, fiA_o, imin_l, imin_r, nI_mod, nI_div, xr_e, cn, cm, cr, ct, ch, p1, p2, p3, s4, s5, s6, s9, s11, s14, s15, s17, cb, cg, m1, m4, f5, f6, t1, t2, e1, e2, e3]; first | done | exact vp_nI (by omega) (by decide)) | exact vp_nI (by omega) (by decide) | fail)) | omega | exact isO_hs hS (by omega) | exact inA_hh hS (by omega) (by (first | exact vp_lit (by decide) | (simp (disch := omega) only [lit32, Nat.add_sub_cancel, Nat.sub_zero, Nat.reduceSub, nI_add, nI_muL, nI_sub, ix_nI, mI_s, mI_n, mI_fs, mI_fn, mI_ci, mI_co, mI_si, mI_so, Nat.add_zero, up_n, up_s, cpA_i, cpA_o, shA_i, shA_o, fiA_i, fiA_o, imin_l, imin_r, nI_mod, nI_div, xr_e, cn, cm, cr, ct, ch, p1, p2, p3, s4, s5, s6, s9, s11, s14, s15, s17, cb, cg, m1, m4, f5, f6, t1, t2, e1, e2, e3]; first | done | exact vp_nI (by omega) (by decide)) | exact vp_nI (by omega) (by decide) | fail)) | exact isB1 | exact isB0 | assumption | fail) | ((with_reducible apply lenA_of); first | exact Str.sh hS _ _ rfl | exact ss_hh hS (by omega) | assumption | fail) | with_reducible refine gN_of rfl ?_ | with_reducible refine gN_no rfl ?_ | ((with_reducible refine iF_t ?_ ?_); focus ((try simp (disch := omega) only [lit32, Nat.add_sub_cancel, Nat.sub_zero, Nat.reduceSub, nI_add, nI_muL, nI_sub, ix_nI, mI_s, mI_n, mI_fs, mI_fn, mI_ci, mI_co, mI_si, mI_so, Nat.add_zero, up_n, up_s, cpA_i, cpA_o, shA_i, shA_o, fiA_i, fiA_o, imin_l, imin_r, nI_mod, nI_div, xr_e, cn, cm, cr, ct, ch, p1, p2, p3, s4, s5, s6, s9, s11, s14, s15, s17, cb, cg, m1, m4, f5, f6, t1, t2, e1, e2, e3, lt_toInt, le_toInt, eq_toInt, toInt_nI, tI_neg, bt_e, tI_sub, tI_subR, tI_subL]); first | done | omega)) | ((with_reducible refine iF_f ?_ ?_); focus ((try simp (disch := omega) only [lit32, Nat.add_sub_cancel, Nat.sub_zero, Nat.reduceSub, nI_add, nI_muL, nI_sub, ix_nI, mI_s, mI_n, mI_fs, mI_fn, mI_ci, mI_co, mI_si, mI_so, Nat.add_zero, up_n, up_s, cpA_i, cpA_o, shA_i, shA_o, fiA_i, fiA_o, imin_l, imin_r, nI_mod, nI_div, xr_e, cn, cm, cr, ct, ch, p1, p2, p3, s4, s5, s6, s9, s11, s14, s15, s17, cb, cg, m1, m4, f5, f6, t1, t2, e1, e2, e3, lt_toInt, le_toInt, eq_toInt, toInt_nI, tI_neg, bt_e, tI_sub, tI_subR, tI_subL]); first | done | omega)) | ((with_reducible refine iF_s (fun hc => ?_) (fun hc => ?_)) <;> (try simp (disch := omega) only [lit32, Nat.add_sub_cancel, Nat.sub_zero, Nat.reduceSub, nI_add, nI_muL, nI_sub, ix_nI, mI_s, mI_n, mI_fs, mI_fn, mI_ci, mI_co, mI_si, mI_so, Nat.add_zero, up_n, up_s, cpA_i, cpA_o, shA_i, shA_o, fiA_i, fiA_o, imin_l, imin_r, nI_mod, nI_div, xr_e, cn, cm, cr, ct, ch, p1, p2, p3, s4, s5, s6, s9, s11, s14, s15, s17, cb, cg, m1, m4, f5, f6, t1, t2, e1, e2, e3, lt_toInt, le_toInt, eq_toInt, toInt_nI, tI_neg, bt_e, tI_sub, tI_subR, tI_subL] at hc)) | fail)
        all_goals first | (exfalso; omega) | exact bad (by omega) | fail
    unfold w_X5_houseOf
    repeat' (first | ((with_reducible refine c_fil_hh (L := L) ?_ ?_ ?_); (exact hS); omega) | ((with_reducible refine c_build (L := L) ?_ ?_ ?_); (exact hS); omega) | with_reducible refine nm_of ?_ | with_reducible refine st_of ?_ | ((with_reducible apply dR_of); first | exact Str.pg hS rfl | exact sp_hsx hS (by omega) | exact sp_hs hS (by omega) | exact sp_hh hS (by omega) | assumption | fail) | ((with_reducible refine And.intro ?_ ?_); first | exact isO_pt hS (by decide) rfl | exact inA_pt hS rfl (by (first | exact vp_lit (by decide) | (simp (disch := omega) only [lit32, Nat.add_sub_cancel, Nat.sub_zero, Nat.reduceSub, nI_add, nI_muL, nI_sub, ix_nI, mI_s, mI_n, mI_fs, mI_fn, mI_ci, mI_co, mI_si, mI_so, Nat.add_zero, up_n, up_s, cpA_i, cpA_o, shA_i, shA_o, fiA_i, fiA_o, imin_l, imin_r, nI_mod, nI_div, xr_e, cn, cm, cr, ct, ch, p1, p2, p3, s4, s5, s6, s9, s11, s14, s15, s17, cb, cg, m1, m4, f5, f6, t1, t2, e1, e2, e3]; first | done | exact vp_nI (by omega) (by decide)) | exact vp_nI (by omega) (by decide) | fail)) | omega | exact isO_hs hS (by omega) | exact inA_hh hS (by omega) (by (first | exact vp_lit (by decide) | (simp (disch := omega) only [lit32, Nat.add_sub_cancel, Nat.sub_zero, Nat.reduceSub, nI_add, nI_muL, nI_sub, ix_nI, mI_s, mI_n, mI_fs, mI_fn, mI_ci, mI_co, mI_si, mI_so, Nat.add_zero, up_n, up_s, cpA_i, cpA_o, shA_i, shA_o, fiA_i, fiA_o, imin_l, imin_r, nI_mod, nI_div, xr_e, cn, cm, cr, ct, ch, p1, p2, p3, s4, s5, s6, s9, s11, s14, s15, s17, cb, cg, m1, m4, f5, f6, t1, t2, e1, e2, e3]; first | done | exact vp_nI (by omega) (by decide)) | exact vp_nI (by omega) (by decide) | fail)) | exact isB1 | exact isB0 | assumption | fail) | ((with_reducible apply lenA_of); first | exact Str.sh hS _ _ rfl | exact ss_hh hS (by omega) | assumption | fail) | with_reducible refine gN_of rfl ?_ | with_reducible refine gN_no rfl ?_ | ((with_reducible refine iF_t ?_ ?_); focus ((try simp (disch := omega) only [lit32, Nat.add_sub_cancel, Nat.sub_zero, Nat.reduceSub, nI_add, nI_muL, nI_sub, ix_nI, mI_s, mI_n, mI_fs, mI_fn, mI_ci, mI_co, mI_si, mI_so, Nat.add_zero, up_n, up_s, cpA_i, cpA_o, shA_i, shA_o, fiA_i, fiA_o, imin_l, imin_r, nI_mod, nI_div, xr_e, cn, cm, cr, ct, ch, p1, p2, p3, s4, s5, s6, s9, s11, s14, s15, s17, cb, cg, m1, m4, f5, f6, t1, t2, e1, e2, e3, lt_toInt, le_toInt, eq_toInt, toInt_nI, tI_neg, bt_e, tI_sub, tI_subR, tI_subL]); first | done | omega)) | ((with_reducible refine iF_f ?_ ?_); focus ((try simp (disch := omega) only [lit32, Nat.add_sub_cancel, Nat.sub_zero, Nat.reduceSub, nI_add, nI_muL, nI_sub, ix_nI, mI_s, mI_n, mI_fs, mI_fn, mI_ci, mI_co, mI_si, mI_so, Nat.add_zero, up_n, up_s, cpA_i, cpA_o, shA_i, shA_o, fiA_i, fiA_o, imin_l, imin_r, nI_mod, nI_div, xr_e, cn, cm, cr, ct, ch, p1, p2, p3, s4, s5, s6, s9, s11, s14, s15, s17, cb, cg, m1, m4, f5, f6, t1, t2, e1, e2, e3, lt_toInt, le_toInt, eq_toInt, toInt_nI, tI_neg, bt_e, tI_sub, tI_subR, tI_subL]); first | done | omega)) | ((with_reducible refine iF_s (fun hc => ?_) (fun hc => ?_)) <;> (try simp (disch := omega) only [lit32, Nat.add_sub_cancel, Nat.sub_zero, Nat.reduceSub, nI_add, nI_muL, nI_sub, ix_nI, mI_s, mI_n, mI_fs, mI_fn, mI_ci, mI_co, mI_si, mI_so, Nat.add_zero, up_n, up_s, cpA_i, cpA_o, shA_i, shA_o, fiA_i, fiA_o, imin_l, imin_r, nI_mod, nI_div, xr_e, cn, cm, cr, ct, ch, p1, p2, p3, s4, s5, s6, s9, s11, s14, s15, s17, cb, cg, m1, m4, f5, f6, t1, t2, e1, e2, e3, lt_toInt, le_toInt, eq_toInt, toInt_nI, tI_neg, bt_e, tI_sub, tI_subR, tI_subL] at hc)) | fail)
    all_goals first | (exfalso; omega) | exact nb | fail
/-- the model's walk over one HOUSE -/
theorem m_cnt_l {L B h : Nat} {A : Nat → Nat} {M : fM} {a p2 p3 p4 : Int32} {φ : Int32 → fM → Prop} {K10 : Nat → Int32 → Int32 → Int32 → Int32 → Int32 → fM → Prop} (hS : Str L M) (hM : Mdl M 71 A) (hO : Okk B A) (hh : h < 4) (hz : iF (nI (cnN A a h (sh_ A)) < p3) (nm (nI h + (1 : Int32)) fun x8 => K10 70 a p2 p3 p4 x8 M) (iF (nI (cnN A a h (sh_ A)) = 0) (nm (nI h + (1 : Int32)) fun x10 => K10 70 a p2 p3 p4 x10 M) (iF (nI (cnN A a h (sh_ A)) = p3) (iF (p4 ≤ nI (laN A a h (sh_ A)) - 1) (j_X11_legsOf_100 K10 φ 70 a (nI h) (nI (cnN A a h (sh_ A))) (nI (laN A a h (sh_ A)) - 1) M) (nm (nI h + (1 : Int32)) fun x12 => K10 70 a p2 p3 p4 x12 M)) (j_X11_legsOf_100 K10 φ 70 a (nI h) (nI (cnN A a h (sh_ A))) (nI (laN A a h (sh_ A)) - 1) M)))) : ∀ (m i : Nat), i + m = sh_ A → l_X11_legsOf_25 K10 φ (m + 1) 70 a p2 p3 p4 (nI h) (nI (cnN A a h i)) (nI (laN A a h i) - 1) (nI i) M := by
  have h40 := sh_le A
  intro m
  induction m with
  | zero =>
    intro i hi
    obtain rfl : i = sh_ A := by omega
    have le : nI (sh_ A) ≤ nI (sh_ A) := (nIle (by omega) (by omega)).mpr (Nat.le_refl _)
    exact ⟨isO_pt hS (by decide) rfl, m_shown hS hM hO (iF_t le hz)⟩
  | succ m ih =>
    intro i hi
    show b_X11_legsOf_25 K10 (l_X11_legsOf_25 K10 φ (m + 1)) φ 70 a p2 p3 p4 (nI h) (nI (cnN A a h i)) (nI (laN A a h i) - 1) (nI i) M
    generalize hK : l_X11_legsOf_25 K10 φ (m + 1) = K at ih ⊢
    have e1 : nI i + (1 : Int32) = nI (i + 1) := nI_add _ 1
    have hl := LN_h (i := i) hO
    have q := ih (i + 1) (by omega)
    rw [cnN_s, laN_s] at q
    refine ⟨isO_pt hS (by decide) rfl, m_shown hS hM hO (iF_f (fun c => absurd ((nIle (by omega) (by omega)).mp c) (by omega)) ⟨isO_pt hS (by decide) rfl, m_line (k := 0) hS hM hO rfl rfl (by omega) (by omega) ?_⟩)⟩
    by_cases z : nI (LN A i 0) = a
    · refine iF_t z ⟨isO_pt hS (by decide) rfl, m_line (k := 1) hS hM hO rfl rfl (by omega) (by omega) ?_⟩
      by_cases z2 : LN A i 1 = h
      · rw [if_pos ⟨z, z2⟩, if_pos ⟨z, z2⟩] at q
        refine iF_t (by rw [z2]) (nm_of (nm_of ?_))
        rw [e1, show nI (cnN A a h i) + (1 : Int32) = nI (cnN A a h i + 1) from nI_add _ 1]
        rw [show nI (i + 1) - (1 : Int32) = nI i from (nI_sub (a := i + 1) (b := 1) (by omega)).trans (by rw [Nat.add_sub_cancel])] at q
        exact q
      · rw [if_neg (fun c => z2 c.2), if_neg (fun c => z2 c.2)] at q
        refine iF_f (fun c => z2 (nI_inj (by omega) (by omega) c)) (nm_of ?_)
        rw [e1]
        exact q
    · rw [if_neg (fun c => z c.1), if_neg (fun c => z c.1)] at q
      refine iF_f z (nm_of ?_)
      rw [e1]
      exact q
theorem m_lg_l {L B : Nat} {A : Nat → Nat} {M : fM} {a : Int32} {φ : Int32 → fM → Prop} (hS : Str L M) (hM : Mdl M 71 A) (hO : Okk B A) (hz : ∀ m v, Bst A a m → ((m = none ∧ v = -1) ∨ ∃ b, b < 4 ∧ m = some b ∧ v = nI (A (10 + 18 * b))) → φ v M) : ∀ (m h : Nat) (p2 p3 p4 : Int32), h + m = 4 → ((p2 = -1 ∧ p3 = 0 ∧ p4 = -1 ∧ ∀ h', h' < h → cnN A a h' (sh_ A) = 0) ∨ ∃ b, b < h ∧ p2 = nI b ∧ p3 = nI (cnN A a b (sh_ A)) ∧ p4 = nI (laN A a b (sh_ A)) - 1 ∧ 0 < cnN A a b (sh_ A) ∧ ∀ h', h' < h → h' ≠ b → ltN A a h' b) → l_X11_legsOf_10 φ (m + 1) 70 a p2 p3 p4 (nI h) M := by
  have h40 := sh_le A
  have oH := hO.2.1
  intro m
  induction m with
  | zero =>
    intro h p2 p3 p4 hh hw
    obtain rfl : h = 4 := by omega
    refine iF_t (by decide) ?_
    rcases hw with ⟨rfl, rfl, rfl, hw⟩ | ⟨b, hb, rfl, rfl, rfl, hc, hw⟩
    · exact iF_f (by decide) (hz none (-1) (Or.inl ⟨rfl, hw⟩) (Or.inl ⟨rfl, rfl⟩))
    · have ex : (10 : Int32) + ((18 : Int32) * nI b) = nI (10 + 18 * b) := by simp only [lit32, nI_muL, nI_add]
      refine iF_t ((nIle (a := 0) (by omega) (by omega)).mpr (Nat.zero_le _)) ⟨isO_pt hS (by decide) rfl, ?_⟩
      unfold w_X11_stepsOf
      rw [ex, ix_nI (by omega)]
      refine ⟨isO_pt hS (by decide) rfl, dR_of (Str.pg hS rfl) ⟨inA_pt hS rfl (vp_nI (by omega) (by decide)), ?_⟩⟩
      rw [hM.1 _ (by omega) (by omega)]
      exact hz (some b) _ (Or.inr ⟨b, rfl, hb, hc, hw⟩) (Or.inr ⟨b, hb, rfl, rfl⟩)
  | succ m ih =>
    intro h p2 p3 p4 hh hw
    show b_X11_legsOf_10 (l_X11_legsOf_10 φ (m + 1)) φ 70 a p2 p3 p4 (nI h) M
    generalize hK : l_X11_legsOf_10 φ (m + 1) = K at ih ⊢
    refine iF_f (fun c => absurd ((nIle (a := 4) (by omega) (by omega)).mp c) (by omega)) ⟨sh_ A + 1, m_cnt_l (B := B) (h := h) hS hM hO (by omega) ?_ (sh_ A) 0 (by omega)⟩
    have e1 : nI h + (1 : Int32) = nI (h + 1) := nI_add _ 1
    have lh := laN_le (A := A) (a := a) (h := h) (sh_ A)
    rcases hw with ⟨rfl, rfl, rfl, hw⟩ | ⟨b, hb, rfl, rfl, rfl, hc, hw⟩
    · refine iF_f (fun c => absurd ((nIlt (b := 0) (by omega) (by omega)).mp c) (by omega)) ?_
      by_cases z : cnN A a h (sh_ A) = 0
      · refine iF_t (by rw [z]; rfl) (nm_of ?_)
        rw [e1]
        refine ih (h + 1) (-1) 0 (-1) (by omega) (Or.inl ⟨rfl, rfl, rfl, fun h' q => ?_⟩)
        by_cases z2 : h' = h
        · rw [z2]
          exact z
        · exact hw h' (by omega)
      · have nz : ¬ (nI (cnN A a h (sh_ A)) = 0) := fun c => z (nI_inj (b := 0) (by omega) (by omega) c)
        refine iF_f nz (iF_f nz (nm_of ?_))
        rw [e1]
        refine ih (h + 1) _ _ _ (by omega) (Or.inr ⟨h, Nat.lt_succ_self h, rfl, rfl, rfl, by omega, fun h' q1 q2 => ?_⟩)
        have := hw h' (by omega)
        unfold ltN
        omega
    · have lb := laN_le (A := A) (a := a) (h := b) (sh_ A)
      have hbh : b ≠ h := by omega
      have keep : ltN A a h b → nm (nI h + (1 : Int32)) fun x8 => K 70 a (nI b) (nI (cnN A a b (sh_ A))) (nI (laN A a b (sh_ A)) - 1) x8 M := fun q => by
        refine nm_of ?_
        rw [e1]
        refine ih (h + 1) _ _ _ (by omega) (Or.inr ⟨b, by omega, rfl, rfl, rfl, hc, fun h' q1 q2 => ?_⟩)
        by_cases z2 : h' = h
        · rw [z2]
          exact q
        · exact hw h' (by omega) q2
      have take : ltN A a b h → j_X11_legsOf_100 K φ 70 a (nI h) (nI (cnN A a h (sh_ A))) (nI (laN A a h (sh_ A)) - 1) M := fun q => by
        refine nm_of ?_
        rw [e1]
        refine ih (h + 1) _ _ _ (by omega) (Or.inr ⟨h, Nat.lt_succ_self h, rfl, rfl, rfl, ?_, fun h' q1 q2 => ?_⟩)
        · unfold ltN at q
          omega
        · by_cases z2 : h' = b
          · rw [z2]
            exact q
          · have q3 := hw h' (by omega) z2
            unfold ltN at q q3 ⊢
            omega
      by_cases z : cnN A a h (sh_ A) < cnN A a b (sh_ A)
      · exact iF_t ((nIlt (by omega) (by omega)).mpr z) (keep (Or.inl z))
      · refine iF_f (fun c => z ((nIlt (by omega) (by omega)).mp c)) (iF_f (fun c => absurd (nI_inj (b := 0) (by omega) (by omega) c) (by omega)) ?_)
        by_cases z2 : cnN A a h (sh_ A) = cnN A a b (sh_ A)
        · refine iF_t (by rw [z2]) ?_
          have s1 : nI (laN A a b (sh_ A)) - (1 : Int32) = nI (laN A a b (sh_ A) - 1) := nI_sub (b := 1) (by omega)
          have s2 : nI (laN A a h (sh_ A)) - (1 : Int32) = nI (laN A a h (sh_ A) - 1) := nI_sub (b := 1) (by omega)
          have ne : laN A a b (sh_ A) ≠ laN A a h (sh_ A) := fun c => hbh (laN_i c (by omega))
          by_cases z3 : laN A a b (sh_ A) - 1 ≤ laN A a h (sh_ A) - 1
          · refine iF_t (by rw [s1, s2]; exact (nIle (by omega) (by omega)).mpr z3) (take (Or.inr ⟨z2.symm, by omega⟩))
          · refine iF_f (fun c => ?_) (keep (Or.inr ⟨z2, by omega⟩))
            rw [s1, s2] at c
            exact z3 ((nIle (by omega) (by omega)).mp c)
        · exact iF_f (fun c => z2 (nI_inj (by omega) (by omega) c)) (take (Or.inl (by omega)))
theorem m_legs (L B : Nat) (a b : Int32) : MSp L B (fun M φ => w_X11_legs 70 a b M φ) (T_legs a b) := by
  intro M A A2 v φ hS hM hO hT hv hz
  obtain ⟨m1, m4⟩ := id hM
  have cn : 0 + 0 = 0 := rfl
  have cm : 0 + 0 = 0 := rfl
  have cr : 0 + 0 = 0 := rfl
  have ct : 0 + 0 = 0 := rfl
  have ch : 0 + 0 = 0 := rfl
  have p1 : 0 + 0 = 0 := rfl
  have p2 : 0 + 0 = 0 := rfl
  have p3 : 0 + 0 = 0 := rfl
  have s4 : 0 + 0 = 0 := rfl
  have s5 : 0 + 0 = 0 := rfl
  have s6 : 0 + 0 = 0 := rfl
  have s9 : 0 + 0 = 0 := rfl
  have s11 : 0 + 0 = 0 := rfl
  have s14 : 0 + 0 = 0 := rfl
  have s15 : 0 + 0 = 0 := rfl
  have s17 : 0 + 0 = 0 := rfl
  have cb : 0 + 0 = 0 := rfl
  have cg : 0 + 0 = 0 := rfl
  have f5 : 0 + 0 = 0 := rfl
  have f6 : 0 + 0 = 0 := rfl
  have t1 : 0 + 0 = 0 := rfl
  have t2 : 0 + 0 = 0 := rfl
  have e1 : 0 + 0 = 0 := rfl
  have e2 : 0 + 0 = 0 := rfl
  have e3 : 0 + 0 = 0 := rfl
  obtain ⟨⟨o0, o1, o2, o3, o4, o5, o6, o7, o8, o9⟩, oH, oP, oW, oA, oG, oB⟩ := id hO
  show w_X11_legs 70 a b M φ
  obtain ⟨rfl, hv⟩ := hv
  have fin : φ v M := hz M Frm.rf hM
  rcases hv with ⟨hv, rfl⟩ | ⟨ha1, ha2, m, hb, hl⟩
  · unfold w_X11_legs w_X11_isPerson w_X11_isIn
    repeat' (first | ((with_reducible refine c_fil_hh (L := L) ?_ ?_ ?_); (exact hS); omega) | ((with_reducible refine c_build (L := L) ?_ ?_ ?_); (exact hS); omega) | with_reducible refine nm_of ?_ | with_reducible refine st_of ?_ | ((with_reducible apply dR_of); first | exact Str.pg hS rfl | exact sp_hsx hS (by omega) | exact sp_hs hS (by omega) | exact sp_hh hS (by omega) | assumption | fail) | ((with_reducible refine And.intro ?_ ?_); first | exact isO_pt hS (by decide) rfl | exact inA_pt hS rfl (by (first | exact vp_lit (by decide) | (simp (disch := omega) only [lit32, Nat.add_sub_cancel, Nat.sub_zero, Nat.reduceSub, nI_add, nI_muL, nI_sub, ix_nI, mI_s, mI_n, mI_fs, mI_fn, mI_ci, mI_co, mI_si, mI_so, Nat.add_zero, up_n, up_s, cpA_i, cpA_o, shA_i, shA_o, fiA_i, fiA_o, imin_l, imin_r, nI_mod, nI_div, xr_e, cn, cm, cr, ct, ch, p1, p2, p3, s4, s5, s6, s9, s11, s14, s15, s17, cb, cg, m1, m4, f5, f6, t1, t2, e1, e2, e3]; first | done | exact vp_nI (by omega) (by decide)) | exact vp_nI (by omega) (by decide) | fail)) | omega | exact isO_hs hS (by omega) | exact inA_hh hS (by omega) (by (first | exact vp_lit (by decide) | (simp (disch := omega) only [lit32, Nat.add_sub_cancel, Nat.sub_zero, Nat.reduceSub, nI_add, nI_muL, nI_sub, ix_nI, mI_s, mI_n, mI_fs, mI_fn, mI_ci, mI_co, mI_si, mI_so, Nat.add_zero, up_n, up_s, cpA_i, cpA_o, shA_i, shA_o, fiA_i, fiA_o, imin_l, imin_r, nI_mod, nI_div, xr_e, cn, cm, cr, ct, ch, p1, p2, p3, s4, s5, s6, s9, s11, s14, s15, s17, cb, cg, m1, m4, f5, f6, t1, t2, e1, e2, e3]; first | done | exact vp_nI (by omega) (by decide)) | exact vp_nI (by omega) (by decide) | fail)) | exact isB1 | exact isB0 | assumption | fail) | ((with_reducible apply lenA_of); first | exact Str.sh hS _ _ rfl | exact ss_hh hS (by omega) | assumption | fail) | with_reducible refine gN_of rfl ?_ | with_reducible refine gN_no rfl ?_ | ((with_reducible refine iF_t ?_ ?_); focus ((try simp (disch := omega) only [lit32, Nat.add_sub_cancel, Nat.sub_zero, Nat.reduceSub, nI_add, nI_muL, nI_sub, ix_nI, mI_s, mI_n, mI_fs, mI_fn, mI_ci, mI_co, mI_si, mI_so, Nat.add_zero, up_n, up_s, cpA_i, cpA_o, shA_i, shA_o, fiA_i, fiA_o, imin_l, imin_r, nI_mod, nI_div, xr_e, cn, cm, cr, ct, ch, p1, p2, p3, s4, s5, s6, s9, s11, s14, s15, s17, cb, cg, m1, m4, f5, f6, t1, t2, e1, e2, e3, lt_toInt, le_toInt, eq_toInt, toInt_nI, tI_neg, bt_e, tI_sub, tI_subR, tI_subL]); first | done | omega)) | ((with_reducible refine iF_f ?_ ?_); focus ((try simp (disch := omega) only [lit32, Nat.add_sub_cancel, Nat.sub_zero, Nat.reduceSub, nI_add, nI_muL, nI_sub, ix_nI, mI_s, mI_n, mI_fs, mI_fn, mI_ci, mI_co, mI_si, mI_so, Nat.add_zero, up_n, up_s, cpA_i, cpA_o, shA_i, shA_o, fiA_i, fiA_o, imin_l, imin_r, nI_mod, nI_div, xr_e, cn, cm, cr, ct, ch, p1, p2, p3, s4, s5, s6, s9, s11, s14, s15, s17, cb, cg, m1, m4, f5, f6, t1, t2, e1, e2, e3, lt_toInt, le_toInt, eq_toInt, toInt_nI, tI_neg, bt_e, tI_sub, tI_subR, tI_subL]); first | done | omega)) | ((with_reducible refine iF_s (fun hc => ?_) (fun hc => ?_)) <;> (try simp (disch := omega) only [lit32, Nat.add_sub_cancel, Nat.sub_zero, Nat.reduceSub, nI_add, nI_muL, nI_sub, ix_nI, mI_s, mI_n, mI_fs, mI_fn, mI_ci, mI_co, mI_si, mI_so, Nat.add_zero, up_n, up_s, cpA_i, cpA_o, shA_i, shA_o, fiA_i, fiA_o, imin_l, imin_r, nI_mod, nI_div, xr_e, cn, cm, cr, ct, ch, p1, p2, p3, s4, s5, s6, s9, s11, s14, s15, s17, cb, cg, m1, m4, f5, f6, t1, t2, e1, e2, e3, lt_toInt, le_toInt, eq_toInt, toInt_nI, tI_neg, bt_e, tI_sub, tI_subR, tI_subL] at hc)) | fail)
    all_goals first | (exfalso; omega) | exact fin | fail
  · have hbr : -1 ≤ b.toInt ∧ b.toInt ≤ 3 := by
      rcases hl with ⟨rfl, -⟩ | ⟨rfl, -⟩ | ⟨h2, hh2, rfl, -⟩
      · decide
      · decide
      · rw [toInt_nI (by omega)]
        omega
    unfold w_X11_legs w_X11_isPerson w_X11_isIn
    repeat' (first | ((with_reducible refine c_fil_hh (L := L) ?_ ?_ ?_); (exact hS); omega) | ((with_reducible refine c_build (L := L) ?_ ?_ ?_); (exact hS); omega) | with_reducible refine nm_of ?_ | with_reducible refine st_of ?_ | ((with_reducible apply dR_of); first | exact Str.pg hS rfl | exact sp_hsx hS (by omega) | exact sp_hs hS (by omega) | exact sp_hh hS (by omega) | assumption | fail) | ((with_reducible refine And.intro ?_ ?_); first | exact isO_pt hS (by decide) rfl | exact inA_pt hS rfl (by (first | exact vp_lit (by decide) | (simp (disch := omega) only [lit32, Nat.add_sub_cancel, Nat.sub_zero, Nat.reduceSub, nI_add, nI_muL, nI_sub, ix_nI, mI_s, mI_n, mI_fs, mI_fn, mI_ci, mI_co, mI_si, mI_so, Nat.add_zero, up_n, up_s, cpA_i, cpA_o, shA_i, shA_o, fiA_i, fiA_o, imin_l, imin_r, nI_mod, nI_div, xr_e, cn, cm, cr, ct, ch, p1, p2, p3, s4, s5, s6, s9, s11, s14, s15, s17, cb, cg, m1, m4, f5, f6, t1, t2, e1, e2, e3]; first | done | exact vp_nI (by omega) (by decide)) | exact vp_nI (by omega) (by decide) | fail)) | omega | exact isO_hs hS (by omega) | exact inA_hh hS (by omega) (by (first | exact vp_lit (by decide) | (simp (disch := omega) only [lit32, Nat.add_sub_cancel, Nat.sub_zero, Nat.reduceSub, nI_add, nI_muL, nI_sub, ix_nI, mI_s, mI_n, mI_fs, mI_fn, mI_ci, mI_co, mI_si, mI_so, Nat.add_zero, up_n, up_s, cpA_i, cpA_o, shA_i, shA_o, fiA_i, fiA_o, imin_l, imin_r, nI_mod, nI_div, xr_e, cn, cm, cr, ct, ch, p1, p2, p3, s4, s5, s6, s9, s11, s14, s15, s17, cb, cg, m1, m4, f5, f6, t1, t2, e1, e2, e3]; first | done | exact vp_nI (by omega) (by decide)) | exact vp_nI (by omega) (by decide) | fail)) | exact isB1 | exact isB0 | assumption | fail) | ((with_reducible apply lenA_of); first | exact Str.sh hS _ _ rfl | exact ss_hh hS (by omega) | assumption | fail) | with_reducible refine gN_of rfl ?_ | with_reducible refine gN_no rfl ?_ | ((with_reducible refine iF_t ?_ ?_); focus ((try simp (disch := omega) only [lit32, Nat.add_sub_cancel, Nat.sub_zero, Nat.reduceSub, nI_add, nI_muL, nI_sub, ix_nI, mI_s, mI_n, mI_fs, mI_fn, mI_ci, mI_co, mI_si, mI_so, Nat.add_zero, up_n, up_s, cpA_i, cpA_o, shA_i, shA_o, fiA_i, fiA_o, imin_l, imin_r, nI_mod, nI_div, xr_e, cn, cm, cr, ct, ch, p1, p2, p3, s4, s5, s6, s9, s11, s14, s15, s17, cb, cg, m1, m4, f5, f6, t1, t2, e1, e2, e3, lt_toInt, le_toInt, eq_toInt, toInt_nI, tI_neg, bt_e, tI_sub, tI_subR, tI_subL]); first | done | omega)) | ((with_reducible refine iF_f ?_ ?_); focus ((try simp (disch := omega) only [lit32, Nat.add_sub_cancel, Nat.sub_zero, Nat.reduceSub, nI_add, nI_muL, nI_sub, ix_nI, mI_s, mI_n, mI_fs, mI_fn, mI_ci, mI_co, mI_si, mI_so, Nat.add_zero, up_n, up_s, cpA_i, cpA_o, shA_i, shA_o, fiA_i, fiA_o, imin_l, imin_r, nI_mod, nI_div, xr_e, cn, cm, cr, ct, ch, p1, p2, p3, s4, s5, s6, s9, s11, s14, s15, s17, cb, cg, m1, m4, f5, f6, t1, t2, e1, e2, e3, lt_toInt, le_toInt, eq_toInt, toInt_nI, tI_neg, bt_e, tI_sub, tI_subR, tI_subL]); first | done | omega)) | fail)
    refine ⟨5, m_lg_l hS hM hO (fun m' w hb' hw => ?_) 4 0 (-1) 0 (-1) rfl (Or.inl ⟨rfl, rfl, rfl, fun h' q => absurd q (by omega)⟩)⟩
    have em := Bst_u hb hb'
    subst em
    rcases hl with ⟨rfl, rfl, rfl⟩ | ⟨rfl, h, rfl, rfl⟩ | ⟨h2, hh2, rfl, hl⟩
    · rcases hw with ⟨-, rfl⟩ | ⟨b', -, q, -⟩
      · exact iF_t rfl fin
      · cases q
    · rcases hw with ⟨q, -⟩ | ⟨b', hb4, q, rfl⟩
      · cases q
      · cases q
        exact iF_t rfl fin
    · have nb : ¬ (nI h2 = (-1 : Int32)) := fun c => by
        have z : (nI h2).toInt = (-1 : Int32).toInt := congrArg Int32.toInt c
        rw [toInt_nI (by omega), show (-1 : Int32).toInt = -1 from rfl] at z
        omega
      refine iF_f nb ?_
      rcases hl with ⟨rfl, rfl⟩ | ⟨h, rfl, rfl⟩
      · rcases hw with ⟨-, rfl⟩ | ⟨b', -, q, -⟩
        · exact iF_f (by decide) fin
        · cases q
      · rcases hw with ⟨q, -⟩ | ⟨b', hb4, q, rfl⟩
        · cases q
        · cases q
          have hn := (oH h hb4).2.1
          have ex : (10 : Int32) + ((18 : Int32) * nI h2) = nI (10 + 18 * h2) := by simp only [lit32, nI_muL, nI_add]
          refine iF_t ((nIle (a := 0) (by omega) (by omega)).mpr (Nat.zero_le _)) ⟨isO_pt hS (by decide) rfl, ?_⟩
          unfold w_X11_stepsOf
          rw [ex, ix_nI (by omega)]
          refine ⟨isO_pt hS (by decide) rfl, dR_of (Str.pg hS rfl) ⟨inA_pt hS rfl (vp_nI (by omega) (by decide)), ?_⟩⟩
          rw [hM.1 _ (by omega) (by omega)]
          exact fin
theorem o_legs (B : Nat) (a b : Int32) : TOk B B (T_legs a b) := by
  intro t A v A2 hO h
  obtain ⟨rfl, -⟩ := h
  exact ⟨hO, rfl⟩
theorem k_legs {L B : Nat} {X : Nat → Int32} {M : fM} {a b : Int32} {φ : Int32 → fM → Prop} (hI : Inv L X B M) (hz : ∀ v M1, Mid L X B (fun M φ => w_X11_legs 70 a b M φ) v M1 → φ v M1) : w_X10_legs 6 a b M φ := by
  refine k_of (w := fun M φ => w_X10_legs 6 a b M φ) (fun M A nx φ hS hC hO hT hz => ?_) (m_legs L B a b) (o_legs B a b) (Nat.le_refl B) hI hz
  exact ⟨isO_pt hS (by decide) rfl, dR_of (Str.pg hS rfl) ⟨isO_pt hS (by decide) rfl, c_legs L B a b M A nx _ hS hC hO hT hz⟩⟩
