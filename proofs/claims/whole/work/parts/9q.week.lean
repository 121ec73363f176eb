/-! ===== WEEK: the numbers ===== -/
def goA (tx : Nat → Int32) (f : Int32) (A : Nat → Nat) : Nat → Nat := if f ≤ nI (A 104) then toA tx A else stA tx A
def gwA (tx : Nat → Int32) (f : Int32) : Nat → (Nat → Nat) → (Nat → Nat)
  | 0, A => A
  | n + 1, A => if A 108 = 1 then gwA tx f n (goA tx f A) else A
def Dn (A : Nat → Nat) : Prop := A 108 = 0 ∧ 1 ≤ A 8 ∧ A (517 + 8 * ((A 8 - 1) % 256) + 5) = A 106
theorem dwA_dn (how : Nat) (A : Nat → Nat) : Dn (dwA how A) := by
  refine ⟨rfl, by rw [dwA_8]; omega, ?_⟩
  rw [dwA_8, Nat.add_sub_cancel, dwA_l (k := 106) (by omega) (by omega) (by omega)]
  unfold dwA
  simp (disch := omega) only [up_n, up_s, cpA_i, cpA_o, shA_i, shA_o, fiA_i, fiA_o, Nat.add_zero]
theorem cnA_l {tx : Nat → Int32} {A : Nat → Nat} {k : Nat} (h2 : k ≠ 2) (h4 : k ≠ 104) : cnA tx A k = A k := (up_n h4).trans (up_n h2)
theorem trA_l {tx : Nat → Int32} {A : Nat → Nat} {k : Nat} (h6 : k ≠ 106) (h7 : k ≠ 107) : trA tx A k = A k := by
  unfold trA
  split
  · rw [up_n h7, up_n h6]
  · rfl
theorem goA_c {tx : Nat → Int32} {f : Int32} {A : Nat → Nat} (h1 : A 108 = 1) : Dn (goA tx f A) ∨ (goA tx f A 108 = 1 ∧ goA tx f A 103 = A 103 + 1) := by
  unfold goA
  split
  · by_cases q : A 103 = A (10 + 18 * A 101)
    · refine Or.inl ?_
      unfold toA
      rw [if_pos q]
      exact dwA_dn _ _
    · refine Or.inr ⟨?_, by rw [toA_103, if_neg q]⟩
      unfold toA
      rw [if_neg q, cnA_l (by omega) (by omega), adA_l (by omega) (by omega)]
      exact h1
  · by_cases q : A 103 = A (10 + 18 * A 101)
    · refine Or.inl ?_
      unfold stA
      rw [if_pos q]
      exact dwA_dn _ _
    · refine Or.inr ⟨?_, by rw [stA_103, if_neg q]⟩
      unfold stA
      rw [if_neg q, cnA_l (by omega) (by omega), trA_l (by omega) (by omega), adA_l (by omega) (by omega)]
      exact h1
theorem goA_l {tx : Nat → Int32} {f : Int32} {A : Nat → Nat} {k : Nat} (hk : k < 100) (h2 : k ≠ 2) (h8 : k ≠ 8) : goA tx f A k = A k := by
  unfold goA
  split
  · exact toA_l hk h2 h8
  · exact stA_l hk h2 h8
theorem o_go {B : Nat} {tx : Nat → Int32} {f : Int32} {A : Nat → Nat} (hO : Okk B A) (h1 : A 108 = 1) (hB : B + 1 ≤ 1000000) : Okk (B + 1) (goA tx f A) := by
  unfold goA
  split
  · exact o_to hO h1 hB
  · exact o_st hO h1 hB
theorem gA_0 {tx : Nat → Int32} {f : Int32} {A : Nat → Nat} (m : Nat) (h : A 108 = 0) : gwA tx f m A = A := by
  cases m with
  | zero => rfl
  | succ m =>
    show (if A 108 = 1 then _ else A) = A
    rw [if_neg (by omega)]
theorem gA_s {tx : Nat → Int32} {f : Int32} {A : Nat → Nat} (m : Nat) (h : A 108 = 1) : gwA tx f (m + 1) A = gwA tx f m (goA tx f A) := by
  show (if A 108 = 1 then _ else A) = _
  rw [if_pos h]
theorem o_g {tx : Nat → Int32} {f : Int32} : ∀ (m B : Nat) (A : Nat → Nat), Okk B A → B + m ≤ 1000000 → Okk (B + m) (gwA tx f m A)
  | 0, _, _, hO, _ => hO
  | m + 1, B, A, hO, hB => by
    rcases hO.2.2.2.1.1 with e | e
    · rw [gA_0 _ e]
      exact hO.mn (by omega) hB
    · rw [gA_s _ e]
      have q := o_g (tx := tx) (f := f) m (B + 1) _ (o_go (tx := tx) (f := f) hO e (by omega)) (by omega)
      rw [show B + (m + 1) = B + 1 + m by omega]
      exact q
theorem gA_l {tx : Nat → Int32} {f : Int32} {k : Nat} (hk : k < 100) (h2 : k ≠ 2) (h8 : k ≠ 8) : ∀ (m : Nat) (A : Nat → Nat), gwA tx f m A k = A k
  | 0, _ => rfl
  | m + 1, A => by
    show (if A 108 = 1 then gwA tx f m (goA tx f A) else A) k = A k
    split
    · exact (gA_l hk h2 h8 m _).trans (goA_l hk h2 h8)
    · rfl
def nxA (A : Nat → Nat) : Nat → Nat := if A 1 = 999 then A else up A 1 (A 1 + 1)
theorem nxA_l {A : Nat → Nat} {k : Nat} (h : k ≠ 1) : nxA A k = A k := by
  unfold nxA
  split
  · rfl
  · exact up_n h
theorem o_nx {B : Nat} {A : Nat → Nat} (hO : Okk B A) : Okk B (nxA A) := by
  obtain ⟨⟨o0, o1, o2, o3, o4, o5, o6, o7, o8, o9⟩, oH, oP, oW, oA, oG, oB⟩ := id hO
  unfold nxA
  split
  · exact hO
  · exact ⟨by (unfold OkS; simp (disch := omega) only [up_n, up_s, cpA_o, shA_o, fiA_o]; omega), oH.cg (by (intros; first | rfl | (simp (disch := omega) only [up_n, cpA_o, shA_o, fiA_o]; first | done | fail))), oP.cg (by (intros; first | rfl | (simp (disch := omega) only [up_n, cpA_o, shA_o, fiA_o]; first | done | fail))) (by (intros; first | rfl | (simp (disch := omega) only [up_n, cpA_o, shA_o, fiA_o]; first | done | fail))), oW.cg (by (first | exact Nat.le_refl _ | (simp (disch := omega) only [up_n, up_s, cpA_o, shA_o, fiA_o]; omega))) (by (intros; first | rfl | (simp (disch := omega) only [up_n, cpA_o, shA_o, fiA_o]; first | done | fail))) (by (intros; first | rfl | (simp (disch := omega) only [up_n, cpA_o, shA_o, fiA_o]; first | done | fail))), oA.cg (by (first | exact Nat.le_refl _ | (simp (disch := omega) only [up_n, up_s, cpA_o, shA_o, fiA_o]; omega))) (by (intros; first | rfl | (simp (disch := omega) only [up_n, cpA_o, shA_o, fiA_o]; first | done | fail))) (by (intros; first | rfl | (simp (disch := omega) only [up_n, cpA_o, shA_o, fiA_o]; first | done | fail))), oG.cg (by (first | exact Nat.le_refl _ | (simp (disch := omega) only [up_n, up_s, cpA_o, shA_o, fiA_o]; omega))) (by (intros; first | rfl | (simp (disch := omega) only [up_n, cpA_o, shA_o, fiA_o]; first | done | fail))) (by (intros; first | rfl | (simp (disch := omega) only [up_n, cpA_o, shA_o, fiA_o]; first | done | fail))), oB.cg (by (intros; first | rfl | (simp (disch := omega) only [up_n, cpA_o, shA_o, fiA_o]; first | done | fail)))⟩
def dyA (tx : Nat → Int32) (f : Int32) (A : Nat → Nat) : Nat → Nat := gwA tx f 15 (bgA (A 2 % A 0) (drA A 2 % 4) 0 (drA (drA A)))
def wkA (tx : Nat → Int32) (f : Int32) : Nat → (Nat → Nat) → (Nat → Nat)
  | 0, A => A
  | n + 1, A => wkA tx f n (nxA (dyA tx f A))
def whA (tx : Nat → Int32) (f : Int32) : Nat → (Nat → Nat) → Nat
  | 0, _ => 0
  | n + 1, A => dyA tx f A 106 + whA tx f n (nxA (dyA tx f A))
theorem bgA_l {p h k j : Nat} {A : Nat → Nat} (hj : j < 100) (h2 : j ≠ 2) : bgA p h k A j = A j := by
  unfold bgA drA
  rw [up_n (by omega), up_n h2, sA_l (Or.inl hj)]
theorem o_dy {B : Nat} {tx : Nat → Int32} {f : Int32} {A : Nat → Nat} (hO : Okk B A) (h0 : 1 ≤ A 0) (hB : B + 15 ≤ 1000000) : Okk (B + 15) (dyA tx f A) := o_g 15 B _ (o_begin (o_draw (o_draw hO)) (show A 2 % A 0 < A 0 from Nat.mod_lt _ (by omega)) (Nat.mod_lt _ (by omega)) (by omega)) hB
theorem dyA_l {tx : Nat → Int32} {f : Int32} {A : Nat → Nat} {k : Nat} (hk : k < 100) (h2 : k ≠ 2) (h8 : k ≠ 8) : dyA tx f A k = A k := by
  unfold dyA
  rw [gA_l hk h2 h8, bgA_l hk h2]
  unfold drA
  rw [up_n h2, up_n h2]
theorem o_wk {tx : Nat → Int32} {f : Int32} : ∀ (m B : Nat) (A : Nat → Nat), Okk B A → 1 ≤ A 0 → B + 15 * m ≤ 1000000 → Okk (B + 15 * m) (wkA tx f m A) ∧ wkA tx f m A 3 = A 3
  | 0, _, _, hO, _, _ => ⟨hO, rfl⟩
  | m + 1, B, A, hO, h0, hB => by
    have q := o_wk (tx := tx) (f := f) m (B + 15) _ (o_nx (o_dy (tx := tx) (f := f) hO h0 (by omega))) (by rw [nxA_l (by omega), dyA_l (by omega) (by omega) (by omega)]; exact h0) (by omega)
    rw [nxA_l (by omega), dyA_l (by omega) (by omega) (by omega), show B + 15 + 15 * m = B + 15 * (m + 1) by omega] at q
    exact q
def T_week (a f : Int32) : (Nat → Int32) → (Nat → Nat) → Int32 → (Nat → Nat) → Prop := fun tx A v A2 => (¬ (0 ≤ a.toInt ∧ a.toInt ≤ 9999 ∧ 0 ≤ f.toInt ∧ f.toInt ≤ 30 ∧ 1 ≤ A 0) ∧ v = -1 ∧ A2 = A) ∨ ∃ s, s ≤ 9999 ∧ a = nI s ∧ 0 ≤ f.toInt ∧ f.toInt ≤ 30 ∧ 1 ≤ A 0 ∧ v = nI (whA tx f 7 (up (kpA A) 2 (3 * s + 13))) ∧ A2 = wkA tx f 7 (up (kpA A) 2 (3 * s + 13))
theorem o_x {B x : Nat} {A : Nat → Nat} (hx : x < 30071) (hO : Okk B A) : Okk B (up A 2 x) := by
  obtain ⟨⟨o0, o1, o2, o3, o4, o5, o6, o7, o8, o9⟩, oH, oP, oW, oA, oG, oB⟩ := id hO
  exact ⟨by (unfold OkS; simp (disch := omega) only [up_n, up_s, cpA_o, shA_o, fiA_o]; omega), oH.cg (by (intros; first | rfl | (simp (disch := omega) only [up_n, cpA_o, shA_o, fiA_o]; first | done | fail))), oP.cg (by (intros; first | rfl | (simp (disch := omega) only [up_n, cpA_o, shA_o, fiA_o]; first | done | fail))) (by (intros; first | rfl | (simp (disch := omega) only [up_n, cpA_o, shA_o, fiA_o]; first | done | fail))), oW.cg (by (first | exact Nat.le_refl _ | (simp (disch := omega) only [up_n, up_s, cpA_o, shA_o, fiA_o]; omega))) (by (intros; first | rfl | (simp (disch := omega) only [up_n, cpA_o, shA_o, fiA_o]; first | done | fail))) (by (intros; first | rfl | (simp (disch := omega) only [up_n, cpA_o, shA_o, fiA_o]; first | done | fail))), oA.cg (by (first | exact Nat.le_refl _ | (simp (disch := omega) only [up_n, up_s, cpA_o, shA_o, fiA_o]; omega))) (by (intros; first | rfl | (simp (disch := omega) only [up_n, cpA_o, shA_o, fiA_o]; first | done | fail))) (by (intros; first | rfl | (simp (disch := omega) only [up_n, cpA_o, shA_o, fiA_o]; first | done | fail))), oG.cg (by (first | exact Nat.le_refl _ | (simp (disch := omega) only [up_n, up_s, cpA_o, shA_o, fiA_o]; omega))) (by (intros; first | rfl | (simp (disch := omega) only [up_n, cpA_o, shA_o, fiA_o]; first | done | fail))) (by (intros; first | rfl | (simp (disch := omega) only [up_n, cpA_o, shA_o, fiA_o]; first | done | fail))), oB.cg (by (intros; first | rfl | (simp (disch := omega) only [up_n, cpA_o, shA_o, fiA_o]; first | done | fail)))⟩
theorem o_week (B : Nat) (a f : Int32) (hB : B + 105 ≤ 1000000) : TOk B (B + 105) (T_week a f) := by
  intro t A v A2 hO h
  rcases h with ⟨-, -, rfl⟩ | ⟨s, hs, e1, e2, e3, h0, e4⟩
  · exact ⟨hO.mn (by omega) hB, rfl⟩
  · rw [e4.2]
    have o5 := hO.1.2.2.2.2.2.1
    have q := o_wk (tx := t) (f := f) 7 B (up (kpA A) 2 (3 * s + 13)) (o_x (by omega) (o_keep hO)) (by rw [up_n (by omega), kpA_l o5 (by omega) (by omega)]; exact h0) (by omega)
    rw [up_n (by omega), kpA_l o5 (by omega) (by omega)] at q
    exact q
/-! ===== WEEK, of the one ===== -/
theorem Cls.w6 {M : fM} {A : Nat → Nat} {nx x : Nat} {v : Int32} (hv : v = nI x) (h5 : A 5 ≤ 30) (h : Cls M 10 A nx) : Cls (wI M 10 6 v) 10 (up A 1 x) nx := by
  subst hv
  obtain ⟨hH, hP, hSc, hW, hB, hG, hA⟩ := h
  obtain ⟨z0, z1, z2, z3, z4, z5, z6, z7⟩ := hSc
  refine ⟨hH.cg (fun r q1 q2 k => mI_n (by omega)) (by (intros; first | rfl | (simp (disch := omega) only [up_n, cpA_o, shA_o, fiA_o]; first | done | fail))), hP.cg (fun r q1 q2 k => mI_n (by omega)) (by (intros; first | rfl | (simp (disch := omega) only [up_n, cpA_o, shA_o, fiA_o]; first | done | fail))), ?_, hW.cg (fun k => mI_n (by omega)) (by (intros; first | rfl | (simp (disch := omega) only [up_n, cpA_o, shA_o, fiA_o]; first | done | fail))), hB.cg (fun k => mI_n (by omega)) (by (intros; first | rfl | (simp (disch := omega) only [up_n, cpA_o, shA_o, fiA_o]; first | done | fail))), hG.cg (fun k => mI_n (by omega)) (by (intros; first | rfl | (simp (disch := omega) only [up_n, cpA_o, shA_o, fiA_o]; first | done | fail))), hA.cg (mI_n (by omega)) (fun k => mI_n (by omega)) (by (intros; first | rfl | (simp (disch := omega) only [up_n, cpA_o, shA_o, fiA_o]; first | done | fail))) h5 (by (intros; first | rfl | (simp (disch := omega) only [up_n, cpA_o, shA_o, fiA_o]; first | done | fail)))⟩
  exact ⟨(mI_n (by omega)).trans z0, (mI_n (by omega)).trans z1, mI_s rfl rfl, (mI_n (by omega)).trans z3, (mI_n (by omega)).trans z4, (mI_n (by omega)).trans z5, (mI_n (by omega)).trans z6, (mI_n (by omega)).trans z7⟩
theorem Cls.w5 {M : fM} {A : Nat → Nat} {nx x : Nat} {v : Int32} (hv : v = nI x) (h5 : A 5 ≤ 30) (h : Cls M 10 A nx) : Cls (wI M 10 5 v) 10 (up A 2 x) nx := by
  subst hv
  obtain ⟨hH, hP, hSc, hW, hB, hG, hA⟩ := h
  obtain ⟨z0, z1, z2, z3, z4, z5, z6, z7⟩ := hSc
  refine ⟨hH.cg (fun r q1 q2 k => mI_n (by omega)) (by (intros; first | rfl | (simp (disch := omega) only [up_n, cpA_o, shA_o, fiA_o]; first | done | fail))), hP.cg (fun r q1 q2 k => mI_n (by omega)) (by (intros; first | rfl | (simp (disch := omega) only [up_n, cpA_o, shA_o, fiA_o]; first | done | fail))), ?_, hW.cg (fun k => mI_n (by omega)) (by (intros; first | rfl | (simp (disch := omega) only [up_n, cpA_o, shA_o, fiA_o]; first | done | fail))), hB.cg (fun k => mI_n (by omega)) (by (intros; first | rfl | (simp (disch := omega) only [up_n, cpA_o, shA_o, fiA_o]; first | done | fail))), hG.cg (fun k => mI_n (by omega)) (by (intros; first | rfl | (simp (disch := omega) only [up_n, cpA_o, shA_o, fiA_o]; first | done | fail))), hA.cg (mI_n (by omega)) (fun k => mI_n (by omega)) (by (intros; first | rfl | (simp (disch := omega) only [up_n, cpA_o, shA_o, fiA_o]; first | done | fail))) h5 (by (intros; first | rfl | (simp (disch := omega) only [up_n, cpA_o, shA_o, fiA_o]; first | done | fail)))⟩
  exact ⟨(mI_n (by omega)).trans z0, mI_s rfl rfl, (mI_n (by omega)).trans z2, (mI_n (by omega)).trans z3, (mI_n (by omega)).trans z4, (mI_n (by omega)).trans z5, (mI_n (by omega)).trans z6, (mI_n (by omega)).trans z7⟩
theorem Frm.w10 {M : fM} {k : Nat} {v : Int32} : Frm clr M (wI M 10 k v) := by
  have cn : 0 + 0 = 0 := rfl; have cm : 0 + 0 = 0 := rfl; have cr : 0 + 0 = 0 := rfl; have ct : 0 + 0 = 0 := rfl; have ch : 0 + 0 = 0 := rfl; have p1 : 0 + 0 = 0 := rfl; have p2 : 0 + 0 = 0 := rfl; have p3 : 0 + 0 = 0 := rfl; have s4 : 0 + 0 = 0 := rfl; have s5 : 0 + 0 = 0 := rfl; have s6 : 0 + 0 = 0 := rfl; have s9 : 0 + 0 = 0 := rfl; have s11 : 0 + 0 = 0 := rfl; have s14 : 0 + 0 = 0 := rfl; have s15 : 0 + 0 = 0 := rfl; have s17 : 0 + 0 = 0 := rfl; have cb : 0 + 0 = 0 := rfl; have cg : 0 + 0 = 0 := rfl; have m1 : 0 + 0 = 0 := rfl; have m4 : 0 + 0 = 0 := rfl; have f5 : 0 + 0 = 0 := rfl; have f6 : 0 + 0 = 0 := rfl; have t1 : 0 + 0 = 0 := rfl; have t2 : 0 + 0 = 0 := rfl; have e1 : 0 + 0 = 0 := rfl; have e2 : 0 + 0 = 0 := rfl; have e3 : 0 + 0 = 0 := rfl
  (refine ⟨rfl, fun _ => rfl, fun r hr k hk => ?_⟩; (try unfold clr at hr); (try unfold mdr at hr); (try unfold scr at hr); simp (disch := omega) only [lit32, Nat.add_sub_cancel, Nat.sub_zero, Nat.reduceSub, nI_add, nI_muL, nI_sub, ix_nI, mI_s, mI_n, mI_fs, mI_fn, mI_ci, mI_co, mI_si, mI_so, Nat.add_zero, up_n, up_s, cpA_i, cpA_o, shA_i, shA_o, fiA_i, fiA_o, imin_l, imin_r, nI_mod, nI_div, xr_e, cn, cm, cr, ct, ch, p1, p2, p3, s4, s5, s6, s9, s11, s14, s15, s17, cb, cg, m1, m4, f5, f6, t1, t2, e1, e2, e3]; first | done | fail)
theorem Frm.w71 {M : fM} {k : Nat} {v : Int32} : Frm mdr M (wI M 71 k v) := by
  have cn : 0 + 0 = 0 := rfl; have cm : 0 + 0 = 0 := rfl; have cr : 0 + 0 = 0 := rfl; have ct : 0 + 0 = 0 := rfl; have ch : 0 + 0 = 0 := rfl; have p1 : 0 + 0 = 0 := rfl; have p2 : 0 + 0 = 0 := rfl; have p3 : 0 + 0 = 0 := rfl; have s4 : 0 + 0 = 0 := rfl; have s5 : 0 + 0 = 0 := rfl; have s6 : 0 + 0 = 0 := rfl; have s9 : 0 + 0 = 0 := rfl; have s11 : 0 + 0 = 0 := rfl; have s14 : 0 + 0 = 0 := rfl; have s15 : 0 + 0 = 0 := rfl; have s17 : 0 + 0 = 0 := rfl; have cb : 0 + 0 = 0 := rfl; have cg : 0 + 0 = 0 := rfl; have m1 : 0 + 0 = 0 := rfl; have m4 : 0 + 0 = 0 := rfl; have f5 : 0 + 0 = 0 := rfl; have f6 : 0 + 0 = 0 := rfl; have t1 : 0 + 0 = 0 := rfl; have t2 : 0 + 0 = 0 := rfl; have e1 : 0 + 0 = 0 := rfl; have e2 : 0 + 0 = 0 := rfl; have e3 : 0 + 0 = 0 := rfl
  (refine ⟨rfl, fun _ => rfl, fun r hr k hk => ?_⟩; (try unfold clr at hr); (try unfold mdr at hr); (try unfold scr at hr); simp (disch := omega) only [lit32, Nat.add_sub_cancel, Nat.sub_zero, Nat.reduceSub, nI_add, nI_muL, nI_sub, ix_nI, mI_s, mI_n, mI_fs, mI_fn, mI_ci, mI_co, mI_si, mI_so, Nat.add_zero, up_n, up_s, cpA_i, cpA_o, shA_i, shA_o, fiA_i, fiA_o, imin_l, imin_r, nI_mod, nI_div, xr_e, cn, cm, cr, ct, ch, p1, p2, p3, s4, s5, s6, s9, s11, s14, s15, s17, cb, cg, m1, m4, f5, f6, t1, t2, e1, e2, e3]; first | done | fail)
theorem c_stir {L B nx : Nat} {A : Nat → Nat} {M : fM} {φ : fM → Prop} (hS : Str L M) (hC : Cls M 10 A nx) (hO : Okk B A) (h : ∀ M2, Frm clr M M2 → Cls M2 10 (drA A) nx → φ M2) : w_X9_stir 57 M φ := by
  have s5 := hC.f.2.2.2.2.2.2.2.2.2.1
  have o2 := hO.1.2.2.1
  have o5 := hO.1.2.2.2.2.2.1
  refine ⟨isO_pt hS (by decide) rfl, dR_of (Str.pg hS rfl) (dR_of (Str.pg hS rfl) ⟨isO_pt hS (by decide) rfl, nm_of ⟨isO_pt hS (by decide) rfl, st_of ?_⟩⟩)⟩
  rw [s5, Int32.mul_comm]
  simp (disch := omega) only [lit32, nI_muL, nI_add, nI_mod]
  exact h _ Frm.w10 (hC.w5 rfl o5)
theorem m_anew {L B : Nat} {A : Nat → Nat} {M : fM} {φ : fM → Prop} (hS : Str L M) (hM : Mdl M 71 A) (hO : Okk B A) (h : ∀ M2, Frm mdr M M2 → Mdl M2 71 (drA A) → φ M2) : w_X11_anew 70 M φ := by
  have o2 := hO.1.2.2.1
  have q := hM.1 2 (by omega) (by omega)
  refine ⟨isO_pt hS (by decide) rfl, dR_of (Str.pg hS rfl) (dR_of (Str.pg hS rfl) ⟨inA_pt hS rfl (vp_lit (by decide)), nm_of ⟨by omega, inA_pt hS rfl (vp_lit (by decide)), st_of ?_⟩⟩)⟩
  try rw [show ix (2 : Int32) = 2 from rfl]
  rw [q, Int32.mul_comm]
  simp (disch := omega) only [lit32, nI_muL, nI_add, nI_mod]
  exact h _ Frm.w71 (Mdl.w (by omega) rfl hM)
theorem c_day135 {L B nx : Nat} {A : Nat → Nat} {M : fM} {f p3 p4 : Int32} {φ : Int32 → fM → Prop} {K20 : Nat → Int32 → Int32 → Int32 → fM → Prop} (hS : Str L M) (hC : Cls M 10 A nx) (hO : Okk B A) (hD : Dn A) (hz : ∀ M2, Frm clr M M2 → Cls M2 10 (nxA A) nx → K20 57 f (p3 + nI (A 106)) (p4 + 1) M2) : j_X9_weekAct_135 K20 φ 57 f p3 p4 M := by
  obtain ⟨d0, d1, d2⟩ := hD
  have s6 := hC.f.2.2.2.2.2.2.2.2.2.2.1
  have o1 := hO.1.2.1
  have o5 := hO.1.2.2.2.2.2.1
  have h40 := sh_le A
  have h41 : 1 ≤ sh_ A := by unfold sh_; split <;> omega
  refine ⟨isO_pt hS (by decide) rfl, dR_of (Str.pg hS rfl) (dR_of (Str.pg hS rfl) ⟨isO_pt hS (by decide) rfl, c_lines hS hC hO ⟨isO_pt hS (by decide) rfl, c_line (i := sh_ A - 1) (k := 5) hS hC hO (nI_sub (b := 1) h41) rfl (by omega) (by omega) (nm_of ?_)⟩⟩)⟩
  have e : LN A (sh_ A - 1) 5 = A 106 := by
    unfold LN
    rw [show A 8 - sh_ A + (sh_ A - 1) = A 8 - 1 by omega]
    exact d2
  rw [e]
  refine ⟨isO_pt hS (by decide) rfl, dR_of (Str.pg hS rfl) (dR_of (Str.pg hS rfl) ⟨isO_pt hS (by decide) rfl, nm_of ⟨isO_pt hS (by decide) rfl, st_of (nm_of ?_)⟩⟩)⟩
  rw [s6, show nI (A 1) + (1 : Int32) = nI (A 1 + 1) from nI_add _ 1]
  unfold nxA at hz
  by_cases q : A 1 = 999
  · rw [if_pos q] at hz
    rw [show (999 : Int32) = nI 999 from rfl, imin_l (by omega) (by omega)]
    refine hz _ Frm.w10 ?_
    have z : Cls (wI M 10 6 (nI 999)) 10 (up A 1 999) nx := hC.w6 rfl o5
    rw [← q, up_id, q] at z
    exact z
  · rw [if_neg q] at hz
    rw [show (999 : Int32) = nI 999 from rfl, imin_r (by omega) (by omega)]
    exact hz _ Frm.w10 (hC.w6 rfl o5)
theorem c_gA_l {L : Nat} {tx : Nat → Int32} {f p3 p4 : Int32} {φ : Int32 → fM → Prop} {K20 : Nat → Int32 → Int32 → Int32 → fM → Prop} : ∀ (m k B nx : Nat) (A : Nat → Nat) (M : fM), k + m = 15 → (A 108 = 1 → A 103 = k) → (A 108 = 0 → Dn A) → B + m ≤ 1000000 → Str L M → Cls M 10 A nx → Okk B A → mI M 73 = tx → (∀ i, i < A 3 → TxR M 18 i) → (∀ M2, Frm clr M M2 → Cls M2 10 (gwA tx f m A) nx → Dn (gwA tx f m A) → j_X9_weekAct_135 K20 φ 57 f p3 p4 M2) → l_X9_weekAct_89 K20 φ (m + 1) 57 f p3 p4 (nI k) M := by
  intro m
  induction m with
  | zero =>
    intro k B nx A M hk h1 h0 hB hS hC hO h73 hT hz
    obtain rfl : k = 15 := by omega
    have e : A 108 = 0 := by
      rcases hO.2.2.2.1.1 with e | e
      · exact e
      · have q := (hO.2.2.2.1.2.2 e).2.2
        have q2 := (hO.2.1 _ hO.2.2.2.1.2.1).2.1
        have q3 := h1 e
        omega
    exact iF_t (by decide) (hz M Frm.rf hC (h0 e))
  | succ m ih =>
    intro k B nx A M hk h1 h0 hB hS hC hO h73 hT hz
    show b_X9_weekAct_89 K20 (l_X9_weekAct_89 K20 φ (m + 1)) φ 57 f p3 p4 (nI k) M
    generalize hK : l_X9_weekAct_89 K20 φ (m + 1) = K at ih ⊢
    refine iF_f (fun c => absurd ((nIlt (a := 14) (by omega) (by omega)).mp c) (by omega)) ⟨isO_pt hS (by decide) rfl, dR_of (Str.pg hS rfl) ⟨isO_pt hS (by decide) rfl, c_onWay hS hC (fun e => iF_t rfl ?_) (fun e _ => iF_f (by decide) ⟨isO_pt hS (by decide) rfl, dR_of (Str.pg hS rfl) ⟨isO_pt hS (by decide) rfl, dR_of (Str.pg hS rfl) ⟨inA_pt hS rfl (vp_lit (by decide)), ?_⟩⟩⟩) hO.p6 hO.2.2.2.1.1⟩⟩
    · rw [gA_0 _ e] at hz
      exact hz M Frm.rf hC (h0 e)
    · try rw [show ix (4 : Int32) = 4 from rfl]
      rw [(way_on hC.2.2.2.1 e).2.2.2.2.1]
      rw [gA_s _ e] at hz
      have a3 : goA tx f A 3 = A 3 := goA_l (by omega) (by omega) (by omega)
      have go : ∀ M2, Frm clr M M2 → Cls M2 10 (goA tx f A) nx → K 57 f p3 p4 (nI k + 1) M2 := fun M2 f2 hC2 => by
        rw [show nI k + (1 : Int32) = nI (k + 1) from nI_add _ 1]
        refine ih (k + 1) (B + 1) nx (goA tx f A) M2 (by omega) (fun z => ?_) (fun z => ?_) (by omega) (f2.S hS) hC2 (o_go hO e (by omega)) (f2.c73.trans h73) (fun i hi => f2.cT (hT i (by rw [a3] at hi; exact hi))) fun M3 f3 hC3 hD => hz M3 (f2.tr f3) hC3 hD
        · rcases goA_c (tx := tx) (f := f) e with d | ⟨-, d⟩
          · exact absurd (d.1.symm.trans z) (by omega)
          · rw [d, h1 e]
        · rcases goA_c (tx := tx) (f := f) e with d | ⟨d, -⟩
          · exact d
          · exact absurd (d.symm.trans z) (by omega)
      unfold goA at go
      by_cases q : f ≤ nI (A 104)
      · rw [if_pos q] at go
        refine iF_t q ⟨isO_pt hS (by decide) rfl, c_goToe hS hC hO hT e fun M2 f2 hC2 => nm_of ?_⟩
        rw [h73] at hC2
        exact go M2 f2 hC2
      · rw [if_neg q] at go
        refine iF_f q ⟨isO_pt hS (by decide) rfl, c_goStep hS hC hO hT e fun M2 f2 hC2 => nm_of ?_⟩
        rw [h73] at hC2
        exact go M2 f2 hC2
theorem c_wkd_l {L : Nat} {tx : Nat → Int32} {f : Int32} {φ : Int32 → fM → Prop} : ∀ (m i B nx : Nat) (A : Nat → Nat) (M : fM) (acc : Int32), i + m = 7 → B + 15 * m ≤ 1000000 → 1 ≤ A 0 → Str L M → Cls M 10 A nx → Okk B A → mI M 73 = tx → (∀ i, i < A 3 → TxR M 18 i) → (∀ M2, Frm clr M M2 → Cls M2 10 (wkA tx f m A) nx → φ (acc + nI (whA tx f m A)) M2) → l_X9_weekAct_20 φ (m + 1) 57 f acc (nI i) M := by
  intro m
  induction m with
  | zero =>
    intro i B nx A M acc hi hB h0 hS hC hO h73 hT hz
    obtain rfl : i = 7 := by omega
    have q := hz M Frm.rf hC
    rw [show acc + nI (whA tx f 0 A) = acc from Int32.add_zero acc] at q
    exact iF_t (by decide) q
  | succ m ih =>
    intro i B nx A M acc hi hB h0 hS hC hO h73 hT hz
    show b_X9_weekAct_20 (l_X9_weekAct_20 φ (m + 1)) φ 57 f acc (nI i) M
    generalize hK : l_X9_weekAct_20 φ (m + 1) = K at ih ⊢
    obtain ⟨-, -, -, -, -, -, -, -, s4, s5, -⟩ := hC.f
    have o0 := hO.1.1
    have o2 := hO.1.2.2.1
    refine iF_f (fun c => absurd ((nIle (a := 7) (by omega) (by omega)).mp c) (by omega)) ⟨isO_pt hS (by decide) rfl, dR_of (Str.pg hS rfl) ⟨isO_pt hS (by decide) rfl, ?_⟩⟩
    rw [s4]
    refine iF_f (fun c => absurd ((nIle (b := 0) (by omega) (by omega)).mp c) (by omega)) (dR_of (Str.pg hS rfl) ⟨isO_pt hS (by decide) rfl, dR_of (Str.pg hS rfl) ⟨isO_pt hS (by decide) rfl, ?_⟩⟩)
    rw [s4, s5, nI_mod (by omega) (by omega)]
    refine ⟨fun c => absurd (nI_inj (b := 0) (by omega) (by omega) c) (by omega), isO_pt hS (by decide) rfl, c_stir hS hC hO fun M1 f1 hC1 => ?_⟩
    have hS1 := f1.S hS
    have hO1 := o_draw hO
    have s5' := hC1.f.2.2.2.2.2.2.2.2.2.1
    have o2' := hO1.1.2.2.1
    refine ⟨isO_pt hS1 (by decide) rfl, dR_of (Str.pg hS1 rfl) ⟨isO_pt hS1 (by decide) rfl, nm_of ?_⟩⟩
    rw [s5', show nI (drA A 2) % (4 : Int32) = nI (drA A 2 % 4) from nI_mod (b := 4) (by omega) (by omega)]
    refine c_stir hS1 hC1 hO1 fun M2 f2 hC2 => ?_
    have f12 := f1.tr f2
    have hS2 := f12.S hS
    have hp : A 2 % A 0 < drA (drA A) 0 := Nat.mod_lt _ (by omega)
    have hh : drA A 2 % 4 < 4 := Nat.mod_lt _ (by omega)
    refine ⟨isO_pt hS2 (by decide) rfl, c_start hS2 hC2 (o_draw hO1) rfl rfl (c := 0) (k := 0) rfl hp hh (by omega) fun M3 f3 hC3 => ⟨16, ?_⟩⟩
    have f123 := f12.tr f3
    have hO3 := o_begin (o_draw hO1) hp hh (show 0 < 4 by omega)
    have a3 : bgA (A 2 % A 0) (drA A 2 % 4) 0 (drA (drA A)) 3 = A 3 := by
      rw [bgA_l (by omega) (by omega)]
      rfl
    refine c_gA_l (L := L) (tx := tx) 15 0 B nx _ M3 rfl (fun _ => rfl) (fun c => absurd (show (1 : Nat) = 0 from c) (by omega)) (by omega) (f123.S hS) hC3 hO3 (f123.c73.trans h73) (fun j hj => f123.cT (hT j (by rw [a3] at hj; exact hj))) fun M4 f4 hC4 hD => ?_
    have fa := f123.tr f4
    have hO4 : Okk (B + 15) (dyA tx f A) := o_dy hO h0 (by omega)
    refine c_day135 (fa.S hS) hC4 hO4 hD fun M5 f5 hC5 => ?_
    have fb := fa.tr f5
    rw [show nI i + (1 : Int32) = nI (i + 1) from nI_add _ 1]
    have a0 : nxA (dyA tx f A) 0 = A 0 := (nxA_l (by omega)).trans (dyA_l (by omega) (by omega) (by omega))
    have b3 : nxA (dyA tx f A) 3 = A 3 := (nxA_l (by omega)).trans (dyA_l (by omega) (by omega) (by omega))
    refine ih (i + 1) (B + 15) nx (nxA (dyA tx f A)) M5 _ (by omega) (by omega) (by rw [a0]; exact h0) (fb.S hS) hC5 (o_nx hO4) (fb.c73.trans h73) (fun j hj => fb.cT (hT j (by rw [b3] at hj; exact hj))) fun M6 f6 hC6 => ?_
    rw [Int32.add_assoc, show nI (gwA tx f 15 (bgA (A 2 % A 0) (drA A 2 % 4) 0 (drA (drA A))) 106) + nI (whA tx f m (nxA (dyA tx f A))) = nI (whA tx f (m + 1) A) from nI_add _ _]
    exact hz M6 (fb.tr f6) hC6
theorem c_week (L B : Nat) (a f : Int32) (hB : B + 105 ≤ 1000000) : CSp L B (fun M φ => w_X10_week 6 a f M φ) (T_week a f) := by
  intro M A nx φ hS hC hO hT hz
  obtain ⟨cn, cm, cr, ct, ch, p1, p2, p3, s4, s5, s6, s9, s11, s14, s15, s17, cb, cg⟩ := hC.f
  obtain ⟨hH, hP, hSc, hW, hB, hG, hA⟩ := id hC
  have m1 : 0 + 0 = 0 := rfl
  have m4 : 0 + 0 = 0 := rfl
  have f5 : 0 + 0 = 0 := rfl
  have f6 : 0 + 0 = 0 := rfl
  have t1 : 0 + 0 = 0 := rfl
  have t2 : 0 + 0 = 0 := rfl
  have e1 : 0 + 0 = 0 := rfl
  have e2 : 0 + 0 = 0 := rfl
  have e3 : 0 + 0 = 0 := rfl
  obtain ⟨⟨o0, o1, o2, o3, o4, o5, o6, o7, o8, o9⟩, oH, oP, oW, oA, oG, oB⟩ := id hO
  show w_X10_week 6 a f M φ
  rcases Decidable.em (0 ≤ a.toInt ∧ a.toInt ≤ 9999 ∧ 0 ≤ f.toInt ∧ f.toInt ≤ 30 ∧ 1 ≤ A 0) with hv | hv
  · obtain ⟨s, hs, rfl⟩ := rgI (n := 9999) hv.1 hv.2.1
    obtain ⟨-, -, hf1, hf2, h0⟩ := hv
    unfold w_X10_week w_X10_isSeed
    repeat' (first | ((with_reducible refine c_fil_hh (L := L) ?_ ?_ ?_); (exact hS); omega) | ((with_reducible refine c_build (L := L) ?_ ?_ ?_); (exact hS); omega) | with_reducible refine nm_of ?_ | with_reducible refine st_of ?_ | ((with_reducible apply dR_of); first | exact Str.pg hS rfl | exact sp_hsx hS (by omega) | exact sp_hs hS (by omega) | exact sp_hh hS (by omega) | assumption | fail) | ((with_reducible refine And.intro ?_ ?_); first | exact isO_pt hS (by decide) rfl | exact inA_pt hS rfl (by (first | exact vp_lit (by decide) | (simp (disch := omega) only [lit32, Nat.add_sub_cancel, Nat.sub_zero, Nat.reduceSub, nI_add, nI_muL, nI_sub, ix_nI, mI_s, mI_n, mI_fs, mI_fn, mI_ci, mI_co, mI_si, mI_so, Nat.add_zero, up_n, up_s, cpA_i, cpA_o, shA_i, shA_o, fiA_i, fiA_o, imin_l, imin_r, nI_mod, nI_div, xr_e, cn, cm, cr, ct, ch, p1, p2, p3, s4, s5, s6, s9, s11, s14, s15, s17, cb, cg, m1, m4, f5, f6, t1, t2, e1, e2, e3]; first | done | exact vp_nI (by omega) (by decide)) | exact vp_nI (by omega) (by decide) | fail)) | omega | exact isO_hs hS (by omega) | exact inA_hh hS (by omega) (by (first | exact vp_lit (by decide) | (simp (disch := omega) only [lit32, Nat.add_sub_cancel, Nat.sub_zero, Nat.reduceSub, nI_add, nI_muL, nI_sub, ix_nI, mI_s, mI_n, mI_fs, mI_fn, mI_ci, mI_co, mI_si, mI_so, Nat.add_zero, up_n, up_s, cpA_i, cpA_o, shA_i, shA_o, fiA_i, fiA_o, imin_l, imin_r, nI_mod, nI_div, xr_e, cn, cm, cr, ct, ch, p1, p2, p3, s4, s5, s6, s9, s11, s14, s15, s17, cb, cg, m1, m4, f5, f6, t1, t2, e1, e2, e3]; first | done | exact vp_nI (by omega) (by decide)) | exact vp_nI (by omega) (by decide) | fail)) | exact isB1 | exact isB0 | assumption | fail) | ((with_reducible apply lenA_of); first | exact Str.sh hS _ _ rfl | exact ss_hh hS (by omega) | assumption | fail) | with_reducible refine gN_of rfl ?_ | with_reducible refine gN_no rfl ?_ | ((with_reducible refine iF_t ?_ ?_); focus ((try simp (disch := omega) only [lit32, Nat.add_sub_cancel, Nat.sub_zero, Nat.reduceSub, nI_add, nI_muL, nI_sub, ix_nI, mI_s, mI_n, mI_fs, mI_fn, mI_ci, mI_co, mI_si, mI_so, Nat.add_zero, up_n, up_s, cpA_i, cpA_o, shA_i, shA_o, fiA_i, fiA_o, imin_l, imin_r, nI_mod, nI_div, xr_e, cn, cm, cr, ct, ch, p1, p2, p3, s4, s5, s6, s9, s11, s14, s15, s17, cb, cg, m1, m4, f5, f6, t1, t2, e1, e2, e3, lt_toInt, le_toInt, eq_toInt, toInt_nI, tI_neg, bt_e, tI_sub, tI_subR, tI_subL]); first | done | omega)) | ((with_reducible refine iF_f ?_ ?_); focus ((try simp (disch := omega) only [lit32, Nat.add_sub_cancel, Nat.sub_zero, Nat.reduceSub, nI_add, nI_muL, nI_sub, ix_nI, mI_s, mI_n, mI_fs, mI_fn, mI_ci, mI_co, mI_si, mI_so, Nat.add_zero, up_n, up_s, cpA_i, cpA_o, shA_i, shA_o, fiA_i, fiA_o, imin_l, imin_r, nI_mod, nI_div, xr_e, cn, cm, cr, ct, ch, p1, p2, p3, s4, s5, s6, s9, s11, s14, s15, s17, cb, cg, m1, m4, f5, f6, t1, t2, e1, e2, e3, lt_toInt, le_toInt, eq_toInt, toInt_nI, tI_neg, bt_e, tI_sub, tI_subR, tI_subL]); first | done | omega)) | fail)
    refine ⟨isO_pt hS (by decide) rfl, isO_pt hS (by decide) rfl, dR_of (Str.pg hS rfl) ⟨isO_pt hS (by decide) rfl, c_remember hS hC hO fun M1 nx1 f1 hC1 => ?_⟩⟩
    have hS1 := f1.S hS
    have hO1 := o_keep hO
    refine ⟨isO_pt hS1 (by decide) rfl, dR_of (Str.pg hS1 rfl) ⟨isO_pt hS1 (by decide) rfl, st_of ⟨8, ?_⟩⟩⟩
    have e : nI s * (3 : Int32) + (13 : Int32) = nI (3 * s + 13) := by
      rw [Int32.mul_comm]
      simp only [lit32, nI_muL, nI_add]
    have k0 : up (kpA A) 2 (3 * s + 13) 0 = A 0 := (up_n (by omega)).trans (kpA_l o5 (by omega) (by omega))
    have k3 : up (kpA A) 2 (3 * s + 13) 3 = A 3 := (up_n (by omega)).trans (kpA_l o5 (by omega) (by omega))
    refine c_wkd_l (L := L) (tx := mI M 73) 7 0 B nx1 (up (kpA A) 2 (3 * s + 13)) _ 0 rfl (by omega) (by rw [k0]; exact h0) (show Str L _ from hS1) (hC1.w5 e hO1.1.2.2.2.2.2.1) (o_x (by omega) hO1) (Frm.c73 (f1.tr Frm.w10)) (fun i hi => (f1.tr Frm.w10).cT (hT i (by rw [k3] at hi; exact hi))) fun M2 f2 hC2 => ?_
    rw [show (0 : Int32) + nI (whA (mI M 73) f 7 (up (kpA A) 2 (3 * s + 13))) = nI (whA (mI M 73) f 7 (up (kpA A) 2 (3 * s + 13))) from Int32.zero_add _]
    exact hz _ _ nx1 M2 (Or.inr ⟨s, hs, rfl, hf1, hf2, h0, rfl, rfl⟩) ((f1.tr Frm.w10).tr f2) hC2
  · unfold w_X10_week w_X10_isSeed
    repeat' (first | ((with_reducible refine c_fil_hh (L := L) ?_ ?_ ?_); (exact hS); omega) | ((with_reducible refine c_build (L := L) ?_ ?_ ?_); (exact hS); omega) | with_reducible refine nm_of ?_ | with_reducible refine st_of ?_ | ((with_reducible apply dR_of); first | exact Str.pg hS rfl | exact sp_hsx hS (by omega) | exact sp_hs hS (by omega) | exact sp_hh hS (by omega) | assumption | fail) | ((with_reducible refine And.intro ?_ ?_); first | exact isO_pt hS (by decide) rfl | exact inA_pt hS rfl (by (first | exact vp_lit (by decide) | (simp (disch := omega) only [lit32, Nat.add_sub_cancel, Nat.sub_zero, Nat.reduceSub, nI_add, nI_muL, nI_sub, ix_nI, mI_s, mI_n, mI_fs, mI_fn, mI_ci, mI_co, mI_si, mI_so, Nat.add_zero, up_n, up_s, cpA_i, cpA_o, shA_i, shA_o, fiA_i, fiA_o, imin_l, imin_r, nI_mod, nI_div, xr_e, cn, cm, cr, ct, ch, p1, p2, p3, s4, s5, s6, s9, s11, s14, s15, s17, cb, cg, m1, m4, f5, f6, t1, t2, e1, e2, e3]; first | done | exact vp_nI (by omega) (by decide)) | exact vp_nI (by omega) (by decide) | fail)) | omega | exact isO_hs hS (by omega) | exact inA_hh hS (by omega) (by (first | exact vp_lit (by decide) | (simp (disch := omega) only [lit32, Nat.add_sub_cancel, Nat.sub_zero, Nat.reduceSub, nI_add, nI_muL, nI_sub, ix_nI, mI_s, mI_n, mI_fs, mI_fn, mI_ci, mI_co, mI_si, mI_so, Nat.add_zero, up_n, up_s, cpA_i, cpA_o, shA_i, shA_o, fiA_i, fiA_o, imin_l, imin_r, nI_mod, nI_div, xr_e, cn, cm, cr, ct, ch, p1, p2, p3, s4, s5, s6, s9, s11, s14, s15, s17, cb, cg, m1, m4, f5, f6, t1, t2, e1, e2, e3]; first | done | exact vp_nI (by omega) (by decide)) | exact vp_nI (by omega) (by decide) | fail)) | exact isB1 | exact isB0 | assumption | fail) | ((with_reducible apply lenA_of); first | exact Str.sh hS _ _ rfl | exact ss_hh hS (by omega) | assumption | fail) | with_reducible refine gN_of rfl ?_ | with_reducible refine gN_no rfl ?_ | ((with_reducible refine iF_t ?_ ?_); focus ((try simp (disch := omega) only [lit32, Nat.add_sub_cancel, Nat.sub_zero, Nat.reduceSub, nI_add, nI_muL, nI_sub, ix_nI, mI_s, mI_n, mI_fs, mI_fn, mI_ci, mI_co, mI_si, mI_so, Nat.add_zero, up_n, up_s, cpA_i, cpA_o, shA_i, shA_o, fiA_i, fiA_o, imin_l, imin_r, nI_mod, nI_div, xr_e, cn, cm, cr, ct, ch, p1, p2, p3, s4, s5, s6, s9, s11, s14, s15, s17, cb, cg, m1, m4, f5, f6, t1, t2, e1, e2, e3, lt_toInt, le_toInt, eq_toInt, toInt_nI, tI_neg, bt_e, tI_sub, tI_subR, tI_subL]); first | done | omega)) | ((with_reducible refine iF_f ?_ ?_); focus ((try simp (disch := omega) only [lit32, Nat.add_sub_cancel, Nat.sub_zero, Nat.reduceSub, nI_add, nI_muL, nI_sub, ix_nI, mI_s, mI_n, mI_fs, mI_fn, mI_ci, mI_co, mI_si, mI_so, Nat.add_zero, up_n, up_s, cpA_i, cpA_o, shA_i, shA_o, fiA_i, fiA_o, imin_l, imin_r, nI_mod, nI_div, xr_e, cn, cm, cr, ct, ch, p1, p2, p3, s4, s5, s6, s9, s11, s14, s15, s17, cb, cg, m1, m4, f5, f6, t1, t2, e1, e2, e3, lt_toInt, le_toInt, eq_toInt, toInt_nI, tI_neg, bt_e, tI_sub, tI_subR, tI_subL]); first | done | omega)) | ((with_reducible refine iF_s (fun hc => ?_) (fun hc => ?_)) <;> (try simp (disch := omega) only [lit32, Nat.add_sub_cancel, Nat.sub_zero, Nat.reduceSub, nI_add, nI_muL, nI_sub, ix_nI, mI_s, mI_n, mI_fs, mI_fn, mI_ci, mI_co, mI_si, mI_so, Nat.add_zero, up_n, up_s, cpA_i, cpA_o, shA_i, shA_o, fiA_i, fiA_o, imin_l, imin_r, nI_mod, nI_div, xr_e, cn, cm, cr, ct, ch, p1, p2, p3, s4, s5, s6, s9, s11, s14, s15, s17, cb, cg, m1, m4, f5, f6, t1, t2, e1, e2, e3, lt_toInt, le_toInt, eq_toInt, toInt_nI, tI_neg, bt_e, tI_sub, tI_subR, tI_subL] at hc)) | fail)
    all_goals first | (exfalso; omega) | exact hz _ _ nx _ (Or.inl ⟨hv, rfl, rfl⟩) Frm.rf hC
/-! ===== WEEK, of the model ===== -/
theorem m_rest {L B m : Nat} {A : Nat → Nat} {M : fM} {f p3 p4 : Int32} {φ : Int32 → fM → Prop} {K53 : Nat → Int32 → Int32 → Int32 → fM → Prop} (e : A 108 = 0) (hS : Str L M) (hM : Mdl M 71 A) (hO : Okk B A) (hz : ∀ M2, Frm mdr M M2 → Mdl M2 71 (nxA A) → K53 70 f (p3 + nI (A 106)) (p4 + 1) M2) : l_X11_week_102 K53 φ (m + 1) 70 f p3 p4 M := by
  show b_X11_week_102 K53 (l_X11_week_102 K53 φ m) φ 70 f p3 p4 M
  have o1 := hO.1.2.1
  refine ⟨isO_pt hS (by decide) rfl, dR_of (Str.pg hS rfl) ⟨inA_pt hS rfl (vp_lit (by decide)), ?_⟩⟩
  try rw [show ix (108 : Int32) = 108 from rfl]
  rw [hM.1 108 (by omega) (by omega), e]
  refine iF_f (by decide) (dR_of (Str.pg hS rfl) ⟨inA_pt hS rfl (vp_lit (by decide)), nm_of (dR_of (Str.pg hS rfl) ⟨inA_pt hS rfl (vp_lit (by decide)), ?_⟩)⟩)
  try rw [show ix (106 : Int32) = 106 from rfl]
  try rw [show ix (1 : Int32) = 1 from rfl]
  rw [hM.1 106 (by omega) (by omega), hM.1 1 (by omega) (by omega)]
  unfold nxA at hz
  by_cases q : A 1 = 999
  · rw [if_pos q] at hz
    exact iF_t ((nIle (a := 999) (by omega) (by omega)).mpr (by omega)) (nm_of (hz M Frm.rf hM))
  · rw [if_neg q] at hz
    refine iF_f (fun c => absurd ((nIle (a := 999) (by omega) (by omega)).mp c) (by omega)) (dR_of (Str.pg hS rfl) ⟨inA_pt hS rfl (vp_lit (by decide)), nm_of ⟨by omega, inA_pt hS rfl (vp_lit (by decide)), st_of (nm_of ?_)⟩⟩)
    try rw [show ix (1 : Int32) = 1 from rfl]
    rw [hM.1 1 (by omega) (by omega), show nI (A 1) + (1 : Int32) = nI (A 1 + 1) from nI_add _ 1]
    exact hz _ Frm.w71 (Mdl.w (by omega) rfl hM)
theorem m_gA_l {L : Nat} {tx : Nat → Int32} {f p3 p4 : Int32} {φ : Int32 → fM → Prop} {K53 : Nat → Int32 → Int32 → Int32 → fM → Prop} : ∀ (m k B : Nat) (A : Nat → Nat) (M : fM), k + m = 15 → (A 108 = 1 → A 103 = k) → B + m ≤ 1000000 → Str L M → Mdl M 71 A → Okk B A → mI M 73 = tx → (∀ i, i < A 3 → TxR M 18 i) → (∀ M2, Frm mdr M M2 → Mdl M2 71 (nxA (gwA tx f m A)) → K53 70 f (p3 + nI (gwA tx f m A 106)) (p4 + 1) M2) → l_X11_week_102 K53 φ (m + 1) 70 f p3 p4 M := by
  intro m
  induction m with
  | zero =>
    intro k B A M hk h1 hB hS hM hO h73 hT hz
    have e : A 108 = 0 := by
      rcases hO.2.2.2.1.1 with e | e
      · exact e
      · have q := (hO.2.2.2.1.2.2 e).2.2
        have q2 := (hO.2.1 _ hO.2.2.2.1.2.1).2.1
        have q3 := h1 e
        omega
    exact m_rest e hS hM hO hz
  | succ m ih =>
    intro k B A M hk h1 hB hS hM hO h73 hT hz
    rcases hO.2.2.2.1.1 with e | e
    · rw [gA_0 _ e] at hz
      exact m_rest e hS hM hO hz
    · show b_X11_week_102 K53 (l_X11_week_102 K53 φ (m + 1)) φ 70 f p3 p4 M
      generalize hK : l_X11_week_102 K53 φ (m + 1) = K at ih ⊢
      refine ⟨isO_pt hS (by decide) rfl, dR_of (Str.pg hS rfl) ⟨inA_pt hS rfl (vp_lit (by decide)), ?_⟩⟩
      try rw [show ix (108 : Int32) = 108 from rfl]
      rw [hM.1 108 (by omega) (by omega), e]
      refine iF_t rfl (dR_of (Str.pg hS rfl) ⟨inA_pt hS rfl (vp_lit (by decide)), ?_⟩)
      try rw [show ix (104 : Int32) = 104 from rfl]
      rw [hM.1 104 (by omega) (by omega)]
      rw [gA_s _ e] at hz
      have a3 : goA tx f A 3 = A 3 := goA_l (by omega) (by omega) (by omega)
      have hTm : TrM M (A 4) := TrM.of hO.1.2.2.2.1 hT hO.1.2.2.2.2.1
      have go : ∀ M2, Frm mdr M M2 → Mdl M2 71 (goA tx f A) → K 70 f p3 p4 M2 := fun M2 f2 hM2 => by
        refine ih (k + 1) (B + 1) (goA tx f A) M2 (by omega) (fun z => ?_) (by omega) (f2.S hS) hM2 (o_go hO e (by omega)) (f2.m73.trans h73) (fun i hi => f2.mT (hT i (by rw [a3] at hi; exact hi))) fun M3 f3 hM3 => hz M3 (f2.tr f3) hM3
        rcases goA_c (tx := tx) (f := f) e with d | ⟨-, d⟩
        · exact absurd (d.1.symm.trans z) (by omega)
        · rw [d, h1 e]
      unfold goA at go
      by_cases q : f ≤ nI (A 104)
      · rw [if_pos q] at go
        refine iF_t q (m_toeNow hS hM hO hTm e fun M2 f2 hM2 => ?_)
        rw [h73] at hM2
        exact go M2 f2 hM2
      · rw [if_neg q] at go
        refine iF_f q (m_stepNow hS hM hO hTm e fun M2 f2 hM2 => ?_)
        rw [h73] at hM2
        exact go M2 f2 hM2
theorem m_wkd_l {L : Nat} {tx : Nat → Int32} {f : Int32} {φ : Int32 → fM → Prop} : ∀ (m i B : Nat) (A : Nat → Nat) (M : fM) (acc : Int32), i + m = 7 → B + 15 * m ≤ 1000000 → 1 ≤ A 0 → Str L M → Mdl M 71 A → Okk B A → mI M 73 = tx → (∀ i, i < A 3 → TxR M 18 i) → (∀ M2, Frm mdr M M2 → Mdl M2 71 (wkA tx f m A) → φ (acc + nI (whA tx f m A)) M2) → l_X11_week_53 φ (m + 1) 70 f acc (nI i) M := by
  intro m
  induction m with
  | zero =>
    intro i B A M acc hi hB h0 hS hM hO h73 hT hz
    obtain rfl : i = 7 := by omega
    have q := hz M Frm.rf hM
    rw [show acc + nI (whA tx f 0 A) = acc from Int32.add_zero acc] at q
    exact iF_t (by decide) q
  | succ m ih =>
    intro i B A M acc hi hB h0 hS hM hO h73 hT hz
    show b_X11_week_53 (l_X11_week_53 φ (m + 1)) φ 70 f acc (nI i) M
    generalize hK : l_X11_week_53 φ (m + 1) = K at ih ⊢
    have o0 := hO.1.1
    have o2 := hO.1.2.2.1
    refine iF_f (fun c => absurd ((nIle (a := 7) (by omega) (by omega)).mp c) (by omega)) ⟨isO_pt hS (by decide) rfl, dR_of (Str.pg hS rfl) ⟨inA_pt hS rfl (vp_lit (by decide)), dR_of (Str.pg hS rfl) ⟨inA_pt hS rfl (vp_lit (by decide)), ?_⟩⟩⟩
    try rw [show ix (0 : Int32) = 0 from rfl]
    try rw [show ix (2 : Int32) = 2 from rfl]
    rw [hM.1 0 (by omega) (by omega), hM.1 2 (by omega) (by omega), nI_mod (by omega) (by omega)]
    refine ⟨fun c => absurd (nI_inj (b := 0) (by omega) (by omega) c) (by omega), nm_of (m_anew hS hM hO fun M1 f1 hM1 => ?_)⟩
    have hS1 := f1.S hS
    have hO1 := o_draw hO
    have o2' := hO1.1.2.2.1
    refine ⟨isO_pt hS1 (by decide) rfl, dR_of (Str.pg hS1 rfl) ⟨inA_pt hS1 rfl (vp_lit (by decide)), nm_of ?_⟩⟩
    try rw [show ix (2 : Int32) = 2 from rfl]
    rw [hM1.1 2 (by omega) (by omega), show nI (drA A 2) % (4 : Int32) = nI (drA A 2 % 4) from nI_mod (b := 4) (by omega) (by omega)]
    refine m_anew hS1 hM1 hO1 fun M2 f2 hM2 => ?_
    have f12 := f1.tr f2
    have hS2 := f12.S hS
    have hp : A 2 % A 0 < drA (drA A) 0 := Nat.mod_lt _ (by omega)
    have hh : drA A 2 % 4 < 4 := Nat.mod_lt _ (by omega)
    refine ⟨isO_pt hS2 (by decide) rfl, m_beginNow (k := 0) hS2 hM2 (o_draw hO1) hp hh (by omega) fun M3 f3 hM3 => ⟨16, ?_⟩⟩
    have f123 := f12.tr f3
    have hO3 := o_begin (o_draw hO1) hp hh (show 0 < 4 by omega)
    have a3 : bgA (A 2 % A 0) (drA A 2 % 4) 0 (drA (drA A)) 3 = A 3 := by
      rw [bgA_l (by omega) (by omega)]
      rfl
    refine m_gA_l (L := L) (tx := tx) 15 0 B _ M3 rfl (fun _ => rfl) (by omega) (f123.S hS) hM3 hO3 (f123.m73.trans h73) (fun j hj => f123.mT (hT j (by rw [a3] at hj; exact hj))) fun M5 f5 hM5 => ?_
    have fb := f123.tr f5
    have hO4 : Okk (B + 15) (dyA tx f A) := o_dy hO h0 (by omega)
    rw [show nI i + (1 : Int32) = nI (i + 1) from nI_add _ 1]
    have a0 : nxA (dyA tx f A) 0 = A 0 := (nxA_l (by omega)).trans (dyA_l (by omega) (by omega) (by omega))
    have b3 : nxA (dyA tx f A) 3 = A 3 := (nxA_l (by omega)).trans (dyA_l (by omega) (by omega) (by omega))
    refine ih (i + 1) (B + 15) (nxA (dyA tx f A)) M5 _ (by omega) (by omega) (by rw [a0]; exact h0) (fb.S hS) hM5 (o_nx hO4) (fb.m73.trans h73) (fun j hj => fb.mT (hT j (by rw [b3] at hj; exact hj))) fun M6 f6 hM6 => ?_
    rw [Int32.add_assoc, show nI (gwA tx f 15 (bgA (A 2 % A 0) (drA A 2 % 4) 0 (drA (drA A))) 106) + nI (whA tx f m (nxA (dyA tx f A))) = nI (whA tx f (m + 1) A) from nI_add _ _]
    exact hz M6 (fb.tr f6) hM6
theorem m_week (L B : Nat) (a f : Int32) (hB : B + 105 ≤ 1000000) : MSp L B (fun M φ => w_X11_week 70 a f M φ) (T_week a f) := by
  intro M A A2 v φ hS hM hO hT hv hz
  obtain ⟨m1, m4⟩ := id hM
  have cn : 0 + 0 = 0 := rfl
  have cm : 0 + 0 = 0 := rfl
  have cr : 0 + 0 = 0 := rfl
  have ct : 0 + 0 = 0 := rfl
  have ch : 0 + 0 = 0 := rfl
  have p1 : 0 + 0 = 0 := rfl
  have p2 : 0 + 0 = 0 := rfl
  have p3 : 0 + 0 = 0 := rfl
  have s4 : 0 + 0 = 0 := rfl
  have s5 : 0 + 0 = 0 := rfl
  have s6 : 0 + 0 = 0 := rfl
  have s9 : 0 + 0 = 0 := rfl
  have s11 : 0 + 0 = 0 := rfl
  have s14 : 0 + 0 = 0 := rfl
  have s15 : 0 + 0 = 0 := rfl
  have s17 : 0 + 0 = 0 := rfl
  have cb : 0 + 0 = 0 := rfl
  have cg : 0 + 0 = 0 := rfl
  have f5 : 0 + 0 = 0 := rfl
  have f6 : 0 + 0 = 0 := rfl
  have t1 : 0 + 0 = 0 := rfl
  have t2 : 0 + 0 = 0 := rfl
  have e1 : 0 + 0 = 0 := rfl
  have e2 : 0 + 0 = 0 := rfl
  have e3 : 0 + 0 = 0 := rfl
  obtain ⟨⟨o0, o1, o2, o3, o4, o5, o6, o7, o8, o9⟩, oH, oP, oW, oA, oG, oB⟩ := id hO
  show w_X11_week 70 a f M φ
  rcases hv with ⟨hv, rfl, rfl⟩ | ⟨s, hs, rfl, hf1, hf2, h0, hv⟩
  · unfold w_X11_week w_X11_isIn
    repeat' (first | ((with_reducible refine c_fil_hh (L := L) ?_ ?_ ?_); (exact hS); omega) | ((with_reducible refine c_build (L := L) ?_ ?_ ?_); (exact hS); omega) | with_reducible refine nm_of ?_ | with_reducible refine st_of ?_ | ((with_reducible apply dR_of); first | exact Str.pg hS rfl | exact sp_hsx hS (by omega) | exact sp_hs hS (by omega) | exact sp_hh hS (by omega) | assumption | fail) | ((with_reducible refine And.intro ?_ ?_); first | exact isO_pt hS (by decide) rfl | exact inA_pt hS rfl (by (first | exact vp_lit (by decide) | (simp (disch := omega) only [lit32, Nat.add_sub_cancel, Nat.sub_zero, Nat.reduceSub, nI_add, nI_muL, nI_sub, ix_nI, mI_s, mI_n, mI_fs, mI_fn, mI_ci, mI_co, mI_si, mI_so, Nat.add_zero, up_n, up_s, cpA_i, cpA_o, shA_i, shA_o, fiA_i, fiA_o, imin_l, imin_r, nI_mod, nI_div, xr_e, cn, cm, cr, ct, ch, p1, p2, p3, s4, s5, s6, s9, s11, s14, s15, s17, cb, cg, m1, m4, f5, f6, t1, t2, e1, e2, e3]; first | done | exact vp_nI (by omega) (by decide)) | exact vp_nI (by omega) (by decide) | fail)) | omega | exact isO_hs hS (by omega) | exact inA_hh hS (by omega) (by (first | exact vp_lit (by decide) | (simp (disch := omega) only [lit32, Nat.add_sub_cancel, Nat.sub_zero, Nat.reduceSub, nI_add, nI_muL, nI_sub, ix_nI, mI_s, mI_n, mI_fs, mI_fn, mI_ci, mI_co, mI_si, mI_so, Nat.add_zero, up_n, up_s, cpA_i, cpA_o, shA_i, shA_o, fiA_i, fiA_o, imin_l, imin_r, nI_mod, nI_div, xr_e, cn, cm, cr, ct, ch, p1, p2, p3, s4, s5, s6, s9, s11, s14, s15, s17, cb, cg, m1, m4, f5, f6, t1, t2, e1, e2, e3]; first | done | exact vp_nI (by omega) (by decide)) | exact vp_nI (by omega) (by decide) | fail)) | exact isB1 | exact isB0 | assumption | fail) | ((with_reducible apply lenA_of); first | exact Str.sh hS _ _ rfl | exact ss_hh hS (by omega) | assumption | fail) | with_reducible refine gN_of rfl ?_ | with_reducible refine gN_no rfl ?_ | ((with_reducible refine iF_t ?_ ?_); focus ((try simp (disch := omega) only [lit32, Nat.add_sub_cancel, Nat.sub_zero, Nat.reduceSub, nI_add, nI_muL, nI_sub, ix_nI, mI_s, mI_n, mI_fs, mI_fn, mI_ci, mI_co, mI_si, mI_so, Nat.add_zero, up_n, up_s, cpA_i, cpA_o, shA_i, shA_o, fiA_i, fiA_o, imin_l, imin_r, nI_mod, nI_div, xr_e, cn, cm, cr, ct, ch, p1, p2, p3, s4, s5, s6, s9, s11, s14, s15, s17, cb, cg, m1, m4, f5, f6, t1, t2, e1, e2, e3, lt_toInt, le_toInt, eq_toInt, toInt_nI, tI_neg, bt_e, tI_sub, tI_subR, tI_subL]); first | done | omega)) | ((with_reducible refine iF_f ?_ ?_); focus ((try simp (disch := omega) only [lit32, Nat.add_sub_cancel, Nat.sub_zero, Nat.reduceSub, nI_add, nI_muL, nI_sub, ix_nI, mI_s, mI_n, mI_fs, mI_fn, mI_ci, mI_co, mI_si, mI_so, Nat.add_zero, up_n, up_s, cpA_i, cpA_o, shA_i, shA_o, fiA_i, fiA_o, imin_l, imin_r, nI_mod, nI_div, xr_e, cn, cm, cr, ct, ch, p1, p2, p3, s4, s5, s6, s9, s11, s14, s15, s17, cb, cg, m1, m4, f5, f6, t1, t2, e1, e2, e3, lt_toInt, le_toInt, eq_toInt, toInt_nI, tI_neg, bt_e, tI_sub, tI_subR, tI_subL]); first | done | omega)) | ((with_reducible refine iF_s (fun hc => ?_) (fun hc => ?_)) <;> (try simp (disch := omega) only [lit32, Nat.add_sub_cancel, Nat.sub_zero, Nat.reduceSub, nI_add, nI_muL, nI_sub, ix_nI, mI_s, mI_n, mI_fs, mI_fn, mI_ci, mI_co, mI_si, mI_so, Nat.add_zero, up_n, up_s, cpA_i, cpA_o, shA_i, shA_o, fiA_i, fiA_o, imin_l, imin_r, nI_mod, nI_div, xr_e, cn, cm, cr, ct, ch, p1, p2, p3, s4, s5, s6, s9, s11, s14, s15, s17, cb, cg, m1, m4, f5, f6, t1, t2, e1, e2, e3, lt_toInt, le_toInt, eq_toInt, toInt_nI, tI_neg, bt_e, tI_sub, tI_subR, tI_subL] at hc)) | fail)
    all_goals first | (exfalso; omega) | exact hz _ Frm.rf hM
  · rw [hv.1, hv.2] at hz
    unfold w_X11_week w_X11_isIn
    repeat' (first | ((with_reducible refine c_fil_hh (L := L) ?_ ?_ ?_); (exact hS); omega) | ((with_reducible refine c_build (L := L) ?_ ?_ ?_); (exact hS); omega) | with_reducible refine nm_of ?_ | with_reducible refine st_of ?_ | ((with_reducible apply dR_of); first | exact Str.pg hS rfl | exact sp_hsx hS (by omega) | exact sp_hs hS (by omega) | exact sp_hh hS (by omega) | assumption | fail) | ((with_reducible refine And.intro ?_ ?_); first | exact isO_pt hS (by decide) rfl | exact inA_pt hS rfl (by (first | exact vp_lit (by decide) | (simp (disch := omega) only [lit32, Nat.add_sub_cancel, Nat.sub_zero, Nat.reduceSub, nI_add, nI_muL, nI_sub, ix_nI, mI_s, mI_n, mI_fs, mI_fn, mI_ci, mI_co, mI_si, mI_so, Nat.add_zero, up_n, up_s, cpA_i, cpA_o, shA_i, shA_o, fiA_i, fiA_o, imin_l, imin_r, nI_mod, nI_div, xr_e, cn, cm, cr, ct, ch, p1, p2, p3, s4, s5, s6, s9, s11, s14, s15, s17, cb, cg, m1, m4, f5, f6, t1, t2, e1, e2, e3]; first | done | exact vp_nI (by omega) (by decide)) | exact vp_nI (by omega) (by decide) | fail)) | omega | exact isO_hs hS (by omega) | exact inA_hh hS (by omega) (by (first | exact vp_lit (by decide) | (simp (disch := omega) only [lit32, Nat.add_sub_cancel, Nat.sub_zero, Nat.reduceSub, nI_add, nI_muL, nI_sub, ix_nI, mI_s, mI_n, mI_fs, mI_fn, mI_ci, mI_co, mI_si, mI_so, Nat.add_zero, up_n, up_s, cpA_i, cpA_o, shA_i, shA_o, fiA_i, fiA_o, imin_l, imin_r, nI_mod, nI_div, xr_e, cn, cm, cr, ct, ch, p1, p2, p3, s4, s5, s6, s9, s11, s14, s15, s17, cb, cg, m1, m4, f5, f6, t1, t2, e1, e2, e3]; first | done | exact vp_nI (by omega) (by decide)) | exact vp_nI (by omega) (by decide) | fail)) | exact isB1 | exact isB0 | assumption | fail) | ((with_reducible apply lenA_of); first | exact Str.sh hS _ _ rfl | exact ss_hh hS (by omega) | assumption | fail) | with_reducible refine gN_of rfl ?_ | with_reducible refine gN_no rfl ?_ | ((with_reducible refine iF_t ?_ ?_); focus ((try simp (disch := omega) only [lit32, Nat.add_sub_cancel, Nat.sub_zero, Nat.reduceSub, nI_add, nI_muL, nI_sub, ix_nI, mI_s, mI_n, mI_fs, mI_fn, mI_ci, mI_co, mI_si, mI_so, Nat.add_zero, up_n, up_s, cpA_i, cpA_o, shA_i, shA_o, fiA_i, fiA_o, imin_l, imin_r, nI_mod, nI_div, xr_e, cn, cm, cr, ct, ch, p1, p2, p3, s4, s5, s6, s9, s11, s14, s15, s17, cb, cg, m1, m4, f5, f6, t1, t2, e1, e2, e3, lt_toInt, le_toInt, eq_toInt, toInt_nI, tI_neg, bt_e, tI_sub, tI_subR, tI_subL]); first | done | omega)) | ((with_reducible refine iF_f ?_ ?_); focus ((try simp (disch := omega) only [lit32, Nat.add_sub_cancel, Nat.sub_zero, Nat.reduceSub, nI_add, nI_muL, nI_sub, ix_nI, mI_s, mI_n, mI_fs, mI_fn, mI_ci, mI_co, mI_si, mI_so, Nat.add_zero, up_n, up_s, cpA_i, cpA_o, shA_i, shA_o, fiA_i, fiA_o, imin_l, imin_r, nI_mod, nI_div, xr_e, cn, cm, cr, ct, ch, p1, p2, p3, s4, s5, s6, s9, s11, s14, s15, s17, cb, cg, m1, m4, f5, f6, t1, t2, e1, e2, e3, lt_toInt, le_toInt, eq_toInt, toInt_nI, tI_neg, bt_e, tI_sub, tI_subR, tI_subL]); first | done | omega)) | fail)
    refine m_keep hS hM hO fun M1 f1 hM1 => ?_
    have hS1 := f1.S hS
    have hO1 := o_keep hO
    have e : nI s * (3 : Int32) + (13 : Int32) = nI (3 * s + 13) := by
      rw [Int32.mul_comm]
      simp only [lit32, nI_muL, nI_add]
    refine ⟨isO_pt hS1 (by decide) rfl, dR_of (Str.pg hS1 rfl) (nm_of ⟨by omega, inA_pt hS1 rfl (vp_lit (by decide)), st_of ⟨8, ?_⟩⟩)⟩
    try rw [show ix (2 : Int32) = 2 from rfl]
    have k0 : up (kpA A) 2 (3 * s + 13) 0 = A 0 := (up_n (by omega)).trans (kpA_l o5 (by omega) (by omega))
    have k3 : up (kpA A) 2 (3 * s + 13) 3 = A 3 := (up_n (by omega)).trans (kpA_l o5 (by omega) (by omega))
    refine m_wkd_l (L := L) (tx := mI M 73) 7 0 B (up (kpA A) 2 (3 * s + 13)) _ 0 rfl (by omega) (by rw [k0]; exact h0) (show Str L _ from hS1) (Mdl.w (by omega) e hM1) (o_x (by omega) hO1) (Frm.m73 (f1.tr Frm.w71)) (fun i hi => (f1.tr Frm.w71).mT (hT i (by rw [k3] at hi; exact hi))) fun M2 f2 hM2 => ?_
    rw [show (0 : Int32) + nI (whA (mI M 73) f 7 (up (kpA A) 2 (3 * s + 13))) = nI (whA (mI M 73) f 7 (up (kpA A) 2 (3 * s + 13))) from Int32.zero_add _]
    exact hz M2 ((f1.tr Frm.w71).tr f2) hM2
theorem k_week {L B : Nat} {X : Nat → Int32} {M : fM} {a f : Int32} {φ : Int32 → fM → Prop} (hB : B + 105 ≤ 1000000) (hI : Inv L X B M) (hz : ∀ v M1, Mid L X (B + 105) (fun M φ => w_X11_week 70 a f M φ) v M1 → φ v M1) : w_X10_week 6 a f M φ := k_of (w := fun M φ => w_X10_week 6 a f M φ) (c_week L B a f hB) (m_week L B a f hB) (o_week B a f hB) (Nat.le_add_right B 105) hI hz
