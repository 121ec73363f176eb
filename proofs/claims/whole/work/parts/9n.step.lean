/-! ===== STEP and TOE: the numbers, and the model's side ===== -/
def WC (A A' : Nat → Nat) : Prop := ∀ k, k < 100 → A' k = A k
theorem htA_c {A A' : Nat → Nat} {h s : Nat} (w : WC A A') (hh : h < 4) (hs : s ≤ 14) : htA A' h s = htA A h s := w _ (by omega)
theorem nvF_c {A A' : Nat → Nat} {p h kd s a b : Nat} (w : WC A A') (hh : h < 4) : nvF A' p h kd s a b = nvF A p h kd s a b := by
  unfold nvF
  rw [w (10 + 18 * h) (by omega), w 1 (by omega), w (10 + 18 * h + 2) (by omega)]
theorem nvS_c {A A' : Nat → Nat} {p h kd s : Nat} (w : WC A A') (hh : h < 4) (hs : s ≤ 14) : nvS A' p h kd s = nvS A p h kd s := by
  unfold nvS
  rw [htA_c w hh hs, htA_c w hh (s := s - 1) (by omega), nvF_c w hh]
theorem vN_c {tx : Nat → Int32} {A A' : Nat → Nat} {p h kd s : Nat} (w : WC A A') (hp : p < 6) (hh : h < 4) (hs : s ≤ 14) : vN tx A' p h kd s = vN tx A p h kd s := by
  unfold vN
  rw [nvS_c w hh hs, w 4 (by omega), w (82 + 3 * p) (by omega)]
theorem vT_c {tx : Nat → Int32} {A A' : Nat → Nat} {p h kd s : Nat} (w : WC A A') (hp : p < 6) (hh : h < 4) (hs : s ≤ 14) : vT tx A' p h kd s = vT tx A p h kd s := by
  unfold vT
  rw [vN_c w hp hh hs, nvS_c w hh hs, w 4 (by omega), w (82 + 3 * p + 1) (by omega)]
theorem vR_c {tx : Nat → Int32} {ti : Nat} {A A' : Nat → Nat} {p h kd s a b : Nat} (w : WC A A') (hh : h < 4) : vR tx ti A' p h kd s a b = vR tx ti A p h kd s a b := by
  unfold vR
  rw [nvF_c w hh]
theorem vJ_c {tx : Nat → Int32} {A A' : Nat → Nat} {p h kd : Nat} (w : WC A A') (hh : h < 4) : vJ tx A' p h kd = vJ tx A p h kd := by
  unfold vJ
  rw [nvF_c w hh, w 4 (by omega)]
theorem vF_c {tx : Nat → Int32} {A A' : Nat → Nat} {p h kd : Nat} (w : WC A A') (hh : h < 4) : vF tx A' p h kd = vF tx A p h kd := by
  unfold vF
  rw [nvF_c w hh, w 4 (by omega)]
theorem WC.up {A A' : Nat → Nat} {k x : Nat} (hk : 100 ≤ k) (w : WC A A') : WC A (up A' k x) := fun j hj => (up_n (by omega)).trans (w j hj)
theorem WC.rf (A : Nat → Nat) : WC A A := fun _ _ => rfl
theorem TrM.mf {M M2 : fM} {ti : Nat} (f : Frm mdr M M2) (h : TrM M ti) : TrM M2 ti := by
  rcases h with h | ⟨i, cd, C, S, E, D, U, cl, h1, h2, hx⟩
  · exact Or.inl h
  · refine Or.inr ⟨i, cd, C, S, E, D, U, cl, h1, h2, ?_⟩
    have q : Tx M2 i = Tx M i := funext fun k => f.2.2 73 (by unfold mdr scr; omega) _ (by omega)
    rw [q]
    exact hx
def seA (n : Nat) (A : Nat → Nat) : Nat → Nat := up A 105 (A 105 + n)
def adA (n : Nat) (A : Nat → Nat) : Nat → Nat := up (seA n A) 103 (A 103 + 1)
def trV (tx : Nat → Int32) (A : Nat → Nat) : Bool := vR tx (A 4) A (A 100) (A 101) (A 102) (A 103) (htA A (A 101) (A 103)) (htA A (A 101) (A 103 - 1))
def trA (tx : Nat → Int32) (A : Nat → Nat) : Nat → Nat := if trV tx A = true then up (up A 106 (A 106 + vF tx A (A 100) (A 101) (A 102))) 107 (A 107 + 1) else A
def stA (tx : Nat → Int32) (A : Nat → Nat) : Nat → Nat := if A 103 = A (10 + 18 * A 101) then dwA 1 (up (seA 1 A) 106 (A 106 + vJ tx A (A 100) (A 101) (A 102))) else cnA tx (trA tx (adA 1 A))
def toA (tx : Nat → Int32) (A : Nat → Nat) : Nat → Nat := if A 103 = A (10 + 18 * A 101) then dwA 0 (seA 3 A) else cnA tx (adA 3 A)
theorem seA_l {n : Nat} {A : Nat → Nat} {k : Nat} (h : k ≠ 105) : seA n A k = A k := up_n h
theorem adA_l {n : Nat} {A : Nat → Nat} {k : Nat} (h : k ≠ 105) (h2 : k ≠ 103) : adA n A k = A k := (up_n h2).trans (up_n h)
theorem o_se {B n : Nat} {A : Nat → Nat} (hO : Okk B A) : Okk B (seA n A) := hO.w (by omega)
theorem o_ad {B n : Nat} {A : Nat → Nat} (hO : Okk B A) (h1 : A 108 = 1) (h : A 103 ≠ A (10 + 18 * A 101)) : Okk B (adA n A) := by
  have w := hO.2.2.2.1
  have q := (w.2.2 h1).2.2
  have w1 := w.2.1
  refine (o_se hO).at ?_
  rw [seA_l (by omega), seA_l (by omega)]
  omega
theorem o_tr {B : Nat} {tx : Nat → Int32} {A : Nat → Nat} (hO : Okk B A) : Okk B (trA tx A) := by
  unfold trA
  split
  · exact (hO.w (by omega)).w (by omega)
  · exact hO
theorem o_cn {B : Nat} {tx : Nat → Int32} {A : Nat → Nat} (hO : Okk B A) : Okk B (cnA tx A) := (o_draw hO).w (by omega)
theorem o_st {B : Nat} {tx : Nat → Int32} {A : Nat → Nat} (hO : Okk B A) (h1 : A 108 = 1) (hB : B + 1 ≤ 1000000) : Okk (B + 1) (stA tx A) := by
  unfold stA
  split
  · exact o_down ((o_se hO).w (by omega)) hB
  · rename_i h
    exact (o_cn (o_tr (o_ad hO h1 h))).mn (Nat.le_succ B) hB
theorem o_to {B : Nat} {tx : Nat → Int32} {A : Nat → Nat} (hO : Okk B A) (h1 : A 108 = 1) (hB : B + 1 ≤ 1000000) : Okk (B + 1) (toA tx A) := by
  unfold toA
  split
  · exact o_down (o_se hO) hB
  · rename_i h
    exact (o_cn (o_ad hO h1 h)).mn (Nat.le_succ B) hB
theorem m_stepNow {L B : Nat} {A : Nat → Nat} {M : fM} {φ : fM → Prop} (hS : Str L M) (hM : Mdl M 71 A) (hO : Okk B A) (hT : TrM M (A 4)) (h1 : A 108 = 1) (hz : ∀ M2, Frm mdr M M2 → Mdl M2 71 (stA (mI M 73) A) → φ M2) : w_X11_stepNow 70 M φ := by
  obtain ⟨m1, m4⟩ := id hM
  have oW := hO.2.2.2.1
  have w := oW.2.1
  obtain ⟨w1, w2, w3⟩ := oW.2.2 h1
  have o0 := hO.1.1
  have hn := (hO.2.1 _ w).2.1
  have cn : 0 + 0 = 0 := rfl; have cm : 0 + 0 = 0 := rfl; have cr : 0 + 0 = 0 := rfl; have ct : 0 + 0 = 0 := rfl; have ch : 0 + 0 = 0 := rfl; have p1 : 0 + 0 = 0 := rfl; have p2 : 0 + 0 = 0 := rfl; have p3 : 0 + 0 = 0 := rfl; have s4 : 0 + 0 = 0 := rfl; have s5 : 0 + 0 = 0 := rfl; have s6 : 0 + 0 = 0 := rfl; have s9 : 0 + 0 = 0 := rfl; have s11 : 0 + 0 = 0 := rfl; have s14 : 0 + 0 = 0 := rfl; have s15 : 0 + 0 = 0 := rfl; have s17 : 0 + 0 = 0 := rfl; have cb : 0 + 0 = 0 := rfl; have cg : 0 + 0 = 0 := rfl; have f5 : 0 + 0 = 0 := rfl; have f6 : 0 + 0 = 0 := rfl; have t1 : 0 + 0 = 0 := rfl; have t2 : 0 + 0 = 0 := rfl; have e1 : 0 + 0 = 0 := rfl; have e2 : 0 + 0 = 0 := rfl; have e3 : 0 + 0 = 0 := rfl
  refine ⟨isO_pt hS (by decide) rfl, dR_of (Str.pg hS rfl) ⟨inA_pt hS rfl (vp_lit (by decide)), nm_of (dR_of (Str.pg hS rfl) ⟨inA_pt hS rfl (vp_lit (by decide)), nm_of (dR_of (Str.pg hS rfl) ⟨inA_pt hS rfl (vp_lit (by decide)), nm_of (dR_of (Str.pg hS rfl) ⟨inA_pt hS rfl (vp_lit (by decide)), nm_of ⟨by omega, inA_pt hS rfl (vp_lit (by decide)), st_of ?_⟩⟩)⟩)⟩)⟩⟩
  try rw [show ix (100 : Int32) = 100 from rfl]
  try rw [show ix (101 : Int32) = 101 from rfl]
  try rw [show ix (102 : Int32) = 102 from rfl]
  try rw [show ix (105 : Int32) = 105 from rfl]
  rw [m1 100 (by omega) (by omega), m1 101 (by omega) (by omega), m1 102 (by omega) (by omega), m1 105 (by omega) (by omega), show nI (A 105) + (1 : Int32) = nI (A 105 + 1) from nI_add _ 1]
  have hM1 : Mdl (wI M 71 105 (nI (A 105 + 1))) 71 (seA 1 A) := Mdl.w (by omega) rfl hM
  have f1 : Frm mdr M (wI M 71 105 (nI (A 105 + 1))) := by (refine ⟨rfl, fun _ => rfl, fun r hr k hk => ?_⟩; (try unfold clr at hr); (try unfold mdr at hr); (try unfold scr at hr); simp (disch := omega) only [lit32, Nat.add_sub_cancel, Nat.sub_zero, Nat.reduceSub, nI_add, nI_muL, nI_sub, ix_nI, mI_s, mI_n, mI_fs, mI_fn, mI_ci, mI_co, mI_si, mI_so, Nat.add_zero, up_n, up_s, cpA_i, cpA_o, shA_i, shA_o, fiA_i, fiA_o, imin_l, imin_r, nI_mod, nI_div, xr_e, cn, cm, cr, ct, ch, p1, p2, p3, s4, s5, s6, s9, s11, s14, s15, s17, cb, cg, m1, m4, f5, f6, t1, t2, e1, e2, e3]; first | done | fail)
  generalize wI M 71 105 (nI (A 105 + 1)) = M1 at hM1 f1 ⊢
  have hS1 := f1.S hS
  have hO1 : Okk B (seA 1 A) := o_se hO
  have ex : (10 : Int32) + ((18 : Int32) * nI (A 101)) = nI (10 + 18 * A 101) := by simp only [lit32, nI_muL, nI_add]
  unfold w_X11_stepsOf
  rw [ex, ix_nI (by omega)]
  refine dR_of (Str.pg hS1 rfl) ⟨inA_pt hS1 rfl (vp_lit (by decide)), isO_pt hS1 (by decide) rfl, dR_of (Str.pg hS1 rfl) ⟨inA_pt hS1 rfl (vp_nI (by omega) (by decide)), ?_⟩⟩
  try rw [show ix (103 : Int32) = 103 from rfl]
  rw [hM1.1 103 (by omega) (by omega), hM1.1 (10 + 18 * A 101) (by omega) (by omega), seA_l (by omega), seA_l (by omega)]
  unfold stA at hz
  by_cases q : A 103 = A (10 + 18 * A 101)
  · rw [if_pos q] at hz
    refine iF_t (by rw [q]) ⟨isO_pt hS1 (by decide) rfl, dR_of (Str.pg hS1 rfl) ⟨inA_pt hS1 rfl (vp_lit (by decide)), ?_⟩⟩
    refine m_jarOf hS1 hM1 hO1 (hT.mf f1) rfl rfl rfl (by omega) w w2 fun M2 f2 => ?_
    have hS2 := f2.S hS1
    have hM2 := f2.M hM1
    try rw [show ix (106 : Int32) = 106 from rfl]
    rw [hM1.1 106 (by omega) (by omega), seA_l (by omega), f1.m73, vJ_c (show WC A (seA 1 A) from (WC.rf A).up (by omega)) w, nI_add]
    refine nm_of ⟨by omega, inA_pt hS2 rfl (vp_lit (by decide)), st_of ?_⟩
    have hM3 : Mdl (wI M2 71 106 (nI (A 106 + vJ (mI M 73) A (A 100) (A 101) (A 102)))) 71 (up (seA 1 A) 106 (A 106 + vJ (mI M 73) A (A 100) (A 101) (A 102))) := Mdl.w (by omega) rfl hM2
    have f3 : Frm mdr M2 (wI M2 71 106 (nI (A 106 + vJ (mI M 73) A (A 100) (A 101) (A 102)))) := by (refine ⟨rfl, fun _ => rfl, fun r hr k hk => ?_⟩; (try unfold clr at hr); (try unfold mdr at hr); (try unfold scr at hr); simp (disch := omega) only [lit32, Nat.add_sub_cancel, Nat.sub_zero, Nat.reduceSub, nI_add, nI_muL, nI_sub, ix_nI, mI_s, mI_n, mI_fs, mI_fn, mI_ci, mI_co, mI_si, mI_so, Nat.add_zero, up_n, up_s, cpA_i, cpA_o, shA_i, shA_o, fiA_i, fiA_o, imin_l, imin_r, nI_mod, nI_div, xr_e, cn, cm, cr, ct, ch, p1, p2, p3, s4, s5, s6, s9, s11, s14, s15, s17, cb, cg, m1, m4, f5, f6, t1, t2, e1, e2, e3]; first | done | fail)
    try rw [show ix (106 : Int32) = 106 from rfl]
    generalize wI M2 71 106 (nI (A 106 + vJ (mI M 73) A (A 100) (A 101) (A 102))) = M3 at hM3 f3 ⊢
    have f := (f1.tr f2.f.sm).tr f3
    have hS3 := f.S hS
    exact ⟨isO_pt hS3 (by decide) rfl, m_down hS3 hM3 (hO1.w (by omega)) rfl fun M4 f4 hM4 => hz M4 (f.tr f4) hM4⟩
  · rw [if_neg q] at hz
    refine iF_f (fun c => q (nI_inj (by omega) (by omega) c)) ⟨isO_pt hS1 (by decide) rfl, dR_of (Str.pg hS1 rfl) ⟨inA_pt hS1 rfl (vp_lit (by decide)), ?_⟩⟩
    try rw [show ix (103 : Int32) = 103 from rfl]
    rw [hM1.1 103 (by omega) (by omega), seA_l (by omega), show nI (A 103) + (1 : Int32) = nI (A 103 + 1) from nI_add _ 1]
    refine nm_of ⟨by omega, inA_pt hS1 rfl (vp_lit (by decide)), st_of ?_⟩
    try rw [show ix (103 : Int32) = 103 from rfl]
    have hM2 : Mdl (wI M1 71 103 (nI (A 103 + 1))) 71 (adA 1 A) := Mdl.w (by omega) rfl hM1
    have f2 : Frm mdr M1 (wI M1 71 103 (nI (A 103 + 1))) := by (refine ⟨rfl, fun _ => rfl, fun r hr k hk => ?_⟩; (try unfold clr at hr); (try unfold mdr at hr); (try unfold scr at hr); simp (disch := omega) only [lit32, Nat.add_sub_cancel, Nat.sub_zero, Nat.reduceSub, nI_add, nI_muL, nI_sub, ix_nI, mI_s, mI_n, mI_fs, mI_fn, mI_ci, mI_co, mI_si, mI_so, Nat.add_zero, up_n, up_s, cpA_i, cpA_o, shA_i, shA_o, fiA_i, fiA_o, imin_l, imin_r, nI_mod, nI_div, xr_e, cn, cm, cr, ct, ch, p1, p2, p3, s4, s5, s6, s9, s11, s14, s15, s17, cb, cg, m1, m4, f5, f6, t1, t2, e1, e2, e3]; first | done | fail)
    generalize wI M1 71 103 (nI (A 103 + 1)) = M2 at hM2 f2 ⊢
    have f12 := f1.tr f2
    have hS2 := f12.S hS
    have hO2 : Okk B (adA 1 A) := o_ad hO h1 q
    obtain ⟨D, hD⟩ : ∃ D, D = adA 1 A := ⟨_, rfl⟩
    have d103 : D 103 = A 103 + 1 := by rw [hD]; rfl
    have d100 : D 100 = A 100 := by rw [hD]; rfl
    have d101 : D 101 = A 101 := by rw [hD]; rfl
    have d102 : D 102 = A 102 := by rw [hD]; rfl
    have d108 : D 108 = 1 := by rw [hD]; exact h1
    have d4 : D 4 = A 4 := by rw [hD]; rfl
    rw [← hD] at hM2 hO2 hz
    clear hD
    have hT2 : TrM M2 (D 4) := by rw [d4]; exact hT.mf f12
    refine dR_of (Str.pg hS2 rfl) ⟨inA_pt hS2 rfl (vp_lit (by decide)), ?_⟩
    try rw [show ix (103 : Int32) = 103 from rfl]
    rw [hM2.1 103 (by omega) (by omega), ← d100, ← d101, ← d102]
    rw [← d100] at w1
    rw [← d101] at w
    rw [← d102] at w2
    refine m_tripsAt hS2 hM2 hO2 hT2 rfl rfl rfl rfl (by omega) w w2 (by omega) (by omega) fun M3 v f3 ev => ?_
    have hS3 := f3.S hS2
    have hM3 := f3.M hM2
    have e73 : mI M3 73 = mI M 73 := f3.x.trans f12.m73
    have f123 := f12.tr f3.f.sm
    have cnt : ∀ (M4 : fM) (E : Nat → Nat), Frm mdr M M4 → Mdl M4 71 E → Okk B E → E 4 = A 4 → E 108 = 1 → E 103 = A 103 + 1 → (∀ M5, Frm mdr M M5 → Mdl M5 71 (cnA (mI M 73) E) → φ M5) → j_X11_stepNow_129 φ 70 M4 := by
      intro M4 E g1 g2 g3 g4 g5 g6 g7
      have hS4 := g1.S hS
      refine ⟨isO_pt hS4 (by decide) rfl, m_counted hS4 g2 g3 (by rw [g4]; exact hT.mf g1) g5 (by omega) fun M5 g8 g9 => g7 M5 (g1.tr g8) ?_⟩
      rw [g1.m73] at g9
      exact g9
    unfold trA trV at hz
    rw [ev, f12.m73]
    cases ht : vR (mI M 73) (D 4) D (D 100) (D 101) (D 102) (D 103) (htA D (D 101) (D 103)) (htA D (D 101) (D 103 - 1))
    · rw [ht, if_neg (by decide)] at hz
      exact iF_t (by decide) (cnt M3 D f123 hM3 hO2 d4 d108 d103 hz)
    · rw [ht, if_pos rfl] at hz
      refine iF_f (by decide) ⟨isO_pt hS3 (by decide) rfl, dR_of (Str.pg hS3 rfl) ⟨inA_pt hS3 rfl (vp_lit (by decide)), ?_⟩⟩
      refine m_fallOf hS3 hM3 hO2 (hT2.fn f3) rfl rfl rfl (by omega) w w2 fun M4 f4 => ?_
      have hS4 := f4.S hS3
      have hM4 := f4.M hM3
      try rw [show ix (106 : Int32) = 106 from rfl]
      rw [hM3.1 106 (by omega) (by omega), e73, nI_add]
      refine nm_of ⟨by omega, inA_pt hS4 rfl (vp_lit (by decide)), st_of ?_⟩
      try rw [show ix (106 : Int32) = 106 from rfl]
      have hM5 : Mdl (wI M4 71 106 (nI (D 106 + vF (mI M 73) D (D 100) (D 101) (D 102)))) 71 (up D 106 (D 106 + vF (mI M 73) D (D 100) (D 101) (D 102))) := Mdl.w (by omega) rfl hM4
      have fa : Frm mdr M4 (wI M4 71 106 (nI (D 106 + vF (mI M 73) D (D 100) (D 101) (D 102)))) := by (refine ⟨rfl, fun _ => rfl, fun r hr k hk => ?_⟩; (try unfold clr at hr); (try unfold mdr at hr); (try unfold scr at hr); simp (disch := omega) only [lit32, Nat.add_sub_cancel, Nat.sub_zero, Nat.reduceSub, nI_add, nI_muL, nI_sub, ix_nI, mI_s, mI_n, mI_fs, mI_fn, mI_ci, mI_co, mI_si, mI_so, Nat.add_zero, up_n, up_s, cpA_i, cpA_o, shA_i, shA_o, fiA_i, fiA_o, imin_l, imin_r, nI_mod, nI_div, xr_e, cn, cm, cr, ct, ch, p1, p2, p3, s4, s5, s6, s9, s11, s14, s15, s17, cb, cg, m1, m4, f5, f6, t1, t2, e1, e2, e3]; first | done | fail)
      generalize wI M4 71 106 (nI (D 106 + vF (mI M 73) D (D 100) (D 101) (D 102))) = M5 at hM5 fa ⊢
      have fb := (f123.tr f4.f.sm).tr fa
      have hS5 := fb.S hS
      refine ⟨isO_pt hS5 (by decide) rfl, dR_of (Str.pg hS5 rfl) ⟨inA_pt hS5 rfl (vp_lit (by decide)), nm_of ⟨by omega, inA_pt hS5 rfl (vp_lit (by decide)), st_of ?_⟩⟩⟩
      try rw [show ix (107 : Int32) = 107 from rfl]
      rw [hM5.1 107 (by omega) (by omega), up_n (by omega), show nI (D 107) + (1 : Int32) = nI (D 107 + 1) from nI_add _ 1]
      exact cnt _ _ (fb.tr (by (refine ⟨rfl, fun _ => rfl, fun r hr k hk => ?_⟩; (try unfold clr at hr); (try unfold mdr at hr); (try unfold scr at hr); simp (disch := omega) only [lit32, Nat.add_sub_cancel, Nat.sub_zero, Nat.reduceSub, nI_add, nI_muL, nI_sub, ix_nI, mI_s, mI_n, mI_fs, mI_fn, mI_ci, mI_co, mI_si, mI_so, Nat.add_zero, up_n, up_s, cpA_i, cpA_o, shA_i, shA_o, fiA_i, fiA_o, imin_l, imin_r, nI_mod, nI_div, xr_e, cn, cm, cr, ct, ch, p1, p2, p3, s4, s5, s6, s9, s11, s14, s15, s17, cb, cg, m1, m4, f5, f6, t1, t2, e1, e2, e3]; first | done | fail))) (Mdl.w (by omega) rfl hM5) ((hO2.w (by omega)).w (by omega)) d4 d108 d103 hz
theorem m_toeNow {L B : Nat} {A : Nat → Nat} {M : fM} {φ : fM → Prop} (hS : Str L M) (hM : Mdl M 71 A) (hO : Okk B A) (hT : TrM M (A 4)) (h1 : A 108 = 1) (hz : ∀ M2, Frm mdr M M2 → Mdl M2 71 (toA (mI M 73) A) → φ M2) : w_X11_toeNow 70 M φ := by
  obtain ⟨m1, m4⟩ := id hM
  have oW := hO.2.2.2.1
  have w := oW.2.1
  obtain ⟨w1, w2, w3⟩ := oW.2.2 h1
  have o0 := hO.1.1
  have hn := (hO.2.1 _ w).2.1
  have cn : 0 + 0 = 0 := rfl; have cm : 0 + 0 = 0 := rfl; have cr : 0 + 0 = 0 := rfl; have ct : 0 + 0 = 0 := rfl; have ch : 0 + 0 = 0 := rfl; have p1 : 0 + 0 = 0 := rfl; have p2 : 0 + 0 = 0 := rfl; have p3 : 0 + 0 = 0 := rfl; have s4 : 0 + 0 = 0 := rfl; have s5 : 0 + 0 = 0 := rfl; have s6 : 0 + 0 = 0 := rfl; have s9 : 0 + 0 = 0 := rfl; have s11 : 0 + 0 = 0 := rfl; have s14 : 0 + 0 = 0 := rfl; have s15 : 0 + 0 = 0 := rfl; have s17 : 0 + 0 = 0 := rfl; have cb : 0 + 0 = 0 := rfl; have cg : 0 + 0 = 0 := rfl; have f5 : 0 + 0 = 0 := rfl; have f6 : 0 + 0 = 0 := rfl; have t1 : 0 + 0 = 0 := rfl; have t2 : 0 + 0 = 0 := rfl; have e1 : 0 + 0 = 0 := rfl; have e2 : 0 + 0 = 0 := rfl; have e3 : 0 + 0 = 0 := rfl
  refine ⟨isO_pt hS (by decide) rfl, dR_of (Str.pg hS rfl) ⟨inA_pt hS rfl (vp_lit (by decide)), nm_of ⟨by omega, inA_pt hS rfl (vp_lit (by decide)), st_of ?_⟩⟩⟩
  try rw [show ix (105 : Int32) = 105 from rfl]
  rw [m1 105 (by omega) (by omega), show nI (A 105) + (3 : Int32) = nI (A 105 + 3) from nI_add _ 3]
  have hM1 : Mdl (wI M 71 105 (nI (A 105 + 3))) 71 (seA 3 A) := Mdl.w (by omega) rfl hM
  have f1 : Frm mdr M (wI M 71 105 (nI (A 105 + 3))) := by (refine ⟨rfl, fun _ => rfl, fun r hr k hk => ?_⟩; (try unfold clr at hr); (try unfold mdr at hr); (try unfold scr at hr); simp (disch := omega) only [lit32, Nat.add_sub_cancel, Nat.sub_zero, Nat.reduceSub, nI_add, nI_muL, nI_sub, ix_nI, mI_s, mI_n, mI_fs, mI_fn, mI_ci, mI_co, mI_si, mI_so, Nat.add_zero, up_n, up_s, cpA_i, cpA_o, shA_i, shA_o, fiA_i, fiA_o, imin_l, imin_r, nI_mod, nI_div, xr_e, cn, cm, cr, ct, ch, p1, p2, p3, s4, s5, s6, s9, s11, s14, s15, s17, cb, cg, m1, m4, f5, f6, t1, t2, e1, e2, e3]; first | done | fail)
  generalize wI M 71 105 (nI (A 105 + 3)) = M1 at hM1 f1 ⊢
  have hS1 := f1.S hS
  have hO1 : Okk B (seA 3 A) := o_se hO
  have ex : (10 : Int32) + ((18 : Int32) * nI (A 101)) = nI (10 + 18 * A 101) := by simp only [lit32, nI_muL, nI_add]
  unfold w_X11_stepsOf
  refine dR_of (Str.pg hS1 rfl) ⟨inA_pt hS1 rfl (vp_lit (by decide)), dR_of (Str.pg hS1 rfl) ⟨inA_pt hS1 rfl (vp_lit (by decide)), isO_pt hS1 (by decide) rfl, dR_of (Str.pg hS1 rfl) ?_⟩⟩
  try rw [show ix (101 : Int32) = 101 from rfl]
  rw [hM1.1 101 (by omega) (by omega), seA_l (by omega), ex, ix_nI (by omega)]
  refine ⟨inA_pt hS1 rfl (vp_nI (by omega) (by decide)), ?_⟩
  try rw [show ix (103 : Int32) = 103 from rfl]
  rw [hM1.1 103 (by omega) (by omega), hM1.1 (10 + 18 * A 101) (by omega) (by omega), seA_l (by omega), seA_l (by omega)]
  unfold toA at hz
  by_cases q : A 103 = A (10 + 18 * A 101)
  · rw [if_pos q] at hz
    exact iF_t (by rw [q]) ⟨isO_pt hS1 (by decide) rfl, m_down hS1 hM1 hO1 rfl fun M4 f4 hM4 => hz M4 (f1.tr f4) hM4⟩
  · rw [if_neg q] at hz
    refine iF_f (fun c => q (nI_inj (by omega) (by omega) c)) ⟨isO_pt hS1 (by decide) rfl, dR_of (Str.pg hS1 rfl) ⟨inA_pt hS1 rfl (vp_lit (by decide)), ?_⟩⟩
    try rw [show ix (103 : Int32) = 103 from rfl]
    rw [hM1.1 103 (by omega) (by omega), seA_l (by omega), show nI (A 103) + (1 : Int32) = nI (A 103 + 1) from nI_add _ 1]
    refine nm_of ⟨by omega, inA_pt hS1 rfl (vp_lit (by decide)), st_of ?_⟩
    try rw [show ix (103 : Int32) = 103 from rfl]
    have hM2 : Mdl (wI M1 71 103 (nI (A 103 + 1))) 71 (adA 3 A) := Mdl.w (by omega) rfl hM1
    have f2 : Frm mdr M1 (wI M1 71 103 (nI (A 103 + 1))) := by (refine ⟨rfl, fun _ => rfl, fun r hr k hk => ?_⟩; (try unfold clr at hr); (try unfold mdr at hr); (try unfold scr at hr); simp (disch := omega) only [lit32, Nat.add_sub_cancel, Nat.sub_zero, Nat.reduceSub, nI_add, nI_muL, nI_sub, ix_nI, mI_s, mI_n, mI_fs, mI_fn, mI_ci, mI_co, mI_si, mI_so, Nat.add_zero, up_n, up_s, cpA_i, cpA_o, shA_i, shA_o, fiA_i, fiA_o, imin_l, imin_r, nI_mod, nI_div, xr_e, cn, cm, cr, ct, ch, p1, p2, p3, s4, s5, s6, s9, s11, s14, s15, s17, cb, cg, m1, m4, f5, f6, t1, t2, e1, e2, e3]; first | done | fail)
    generalize wI M1 71 103 (nI (A 103 + 1)) = M2 at hM2 f2 ⊢
    have f12 := f1.tr f2
    have hS2 := f12.S hS
    refine m_counted hS2 hM2 (o_ad hO h1 q) (hT.mf f12) h1 (Nat.le_add_left _ _) fun M5 g8 g9 => hz M5 (f12.tr g8) ?_
    rw [f12.m73] at g9
    exact g9
