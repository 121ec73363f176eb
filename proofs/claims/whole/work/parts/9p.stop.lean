/-! ===== the calls step, toe, stop ===== -/
theorem stA_l {tx : Nat → Int32} {A : Nat → Nat} {k : Nat} (hk : k < 100) (h2 : k ≠ 2) (h8 : k ≠ 8) : stA tx A k = A k := by
  unfold stA
  split
  · rw [dwA_l (by omega) h8 (by omega), up_n (by omega), seA_l (by omega)]
  · unfold cnA trA drA
    rw [up_n (by omega), up_n h2]
    split
    · rw [up_n (by omega), up_n (by omega), adA_l (by omega) (by omega)]
    · rw [adA_l (by omega) (by omega)]
theorem toA_l {tx : Nat → Int32} {A : Nat → Nat} {k : Nat} (hk : k < 100) (h2 : k ≠ 2) (h8 : k ≠ 8) : toA tx A k = A k := by
  unfold toA
  split
  · rw [dwA_l (by omega) h8 (by omega), seA_l (by omega)]
  · unfold cnA drA
    rw [up_n (by omega), up_n h2, adA_l (by omega) (by omega)]
def T_step : (Nat → Int32) → (Nat → Nat) → Int32 → (Nat → Nat) → Prop := fun tx A v A2 => (A 108 = 0 ∧ v = -1 ∧ A2 = A) ∨ (A 108 = 1 ∧ v = nI (stA tx (kpA A) 103) ∧ A2 = stA tx (kpA A))
def T_toe : (Nat → Int32) → (Nat → Nat) → Int32 → (Nat → Nat) → Prop := fun tx A v A2 => (A 108 = 0 ∧ v = -1 ∧ A2 = A) ∨ (A 108 = 1 ∧ v = nI (toA tx (kpA A) 103) ∧ A2 = toA tx (kpA A))
def fsA (tx : Nat → Int32) (A : Nat → Nat) : Nat → Nat := dwA 3 (up A 106 (A 106 + vF tx A (A 100) (A 101) (A 102)))
def T_stop : (Nat → Int32) → (Nat → Nat) → Int32 → (Nat → Nat) → Prop := fun tx A v A2 => (A 108 = 0 ∧ v = -1 ∧ A2 = A) ∨ (A 108 = 1 ∧ A 103 = A (10 + 18 * A 101) ∧ v = 2 ∧ A2 = dwA 2 (kpA A)) ∨ (A 108 = 1 ∧ A 103 ≠ A (10 + 18 * A 101) ∧ v = 3 ∧ A2 = fsA tx (kpA A))
theorem kpA_w {B : Nat} {A : Nat → Nat} (hO : Okk B A) : kpA A 3 = A 3 ∧ kpA A 4 = A 4 ∧ kpA A 100 = A 100 ∧ kpA A 101 = A 101 ∧ kpA A 102 = A 102 ∧ kpA A 103 = A 103 ∧ kpA A 108 = A 108 ∧ kpA A (10 + 18 * A 101) = A (10 + 18 * A 101) := by
  have o5 := hO.1.2.2.2.2.2.1
  have w := hO.2.2.2.1.2.1
  exact ⟨kpA_l o5 (by omega) (by omega), kpA_l o5 (by omega) (by omega), kpA_l o5 (by omega) (by omega), kpA_l o5 (by omega) (by omega), kpA_l o5 (by omega) (by omega), kpA_l o5 (by omega) (by omega), kpA_l o5 (by omega) (by omega), kpA_l o5 (by omega) (by omega)⟩
theorem o_step (B : Nat) (hB : B + 1 ≤ 1000000) : TOk B (B + 1) T_step := by
  intro t A v A2 hO h
  obtain ⟨k3, -, -, -, -, -, k8, -⟩ := kpA_w hO
  rcases h with ⟨h0, -, rfl⟩ | ⟨h1, -, rfl⟩
  · exact ⟨hO.mn (Nat.le_succ B) hB, rfl⟩
  · exact ⟨o_st (o_keep hO) (k8.trans h1) hB, (stA_l (by omega) (by omega) (by omega)).trans k3⟩
theorem o_toe (B : Nat) (hB : B + 1 ≤ 1000000) : TOk B (B + 1) T_toe := by
  intro t A v A2 hO h
  obtain ⟨k3, -, -, -, -, -, k8, -⟩ := kpA_w hO
  rcases h with ⟨h0, -, rfl⟩ | ⟨h1, -, rfl⟩
  · exact ⟨hO.mn (Nat.le_succ B) hB, rfl⟩
  · exact ⟨o_to (o_keep hO) (k8.trans h1) hB, (toA_l (by omega) (by omega) (by omega)).trans k3⟩
theorem o_stop (B : Nat) (hB : B + 1 ≤ 1000000) : TOk B (B + 1) T_stop := by
  intro t A v A2 hO h
  obtain ⟨k3, -, -, -, -, -, k8, -⟩ := kpA_w hO
  rcases h with ⟨h0, -, rfl⟩ | ⟨h1, -, -, rfl⟩ | ⟨h1, -, -, rfl⟩
  · exact ⟨hO.mn (Nat.le_succ B) hB, rfl⟩
  · exact ⟨o_down (o_keep hO) hB, (dwA_l (by omega) (by omega) (by omega)).trans k3⟩
  · exact ⟨o_down ((o_keep hO).w (by omega)) hB, (dwA_l (by omega) (by omega) (by omega)).trans ((up_n (by omega)).trans k3)⟩
theorem TrM.kp {B : Nat} {A : Nat → Nat} {M : fM} (hO : Okk B A) (hT : ∀ i, i < A 3 → TxR M 18 i) : TrM M (kpA A 4) := by
  obtain ⟨k3, k4, -⟩ := kpA_w hO
  rw [k4]
  exact TrM.of hO.1.2.2.2.1 hT hO.1.2.2.2.2.1
theorem c_onWay {L nx : Nat} {A : Nat → Nat} {M : fM} {φ : Int32 → fM → Prop} (hS : Str L M) (hC : Cls M 10 A nx) (h0 : A 108 = 0 → φ 0 M) (h1 : A 108 = 1 → A 100 < 6 → φ 1 M) (hp : A 108 = 1 → A 100 < 6) (ho : A 108 = 0 ∨ A 108 = 1) : w_X5_isOnWay 10 M φ := by
  refine ⟨isO_pt hS (by decide) rfl, dR_of (Str.pg hS rfl) ⟨inA_pt hS rfl (vp_lit (by decide)), ?_⟩⟩
  try rw [show ix (0 : Int32) = 0 from rfl]
  rcases ho with e | e
  · exact iF_t (hC.2.2.2.1.2 e) (h0 e)
  · have e0 := (way_on hC.2.2.2.1 e).1
    have q := hp e
    refine iF_f (fun c => ?_) (h1 e q)
    rw [e0] at c
    have z : (nI (A 100)).toInt = (-1 : Int32).toInt := congrArg Int32.toInt c
    rw [toInt_nI (by omega), show (-1 : Int32).toInt = -1 from rfl] at z
    omega
theorem Okk.p6 {B : Nat} {A : Nat → Nat} (hO : Okk B A) : A 108 = 1 → A 100 < 6 := fun h => by
  have q := (hO.2.2.2.1.2.2 h).1
  have o0 := hO.1.1
  omega
theorem kp_T {B : Nat} {A : Nat → Nat} {M M2 : fM} (hO : Okk B A) (f : Frm clr M M2) (hT : ∀ i, i < A 3 → TxR M 18 i) : ∀ i, i < kpA A 3 → TxR M2 18 i := fun i hi => f.cT (hT i (by rw [(kpA_w hO).1] at hi; exact hi))
theorem c_step (L B : Nat) : CSp L B (fun M φ => w_X9_stepAct 57 M φ) T_step := by
  intro M A nx φ hS hC hO hT hz
  show w_X9_stepAct 57 M φ
  refine ⟨isO_pt hS (by decide) rfl, dR_of (Str.pg hS rfl) ⟨isO_pt hS (by decide) rfl, c_onWay hS hC (fun e => ?_) (fun e _ => ?_) hO.p6 hO.2.2.2.1.1⟩⟩
  · exact iF_t rfl (hz _ A nx M (Or.inl ⟨e, rfl, rfl⟩) Frm.rf hC)
  · refine iF_f (by decide) ⟨isO_pt hS (by decide) rfl, dR_of (Str.pg hS rfl) ⟨isO_pt hS (by decide) rfl, c_remember hS hC hO fun M1 nx1 f1 hC1 => ?_⟩⟩
    have k8 := (kpA_w hO).2.2.2.2.2.2.1.trans e
    refine ⟨isO_pt (f1.S hS) (by decide) rfl, c_goStep (f1.S hS) hC1 (o_keep hO) (kp_T hO f1 hT) k8 fun M2 f2 hC2 => ?_⟩
    rw [f1.c73] at hC2 ⊢
    exact hz _ _ nx1 M2 (Or.inr ⟨e, rfl, rfl⟩) (f1.tr f2) hC2
theorem c_toe (L B : Nat) : CSp L B (fun M φ => w_X9_toeAct 57 M φ) T_toe := by
  intro M A nx φ hS hC hO hT hz
  show w_X9_toeAct 57 M φ
  refine ⟨isO_pt hS (by decide) rfl, dR_of (Str.pg hS rfl) ⟨isO_pt hS (by decide) rfl, c_onWay hS hC (fun e => ?_) (fun e _ => ?_) hO.p6 hO.2.2.2.1.1⟩⟩
  · exact iF_t rfl (hz _ A nx M (Or.inl ⟨e, rfl, rfl⟩) Frm.rf hC)
  · refine iF_f (by decide) ⟨isO_pt hS (by decide) rfl, dR_of (Str.pg hS rfl) ⟨isO_pt hS (by decide) rfl, c_remember hS hC hO fun M1 nx1 f1 hC1 => ?_⟩⟩
    have k8 := (kpA_w hO).2.2.2.2.2.2.1.trans e
    refine ⟨isO_pt (f1.S hS) (by decide) rfl, c_goToe (f1.S hS) hC1 (o_keep hO) (kp_T hO f1 hT) k8 fun M2 f2 hC2 => ?_⟩
    rw [f1.c73] at hC2 ⊢
    exact hz _ _ nx1 M2 (Or.inr ⟨e, rfl, rfl⟩) (f1.tr f2) hC2
theorem m_step (L B : Nat) : MSp L B (fun M φ => w_X11_step 70 M φ) T_step := by
  intro M A A2 v φ hS hM hO hT hv hz
  show w_X11_step 70 M φ
  refine ⟨isO_pt hS (by decide) rfl, dR_of (Str.pg hS rfl) ⟨inA_pt hS rfl (vp_lit (by decide)), ?_⟩⟩
  try rw [show ix (108 : Int32) = 108 from rfl]
  rw [hM.1 108 (by omega) (by omega)]
  rcases hv with ⟨e, rfl, rfl⟩ | ⟨e, rfl, rfl⟩
  · exact iF_t (by rw [e]; rfl) (hz M Frm.rf hM)
  · refine iF_f (by rw [e]; decide) (m_keep hS hM hO fun M1 f1 hM1 => ?_)
    have k8 := (kpA_w hO).2.2.2.2.2.2.1.trans e
    refine ⟨isO_pt (f1.S hS) (by decide) rfl, m_stepNow (f1.S hS) hM1 (o_keep hO) (TrM.kp hO fun i hi => f1.mT (hT i hi)) k8 fun M2 f2 hM2 => ?_⟩
    rw [f1.m73] at hM2
    have f := f1.tr f2
    refine ⟨isO_pt (f.S hS) (by decide) rfl, dR_of (Str.pg (f.S hS) rfl) ⟨inA_pt (f.S hS) rfl (vp_lit (by decide)), ?_⟩⟩
    try rw [show ix (103 : Int32) = 103 from rfl]
    rw [hM2.1 103 (by omega) (by omega)]
    exact hz M2 f hM2
theorem m_toe (L B : Nat) : MSp L B (fun M φ => w_X11_toe 70 M φ) T_toe := by
  intro M A A2 v φ hS hM hO hT hv hz
  show w_X11_toe 70 M φ
  refine ⟨isO_pt hS (by decide) rfl, dR_of (Str.pg hS rfl) ⟨inA_pt hS rfl (vp_lit (by decide)), ?_⟩⟩
  try rw [show ix (108 : Int32) = 108 from rfl]
  rw [hM.1 108 (by omega) (by omega)]
  rcases hv with ⟨e, rfl, rfl⟩ | ⟨e, rfl, rfl⟩
  · exact iF_t (by rw [e]; rfl) (hz M Frm.rf hM)
  · refine iF_f (by rw [e]; decide) (m_keep hS hM hO fun M1 f1 hM1 => ?_)
    have k8 := (kpA_w hO).2.2.2.2.2.2.1.trans e
    refine ⟨isO_pt (f1.S hS) (by decide) rfl, m_toeNow (f1.S hS) hM1 (o_keep hO) (TrM.kp hO fun i hi => f1.mT (hT i hi)) k8 fun M2 f2 hM2 => ?_⟩
    rw [f1.m73] at hM2
    have f := f1.tr f2
    refine ⟨isO_pt (f.S hS) (by decide) rfl, dR_of (Str.pg (f.S hS) rfl) ⟨inA_pt (f.S hS) rfl (vp_lit (by decide)), ?_⟩⟩
    try rw [show ix (103 : Int32) = 103 from rfl]
    rw [hM2.1 103 (by omega) (by omega)]
    exact hz M2 f hM2
theorem c_hOx {L : Nat} {M : fM} {a : Int32} {φ : Option Nat → fM → Prop} (hS : Str L M) (h : ∀ o, φ o M) : w_X5_houseOf 10 a M φ := by
  rcases Decidable.em (0 ≤ a.toInt ∧ a.toInt ≤ (3 : Nat)) with hv | hv
  · obtain ⟨k, hk, rfl⟩ := rgI hv.1 hv.2
    exact c_hO10 hS (by omega) (h _)
  · have cn : 0 + 0 = 0 := rfl; have cm : 0 + 0 = 0 := rfl; have cr : 0 + 0 = 0 := rfl; have ct : 0 + 0 = 0 := rfl; have ch : 0 + 0 = 0 := rfl; have p1 : 0 + 0 = 0 := rfl; have p2 : 0 + 0 = 0 := rfl; have p3 : 0 + 0 = 0 := rfl; have s4 : 0 + 0 = 0 := rfl; have s5 : 0 + 0 = 0 := rfl; have s6 : 0 + 0 = 0 := rfl; have s9 : 0 + 0 = 0 := rfl; have s11 : 0 + 0 = 0 := rfl; have s14 : 0 + 0 = 0 := rfl; have s15 : 0 + 0 = 0 := rfl; have s17 : 0 + 0 = 0 := rfl; have cb : 0 + 0 = 0 := rfl; have cg : 0 + 0 = 0 := rfl; have m1 : 0 + 0 = 0 := rfl; have m4 : 0 + 0 = 0 := rfl; have f5 : 0 + 0 = 0 := rfl; have f6 : 0 + 0 = 0 := rfl; have t1 : 0 + 0 = 0 := rfl; have t2 : 0 + 0 = 0 := rfl; have e1 : 0 + 0 = 0 := rfl; have e2 : 0 + 0 = 0 := rfl; have e3 : 0 + 0 = 0 := rfl
    unfold w_X5_houseOf
    repeat' (first | ((with_reducible refine c_fil_hh (L := L) ?_ ?_ ?_); (exact hS); omega) | ((with_reducible refine c_build (L := L) ?_ ?_ ?_); (exact hS); omega) | with_reducible refine nm_of ?_ | with_reducible refine st_of ?_ | ((with_reducible apply dR_of); first | exact Str.pg hS rfl | exact sp_hsx hS (by omega) | exact sp_hs hS (by omega) | exact sp_hh hS (by omega) | assumption | fail) | ((with_reducible refine And.intro ?_ ?_); first | exact isO_pt hS (by decide) rfl | exact inA_pt hS rfl (by (first | exact vp_lit (by decide) | (simp (disch := omega) only [lit32, Nat.add_sub_cancel, Nat.sub_zero, Nat.reduceSub, nI_add, nI_muL, nI_sub, ix_nI, mI_s, mI_n, mI_fs, mI_fn, mI_ci, mI_co, mI_si, mI_so, Nat.add_zero, up_n, up_s, cpA_i, cpA_o, shA_i, shA_o, fiA_i, fiA_o, imin_l, imin_r, nI_mod, nI_div, xr_e, cn, cm, cr, ct, ch, p1, p2, p3, s4, s5, s6, s9, s11, s14, s15, s17, cb, cg, m1, m4, f5, f6, t1, t2, e1, e2, e3]; first | done | exact vp_nI (by omega) (by decide)) | exact vp_nI (by omega) (by decide) | fail)) | omega | exact isO_hs hS (by omega) | exact inA_hh hS (by omega) (by (first | exact vp_lit (by decide) | (simp (disch := omega) only [lit32, Nat.add_sub_cancel, Nat.sub_zero, Nat.reduceSub, nI_add, nI_muL, nI_sub, ix_nI, mI_s, mI_n, mI_fs, mI_fn, mI_ci, mI_co, mI_si, mI_so, Nat.add_zero, up_n, up_s, cpA_i, cpA_o, shA_i, shA_o, fiA_i, fiA_o, imin_l, imin_r, nI_mod, nI_div, xr_e, cn, cm, cr, ct, ch, p1, p2, p3, s4, s5, s6, s9, s11, s14, s15, s17, cb, cg, m1, m4, f5, f6, t1, t2, e1, e2, e3]; first | done | exact vp_nI (by omega) (by decide)) | exact vp_nI (by omega) (by decide) | fail)) | exact isB1 | exact isB0 | assumption | fail) | ((with_reducible apply lenA_of); first | exact Str.sh hS _ _ rfl | exact ss_hh hS (by omega) | assumption | fail) | with_reducible refine gN_of rfl ?_ | with_reducible refine gN_no rfl ?_ | ((with_reducible refine iF_t ?_ ?_); focus ((try simp (disch := omega) only [lit32, Nat.add_sub_cancel, Nat.sub_zero, Nat.reduceSub, nI_add, nI_muL, nI_sub, ix_nI, mI_s, mI_n, mI_fs, mI_fn, mI_ci, mI_co, mI_si, mI_so, Nat.add_zero, up_n, up_s, cpA_i, cpA_o, shA_i, shA_o, fiA_i, fiA_o, imin_l, imin_r, nI_mod, nI_div, xr_e, cn, cm, cr, ct, ch, p1, p2, p3, s4, s5, s6, s9, s11, s14, s15, s17, cb, cg, m1, m4, f5, f6, t1, t2, e1, e2, e3, lt_toInt, le_toInt, eq_toInt, toInt_nI, tI_neg, bt_e, tI_sub, tI_subR, tI_subL]); first | done | omega)) | ((with_reducible refine iF_f ?_ ?_); focus ((try simp (disch := omega) only [lit32, Nat.add_sub_cancel, Nat.sub_zero, Nat.reduceSub, nI_add, nI_muL, nI_sub, ix_nI, mI_s, mI_n, mI_fs, mI_fn, mI_ci, mI_co, mI_si, mI_so, Nat.add_zero, up_n, up_s, cpA_i, cpA_o, shA_i, shA_o, fiA_i, fiA_o, imin_l, imin_r, nI_mod, nI_div, xr_e, cn, cm, cr, ct, ch, p1, p2, p3, s4, s5, s6, s9, s11, s14, s15, s17, cb, cg, m1, m4, f5, f6, t1, t2, e1, e2, e3, lt_toInt, le_toInt, eq_toInt, toInt_nI, tI_neg, bt_e, tI_sub, tI_subR, tI_subL]); first | done | omega)) | ((with_reducible refine iF_s (fun hc => ?_) (fun hc => ?_)) <;> (try simp (disch := omega) only [lit32, Nat.add_sub_cancel, Nat.sub_zero, Nat.reduceSub, nI_add, nI_muL, nI_sub, ix_nI, mI_s, mI_n, mI_fs, mI_fn, mI_ci, mI_co, mI_si, mI_so, Nat.add_zero, up_n, up_s, cpA_i, cpA_o, shA_i, shA_o, fiA_i, fiA_o, imin_l, imin_r, nI_mod, nI_div, xr_e, cn, cm, cr, ct, ch, p1, p2, p3, s4, s5, s6, s9, s11, s14, s15, s17, cb, cg, m1, m4, f5, f6, t1, t2, e1, e2, e3, lt_toInt, le_toInt, eq_toInt, toInt_nI, tI_neg, bt_e, tI_sub, tI_subR, tI_subL] at hc)) | fail)
    all_goals first | (exfalso; omega) | exact h _
theorem c_stop (L B : Nat) : CSp L B (fun M φ => w_X9_stopAct 57 M φ) T_stop := by
  intro M A nx φ hS hC hO hT hz
  show w_X9_stopAct 57 M φ
  have o5 := hO.1.2.2.2.2.2.1
  have oW := hO.2.2.2.1
  refine ⟨isO_pt hS (by decide) rfl, dR_of (Str.pg hS rfl) (dR_of (Str.pg hS rfl) ⟨isO_pt hS (by decide) rfl, dR_of (Str.pg hS rfl) ⟨inA_pt hS rfl (vp_lit (by decide)), isO_pt hS (by decide) rfl, ?_⟩⟩)⟩
  try rw [show ix (1 : Int32) = 1 from rfl]
  rcases oW.1 with e | e
  · refine c_hOx hS fun o => ⟨isO_pt hS (by decide) rfl, dR_of (Str.pg hS rfl) ⟨isO_pt hS (by decide) rfl, c_onWay hS hC (fun _ => iF_t rfl (hz _ A nx M (Or.inl ⟨e, rfl, rfl⟩) Frm.rf hC)) (fun c _ => absurd (e.symm.trans c) (by omega)) hO.p6 oW.1⟩⟩
  · have w := oW.2.1
    obtain ⟨w1, w2, w3⟩ := oW.2.2 e
    rw [(way_on hC.2.2.2.1 e).2.1]
    refine c_hO10 hS w ⟨isO_pt hS (by decide) rfl, dR_of (Str.pg hS rfl) ⟨isO_pt hS (by decide) rfl, c_onWay hS hC (fun c => absurd (e.symm.trans c) (by omega)) (fun _ _ => iF_f (by decide) (gN_of rfl ⟨isO_pt hS (by decide) rfl, dR_of (Str.pg hS rfl) ⟨isO_pt hS (by decide) rfl, c_remember hS hC hO fun M1 nx1 f1 hC1 => ?_⟩⟩)) hO.p6 oW.1⟩⟩
    obtain ⟨k3, k4, k100, k101, k102, k103, k108, kn⟩ := kpA_w hO
    have hO1 := o_keep hO
    have hS1 := f1.S hS
    have k8 := k108.trans e
    refine ⟨isO_pt hS1 (by decide) rfl, c_turnToWay hS1 hC1 hO1 (kp_T hO f1 hT) k8 fun M2 f2 t2 => ?_⟩
    rw [f1.c73] at t2
    have hS2 := f2.S hS1
    have o5k := hO1.1.2.2.2.2.2.1
    have hC2 := f2.sC o5k hC1
    have f12 := f1.tr f2.sc
    obtain ⟨e0, e1, e2, e3, e4, e5, e6, e7⟩ := way_on hC2.2.2.2.1 k8
    obtain ⟨cn, -⟩ := hC2.f
    refine ⟨isO_pt hS2 (by decide) rfl, dR_of (Str.pg hS2 rfl) ⟨isO_pt hS2 (by decide) rfl, dR_of (Str.pg hS2 rfl) ⟨inA_pt hS2 rfl (vp_lit (by decide)), isO_hs hS2 w, ?_⟩⟩⟩
    try rw [show ix (3 : Int32) = 3 from rfl]
    have hn := (hO.2.1 _ w).2.1
    rw [e3, cn _ w, kn, k103]
    by_cases q : A 103 = A (10 + 18 * A 101)
    · refine iF_f (fun c => absurd ((nIlt (by omega) (by omega)).mp c) (by omega)) (iF_f (by decide) ⟨isO_pt hS2 (by decide) rfl, c_down (how := 2) hS2 hC2 hO1 k8 rfl fun M3 f3 hC3 => ?_⟩)
      exact hz _ _ nx1 M3 (Or.inr (Or.inl ⟨e, q, rfl, rfl⟩)) (f12.tr f3) hC3
    · refine iF_t ((nIlt (by omega) (by omega)).mpr (by omega)) (iF_t rfl ⟨isO_pt hS2 (by decide) rfl, dR_of (Str.pg hS2 rfl) ⟨isO_pt hS2 (by decide) rfl, dR_of (Str.pg hS2 rfl) ⟨inA_pt hS2 rfl (vp_lit (by decide)), dR_of (Str.pg hS2 rfl) ⟨isO_pt hS2 (by decide) rfl, c_fallNow hS2 t2.1 (nv := nvF (kpA A) (kpA A 100) (kpA A 101) (kpA A 102) 0 0 0) (fun v hv => ⟨t2.2.2.2 0 0 0 v hv, nvF_b hO1 (hO1.p6 k8) (by omega) (by omega) (by omega) (by omega) (by omega) v⟩) fun M3 f3 => ?_⟩⟩⟩⟩)
      have hS3 := f3.S hS2
      have hC3 := f3.C o5k hC2
      try rw [show ix (6 : Int32) = 6 from rfl]
      rw [e6]
      show nm (nI (kpA A 106) + nI (vF (mI M 73) (kpA A) (kpA A 100) (kpA A 101) (kpA A 102))) _
      rw [nI_add]
      refine nm_of ⟨by omega, inA_pt hS3 rfl (vp_lit (by decide)), st_of ?_⟩
      have hC4 : Cls (wI M3 15 6 (nI (kpA A 106 + vF (mI M 73) (kpA A) (kpA A 100) (kpA A 101) (kpA A 102)))) 10 (up (kpA A) 106 (kpA A 106 + vF (mI M 73) (kpA A) (kpA A 100) (kpA A 101) (kpA A 102))) nx1 := hC3.w15 (k := 6) (by omega) rfl o5k k8
      have f4 : Frm clr M3 (wI M3 15 6 (nI (kpA A 106 + vF (mI M 73) (kpA A) (kpA A 100) (kpA A 101) (kpA A 102)))) := by
        have cm : 0 + 0 = 0 := rfl; have cr : 0 + 0 = 0 := rfl; have ct : 0 + 0 = 0 := rfl; have ch : 0 + 0 = 0 := rfl; have p1 : 0 + 0 = 0 := rfl; have p2 : 0 + 0 = 0 := rfl; have p3 : 0 + 0 = 0 := rfl; have s4 : 0 + 0 = 0 := rfl; have s5 : 0 + 0 = 0 := rfl; have s6 : 0 + 0 = 0 := rfl; have s9 : 0 + 0 = 0 := rfl; have s11 : 0 + 0 = 0 := rfl; have s14 : 0 + 0 = 0 := rfl; have s15 : 0 + 0 = 0 := rfl; have s17 : 0 + 0 = 0 := rfl; have cb : 0 + 0 = 0 := rfl; have cg : 0 + 0 = 0 := rfl; have m1 : 0 + 0 = 0 := rfl; have m4 : 0 + 0 = 0 := rfl; have f5 : 0 + 0 = 0 := rfl; have f6 : 0 + 0 = 0 := rfl; have t1 : 0 + 0 = 0 := rfl
        (refine ⟨rfl, fun _ => rfl, fun r hr k hk => ?_⟩; (try unfold clr at hr); (try unfold mdr at hr); (try unfold scr at hr); simp (disch := omega) only [lit32, Nat.add_sub_cancel, Nat.sub_zero, Nat.reduceSub, nI_add, nI_muL, nI_sub, ix_nI, mI_s, mI_n, mI_fs, mI_fn, mI_ci, mI_co, mI_si, mI_so, Nat.add_zero, up_n, up_s, cpA_i, cpA_o, shA_i, shA_o, fiA_i, fiA_o, imin_l, imin_r, nI_mod, nI_div, xr_e, cn, cm, cr, ct, ch, p1, p2, p3, s4, s5, s6, s9, s11, s14, s15, s17, cb, cg, m1, m4, f5, f6, t1, t2, e1, e2, e3]; first | done | fail)
      have f := (f12.tr f3.f.sc).tr f4
      refine ⟨isO_pt (f.S hS) (by decide) rfl, c_down (how := 3) (f.S hS) hC4 (hO1.w (by omega)) k8 rfl fun M5 fa hC5 => ?_⟩
      exact hz _ _ nx1 M5 (Or.inr (Or.inr ⟨e, q, rfl, rfl⟩)) (f.tr fa) hC5
theorem m_stop (L B : Nat) : MSp L B (fun M φ => w_X11_stop 70 M φ) T_stop := by
  intro M A A2 v φ hS hM hO hT hv hz
  show w_X11_stop 70 M φ
  have oW := hO.2.2.2.1
  have w := oW.2.1
  have hn := (hO.2.1 _ w).2.1
  refine ⟨isO_pt hS (by decide) rfl, dR_of (Str.pg hS rfl) ⟨inA_pt hS rfl (vp_lit (by decide)), ?_⟩⟩
  try rw [show ix (108 : Int32) = 108 from rfl]
  rw [hM.1 108 (by omega) (by omega)]
  have z0 : A 108 = 0 → v = -1 → A2 = A → φ v M := fun _ _ q => by
    subst q
    exact hz M Frm.rf hM
  have go : A 108 = 1 → (∀ M1, Frm mdr M M1 → Mdl M1 71 (kpA A) → iF (nI (A 103) = nI (A (10 + 18 * A 101))) (j_X11_stop_42 φ 70 (1 : Int32) M1) (j_X11_stop_42 φ 70 (0 : Int32) M1)) → iF (nI (A 108) = 0) (φ (-1 : Int32) M) (w_X11_keep 70 M fun M49 => isO M49 70 11 ∧ dR (mP M49 70 0) fun y53 => inA M49 y53 12 (103 : Int32) ∧ dR (mP M49 70 0) fun y58 => inA M49 y58 12 (101 : Int32) ∧ w_X11_stepsOf 70 (mI M49 y58 (ix (101 : Int32))) M49 fun x64 M63 => iF ((mI M49 y53 (ix (103 : Int32))) = x64) (j_X11_stop_42 φ 70 (1 : Int32) M63) (j_X11_stop_42 φ 70 (0 : Int32) M63)) := by
    intro e h
    refine iF_f (by rw [e]; decide) (m_keep hS hM hO fun M1 f1 hM1 => ?_)
    have hS1 := f1.S hS
    obtain ⟨k3, k4, k100, k101, k102, k103, k108, kn⟩ := kpA_w hO
    have ex : (10 : Int32) + ((18 : Int32) * nI (A 101)) = nI (10 + 18 * A 101) := by simp only [lit32, nI_muL, nI_add]
    refine ⟨isO_pt hS1 (by decide) rfl, dR_of (Str.pg hS1 rfl) ⟨inA_pt hS1 rfl (vp_lit (by decide)), dR_of (Str.pg hS1 rfl) ⟨inA_pt hS1 rfl (vp_lit (by decide)), isO_pt hS1 (by decide) rfl, dR_of (Str.pg hS1 rfl) ?_⟩⟩⟩
    try rw [show ix (101 : Int32) = 101 from rfl]
    try rw [show ix (103 : Int32) = 103 from rfl]
    rw [hM1.1 101 (by omega) (by omega), hM1.1 103 (by omega) (by omega), k101, k103, ex, ix_nI (by omega)]
    refine ⟨inA_pt hS1 rfl (vp_nI (by omega) (by decide)), ?_⟩
    rw [hM1.1 _ (by omega) (by omega), kn]
    exact h M1 f1 hM1
  rcases hv with ⟨e, rfl, rfl⟩ | ⟨e, q, rfl, rfl⟩ | ⟨e, q, rfl, rfl⟩
  · exact iF_t (by rw [e]; rfl) (hz M Frm.rf hM)
  · refine go e fun M1 f1 hM1 => iF_t (by rw [q]) ?_
    have hS1 := f1.S hS
    exact iF_f (by decide) (iF_f (by decide) ⟨isO_pt hS1 (by decide) rfl, m_down hS1 hM1 (o_keep hO) rfl fun M2 f2 hM2 => iF_f (by decide) (hz M2 (f1.tr f2) hM2)⟩)
  · refine go e fun M1 f1 hM1 => iF_f (fun c => q (nI_inj (by have := (oW.2.2 e).2.2; omega) (by omega) c)) ?_
    have hS1 := f1.S hS
    have hO1 := o_keep hO
    obtain ⟨k3, k4, k100, k101, k102, k103, k108, kn⟩ := kpA_w hO
    have w2 := (oW.2.2 e).2.1
    refine iF_t rfl ⟨isO_pt hS1 (by decide) rfl, dR_of (Str.pg hS1 rfl) ⟨inA_pt hS1 rfl (vp_lit (by decide)), dR_of (Str.pg hS1 rfl) ⟨inA_pt hS1 rfl (vp_lit (by decide)), dR_of (Str.pg hS1 rfl) ⟨inA_pt hS1 rfl (vp_lit (by decide)), dR_of (Str.pg hS1 rfl) ⟨inA_pt hS1 rfl (vp_lit (by decide)), ?_⟩⟩⟩⟩⟩
    try rw [show ix (100 : Int32) = 100 from rfl]
    try rw [show ix (101 : Int32) = 101 from rfl]
    try rw [show ix (102 : Int32) = 102 from rfl]
    try rw [show ix (106 : Int32) = 106 from rfl]
    refine m_fallOf hS1 hM1 hO1 (TrM.kp hO fun i hi => f1.mT (hT i hi)) (hM1.1 100 (by omega) (by omega)) (hM1.1 101 (by omega) (by omega)) (hM1.1 102 (by omega) (by omega)) (hO1.p6 (k108.trans e)) (by omega) (by omega) fun M2 f2 => ?_
    have hS2 := f2.S hS1
    have hM2 := f2.M hM1
    rw [hM1.1 106 (by omega) (by omega), f1.m73, nI_add]
    refine nm_of ⟨by omega, inA_pt hS2 rfl (vp_lit (by decide)), st_of ?_⟩
    have hM3 : Mdl (wI M2 71 106 (nI (kpA A 106 + vF (mI M 73) (kpA A) (kpA A 100) (kpA A 101) (kpA A 102)))) 71 (up (kpA A) 106 (kpA A 106 + vF (mI M 73) (kpA A) (kpA A 100) (kpA A 101) (kpA A 102))) := Mdl.w (by omega) rfl hM2
    have f3 : Frm mdr M2 (wI M2 71 106 (nI (kpA A 106 + vF (mI M 73) (kpA A) (kpA A 100) (kpA A 101) (kpA A 102)))) := by
      have cn : 0 + 0 = 0 := rfl; have cm : 0 + 0 = 0 := rfl; have cr : 0 + 0 = 0 := rfl; have ct : 0 + 0 = 0 := rfl; have ch : 0 + 0 = 0 := rfl; have p1 : 0 + 0 = 0 := rfl; have p2 : 0 + 0 = 0 := rfl; have p3 : 0 + 0 = 0 := rfl; have s4 : 0 + 0 = 0 := rfl; have s5 : 0 + 0 = 0 := rfl; have s6 : 0 + 0 = 0 := rfl; have s9 : 0 + 0 = 0 := rfl; have s11 : 0 + 0 = 0 := rfl; have s14 : 0 + 0 = 0 := rfl; have s15 : 0 + 0 = 0 := rfl; have s17 : 0 + 0 = 0 := rfl; have cb : 0 + 0 = 0 := rfl; have cg : 0 + 0 = 0 := rfl; have m1 : 0 + 0 = 0 := rfl; have m4 : 0 + 0 = 0 := rfl; have f5 : 0 + 0 = 0 := rfl; have f6 : 0 + 0 = 0 := rfl; have t1 : 0 + 0 = 0 := rfl; have t2 : 0 + 0 = 0 := rfl; have e1 : 0 + 0 = 0 := rfl; have e2 : 0 + 0 = 0 := rfl; have e3 : 0 + 0 = 0 := rfl
      (refine ⟨rfl, fun _ => rfl, fun r hr k hk => ?_⟩; (try unfold clr at hr); (try unfold mdr at hr); (try unfold scr at hr); simp (disch := omega) only [lit32, Nat.add_sub_cancel, Nat.sub_zero, Nat.reduceSub, nI_add, nI_muL, nI_sub, ix_nI, mI_s, mI_n, mI_fs, mI_fn, mI_ci, mI_co, mI_si, mI_so, Nat.add_zero, up_n, up_s, cpA_i, cpA_o, shA_i, shA_o, fiA_i, fiA_o, imin_l, imin_r, nI_mod, nI_div, xr_e, cn, cm, cr, ct, ch, p1, p2, p3, s4, s5, s6, s9, s11, s14, s15, s17, cb, cg, m1, m4, f5, f6, t1, t2, e1, e2, e3]; first | done | fail)
    have f := (f1.tr f2.f.sm).tr f3
    exact iF_t rfl ⟨isO_pt (f.S hS) (by decide) rfl, m_down (how := 3) (f.S hS) hM3 (hO1.w (by omega)) rfl fun M4 f4 hM4 => iF_t rfl (hz M4 (f.tr f4) hM4)⟩
theorem k_step {L B : Nat} {X : Nat → Int32} {M : fM} {φ : Int32 → fM → Prop} (hB : B + 1 ≤ 1000000) (hI : Inv L X B M) (hz : ∀ v M1, Mid L X (B + 1) (fun M φ => w_X11_step 70 M φ) v M1 → φ v M1) : w_X10_step 6 M φ := by
  refine k_of (w := fun M φ => w_X10_step 6 M φ) (fun M A nx φ hS hC hO hT hz => ?_) (m_step L B) (o_step B hB) (Nat.le_succ B) hI hz
  exact ⟨isO_pt hS (by decide) rfl, dR_of (Str.pg hS rfl) ⟨isO_pt hS (by decide) rfl, c_step L B M A nx _ hS hC hO hT hz⟩⟩
theorem k_toe {L B : Nat} {X : Nat → Int32} {M : fM} {φ : Int32 → fM → Prop} (hB : B + 1 ≤ 1000000) (hI : Inv L X B M) (hz : ∀ v M1, Mid L X (B + 1) (fun M φ => w_X11_toe 70 M φ) v M1 → φ v M1) : w_X10_toe 6 M φ := by
  refine k_of (w := fun M φ => w_X10_toe 6 M φ) (fun M A nx φ hS hC hO hT hz => ?_) (m_toe L B) (o_toe B hB) (Nat.le_succ B) hI hz
  exact ⟨isO_pt hS (by decide) rfl, dR_of (Str.pg hS rfl) ⟨isO_pt hS (by decide) rfl, c_toe L B M A nx _ hS hC hO hT hz⟩⟩
theorem k_stop {L B : Nat} {X : Nat → Int32} {M : fM} {φ : Int32 → fM → Prop} (hB : B + 1 ≤ 1000000) (hI : Inv L X B M) (hz : ∀ v M1, Mid L X (B + 1) (fun M φ => w_X11_stop 70 M φ) v M1 → φ v M1) : w_X10_stop 6 M φ := by
  refine k_of (w := fun M φ => w_X10_stop 6 M φ) (fun M A nx φ hS hC hO hT hz => ?_) (m_stop L B) (o_stop B hB) (Nat.le_succ B) hI hz
  exact ⟨isO_pt hS (by decide) rfl, dR_of (Str.pg hS rfl) ⟨isO_pt hS (by decide) rfl, c_stop L B M A nx _ hS hC hO hT hz⟩⟩
