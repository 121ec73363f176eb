/-! ===== the best count, of the model ===== -/
def wwV (tx : Nat → Int32) (A : Nat → Nat) (p h kd m z : Nat) : Nat → Nat → Nat := WW (vN tx A p h kd) (vT tx A p h kd) (mkB m (kd % 2)) z (A (82 + 3 * p + 2))
def coV (tx : Nat → Int32) (A : Nat → Nat) (p h kd m : Nat) : Nat → Nat := CO (A (10 + 18 * h)) (hmV tx A p h kd) (wwV tx A p h kd m (10 - A (82 + 3 * p + 2)))
def haV (tx : Nat → Int32) (A : Nat → Nat) (p h kd m : Nat) : Nat → Nat := HA (A (10 + 18 * h)) (hmV tx A p h kd) (wwV tx A p h kd m (10 - A (82 + 3 * p + 2)))
theorem wwV_Ms {B p h : Nat} {A : Nat → Nat} (hO : Okk B A) (hp : p < A 0) (hh : h < 4) (tx : Nat → Int32) (kd m : Nat) : Ms (A (10 + 18 * h)) (wwV tx A p h kd m (10 - A (82 + 3 * p + 2))) := WW_Ms (vT_b tx A p h kd) (hO.2.2.1 p hp).2 (hO.2.1 h hh).2.1
theorem coV_b {B p h : Nat} {A : Nat → Nat} (hO : Okk B A) (hp : p < A 0) (hh : h < 4) (tx : Nat → Int32) (kd m f : Nat) : coV tx A p h kd m f ≤ 1500000000000000000 := CO_b (wwV_Ms hO hp hh tx kd m) (hO.2.1 h hh).2.1 (hmV_b tx A p h kd)
theorem haV_b {B p h : Nat} {A : Nat → Nat} (hO : Okk B A) (hp : p < A 0) (hh : h < 4) (tx : Nat → Int32) (kd m f : Nat) : haV tx A p h kd m f ≤ 1500000000000000000 := HA_b (wwV_Ms hO hp hh tx kd m) (hO.2.1 h hh).2.1 (hmV_b tx A p h kd)
theorem m_b44 {L n : Nat} {M : fM} {p1 p2 p3 p4 p6 : Int32} {x y : Nat} {φ : Int32 → fM → Prop} {K : Nat → Int32 → Int32 → Int32 → Int32 → Int32 → Int32 → fM → Prop} (hS : Str L M) (h6 : p6 = nI n) (h25 : mJ M 70 25 = jN x) (h26 : mJ M 70 26 = jN y) (hz : ∀ M2, JF M M2 → mJ M2 70 28 = jN x → mJ M2 70 29 = jN y → K 70 p1 p2 p3 p4 (nI n) (nI (n + 1)) M2) : j_X11_best_44 K φ 70 p1 p2 p3 p4 p6 M := by
  subst h6
  refine ⟨isO_pt hS (by decide) rfl, nm_of (st_of (nm_of (st_of (nm_of ?_))))⟩
  rw [show nI n + (1 : Int32) = nI (n + 1) from nI_add _ 1]
  refine hz _ ((JF.w (by omega)).tr (JF.w (by omega))) ?_ ?_
  · rw [mJ_n (by omega), mJ_s]
    exact h25
  · rw [mJ_s, mJ_n (by omega)]
    exact h26
theorem m_be_l {L B p h kd m : Nat} {A : Nat → Nat} {tx : Nat → Int32} {e : Int32} {φ : Int32 → fM → Prop} (hO : Okk B A) (hp : p < A 0) (hh : h < 4) (hkd : kd < 4) (hmm : nI (A (10 + 18 * h + 1)) ||| e = nI m) : ∀ (j c : Nat) (M : fM), c + j = 30 → Str L M → Mdl M 71 A → TrM M (A 4) → mI M 73 = tx → mJ M 70 28 = jN (coV tx A p h kd m (bsF (coV tx A p h kd m) c)) → mJ M 70 29 = jN (haV tx A p h kd m (bsF (coV tx A p h kd m) c)) → (∀ M2, Frm scr M M2 → Mdl M2 71 A → TrM M2 (A 4) → mJ M2 70 28 = jN (coV tx A p h kd m (bsF (coV tx A p h kd m) 30)) → mJ M2 70 29 = jN (haV tx A p h kd m (bsF (coV tx A p h kd m) 30)) → φ (nI (bsF (coV tx A p h kd m) 30)) M2) → l_X11_best_6 φ (j + 1) 70 (nI p) (nI h) (nI kd) e (nI (bsF (coV tx A p h kd m) c)) (nI (c + 1)) M := by
  intro j
  induction j with
  | zero =>
    intro c M hc hS hM hT h73 h28 h29 hz
    obtain rfl : c = 30 := by omega
    exact iF_t (by decide) (hz M Frm.rf hM hT h28 h29)
  | succ j ih =>
    intro c M hc hS hM hT h73 h28 h29 hz
    show b_X11_best_6 (l_X11_best_6 φ (j + 1)) φ 70 (nI p) (nI h) (nI kd) e (nI (bsF (coV tx A p h kd m) c)) (nI (c + 1)) M
    generalize hK : l_X11_best_6 φ (j + 1) = K at ih ⊢
    have bl := bsF_le (coV tx A p h kd m) c
    refine iF_f (fun q => absurd ((nIle (a := 31) (by omega) (by omega)).mp q) (by omega)) ⟨isO_pt hS (by decide) rfl, m_reckon hS hM hO hT hp hh hkd rfl (by omega) hmm fun M1 f1 hM1 hT1 g25 g26 => ?_⟩
    rw [h73] at g25 g26
    have hS1 := f1.1.S hS
    have e73 := (f1.1.sm.m73).trans h73
    refine iF_f (fun q => absurd ((nIlt (b := 0) (by omega) (by omega)).mp q) (by omega)) ⟨isO_pt hS1 (by decide) rfl, ?_⟩
    have i28 := (f1.2 28 (by omega) (by omega)).trans h28
    have i29 := (f1.2 29 (by omega) (by omega)).trans h29
    have b1 := coV_b hO hp hh tx kd m (c + 1)
    have b2 := coV_b hO hp hh tx kd m (bsF (coV tx A p h kd m) c)
    have g25 : mJ M1 70 25 = jN (coV tx A p h kd m (c + 1)) := g25
    have g26 : mJ M1 70 26 = jN (haV tx A p h kd m (c + 1)) := g26
    rw [i28]
    by_cases q : coV tx A p h kd m (c + 1) < coV tx A p h kd m (bsF (coV tx A p h kd m) c)
    · have eb : bsF (coV tx A p h kd m) (c + 1) = c + 1 := by rw [bsF_s, if_pos q]
      refine iF_t (by rw [g25]; exact (lgN_lt (by omega) (by omega)).mpr q) (m_b44 hS1 rfl g25 g26 fun M2 f2 k28 k29 => ?_)
      rw [← eb] at k28 k29
      have q2 := ih (c + 1) M2 (by omega) (f2.S hS1) (hM1.cg fun k => by rw [f2.I]) ((JF.f f2).sT hT1) ((f2.I 73).trans e73) k28 k29 fun M3 f3 a1 a2 a3 a4 => hz M3 ((f1.1.tr f2.f).tr f3) a1 a2 a3 a4
      rw [eb] at q2
      exact q2
    · have eb : bsF (coV tx A p h kd m) (c + 1) = bsF (coV tx A p h kd m) c := by rw [bsF_s, if_neg q]
      refine iF_f (fun z => q ((lgN_lt (by omega) (by omega)).mp (by rw [g25] at z; exact z))) (nm_of ?_)
      rw [show nI (c + 1) + (1 : Int32) = nI (c + 1 + 1) from nI_add _ 1, ← eb]
      exact ih (c + 1) M1 (by omega) hS1 hM1 hT1 e73 (by rw [eb]; exact i28) (by rw [eb]; exact i29) fun M3 f3 a1 a2 a3 a4 => hz M3 (f1.1.tr f3) a1 a2 a3 a4
theorem m_best {L B p h kd m : Nat} {A : Nat → Nat} {tx : Nat → Int32} {M : fM} {a b c e : Int32} {φ : Int32 → fM → Prop} (hS : Str L M) (hM : Mdl M 71 A) (hO : Okk B A) (hT : TrM M (A 4)) (h73 : mI M 73 = tx) (ha : a = nI p) (hb : b = nI h) (hc : c = nI kd) (hp : p < A 0) (hh : h < 4) (hkd : kd < 4) (hmm : nI (A (10 + 18 * h + 1)) ||| e = nI m) (hz : ∀ M2, Frm scr M M2 → Mdl M2 71 A → TrM M2 (A 4) → mJ M2 70 28 = jN (coV tx A p h kd m (bsF (coV tx A p h kd m) 30)) → mJ M2 70 29 = jN (haV tx A p h kd m (bsF (coV tx A p h kd m) 30)) → φ (nI (bsF (coV tx A p h kd m) 30)) M2) : w_X11_best 70 a b c e M φ := by
  subst ha hb hc
  refine ⟨32, ?_⟩
  show b_X11_best_6 (l_X11_best_6 φ 31) φ 70 (nI p) (nI h) (nI kd) e (-1 : Int32) (0 : Int32) M
  refine iF_f (by decide) ⟨isO_pt hS (by decide) rfl, m_reckon (f := 0) hS hM hO hT hp hh hkd rfl (by omega) hmm fun M1 f1 hM1 hT1 g25 g26 => ?_⟩
  rw [h73] at g25 g26
  have hS1 := f1.1.S hS
  have e73 := (f1.1.sm.m73).trans h73
  refine iF_t (by decide) (m_b44 (n := 0) hS1 rfl g25 g26 fun M2 f2 k28 k29 => ?_)
  exact m_be_l (L := L) (m := m) (tx := tx) hO hp hh hkd hmm 30 0 M2 rfl (f2.S hS1) (hM1.cg fun k => by rw [f2.I]) ((JF.f f2).sT hT1) ((f2.I 73).trans e73) k28 k29 fun M3 f3 a1 a2 a3 a4 => hz M3 ((f1.1.tr f2.f).tr f3) a1 a2 a3 a4
theorem m_isMind {L B : Nat} {A : Nat → Nat} {M : fM} {a b c : Int32} {φ : Int32 → fM → Prop} (hS : Str L M) (hM : Mdl M 71 A) (hO : Okk B A) (h0 : ¬ (0 ≤ a.toInt ∧ a.toInt < A 0 ∧ 0 ≤ b.toInt ∧ b.toInt < 4 ∧ 0 ≤ c.toInt ∧ c.toInt < 4) → φ 0 M) (h1 : (0 ≤ a.toInt ∧ a.toInt < A 0 ∧ 0 ≤ b.toInt ∧ b.toInt < 4 ∧ 0 ≤ c.toInt ∧ c.toInt < 4) → φ 1 M) : w_X11_isMind 70 a b c M φ := by
  obtain ⟨m1, m4⟩ := id hM
  have o0 := hO.1.1
  have cn : 0 + 0 = 0 := rfl; have cm : 0 + 0 = 0 := rfl; have cr : 0 + 0 = 0 := rfl; have ct : 0 + 0 = 0 := rfl; have ch : 0 + 0 = 0 := rfl; have p1 : 0 + 0 = 0 := rfl; have p2 : 0 + 0 = 0 := rfl; have p3 : 0 + 0 = 0 := rfl; have s4 : 0 + 0 = 0 := rfl; have s5 : 0 + 0 = 0 := rfl; have s6 : 0 + 0 = 0 := rfl; have s9 : 0 + 0 = 0 := rfl; have s11 : 0 + 0 = 0 := rfl; have s14 : 0 + 0 = 0 := rfl; have s15 : 0 + 0 = 0 := rfl; have s17 : 0 + 0 = 0 := rfl; have cb : 0 + 0 = 0 := rfl; have cg : 0 + 0 = 0 := rfl; have f5 : 0 + 0 = 0 := rfl; have f6 : 0 + 0 = 0 := rfl; have t1 : 0 + 0 = 0 := rfl; have t2 : 0 + 0 = 0 := rfl; have e1 : 0 + 0 = 0 := rfl; have e2 : 0 + 0 = 0 := rfl; have e3 : 0 + 0 = 0 := rfl
  unfold w_X11_isMind w_X11_isPerson w_X11_isHouse w_X11_isIn
  repeat' (first | ((with_reducible refine c_fil_hh (L := L) ?_ ?_ ?_); (exact hS); omega) | ((with_reducible refine c_build (L := L) ?_ ?_ ?_); (exact hS); omega) | with_reducible refine nm_of ?_ | with_reducible refine st_of ?_ | ((with_reducible apply dR_of); first | exact Str.pg hS rfl | exact sp_hsx hS (by omega) | exact sp_hs hS (by omega) | exact sp_hh hS (by omega) | assumption | fail) | ((with_reducible refine And.intro ?_ ?_); first | exact isO_pt hS (by decide) rfl | exact inA_pt hS rfl (by (first | exact vp_lit (by decide) | (simp (disch := omega) only [lit32, Nat.add_sub_cancel, Nat.sub_zero, Nat.reduceSub, nI_add, nI_muL, nI_sub, ix_nI, mI_s, mI_n, mI_fs, mI_fn, mI_ci, mI_co, mI_si, mI_so, Nat.add_zero, up_n, up_s, cpA_i, cpA_o, shA_i, shA_o, fiA_i, fiA_o, imin_l, imin_r, nI_mod, nI_div, xr_e, cn, cm, cr, ct, ch, p1, p2, p3, s4, s5, s6, s9, s11, s14, s15, s17, cb, cg, m1, m4, f5, f6, t1, t2, e1, e2, e3]; first | done | exact vp_nI (by omega) (by decide)) | exact vp_nI (by omega) (by decide) | fail)) | omega | exact isO_hs hS (by omega) | exact inA_hh hS (by omega) (by (first | exact vp_lit (by decide) | (simp (disch := omega) only [lit32, Nat.add_sub_cancel, Nat.sub_zero, Nat.reduceSub, nI_add, nI_muL, nI_sub, ix_nI, mI_s, mI_n, mI_fs, mI_fn, mI_ci, mI_co, mI_si, mI_so, Nat.add_zero, up_n, up_s, cpA_i, cpA_o, shA_i, shA_o, fiA_i, fiA_o, imin_l, imin_r, nI_mod, nI_div, xr_e, cn, cm, cr, ct, ch, p1, p2, p3, s4, s5, s6, s9, s11, s14, s15, s17, cb, cg, m1, m4, f5, f6, t1, t2, e1, e2, e3]; first | done | exact vp_nI (by omega) (by decide)) | exact vp_nI (by omega) (by decide) | fail)) | exact isB1 | exact isB0 | assumption | fail) | ((with_reducible apply lenA_of); first | exact Str.sh hS _ _ rfl | exact ss_hh hS (by omega) | assumption | fail) | with_reducible refine gN_of rfl ?_ | with_reducible refine gN_no rfl ?_ | ((with_reducible refine iF_t ?_ ?_); focus ((try simp (disch := omega) only [lit32, Nat.add_sub_cancel, Nat.sub_zero, Nat.reduceSub, nI_add, nI_muL, nI_sub, ix_nI, mI_s, mI_n, mI_fs, mI_fn, mI_ci, mI_co, mI_si, mI_so, Nat.add_zero, up_n, up_s, cpA_i, cpA_o, shA_i, shA_o, fiA_i, fiA_o, imin_l, imin_r, nI_mod, nI_div, xr_e, cn, cm, cr, ct, ch, p1, p2, p3, s4, s5, s6, s9, s11, s14, s15, s17, cb, cg, m1, m4, f5, f6, t1, t2, e1, e2, e3, lt_toInt, le_toInt, eq_toInt, toInt_nI, tI_neg, bt_e, tI_sub, tI_subR, tI_subL]); first | done | omega)) | ((with_reducible refine iF_f ?_ ?_); focus ((try simp (disch := omega) only [lit32, Nat.add_sub_cancel, Nat.sub_zero, Nat.reduceSub, nI_add, nI_muL, nI_sub, ix_nI, mI_s, mI_n, mI_fs, mI_fn, mI_ci, mI_co, mI_si, mI_so, Nat.add_zero, up_n, up_s, cpA_i, cpA_o, shA_i, shA_o, fiA_i, fiA_o, imin_l, imin_r, nI_mod, nI_div, xr_e, cn, cm, cr, ct, ch, p1, p2, p3, s4, s5, s6, s9, s11, s14, s15, s17, cb, cg, m1, m4, f5, f6, t1, t2, e1, e2, e3, lt_toInt, le_toInt, eq_toInt, toInt_nI, tI_neg, bt_e, tI_sub, tI_subR, tI_subL]); first | done | omega)) | ((with_reducible refine iF_s (fun hc => ?_) (fun hc => ?_)) <;> (try simp (disch := omega) only [lit32, Nat.add_sub_cancel, Nat.sub_zero, Nat.reduceSub, nI_add, nI_muL, nI_sub, ix_nI, mI_s, mI_n, mI_fs, mI_fn, mI_ci, mI_co, mI_si, mI_so, Nat.add_zero, up_n, up_s, cpA_i, cpA_o, shA_i, shA_o, fiA_i, fiA_o, imin_l, imin_r, nI_mod, nI_div, xr_e, cn, cm, cr, ct, ch, p1, p2, p3, s4, s5, s6, s9, s11, s14, s15, s17, cb, cg, m1, m4, f5, f6, t1, t2, e1, e2, e3, lt_toInt, le_toInt, eq_toInt, toInt_nI, tI_neg, bt_e, tI_sub, tI_subR, tI_subL] at hc)) | fail)
  all_goals first | (exfalso; omega) | exact h0 (by omega) | exact h1 (by omega) | fail
theorem gd_3 {A : Nat → Nat} {p h kd : Nat} {a b c : Int32} (h0 : A 0 ≤ 6) (ea : a = nI p) (eb : b = nI h) (ec : c = nI kd) (hp : p < A 0) (hh : h < 4) (hk : kd < 4) : 0 ≤ a.toInt ∧ a.toInt < A 0 ∧ 0 ≤ b.toInt ∧ b.toInt < 4 ∧ 0 ≤ c.toInt ∧ c.toInt < 4 := by
  subst ea eb ec
  rw [toInt_nI (by omega), toInt_nI (by omega), toInt_nI (by omega)]
  omega
/-! ===== FROM ===== -/
theorem mk_0 (x : Nat) : nI x ||| (0 : Int32) = nI x := Int32.or_zero
theorem k_from {L B : Nat} {X : Nat → Int32} {M : fM} {a b c : Int32} {φ : Int32 → fM → Prop} (hI : Inv L X B M) (hz : ∀ v M1, Mid L X B (fun M φ => w_X11_from 70 a b c M φ) v M1 → φ v M1) : w_X10_from 6 a b c M φ := by
  obtain ⟨A, A', nx, nx', tl, tp, hI⟩ := hI
  obtain ⟨hS, hX, hC, hM, hK, hMK, hO, hO', hTp, hFl, hTx⟩ := id hI
  obtain ⟨cn, cm, cr, ct, ch, p1, p2, p3, s4, s5, s6, s9, s11, s14, s15, s17, cb, cg⟩ := hC.f
  obtain ⟨hH, hP, hSc, hW, hB, hG, hA⟩ := id hC
  obtain ⟨m1, m4⟩ := id hM
  obtain ⟨f5, f6⟩ := id hFl
  obtain ⟨t0, t1, t2, t3⟩ := id hTp
  have e1 : 0 + 0 = 0 := rfl
  have e2 : 0 + 0 = 0 := rfl
  have e3 : 0 + 0 = 0 := rfl
  obtain ⟨⟨o0, o1, o2, o3, o4, o5, o6, o7, o8, o9⟩, oH, oP, oW, oA, oG, oB⟩ := id hO
  refine ⟨isO_pt hS (by decide) rfl, dR_of (Str.pg hS rfl) ⟨isO_pt hS (by decide) rfl, c_look hS hC hO hTx.2.1 (fun bad => ?_) (fun p h kd hp hh hkd ea eb ec M1 f1 lk => ?_)⟩⟩
  · refine iF_t rfl (mids hS hX hz Frm.rf fun Ψ hΨ => ?_)
    exact ⟨isO_pt hS (by decide) rfl, m_isMind hS hM hO (fun _ => iF_t rfl (hΨ _ hI.inv)) (fun g => absurd g bad)⟩
  · obtain ⟨hn1, hn, -⟩ := oH h hh
    have hpb := (oP p hp).2
    have gd := gd_3 o0 ea eb ec hp hh hkd
    have hS1 := f1.S hS
    refine iF_f (by decide) ⟨isO_pt hS1 (by decide) rfl, dR_of (Str.pg hS1 rfl) ⟨isO_pt hS1 (by decide) rfl, c_spread hS1 lk hpb hn1 hn (by omega) (vT_b _ _ _ _ _) fun M2 f2 hG2 => ?_⟩⟩
    have f12 := f1.tr f2.f
    have hS2 := f2.S hS1
    refine ⟨isO_pt hS2 (by decide) rfl, dR_of (Str.pg hS2 rfl) ⟨isO_pt hS2 (by decide) rfl, c_choose hS2 (f12.sc.cX hX) (lk.j f2) hG2 hn (wwV_Ms hO hp hh _ kd (A (10 + 18 * h + 1))) (hmV_b _ _ _ _ _) fun M3 f3 lk3 hG3 g0 g12 => ?_⟩⟩
    have f := f12.tr f3
    have hS3 := f3.S hS2
    refine ⟨isO_pt hS3 (by decide) rfl, dR_of (Str.pg hS3 rfl) ⟨isO_pt hS3 (by decide) rfl, ?_⟩⟩
    rw [g0]
    refine mids hS hX hz f fun Ψ hΨ => ?_
    have hM3 := f.sc.cM hM
    refine ⟨isO_pt hS3 (by decide) rfl, m_isMind hS3 hM3 hO (fun z => absurd gd z) fun _ => iF_f (by decide) ⟨isO_pt hS3 (by decide) rfl, m_best hS3 hM3 hO (TrM.of o3 (fun i hi => f.sc.cT (hTx.2.1 i hi)) o4) (f.sc.c73) ea eb ec hp hh hkd (mk_0 _) fun M4 f4 _ _ _ _ => hΨ _ (hI.look f f4)⟩⟩
theorem k_cost {L B : Nat} {X : Nat → Int32} {M : fM} {a b c d e : Int32} {φ : Int64 → fM → Prop} (hI : Inv L X B M) (hz : ∀ v M1, Mid L X B (fun M φ => w_X11_cost 70 a b c d e M φ) v M1 → φ v M1) : w_X10_cost 6 a b c d e M φ := by
  obtain ⟨A, A', nx, nx', tl, tp, hI⟩ := hI
  obtain ⟨hS, hX, hC, hM, hK, hMK, hO, hO', hTp, hFl, hTx⟩ := id hI
  obtain ⟨cn, cm, cr, ct, ch, p1, p2, p3, s4, s5, s6, s9, s11, s14, s15, s17, cb, cg⟩ := hC.f
  obtain ⟨hH, hP, hSc, hW, hB, hG, hA⟩ := id hC
  obtain ⟨m1, m4⟩ := id hM
  obtain ⟨f5, f6⟩ := id hFl
  obtain ⟨t0, t1, t2, t3⟩ := id hTp
  have e1 : 0 + 0 = 0 := rfl
  have e2 : 0 + 0 = 0 := rfl
  have e3 : 0 + 0 = 0 := rfl
  obtain ⟨⟨o0, o1, o2, o3, o4, o5, o6, o7, o8, o9⟩, oH, oP, oW, oA, oG, oB⟩ := id hO
  have nob : ¬ (0 ≤ d.toInt ∧ d.toInt ≤ (30 : Nat)) → φ (-1) M := fun q => by
    refine mids hS hX hz Frm.rf fun Ψ hΨ => ?_
    refine ⟨isO_pt hS (by decide) rfl, m_isMind hS hM hO (fun _ => iF_t rfl (hΨ _ hI.inv)) (fun g => iF_f (by decide) ?_)⟩
    unfold w_X11_isIn
    repeat' (first | ((with_reducible refine c_fil_hh (L := L) ?_ ?_ ?_); (exact hS); omega) | ((with_reducible refine c_build (L := L) ?_ ?_ ?_); (exact hS); omega) | with_reducible refine nm_of ?_ | with_reducible refine st_of ?_ | ((with_reducible apply dR_of); first | exact Str.pg hS rfl | exact sp_hsx hS (by omega) | exact sp_hs hS (by omega) | exact sp_hh hS (by omega) | assumption | fail) | ((with_reducible refine And.intro ?_ ?_); first | exact isO_pt hS (by decide) rfl | exact inA_pt hS rfl (by (first | exact vp_lit (by decide) | (simp (disch := omega) only [lit32, Nat.add_sub_cancel, Nat.sub_zero, Nat.reduceSub, nI_add, nI_muL, nI_sub, ix_nI, mI_s, mI_n, mI_fs, mI_fn, mI_ci, mI_co, mI_si, mI_so, Nat.add_zero, up_n, up_s, cpA_i, cpA_o, shA_i, shA_o, fiA_i, fiA_o, imin_l, imin_r, nI_mod, nI_div, xr_e, cn, cm, cr, ct, ch, p1, p2, p3, s4, s5, s6, s9, s11, s14, s15, s17, cb, cg, m1, m4, f5, f6, t1, t2, e1, e2, e3]; first | done | exact vp_nI (by omega) (by decide)) | exact vp_nI (by omega) (by decide) | fail)) | omega | exact isO_hs hS (by omega) | exact inA_hh hS (by omega) (by (first | exact vp_lit (by decide) | (simp (disch := omega) only [lit32, Nat.add_sub_cancel, Nat.sub_zero, Nat.reduceSub, nI_add, nI_muL, nI_sub, ix_nI, mI_s, mI_n, mI_fs, mI_fn, mI_ci, mI_co, mI_si, mI_so, Nat.add_zero, up_n, up_s, cpA_i, cpA_o, shA_i, shA_o, fiA_i, fiA_o, imin_l, imin_r, nI_mod, nI_div, xr_e, cn, cm, cr, ct, ch, p1, p2, p3, s4, s5, s6, s9, s11, s14, s15, s17, cb, cg, m1, m4, f5, f6, t1, t2, e1, e2, e3]; first | done | exact vp_nI (by omega) (by decide)) | exact vp_nI (by omega) (by decide) | fail)) | exact isB1 | exact isB0 | assumption | fail) | ((with_reducible apply lenA_of); first | exact Str.sh hS _ _ rfl | exact ss_hh hS (by omega) | assumption | fail) | with_reducible refine gN_of rfl ?_ | with_reducible refine gN_no rfl ?_ | ((with_reducible refine iF_t ?_ ?_); focus ((try simp (disch := omega) only [lit32, Nat.add_sub_cancel, Nat.sub_zero, Nat.reduceSub, nI_add, nI_muL, nI_sub, ix_nI, mI_s, mI_n, mI_fs, mI_fn, mI_ci, mI_co, mI_si, mI_so, Nat.add_zero, up_n, up_s, cpA_i, cpA_o, shA_i, shA_o, fiA_i, fiA_o, imin_l, imin_r, nI_mod, nI_div, xr_e, cn, cm, cr, ct, ch, p1, p2, p3, s4, s5, s6, s9, s11, s14, s15, s17, cb, cg, m1, m4, f5, f6, t1, t2, e1, e2, e3, lt_toInt, le_toInt, eq_toInt, toInt_nI, tI_neg, bt_e, tI_sub, tI_subR, tI_subL]); first | done | omega)) | ((with_reducible refine iF_f ?_ ?_); focus ((try simp (disch := omega) only [lit32, Nat.add_sub_cancel, Nat.sub_zero, Nat.reduceSub, nI_add, nI_muL, nI_sub, ix_nI, mI_s, mI_n, mI_fs, mI_fn, mI_ci, mI_co, mI_si, mI_so, Nat.add_zero, up_n, up_s, cpA_i, cpA_o, shA_i, shA_o, fiA_i, fiA_o, imin_l, imin_r, nI_mod, nI_div, xr_e, cn, cm, cr, ct, ch, p1, p2, p3, s4, s5, s6, s9, s11, s14, s15, s17, cb, cg, m1, m4, f5, f6, t1, t2, e1, e2, e3, lt_toInt, le_toInt, eq_toInt, toInt_nI, tI_neg, bt_e, tI_sub, tI_subR, tI_subL]); first | done | omega)) | ((with_reducible refine iF_s (fun hc => ?_) (fun hc => ?_)) <;> (try simp (disch := omega) only [lit32, Nat.add_sub_cancel, Nat.sub_zero, Nat.reduceSub, nI_add, nI_muL, nI_sub, ix_nI, mI_s, mI_n, mI_fs, mI_fn, mI_ci, mI_co, mI_si, mI_so, Nat.add_zero, up_n, up_s, cpA_i, cpA_o, shA_i, shA_o, fiA_i, fiA_o, imin_l, imin_r, nI_mod, nI_div, xr_e, cn, cm, cr, ct, ch, p1, p2, p3, s4, s5, s6, s9, s11, s14, s15, s17, cb, cg, m1, m4, f5, f6, t1, t2, e1, e2, e3, lt_toInt, le_toInt, eq_toInt, toInt_nI, tI_neg, bt_e, tI_sub, tI_subR, tI_subL] at hc)) | fail)
    all_goals first | (exfalso; omega) | exact hΨ _ hI.inv | fail
  rcases Decidable.em (0 ≤ d.toInt ∧ d.toInt ≤ (30 : Nat)) with hd | hd
  · obtain ⟨f, hf, rfl⟩ := rgI hd.1 hd.2
    refine iF_f (fun q => absurd ((nIlt (b := 0) (by omega) (by omega)).mp q) (by omega)) (iF_f (fun q => absurd ((nIlt (a := 30) (by omega) (by omega)).mp q) (by omega)) ⟨isO_pt hS (by decide) rfl, dR_of (Str.pg hS rfl) ⟨isO_pt hS (by decide) rfl, c_look hS hC hO hTx.2.1 (fun bad => ?_) (fun p h kd hp hh hkd ea eb ec M1 f1 lk => ?_)⟩⟩)
    · refine iF_t rfl (mids hS hX hz Frm.rf fun Ψ hΨ => ?_)
      exact ⟨isO_pt hS (by decide) rfl, m_isMind hS hM hO (fun _ => iF_t rfl (hΨ _ hI.inv)) (fun g => absurd g bad)⟩
    · obtain ⟨hn1, hn, -⟩ := oH h hh
      have hpb := (oP p hp).2
      have gd := gd_3 o0 ea eb ec hp hh hkd
      have hS1 := f1.S hS
      refine iF_f (by decide) ⟨isO_pt hS1 (by decide) rfl, dR_of (Str.pg hS1 rfl) ⟨isO_pt hS1 (by decide) rfl, c_spread hS1 lk hpb hn1 hn (by omega) (vT_b _ _ _ _ _) fun M2 f2 hG2 => ?_⟩⟩
      have fa := f1.tr f2.f
      have hS2 := f2.S hS1
      refine ⟨isO_pt hS2 (by decide) rfl, dR_of (Str.pg hS2 rfl) ⟨isO_pt hS2 (by decide) rfl, c_costFrom hS2 (fa.sc.cX hX) (lk.j f2) hG2 hn (wwV_Ms hO hp hh _ kd (A (10 + 18 * h + 1))) (hmV_b _ _ _ _ _) hf ?_⟩⟩
      refine mids hS hX hz fa fun Ψ hΨ => ?_
      have hM2 := fa.sc.cM hM
      have b1 := coV_b hO hp hh (mI M 73) kd (A (10 + 18 * h + 1)) f
      have b2 := p10_le hn
      have b3 : 0 < 10 ^ (A (10 + 18 * h) + 1) := Nat.pow_pos (by omega)
      subst ea eb ec
      refine ⟨isO_pt hS2 (by decide) rfl, m_isMind hS2 hM2 hO (fun z => absurd gd z) fun _ => iF_f (by decide) ?_⟩
      refine iF_f (fun q => absurd ((nIlt (b := 0) (by omega) (by omega)).mp q) (by omega)) (iF_f (fun q => absurd ((nIlt (a := 30) (by omega) (by omega)).mp q) (by omega)) (iF_f (by decide) ⟨isO_pt hS2 (by decide) rfl, m_reckon hS2 hM2 hO (TrM.of o3 (fun i hi => fa.sc.cT (hTx.2.1 i hi)) o4) hp hh hkd rfl hf (mk_0 _) fun M3 f3 hM3 _ g25 _ => ?_⟩))
      have hS3 := f3.1.S hS2
      have ex : (10 : Int32) + ((18 : Int32) * nI h) = nI (10 + 18 * h) := by simp only [lit32, nI_muL, nI_add]
      unfold w_X11_stepsOf
      rw [ex, ix_nI (by omega)]
      refine ⟨isO_pt hS3 (by decide) rfl, isO_pt hS3 (by decide) rfl, dR_of (Str.pg hS3 rfl) ⟨inA_pt hS3 rfl (vp_nI (by omega) (by decide)), ?_⟩⟩
      rw [hM3.1 _ (by omega) (by omega), g25, fa.sc.c73]
      exact m_tenTo (n := A (10 + 18 * h) + 1) (nI_add _ 1) (by omega) (m_part (Nat.lt_of_le_of_lt b1 (by decide)) (by omega) (by omega) (hΨ _ (hI.look fa f3.1)))
  · have q := nob hd
    unfold w_X10_cost
    repeat' (first | ((with_reducible refine c_fil_hh (L := L) ?_ ?_ ?_); (exact hS); omega) | ((with_reducible refine c_build (L := L) ?_ ?_ ?_); (exact hS); omega) | with_reducible refine nm_of ?_ | with_reducible refine st_of ?_ | ((with_reducible apply dR_of); first | exact Str.pg hS rfl | exact sp_hsx hS (by omega) | exact sp_hs hS (by omega) | exact sp_hh hS (by omega) | assumption | fail) | ((with_reducible refine And.intro ?_ ?_); first | exact isO_pt hS (by decide) rfl | exact inA_pt hS rfl (by (first | exact vp_lit (by decide) | (simp (disch := omega) only [lit32, Nat.add_sub_cancel, Nat.sub_zero, Nat.reduceSub, nI_add, nI_muL, nI_sub, ix_nI, mI_s, mI_n, mI_fs, mI_fn, mI_ci, mI_co, mI_si, mI_so, Nat.add_zero, up_n, up_s, cpA_i, cpA_o, shA_i, shA_o, fiA_i, fiA_o, imin_l, imin_r, nI_mod, nI_div, xr_e, cn, cm, cr, ct, ch, p1, p2, p3, s4, s5, s6, s9, s11, s14, s15, s17, cb, cg, m1, m4, f5, f6, t1, t2, e1, e2, e3]; first | done | exact vp_nI (by omega) (by decide)) | exact vp_nI (by omega) (by decide) | fail)) | omega | exact isO_hs hS (by omega) | exact inA_hh hS (by omega) (by (first | exact vp_lit (by decide) | (simp (disch := omega) only [lit32, Nat.add_sub_cancel, Nat.sub_zero, Nat.reduceSub, nI_add, nI_muL, nI_sub, ix_nI, mI_s, mI_n, mI_fs, mI_fn, mI_ci, mI_co, mI_si, mI_so, Nat.add_zero, up_n, up_s, cpA_i, cpA_o, shA_i, shA_o, fiA_i, fiA_o, imin_l, imin_r, nI_mod, nI_div, xr_e, cn, cm, cr, ct, ch, p1, p2, p3, s4, s5, s6, s9, s11, s14, s15, s17, cb, cg, m1, m4, f5, f6, t1, t2, e1, e2, e3]; first | done | exact vp_nI (by omega) (by decide)) | exact vp_nI (by omega) (by decide) | fail)) | exact isB1 | exact isB0 | assumption | fail) | ((with_reducible apply lenA_of); first | exact Str.sh hS _ _ rfl | exact ss_hh hS (by omega) | assumption | fail) | with_reducible refine gN_of rfl ?_ | with_reducible refine gN_no rfl ?_ | ((with_reducible refine iF_t ?_ ?_); focus ((try simp (disch := omega) only [lit32, Nat.add_sub_cancel, Nat.sub_zero, Nat.reduceSub, nI_add, nI_muL, nI_sub, ix_nI, mI_s, mI_n, mI_fs, mI_fn, mI_ci, mI_co, mI_si, mI_so, Nat.add_zero, up_n, up_s, cpA_i, cpA_o, shA_i, shA_o, fiA_i, fiA_o, imin_l, imin_r, nI_mod, nI_div, xr_e, cn, cm, cr, ct, ch, p1, p2, p3, s4, s5, s6, s9, s11, s14, s15, s17, cb, cg, m1, m4, f5, f6, t1, t2, e1, e2, e3, lt_toInt, le_toInt, eq_toInt, toInt_nI, tI_neg, bt_e, tI_sub, tI_subR, tI_subL]); first | done | omega)) | ((with_reducible refine iF_f ?_ ?_); focus ((try simp (disch := omega) only [lit32, Nat.add_sub_cancel, Nat.sub_zero, Nat.reduceSub, nI_add, nI_muL, nI_sub, ix_nI, mI_s, mI_n, mI_fs, mI_fn, mI_ci, mI_co, mI_si, mI_so, Nat.add_zero, up_n, up_s, cpA_i, cpA_o, shA_i, shA_o, fiA_i, fiA_o, imin_l, imin_r, nI_mod, nI_div, xr_e, cn, cm, cr, ct, ch, p1, p2, p3, s4, s5, s6, s9, s11, s14, s15, s17, cb, cg, m1, m4, f5, f6, t1, t2, e1, e2, e3, lt_toInt, le_toInt, eq_toInt, toInt_nI, tI_neg, bt_e, tI_sub, tI_subR, tI_subL]); first | done | omega)) | ((with_reducible refine iF_s (fun hc => ?_) (fun hc => ?_)) <;> (try simp (disch := omega) only [lit32, Nat.add_sub_cancel, Nat.sub_zero, Nat.reduceSub, nI_add, nI_muL, nI_sub, ix_nI, mI_s, mI_n, mI_fs, mI_fn, mI_ci, mI_co, mI_si, mI_so, Nat.add_zero, up_n, up_s, cpA_i, cpA_o, shA_i, shA_o, fiA_i, fiA_o, imin_l, imin_r, nI_mod, nI_div, xr_e, cn, cm, cr, ct, ch, p1, p2, p3, s4, s5, s6, s9, s11, s14, s15, s17, cb, cg, m1, m4, f5, f6, t1, t2, e1, e2, e3, lt_toInt, le_toInt, eq_toInt, toInt_nI, tI_neg, bt_e, tI_sub, tI_subR, tI_subL] at hc)) | fail)
    all_goals first | (exfalso; omega) | exact q | fail
