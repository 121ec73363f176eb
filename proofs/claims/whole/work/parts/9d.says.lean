/-! ===== SAYS ===== -/
theorem TrM.of {M : fM} {A : Nat → Nat} (h3 : A 3 ≤ 4) (hT : ∀ i, i < A 3 → TxR M 18 i) {ti : Nat} (h : ti ≤ A 3) : TrM M ti := by
  rcases Nat.eq_zero_or_pos ti with e | e
  · exact Or.inl e
  · obtain ⟨o, c, s, e', d, u, cd, cl, -, -, -, -, -, -, -, -, -, -, -, -, -, -, -, -, -, -, hx⟩ := hT (ti - 1) (by omega)
    exact Or.inr ⟨ti - 1, cd, mI M c, mI M s, mI M e', mI M d, mI M u, cl, by omega, by omega, hx⟩
theorem TrT.of {M M2 : fM} {i : Nat} (f : Frm scr M M2) (hi : i < 4) (hx : TxR M 18 i) (hp : mP M2 7 2 = mP M 18 i) : TrT M2 (mI M 73) (i + 1) := by
  obtain ⟨o, c, s, e, d, u, cd, cl, p1, p2, p3, p4, p5, p6, p7, p8, q1, q2, q3, q4, q5, s1, s2, s3, s4, s5, t⟩ := hx
  have eP : ∀ k, mP M2 o k = mP M o k := fun k => nop_p f.1 (by omega)
  have eS : ∀ q, mS M2 q = mS M q := fun q => by unfold mS; rw [nop_s f.1]
  have eI : ∀ q, 82 ≤ q → mI M2 q = mI M q := fun q hq => funext fun k => f.2.2 q (by unfold scr; omega) k (by omega)
  refine Or.inr ⟨i, o, c, s, e, d, u, cd, cl, rfl, hi, ⟨hp.trans p1, p2, q1, q2, q3, (eS _).trans p3, (eP _).trans p4, (eP _).trans p5, (eP _).trans p6, (eS _).trans s1, (eS _).trans s2, (eS _).trans s3⟩, ?_, q4, q5⟩
  rw [eI c q1, eI s q2, eI e q3, eI d q4, eI u q5]
  exact t
theorem c_textOf {L B nx ti : Nat} {A : Nat → Nat} {M : fM} {a : Int32} {φ : Option Nat → fM → Prop} (hS : Str L M) (hC : Cls M 10 A nx) (hO : Okk B A) (hT : ∀ i, i < A 3 → TxR M 18 i) (ha : a = nI ti - 1) (ht : ti ≤ A 3) (h : ∀ o, (∀ M2, Frm scr M M2 → mP M2 7 2 = o → TrT M2 (mI M 73) ti) → φ o M) : w_X5_textOf 10 a M φ := by
  subst ha
  obtain ⟨o0, o1, o2, o3, -⟩ := hO.1
  obtain ⟨cn, cm, cr, ct, ch, p1, p2, p3, s4, s5, s6, s9, s11, s14, s15, s17, cb, cg⟩ := hC.f
  rcases Nat.eq_zero_or_pos ti with e | e
  · subst e
    exact iF_t (by decide) (h none fun M2 _ q => Or.inl ⟨rfl, q⟩)
  · obtain ⟨i, rfl⟩ : ∃ i, ti = i + 1 := ⟨ti - 1, by omega⟩
    have e2 : nI (i + 1) - (1 : Int32) = nI i := by rw [show (1 : Int32) = nI 1 from rfl, nI_sub (by omega), Nat.add_sub_cancel]
    rw [e2]
    refine iF_f (fun c => absurd ((nIlt (a := i) (b := 0) (by omega) (by omega)).mp c) (by omega)) ⟨isO_pt hS (by decide) rfl, iF_f (fun c => ?_) (dR_of (Str.pg hS rfl) (lenA_of (Str.sh hS _ _ rfl) (iF_f (fun c => absurd ((nIle (by omega) (by omega)).mp c) (by omega)) (dR_of (Str.pg hS rfl) ⟨inA_pt hS rfl (vp_nI (by omega) (by decide)), nm_of ?_⟩))))⟩
    · rw [s14] at c
      exact absurd ((nIle (by omega) (by omega)).mp c) (by omega)
    · rw [ix_nI (by omega)]
      exact h _ fun M2 f q => TrT.of f (by omega) (hT i (by omega)) q
def sayV (tx : Nat → Int32) (A : Nat → Nat) (p h kd s w : Nat) : Int32 := if w = 0 then nI (vN tx A p h kd s) else if w = 1 then nI (vT tx A p h kd s) else if w = 2 then iI (b01 (vR tx (A 4) A p h kd s (htA A h s) (htA A h (s - 1)))) else if w = 3 then nI (vJ tx A p h kd) else nI (vF tx A p h kd)
theorem c_said {L B nx p h kd s w : Nat} {A : Nat → Nat} {M : fM} {φ : Int32 → fM → Prop} (hS : Str L M) (hC : Cls M 10 A nx) (hO : Okk B A) (hT : ∀ i, i < A 3 → TxR M 18 i) (hp : p < A 0) (hh : h < 4) (hk : kd < 4) (hs1 : 1 ≤ s) (hs : s ≤ A (10 + 18 * h)) (hw : w ≤ 4) (hz : ∀ M2, Frm scr M M2 → φ (sayV (mI M 73) A p h kd s w) M2) : w_X6_saidOf 64 (nI p) (nI h) (nI kd) (nI s) (nI w) M φ := by
  obtain ⟨cn, cm, cr, ct, ch, p1, p2, p3, s4, s5, s6, s9, s11, s14, s15, s17, cb, cg⟩ := hC.f
  obtain ⟨⟨o0, o1, o2, o3, o4, o5, o6, o7, o8, o9⟩, oH, oP, -⟩ := id hO
  obtain ⟨h1, h2, h3, h4, h5⟩ := oH h hh
  have hpb := oP p hp
  have m1 : 0 + 0 = 0 := rfl; have m4 : 0 + 0 = 0 := rfl; have f5 : 0 + 0 = 0 := rfl; have f6 : 0 + 0 = 0 := rfl; have t1 : 0 + 0 = 0 := rfl; have t2 : 0 + 0 = 0 := rfl; have e1 : 0 + 0 = 0 := rfl; have e2 : 0 + 0 = 0 := rfl; have e3 : 0 + 0 = 0 := rfl
  unfold w_X6_saidOf w_X0_hasStep w_X5_isPerson
  repeat' (first | ((with_reducible refine c_hO10 (L := L) ?_ ?_ ?_); exact hS; omega) | ((with_reducible refine c_fil_hh (L := L) ?_ ?_ ?_); (exact hS); omega) | ((with_reducible refine c_build (L := L) ?_ ?_ ?_); (exact hS); omega) | with_reducible refine nm_of ?_ | with_reducible refine st_of ?_ | ((with_reducible apply dR_of); first | exact Str.pg hS rfl | exact sp_hsx hS (by omega) | exact sp_hs hS (by omega) | exact sp_hh hS (by omega) | assumption | fail) | ((with_reducible refine And.intro ?_ ?_); first | exact isO_pt hS (by decide) rfl | exact inA_pt hS rfl (by (first | exact vp_lit (by decide) | (simp (disch := omega) only [lit32, Nat.add_sub_cancel, Nat.sub_zero, Nat.reduceSub, nI_add, nI_muL, nI_sub, ix_nI, mI_s, mI_n, mI_fs, mI_fn, mI_ci, mI_co, mI_si, mI_so, Nat.add_zero, up_n, up_s, cpA_i, cpA_o, shA_i, shA_o, fiA_i, fiA_o, imin_l, imin_r, nI_mod, nI_div, xr_e, cn, cm, cr, ct, ch, p1, p2, p3, s4, s5, s6, s9, s11, s14, s15, s17, cb, cg, m1, m4, f5, f6, t1, t2, e1, e2, e3]; first | done | exact vp_nI (by omega) (by decide)) | exact vp_nI (by omega) (by decide) | fail)) | omega | exact isO_hs hS (by omega) | exact inA_hh hS (by omega) (by (first | exact vp_lit (by decide) | (simp (disch := omega) only [lit32, Nat.add_sub_cancel, Nat.sub_zero, Nat.reduceSub, nI_add, nI_muL, nI_sub, ix_nI, mI_s, mI_n, mI_fs, mI_fn, mI_ci, mI_co, mI_si, mI_so, Nat.add_zero, up_n, up_s, cpA_i, cpA_o, shA_i, shA_o, fiA_i, fiA_o, imin_l, imin_r, nI_mod, nI_div, xr_e, cn, cm, cr, ct, ch, p1, p2, p3, s4, s5, s6, s9, s11, s14, s15, s17, cb, cg, m1, m4, f5, f6, t1, t2, e1, e2, e3]; first | done | exact vp_nI (by omega) (by decide)) | exact vp_nI (by omega) (by decide) | fail)) | exact isB1 | exact isB0 | assumption | fail) | ((with_reducible apply lenA_of); first | exact Str.sh hS _ _ rfl | exact ss_hh hS (by omega) | assumption | fail) | with_reducible refine gN_of rfl ?_ | with_reducible refine gN_no rfl ?_ | ((with_reducible refine iF_t ?_ ?_); focus ((try simp (disch := omega) only [lit32, Nat.add_sub_cancel, Nat.sub_zero, Nat.reduceSub, nI_add, nI_muL, nI_sub, ix_nI, mI_s, mI_n, mI_fs, mI_fn, mI_ci, mI_co, mI_si, mI_so, Nat.add_zero, up_n, up_s, cpA_i, cpA_o, shA_i, shA_o, fiA_i, fiA_o, imin_l, imin_r, nI_mod, nI_div, xr_e, cn, cm, cr, ct, ch, p1, p2, p3, s4, s5, s6, s9, s11, s14, s15, s17, cb, cg, m1, m4, f5, f6, t1, t2, e1, e2, e3, lt_toInt, le_toInt, eq_toInt, toInt_nI, tI_neg, bt_e, tI_sub, tI_subR, tI_subL]); first | done | omega)) | ((with_reducible refine iF_f ?_ ?_); focus ((try simp (disch := omega) only [lit32, Nat.add_sub_cancel, Nat.sub_zero, Nat.reduceSub, nI_add, nI_muL, nI_sub, ix_nI, mI_s, mI_n, mI_fs, mI_fn, mI_ci, mI_co, mI_si, mI_so, Nat.add_zero, up_n, up_s, cpA_i, cpA_o, shA_i, shA_o, fiA_i, fiA_o, imin_l, imin_r, nI_mod, nI_div, xr_e, cn, cm, cr, ct, ch, p1, p2, p3, s4, s5, s6, s9, s11, s14, s15, s17, cb, cg, m1, m4, f5, f6, t1, t2, e1, e2, e3, lt_toInt, le_toInt, eq_toInt, toInt_nI, tI_neg, bt_e, tI_sub, tI_subR, tI_subL]); first | done | omega)) | fail)
  refine c_textOf hS hC hO hT s15 o4 fun o ho => ⟨isO_pt hS (by decide) rfl, c_turnTo hS hC hO rfl rfl rfl (by omega) hh hk fun M1 f1 t1' t2' t3' t4' => ?_⟩
  have hS1 := f1.S hS
  have hC1 : Cls M1 10 A nx := hC.cg (fun q hq k => f1.2.2 q (by unfold scr; omega) k (by omega)) o5
  refine ⟨isO_pt hS1 (by decide) rfl, dR_of (Str.pg hS1 rfl) ⟨isO_pt hS1 (by decide) rfl, c_face hS1 hC1 hO rfl hh hs1 (by omega) hk t4' fun M2 f2 z1 z2 z3 z4 => ?_⟩⟩
  have hS2 := f2.S hS1
  have f12 := f1.tr f2
  have hTr : TrT M2 (mI M 73) (A 4) := ho M2 f12 (z1.trans t1')
  have hv : ∀ v, v < 10 → mI M2 8 v = nI (nvS A p h kd s v) ∧ nvS A p h kd s v ≤ 9999 := fun v hv => ⟨z4 v hv, nvF_b hO (by omega) hh hk (by omega) (htA_b hO hh (by omega)) (htA_b hO hh (by omega)) v⟩
  have hv6 : ∀ v, v < 6 → mI M2 8 v = nI (nvF A p h kd 0 0 0 v) ∧ nvF A p h kd 0 0 0 v ≤ 9999 := fun v hv6 => ⟨by
    rw [z4 v (by omega)]
    have e : v = 0 ∨ v = 1 ∨ v = 2 ∨ v = 3 ∨ v = 4 ∨ v = 5 := by omega
    rcases e with rfl | rfl | rfl | rfl | rfl | rfl
    all_goals rfl, nvF_b hO (by omega) hh hk (by omega) (by omega) (by omega) v⟩
  rw [t2'] at z2
  rw [t3'] at z3
  have hw5 : w = 0 ∨ w = 1 ∨ w = 2 ∨ w = 3 ∨ w = 4 := by omega
  rcases hw5 with rfl | rfl | rfl | rfl | rfl
  · refine iF_t rfl ⟨isO_pt hS2 (by decide) rfl, dR_of (Str.pg hS2 rfl) ⟨isO_pt hS2 (by decide) rfl, c_noneNow hS2 hTr hv z2 (by omega) fun M3 f3 => hz M3 (f12.tr f3.f)⟩⟩
  · refine iF_f (by decide) (iF_t rfl ⟨isO_pt hS2 (by decide) rfl, dR_of (Str.pg hS2 rfl) (dR_of (Str.pg hS2 rfl) ⟨isO_pt hS2 (by decide) rfl, c_noneNow hS2 hTr hv z2 (by omega) fun M3 f3 => ?_⟩)⟩)
    have hS3 := f3.S hS2
    refine ⟨isO_pt hS3 (by decide) rfl, c_twiceNow hS3 (hTr.f9 f3) (fun v hv2 => ⟨(f3.2 8 (by omega) v).trans (hv v hv2).1, (hv v hv2).2⟩) ((f3.2 7 (by omega) 4).trans z3) (by omega) rfl (vN_b (mI M 73) A p h kd s) fun M4 f4 => hz M4 ((f12.tr f3.f).tr f4.f)⟩
  · refine iF_f (by decide) (iF_f (by decide) (iF_t rfl ⟨isO_pt hS2 (by decide) rfl, dR_of (Str.pg hS2 rfl) ⟨isO_pt hS2 (by decide) rfl, c_tripsNow hS2 hTr hv fun M3 x f3 ex => ?_⟩⟩))
    have q := hz M3 (f12.tr f3.f)
    rw [show sayV (mI M 73) A p h kd s 2 = iI (b01 (vR (mI M 73) (A 4) A p h kd s (htA A h s) (htA A h (s - 1)))) from rfl] at q
    rw [ex]
    unfold vR at q
    change φ (iI (b01 (trpV (lawR (mI M 73) (A 4) 2 (nvS A p h kd s)) (nvS A p h kd s 7) (nvS A p h kd s 8)))) M3 at q
    generalize trpV (lawR (mI M 73) (A 4) 2 (nvS A p h kd s)) (nvS A p h kd s 7) (nvS A p h kd s 8) = t at q ⊢
    cases t
    · exact iF_t (by decide) q
    · exact iF_f (by decide) q
  · refine iF_f (by decide) (iF_f (by decide) (iF_f (by decide) (iF_t rfl ⟨isO_pt hS2 (by decide) rfl, dR_of (Str.pg hS2 rfl) ⟨isO_pt hS2 (by decide) rfl, c_jarNow hS2 hTr hv6 fun M3 f3 => hz M3 (f12.tr f3.f)⟩⟩)))
  · refine iF_f (by decide) (iF_f (by decide) (iF_f (by decide) (iF_f (by decide) (iF_t rfl ⟨isO_pt hS2 (by decide) rfl, dR_of (Str.pg hS2 rfl) ⟨isO_pt hS2 (by decide) rfl, c_fallNow hS2 hTr hv6 fun M3 f3 => hz M3 (f12.tr f3.f)⟩⟩))))
