def T_begin (a b c : Int32) : (Nat → Int32) → (Nat → Nat) → Int32 → (Nat → Nat) → Prop := fun _ A v A2 => (¬ (0 ≤ a.toInt ∧ a.toInt < A 0 ∧ 0 ≤ b.toInt ∧ b.toInt < 4 ∧ 0 ≤ c.toInt ∧ c.toInt < 4) ∧ v = -1 ∧ A2 = A) ∨ ∃ p h k, p < A 0 ∧ h < 4 ∧ k < 4 ∧ a = nI p ∧ b = nI h ∧ c = nI k ∧ v = nI (bgA p h k (kpA A) 104) ∧ A2 = bgA p h k (kpA A)
theorem bgA_3 {p h k : Nat} {A : Nat → Nat} : bgA p h k A 3 = A 3 := rfl
theorem o_beginT (B : Nat) (a b c : Int32) : TOk B B (T_begin a b c) := by
  intro t A v A2 hO hT
  rcases hT with ⟨-, -, rfl⟩ | ⟨p, h, k, hp, hh, hk, -, -, -, -, rfl⟩
  · exact ⟨hO, rfl⟩
  · have o5 := hO.1.2.2.2.2.2.1
    refine ⟨o_begin (o_keep hO) ?_ hh hk, ?_⟩
    · rw [kpA_l o5 (by omega) (by omega)]
      exact hp
    · rw [bgA_3, kpA_l o5 (by omega) (by omega)]
theorem m_begin (L B : Nat) (a b c : Int32) : MSp L B (fun M φ => w_X11_begin 70 a b c M φ) (T_begin a b c) := by
  intro M A A2 v φ hS hM hO hT hv hz
  obtain ⟨m1, m4⟩ := id hM
  have cn : 0 + 0 = 0 := rfl
  have cm : 0 + 0 = 0 := rfl
  have cr : 0 + 0 = 0 := rfl
  have ct : 0 + 0 = 0 := rfl
  have ch : 0 + 0 = 0 := rfl
  have p1 : 0 + 0 = 0 := rfl
  have p2 : 0 + 0 = 0 := rfl
  have p3 : 0 + 0 = 0 := rfl
  have s4 : 0 + 0 = 0 := rfl
  have s5 : 0 + 0 = 0 := rfl
  have s6 : 0 + 0 = 0 := rfl
  have s9 : 0 + 0 = 0 := rfl
  have s11 : 0 + 0 = 0 := rfl
  have s14 : 0 + 0 = 0 := rfl
  have s15 : 0 + 0 = 0 := rfl
  have s17 : 0 + 0 = 0 := rfl
  have cb : 0 + 0 = 0 := rfl
  have cg : 0 + 0 = 0 := rfl
  have f5 : 0 + 0 = 0 := rfl
  have f6 : 0 + 0 = 0 := rfl
  have t1 : 0 + 0 = 0 := rfl
  have t2 : 0 + 0 = 0 := rfl
  have e1 : 0 + 0 = 0 := rfl
  have e2 : 0 + 0 = 0 := rfl
  have e3 : 0 + 0 = 0 := rfl
  obtain ⟨⟨o0, o1, o2, o3, o4, o5, o6, o7, o8, o9⟩, oH, oP, oW, oA, oG, oB⟩ := id hO
  show w_X11_begin 70 a b c M φ
  unfold w_X11_begin
  refine ⟨isO_pt hS (by decide) rfl, ?_⟩
  rcases hv with ⟨hv, rfl, rfl⟩ | ⟨p, h, k, hp, hh, hk, rfl, rfl, rfl, rfl, rfl⟩
  · refine m_isMind_f hS hM hO hv (iF_t rfl ?_)
    exact hz _ Frm.rf hM
  · refine m_isMind_t hS hM hO hp hh hk (iF_f (by decide) ⟨isO_pt hS (by decide) rfl, ?_⟩)
    refine m_keep hS hM hO fun M2 f2 hM2 => ⟨isO_pt (f2.S hS) (by decide) rfl, ?_⟩
    have hp2 : p < kpA A 0 := by
      rw [kpA_l o5 (by omega) (by omega)]
      exact hp
    refine m_beginNow (f2.S hS) hM2 (o_keep hO) hp2 hh hk fun M3 f3 hM3 => ?_
    have hS3 := (f2.tr f3).S hS
    refine ⟨isO_pt hS3 (by decide) rfl, dR_of (Str.pg hS3 rfl) ⟨inA_pt hS3 rfl (vp_lit (by decide)), ?_⟩⟩
    rw [show ix (104 : Int32) = 104 from rfl, hM3.1 104 (by omega) (by omega)]
    exact hz _ (f2.tr f3) hM3
theorem c_start {L B nx p h k : Nat} {A : Nat → Nat} {M : fM} {φ : fM → Prop} (hS : Str L M) (hC : Cls M 10 A nx) (hO : Okk B A) (hp : p < A 0) (hh : h < 4) (hk : k < 4) (hz : ∀ M2, Frm clr M M2 → Cls M2 10 (bgA p h k A) nx → φ M2) : w_X9_start 57 (nI p) (nI h) (nI k) M φ := by
  obtain ⟨cn, cm, cr, ct, ch, p1, p2, p3, s4, s5, s6, s9, s11, s14, s15, s17, cb, cg⟩ := hC.f
  obtain ⟨⟨o0, o1, o2, o3, o4, o5, o6, o7, o8, o9⟩, oH, oP, oW, oA, oG, oB⟩ := id hO
  have hl := (oP p hp).2
  unfold w_X9_start
  repeat' (first | ((with_reducible refine c_fil_hh (L := L) ?_ ?_ ?_); (exact hS); omega) | ((with_reducible refine c_build (L := L) ?_ ?_ ?_); (exact hS); omega) | with_reducible refine nm_of ?_ | with_reducible refine st_of ?_ | ((with_reducible apply dR_of); first | exact Str.pg hS rfl | exact sp_hsx hS (by omega) | exact sp_hs hS (by omega) | exact sp_hh hS (by omega) | assumption | fail) | ((with_reducible refine And.intro ?_ ?_); first | exact isO_pt hS (by decide) rfl | exact inA_pt hS rfl (by (first | exact vp_lit (by decide) | (simp (disch := omega) only [lit32, Nat.add_sub_cancel, Nat.sub_zero, Nat.reduceSub, nI_add, nI_muL, nI_sub, ix_nI, mI_s, mI_n, mI_fs, mI_fn, mI_ci, mI_co, mI_si, mI_so, Nat.add_zero, up_n, up_s, cpA_i, cpA_o, shA_i, shA_o, fiA_i, fiA_o, imin_l, imin_r, nI_mod, nI_div, xr_e, cn, cm, cr, ct, ch, p1, p2, p3, s4, s5, s6, s9, s11, s14, s15, s17, cb, cg, m1, m4, f5, f6, t1, t2, e1, e2, e3]; first | done | exact vp_nI (by omega) (by decide)) | exact vp_nI (by omega) (by decide) | fail)) | omega | exact isO_hs hS (by omega) | exact inA_hh hS (by omega) (by (first | exact vp_lit (by decide) | (simp (disch := omega) only [lit32, Nat.add_sub_cancel, Nat.sub_zero, Nat.reduceSub, nI_add, nI_muL, nI_sub, ix_nI, mI_s, mI_n, mI_fs, mI_fn, mI_ci, mI_co, mI_si, mI_so, Nat.add_zero, up_n, up_s, cpA_i, cpA_o, shA_i, shA_o, fiA_i, fiA_o, imin_l, imin_r, nI_mod, nI_div, xr_e, cn, cm, cr, ct, ch, p1, p2, p3, s4, s5, s6, s9, s11, s14, s15, s17, cb, cg, m1, m4, f5, f6, t1, t2, e1, e2, e3]; first | done | exact vp_nI (by omega) (by decide)) | exact vp_nI (by omega) (by decide) | fail)) | exact isB1 | exact isB0 | assumption | fail) | ((with_reducible apply lenA_of); first | exact Str.sh hS _ _ rfl | exact ss_hh hS (by omega) | assumption | fail) | with_reducible refine gN_of rfl ?_ | with_reducible refine gN_no rfl ?_ | ((with_reducible refine iF_t ?_ ?_); focus ((try simp (disch := omega) only [lit32, Nat.add_sub_cancel, Nat.sub_zero, Nat.reduceSub, nI_add, nI_muL, nI_sub, ix_nI, mI_s, mI_n, mI_fs, mI_fn, mI_ci, mI_co, mI_si, mI_so, Nat.add_zero, up_n, up_s, cpA_i, cpA_o, shA_i, shA_o, fiA_i, fiA_o, imin_l, imin_r, nI_mod, nI_div, xr_e, cn, cm, cr, ct, ch, p1, p2, p3, s4, s5, s6, s9, s11, s14, s15, s17, cb, cg, m1, m4, f5, f6, t1, t2, e1, e2, e3, lt_toInt, le_toInt, eq_toInt, toInt_nI, tI_neg, bt_e, tI_sub, tI_subR, tI_subL]); first | done | omega)) | ((with_reducible refine iF_f ?_ ?_); focus ((try simp (disch := omega) only [lit32, Nat.add_sub_cancel, Nat.sub_zero, Nat.reduceSub, nI_add, nI_muL, nI_sub, ix_nI, mI_s, mI_n, mI_fs, mI_fn, mI_ci, mI_co, mI_si, mI_so, Nat.add_zero, up_n, up_s, cpA_i, cpA_o, shA_i, shA_o, fiA_i, fiA_o, imin_l, imin_r, nI_mod, nI_div, xr_e, cn, cm, cr, ct, ch, p1, p2, p3, s4, s5, s6, s9, s11, s14, s15, s17, cb, cg, m1, m4, f5, f6, t1, t2, e1, e2, e3, lt_toInt, le_toInt, eq_toInt, toInt_nI, tI_neg, bt_e, tI_sub, tI_subR, tI_subL]); first | done | omega)) | fail)
  refine c_fil (n := 8) (by omega) (by decide) (Str.sz hS rfl) ?_
  repeat' (first | ((with_reducible refine c_fil_hh (L := L) ?_ ?_ ?_); (exact hS); omega) | ((with_reducible refine c_build (L := L) ?_ ?_ ?_); (exact hS); omega) | with_reducible refine nm_of ?_ | with_reducible refine st_of ?_ | ((with_reducible apply dR_of); first | exact Str.pg hS rfl | exact sp_hsx hS (by omega) | exact sp_hs hS (by omega) | exact sp_hh hS (by omega) | assumption | fail) | ((with_reducible refine And.intro ?_ ?_); first | exact isO_pt hS (by decide) rfl | exact inA_pt hS rfl (by (first | exact vp_lit (by decide) | (simp (disch := omega) only [lit32, Nat.add_sub_cancel, Nat.sub_zero, Nat.reduceSub, nI_add, nI_muL, nI_sub, ix_nI, mI_s, mI_n, mI_fs, mI_fn, mI_ci, mI_co, mI_si, mI_so, Nat.add_zero, up_n, up_s, cpA_i, cpA_o, shA_i, shA_o, fiA_i, fiA_o, imin_l, imin_r, nI_mod, nI_div, xr_e, cn, cm, cr, ct, ch, p1, p2, p3, s4, s5, s6, s9, s11, s14, s15, s17, cb, cg, m1, m4, f5, f6, t1, t2, e1, e2, e3]; first | done | exact vp_nI (by omega) (by decide)) | exact vp_nI (by omega) (by decide) | fail)) | omega | exact isO_hs hS (by omega) | exact inA_hh hS (by omega) (by (first | exact vp_lit (by decide) | (simp (disch := omega) only [lit32, Nat.add_sub_cancel, Nat.sub_zero, Nat.reduceSub, nI_add, nI_muL, nI_sub, ix_nI, mI_s, mI_n, mI_fs, mI_fn, mI_ci, mI_co, mI_si, mI_so, Nat.add_zero, up_n, up_s, cpA_i, cpA_o, shA_i, shA_o, fiA_i, fiA_o, imin_l, imin_r, nI_mod, nI_div, xr_e, cn, cm, cr, ct, ch, p1, p2, p3, s4, s5, s6, s9, s11, s14, s15, s17, cb, cg, m1, m4, f5, f6, t1, t2, e1, e2, e3]; first | done | exact vp_nI (by omega) (by decide)) | exact vp_nI (by omega) (by decide) | fail)) | exact isB1 | exact isB0 | assumption | fail) | ((with_reducible apply lenA_of); first | exact Str.sh hS _ _ rfl | exact ss_hh hS (by omega) | assumption | fail) | with_reducible refine gN_of rfl ?_ | with_reducible refine gN_no rfl ?_ | ((with_reducible refine iF_t ?_ ?_); focus ((try simp (disch := omega) only [lit32, Nat.add_sub_cancel, Nat.sub_zero, Nat.reduceSub, nI_add, nI_muL, nI_sub, ix_nI, mI_s, mI_n, mI_fs, mI_fn, mI_ci, mI_co, mI_si, mI_so, Nat.add_zero, up_n, up_s, cpA_i, cpA_o, shA_i, shA_o, fiA_i, fiA_o, imin_l, imin_r, nI_mod, nI_div, xr_e, cn, cm, cr, ct, ch, p1, p2, p3, s4, s5, s6, s9, s11, s14, s15, s17, cb, cg, m1, m4, f5, f6, t1, t2, e1, e2, e3, lt_toInt, le_toInt, eq_toInt, toInt_nI, tI_neg, bt_e, tI_sub, tI_subR, tI_subL]); first | done | omega)) | ((with_reducible refine iF_f ?_ ?_); focus ((try simp (disch := omega) only [lit32, Nat.add_sub_cancel, Nat.sub_zero, Nat.reduceSub, nI_add, nI_muL, nI_sub, ix_nI, mI_s, mI_n, mI_fs, mI_fn, mI_ci, mI_co, mI_si, mI_so, Nat.add_zero, up_n, up_s, cpA_i, cpA_o, shA_i, shA_o, fiA_i, fiA_o, imin_l, imin_r, nI_mod, nI_div, xr_e, cn, cm, cr, ct, ch, p1, p2, p3, s4, s5, s6, s9, s11, s14, s15, s17, cb, cg, m1, m4, f5, f6, t1, t2, e1, e2, e3, lt_toInt, le_toInt, eq_toInt, toInt_nI, tI_neg, bt_e, tI_sub, tI_subR, tI_subL]); first | done | omega)) | fail)
  trace_state
  sorry
