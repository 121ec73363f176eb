/-! ===== a way begun, of the one ===== -/
def T_begin (a b c : Int32) : (Nat → Int32) → (Nat → Nat) → Int32 → (Nat → Nat) → Prop := fun _ A v A2 => (¬ (0 ≤ a.toInt ∧ a.toInt < A 0 ∧ 0 ≤ b.toInt ∧ b.toInt < 4 ∧ 0 ≤ c.toInt ∧ c.toInt < 4) ∧ v = -1 ∧ A2 = A) ∨ ∃ p h k, p < A 0 ∧ h < 4 ∧ k < 4 ∧ a = nI p ∧ b = nI h ∧ c = nI k ∧ v = nI (bgA p h k (kpA A) 104) ∧ A2 = bgA p h k (kpA A)
theorem bgA_3 {p h k : Nat} {A : Nat → Nat} : bgA p h k A 3 = A 3 := rfl
theorem o_beginT (B : Nat) (a b c : Int32) : TOk B B (T_begin a b c) := by
  intro t A v A2 hO hT
  rcases hT with ⟨-, -, rfl⟩ | ⟨p, h, k, hp, hh, hk, -, -, -, -, rfl⟩
  · exact ⟨hO, rfl⟩
  · have o5 := hO.1.2.2.2.2.2.1
    refine ⟨o_begin (o_keep hO) ?_ hh hk, ?_⟩
    · rw [kpA_l o5 (by omega) (by omega)]
      exact hp
    · rw [bgA_3, kpA_l o5 (by omega) (by omega)]
theorem m_begin (L B : Nat) (a b c : Int32) : MSp L B (fun M φ => w_X11_begin 70 a b c M φ) (T_begin a b c) := by
  intro M A A2 v φ hS hM hO hT hv hz
  obtain ⟨m1, m4⟩ := id hM
  have cn : 0 + 0 = 0 := rfl
  have cm : 0 + 0 = 0 := rfl
  have cr : 0 + 0 = 0 := rfl
  have ct : 0 + 0 = 0 := rfl
  have ch : 0 + 0 = 0 := rfl
  have p1 : 0 + 0 = 0 := rfl
  have p2 : 0 + 0 = 0 := rfl
  have p3 : 0 + 0 = 0 := rfl
  have s4 : 0 + 0 = 0 := rfl
  have s5 : 0 + 0 = 0 := rfl
  have s6 : 0 + 0 = 0 := rfl
  have s9 : 0 + 0 = 0 := rfl
  have s11 : 0 + 0 = 0 := rfl
  have s14 : 0 + 0 = 0 := rfl
  have s15 : 0 + 0 = 0 := rfl
  have s17 : 0 + 0 = 0 := rfl
  have cb : 0 + 0 = 0 := rfl
  have cg : 0 + 0 = 0 := rfl
  have f5 : 0 + 0 = 0 := rfl
  have f6 : 0 + 0 = 0 := rfl
  have t1 : 0 + 0 = 0 := rfl
  have t2 : 0 + 0 = 0 := rfl
  have e1 : 0 + 0 = 0 := rfl
  have e2 : 0 + 0 = 0 := rfl
  have e3 : 0 + 0 = 0 := rfl
  obtain ⟨⟨o0, o1, o2, o3, o4, o5, o6, o7, o8, o9⟩, oH, oP, oW, oA, oG, oB⟩ := id hO
  show w_X11_begin 70 a b c M φ
  unfold w_X11_begin
  refine ⟨isO_pt hS (by decide) rfl, ?_⟩
  rcases hv with ⟨hv, rfl, rfl⟩ | ⟨p, h, k, hp, hh, hk, rfl, rfl, rfl, rfl, rfl⟩
  · refine m_isMind_f hS hM hO hv (iF_t rfl ?_)
    exact hz _ Frm.rf hM
  · refine m_isMind_t hS hM hO hp hh hk (iF_f (by decide) ⟨isO_pt hS (by decide) rfl, ?_⟩)
    refine m_keep hS hM hO fun M2 f2 hM2 => ⟨isO_pt (f2.S hS) (by decide) rfl, ?_⟩
    have hp2 : p < kpA A 0 := by
      rw [kpA_l o5 (by omega) (by omega)]
      exact hp
    refine m_beginNow (f2.S hS) hM2 (o_keep hO) hp2 hh hk fun M3 f3 hM3 => ?_
    have hS3 := (f2.tr f3).S hS
    refine ⟨isO_pt hS3 (by decide) rfl, dR_of (Str.pg hS3 rfl) ⟨inA_pt hS3 rfl (vp_lit (by decide)), ?_⟩⟩
    rw [show ix (104 : Int32) = 104 from rfl, hM3.1 104 (by omega) (by omega)]
    exact hz _ (f2.tr f3) hM3
theorem TrT.cl {M M2 : fM} {tx : Nat → Int32} {ti : Nat} (f : Frm clr M M2) (hp : mP M2 7 2 = mP M 7 2) (h : TrT M tx ti) : TrT M2 tx ti := by
  have eS : ∀ q, mS M2 q = mS M q := fun q => by unfold mS; rw [nop_s f.1]
  have eI : ∀ q, 82 ≤ q → mI M2 q = mI M q := fun q hq => funext fun k => f.2.2 q (by unfold clr scr; omega) k (by omega)
  rcases h with ⟨h1, h2⟩ | ⟨i, o, c, s, e, d, u, cd, cl, h1, h2, ⟨t1, t2, t3, t4, t5, t6, t7, t8, t9, t10, t11, t12⟩, hx, hd, hu⟩
  · exact Or.inl ⟨h1, hp.trans h2⟩
  · have eP : ∀ k, mP M2 o k = mP M o k := fun k => nop_p f.1 (by omega)
    refine Or.inr ⟨i, o, c, s, e, d, u, cd, cl, h1, h2, ⟨hp.trans t1, t2, t3, t4, t5, (eS _).trans t6, (eP _).trans t7, (eP _).trans t8, (eP _).trans t9, (eS _).trans t10, (eS _).trans t11, (eS _).trans t12⟩, ?_, hd, hu⟩
    rw [eI c t3, eI s t4, eI e t5, eI d hd, eI u hu]
    exact hx
theorem Cls.w15 {M : fM} {A : Nat → Nat} {nx k x : Nat} {v : Int32} (hk : k < 8) (hv : v = nI x) (h5 : A 5 ≤ 30) (h1 : A 108 = 1) (h : Cls M 10 A nx) : Cls (wI M 15 k v) 10 (up A (100 + k) x) nx := by
  obtain ⟨hH, hP, hSc, hW, hB, hG, hA⟩ := h
  refine ⟨hH.cg (fun r q1 q2 j => mI_n (by omega)) (fun j hj => up_n (by omega)), hP.cg (fun r q1 q2 j => mI_n (by omega)) (fun j q1 q2 => up_n (by omega)), hSc.cg (fun j => mI_n (by omega)) (fun j q1 q2 => up_n (by omega)), ⟨fun _ j hj => ?_, fun q => ?_⟩, hB.cg (fun j => mI_n (by omega)) (fun j q => up_n (by omega)), hG.cg (fun j => mI_n (by omega)) (fun j q1 q2 => up_n (by omega)), hA.cg (mI_n (by omega)) (fun j => mI_n (by omega)) (up_n (by omega)) h5 (fun j q1 q2 => up_n (by omega))⟩
  · by_cases e : j = k
    · subst e
      rw [mI_s rfl rfl, up_s]
      exact hv
    · rw [mI_n (by omega), up_n (by omega)]
      exact hW.1 h1 j hj
  · rw [up_n (by omega), h1] at q
    exact absurd q (by omega)
theorem sA_l {p h k : Nat} {A : Nat → Nat} {j : Nat} (hj : j < 100 ∨ 109 ≤ j) : sA p h k A j = A j := by
  unfold sA
  rw [up_n (by omega), up_n (by omega), up_n (by omega), up_n (by omega), fiA_o (by omega)]
theorem c_start {L B nx p h k : Nat} {A : Nat → Nat} {M : fM} {a b c : Int32} {φ : fM → Prop} (hS : Str L M) (hC : Cls M 10 A nx) (hO : Okk B A) (ha : a = nI p) (hb : b = nI h) (hc : c = nI k) (hp : p < A 0) (hh : h < 4) (hk : k < 4) (hz : ∀ M2, Frm clr M M2 → Cls M2 10 (bgA p h k A) nx → φ M2) : w_X9_start 57 a b c M φ := by
  subst ha hb hc
  obtain ⟨cn, cm, cr, ct, ch, p1, p2, p3, s4, s5, s6, s9, s11, s14, s15, s17, cb, cg⟩ := hC.f
  obtain ⟨⟨o0, o1, o2, o3, o4, o5, o6, o7, o8, o9⟩, oH, oP, oW, oA, oG, oB⟩ := id hO
  obtain ⟨hH, hP, hSc, hW, hB, hG, hA⟩ := id hC
  have m1 : 0 + 0 = 0 := rfl; have m4 : 0 + 0 = 0 := rfl; have f5 : 0 + 0 = 0 := rfl; have f6 : 0 + 0 = 0 := rfl; have t1 : 0 + 0 = 0 := rfl; have t2 : 0 + 0 = 0 := rfl; have e1 : 0 + 0 = 0 := rfl; have e2 : 0 + 0 = 0 := rfl; have e3 : 0 + 0 = 0 := rfl
  have hl := (oP p hp).2
  refine ⟨isO_pt hS (by decide) rfl, dR_of (Str.pg hS rfl) ⟨isO_pt hS (by decide) rfl, dR_of (Str.pg hS rfl) (c_fil (n := 8) (by omega) (by decide) (Str.sh hS 14 _ rfl) ?_)⟩⟩
  repeat' (first | ((with_reducible refine c_fil_hh (L := L) ?_ ?_ ?_); (exact hS); omega) | ((with_reducible refine c_build (L := L) ?_ ?_ ?_); (exact hS); omega) | with_reducible refine nm_of ?_ | with_reducible refine st_of ?_ | ((with_reducible apply dR_of); first | exact Str.pg hS rfl | exact sp_hsx hS (by omega) | exact sp_hs hS (by omega) | exact sp_hh hS (by omega) | assumption | fail) | ((with_reducible refine And.intro ?_ ?_); first | exact isO_pt hS (by decide) rfl | exact inA_pt hS rfl (by (first | exact vp_lit (by decide) | (simp (disch := omega) only [lit32, Nat.add_sub_cancel, Nat.sub_zero, Nat.reduceSub, nI_add, nI_muL, nI_sub, ix_nI, mI_s, mI_n, mI_fs, mI_fn, mI_ci, mI_co, mI_si, mI_so, Nat.add_zero, up_n, up_s, cpA_i, cpA_o, shA_i, shA_o, fiA_i, fiA_o, imin_l, imin_r, nI_mod, nI_div, xr_e, cn, cm, cr, ct, ch, p1, p2, p3, s4, s5, s6, s9, s11, s14, s15, s17, cb, cg, m1, m4, f5, f6, t1, t2, e1, e2, e3]; first | done | exact vp_nI (by omega) (by decide)) | exact vp_nI (by omega) (by decide) | fail)) | omega | exact isO_hs hS (by omega) | exact inA_hh hS (by omega) (by (first | exact vp_lit (by decide) | (simp (disch := omega) only [lit32, Nat.add_sub_cancel, Nat.sub_zero, Nat.reduceSub, nI_add, nI_muL, nI_sub, ix_nI, mI_s, mI_n, mI_fs, mI_fn, mI_ci, mI_co, mI_si, mI_so, Nat.add_zero, up_n, up_s, cpA_i, cpA_o, shA_i, shA_o, fiA_i, fiA_o, imin_l, imin_r, nI_mod, nI_div, xr_e, cn, cm, cr, ct, ch, p1, p2, p3, s4, s5, s6, s9, s11, s14, s15, s17, cb, cg, m1, m4, f5, f6, t1, t2, e1, e2, e3]; first | done | exact vp_nI (by omega) (by decide)) | exact vp_nI (by omega) (by decide) | fail)) | exact isB1 | exact isB0 | assumption | fail) | ((with_reducible apply lenA_of); first | exact Str.sh hS _ _ rfl | exact ss_hh hS (by omega) | assumption | fail) | with_reducible refine gN_of rfl ?_ | with_reducible refine gN_no rfl ?_ | ((with_reducible refine iF_t ?_ ?_); focus ((try simp (disch := omega) only [lit32, Nat.add_sub_cancel, Nat.sub_zero, Nat.reduceSub, nI_add, nI_muL, nI_sub, ix_nI, mI_s, mI_n, mI_fs, mI_fn, mI_ci, mI_co, mI_si, mI_so, Nat.add_zero, up_n, up_s, cpA_i, cpA_o, shA_i, shA_o, fiA_i, fiA_o, imin_l, imin_r, nI_mod, nI_div, xr_e, cn, cm, cr, ct, ch, p1, p2, p3, s4, s5, s6, s9, s11, s14, s15, s17, cb, cg, m1, m4, f5, f6, t1, t2, e1, e2, e3, lt_toInt, le_toInt, eq_toInt, toInt_nI, tI_neg, bt_e, tI_sub, tI_subR, tI_subL]); first | done | omega)) | ((with_reducible refine iF_f ?_ ?_); focus ((try simp (disch := omega) only [lit32, Nat.add_sub_cancel, Nat.sub_zero, Nat.reduceSub, nI_add, nI_muL, nI_sub, ix_nI, mI_s, mI_n, mI_fs, mI_fn, mI_ci, mI_co, mI_si, mI_so, Nat.add_zero, up_n, up_s, cpA_i, cpA_o, shA_i, shA_o, fiA_i, fiA_o, imin_l, imin_r, nI_mod, nI_div, xr_e, cn, cm, cr, ct, ch, p1, p2, p3, s4, s5, s6, s9, s11, s14, s15, s17, cb, cg, m1, m4, f5, f6, t1, t2, e1, e2, e3, lt_toInt, le_toInt, eq_toInt, toInt_nI, tI_neg, bt_e, tI_sub, tI_subR, tI_subL]); first | done | omega)) | fail)
  (try (simp (disch := omega) only [lit32, Nat.add_sub_cancel, Nat.sub_zero, Nat.reduceSub, nI_add, nI_muL, nI_sub, ix_nI, mI_s, mI_n, mI_fs, mI_fn, mI_ci, mI_co, mI_si, mI_so, Nat.add_zero, up_n, up_s, cpA_i, cpA_o, shA_i, shA_o, fiA_i, fiA_o, imin_l, imin_r, nI_mod, nI_div, xr_e, cn, cm, cr, ct, ch, p1, p2, p3, s4, s5, s6, s9, s11, s14, s15, s17, cb, cg, m1, m4, f5, f6, t1, t2, e1, e2, e3]))
  have hS1 : Str L (wI (wI (wI (fil M 15 0 8 (nI 0)) 15 0 (nI p)) 15 1 (nI h)) 15 2 (nI k)) := hS
  have f1 : Frm clr M (wI (wI (wI (fil M 15 0 8 (nI 0)) 15 0 (nI p)) 15 1 (nI h)) 15 2 (nI k)) := by (refine ⟨rfl, fun _ => rfl, fun r hr k hk => ?_⟩; (try unfold clr at hr); (try unfold mdr at hr); (try unfold scr at hr); simp (disch := omega) only [lit32, Nat.add_sub_cancel, Nat.sub_zero, Nat.reduceSub, nI_add, nI_muL, nI_sub, ix_nI, mI_s, mI_n, mI_fs, mI_fn, mI_ci, mI_co, mI_si, mI_so, Nat.add_zero, up_n, up_s, cpA_i, cpA_o, shA_i, shA_o, fiA_i, fiA_o, imin_l, imin_r, nI_mod, nI_div, xr_e, cn, cm, cr, ct, ch, p1, p2, p3, s4, s5, s6, s9, s11, s14, s15, s17, cb, cg, m1, m4, f5, f6, t1, t2, e1, e2, e3]; first | done | fail)
  have hC1 : Cls (wI (wI (wI (fil M 15 0 8 (nI 0)) 15 0 (nI p)) 15 1 (nI h)) 15 2 (nI k)) 10 (sA p h k A) nx := by
    refine ⟨hH.cg (by (intros; simp (disch := omega) only [lit32, Nat.add_sub_cancel, Nat.sub_zero, Nat.reduceSub, nI_add, nI_muL, nI_sub, ix_nI, mI_s, mI_n, mI_fs, mI_fn, mI_ci, mI_co, mI_si, mI_so, Nat.add_zero, up_n, up_s, cpA_i, cpA_o, shA_i, shA_o, fiA_i, fiA_o, imin_l, imin_r, nI_mod, nI_div, xr_e, cn, cm, cr, ct, ch, p1, p2, p3, s4, s5, s6, s9, s11, s14, s15, s17, cb, cg, m1, m4, f5, f6, t1, t2, e1, e2, e3]; first | done | fail)) (fun j q => sA_l (by omega)), hP.cg (by (intros; simp (disch := omega) only [lit32, Nat.add_sub_cancel, Nat.sub_zero, Nat.reduceSub, nI_add, nI_muL, nI_sub, ix_nI, mI_s, mI_n, mI_fs, mI_fn, mI_ci, mI_co, mI_si, mI_so, Nat.add_zero, up_n, up_s, cpA_i, cpA_o, shA_i, shA_o, fiA_i, fiA_o, imin_l, imin_r, nI_mod, nI_div, xr_e, cn, cm, cr, ct, ch, p1, p2, p3, s4, s5, s6, s9, s11, s14, s15, s17, cb, cg, m1, m4, f5, f6, t1, t2, e1, e2, e3]; first | done | fail)) (fun j q1 q2 => sA_l (by omega)), hSc.cg (by (intros; simp (disch := omega) only [lit32, Nat.add_sub_cancel, Nat.sub_zero, Nat.reduceSub, nI_add, nI_muL, nI_sub, ix_nI, mI_s, mI_n, mI_fs, mI_fn, mI_ci, mI_co, mI_si, mI_so, Nat.add_zero, up_n, up_s, cpA_i, cpA_o, shA_i, shA_o, fiA_i, fiA_o, imin_l, imin_r, nI_mod, nI_div, xr_e, cn, cm, cr, ct, ch, p1, p2, p3, s4, s5, s6, s9, s11, s14, s15, s17, cb, cg, m1, m4, f5, f6, t1, t2, e1, e2, e3]; first | done | fail)) (fun j q1 q2 => sA_l (by omega)), ⟨fun _ j hj => ?_, fun q => ?_⟩, hB.cg (by (intros; simp (disch := omega) only [lit32, Nat.add_sub_cancel, Nat.sub_zero, Nat.reduceSub, nI_add, nI_muL, nI_sub, ix_nI, mI_s, mI_n, mI_fs, mI_fn, mI_ci, mI_co, mI_si, mI_so, Nat.add_zero, up_n, up_s, cpA_i, cpA_o, shA_i, shA_o, fiA_i, fiA_o, imin_l, imin_r, nI_mod, nI_div, xr_e, cn, cm, cr, ct, ch, p1, p2, p3, s4, s5, s6, s9, s11, s14, s15, s17, cb, cg, m1, m4, f5, f6, t1, t2, e1, e2, e3]; first | done | fail)) (fun j q => sA_l (by omega)), hG.cg (by (intros; simp (disch := omega) only [lit32, Nat.add_sub_cancel, Nat.sub_zero, Nat.reduceSub, nI_add, nI_muL, nI_sub, ix_nI, mI_s, mI_n, mI_fs, mI_fn, mI_ci, mI_co, mI_si, mI_so, Nat.add_zero, up_n, up_s, cpA_i, cpA_o, shA_i, shA_o, fiA_i, fiA_o, imin_l, imin_r, nI_mod, nI_div, xr_e, cn, cm, cr, ct, ch, p1, p2, p3, s4, s5, s6, s9, s11, s14, s15, s17, cb, cg, m1, m4, f5, f6, t1, t2, e1, e2, e3]; first | done | fail)) (fun j q1 q2 => sA_l (by omega)), hA.cg (by (intros; simp (disch := omega) only [lit32, Nat.add_sub_cancel, Nat.sub_zero, Nat.reduceSub, nI_add, nI_muL, nI_sub, ix_nI, mI_s, mI_n, mI_fs, mI_fn, mI_ci, mI_co, mI_si, mI_so, Nat.add_zero, up_n, up_s, cpA_i, cpA_o, shA_i, shA_o, fiA_i, fiA_o, imin_l, imin_r, nI_mod, nI_div, xr_e, cn, cm, cr, ct, ch, p1, p2, p3, s4, s5, s6, s9, s11, s14, s15, s17, cb, cg, m1, m4, f5, f6, t1, t2, e1, e2, e3]; first | done | fail)) (by (intros; simp (disch := omega) only [lit32, Nat.add_sub_cancel, Nat.sub_zero, Nat.reduceSub, nI_add, nI_muL, nI_sub, ix_nI, mI_s, mI_n, mI_fs, mI_fn, mI_ci, mI_co, mI_si, mI_so, Nat.add_zero, up_n, up_s, cpA_i, cpA_o, shA_i, shA_o, fiA_i, fiA_o, imin_l, imin_r, nI_mod, nI_div, xr_e, cn, cm, cr, ct, ch, p1, p2, p3, s4, s5, s6, s9, s11, s14, s15, s17, cb, cg, m1, m4, f5, f6, t1, t2, e1, e2, e3]; first | done | fail)) (sA_l (by omega)) o5 (fun j q1 q2 => sA_l (by omega))⟩
    · have hj8 : j = 0 ∨ j = 1 ∨ j = 2 ∨ 3 ≤ j := by omega
      unfold sA
      rcases hj8 with rfl | rfl | rfl | hj8
      all_goals simp (disch := omega) only [lit32, Nat.add_sub_cancel, Nat.sub_zero, Nat.reduceSub, nI_add, nI_muL, nI_sub, ix_nI, mI_s, mI_n, mI_fs, mI_fn, mI_ci, mI_co, mI_si, mI_so, Nat.add_zero, up_n, up_s, cpA_i, cpA_o, shA_i, shA_o, fiA_i, fiA_o, imin_l, imin_r, nI_mod, nI_div, xr_e, cn, cm, cr, ct, ch, p1, p2, p3, s4, s5, s6, s9, s11, s14, s15, s17, cb, cg, m1, m4, f5, f6, t1, t2, e1, e2, e3]
    · rw [show sA p h k A 108 = 1 from rfl] at q
      exact absurd q (by omega)
  refine c_draw hS1 hC1 (sA_ok hO hp hh hk) fun M2 f2 hC2 => ?_
  have f := f1.tr f2
  have hS2 := f.S hS
  have hO2 := o_draw (sA_ok hO hp hh hk)
  rw [show sA p h k A 2 = A 2 from rfl]
  have hlt : A 2 % 10 < 10 := Nat.mod_lt _ (by omega)
  have e4 := (hC2.2.1 p (by omega)).2.2
  rw [show drA (sA p h k A) (82 + 3 * p + 2) = A (82 + 3 * p + 2) by unfold drA; rw [up_n (by omega), sA_l (by omega)]] at e4
  refine ⟨isO_pt hS2 (by decide) rfl, dR_of (Str.pg hS2 rfl) ⟨isO_pt hS2 (by decide) rfl, dR_of (Str.pg hS2 rfl) (c_cellN (Str.sh hS2 13 _ rfl) rfl (by omega) (by omega) ?_)⟩⟩
  rw [show mI M2 14 p = nI (A (82 + 3 * p + 2)) from e4]
  unfold bgA at hz
  have fin : ∀ x v, v = nI x → (Cls (wI M2 15 4 v) 10 (up (drA (sA p h k A)) 104 x) nx → φ (wI M2 15 4 v)) → j_X9_start_72 φ v (4 : Int32) 15 M2 := fun x v hv h => ⟨by omega, inA_pt hS2 rfl (vp_lit (by decide)), st_of (h (hC2.w15 (k := 4) (by omega) hv hO2.1.2.2.2.2.2.1 rfl))⟩
  have fw : ∀ v, Frm clr M2 (wI M2 15 4 v) := fun v => by (refine ⟨rfl, fun _ => rfl, fun r hr k hk => ?_⟩; (try unfold clr at hr); (try unfold mdr at hr); (try unfold scr at hr); simp (disch := omega) only [lit32, Nat.add_sub_cancel, Nat.sub_zero, Nat.reduceSub, nI_add, nI_muL, nI_sub, ix_nI, mI_s, mI_n, mI_fs, mI_fn, mI_ci, mI_co, mI_si, mI_so, Nat.add_zero, up_n, up_s, cpA_i, cpA_o, shA_i, shA_o, fiA_i, fiA_o, imin_l, imin_r, nI_mod, nI_div, xr_e, cn, cm, cr, ct, ch, p1, p2, p3, s4, s5, s6, s9, s11, s14, s15, s17, cb, cg, m1, m4, f5, f6, t1, t2, e1, e2, e3]; first | done | fail)
  by_cases q : A (82 + 3 * p + 2) ≤ A 2 % 10
  · rw [if_pos q] at hz
    exact iF_t ((nIle (by omega) (by omega)).mpr q) (fin 0 0 rfl fun h => hz _ (f.tr (fw _)) h)
  · rw [if_neg q] at hz
    exact iF_f (fun c => q ((nIle (by omega) (by omega)).mp c)) (fin 1 1 rfl fun h => hz _ (f.tr (fw _)) h)
theorem c_begin (L B : Nat) (a b c : Int32) : CSp L B (fun M φ => w_X9_beginAct 57 a b c M φ) (T_begin a b c) := by
  intro M A nx φ hS hC hO hT hz
  obtain ⟨cn, cm, cr, ct, ch, p1, p2, p3, s4, s5, s6, s9, s11, s14, s15, s17, cb, cg⟩ := hC.f
  obtain ⟨hH, hP, hSc, hW, hB, hG, hA⟩ := id hC
  have m1 : 0 + 0 = 0 := rfl
  have m4 : 0 + 0 = 0 := rfl
  have f5 : 0 + 0 = 0 := rfl
  have f6 : 0 + 0 = 0 := rfl
  have t1 : 0 + 0 = 0 := rfl
  have t2 : 0 + 0 = 0 := rfl
  have e1 : 0 + 0 = 0 := rfl
  have e2 : 0 + 0 = 0 := rfl
  have e3 : 0 + 0 = 0 := rfl
  obtain ⟨⟨o0, o1, o2, o3, o4, o5, o6, o7, o8, o9⟩, oH, oP, oW, oA, oG, oB⟩ := id hO
  show w_X9_beginAct 57 a b c M φ
  rcases Decidable.em (0 ≤ a.toInt ∧ a.toInt < A 0 ∧ 0 ≤ b.toInt ∧ b.toInt < 4 ∧ 0 ≤ c.toInt ∧ c.toInt < 4) with hv | hv
  · obtain ⟨p, hp, rfl⟩ := rgI (n := A 0) hv.1 (by omega)
    obtain ⟨h, hh, rfl⟩ := rgI (n := 3) hv.2.2.1 (by omega)
    obtain ⟨k, hk, rfl⟩ := rgI (n := 3) hv.2.2.2.2.1 (by omega)
    have hp1 := hv.2.1
    rw [toInt_nI (by omega)] at hp1
    have hp : p < A 0 := by omega
    unfold w_X9_beginAct w_X5_isPerson
    repeat' (first | ((with_reducible refine c_hO10 (L := L) ?_ ?_ ?_); exact hS; omega) | ((with_reducible refine c_fil_hh (L := L) ?_ ?_ ?_); (exact hS); omega) | ((with_reducible refine c_build (L := L) ?_ ?_ ?_); (exact hS); omega) | with_reducible refine nm_of ?_ | with_reducible refine st_of ?_ | ((with_reducible apply dR_of); first | exact Str.pg hS rfl | exact sp_hsx hS (by omega) | exact sp_hs hS (by omega) | exact sp_hh hS (by omega) | assumption | fail) | ((with_reducible refine And.intro ?_ ?_); first | exact isO_pt hS (by decide) rfl | exact inA_pt hS rfl (by (first | exact vp_lit (by decide) | (simp (disch := omega) only [lit32, Nat.add_sub_cancel, Nat.sub_zero, Nat.reduceSub, nI_add, nI_muL, nI_sub, ix_nI, mI_s, mI_n, mI_fs, mI_fn, mI_ci, mI_co, mI_si, mI_so, Nat.add_zero, up_n, up_s, cpA_i, cpA_o, shA_i, shA_o, fiA_i, fiA_o, imin_l, imin_r, nI_mod, nI_div, xr_e, cn, cm, cr, ct, ch, p1, p2, p3, s4, s5, s6, s9, s11, s14, s15, s17, cb, cg, m1, m4, f5, f6, t1, t2, e1, e2, e3]; first | done | exact vp_nI (by omega) (by decide)) | exact vp_nI (by omega) (by decide) | fail)) | omega | exact isO_hs hS (by omega) | exact inA_hh hS (by omega) (by (first | exact vp_lit (by decide) | (simp (disch := omega) only [lit32, Nat.add_sub_cancel, Nat.sub_zero, Nat.reduceSub, nI_add, nI_muL, nI_sub, ix_nI, mI_s, mI_n, mI_fs, mI_fn, mI_ci, mI_co, mI_si, mI_so, Nat.add_zero, up_n, up_s, cpA_i, cpA_o, shA_i, shA_o, fiA_i, fiA_o, imin_l, imin_r, nI_mod, nI_div, xr_e, cn, cm, cr, ct, ch, p1, p2, p3, s4, s5, s6, s9, s11, s14, s15, s17, cb, cg, m1, m4, f5, f6, t1, t2, e1, e2, e3]; first | done | exact vp_nI (by omega) (by decide)) | exact vp_nI (by omega) (by decide) | fail)) | exact isB1 | exact isB0 | assumption | fail) | ((with_reducible apply lenA_of); first | exact Str.sh hS _ _ rfl | exact ss_hh hS (by omega) | assumption | fail) | with_reducible refine gN_of rfl ?_ | with_reducible refine gN_no rfl ?_ | ((with_reducible refine iF_t ?_ ?_); focus ((try simp (disch := omega) only [lit32, Nat.add_sub_cancel, Nat.sub_zero, Nat.reduceSub, nI_add, nI_muL, nI_sub, ix_nI, mI_s, mI_n, mI_fs, mI_fn, mI_ci, mI_co, mI_si, mI_so, Nat.add_zero, up_n, up_s, cpA_i, cpA_o, shA_i, shA_o, fiA_i, fiA_o, imin_l, imin_r, nI_mod, nI_div, xr_e, cn, cm, cr, ct, ch, p1, p2, p3, s4, s5, s6, s9, s11, s14, s15, s17, cb, cg, m1, m4, f5, f6, t1, t2, e1, e2, e3, lt_toInt, le_toInt, eq_toInt, toInt_nI, tI_neg, bt_e, tI_sub, tI_subR, tI_subL]); first | done | omega)) | ((with_reducible refine iF_f ?_ ?_); focus ((try simp (disch := omega) only [lit32, Nat.add_sub_cancel, Nat.sub_zero, Nat.reduceSub, nI_add, nI_muL, nI_sub, ix_nI, mI_s, mI_n, mI_fs, mI_fn, mI_ci, mI_co, mI_si, mI_so, Nat.add_zero, up_n, up_s, cpA_i, cpA_o, shA_i, shA_o, fiA_i, fiA_o, imin_l, imin_r, nI_mod, nI_div, xr_e, cn, cm, cr, ct, ch, p1, p2, p3, s4, s5, s6, s9, s11, s14, s15, s17, cb, cg, m1, m4, f5, f6, t1, t2, e1, e2, e3, lt_toInt, le_toInt, eq_toInt, toInt_nI, tI_neg, bt_e, tI_sub, tI_subR, tI_subL]); first | done | omega)) | fail)
    refine c_remember hS hC hO fun M2 nx2 f2 hC2 => ?_
    have hp2 : p < kpA A 0 := by
      rw [kpA_l o5 (by omega) (by omega)]
      exact hp
    refine ⟨isO_pt (f2.S hS) (by decide) rfl, c_start (f2.S hS) hC2 (o_keep hO) rfl rfl rfl hp2 (by omega) (by omega) fun M3 f3 hC3 => ?_⟩
    have hS3 := (f2.tr f3).S hS
    refine ⟨isO_pt hS3 (by decide) rfl, dR_of (Str.pg hS3 rfl) ⟨isO_pt hS3 (by decide) rfl, dR_of (Str.pg hS3 rfl) ⟨inA_pt hS3 rfl (vp_lit (by decide)), ?_⟩⟩⟩
    rw [show ix (4 : Int32) = 4 from rfl, show mI M3 15 4 = nI (bgA p h k (kpA A) 104) from hC3.2.2.2.1.1 rfl 4 (by omega)]
    exact hz _ _ nx2 _ (Or.inr ⟨p, h, k, hp, by omega, by omega, rfl, rfl, rfl, rfl, rfl⟩) (f2.tr f3) hC3
  · rcases Decidable.em (0 ≤ b.toInt ∧ b.toInt ≤ (3 : Nat)) with hw | hw
    · obtain ⟨h, hh, rfl⟩ := rgI hw.1 hw.2
      have hv2 := hv
      rw [toInt_nI (by omega)] at hv2
      unfold w_X9_beginAct w_X5_isPerson
      repeat' (first | ((with_reducible refine c_hO10 (L := L) ?_ ?_ ?_); exact hS; omega) | ((with_reducible refine c_fil_hh (L := L) ?_ ?_ ?_); (exact hS); omega) | ((with_reducible refine c_build (L := L) ?_ ?_ ?_); (exact hS); omega) | with_reducible refine nm_of ?_ | with_reducible refine st_of ?_ | ((with_reducible apply dR_of); first | exact Str.pg hS rfl | exact sp_hsx hS (by omega) | exact sp_hs hS (by omega) | exact sp_hh hS (by omega) | assumption | fail) | ((with_reducible refine And.intro ?_ ?_); first | exact isO_pt hS (by decide) rfl | exact inA_pt hS rfl (by (first | exact vp_lit (by decide) | (simp (disch := omega) only [lit32, Nat.add_sub_cancel, Nat.sub_zero, Nat.reduceSub, nI_add, nI_muL, nI_sub, ix_nI, mI_s, mI_n, mI_fs, mI_fn, mI_ci, mI_co, mI_si, mI_so, Nat.add_zero, up_n, up_s, cpA_i, cpA_o, shA_i, shA_o, fiA_i, fiA_o, imin_l, imin_r, nI_mod, nI_div, xr_e, cn, cm, cr, ct, ch, p1, p2, p3, s4, s5, s6, s9, s11, s14, s15, s17, cb, cg, m1, m4, f5, f6, t1, t2, e1, e2, e3]; first | done | exact vp_nI (by omega) (by decide)) | exact vp_nI (by omega) (by decide) | fail)) | omega | exact isO_hs hS (by omega) | exact inA_hh hS (by omega) (by (first | exact vp_lit (by decide) | (simp (disch := omega) only [lit32, Nat.add_sub_cancel, Nat.sub_zero, Nat.reduceSub, nI_add, nI_muL, nI_sub, ix_nI, mI_s, mI_n, mI_fs, mI_fn, mI_ci, mI_co, mI_si, mI_so, Nat.add_zero, up_n, up_s, cpA_i, cpA_o, shA_i, shA_o, fiA_i, fiA_o, imin_l, imin_r, nI_mod, nI_div, xr_e, cn, cm, cr, ct, ch, p1, p2, p3, s4, s5, s6, s9, s11, s14, s15, s17, cb, cg, m1, m4, f5, f6, t1, t2, e1, e2, e3]; first | done | exact vp_nI (by omega) (by decide)) | exact vp_nI (by omega) (by decide) | fail)) | exact isB1 | exact isB0 | assumption | fail) | ((with_reducible apply lenA_of); first | exact Str.sh hS _ _ rfl | exact ss_hh hS (by omega) | assumption | fail) | with_reducible refine gN_of rfl ?_ | with_reducible refine gN_no rfl ?_ | ((with_reducible refine iF_t ?_ ?_); focus ((try simp (disch := omega) only [lit32, Nat.add_sub_cancel, Nat.sub_zero, Nat.reduceSub, nI_add, nI_muL, nI_sub, ix_nI, mI_s, mI_n, mI_fs, mI_fn, mI_ci, mI_co, mI_si, mI_so, Nat.add_zero, up_n, up_s, cpA_i, cpA_o, shA_i, shA_o, fiA_i, fiA_o, imin_l, imin_r, nI_mod, nI_div, xr_e, cn, cm, cr, ct, ch, p1, p2, p3, s4, s5, s6, s9, s11, s14, s15, s17, cb, cg, m1, m4, f5, f6, t1, t2, e1, e2, e3, lt_toInt, le_toInt, eq_toInt, toInt_nI, tI_neg, bt_e, tI_sub, tI_subR, tI_subL]); first | done | omega)) | ((with_reducible refine iF_f ?_ ?_); focus ((try simp (disch := omega) only [lit32, Nat.add_sub_cancel, Nat.sub_zero, Nat.reduceSub, nI_add, nI_muL, nI_sub, ix_nI, mI_s, mI_n, mI_fs, mI_fn, mI_ci, mI_co, mI_si, mI_so, Nat.add_zero, up_n, up_s, cpA_i, cpA_o, shA_i, shA_o, fiA_i, fiA_o, imin_l, imin_r, nI_mod, nI_div, xr_e, cn, cm, cr, ct, ch, p1, p2, p3, s4, s5, s6, s9, s11, s14, s15, s17, cb, cg, m1, m4, f5, f6, t1, t2, e1, e2, e3, lt_toInt, le_toInt, eq_toInt, toInt_nI, tI_neg, bt_e, tI_sub, tI_subR, tI_subL]); first | done | omega)) | ((with_reducible refine iF_s (fun hc => ?_) (fun hc => ?_)) <;> (try simp (disch := omega) only [lit32, Nat.add_sub_cancel, Nat.sub_zero, Nat.reduceSub, nI_add, nI_muL, nI_sub, ix_nI, mI_s, mI_n, mI_fs, mI_fn, mI_ci, mI_co, mI_si, mI_so, Nat.add_zero, up_n, up_s, cpA_i, cpA_o, shA_i, shA_o, fiA_i, fiA_o, imin_l, imin_r, nI_mod, nI_div, xr_e, cn, cm, cr, ct, ch, p1, p2, p3, s4, s5, s6, s9, s11, s14, s15, s17, cb, cg, m1, m4, f5, f6, t1, t2, e1, e2, e3, lt_toInt, le_toInt, eq_toInt, toInt_nI, tI_neg, bt_e, tI_sub, tI_subR, tI_subL] at hc)) | fail)
      all_goals first | (exfalso; omega) | exact hz _ _ nx _ (Or.inl ⟨hv, rfl, rfl⟩) Frm.rf hC
    · unfold w_X9_beginAct w_X5_isPerson w_X5_houseOf
      repeat' (first | ((with_reducible refine c_fil_hh (L := L) ?_ ?_ ?_); (exact hS); omega) | ((with_reducible refine c_build (L := L) ?_ ?_ ?_); (exact hS); omega) | with_reducible refine nm_of ?_ | with_reducible refine st_of ?_ | ((with_reducible apply dR_of); first | exact Str.pg hS rfl | exact sp_hsx hS (by omega) | exact sp_hs hS (by omega) | exact sp_hh hS (by omega) | assumption | fail) | ((with_reducible refine And.intro ?_ ?_); first | exact isO_pt hS (by decide) rfl | exact inA_pt hS rfl (by (first | exact vp_lit (by decide) | (simp (disch := omega) only [lit32, Nat.add_sub_cancel, Nat.sub_zero, Nat.reduceSub, nI_add, nI_muL, nI_sub, ix_nI, mI_s, mI_n, mI_fs, mI_fn, mI_ci, mI_co, mI_si, mI_so, Nat.add_zero, up_n, up_s, cpA_i, cpA_o, shA_i, shA_o, fiA_i, fiA_o, imin_l, imin_r, nI_mod, nI_div, xr_e, cn, cm, cr, ct, ch, p1, p2, p3, s4, s5, s6, s9, s11, s14, s15, s17, cb, cg, m1, m4, f5, f6, t1, t2, e1, e2, e3]; first | done | exact vp_nI (by omega) (by decide)) | exact vp_nI (by omega) (by decide) | fail)) | omega | exact isO_hs hS (by omega) | exact inA_hh hS (by omega) (by (first | exact vp_lit (by decide) | (simp (disch := omega) only [lit32, Nat.add_sub_cancel, Nat.sub_zero, Nat.reduceSub, nI_add, nI_muL, nI_sub, ix_nI, mI_s, mI_n, mI_fs, mI_fn, mI_ci, mI_co, mI_si, mI_so, Nat.add_zero, up_n, up_s, cpA_i, cpA_o, shA_i, shA_o, fiA_i, fiA_o, imin_l, imin_r, nI_mod, nI_div, xr_e, cn, cm, cr, ct, ch, p1, p2, p3, s4, s5, s6, s9, s11, s14, s15, s17, cb, cg, m1, m4, f5, f6, t1, t2, e1, e2, e3]; first | done | exact vp_nI (by omega) (by decide)) | exact vp_nI (by omega) (by decide) | fail)) | exact isB1 | exact isB0 | assumption | fail) | ((with_reducible apply lenA_of); first | exact Str.sh hS _ _ rfl | exact ss_hh hS (by omega) | assumption | fail) | with_reducible refine gN_of rfl ?_ | with_reducible refine gN_no rfl ?_ | ((with_reducible refine iF_t ?_ ?_); focus ((try simp (disch := omega) only [lit32, Nat.add_sub_cancel, Nat.sub_zero, Nat.reduceSub, nI_add, nI_muL, nI_sub, ix_nI, mI_s, mI_n, mI_fs, mI_fn, mI_ci, mI_co, mI_si, mI_so, Nat.add_zero, up_n, up_s, cpA_i, cpA_o, shA_i, shA_o, fiA_i, fiA_o, imin_l, imin_r, nI_mod, nI_div, xr_e, cn, cm, cr, ct, ch, p1, p2, p3, s4, s5, s6, s9, s11, s14, s15, s17, cb, cg, m1, m4, f5, f6, t1, t2, e1, e2, e3, lt_toInt, le_toInt, eq_toInt, toInt_nI, tI_neg, bt_e, tI_sub, tI_subR, tI_subL]); first | done | omega)) | ((with_reducible refine iF_f ?_ ?_); focus ((try simp (disch := omega) only [lit32, Nat.add_sub_cancel, Nat.sub_zero, Nat.reduceSub, nI_add, nI_muL, nI_sub, ix_nI, mI_s, mI_n, mI_fs, mI_fn, mI_ci, mI_co, mI_si, mI_so, Nat.add_zero, up_n, up_s, cpA_i, cpA_o, shA_i, shA_o, fiA_i, fiA_o, imin_l, imin_r, nI_mod, nI_div, xr_e, cn, cm, cr, ct, ch, p1, p2, p3, s4, s5, s6, s9, s11, s14, s15, s17, cb, cg, m1, m4, f5, f6, t1, t2, e1, e2, e3, lt_toInt, le_toInt, eq_toInt, toInt_nI, tI_neg, bt_e, tI_sub, tI_subR, tI_subL]); first | done | omega)) | ((with_reducible refine iF_s (fun hc => ?_) (fun hc => ?_)) <;> (try simp (disch := omega) only [lit32, Nat.add_sub_cancel, Nat.sub_zero, Nat.reduceSub, nI_add, nI_muL, nI_sub, ix_nI, mI_s, mI_n, mI_fs, mI_fn, mI_ci, mI_co, mI_si, mI_so, Nat.add_zero, up_n, up_s, cpA_i, cpA_o, shA_i, shA_o, fiA_i, fiA_o, imin_l, imin_r, nI_mod, nI_div, xr_e, cn, cm, cr, ct, ch, p1, p2, p3, s4, s5, s6, s9, s11, s14, s15, s17, cb, cg, m1, m4, f5, f6, t1, t2, e1, e2, e3, lt_toInt, le_toInt, eq_toInt, toInt_nI, tI_neg, bt_e, tI_sub, tI_subR, tI_subL] at hc)) | fail)
      all_goals first | (exfalso; omega) | exact hz _ _ nx _ (Or.inl ⟨hv, rfl, rfl⟩) Frm.rf hC
theorem k_begin {L B : Nat} {X : Nat → Int32} {M : fM} {a b c : Int32} {φ : Int32 → fM → Prop} (hI : Inv L X B M) (hz : ∀ v M1, Mid L X B (fun M φ => w_X11_begin 70 a b c M φ) v M1 → φ v M1) : w_X10_begin 6 a b c M φ := by
  refine k_of (w := fun M φ => w_X10_begin 6 a b c M φ) (fun M A nx φ hS hC hO hT hz => ?_) (m_begin L B a b c) (o_beginT B a b c) (Nat.le_refl B) hI hz
  show w_X10_begin 6 a b c M φ
  exact ⟨isO_pt hS (by decide) rfl, dR_of (Str.pg hS rfl) ⟨isO_pt hS (by decide) rfl, c_begin L B a b c M A nx _ hS hC hO hT hz⟩⟩
