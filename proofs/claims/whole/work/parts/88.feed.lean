/-! ===== the tape, fed ===== -/
def bq (v : Int32) (s : Nat) : Nat := un ((v >>> (nI s &&& nI 31)) &&& nI 255)
theorem bq_lt (v : Int32) (s : Nat) : bq v s < 256 := by
  unfold bq un
  generalize (v >>> (nI s &&& nI 31)) = x
  have h : (x &&& nI 255).toUInt32.toNat = x.toUInt32.toNat &&& 255 := rfl
  rw [h]
  exact Nat.lt_of_le_of_lt Nat.and_le_right (by omega)
def tE (tp : Nat → Nat) (l : Nat) (v : Int32) : Nat → Nat := fun j => if j = l then bq v 24 else if j = l + 1 then bq v 16 else if j = l + 2 then bq v 8 else if j = l + 3 then bq v 0 else tp j
def TpC (M : fM) (l : Nat) (tp : Nat → Nat) : Prop := mI M 46 1 = nI l ∧ ∀ k, k < l → tp k < 256 ∧ mI M 47 k = nI (tp k)
def TpM (M : fM) (l : Nat) (tp : Nat → Nat) : Prop := mI M 70 4 = nI l ∧ ∀ k, k < l → tp k < 256 ∧ mI M 74 k = nI (tp k)
def FrX (P : Nat → Nat → Prop) (M M2 : fM) : Prop := M2.2 = M.2 ∧ ∀ r k, ¬ P r k → mI M2 r k = mI M r k
def pC (r k : Nat) : Prop := r = 47 ∨ (r = 46 ∧ k = 1)
def pM (r k : Nat) : Prop := r = 74 ∨ (r = 70 ∧ k = 4)
theorem FrX.tr {P : Nat → Nat → Prop} {M M1 M2 : fM} (h : FrX P M M1) (h2 : FrX P M1 M2) : FrX P M M2 := ⟨h2.1.trans h.1, fun r k hr => (h2.2 r k hr).trans (h.2 r k hr)⟩
theorem FrX.S {P : Nat → Nat → Prop} {M M1 : fM} {L : Nat} (h : FrX P M M1) (hS : Str L M) : Str L M1 := by
  unfold Str
  rw [h.1]
  exact hS
theorem c_tk1 {L l s : Nat} {M : fM} {v : Int32} {φ : fM → Prop} {K : Nat → Int32 → Int32 → fM → Prop} (hS : Str L M) (t1 : mI M 46 1 = nI l) (hl : l < 300) (hs : s ≤ 24) (h : K 46 v (nI s + -8) (wI (wI M 47 l (nI (bq v s))) 46 1 (nI (l + 1)))) : b_X7_take_3 K φ 46 v (nI s) M := by
  have e4 : (v >>> (nI s &&& nI 31)) &&& nI 255 = nI (bq v s) := (nI_un _).symm
  have cn : 0 + 0 = 0 := rfl; have cm : 0 + 0 = 0 := rfl; have cr : 0 + 0 = 0 := rfl; have ct : 0 + 0 = 0 := rfl; have ch : 0 + 0 = 0 := rfl; have p1 : 0 + 0 = 0 := rfl; have p2 : 0 + 0 = 0 := rfl; have p3 : 0 + 0 = 0 := rfl; have s4 : 0 + 0 = 0 := rfl; have s5 : 0 + 0 = 0 := rfl; have s6 : 0 + 0 = 0 := rfl; have s9 : 0 + 0 = 0 := rfl; have s11 : 0 + 0 = 0 := rfl; have s14 : 0 + 0 = 0 := rfl; have s15 : 0 + 0 = 0 := rfl; have s17 : 0 + 0 = 0 := rfl; have cb : 0 + 0 = 0 := rfl; have cg : 0 + 0 = 0 := rfl; have m1 : 0 + 0 = 0 := rfl; have m4 : 0 + 0 = 0 := rfl; have f5 : 0 + 0 = 0 := rfl; have f6 : 0 + 0 = 0 := rfl; have t2 : 0 + 0 = 0 := rfl; have e1 : 0 + 0 = 0 := rfl; have e2 : 0 + 0 = 0 := rfl; have e3 : 0 + 0 = 0 := rfl
  unfold b_X7_take_3 w_X10_put
  repeat' (first | ((with_reducible refine c_fil_hh (L := L) ?_ ?_ ?_); (exact hS); omega) | ((with_reducible refine c_build (L := L) ?_ ?_ ?_); (exact hS); omega) | with_reducible refine nm_of ?_ | with_reducible refine st_of ?_ | ((with_reducible apply dR_of); first | exact Str.pg hS rfl | exact sp_hsx hS (by omega) | exact sp_hs hS (by omega) | exact sp_hh hS (by omega) | assumption | fail) | ((with_reducible refine And.intro ?_ ?_); first | exact isO_pt hS (by decide) rfl | exact inA_pt hS rfl (by (first | exact vp_lit (by decide) | (simp (disch := omega) only [lit32, Nat.add_sub_cancel, Nat.sub_zero, Nat.reduceSub, nI_add, nI_muL, nI_sub, ix_nI, mI_s, mI_n, mI_fs, mI_fn, mI_ci, mI_co, mI_si, mI_so, Nat.add_zero, up_n, up_s, cpA_i, cpA_o, shA_i, shA_o, fiA_i, fiA_o, imin_l, imin_r, nI_mod, nI_div, xr_e, cn, cm, cr, ct, ch, p1, p2, p3, s4, s5, s6, s9, s11, s14, s15, s17, cb, cg, m1, m4, f5, f6, t1, t2, e1, e2, e3]; first | done | exact vp_nI (by omega) (by decide)) | exact vp_nI (by omega) (by decide) | fail)) | omega | exact isO_hs hS (by omega) | exact inA_hh hS (by omega) (by (first | exact vp_lit (by decide) | (simp (disch := omega) only [lit32, Nat.add_sub_cancel, Nat.sub_zero, Nat.reduceSub, nI_add, nI_muL, nI_sub, ix_nI, mI_s, mI_n, mI_fs, mI_fn, mI_ci, mI_co, mI_si, mI_so, Nat.add_zero, up_n, up_s, cpA_i, cpA_o, shA_i, shA_o, fiA_i, fiA_o, imin_l, imin_r, nI_mod, nI_div, xr_e, cn, cm, cr, ct, ch, p1, p2, p3, s4, s5, s6, s9, s11, s14, s15, s17, cb, cg, m1, m4, f5, f6, t1, t2, e1, e2, e3]; first | done | exact vp_nI (by omega) (by decide)) | exact vp_nI (by omega) (by decide) | fail)) | exact isB1 | exact isB0 | assumption | fail) | ((with_reducible apply lenA_of); first | exact Str.sh hS _ _ rfl | exact ss_hh hS (by omega) | assumption | fail) | with_reducible refine gN_of rfl ?_ | with_reducible refine gN_no rfl ?_ | ((with_reducible refine iF_t ?_ ?_); focus ((try simp (disch := omega) only [lit32, Nat.add_sub_cancel, Nat.sub_zero, Nat.reduceSub, nI_add, nI_muL, nI_sub, ix_nI, mI_s, mI_n, mI_fs, mI_fn, mI_ci, mI_co, mI_si, mI_so, Nat.add_zero, up_n, up_s, cpA_i, cpA_o, shA_i, shA_o, fiA_i, fiA_o, imin_l, imin_r, nI_mod, nI_div, xr_e, cn, cm, cr, ct, ch, p1, p2, p3, s4, s5, s6, s9, s11, s14, s15, s17, cb, cg, m1, m4, f5, f6, t1, t2, e1, e2, e3, lt_toInt, le_toInt, eq_toInt, toInt_nI, tI_neg, bt_e, tI_sub, tI_subR, tI_subL]); first | done | omega)) | ((with_reducible refine iF_f ?_ ?_); focus ((try simp (disch := omega) only [lit32, Nat.add_sub_cancel, Nat.sub_zero, Nat.reduceSub, nI_add, nI_muL, nI_sub, ix_nI, mI_s, mI_n, mI_fs, mI_fn, mI_ci, mI_co, mI_si, mI_so, Nat.add_zero, up_n, up_s, cpA_i, cpA_o, shA_i, shA_o, fiA_i, fiA_o, imin_l, imin_r, nI_mod, nI_div, xr_e, cn, cm, cr, ct, ch, p1, p2, p3, s4, s5, s6, s9, s11, s14, s15, s17, cb, cg, m1, m4, f5, f6, t1, t2, e1, e2, e3, lt_toInt, le_toInt, eq_toInt, toInt_nI, tI_neg, bt_e, tI_sub, tI_subR, tI_subL]); first | done | omega)) | fail)
  rw [t1, mI_n (by omega), t1, ix_nI (by omega)]
  rw [← e4, ← nI_add] at h
  exact h
theorem c_take {L l : Nat} {tp : Nat → Nat} {M : fM} {v : Int32} {φ : fM → Prop} (hS : Str L M) (hT : TpC M l tp) (hl : l + 4 ≤ 300) (h : ∀ M2, FrX pC M M2 → TpC M2 (l + 4) (tE tp l v) → φ M2) : w_X7_take 46 v M φ := by
  obtain ⟨t1, t2⟩ := hT
  refine ⟨5, ?_⟩
  show b_X7_take_3 (l_X7_take_3 φ 4) φ 46 v (nI 24) M
  refine c_tk1 hS t1 (by omega) (by omega) ?_
  show b_X7_take_3 (l_X7_take_3 φ 3) φ 46 v (nI 16) _
  refine c_tk1 (l := l + 1) (by exact hS) (mI_s rfl rfl) (by omega) (by omega) ?_
  show b_X7_take_3 (l_X7_take_3 φ 2) φ 46 v (nI 8) _
  refine c_tk1 (l := l + 2) (by exact hS) (mI_s rfl rfl) (by omega) (by omega) ?_
  show b_X7_take_3 (l_X7_take_3 φ 1) φ 46 v (nI 0) _
  refine c_tk1 (l := l + 3) (by exact hS) (mI_s rfl rfl) (by omega) (by omega) ?_
  refine iF_t (by decide) (h _ ⟨rfl, fun r k hr => ?_⟩ ⟨mI_s rfl rfl, fun k hk => ?_⟩)
  · unfold pC at hr
    rw [mI_n (by omega), mI_n (by omega), mI_n (by omega), mI_n (by omega), mI_n (by omega), mI_n (by omega), mI_n (by omega), mI_n (by omega)]
  · unfold tE
    by_cases e0 : k = l
    · rw [if_pos e0]
      exact ⟨bq_lt _ _, by simp (disch := omega) only [mI_n, mI_s]⟩
    · rw [if_neg e0]
      by_cases e1 : k = l + 1
      · rw [if_pos e1]
        exact ⟨bq_lt _ _, by simp (disch := omega) only [mI_n, mI_s]⟩
      · rw [if_neg e1]
        by_cases e2 : k = l + 2
        · rw [if_pos e2]
          exact ⟨bq_lt _ _, by simp (disch := omega) only [mI_n, mI_s]⟩
        · rw [if_neg e2]
          by_cases e3 : k = l + 3
          · rw [if_pos e3]
            exact ⟨bq_lt _ _, by simp (disch := omega) only [mI_n, mI_s]⟩
          · rw [if_neg e3]
            obtain ⟨q1, q2⟩ := t2 k (by omega)
            exact ⟨q1, by simp (disch := omega) only [mI_n]; exact q2⟩
theorem m_tk1 {L l k : Nat} {M : fM} {v : Int32} {φ : fM → Prop} {K : Nat → Int32 → Int32 → fM → Prop} (hS : Str L M) (t2 : mI M 70 4 = nI l) (hl : l < 300) (hs : k ≤ 3) (h : K 70 v (nI k + -1) (wI (wI M 74 l (nI (bq v (8 * k)))) 70 4 (nI (l + 1)))) : b_X11_four_2 K φ 70 v (nI k) M := by
  have e4 : (v >>> (nI (8 * k) &&& nI 31)) &&& nI 255 = nI (bq v (8 * k)) := (nI_un _).symm
  have cn : 0 + 0 = 0 := rfl; have cm : 0 + 0 = 0 := rfl; have cr : 0 + 0 = 0 := rfl; have ct : 0 + 0 = 0 := rfl; have ch : 0 + 0 = 0 := rfl; have p1 : 0 + 0 = 0 := rfl; have p2 : 0 + 0 = 0 := rfl; have p3 : 0 + 0 = 0 := rfl; have s4 : 0 + 0 = 0 := rfl; have s5 : 0 + 0 = 0 := rfl; have s6 : 0 + 0 = 0 := rfl; have s9 : 0 + 0 = 0 := rfl; have s11 : 0 + 0 = 0 := rfl; have s14 : 0 + 0 = 0 := rfl; have s15 : 0 + 0 = 0 := rfl; have s17 : 0 + 0 = 0 := rfl; have cb : 0 + 0 = 0 := rfl; have cg : 0 + 0 = 0 := rfl; have m1 : 0 + 0 = 0 := rfl; have m4 : 0 + 0 = 0 := rfl; have f5 : 0 + 0 = 0 := rfl; have f6 : 0 + 0 = 0 := rfl; have t1 : 0 + 0 = 0 := rfl; have e1 : 0 + 0 = 0 := rfl; have e2 : 0 + 0 = 0 := rfl; have e3 : 0 + 0 = 0 := rfl
  unfold b_X11_four_2
  repeat' (first | ((with_reducible refine c_fil_hh (L := L) ?_ ?_ ?_); (exact hS); omega) | ((with_reducible refine c_build (L := L) ?_ ?_ ?_); (exact hS); omega) | with_reducible refine nm_of ?_ | with_reducible refine st_of ?_ | ((with_reducible apply dR_of); first | exact Str.pg hS rfl | exact sp_hsx hS (by omega) | exact sp_hs hS (by omega) | exact sp_hh hS (by omega) | assumption | fail) | ((with_reducible refine And.intro ?_ ?_); first | exact isO_pt hS (by decide) rfl | exact inA_pt hS rfl (by (first | exact vp_lit (by decide) | (simp (disch := omega) only [lit32, Nat.add_sub_cancel, Nat.sub_zero, Nat.reduceSub, nI_add, nI_muL, nI_sub, ix_nI, mI_s, mI_n, mI_fs, mI_fn, mI_ci, mI_co, mI_si, mI_so, Nat.add_zero, up_n, up_s, cpA_i, cpA_o, shA_i, shA_o, fiA_i, fiA_o, imin_l, imin_r, nI_mod, nI_div, xr_e, cn, cm, cr, ct, ch, p1, p2, p3, s4, s5, s6, s9, s11, s14, s15, s17, cb, cg, m1, m4, f5, f6, t1, t2, e1, e2, e3]; first | done | exact vp_nI (by omega) (by decide)) | exact vp_nI (by omega) (by decide) | fail)) | omega | exact isO_hs hS (by omega) | exact inA_hh hS (by omega) (by (first | exact vp_lit (by decide) | (simp (disch := omega) only [lit32, Nat.add_sub_cancel, Nat.sub_zero, Nat.reduceSub, nI_add, nI_muL, nI_sub, ix_nI, mI_s, mI_n, mI_fs, mI_fn, mI_ci, mI_co, mI_si, mI_so, Nat.add_zero, up_n, up_s, cpA_i, cpA_o, shA_i, shA_o, fiA_i, fiA_o, imin_l, imin_r, nI_mod, nI_div, xr_e, cn, cm, cr, ct, ch, p1, p2, p3, s4, s5, s6, s9, s11, s14, s15, s17, cb, cg, m1, m4, f5, f6, t1, t2, e1, e2, e3]; first | done | exact vp_nI (by omega) (by decide)) | exact vp_nI (by omega) (by decide) | fail)) | exact isB1 | exact isB0 | assumption | fail) | ((with_reducible apply lenA_of); first | exact Str.sh hS _ _ rfl | exact ss_hh hS (by omega) | assumption | fail) | with_reducible refine gN_of rfl ?_ | with_reducible refine gN_no rfl ?_ | ((with_reducible refine iF_t ?_ ?_); focus ((try simp (disch := omega) only [lit32, Nat.add_sub_cancel, Nat.sub_zero, Nat.reduceSub, nI_add, nI_muL, nI_sub, ix_nI, mI_s, mI_n, mI_fs, mI_fn, mI_ci, mI_co, mI_si, mI_so, Nat.add_zero, up_n, up_s, cpA_i, cpA_o, shA_i, shA_o, fiA_i, fiA_o, imin_l, imin_r, nI_mod, nI_div, xr_e, cn, cm, cr, ct, ch, p1, p2, p3, s4, s5, s6, s9, s11, s14, s15, s17, cb, cg, m1, m4, f5, f6, t1, t2, e1, e2, e3, lt_toInt, le_toInt, eq_toInt, toInt_nI, tI_neg, bt_e, tI_sub, tI_subR, tI_subL]); first | done | omega)) | ((with_reducible refine iF_f ?_ ?_); focus ((try simp (disch := omega) only [lit32, Nat.add_sub_cancel, Nat.sub_zero, Nat.reduceSub, nI_add, nI_muL, nI_sub, ix_nI, mI_s, mI_n, mI_fs, mI_fn, mI_ci, mI_co, mI_si, mI_so, Nat.add_zero, up_n, up_s, cpA_i, cpA_o, shA_i, shA_o, fiA_i, fiA_o, imin_l, imin_r, nI_mod, nI_div, xr_e, cn, cm, cr, ct, ch, p1, p2, p3, s4, s5, s6, s9, s11, s14, s15, s17, cb, cg, m1, m4, f5, f6, t1, t2, e1, e2, e3, lt_toInt, le_toInt, eq_toInt, toInt_nI, tI_neg, bt_e, tI_sub, tI_subR, tI_subL]); first | done | omega)) | fail)
  rw [t2, mI_n (by omega), t2, ix_nI (by omega)]
  rw [← e4, ← nI_muL, ← nI_add] at h
  exact h
theorem m_take {L l : Nat} {tp : Nat → Nat} {M : fM} {v : Int32} {φ : fM → Prop} (hS : Str L M) (hT : TpM M l tp) (hl : l + 4 ≤ 300) (h : ∀ M2, FrX pM M M2 → TpM M2 (l + 4) (tE tp l v) → φ M2) : w_X11_four 70 v M φ := by
  obtain ⟨t1, t2⟩ := hT
  refine ⟨5, ?_⟩
  show b_X11_four_2 (l_X11_four_2 φ 4) φ 70 v (nI 3) M
  refine m_tk1 hS t1 (by omega) (by omega) ?_
  show b_X11_four_2 (l_X11_four_2 φ 3) φ 70 v (nI 2) _
  refine m_tk1 (l := l + 1) (by exact hS) (mI_s rfl rfl) (by omega) (by omega) ?_
  show b_X11_four_2 (l_X11_four_2 φ 2) φ 70 v (nI 1) _
  refine m_tk1 (l := l + 2) (by exact hS) (mI_s rfl rfl) (by omega) (by omega) ?_
  show b_X11_four_2 (l_X11_four_2 φ 1) φ 70 v (nI 0) _
  refine m_tk1 (l := l + 3) (by exact hS) (mI_s rfl rfl) (by omega) (by omega) ?_
  refine iF_t (by decide) (h _ ⟨rfl, fun r k hr => ?_⟩ ⟨mI_s rfl rfl, fun k hk => ?_⟩)
  · unfold pM at hr
    rw [mI_n (by omega), mI_n (by omega), mI_n (by omega), mI_n (by omega), mI_n (by omega), mI_n (by omega), mI_n (by omega), mI_n (by omega)]
  · unfold tE
    by_cases e0 : k = l
    · rw [if_pos e0]
      exact ⟨bq_lt _ _, by simp (disch := omega) only [mI_n, mI_s]⟩
    · rw [if_neg e0]
      by_cases e1 : k = l + 1
      · rw [if_pos e1]
        exact ⟨bq_lt _ _, by simp (disch := omega) only [mI_n, mI_s]⟩
      · rw [if_neg e1]
        by_cases e2 : k = l + 2
        · rw [if_pos e2]
          exact ⟨bq_lt _ _, by simp (disch := omega) only [mI_n, mI_s]⟩
        · rw [if_neg e2]
          by_cases e3 : k = l + 3
          · rw [if_pos e3]
            exact ⟨bq_lt _ _, by simp (disch := omega) only [mI_n, mI_s]⟩
          · rw [if_neg e3]
            obtain ⟨q1, q2⟩ := t2 k (by omega)
            exact ⟨q1, by simp (disch := omega) only [mI_n]; exact q2⟩
theorem k_feed {L B : Nat} {X : Nat → Int32} {M : fM} {a b c d e : Int32} {φ : Int32 → fM → Prop} (hI : Inv L X B M) (hz : ∀ v M1, Str L M1 → (∀ i, mI M1 0 i = mI M 0 i) → (∀ Ψ : Int32 → fM → Prop, (∀ M2, Inv L X B M2 → Ψ v M2) → w_X11_feed 70 a b c d e M1 Ψ) → φ v M1) : w_X10_feed 6 a b c d e M φ := by
  obtain ⟨A, A', nx, nx', tl, tp, hI⟩ := hI
  obtain ⟨hS, hX, hC, hM, hK, hMK, hO, hO', hTp, hFl, hTx⟩ := id hI
  obtain ⟨cn, cm, cr, ct, ch, p1, p2, p3, s4, s5, s6, s9, s11, s14, s15, s17, cb, cg⟩ := hC.f
  obtain ⟨hH, hP, hSc, hW, hB, hG, hA⟩ := id hC
  obtain ⟨m1, m4⟩ := id hM
  obtain ⟨f5, f6⟩ := id hFl
  obtain ⟨t0, t1, t2, t3⟩ := id hTp
  have e1 : 0 + 0 = 0 := rfl
  have e2 : 0 + 0 = 0 := rfl
  have e3 : 0 + 0 = 0 := rfl
  obtain ⟨⟨o0, o1, o2, o3, o4, o5, o6, o7, o8, o9⟩, oH, oP, oW, oA, oG, oB⟩ := id hO
  unfold w_X10_feed w_X7_hasRoom
  rcases Nat.lt_or_ge 300 (tl + 20) with hl | hl
  · repeat' (first | ((with_reducible refine c_fil_hh (L := L) ?_ ?_ ?_); (exact hS); omega) | ((with_reducible refine c_build (L := L) ?_ ?_ ?_); (exact hS); omega) | with_reducible refine nm_of ?_ | with_reducible refine st_of ?_ | ((with_reducible apply dR_of); first | exact Str.pg hS rfl | exact sp_hsx hS (by omega) | exact sp_hs hS (by omega) | exact sp_hh hS (by omega) | assumption | fail) | ((with_reducible refine And.intro ?_ ?_); first | exact isO_pt hS (by decide) rfl | exact inA_pt hS rfl (by (first | exact vp_lit (by decide) | (simp (disch := omega) only [lit32, Nat.add_sub_cancel, Nat.sub_zero, Nat.reduceSub, nI_add, nI_muL, nI_sub, ix_nI, mI_s, mI_n, mI_fs, mI_fn, mI_ci, mI_co, mI_si, mI_so, Nat.add_zero, up_n, up_s, cpA_i, cpA_o, shA_i, shA_o, fiA_i, fiA_o, imin_l, imin_r, nI_mod, nI_div, xr_e, cn, cm, cr, ct, ch, p1, p2, p3, s4, s5, s6, s9, s11, s14, s15, s17, cb, cg, m1, m4, f5, f6, t1, t2, e1, e2, e3]; first | done | exact vp_nI (by omega) (by decide)) | exact vp_nI (by omega) (by decide) | fail)) | omega | exact isO_hs hS (by omega) | exact inA_hh hS (by omega) (by (first | exact vp_lit (by decide) | (simp (disch := omega) only [lit32, Nat.add_sub_cancel, Nat.sub_zero, Nat.reduceSub, nI_add, nI_muL, nI_sub, ix_nI, mI_s, mI_n, mI_fs, mI_fn, mI_ci, mI_co, mI_si, mI_so, Nat.add_zero, up_n, up_s, cpA_i, cpA_o, shA_i, shA_o, fiA_i, fiA_o, imin_l, imin_r, nI_mod, nI_div, xr_e, cn, cm, cr, ct, ch, p1, p2, p3, s4, s5, s6, s9, s11, s14, s15, s17, cb, cg, m1, m4, f5, f6, t1, t2, e1, e2, e3]; first | done | exact vp_nI (by omega) (by decide)) | exact vp_nI (by omega) (by decide) | fail)) | exact isB1 | exact isB0 | assumption | fail) | ((with_reducible apply lenA_of); first | exact Str.sh hS _ _ rfl | exact ss_hh hS (by omega) | assumption | fail) | with_reducible refine gN_of rfl ?_ | with_reducible refine gN_no rfl ?_ | ((with_reducible refine iF_t ?_ ?_); focus ((try simp (disch := omega) only [lit32, Nat.add_sub_cancel, Nat.sub_zero, Nat.reduceSub, nI_add, nI_muL, nI_sub, ix_nI, mI_s, mI_n, mI_fs, mI_fn, mI_ci, mI_co, mI_si, mI_so, Nat.add_zero, up_n, up_s, cpA_i, cpA_o, shA_i, shA_o, fiA_i, fiA_o, imin_l, imin_r, nI_mod, nI_div, xr_e, cn, cm, cr, ct, ch, p1, p2, p3, s4, s5, s6, s9, s11, s14, s15, s17, cb, cg, m1, m4, f5, f6, t1, t2, e1, e2, e3, lt_toInt, le_toInt, eq_toInt, toInt_nI, tI_neg, bt_e, tI_sub, tI_subR, tI_subL]); first | done | omega)) | ((with_reducible refine iF_f ?_ ?_); focus ((try simp (disch := omega) only [lit32, Nat.add_sub_cancel, Nat.sub_zero, Nat.reduceSub, nI_add, nI_muL, nI_sub, ix_nI, mI_s, mI_n, mI_fs, mI_fn, mI_ci, mI_co, mI_si, mI_so, Nat.add_zero, up_n, up_s, cpA_i, cpA_o, shA_i, shA_o, fiA_i, fiA_o, imin_l, imin_r, nI_mod, nI_div, xr_e, cn, cm, cr, ct, ch, p1, p2, p3, s4, s5, s6, s9, s11, s14, s15, s17, cb, cg, m1, m4, f5, f6, t1, t2, e1, e2, e3, lt_toInt, le_toInt, eq_toInt, toInt_nI, tI_neg, bt_e, tI_sub, tI_subR, tI_subL]); first | done | omega)) | fail)
    refine hz _ _ hS (fun i => rfl) (fun Ψ hΨ => ?_)
    unfold w_X11_feed
    repeat' (first | ((with_reducible refine c_fil_hh (L := L) ?_ ?_ ?_); (exact hS); omega) | ((with_reducible refine c_build (L := L) ?_ ?_ ?_); (exact hS); omega) | with_reducible refine nm_of ?_ | with_reducible refine st_of ?_ | ((with_reducible apply dR_of); first | exact Str.pg hS rfl | exact sp_hsx hS (by omega) | exact sp_hs hS (by omega) | exact sp_hh hS (by omega) | assumption | fail) | ((with_reducible refine And.intro ?_ ?_); first | exact isO_pt hS (by decide) rfl | exact inA_pt hS rfl (by (first | exact vp_lit (by decide) | (simp (disch := omega) only [lit32, Nat.add_sub_cancel, Nat.sub_zero, Nat.reduceSub, nI_add, nI_muL, nI_sub, ix_nI, mI_s, mI_n, mI_fs, mI_fn, mI_ci, mI_co, mI_si, mI_so, Nat.add_zero, up_n, up_s, cpA_i, cpA_o, shA_i, shA_o, fiA_i, fiA_o, imin_l, imin_r, nI_mod, nI_div, xr_e, cn, cm, cr, ct, ch, p1, p2, p3, s4, s5, s6, s9, s11, s14, s15, s17, cb, cg, m1, m4, f5, f6, t1, t2, e1, e2, e3]; first | done | exact vp_nI (by omega) (by decide)) | exact vp_nI (by omega) (by decide) | fail)) | omega | exact isO_hs hS (by omega) | exact inA_hh hS (by omega) (by (first | exact vp_lit (by decide) | (simp (disch := omega) only [lit32, Nat.add_sub_cancel, Nat.sub_zero, Nat.reduceSub, nI_add, nI_muL, nI_sub, ix_nI, mI_s, mI_n, mI_fs, mI_fn, mI_ci, mI_co, mI_si, mI_so, Nat.add_zero, up_n, up_s, cpA_i, cpA_o, shA_i, shA_o, fiA_i, fiA_o, imin_l, imin_r, nI_mod, nI_div, xr_e, cn, cm, cr, ct, ch, p1, p2, p3, s4, s5, s6, s9, s11, s14, s15, s17, cb, cg, m1, m4, f5, f6, t1, t2, e1, e2, e3]; first | done | exact vp_nI (by omega) (by decide)) | exact vp_nI (by omega) (by decide) | fail)) | exact isB1 | exact isB0 | assumption | fail) | ((with_reducible apply lenA_of); first | exact Str.sh hS _ _ rfl | exact ss_hh hS (by omega) | assumption | fail) | with_reducible refine gN_of rfl ?_ | with_reducible refine gN_no rfl ?_ | ((with_reducible refine iF_t ?_ ?_); focus ((try simp (disch := omega) only [lit32, Nat.add_sub_cancel, Nat.sub_zero, Nat.reduceSub, nI_add, nI_muL, nI_sub, ix_nI, mI_s, mI_n, mI_fs, mI_fn, mI_ci, mI_co, mI_si, mI_so, Nat.add_zero, up_n, up_s, cpA_i, cpA_o, shA_i, shA_o, fiA_i, fiA_o, imin_l, imin_r, nI_mod, nI_div, xr_e, cn, cm, cr, ct, ch, p1, p2, p3, s4, s5, s6, s9, s11, s14, s15, s17, cb, cg, m1, m4, f5, f6, t1, t2, e1, e2, e3, lt_toInt, le_toInt, eq_toInt, toInt_nI, tI_neg, bt_e, tI_sub, tI_subR, tI_subL]); first | done | omega)) | ((with_reducible refine iF_f ?_ ?_); focus ((try simp (disch := omega) only [lit32, Nat.add_sub_cancel, Nat.sub_zero, Nat.reduceSub, nI_add, nI_muL, nI_sub, ix_nI, mI_s, mI_n, mI_fs, mI_fn, mI_ci, mI_co, mI_si, mI_so, Nat.add_zero, up_n, up_s, cpA_i, cpA_o, shA_i, shA_o, fiA_i, fiA_o, imin_l, imin_r, nI_mod, nI_div, xr_e, cn, cm, cr, ct, ch, p1, p2, p3, s4, s5, s6, s9, s11, s14, s15, s17, cb, cg, m1, m4, f5, f6, t1, t2, e1, e2, e3, lt_toInt, le_toInt, eq_toInt, toInt_nI, tI_neg, bt_e, tI_sub, tI_subR, tI_subL]); first | done | omega)) | fail)
    (have hq := hΨ _ hI.inv; first | exact hq | (simp (disch := omega) only [lit32, Nat.add_sub_cancel, Nat.sub_zero, Nat.reduceSub, nI_add, nI_muL, nI_sub, ix_nI, mI_s, mI_n, mI_fs, mI_fn, mI_ci, mI_co, mI_si, mI_so, Nat.add_zero, up_n, up_s, cpA_i, cpA_o, shA_i, shA_o, fiA_i, fiA_o, imin_l, imin_r, nI_mod, nI_div, xr_e, cn, cm, cr, ct, ch, p1, p2, p3, s4, s5, s6, s9, s11, s14, s15, s17, cb, cg, m1, m4, f5, f6, t1, t2, e1, e2, e3] at hq ⊢; exact hq) | (simp (disch := omega) only [lit32, Nat.add_sub_cancel, Nat.sub_zero, Nat.reduceSub, nI_add, nI_muL, nI_sub, ix_nI, mI_s, mI_n, mI_fs, mI_fn, mI_ci, mI_co, mI_si, mI_so, Nat.add_zero, up_n, up_s, cpA_i, cpA_o, shA_i, shA_o, fiA_i, fiA_o, imin_l, imin_r, nI_mod, nI_div, xr_e, cn, cm, cr, ct, ch, p1, p2, p3, s4, s5, s6, s9, s11, s14, s15, s17, cb, cg, m1, m4, f5, f6, t1, t2, e1, e2, e3] at hq; exact hq) | (simp (disch := omega) only [lit32, Nat.add_sub_cancel, Nat.sub_zero, Nat.reduceSub, nI_add, nI_muL, nI_sub, ix_nI, mI_s, mI_n, mI_fs, mI_fn, mI_ci, mI_co, mI_si, mI_so, Nat.add_zero, up_n, up_s, cpA_i, cpA_o, shA_i, shA_o, fiA_i, fiA_o, imin_l, imin_r, nI_mod, nI_div, xr_e, cn, cm, cr, ct, ch, p1, p2, p3, s4, s5, s6, s9, s11, s14, s15, s17, cb, cg, m1, m4, f5, f6, t1, t2, e1, e2, e3]; exact hq))
  · repeat' (first | ((with_reducible refine c_fil_hh (L := L) ?_ ?_ ?_); (exact hS); omega) | ((with_reducible refine c_build (L := L) ?_ ?_ ?_); (exact hS); omega) | with_reducible refine nm_of ?_ | with_reducible refine st_of ?_ | ((with_reducible apply dR_of); first | exact Str.pg hS rfl | exact sp_hsx hS (by omega) | exact sp_hs hS (by omega) | exact sp_hh hS (by omega) | assumption | fail) | ((with_reducible refine And.intro ?_ ?_); first | exact isO_pt hS (by decide) rfl | exact inA_pt hS rfl (by (first | exact vp_lit (by decide) | (simp (disch := omega) only [lit32, Nat.add_sub_cancel, Nat.sub_zero, Nat.reduceSub, nI_add, nI_muL, nI_sub, ix_nI, mI_s, mI_n, mI_fs, mI_fn, mI_ci, mI_co, mI_si, mI_so, Nat.add_zero, up_n, up_s, cpA_i, cpA_o, shA_i, shA_o, fiA_i, fiA_o, imin_l, imin_r, nI_mod, nI_div, xr_e, cn, cm, cr, ct, ch, p1, p2, p3, s4, s5, s6, s9, s11, s14, s15, s17, cb, cg, m1, m4, f5, f6, t1, t2, e1, e2, e3]; first | done | exact vp_nI (by omega) (by decide)) | exact vp_nI (by omega) (by decide) | fail)) | omega | exact isO_hs hS (by omega) | exact inA_hh hS (by omega) (by (first | exact vp_lit (by decide) | (simp (disch := omega) only [lit32, Nat.add_sub_cancel, Nat.sub_zero, Nat.reduceSub, nI_add, nI_muL, nI_sub, ix_nI, mI_s, mI_n, mI_fs, mI_fn, mI_ci, mI_co, mI_si, mI_so, Nat.add_zero, up_n, up_s, cpA_i, cpA_o, shA_i, shA_o, fiA_i, fiA_o, imin_l, imin_r, nI_mod, nI_div, xr_e, cn, cm, cr, ct, ch, p1, p2, p3, s4, s5, s6, s9, s11, s14, s15, s17, cb, cg, m1, m4, f5, f6, t1, t2, e1, e2, e3]; first | done | exact vp_nI (by omega) (by decide)) | exact vp_nI (by omega) (by decide) | fail)) | exact isB1 | exact isB0 | assumption | fail) | ((with_reducible apply lenA_of); first | exact Str.sh hS _ _ rfl | exact ss_hh hS (by omega) | assumption | fail) | with_reducible refine gN_of rfl ?_ | with_reducible refine gN_no rfl ?_ | ((with_reducible refine iF_t ?_ ?_); focus ((try simp (disch := omega) only [lit32, Nat.add_sub_cancel, Nat.sub_zero, Nat.reduceSub, nI_add, nI_muL, nI_sub, ix_nI, mI_s, mI_n, mI_fs, mI_fn, mI_ci, mI_co, mI_si, mI_so, Nat.add_zero, up_n, up_s, cpA_i, cpA_o, shA_i, shA_o, fiA_i, fiA_o, imin_l, imin_r, nI_mod, nI_div, xr_e, cn, cm, cr, ct, ch, p1, p2, p3, s4, s5, s6, s9, s11, s14, s15, s17, cb, cg, m1, m4, f5, f6, t1, t2, e1, e2, e3, lt_toInt, le_toInt, eq_toInt, toInt_nI, tI_neg, bt_e, tI_sub, tI_subR, tI_subL]); first | done | omega)) | ((with_reducible refine iF_f ?_ ?_); focus ((try simp (disch := omega) only [lit32, Nat.add_sub_cancel, Nat.sub_zero, Nat.reduceSub, nI_add, nI_muL, nI_sub, ix_nI, mI_s, mI_n, mI_fs, mI_fn, mI_ci, mI_co, mI_si, mI_so, Nat.add_zero, up_n, up_s, cpA_i, cpA_o, shA_i, shA_o, fiA_i, fiA_o, imin_l, imin_r, nI_mod, nI_div, xr_e, cn, cm, cr, ct, ch, p1, p2, p3, s4, s5, s6, s9, s11, s14, s15, s17, cb, cg, m1, m4, f5, f6, t1, t2, e1, e2, e3, lt_toInt, le_toInt, eq_toInt, toInt_nI, tI_neg, bt_e, tI_sub, tI_subR, tI_subL]); first | done | omega)) | fail)
    refine c_take hS ⟨t1, fun k hk => ⟨(t3 k hk).1, (t3 k hk).2.1⟩⟩ (by omega) fun M1 f1 q1 => ?_
    have hS1 := f1.S hS
    refine ⟨isO_pt hS1 (by decide) rfl, dR_of (Str.pg hS1 rfl) ⟨isO_pt hS1 (by decide) rfl, c_take hS1 q1 (by omega) fun M2 f2 q2 => ?_⟩⟩
    have hS2 := f2.S hS1
    refine ⟨isO_pt hS2 (by decide) rfl, dR_of (Str.pg hS2 rfl) ⟨isO_pt hS2 (by decide) rfl, c_take hS2 q2 (by omega) fun M3 f3 q3 => ?_⟩⟩
    have hS3 := f3.S hS2
    refine ⟨isO_pt hS3 (by decide) rfl, dR_of (Str.pg hS3 rfl) ⟨isO_pt hS3 (by decide) rfl, c_take hS3 q3 (by omega) fun M4 f4 q4 => ?_⟩⟩
    have hS4 := f4.S hS3
    refine ⟨isO_pt hS4 (by decide) rfl, dR_of (Str.pg hS4 rfl) ⟨isO_pt hS4 (by decide) rfl, c_take hS4 q4 (by omega) fun M5 f5' q5 => ?_⟩⟩
    have hS5 := f5'.S hS4
    refine ⟨isO_pt hS5 (by decide) rfl, dR_of (Str.pg hS5 rfl) ⟨isO_pt hS5 (by decide) rfl, ?_⟩⟩
    have F := ((((f1.tr f2).tr f3).tr f4).tr f5')
    refine hz _ _ hS5 (fun i => F.2 0 i (by unfold pC; omega)) (fun Ψ hΨ => ?_)
    unfold w_X11_feed
    have z1 : TpM M5 tl tp := ⟨(F.2 70 4 (by unfold pC; omega)).trans t2, fun k hk => ⟨(t3 k hk).1, (F.2 74 k (by unfold pC; omega)).trans (t3 k hk).2.2⟩⟩
    have t2' := z1.1
    refine ⟨isO_pt hS5 (by decide) rfl, iF_t ?_ (m_take hS5 z1 (by omega) fun N1 g1 r1 => ?_)⟩
    · rw [t2', le_toInt, lit32, lit32, nI_add, toInt_nI (by omega), toInt_nI (by omega)]
      omega
    have hN1 := g1.S hS5
    refine ⟨isO_pt hN1 (by decide) rfl, m_take hN1 r1 (by omega) fun N2 g2 r2 => ?_⟩
    have hN2 := g2.S hN1
    refine ⟨isO_pt hN2 (by decide) rfl, m_take hN2 r2 (by omega) fun N3 g3 r3 => ?_⟩
    have hN3 := g3.S hN2
    refine ⟨isO_pt hN3 (by decide) rfl, m_take hN3 r3 (by omega) fun N4 g4 r4 => ?_⟩
    have hN4 := g4.S hN3
    refine ⟨isO_pt hN4 (by decide) rfl, m_take hN4 r4 (by omega) fun N5 g5 r5 => ?_⟩
    have hN5 := g5.S hN4
    refine ⟨isO_pt hN5 (by decide) rfl, ?_⟩
    have G := ((((g1.tr g2).tr g3).tr g4).tr g5)
    have E : mI N5 70 4 = mI M5 46 1 := r5.1.trans q5.1.symm
    rw [E]
    refine hΨ _ (hI.tap (tl2 := tl + 4 + 4 + 4 + 4 + 4) (tp2 := _) ?_ ?_ (fun r hr k hk => ?_) ⟨by omega, (G.2 46 1 (by unfold pM; omega)).trans q5.1, r5.1, fun k hk => ⟨(q5.2 k hk).1, (G.2 47 k (by unfold pM; omega)).trans (q5.2 k hk).2, (r5.2 k hk).2⟩⟩)
    · exact (congrArg (fun x => x.2) G.1).trans (congrArg (fun x => x.2) F.1)
    · intro k
      unfold mJ
      rw [G.1, F.1]
    · unfold scr at hr
      rw [G.2 r k (by unfold pM; omega), F.2 r k (by unfold pC; omega)]
