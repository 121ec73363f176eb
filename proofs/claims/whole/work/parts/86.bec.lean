theorem c_bh28_l {L : Nat} {φ : fM → Prop} : ∀ (m k : Nat) (M : fM), Str L M → k + m = 4 → (∀ i, i < 4 → isB (mI M (10 + 10 + 2 * i) 4)) → (∀ M2, HsEq 28 10 k M M2 → ∀ K, b_X5_become_2 K φ 28 10 (nI 4) M2) → l_X5_become_2 φ (m + 1) 28 10 (nI k) M := by
  intro m
  induction m with
  | zero =>
    intro k M hS hk hb h
    obtain rfl : k = 4 := by omega
    exact h M ⟨rfl, fun r _ j => rfl, fun i q1 q2 => by omega⟩ _
  | succ m ih =>
    intro k M hS hk hb h
    have hk4 : k < 4 := by omega
    show b_X5_become_2 (l_X5_become_2 φ (m + 1)) φ 28 10 (nI k) M
    generalize l_X5_become_2 φ (m + 1) = K at ih ⊢
    refine iF_f (fun c => absurd ((nIle (a := 4) (by omega) (by omega)).mp c) (by omega)) ⟨isO_pt hS (by decide) rfl, c_hO28 hS hk4 ⟨isO_pt hS (by decide) rfl, c_hO10 hS hk4 ?_⟩⟩
    refine gN_of rfl (gN_of rfl ⟨isO_of (by omega) (ss_ks hS hk4), ?_⟩)
    refine c_hbec (isO_of (by omega) (ss_ks hS hk4)) (isO_of (by omega) (ss_hs hS hk4)) (sp_kh hS hk4) (sp_hh hS hk4) (ss_kh hS hk4) (ss_hh hS hk4) (by omega) (by omega) (by omega) (by omega) (hb k hk4) (nm_of ?_)
    rw [lit32, nI_add]
    refine ih (k + 1) _ (by exact hS) (by omega) (fun i hi => ?_) fun M2 h2 => ?_
    · rw [mI_n (by omega), mI_n (by omega), mI_n (by omega), mI_co (by omega), mI_n (by omega)]
      exact hb i hi
    · obtain ⟨q1, q2, q3⟩ := h2
      refine h M2 ⟨q1, fun r hr j => ?_, fun i hi1 hi2 => ?_⟩
      · obtain ⟨g1, g2⟩ := hr k (Nat.le_refl k) hk4
        rw [q2 r (fun i hi1 hi2 => hr i (by omega) hi2), mI_n (by omega), mI_n (by omega), mI_n (by omega), mI_co (by omega), mI_n (by omega)]
      · by_cases e : i = k
        · subst e
          have q4 : ∀ r, r = 28 + 10 + 2 * i ∨ r = 28 + 11 + 2 * i → ∀ j, mI M2 r j = _ := fun r hr j => q2 r (fun i' h1 h2 => by omega) j
          rw [q4 _ (by omega), q4 _ (by omega), q4 _ (by omega), q4 _ (by omega)]
          refine ⟨?_, ?_, ?_, ?_, fun j hj => ?_⟩
          · simp (disch := omega) only [mI_n, mI_co, mI_s]
          · simp (disch := omega) only [mI_n, mI_co, mI_s]
          · simp (disch := omega) only [mI_n, mI_co, mI_s]
          · simp (disch := omega) only [mI_n, mI_co, mI_s]
          · rw [q4 _ (by omega), mI_n (by omega), mI_n (by omega), mI_n (by omega), mI_ci (by omega) (by omega) (by omega), mI_n (by omega)]
            congr 1
            omega
        · obtain ⟨c1, c2, c3, c4, c5⟩ := q3 i (by omega) hi2
          have q5 : ∀ r, r = 10 + 10 + 2 * i ∨ r = 10 + 11 + 2 * i → ∀ j, mI (wI (wI (wI (cpI (wI M (38 + 2 * k) 0 (mI M (20 + 2 * k) 0)) (21 + 2 * k) (39 + 2 * k) 0 0 15) (38 + 2 * k) 2 (mI M (20 + 2 * k) 2)) (38 + 2 * k) 3 (mI M (20 + 2 * k) 3)) (38 + 2 * k) 4 (mI M (20 + 2 * k) 4)) r j = mI M r j := fun r hr j => by
            rw [mI_n (by omega), mI_n (by omega), mI_n (by omega), mI_co (by omega), mI_n (by omega)]
          exact ⟨c1.trans (q5 _ (by omega) _), c2.trans (q5 _ (by omega) _), c3.trans (q5 _ (by omega) _), c4.trans (q5 _ (by omega) _), fun j hj => (c5 j hj).trans (q5 _ (by omega) _)⟩
theorem c_bt28_l {L : Nat} {φ : fM → Prop} : ∀ (m k : Nat) (M : fM), Str L M → k + m = 4 → (∀ i, i < 4 → ∀ y, mP M 18 i = some y → isO M y 8) → (∀ M2, M2.1 = M.1 → M2.2.1 = M.2.1 → M2.2.2.2 = M.2.2.2 → (∀ i, k ≤ i → i < 4 → mP M2 36 i = mP M 18 i) → (∀ r j, r ≠ 36 ∨ j < k ∨ 4 ≤ j → mP M2 r j = mP M r j) → j_X5_become_193 φ 28 10 M2) → l_X5_become_157 φ (m + 1) 28 10 (nI k) M := by
  intro m
  induction m with
  | zero =>
    intro k M hS hk hT h
    obtain rfl : k = 4 := by omega
    show b_X5_become_157 _ φ 28 10 (nI 4) M
    refine ⟨isO_pt hS (by decide) rfl, dR_of (Str.pg hS rfl) (lenA_of (Str.sh hS _ _ rfl) (iF_t ((nIle (by omega) (by omega)).mpr (by omega)) (h M rfl rfl rfl (fun i q1 q2 => by omega) fun r j _ => rfl)))⟩
  | succ m ih =>
    intro k M hS hk hT h
    show b_X5_become_157 (l_X5_become_157 φ (m + 1)) φ 28 10 (nI k) M
    generalize l_X5_become_157 φ (m + 1) = K at ih ⊢
    refine ⟨isO_pt hS (by decide) rfl, dR_of (Str.pg hS rfl) (lenA_of (Str.sh hS _ _ rfl) (iF_f (fun c => absurd ((nIle (by omega) (by omega)).mp c) (by omega)) ⟨isO_pt hS (by decide) rfl, dR_of (Str.pg hS rfl) (lenA_of (Str.sh hS _ _ rfl) (iF_f (fun c => absurd ((nIle (by omega) (by omega)).mp c) (by omega)) (dR_of (Str.pg hS rfl) (dR_of (Str.pg hS rfl) ⟨inA_pt hS rfl (vp_nI (by omega) (by decide)), nm_of ⟨by omega, inA_pt hS rfl (vp_nI (by omega) (by decide)), fun y e => ?_, st_of (nm_of ?_)⟩⟩))))⟩))⟩
    · rw [ix_nI (by omega)] at e
      exact hT k (by omega) y e
    · rw [lit32, nI_add, ix_nI (by omega)]
      refine ih (k + 1) _ (Str.pw (M := M) rfl (fun r j q1 q2 => by rw [mP_wP, if_neg (by omega)]) hS) (by omega) (fun i hi y e => ?_) fun M2 e1 e2 e3 e4 e5 => ?_
      · rw [mP_wP, if_neg (by omega)] at e
        exact hT i hi y e
      · refine h M2 e1 e2 e3 (fun i q1 q2 => ?_) (fun r j q => ?_)
        · by_cases e : i = k
          · subst e
            rw [e5 _ _ (by omega), mP_wP, if_pos ⟨rfl, rfl⟩]
          · rw [e4 i (by omega) q2, mP_wP, if_neg (by omega)]
        · rw [e5 r j (by omega), mP_wP, if_neg (by omega)]
theorem c_become28 {L nx : Nat} {A : Nat → Nat} {M : fM} {φ : fM → Prop} (hS : Str L M) (hC : Cls M 10 A nx) (hT : ∀ i, i < 4 → ∀ y, mP M 18 i = some y → isO M y 8) (h : ∀ M2, Str L M2 → Bec 28 10 M M2 → φ M2) : w_X5_become 28 10 M φ := by
  have cn : 0 + 0 = 0 := rfl; have cm : 0 + 0 = 0 := rfl; have cr : 0 + 0 = 0 := rfl; have ct : 0 + 0 = 0 := rfl; have ch : 0 + 0 = 0 := rfl; have p1 : 0 + 0 = 0 := rfl; have p2 : 0 + 0 = 0 := rfl; have p3 : 0 + 0 = 0 := rfl; have s4 : 0 + 0 = 0 := rfl; have s5 : 0 + 0 = 0 := rfl; have s6 : 0 + 0 = 0 := rfl; have s9 : 0 + 0 = 0 := rfl; have s11 : 0 + 0 = 0 := rfl; have s14 : 0 + 0 = 0 := rfl; have s15 : 0 + 0 = 0 := rfl; have s17 : 0 + 0 = 0 := rfl; have cb : 0 + 0 = 0 := rfl; have cg : 0 + 0 = 0 := rfl; have m1 : 0 + 0 = 0 := rfl; have m4 : 0 + 0 = 0 := rfl; have f5 : 0 + 0 = 0 := rfl; have f6 : 0 + 0 = 0 := rfl; have t1 : 0 + 0 = 0 := rfl; have t2 : 0 + 0 = 0 := rfl; have e1 : 0 + 0 = 0 := rfl; have e2 : 0 + 0 = 0 := rfl; have e3 : 0 + 0 = 0 := rfl
  refine ⟨5, c_bh28_l 4 0 M hS rfl (fun i hi => ?_) fun M1 h1 K => ?_⟩
  · rw [(hC.1 i hi).2.2.2.1]
    have hb : A 7 / 2 ^ i % 2 = 0 ∨ A 7 / 2 ^ i % 2 = 1 := by omega
    rcases hb with hb | hb
    · rw [hb]; rfl
    · rw [hb]; rfl
  obtain ⟨q1, q2, q3⟩ := h1
  have hS1 : Str L M1 := by unfold Str; rw [q1]; exact hS
  have hT1 : ∀ i, i < 4 → ∀ y, mP M1 18 i = some y → isO M1 y 8 := fun i hi y e => by
    unfold mP at e
    rw [q1] at e
    have q := hT i hi y e
    unfold isO mS at q ⊢
    rw [q1]
    exact q
  clear hS hT
  have hS := hS1
  unfold b_X5_become_2
  repeat' (first | ((with_reducible refine c_copy (n := 6) ?_ ?_ ?_ ?_ ?_ ?_); omega; omega; omega; exact Str.sh hS _ _ rfl; exact Str.sh hS _ _ rfl) | ((with_reducible refine c_copy (n := 8) ?_ ?_ ?_ ?_ ?_ ?_); omega; omega; omega; exact Str.sh hS _ _ rfl; exact Str.sh hS _ _ rfl) | ((with_reducible refine c_copy (n := 2048) ?_ ?_ ?_ ?_ ?_ ?_); omega; omega; omega; exact Str.sh hS _ _ rfl; exact Str.sh hS _ _ rfl) | ((with_reducible refine c_copy (n := 330) ?_ ?_ ?_ ?_ ?_ ?_); omega; omega; omega; exact Str.sh hS _ _ rfl; exact Str.sh hS _ _ rfl) | ((with_reducible refine c_fil_hh (L := L) ?_ ?_ ?_); (exact hS); omega) | ((with_reducible refine c_build (L := L) ?_ ?_ ?_); (exact hS); omega) | with_reducible refine nm_of ?_ | with_reducible refine st_of ?_ | ((with_reducible apply dR_of); first | exact Str.pg hS rfl | exact sp_hsx hS (by omega) | exact sp_hs hS (by omega) | exact sp_hh hS (by omega) | assumption | fail) | ((with_reducible refine And.intro ?_ ?_); first | exact isO_pt hS (by decide) rfl | exact inA_pt hS rfl (by (first | exact vp_lit (by decide) | (simp (disch := omega) only [lit32, Nat.add_sub_cancel, Nat.sub_zero, Nat.reduceSub, nI_add, nI_muL, nI_sub, ix_nI, mI_s, mI_n, mI_fs, mI_fn, mI_ci, mI_co, mI_si, mI_so, Nat.add_zero, up_n, up_s, cpA_i, cpA_o, shA_i, shA_o, fiA_i, fiA_o, imin_l, imin_r, nI_mod, nI_div, xr_e, cn, cm, cr, ct, ch, p1, p2, p3, s4, s5, s6, s9, s11, s14, s15, s17, cb, cg, m1, m4, f5, f6, t1, t2, e1, e2, e3]; first | done | exact vp_nI (by omega) (by decide)) | exact vp_nI (by omega) (by decide) | fail)) | omega | exact isO_hs hS (by omega) | exact inA_hh hS (by omega) (by (first | exact vp_lit (by decide) | (simp (disch := omega) only [lit32, Nat.add_sub_cancel, Nat.sub_zero, Nat.reduceSub, nI_add, nI_muL, nI_sub, ix_nI, mI_s, mI_n, mI_fs, mI_fn, mI_ci, mI_co, mI_si, mI_so, Nat.add_zero, up_n, up_s, cpA_i, cpA_o, shA_i, shA_o, fiA_i, fiA_o, imin_l, imin_r, nI_mod, nI_div, xr_e, cn, cm, cr, ct, ch, p1, p2, p3, s4, s5, s6, s9, s11, s14, s15, s17, cb, cg, m1, m4, f5, f6, t1, t2, e1, e2, e3]; first | done | exact vp_nI (by omega) (by decide)) | exact vp_nI (by omega) (by decide) | fail)) | exact isB1 | exact isB0 | assumption | fail) | ((with_reducible apply lenA_of); first | exact Str.sh hS _ _ rfl | exact ss_hh hS (by omega) | assumption | fail) | with_reducible refine gN_of rfl ?_ | with_reducible refine gN_no rfl ?_ | ((with_reducible refine iF_t ?_ ?_); focus ((try simp (disch := omega) only [lit32, Nat.add_sub_cancel, Nat.sub_zero, Nat.reduceSub, nI_add, nI_muL, nI_sub, ix_nI, mI_s, mI_n, mI_fs, mI_fn, mI_ci, mI_co, mI_si, mI_so, Nat.add_zero, up_n, up_s, cpA_i, cpA_o, shA_i, shA_o, fiA_i, fiA_o, imin_l, imin_r, nI_mod, nI_div, xr_e, cn, cm, cr, ct, ch, p1, p2, p3, s4, s5, s6, s9, s11, s14, s15, s17, cb, cg, m1, m4, f5, f6, t1, t2, e1, e2, e3, lt_toInt, le_toInt, eq_toInt, toInt_nI, tI_neg, bt_e, tI_sub, tI_subR, tI_subL]); first | done | omega)) | ((with_reducible refine iF_f ?_ ?_); focus ((try simp (disch := omega) only [lit32, Nat.add_sub_cancel, Nat.sub_zero, Nat.reduceSub, nI_add, nI_muL, nI_sub, ix_nI, mI_s, mI_n, mI_fs, mI_fn, mI_ci, mI_co, mI_si, mI_so, Nat.add_zero, up_n, up_s, cpA_i, cpA_o, shA_i, shA_o, fiA_i, fiA_o, imin_l, imin_r, nI_mod, nI_div, xr_e, cn, cm, cr, ct, ch, p1, p2, p3, s4, s5, s6, s9, s11, s14, s15, s17, cb, cg, m1, m4, f5, f6, t1, t2, e1, e2, e3, lt_toInt, le_toInt, eq_toInt, toInt_nI, tI_neg, bt_e, tI_sub, tI_subR, tI_subL]); first | done | omega)) | fail)
  refine ⟨5, c_bt28_l 4 0 _ (by exact hS) rfl (by exact hT1) fun M2 e1 e2 e3 e4 e5 => ?_⟩
  have hS2 : Str L M2 := hS.pw e3 fun r j g1 g2 => e5 r j (by omega)
  have eI : ∀ r j, mI M2 r j = mI _ r j := fun r j => congrFun (congrFun e1 r) j
  have hS0 := hS
  clear hS
  have hS := hS2
  unfold j_X5_become_193
  repeat' (first | ((with_reducible refine c_copy (n := 48) ?_ ?_ ?_ ?_ ?_ ?_); omega; omega; omega; exact Str.sh hS _ _ rfl; exact Str.sh hS _ _ rfl) | ((with_reducible refine c_fil_hh (L := L) ?_ ?_ ?_); (exact hS); omega) | ((with_reducible refine c_build (L := L) ?_ ?_ ?_); (exact hS); omega) | with_reducible refine nm_of ?_ | with_reducible refine st_of ?_ | ((with_reducible apply dR_of); first | exact Str.pg hS rfl | exact sp_hsx hS (by omega) | exact sp_hs hS (by omega) | exact sp_hh hS (by omega) | assumption | fail) | ((with_reducible refine And.intro ?_ ?_); first | exact isO_pt hS (by decide) rfl | exact inA_pt hS rfl (by (first | exact vp_lit (by decide) | (simp (disch := omega) only [lit32, Nat.add_sub_cancel, Nat.sub_zero, Nat.reduceSub, nI_add, nI_muL, nI_sub, ix_nI, mI_s, mI_n, mI_fs, mI_fn, mI_ci, mI_co, mI_si, mI_so, Nat.add_zero, up_n, up_s, cpA_i, cpA_o, shA_i, shA_o, fiA_i, fiA_o, imin_l, imin_r, nI_mod, nI_div, xr_e, cn, cm, cr, ct, ch, p1, p2, p3, s4, s5, s6, s9, s11, s14, s15, s17, cb, cg, m1, m4, f5, f6, t1, t2, e1, e2, e3]; first | done | exact vp_nI (by omega) (by decide)) | exact vp_nI (by omega) (by decide) | fail)) | omega | exact isO_hs hS (by omega) | exact inA_hh hS (by omega) (by (first | exact vp_lit (by decide) | (simp (disch := omega) only [lit32, Nat.add_sub_cancel, Nat.sub_zero, Nat.reduceSub, nI_add, nI_muL, nI_sub, ix_nI, mI_s, mI_n, mI_fs, mI_fn, mI_ci, mI_co, mI_si, mI_so, Nat.add_zero, up_n, up_s, cpA_i, cpA_o, shA_i, shA_o, fiA_i, fiA_o, imin_l, imin_r, nI_mod, nI_div, xr_e, cn, cm, cr, ct, ch, p1, p2, p3, s4, s5, s6, s9, s11, s14, s15, s17, cb, cg, m1, m4, f5, f6, t1, t2, e1, e2, e3]; first | done | exact vp_nI (by omega) (by decide)) | exact vp_nI (by omega) (by decide) | fail)) | exact isB1 | exact isB0 | assumption | fail) | ((with_reducible apply lenA_of); first | exact Str.sh hS _ _ rfl | exact ss_hh hS (by omega) | assumption | fail) | with_reducible refine gN_of rfl ?_ | with_reducible refine gN_no rfl ?_ | ((with_reducible refine iF_t ?_ ?_); focus ((try simp (disch := omega) only [lit32, Nat.add_sub_cancel, Nat.sub_zero, Nat.reduceSub, nI_add, nI_muL, nI_sub, ix_nI, mI_s, mI_n, mI_fs, mI_fn, mI_ci, mI_co, mI_si, mI_so, Nat.add_zero, up_n, up_s, cpA_i, cpA_o, shA_i, shA_o, fiA_i, fiA_o, imin_l, imin_r, nI_mod, nI_div, xr_e, cn, cm, cr, ct, ch, p1, p2, p3, s4, s5, s6, s9, s11, s14, s15, s17, cb, cg, m1, m4, f5, f6, t1, t2, e1, e2, e3, lt_toInt, le_toInt, eq_toInt, toInt_nI, tI_neg, bt_e, tI_sub, tI_subR, tI_subL]); first | done | omega)) | ((with_reducible refine iF_f ?_ ?_); focus ((try simp (disch := omega) only [lit32, Nat.add_sub_cancel, Nat.sub_zero, Nat.reduceSub, nI_add, nI_muL, nI_sub, ix_nI, mI_s, mI_n, mI_fs, mI_fn, mI_ci, mI_co, mI_si, mI_so, Nat.add_zero, up_n, up_s, cpA_i, cpA_o, shA_i, shA_o, fiA_i, fiA_o, imin_l, imin_r, nI_mod, nI_div, xr_e, cn, cm, cr, ct, ch, p1, p2, p3, s4, s5, s6, s9, s11, s14, s15, s17, cb, cg, m1, m4, f5, f6, t1, t2, e1, e2, e3, lt_toInt, le_toInt, eq_toInt, toInt_nI, tI_neg, bt_e, tI_sub, tI_subR, tI_subL]); first | done | omega)) | fail)
  refine h _ (by exact hS) ?_
  have eJ : M1.2.1 = M.2.1 := congrArg (fun x => x.1) q1
  have eS : M1.2.2.2 = M.2.2.2 := congrArg (fun x => x.2.2) q1
  have eP : ∀ r j, mP M1 r j = mP M r j := fun r j => by unfold mP; rw [q1]
  have eN : ∀ r, (r < 28 + 10 ∨ 28 + 17 < r) → ∀ j, mI M1 r j = mI M r j := fun r hr j => q2 r (fun i _ _ => by omega) j
  refine ⟨e2.trans eJ, e3.trans eS, fun i hi => (e4 i (by omega) hi).trans (eP _ _), fun r j hr => (e5 r j (Or.inl hr)).trans (eP _ _), fun r hr j => ?_, ?_, fun j hj => ⟨?_, ?_, ?_⟩, fun j hj => ?_, fun j hj => ?_, fun j hj => ?_, fun j hj => ?_, fun i hi => ?_⟩
  · simp (disch := omega) only [mI_s, mI_n, mI_ci, mI_co, eI, eN, Nat.sub_zero, Nat.zero_add]
  · rintro f (rfl | rfl | rfl | rfl | rfl | rfl | rfl | rfl | rfl) <;> simp (disch := omega) only [mI_s, mI_n, mI_ci, mI_co, eI, eN, Nat.sub_zero, Nat.zero_add]
  · simp (disch := omega) only [mI_s, mI_n, mI_ci, mI_co, eI, eN, Nat.sub_zero, Nat.zero_add]
  · simp (disch := omega) only [mI_s, mI_n, mI_ci, mI_co, eI, eN, Nat.sub_zero, Nat.zero_add]
  · simp (disch := omega) only [mI_s, mI_n, mI_ci, mI_co, eI, eN, Nat.sub_zero, Nat.zero_add]
  · simp (disch := omega) only [mI_s, mI_n, mI_ci, mI_co, eI, eN, Nat.sub_zero, Nat.zero_add]
  · simp (disch := omega) only [mI_s, mI_n, mI_ci, mI_co, eI, eN, Nat.sub_zero, Nat.zero_add]
  · simp (disch := omega) only [mI_s, mI_n, mI_ci, mI_co, eI, eN, Nat.sub_zero, Nat.zero_add]
  · simp (disch := omega) only [mI_s, mI_n, mI_ci, mI_co, eI, eN, Nat.sub_zero, Nat.zero_add]
  · have q4 := q3 i (by omega) hi
    simp (disch := omega) only [mI_n, mI_co, eI]
    exact q4
theorem c_bh10_l {L : Nat} {φ : fM → Prop} : ∀ (m k : Nat) (M : fM), Str L M → k + m = 4 → (∀ i, i < 4 → isB (mI M (28 + 10 + 2 * i) 4)) → (∀ M2, HsEq 10 28 k M M2 → ∀ K, b_X5_become_2 K φ 10 28 (nI 4) M2) → l_X5_become_2 φ (m + 1) 10 28 (nI k) M := by
  intro m
  induction m with
  | zero =>
    intro k M hS hk hb h
    obtain rfl : k = 4 := by omega
    exact h M ⟨rfl, fun r _ j => rfl, fun i q1 q2 => by omega⟩ _
  | succ m ih =>
    intro k M hS hk hb h
    have hk4 : k < 4 := by omega
    show b_X5_become_2 (l_X5_become_2 φ (m + 1)) φ 10 28 (nI k) M
    generalize l_X5_become_2 φ (m + 1) = K at ih ⊢
    refine iF_f (fun c => absurd ((nIle (a := 4) (by omega) (by omega)).mp c) (by omega)) ⟨isO_pt hS (by decide) rfl, c_hO10 hS hk4 ⟨isO_pt hS (by decide) rfl, c_hO28 hS hk4 ?_⟩⟩
    refine gN_of rfl (gN_of rfl ⟨isO_of (by omega) (ss_hs hS hk4), ?_⟩)
    refine c_hbec (isO_of (by omega) (ss_hs hS hk4)) (isO_of (by omega) (ss_ks hS hk4)) (sp_hh hS hk4) (sp_kh hS hk4) (ss_hh hS hk4) (ss_kh hS hk4) (by omega) (by omega) (by omega) (by omega) (hb k hk4) (nm_of ?_)
    rw [lit32, nI_add]
    refine ih (k + 1) _ (by exact hS) (by omega) (fun i hi => ?_) fun M2 h2 => ?_
    · rw [mI_n (by omega), mI_n (by omega), mI_n (by omega), mI_co (by omega), mI_n (by omega)]
      exact hb i hi
    · obtain ⟨q1, q2, q3⟩ := h2
      refine h M2 ⟨q1, fun r hr j => ?_, fun i hi1 hi2 => ?_⟩
      · obtain ⟨g1, g2⟩ := hr k (Nat.le_refl k) hk4
        rw [q2 r (fun i hi1 hi2 => hr i (by omega) hi2), mI_n (by omega), mI_n (by omega), mI_n (by omega), mI_co (by omega), mI_n (by omega)]
      · by_cases e : i = k
        · subst e
          have q4 : ∀ r, r = 10 + 10 + 2 * i ∨ r = 10 + 11 + 2 * i → ∀ j, mI M2 r j = _ := fun r hr j => q2 r (fun i' h1 h2 => by omega) j
          rw [q4 _ (by omega), q4 _ (by omega), q4 _ (by omega), q4 _ (by omega)]
          refine ⟨?_, ?_, ?_, ?_, fun j hj => ?_⟩
          · simp (disch := omega) only [mI_n, mI_co, mI_s]
          · simp (disch := omega) only [mI_n, mI_co, mI_s]
          · simp (disch := omega) only [mI_n, mI_co, mI_s]
          · simp (disch := omega) only [mI_n, mI_co, mI_s]
          · rw [q4 _ (by omega), mI_n (by omega), mI_n (by omega), mI_n (by omega), mI_ci (by omega) (by omega) (by omega), mI_n (by omega)]
            congr 1
            omega
        · obtain ⟨c1, c2, c3, c4, c5⟩ := q3 i (by omega) hi2
          have q5 : ∀ r, r = 28 + 10 + 2 * i ∨ r = 28 + 11 + 2 * i → ∀ j, mI (wI (wI (wI (cpI (wI M (20 + 2 * k) 0 (mI M (38 + 2 * k) 0)) (39 + 2 * k) (21 + 2 * k) 0 0 15) (20 + 2 * k) 2 (mI M (38 + 2 * k) 2)) (20 + 2 * k) 3 (mI M (38 + 2 * k) 3)) (20 + 2 * k) 4 (mI M (38 + 2 * k) 4)) r j = mI M r j := fun r hr j => by
            rw [mI_n (by omega), mI_n (by omega), mI_n (by omega), mI_co (by omega), mI_n (by omega)]
          exact ⟨c1.trans (q5 _ (by omega) _), c2.trans (q5 _ (by omega) _), c3.trans (q5 _ (by omega) _), c4.trans (q5 _ (by omega) _), fun j hj => (c5 j hj).trans (q5 _ (by omega) _)⟩
theorem c_bt10_l {L : Nat} {φ : fM → Prop} : ∀ (m k : Nat) (M : fM), Str L M → k + m = 4 → (∀ i, i < 4 → ∀ y, mP M 36 i = some y → isO M y 8) → (∀ M2, M2.1 = M.1 → M2.2.1 = M.2.1 → M2.2.2.2 = M.2.2.2 → (∀ i, k ≤ i → i < 4 → mP M2 18 i = mP M 36 i) → (∀ r j, r ≠ 18 ∨ j < k ∨ 4 ≤ j → mP M2 r j = mP M r j) → j_X5_become_193 φ 10 28 M2) → l_X5_become_157 φ (m + 1) 10 28 (nI k) M := by
  intro m
  induction m with
  | zero =>
    intro k M hS hk hT h
    obtain rfl : k = 4 := by omega
    show b_X5_become_157 _ φ 10 28 (nI 4) M
    refine ⟨isO_pt hS (by decide) rfl, dR_of (Str.pg hS rfl) (lenA_of (Str.sh hS _ _ rfl) (iF_t ((nIle (by omega) (by omega)).mpr (by omega)) (h M rfl rfl rfl (fun i q1 q2 => by omega) fun r j _ => rfl)))⟩
  | succ m ih =>
    intro k M hS hk hT h
    show b_X5_become_157 (l_X5_become_157 φ (m + 1)) φ 10 28 (nI k) M
    generalize l_X5_become_157 φ (m + 1) = K at ih ⊢
    refine ⟨isO_pt hS (by decide) rfl, dR_of (Str.pg hS rfl) (lenA_of (Str.sh hS _ _ rfl) (iF_f (fun c => absurd ((nIle (by omega) (by omega)).mp c) (by omega)) ⟨isO_pt hS (by decide) rfl, dR_of (Str.pg hS rfl) (lenA_of (Str.sh hS _ _ rfl) (iF_f (fun c => absurd ((nIle (by omega) (by omega)).mp c) (by omega)) (dR_of (Str.pg hS rfl) (dR_of (Str.pg hS rfl) ⟨inA_pt hS rfl (vp_nI (by omega) (by decide)), nm_of ⟨by omega, inA_pt hS rfl (vp_nI (by omega) (by decide)), fun y e => ?_, st_of (nm_of ?_)⟩⟩))))⟩))⟩
    · rw [ix_nI (by omega)] at e
      exact hT k (by omega) y e
    · rw [lit32, nI_add, ix_nI (by omega)]
      refine ih (k + 1) _ (Str.pw (M := M) rfl (fun r j q1 q2 => by rw [mP_wP, if_neg (by omega)]) hS) (by omega) (fun i hi y e => ?_) fun M2 e1 e2 e3 e4 e5 => ?_
      · rw [mP_wP, if_neg (by omega)] at e
        exact hT i hi y e
      · refine h M2 e1 e2 e3 (fun i q1 q2 => ?_) (fun r j q => ?_)
        · by_cases e : i = k
          · subst e
            rw [e5 _ _ (by omega), mP_wP, if_pos ⟨rfl, rfl⟩]
          · rw [e4 i (by omega) q2, mP_wP, if_neg (by omega)]
        · rw [e5 r j (by omega), mP_wP, if_neg (by omega)]
theorem c_become10 {L nx : Nat} {A : Nat → Nat} {M : fM} {φ : fM → Prop} (hS : Str L M) (hC : Cls M 28 A nx) (hT : ∀ i, i < 4 → ∀ y, mP M 36 i = some y → isO M y 8) (h : ∀ M2, Str L M2 → Bec 10 28 M M2 → φ M2) : w_X5_become 10 28 M φ := by
  have cn : 0 + 0 = 0 := rfl; have cm : 0 + 0 = 0 := rfl; have cr : 0 + 0 = 0 := rfl; have ct : 0 + 0 = 0 := rfl; have ch : 0 + 0 = 0 := rfl; have p1 : 0 + 0 = 0 := rfl; have p2 : 0 + 0 = 0 := rfl; have p3 : 0 + 0 = 0 := rfl; have s4 : 0 + 0 = 0 := rfl; have s5 : 0 + 0 = 0 := rfl; have s6 : 0 + 0 = 0 := rfl; have s9 : 0 + 0 = 0 := rfl; have s11 : 0 + 0 = 0 := rfl; have s14 : 0 + 0 = 0 := rfl; have s15 : 0 + 0 = 0 := rfl; have s17 : 0 + 0 = 0 := rfl; have cb : 0 + 0 = 0 := rfl; have cg : 0 + 0 = 0 := rfl; have m1 : 0 + 0 = 0 := rfl; have m4 : 0 + 0 = 0 := rfl; have f5 : 0 + 0 = 0 := rfl; have f6 : 0 + 0 = 0 := rfl; have t1 : 0 + 0 = 0 := rfl; have t2 : 0 + 0 = 0 := rfl; have e1 : 0 + 0 = 0 := rfl; have e2 : 0 + 0 = 0 := rfl; have e3 : 0 + 0 = 0 := rfl
  refine ⟨5, c_bh10_l 4 0 M hS rfl (fun i hi => ?_) fun M1 h1 K => ?_⟩
  · rw [(hC.1 i hi).2.2.2.1]
    have hb : A 7 / 2 ^ i % 2 = 0 ∨ A 7 / 2 ^ i % 2 = 1 := by omega
    rcases hb with hb | hb
    · rw [hb]; rfl
    · rw [hb]; rfl
  obtain ⟨q1, q2, q3⟩ := h1
  have hS1 : Str L M1 := by unfold Str; rw [q1]; exact hS
  have hT1 : ∀ i, i < 4 → ∀ y, mP M1 36 i = some y → isO M1 y 8 := fun i hi y e => by
    unfold mP at e
    rw [q1] at e
    have q := hT i hi y e
    unfold isO mS at q ⊢
    rw [q1]
    exact q
  clear hS hT
  have hS := hS1
  unfold b_X5_become_2
  repeat' (first | ((with_reducible refine c_copy (n := 6) ?_ ?_ ?_ ?_ ?_ ?_); omega; omega; omega; exact Str.sh hS _ _ rfl; exact Str.sh hS _ _ rfl) | ((with_reducible refine c_copy (n := 8) ?_ ?_ ?_ ?_ ?_ ?_); omega; omega; omega; exact Str.sh hS _ _ rfl; exact Str.sh hS _ _ rfl) | ((with_reducible refine c_copy (n := 2048) ?_ ?_ ?_ ?_ ?_ ?_); omega; omega; omega; exact Str.sh hS _ _ rfl; exact Str.sh hS _ _ rfl) | ((with_reducible refine c_copy (n := 330) ?_ ?_ ?_ ?_ ?_ ?_); omega; omega; omega; exact Str.sh hS _ _ rfl; exact Str.sh hS _ _ rfl) | ((with_reducible refine c_fil_hh (L := L) ?_ ?_ ?_); (exact hS); omega) | ((with_reducible refine c_build (L := L) ?_ ?_ ?_); (exact hS); omega) | with_reducible refine nm_of ?_ | with_reducible refine st_of ?_ | ((with_reducible apply dR_of); first | exact Str.pg hS rfl | exact sp_hsx hS (by omega) | exact sp_hs hS (by omega) | exact sp_hh hS (by omega) | assumption | fail) | ((with_reducible refine And.intro ?_ ?_); first | exact isO_pt hS (by decide) rfl | exact inA_pt hS rfl (by (first | exact vp_lit (by decide) | (simp (disch := omega) only [lit32, Nat.add_sub_cancel, Nat.sub_zero, Nat.reduceSub, nI_add, nI_muL, nI_sub, ix_nI, mI_s, mI_n, mI_fs, mI_fn, mI_ci, mI_co, mI_si, mI_so, Nat.add_zero, up_n, up_s, cpA_i, cpA_o, shA_i, shA_o, fiA_i, fiA_o, imin_l, imin_r, nI_mod, nI_div, xr_e, cn, cm, cr, ct, ch, p1, p2, p3, s4, s5, s6, s9, s11, s14, s15, s17, cb, cg, m1, m4, f5, f6, t1, t2, e1, e2, e3]; first | done | exact vp_nI (by omega) (by decide)) | exact vp_nI (by omega) (by decide) | fail)) | omega | exact isO_hs hS (by omega) | exact inA_hh hS (by omega) (by (first | exact vp_lit (by decide) | (simp (disch := omega) only [lit32, Nat.add_sub_cancel, Nat.sub_zero, Nat.reduceSub, nI_add, nI_muL, nI_sub, ix_nI, mI_s, mI_n, mI_fs, mI_fn, mI_ci, mI_co, mI_si, mI_so, Nat.add_zero, up_n, up_s, cpA_i, cpA_o, shA_i, shA_o, fiA_i, fiA_o, imin_l, imin_r, nI_mod, nI_div, xr_e, cn, cm, cr, ct, ch, p1, p2, p3, s4, s5, s6, s9, s11, s14, s15, s17, cb, cg, m1, m4, f5, f6, t1, t2, e1, e2, e3]; first | done | exact vp_nI (by omega) (by decide)) | exact vp_nI (by omega) (by decide) | fail)) | exact isB1 | exact isB0 | assumption | fail) | ((with_reducible apply lenA_of); first | exact Str.sh hS _ _ rfl | exact ss_hh hS (by omega) | assumption | fail) | with_reducible refine gN_of rfl ?_ | with_reducible refine gN_no rfl ?_ | ((with_reducible refine iF_t ?_ ?_); focus ((try simp (disch := omega) only [lit32, Nat.add_sub_cancel, Nat.sub_zero, Nat.reduceSub, nI_add, nI_muL, nI_sub, ix_nI, mI_s, mI_n, mI_fs, mI_fn, mI_ci, mI_co, mI_si, mI_so, Nat.add_zero, up_n, up_s, cpA_i, cpA_o, shA_i, shA_o, fiA_i, fiA_o, imin_l, imin_r, nI_mod, nI_div, xr_e, cn, cm, cr, ct, ch, p1, p2, p3, s4, s5, s6, s9, s11, s14, s15, s17, cb, cg, m1, m4, f5, f6, t1, t2, e1, e2, e3, lt_toInt, le_toInt, eq_toInt, toInt_nI, tI_neg, bt_e, tI_sub, tI_subR, tI_subL]); first | done | omega)) | ((with_reducible refine iF_f ?_ ?_); focus ((try simp (disch := omega) only [lit32, Nat.add_sub_cancel, Nat.sub_zero, Nat.reduceSub, nI_add, nI_muL, nI_sub, ix_nI, mI_s, mI_n, mI_fs, mI_fn, mI_ci, mI_co, mI_si, mI_so, Nat.add_zero, up_n, up_s, cpA_i, cpA_o, shA_i, shA_o, fiA_i, fiA_o, imin_l, imin_r, nI_mod, nI_div, xr_e, cn, cm, cr, ct, ch, p1, p2, p3, s4, s5, s6, s9, s11, s14, s15, s17, cb, cg, m1, m4, f5, f6, t1, t2, e1, e2, e3, lt_toInt, le_toInt, eq_toInt, toInt_nI, tI_neg, bt_e, tI_sub, tI_subR, tI_subL]); first | done | omega)) | fail)
  refine ⟨5, c_bt10_l 4 0 _ (by exact hS) rfl (by exact hT1) fun M2 e1 e2 e3 e4 e5 => ?_⟩
  have hS2 : Str L M2 := hS.pw e3 fun r j g1 g2 => e5 r j (by omega)
  have eI : ∀ r j, mI M2 r j = mI _ r j := fun r j => congrFun (congrFun e1 r) j
  have hS0 := hS
  clear hS
  have hS := hS2
  unfold j_X5_become_193
  repeat' (first | ((with_reducible refine c_copy (n := 48) ?_ ?_ ?_ ?_ ?_ ?_); omega; omega; omega; exact Str.sh hS _ _ rfl; exact Str.sh hS _ _ rfl) | ((with_reducible refine c_fil_hh (L := L) ?_ ?_ ?_); (exact hS); omega) | ((with_reducible refine c_build (L := L) ?_ ?_ ?_); (exact hS); omega) | with_reducible refine nm_of ?_ | with_reducible refine st_of ?_ | ((with_reducible apply dR_of); first | exact Str.pg hS rfl | exact sp_hsx hS (by omega) | exact sp_hs hS (by omega) | exact sp_hh hS (by omega) | assumption | fail) | ((with_reducible refine And.intro ?_ ?_); first | exact isO_pt hS (by decide) rfl | exact inA_pt hS rfl (by (first | exact vp_lit (by decide) | (simp (disch := omega) only [lit32, Nat.add_sub_cancel, Nat.sub_zero, Nat.reduceSub, nI_add, nI_muL, nI_sub, ix_nI, mI_s, mI_n, mI_fs, mI_fn, mI_ci, mI_co, mI_si, mI_so, Nat.add_zero, up_n, up_s, cpA_i, cpA_o, shA_i, shA_o, fiA_i, fiA_o, imin_l, imin_r, nI_mod, nI_div, xr_e, cn, cm, cr, ct, ch, p1, p2, p3, s4, s5, s6, s9, s11, s14, s15, s17, cb, cg, m1, m4, f5, f6, t1, t2, e1, e2, e3]; first | done | exact vp_nI (by omega) (by decide)) | exact vp_nI (by omega) (by decide) | fail)) | omega | exact isO_hs hS (by omega) | exact inA_hh hS (by omega) (by (first | exact vp_lit (by decide) | (simp (disch := omega) only [lit32, Nat.add_sub_cancel, Nat.sub_zero, Nat.reduceSub, nI_add, nI_muL, nI_sub, ix_nI, mI_s, mI_n, mI_fs, mI_fn, mI_ci, mI_co, mI_si, mI_so, Nat.add_zero, up_n, up_s, cpA_i, cpA_o, shA_i, shA_o, fiA_i, fiA_o, imin_l, imin_r, nI_mod, nI_div, xr_e, cn, cm, cr, ct, ch, p1, p2, p3, s4, s5, s6, s9, s11, s14, s15, s17, cb, cg, m1, m4, f5, f6, t1, t2, e1, e2, e3]; first | done | exact vp_nI (by omega) (by decide)) | exact vp_nI (by omega) (by decide) | fail)) | exact isB1 | exact isB0 | assumption | fail) | ((with_reducible apply lenA_of); first | exact Str.sh hS _ _ rfl | exact ss_hh hS (by omega) | assumption | fail) | with_reducible refine gN_of rfl ?_ | with_reducible refine gN_no rfl ?_ | ((with_reducible refine iF_t ?_ ?_); focus ((try simp (disch := omega) only [lit32, Nat.add_sub_cancel, Nat.sub_zero, Nat.reduceSub, nI_add, nI_muL, nI_sub, ix_nI, mI_s, mI_n, mI_fs, mI_fn, mI_ci, mI_co, mI_si, mI_so, Nat.add_zero, up_n, up_s, cpA_i, cpA_o, shA_i, shA_o, fiA_i, fiA_o, imin_l, imin_r, nI_mod, nI_div, xr_e, cn, cm, cr, ct, ch, p1, p2, p3, s4, s5, s6, s9, s11, s14, s15, s17, cb, cg, m1, m4, f5, f6, t1, t2, e1, e2, e3, lt_toInt, le_toInt, eq_toInt, toInt_nI, tI_neg, bt_e, tI_sub, tI_subR, tI_subL]); first | done | omega)) | ((with_reducible refine iF_f ?_ ?_); focus ((try simp (disch := omega) only [lit32, Nat.add_sub_cancel, Nat.sub_zero, Nat.reduceSub, nI_add, nI_muL, nI_sub, ix_nI, mI_s, mI_n, mI_fs, mI_fn, mI_ci, mI_co, mI_si, mI_so, Nat.add_zero, up_n, up_s, cpA_i, cpA_o, shA_i, shA_o, fiA_i, fiA_o, imin_l, imin_r, nI_mod, nI_div, xr_e, cn, cm, cr, ct, ch, p1, p2, p3, s4, s5, s6, s9, s11, s14, s15, s17, cb, cg, m1, m4, f5, f6, t1, t2, e1, e2, e3, lt_toInt, le_toInt, eq_toInt, toInt_nI, tI_neg, bt_e, tI_sub, tI_subR, tI_subL]); first | done | omega)) | fail)
  refine h _ (by exact hS) ?_
  have eJ : M1.2.1 = M.2.1 := congrArg (fun x => x.1) q1
  have eS : M1.2.2.2 = M.2.2.2 := congrArg (fun x => x.2.2) q1
  have eP : ∀ r j, mP M1 r j = mP M r j := fun r j => by unfold mP; rw [q1]
  have eN : ∀ r, (r < 10 + 10 ∨ 10 + 17 < r) → ∀ j, mI M1 r j = mI M r j := fun r hr j => q2 r (fun i _ _ => by omega) j
  refine ⟨e2.trans eJ, e3.trans eS, fun i hi => (e4 i (by omega) hi).trans (eP _ _), fun r j hr => (e5 r j (Or.inl hr)).trans (eP _ _), fun r hr j => ?_, ?_, fun j hj => ⟨?_, ?_, ?_⟩, fun j hj => ?_, fun j hj => ?_, fun j hj => ?_, fun j hj => ?_, fun i hi => ?_⟩
  · simp (disch := omega) only [mI_s, mI_n, mI_ci, mI_co, eI, eN, Nat.sub_zero, Nat.zero_add]
  · rintro f (rfl | rfl | rfl | rfl | rfl | rfl | rfl | rfl | rfl) <;> simp (disch := omega) only [mI_s, mI_n, mI_ci, mI_co, eI, eN, Nat.sub_zero, Nat.zero_add]
  · simp (disch := omega) only [mI_s, mI_n, mI_ci, mI_co, eI, eN, Nat.sub_zero, Nat.zero_add]
  · simp (disch := omega) only [mI_s, mI_n, mI_ci, mI_co, eI, eN, Nat.sub_zero, Nat.zero_add]
  · simp (disch := omega) only [mI_s, mI_n, mI_ci, mI_co, eI, eN, Nat.sub_zero, Nat.zero_add]
  · simp (disch := omega) only [mI_s, mI_n, mI_ci, mI_co, eI, eN, Nat.sub_zero, Nat.zero_add]
  · simp (disch := omega) only [mI_s, mI_n, mI_ci, mI_co, eI, eN, Nat.sub_zero, Nat.zero_add]
  · simp (disch := omega) only [mI_s, mI_n, mI_ci, mI_co, eI, eN, Nat.sub_zero, Nat.zero_add]
  · simp (disch := omega) only [mI_s, mI_n, mI_ci, mI_co, eI, eN, Nat.sub_zero, Nat.zero_add]
  · have q4 := q3 i (by omega) hi
    simp (disch := omega) only [mI_n, mI_co, eI]
    exact q4
