/-! ===== WHICH ===== -/
theorem told_h : ∀ t, t < 16 → ∀ k, k < 4 → ((nI t >>> (nI k &&& 31)) &&& (1 : Int32)) = nI (t / 2 ^ k % 2) := by decide +kernel
def toB (A : Nat → Nat) (k : Nat) : Nat := A 7 / 2 ^ k % 2
theorem toB_01 (A : Nat → Nat) (k : Nat) : toB A k = 0 ∨ toB A k = 1 := by
  have := Nat.mod_lt (A 7 / 2 ^ k) (show 0 < 2 by omega)
  unfold toB
  omega
def wcF (tx : Nat → Int32) (A : Nat → Nat) (p c : Nat) : Nat → Nat := fun k => if toB A k = 1 then jrV tx A p k c (10 - A (82 + 3 * p + 2)) else 0
def wiF (tx : Nat → Int32) (A : Nat → Nat) (p c h : Nat) (i : Nat) : Nat := if h < i then jrV tx A p h c (10 - A (82 + 3 * p + 2)) else 0
theorem wcF_b {B p : Nat} {A : Nat → Nat} (hO : Okk B A) (hp : p < A 0) (tx : Nat → Int32) (c : Nat) : ∀ m, m ≤ 4 → smN (wcF tx A p c) m ≤ m * 1000000000000000
  | 0, _ => Nat.zero_le _
  | m + 1, h => by
    have ih := wcF_b hO hp tx c m (by omega)
    have q := jrV_b hO hp (show m < 4 by omega) tx c (10 - A (82 + 3 * p + 2)) (Nat.le_refl _)
    rw [smN_s, Nat.succ_mul]
    have e : wcF tx A p c m ≤ 1000000000000000 := by
      unfold wcF
      split
      · exact q
      · omega
    omega
def wcV (tx : Nat → Int32) (A : Nat → Nat) (p c h : Nat) (low : Int32) : Int64 := if smN (wcF tx A p c) 4 = 0 then (if low = 0 then 0 else 1) else jN (ptN (jrV tx A p h c (10 - A (82 + 3 * p + 2))) (smN (wcF tx A p c) 4) low)
theorem c_wc_l {L B nx p c h : Nat} {X : Nat → Int32} {tx : Nat → Int32} {A : Nat → Nat} {low : Int32} {φ : Int64 → fM → Prop} (hO : Okk B A) (hp : p < A 0) (hh : h < 4) (hc : c < 30) (htl : toB A h = 1) : ∀ (j i : Nat) (M : fM), i + j = 4 → Str L M → Sts X M → Cls M 10 A nx → (∀ i, i < A 3 → TxR M 18 i) → mI M 73 = tx → (∀ M2, Frm scr M M2 → φ (wcV tx A p c h low) M2) → l_X3_oddsOfHouse_57 φ (j + 1) 58 (nI p) (nI c) (nI h) low (jN (smN (wcF tx A p c) i)) (jN (wiF tx A p c h i)) (nI i) M := by
  have o0 := hO.1.1
  have o5 := hO.1.2.2.2.2.2.1
  have hpb := (hO.2.2.1 p hp).2
  intro j
  induction j with
  | zero =>
    intro i M hi hS hX hC hT h73 hz
    obtain rfl : i = 4 := by omega
    have b1 := wcF_b hO hp tx c 4 (by omega)
    have b2 := jrV_b hO hp hh tx c (10 - A (82 + 3 * p + 2)) (Nat.le_refl _)
    have q1 := hz M Frm.rf
    unfold wcV at q1
    have ei : wiF tx A p c h 4 = jrV tx A p h c (10 - A (82 + 3 * p + 2)) := if_pos hh
    rw [ei]
    refine iF_t (by decide) ?_
    by_cases q : smN (wcF tx A p c) 4 = 0
    · rw [if_pos q] at q1
      refine iF_t ((lg_0 (by omega)).mpr q) (c_part (a := 0) (b := 1) (by omega) (by omega) (by omega) ?_)
      have e : jN (ptN 0 1 low) = if low = 0 then 0 else 1 := by
        unfold ptN
        split <;> rfl
      rw [e]
      exact q1
    · rw [if_neg q] at q1
      exact iF_f (fun z => q ((lg_0 (by omega)).mp z)) (c_part (by omega) (by omega) (by omega) q1)
  | succ j ih =>
    intro i M hi hS hX hC hT h73 hz
    have hi4 : i < 4 := by omega
    show b_X3_oddsOfHouse_57 (l_X3_oddsOfHouse_57 φ (j + 1)) φ 58 (nI p) (nI c) (nI h) low (jN (smN (wcF tx A p c) i)) (jN (wiF tx A p c h i)) (nI i) M
    generalize hK : l_X3_oddsOfHouse_57 φ (j + 1) = K at ih ⊢
    obtain ⟨cn, cm, cr, ct, ch, -⟩ := hC.f
    have e1 : nI i + (1 : Int32) = nI (i + 1) := nI_add _ 1
    refine iF_f (fun q => absurd ((nIle (a := 4) (by omega) (by omega)).mp q) (by omega)) ⟨isO_pt hS (by decide) rfl, dR_of (Str.pg hS rfl) ⟨isO_pt hS (by decide) rfl, c_hO10 hS hi4 (gN_of rfl ⟨isO_hs hS hi4, ?_⟩)⟩⟩
    rw [ct i hi4, e1]
    have go : ∀ (M2 : fM) (x y : Nat), Frm scr M M2 → x = smN (wcF tx A p c) (i + 1) → y = wiF tx A p c h (i + 1) → K 58 (nI p) (nI c) (nI h) low (jN x) (jN y) (nI (i + 1)) M2 := by
      intro M2 x y f hx hy
      subst hx hy
      exact ih (i + 1) M2 (by omega) (f.S hS) (f.sc.cX hX) (f.sC o5 hC) (fun k hk => f.sc.cT (hT k hk)) ((f.sc.c73).trans h73) fun M3 f3 => hz M3 (f.tr f3)
    rcases toB_01 A i with e | e
    · rw [show A 7 / 2 ^ i % 2 = 0 from e]
      have hne : h ≠ i := fun z => by rw [z] at htl; omega
      refine iF_t rfl (nm_of (go M _ _ Frm.rf ?_ ?_))
      · rw [smN_s]
        unfold wcF
        rw [if_neg (show ¬ toB A i = 1 by omega)]
        rfl
      · unfold wiF
        by_cases z : h < i
        · rw [if_pos z, if_pos (by omega)]
        · rw [if_neg z, if_neg (by omega)]
    · rw [show A 7 / 2 ^ i % 2 = 1 from e]
      obtain ⟨hn1, hn, -⟩ := hO.2.1 i hi4
      refine iF_f (by decide) ⟨isO_pt hS (by decide) rfl, c_look hS hC hO hT (fun bad => absurd (gd_3 o0 rfl rfl (show (0 : Int32) = nI 0 from rfl) hp hi4 (by omega)) bad) (fun p' h' kd hp' hh' hkd ea eb ec M1 f1 lk => ?_)⟩
      have ep := nI_inj (by omega) (by omega) ea
      have eh := nI_inj (by omega) (by omega) eb
      have ek := nI_inj (a := 0) (by omega) (by omega) ec
      subst ep eh ek
      rw [h73] at lk
      have hS1 := f1.S hS
      refine iF_f (by decide) ⟨isO_pt hS1 (by decide) rfl, c_spread hS1 lk hpb hn1 hn (by omega) (vT_b _ _ _ _ _) fun M2 f2 hG2 => ?_⟩
      have fa := f1.tr f2.f
      have hS2 := f2.S hS1
      have hX2 := fa.sc.cX hX
      have lk2 := lk.j f2
      have hs : smN (wcF tx A p c) i + jrV tx A p i c (10 - A (82 + 3 * p + 2)) = smN (wcF tx A p c) (i + 1) := by
        rw [smN_s]
        unfold wcF
        rw [if_pos e]
      refine ⟨isO_pt hS2 (by decide) rfl, c_jar (w := wwV tx A p i 0 (A (10 + 18 * i + 1)) (10 - A (82 + 3 * p + 2))) hS2 hX2 lk2 hG2 rfl hn (by omega) (nm_of ?_)⟩
      by_cases z : i = h
      · refine iF_t (by rw [z]) ⟨isO_pt hS2 (by decide) rfl, c_jar (w := wwV tx A p i 0 (A (10 + 18 * i + 1)) (10 - A (82 + 3 * p + 2))) hS2 hX2 lk2 hG2 rfl hn (by omega) (nm_of (nm_of ?_))⟩
        rw [jN_add, jN_add]
        refine go M2 _ _ fa hs ?_
        unfold wiF
        rw [if_neg (by omega), if_pos (by omega), Nat.zero_add, ← z]
        rfl
      · refine iF_f (fun q => z (nI_inj (by omega) (by omega) q)) (nm_of (nm_of ?_))
        rw [jN_add, show jN (wiF tx A p c h i) + (0 : Int64) = jN (wiF tx A p c h i) from jN_add _ 0]
        refine go M2 _ _ fa hs ?_
        unfold wiF
        by_cases z2 : h < i
        · rw [if_pos z2, if_pos (by omega)]
        · rw [if_neg z2, if_neg (by omega)]
theorem m_wc_l {L B p c h : Nat} {tx : Nat → Int32} {A : Nat → Nat} {low : Int32} {φ : Int64 → fM → Prop} (hO : Okk B A) (hp : p < A 0) (hh : h < 4) (hc : c < 30) (htl : toB A h = 1) : ∀ (j i : Nat) (M : fM), i + j = 4 → Str L M → Mdl M 71 A → TrM M (A 4) → mI M 73 = tx → (∀ M2, Frm scr M M2 → φ (wcV tx A p c h low) M2) → l_X11_which_49 φ (j + 1) 70 (nI p) (nI c) (nI h) low (jN (smN (wcF tx A p c) i)) (nI i) M := by
  obtain ⟨o0, o1, o2, o3, o4, o5, o6, o7, o8, o9⟩ := hO.1
  intro j
  induction j with
  | zero =>
    intro i M hi hS hM hT h73 hz
    obtain rfl : i = 4 := by omega
    have b1 := wcF_b hO hp tx c 4 (by omega)
    have b2 := jrV_b hO hp hh tx c (10 - A (82 + 3 * p + 2)) (Nat.le_refl _)
    have b3 : jrV tx A p h c (10 - A (82 + 3 * p + 2)) ≤ smN (wcF tx A p c) 4 := by
      have q := smN_g (f := wcF tx A p c) 4 hh
      unfold wcF at q ⊢
      rw [if_pos htl] at q
      exact q
    unfold wcV at hz
    refine iF_t (by decide) ?_
    by_cases q : smN (wcF tx A p c) 4 = 0
    · rw [if_pos q] at hz
      refine iF_t ((lg_0 (by omega)).mpr q) ?_
      by_cases z : low = 0
      · rw [if_pos z] at hz
        exact iF_t z (hz M Frm.rf)
      · rw [if_neg z] at hz
        exact iF_f z (hz M Frm.rf)
    · rw [if_neg q] at hz
      refine iF_f (fun z => q ((lg_0 (by omega)).mp z)) ⟨isO_pt hS (by decide) rfl, m_jarred (zf := 1) hS hM hO hT h73 rfl rfl rfl rfl hp hh hc (by omega) fun M2 f2 hM2 hT2 => ?_⟩
      rw [if_neg (by omega)]
      exact m_part (by omega) (by omega) (by omega) (hz M2 f2)
  | succ j ih =>
    intro i M hi hS hM hT h73 hz
    have hi4 : i < 4 := by omega
    show b_X11_which_49 (l_X11_which_49 φ (j + 1)) φ 70 (nI p) (nI c) (nI h) low (jN (smN (wcF tx A p c) i)) (nI i) M
    generalize hK : l_X11_which_49 φ (j + 1) = K at ih ⊢
    have e1 : nI i + (1 : Int32) = nI (i + 1) := nI_add _ 1
    refine iF_f (fun q => absurd ((nIle (a := 4) (by omega) (by omega)).mp q) (by omega)) ⟨isO_pt hS (by decide) rfl, dR_of (Str.pg hS rfl) ⟨inA_pt hS rfl (vp_lit (by decide)), ?_⟩⟩
    try rw [show ix (7 : Int32) = 7 from rfl]
    rw [hM.1 7 (by omega) (by omega), e1]
    unfold w_X11_has
    rw [told_h (A 7) (by omega) i hi4]
    rcases toB_01 A i with e | e
    · rw [show A 7 / 2 ^ i % 2 = 0 from e]
      refine iF_f (by decide) (iF_t rfl (nm_of ?_))
      have q := ih (i + 1) M (by omega) hS hM hT h73 hz
      rw [smN_s, show wcF tx A p c i = 0 by unfold wcF; rw [if_neg (show ¬ toB A i = 1 by omega)], Nat.add_zero] at q
      exact q
    · rw [show A 7 / 2 ^ i % 2 = 1 from e]
      refine iF_t rfl (iF_f (by decide) ⟨isO_pt hS (by decide) rfl, m_jarred (zf := 1) hS hM hO hT h73 rfl rfl rfl rfl hp hi4 hc (by omega) fun M2 f2 hM2 hT2 => nm_of (nm_of ?_)⟩)
      rw [if_neg (by omega), jN_add]
      have q := ih (i + 1) M2 (by omega) (f2.S hS) hM2 hT2 ((f2.sm.m73).trans h73) fun M3 f3 => hz M3 (f2.tr f3)
      rw [smN_s, show wcF tx A p c i = jrV tx A p i c (10 - A (82 + 3 * p + 2)) by unfold wcF; rw [if_pos e]] at q
      exact q
theorem k_which {L B : Nat} {X : Nat → Int32} {M : fM} {a b c d : Int32} {φ : Int64 → fM → Prop} (hI : Inv L X B M) (hz : ∀ v M1, Mid L X B (fun M φ => w_X11_which 70 a b c d M φ) v M1 → φ v M1) : w_X10_which 6 a b c d M φ := by
  obtain ⟨A, A', nx, nx', tl, tp, hI⟩ := hI
  obtain ⟨hS, hX, hC, hM, hK, hMK, hO, hO', hTp, hFl, hTx⟩ := id hI
  obtain ⟨cn, cm, cr, ct, ch, p1, p2, p3, s4, s5, s6, s9, s11, s14, s15, s17, cb, cg⟩ := hC.f
  obtain ⟨hH, hP, hSc, hW, hB, hG, hA⟩ := id hC
  obtain ⟨m1, m4⟩ := id hM
  obtain ⟨f5, f6⟩ := id hFl
  obtain ⟨t0, t1, t2, t3⟩ := id hTp
  have e1 : 0 + 0 = 0 := rfl
  have e2 : 0 + 0 = 0 := rfl
  have e3 : 0 + 0 = 0 := rfl
  obtain ⟨⟨o0, o1, o2, o3, o4, o5, o6, o7, o8, o9⟩, oH, oP, oW, oA, oG, oB⟩ := id hO
  refine ⟨isO_pt hS (by decide) rfl, dR_of (Str.pg hS rfl) ⟨isO_pt hS (by decide) rfl, ⟨isO_pt hS (by decide) rfl, dR_of (Str.pg hS rfl) ⟨isO_pt hS (by decide) rfl, ?_⟩⟩⟩⟩
  have no : ¬ (0 ≤ a.toInt ∧ a.toInt < A 0 ∧ 0 ≤ b.toInt ∧ b.toInt ≤ 29 ∧ ∃ h, h < 4 ∧ c = nI h ∧ toB A h = 1) → φ (-1) M := by
    intro bad
    refine mids hS hX hz Frm.rf fun Ψ hΨ => ?_
    have q := hΨ _ hI.inv
    show w_X11_which 70 a b c d _ _
    unfold w_X11_which w_X11_isPerson w_X11_isHouse w_X11_isIn
    repeat' (first | ((with_reducible refine c_fil_hh (L := L) ?_ ?_ ?_); (exact hS); omega) | ((with_reducible refine c_build (L := L) ?_ ?_ ?_); (exact hS); omega) | with_reducible refine nm_of ?_ | with_reducible refine st_of ?_ | ((with_reducible apply dR_of); first | exact Str.pg hS rfl | exact sp_hsx hS (by omega) | exact sp_hs hS (by omega) | exact sp_hh hS (by omega) | assumption | fail) | ((with_reducible refine And.intro ?_ ?_); first | exact isO_pt hS (by decide) rfl | exact inA_pt hS rfl (by (first | exact vp_lit (by decide) | (simp (disch := omega) only [lit32, Nat.add_sub_cancel, Nat.sub_zero, Nat.reduceSub, nI_add, nI_muL, nI_sub, ix_nI, mI_s, mI_n, mI_fs, mI_fn, mI_ci, mI_co, mI_si, mI_so, Nat.add_zero, up_n, up_s, cpA_i, cpA_o, shA_i, shA_o, fiA_i, fiA_o, imin_l, imin_r, nI_mod, nI_div, xr_e, cn, cm, cr, ct, ch, p1, p2, p3, s4, s5, s6, s9, s11, s14, s15, s17, cb, cg, m1, m4, f5, f6, t1, t2, e1, e2, e3]; first | done | exact vp_nI (by omega) (by decide)) | exact vp_nI (by omega) (by decide) | fail)) | omega | exact isO_hs hS (by omega) | exact inA_hh hS (by omega) (by (first | exact vp_lit (by decide) | (simp (disch := omega) only [lit32, Nat.add_sub_cancel, Nat.sub_zero, Nat.reduceSub, nI_add, nI_muL, nI_sub, ix_nI, mI_s, mI_n, mI_fs, mI_fn, mI_ci, mI_co, mI_si, mI_so, Nat.add_zero, up_n, up_s, cpA_i, cpA_o, shA_i, shA_o, fiA_i, fiA_o, imin_l, imin_r, nI_mod, nI_div, xr_e, cn, cm, cr, ct, ch, p1, p2, p3, s4, s5, s6, s9, s11, s14, s15, s17, cb, cg, m1, m4, f5, f6, t1, t2, e1, e2, e3]; first | done | exact vp_nI (by omega) (by decide)) | exact vp_nI (by omega) (by decide) | fail)) | exact isB1 | exact isB0 | assumption | fail) | ((with_reducible apply lenA_of); first | exact Str.sh hS _ _ rfl | exact ss_hh hS (by omega) | assumption | fail) | with_reducible refine gN_of rfl ?_ | with_reducible refine gN_no rfl ?_ | ((with_reducible refine iF_t ?_ ?_); focus ((try simp (disch := omega) only [lit32, Nat.add_sub_cancel, Nat.sub_zero, Nat.reduceSub, nI_add, nI_muL, nI_sub, ix_nI, mI_s, mI_n, mI_fs, mI_fn, mI_ci, mI_co, mI_si, mI_so, Nat.add_zero, up_n, up_s, cpA_i, cpA_o, shA_i, shA_o, fiA_i, fiA_o, imin_l, imin_r, nI_mod, nI_div, xr_e, cn, cm, cr, ct, ch, p1, p2, p3, s4, s5, s6, s9, s11, s14, s15, s17, cb, cg, m1, m4, f5, f6, t1, t2, e1, e2, e3, lt_toInt, le_toInt, eq_toInt, toInt_nI, tI_neg, bt_e, tI_sub, tI_subR, tI_subL]); first | done | omega)) | ((with_reducible refine iF_f ?_ ?_); focus ((try simp (disch := omega) only [lit32, Nat.add_sub_cancel, Nat.sub_zero, Nat.reduceSub, nI_add, nI_muL, nI_sub, ix_nI, mI_s, mI_n, mI_fs, mI_fn, mI_ci, mI_co, mI_si, mI_so, Nat.add_zero, up_n, up_s, cpA_i, cpA_o, shA_i, shA_o, fiA_i, fiA_o, imin_l, imin_r, nI_mod, nI_div, xr_e, cn, cm, cr, ct, ch, p1, p2, p3, s4, s5, s6, s9, s11, s14, s15, s17, cb, cg, m1, m4, f5, f6, t1, t2, e1, e2, e3, lt_toInt, le_toInt, eq_toInt, toInt_nI, tI_neg, bt_e, tI_sub, tI_subR, tI_subL]); first | done | omega)) | ((with_reducible refine iF_s (fun hc => ?_) (fun hc => ?_)) <;> (try simp (disch := omega) only [lit32, Nat.add_sub_cancel, Nat.sub_zero, Nat.reduceSub, nI_add, nI_muL, nI_sub, ix_nI, mI_s, mI_n, mI_fs, mI_fn, mI_ci, mI_co, mI_si, mI_so, Nat.add_zero, up_n, up_s, cpA_i, cpA_o, shA_i, shA_o, fiA_i, fiA_o, imin_l, imin_r, nI_mod, nI_div, xr_e, cn, cm, cr, ct, ch, p1, p2, p3, s4, s5, s6, s9, s11, s14, s15, s17, cb, cg, m1, m4, f5, f6, t1, t2, e1, e2, e3, lt_toInt, le_toInt, eq_toInt, toInt_nI, tI_neg, bt_e, tI_sub, tI_subR, tI_subL] at hc)) | fail)
    all_goals first | (exfalso; omega) | exact q | skip
    all_goals (obtain ⟨h, hh3, rfl⟩ := rgI (a := c) (n := 3) (by omega) (by omega))
    all_goals (have hh : h < 4 := by omega)
    all_goals (try rw [show ix (7 : Int32) = 7 from rfl])
    all_goals (try rw [hM.1 7 (by omega) (by omega)])
    all_goals unfold w_X11_has
    all_goals rw [told_h (A 7) (by omega) h hh]
    all_goals (rcases toB_01 A h with e | e)
    all_goals (rw [show A 7 / 2 ^ h % 2 = toB A h from rfl, e])
    all_goals first | exact iF_f (by decide) (iF_t rfl q) | (exfalso; exact bad ⟨by omega, by omega, by omega, by omega, h, hh, rfl, e⟩)
  rcases Decidable.em (0 ≤ c.toInt ∧ c.toInt ≤ (3 : Nat)) with hv | hv
  · obtain ⟨h, hh3, rfl⟩ := rgI hv.1 hv.2
    have hh : h < 4 := by omega
    refine c_hO10 hS hh (gN_of rfl ⟨isO_hs hS hh, ?_⟩)
    rw [ct h hh]
    rcases toB_01 A h with e | e
    · rw [show A 7 / 2 ^ h % 2 = 0 from e]
      refine iF_t rfl (no fun z => ?_)
      obtain ⟨-, -, -, -, h', hh', ec, e'⟩ := z
      have := nI_inj (by omega) (by omega) ec
      subst this
      omega
    · rw [show A 7 / 2 ^ h % 2 = 1 from e]
      refine iF_f (by decide) ?_
      rcases Decidable.em (0 ≤ b.toInt ∧ b.toInt ≤ (29 : Nat)) with hb | hb
      · obtain ⟨k, hk, rfl⟩ := rgI hb.1 hb.2
        refine iF_f (fun q => absurd ((nIlt (b := 0) (by omega) (by omega)).mp q) (by omega)) (iF_f (fun q => absurd ((nIle (a := 30) (by omega) (by omega)).mp q) (by omega)) ⟨isO_pt hS (by decide) rfl, dR_of (Str.pg hS rfl) ⟨isO_pt hS (by decide) rfl, ?_⟩⟩)
        rcases Decidable.em (0 ≤ a.toInt ∧ a.toInt < A 0) with ha | ha
        · obtain ⟨p, hp1, rfl⟩ := rgI (n := A 0) ha.1 (by omega)
          have hp : p < A 0 := by
            have q := ha.2
            rw [toInt_nI (by omega)] at q
            omega
          unfold w_X5_isPerson
          refine iF_f (fun q => absurd ((nIlt (b := 0) (by omega) (by omega)).mp q) (by omega)) ⟨isO_pt hS (by decide) rfl, ?_⟩
          rw [s4]
          refine iF_f (fun q => absurd ((nIle (by omega) (by omega)).mp q) (by omega)) (iF_f (by decide) ⟨5, c_wc_l (L := L) (B := B) (nx := nx) (X := X) (tx := mI M 73) hO hp hh (by omega) e 4 0 M rfl hS hX hC hTx.2.1 rfl fun M2 f2 => ?_⟩)
          refine mids hS hX hz f2 fun Ψ hΨ => ?_
          have hS2 := f2.S hS
          have hM2 := f2.sc.cM hM
          show w_X11_which 70 (nI p) (nI k) (nI h) d _ _
          unfold w_X11_which w_X11_isPerson
          refine ⟨isO_pt hS2 (by decide) rfl, isO_pt hS2 (by decide) rfl, dR_of (Str.pg hS2 rfl) ⟨inA_pt hS2 rfl (vp_lit (by decide)), ?_⟩⟩
          try rw [show ix (0 : Int32) = 0 from rfl]
          rw [hM2.1 0 (by omega) (by omega), show nI (A 0) - (1 : Int32) = nI (A 0 - 1) from nI_sub (b := 1) (by omega)]
          refine iF_f (fun q => absurd ((nIlt (b := 0) (by omega) (by omega)).mp q) (by omega)) (iF_f (fun q => absurd ((nIlt (by omega) (by omega)).mp q) (by omega)) ⟨isB1, iF_f (by decide) ?_⟩)
          refine iF_f (fun q => absurd ((nIlt (b := 0) (by omega) (by omega)).mp q) (by omega)) (iF_f (fun q => absurd ((nIlt (a := 29) (by omega) (by omega)).mp q) (by omega)) (iF_f (by decide) ?_))
          refine iF_f (fun q => absurd ((nIlt (b := 0) (by omega) (by omega)).mp q) (by omega)) (iF_f (fun q => absurd ((nIlt (a := 3) (by omega) (by omega)).mp q) (by omega)) ⟨isB1, iF_f (by decide) ⟨isO_pt hS2 (by decide) rfl, dR_of (Str.pg hS2 rfl) ⟨inA_pt hS2 rfl (vp_lit (by decide)), ?_⟩⟩⟩)
          try rw [show ix (7 : Int32) = 7 from rfl]
          rw [hM2.1 7 (by omega) (by omega)]
          unfold w_X11_has
          rw [told_h (A 7) (by omega) h hh, show A 7 / 2 ^ h % 2 = 1 from e]
          exact iF_t rfl (iF_f (by decide) ⟨5, m_wc_l (L := L) (tx := mI M 73) hO hp hh (by omega) e 4 0 M2 rfl hS2 hM2 (TrM.of o3 (fun i hi => f2.sc.cT (hTx.2.1 i hi)) o4) f2.sc.c73 fun M3 f3 => hΨ _ (hI.look f2 f3)⟩)
        · have q := no (fun z => ha ⟨z.1, z.2.1⟩)
          unfold w_X5_isPerson
          repeat' (first | ((with_reducible refine c_fil_hh (L := L) ?_ ?_ ?_); (exact hS); omega) | ((with_reducible refine c_build (L := L) ?_ ?_ ?_); (exact hS); omega) | with_reducible refine nm_of ?_ | with_reducible refine st_of ?_ | ((with_reducible apply dR_of); first | exact Str.pg hS rfl | exact sp_hsx hS (by omega) | exact sp_hs hS (by omega) | exact sp_hh hS (by omega) | assumption | fail) | ((with_reducible refine And.intro ?_ ?_); first | exact isO_pt hS (by decide) rfl | exact inA_pt hS rfl (by (first | exact vp_lit (by decide) | (simp (disch := omega) only [lit32, Nat.add_sub_cancel, Nat.sub_zero, Nat.reduceSub, nI_add, nI_muL, nI_sub, ix_nI, mI_s, mI_n, mI_fs, mI_fn, mI_ci, mI_co, mI_si, mI_so, Nat.add_zero, up_n, up_s, cpA_i, cpA_o, shA_i, shA_o, fiA_i, fiA_o, imin_l, imin_r, nI_mod, nI_div, xr_e, cn, cm, cr, ct, ch, p1, p2, p3, s4, s5, s6, s9, s11, s14, s15, s17, cb, cg, m1, m4, f5, f6, t1, t2, e1, e2, e3]; first | done | exact vp_nI (by omega) (by decide)) | exact vp_nI (by omega) (by decide) | fail)) | omega | exact isO_hs hS (by omega) | exact inA_hh hS (by omega) (by (first | exact vp_lit (by decide) | (simp (disch := omega) only [lit32, Nat.add_sub_cancel, Nat.sub_zero, Nat.reduceSub, nI_add, nI_muL, nI_sub, ix_nI, mI_s, mI_n, mI_fs, mI_fn, mI_ci, mI_co, mI_si, mI_so, Nat.add_zero, up_n, up_s, cpA_i, cpA_o, shA_i, shA_o, fiA_i, fiA_o, imin_l, imin_r, nI_mod, nI_div, xr_e, cn, cm, cr, ct, ch, p1, p2, p3, s4, s5, s6, s9, s11, s14, s15, s17, cb, cg, m1, m4, f5, f6, t1, t2, e1, e2, e3]; first | done | exact vp_nI (by omega) (by decide)) | exact vp_nI (by omega) (by decide) | fail)) | exact isB1 | exact isB0 | assumption | fail) | ((with_reducible apply lenA_of); first | exact Str.sh hS _ _ rfl | exact ss_hh hS (by omega) | assumption | fail) | with_reducible refine gN_of rfl ?_ | with_reducible refine gN_no rfl ?_ | ((with_reducible refine iF_t ?_ ?_); focus ((try simp (disch := omega) only [lit32, Nat.add_sub_cancel, Nat.sub_zero, Nat.reduceSub, nI_add, nI_muL, nI_sub, ix_nI, mI_s, mI_n, mI_fs, mI_fn, mI_ci, mI_co, mI_si, mI_so, Nat.add_zero, up_n, up_s, cpA_i, cpA_o, shA_i, shA_o, fiA_i, fiA_o, imin_l, imin_r, nI_mod, nI_div, xr_e, cn, cm, cr, ct, ch, p1, p2, p3, s4, s5, s6, s9, s11, s14, s15, s17, cb, cg, m1, m4, f5, f6, t1, t2, e1, e2, e3, lt_toInt, le_toInt, eq_toInt, toInt_nI, tI_neg, bt_e, tI_sub, tI_subR, tI_subL]); first | done | omega)) | ((with_reducible refine iF_f ?_ ?_); focus ((try simp (disch := omega) only [lit32, Nat.add_sub_cancel, Nat.sub_zero, Nat.reduceSub, nI_add, nI_muL, nI_sub, ix_nI, mI_s, mI_n, mI_fs, mI_fn, mI_ci, mI_co, mI_si, mI_so, Nat.add_zero, up_n, up_s, cpA_i, cpA_o, shA_i, shA_o, fiA_i, fiA_o, imin_l, imin_r, nI_mod, nI_div, xr_e, cn, cm, cr, ct, ch, p1, p2, p3, s4, s5, s6, s9, s11, s14, s15, s17, cb, cg, m1, m4, f5, f6, t1, t2, e1, e2, e3, lt_toInt, le_toInt, eq_toInt, toInt_nI, tI_neg, bt_e, tI_sub, tI_subR, tI_subL]); first | done | omega)) | ((with_reducible refine iF_s (fun hc => ?_) (fun hc => ?_)) <;> (try simp (disch := omega) only [lit32, Nat.add_sub_cancel, Nat.sub_zero, Nat.reduceSub, nI_add, nI_muL, nI_sub, ix_nI, mI_s, mI_n, mI_fs, mI_fn, mI_ci, mI_co, mI_si, mI_so, Nat.add_zero, up_n, up_s, cpA_i, cpA_o, shA_i, shA_o, fiA_i, fiA_o, imin_l, imin_r, nI_mod, nI_div, xr_e, cn, cm, cr, ct, ch, p1, p2, p3, s4, s5, s6, s9, s11, s14, s15, s17, cb, cg, m1, m4, f5, f6, t1, t2, e1, e2, e3, lt_toInt, le_toInt, eq_toInt, toInt_nI, tI_neg, bt_e, tI_sub, tI_subR, tI_subL] at hc)) | fail)
          all_goals first | (exfalso; omega) | exact q | fail
      · have q := no (fun z => hb ⟨z.2.2.1, z.2.2.2.1⟩)
        refine iF_s (fun _ => q) (fun c1 => iF_s (fun _ => q) (fun c2 => ?_))
        exfalso
        rw [lt_toInt, show (0 : Int32).toInt = 0 from rfl] at c1
        rw [le_toInt, show (30 : Int32).toInt = 30 from rfl] at c2
        omega
  · have q := no (fun z => by
      obtain ⟨-, -, -, -, h', hh', ec, e'⟩ := z
      subst ec
      rw [toInt_nI (by omega)] at hv
      omega)
    unfold w_X5_houseOf
    repeat' (first | ((with_reducible refine c_fil_hh (L := L) ?_ ?_ ?_); (exact hS); omega) | ((with_reducible refine c_build (L := L) ?_ ?_ ?_); (exact hS); omega) | with_reducible refine nm_of ?_ | with_reducible refine st_of ?_ | ((with_reducible apply dR_of); first | exact Str.pg hS rfl | exact sp_hsx hS (by omega) | exact sp_hs hS (by omega) | exact sp_hh hS (by omega) | assumption | fail) | ((with_reducible refine And.intro ?_ ?_); first | exact isO_pt hS (by decide) rfl | exact inA_pt hS rfl (by (first | exact vp_lit (by decide) | (simp (disch := omega) only [lit32, Nat.add_sub_cancel, Nat.sub_zero, Nat.reduceSub, nI_add, nI_muL, nI_sub, ix_nI, mI_s, mI_n, mI_fs, mI_fn, mI_ci, mI_co, mI_si, mI_so, Nat.add_zero, up_n, up_s, cpA_i, cpA_o, shA_i, shA_o, fiA_i, fiA_o, imin_l, imin_r, nI_mod, nI_div, xr_e, cn, cm, cr, ct, ch, p1, p2, p3, s4, s5, s6, s9, s11, s14, s15, s17, cb, cg, m1, m4, f5, f6, t1, t2, e1, e2, e3]; first | done | exact vp_nI (by omega) (by decide)) | exact vp_nI (by omega) (by decide) | fail)) | omega | exact isO_hs hS (by omega) | exact inA_hh hS (by omega) (by (first | exact vp_lit (by decide) | (simp (disch := omega) only [lit32, Nat.add_sub_cancel, Nat.sub_zero, Nat.reduceSub, nI_add, nI_muL, nI_sub, ix_nI, mI_s, mI_n, mI_fs, mI_fn, mI_ci, mI_co, mI_si, mI_so, Nat.add_zero, up_n, up_s, cpA_i, cpA_o, shA_i, shA_o, fiA_i, fiA_o, imin_l, imin_r, nI_mod, nI_div, xr_e, cn, cm, cr, ct, ch, p1, p2, p3, s4, s5, s6, s9, s11, s14, s15, s17, cb, cg, m1, m4, f5, f6, t1, t2, e1, e2, e3]; first | done | exact vp_nI (by omega) (by decide)) | exact vp_nI (by omega) (by decide) | fail)) | exact isB1 | exact isB0 | assumption | fail) | ((with_reducible apply lenA_of); first | exact Str.sh hS _ _ rfl | exact ss_hh hS (by omega) | assumption | fail) | with_reducible refine gN_of rfl ?_ | with_reducible refine gN_no rfl ?_ | ((with_reducible refine iF_t ?_ ?_); focus ((try simp (disch := omega) only [lit32, Nat.add_sub_cancel, Nat.sub_zero, Nat.reduceSub, nI_add, nI_muL, nI_sub, ix_nI, mI_s, mI_n, mI_fs, mI_fn, mI_ci, mI_co, mI_si, mI_so, Nat.add_zero, up_n, up_s, cpA_i, cpA_o, shA_i, shA_o, fiA_i, fiA_o, imin_l, imin_r, nI_mod, nI_div, xr_e, cn, cm, cr, ct, ch, p1, p2, p3, s4, s5, s6, s9, s11, s14, s15, s17, cb, cg, m1, m4, f5, f6, t1, t2, e1, e2, e3, lt_toInt, le_toInt, eq_toInt, toInt_nI, tI_neg, bt_e, tI_sub, tI_subR, tI_subL]); first | done | omega)) | ((with_reducible refine iF_f ?_ ?_); focus ((try simp (disch := omega) only [lit32, Nat.add_sub_cancel, Nat.sub_zero, Nat.reduceSub, nI_add, nI_muL, nI_sub, ix_nI, mI_s, mI_n, mI_fs, mI_fn, mI_ci, mI_co, mI_si, mI_so, Nat.add_zero, up_n, up_s, cpA_i, cpA_o, shA_i, shA_o, fiA_i, fiA_o, imin_l, imin_r, nI_mod, nI_div, xr_e, cn, cm, cr, ct, ch, p1, p2, p3, s4, s5, s6, s9, s11, s14, s15, s17, cb, cg, m1, m4, f5, f6, t1, t2, e1, e2, e3, lt_toInt, le_toInt, eq_toInt, toInt_nI, tI_neg, bt_e, tI_sub, tI_subR, tI_subL]); first | done | omega)) | ((with_reducible refine iF_s (fun hc => ?_) (fun hc => ?_)) <;> (try simp (disch := omega) only [lit32, Nat.add_sub_cancel, Nat.sub_zero, Nat.reduceSub, nI_add, nI_muL, nI_sub, ix_nI, mI_s, mI_n, mI_fs, mI_fn, mI_ci, mI_co, mI_si, mI_so, Nat.add_zero, up_n, up_s, cpA_i, cpA_o, shA_i, shA_o, fiA_i, fiA_o, imin_l, imin_r, nI_mod, nI_div, xr_e, cn, cm, cr, ct, ch, p1, p2, p3, s4, s5, s6, s9, s11, s14, s15, s17, cb, cg, m1, m4, f5, f6, t1, t2, e1, e2, e3, lt_toInt, le_toInt, eq_toInt, toInt_nI, tI_neg, bt_e, tI_sub, tI_subR, tI_subL] at hc)) | fail)
    all_goals first | (exfalso; omega) | exact q | fail
