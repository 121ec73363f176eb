/-! ===== WORTH, GOES ===== -/
theorem and_1 (x : Int32) : (x &&& (1 : Int32)) = 0 ∨ (x &&& (1 : Int32)) = 1 := by
  have h : (x &&& (1 : Int32)).toBitVec.toNat = x.toBitVec.toNat % 2 := by
    show (x.toBitVec &&& 1#32).toNat = _
    rw [BitVec.toNat_and]
    exact Nat.and_one_is_mod _
  rcases Nat.mod_two_eq_zero_or_one x.toBitVec.toNat with e | e
  · refine Or.inl (Int32.toBitVec_inj.mp (BitVec.eq_of_toNat_eq ?_))
    rw [h, e]
    rfl
  · refine Or.inr (Int32.toBitVec_inj.mp (BitVec.eq_of_toNat_eq ?_))
    rw [h, e]
    rfl
theorem bt_0 {m s : Nat} : ((nI m >>> (nI s &&& (31 : Int32))) &&& (1 : Int32)) = 0 ↔ ¬ bt m s = 1 := by
  have hb : bt m s = ((nI m >>> (nI s &&& (31 : Int32))) &&& (1 : Int32)).toInt := rfl
  rcases and_1 (nI m >>> (nI s &&& (31 : Int32))) with e | e
  · rw [hb, e]
    exact ⟨fun _ => by decide, fun _ => rfl⟩
  · rw [hb, e]
    exact ⟨fun c => absurd c (by decide), fun c => absurd rfl c⟩
theorem bt_1 {m s : Nat} : ((nI m >>> (nI s &&& (31 : Int32))) &&& (1 : Int32)) = 1 ↔ bt m s = 1 := by
  have hb : bt m s = ((nI m >>> (nI s &&& (31 : Int32))) &&& (1 : Int32)).toInt := rfl
  rcases and_1 (nI m >>> (nI s &&& (31 : Int32))) with e | e
  · rw [hb, e]
    exact ⟨fun c => absurd c (by decide), fun c => absurd c (by decide)⟩
  · rw [hb, e]
    exact ⟨fun _ => rfl, fun _ => rfl⟩
def mkx (m s : Nat) : Nat := un (nI m ||| ((1 : Int32) <<< (nI s &&& (31 : Int32))))
theorem mkx_e (m s : Nat) : nI m ||| ((1 : Int32) <<< (nI s &&& (31 : Int32))) = nI (mkx m s) := (nI_un _).symm
def bcV (tx : Nat → Int32) (A : Nat → Nat) (p h kd m : Nat) : Nat := coV tx A p h kd m (bsF (coV tx A p h kd m) 30)
theorem bcV_b {B p h : Nat} {A : Nat → Nat} (hO : Okk B A) (hp : p < A 0) (hh : h < 4) (tx : Nat → Int32) (kd m : Nat) : bcV tx A p h kd m ≤ 1500000000000000000 := coV_b hO hp hh tx kd m _
def woL (tx : Nat → Int32) (A : Nat → Nat) (p h kd : Nat) : Nat → Nat
  | 0 => bcV tx A p h kd (A (10 + 18 * h + 1))
  | s + 1 => if bt (A (10 + 18 * h + 1)) (s + 1) = 1 then woL tx A p h kd s else if bcV tx A p h kd (mkx (A (10 + 18 * h + 1)) (s + 1)) < woL tx A p h kd s then bcV tx A p h kd (mkx (A (10 + 18 * h + 1)) (s + 1)) else woL tx A p h kd s
def woB (tx : Nat → Int32) (A : Nat → Nat) (p h kd : Nat) : Nat → Int32
  | 0 => -1
  | s + 1 => if bt (A (10 + 18 * h + 1)) (s + 1) = 1 then woB tx A p h kd s else if bcV tx A p h kd (mkx (A (10 + 18 * h + 1)) (s + 1)) < woL tx A p h kd s then nI (s + 1) else woB tx A p h kd s
theorem woL_b {B p h : Nat} {A : Nat → Nat} (hO : Okk B A) (hp : p < A 0) (hh : h < 4) (tx : Nat → Int32) (kd : Nat) : ∀ s, woL tx A p h kd s ≤ 1500000000000000000
  | 0 => bcV_b hO hp hh tx kd _
  | s + 1 => by
    have ih := woL_b hO hp hh tx kd s
    have q := bcV_b hO hp hh tx kd (mkx (A (10 + 18 * h + 1)) (s + 1))
    show (if bt (A (10 + 18 * h + 1)) (s + 1) = 1 then woL tx A p h kd s else if bcV tx A p h kd (mkx (A (10 + 18 * h + 1)) (s + 1)) < woL tx A p h kd s then bcV tx A p h kd (mkx (A (10 + 18 * h + 1)) (s + 1)) else woL tx A p h kd s) ≤ _
    split
    · exact ih
    · split
      · exact q
      · exact ih
theorem c_wo_l {L B p h kd : Nat} {X : Nat → Int32} {tx : Nat → Int32} {A : Nat → Nat} {φ : Int32 → fM → Prop} (hO : Okk B A) (hp : p < A 0) (hh : h < 4) (hk2 : kd % 2 = 0) : ∀ (j s : Nat) (M : fM), s + j = A (10 + 18 * h) → Str L M → Sts X M → Lk M (A (10 + 18 * h)) (kd % 2) (A (10 + 18 * h + 1)) (A (82 + 3 * p + 2)) (vN tx A p h kd) (vT tx A p h kd) (hmV tx A p h kd) → (∀ M2, Frm scr M M2 → φ (woB tx A p h kd (A (10 + 18 * h))) M2) → l_X3_bestMark_18 φ (j + 1) 58 (jN (woL tx A p h kd s)) (woB tx A p h kd s) (nI (s + 1)) M := by
  obtain ⟨hn1, hn, -⟩ := hO.2.1 h hh
  have hpb := (hO.2.2.1 p hp).2
  intro j
  induction j with
  | zero =>
    intro s M hs hS hX lk hz
    obtain rfl : s = A (10 + 18 * h) := by omega
    refine ⟨isO_pt hS (by decide) rfl, ?_⟩
    rw [lk.1]
    exact iF_t ((nIlt (by omega) (by omega)).mpr (by omega)) (hz M Frm.rf)
  | succ j ih =>
    intro s M hs hS hX lk hz
    show b_X3_bestMark_18 (l_X3_bestMark_18 φ (j + 1)) φ 58 (jN (woL tx A p h kd s)) (woB tx A p h kd s) (nI (s + 1)) M
    generalize hK : l_X3_bestMark_18 φ (j + 1) = K at ih ⊢
    have e1 : nI (s + 1) + (1 : Int32) = nI (s + 1 + 1) := nI_add _ 1
    have wl := woL_b hO hp hh tx kd s
    have wb := bcV_b hO hp hh tx kd (mkx (A (10 + 18 * h + 1)) (s + 1))
    refine ⟨isO_pt hS (by decide) rfl, ?_⟩
    obtain ⟨l1, l2, l3, l4, l5, l6⟩ := id lk
    rw [l1, l2, l3, l4, e1, hk2, mkx_e, show (10 : Int32) - nI (A (82 + 3 * p + 2)) = nI (10 - A (82 + 3 * p + 2)) from nI_sub (a := 10) hpb]
    refine iF_f (fun q => absurd ((nIlt (by omega) (by omega)).mp q) (by omega)) (iF_t rfl ?_)
    have go : ∀ (M2 : fM) (x : Nat) (y : Int32), Frm scr M M2 → Lk M2 (A (10 + 18 * h)) (kd % 2) (A (10 + 18 * h + 1)) (A (82 + 3 * p + 2)) (vN tx A p h kd) (vT tx A p h kd) (hmV tx A p h kd) → x = woL tx A p h kd (s + 1) → y = woB tx A p h kd (s + 1) → K 58 (jN x) y (nI (s + 1 + 1)) M2 := by
      intro M2 x y f lk2 hx hy
      subst hx hy
      exact ih (s + 1) M2 (by omega) (f.S hS) (f.sc.cX hX) lk2 fun M3 f3 => hz M3 (f.tr f3)
    by_cases q : bt (A (10 + 18 * h + 1)) (s + 1) = 1
    · refine iF_f (fun z => bt_0.mp z q) (nm_of (go M _ _ Frm.rf lk ?_ ?_))
      · exact (if_pos q).symm
      · exact (if_pos q).symm
    · refine iF_t (bt_0.mpr q) (c_spreadFrom (z := 10 - A (82 + 3 * p + 2)) (o := A (82 + 3 * p + 2)) (m := mkx (A (10 + 18 * h + 1)) (s + 1)) hS lk rfl rfl rfl hn1 hn (by omega) (vT_b _ _ _ _ _) (by omega) fun M2 f2 hG2 => ?_)
      have hS2 := f2.S hS
      have fs : Frm scr M M2 := f2.f
      refine ⟨isO_pt hS2 (by decide) rfl, c_choose (w := wwV tx A p h kd (mkx (A (10 + 18 * h + 1)) (s + 1)) (10 - A (82 + 3 * p + 2))) hS2 (fs.sc.cX hX) (lk.j f2) hG2 hn (wwV_Ms hO hp hh _ kd _) (hmV_b _ _ _ _ _) fun M3 f3 lk3 hG3 g0 g12 => ?_⟩
      have hS3 := f3.S hS2
      refine ⟨isO_pt hS3 (by decide) rfl, ?_⟩
      have g12 : mJ M3 58 12 = jN (bcV tx A p h kd (mkx (A (10 + 18 * h + 1)) (s + 1))) := g12
      rw [g12]
      by_cases q2 : bcV tx A p h kd (mkx (A (10 + 18 * h + 1)) (s + 1)) < woL tx A p h kd s
      · refine iF_f (fun z => absurd ((lgN_ge (by omega) (by omega)).mp z) (by omega)) (nm_of (nm_of (go M3 _ _ (fs.tr f3) lk3 ?_ ?_)))
        · exact ((if_neg q).trans (if_pos q2)).symm
        · exact ((if_neg q).trans (if_pos q2)).symm
      · refine iF_t ((lgN_ge (by omega) (by omega)).mpr (by omega)) (nm_of (go M3 _ _ (fs.tr f3) lk3 ?_ ?_))
        · exact ((if_neg q).trans (if_neg q2)).symm
        · exact ((if_neg q).trans (if_neg q2)).symm
theorem m_wo_l {L B p h kd : Nat} {tx : Nat → Int32} {A : Nat → Nat} {φ : Int32 → fM → Prop} (hO : Okk B A) (hp : p < A 0) (hh : h < 4) (hkd : kd < 4) : ∀ (j s : Nat) (M : fM), s + j = A (10 + 18 * h) → Str L M → Mdl M 71 A → TrM M (A 4) → mI M 73 = tx → (∀ M2, Frm scr M M2 → φ (woB tx A p h kd (A (10 + 18 * h))) M2) → l_X11_worth_41 φ (j + 1) 70 (nI p) (nI h) (nI kd) (jN (woL tx A p h kd s)) (woB tx A p h kd s) (nI (s + 1)) M := by
  obtain ⟨hn1, hn, -⟩ := hO.2.1 h hh
  have ex : (10 : Int32) + ((18 : Int32) * nI h) = nI (10 + 18 * h) := by simp only [lit32, nI_muL, nI_add]
  have ex2 : nI (10 + 18 * h) + (1 : Int32) = nI (10 + 18 * h + 1) := nI_add _ 1
  intro j
  induction j with
  | zero =>
    intro s M hs hS hM hT h73 hz
    obtain rfl : s = A (10 + 18 * h) := by omega
    show b_X11_worth_41 _ φ 70 (nI p) (nI h) (nI kd) _ _ (nI (A (10 + 18 * h) + 1)) M
    unfold b_X11_worth_41 w_X11_stepsOf
    rw [ex, ix_nI (by omega)]
    refine ⟨isO_pt hS (by decide) rfl, isO_pt hS (by decide) rfl, dR_of (Str.pg hS rfl) ⟨inA_pt hS rfl (vp_nI (by omega) (by decide)), ?_⟩⟩
    rw [hM.1 _ (by omega) (by omega)]
    exact iF_t ((nIlt (by omega) (by omega)).mpr (by omega)) (hz M Frm.rf)
  | succ j ih =>
    intro s M hs hS hM hT h73 hz
    show b_X11_worth_41 (l_X11_worth_41 φ (j + 1)) φ 70 (nI p) (nI h) (nI kd) (jN (woL tx A p h kd s)) (woB tx A p h kd s) (nI (s + 1)) M
    generalize hK : l_X11_worth_41 φ (j + 1) = K at ih ⊢
    have e1 : nI (s + 1) + (1 : Int32) = nI (s + 1 + 1) := nI_add _ 1
    have wl := woL_b hO hp hh tx kd s
    have wb := bcV_b hO hp hh tx kd (mkx (A (10 + 18 * h + 1)) (s + 1))
    unfold b_X11_worth_41 w_X11_stepsOf w_X11_marksOf
    rw [ex, ex2, ix_nI (by omega), ix_nI (by omega), e1]
    refine ⟨isO_pt hS (by decide) rfl, isO_pt hS (by decide) rfl, dR_of (Str.pg hS rfl) ⟨inA_pt hS rfl (vp_nI (by omega) (by decide)), ?_⟩⟩
    rw [hM.1 _ (by omega) (by omega)]
    refine iF_f (fun q => absurd ((nIlt (by omega) (by omega)).mp q) (by omega)) ⟨isO_pt hS (by decide) rfl, isO_pt hS (by decide) rfl, dR_of (Str.pg hS rfl) ⟨inA_pt hS rfl (vp_nI (by omega) (by decide)), ?_⟩⟩
    rw [hM.1 _ (by omega) (by omega)]
    have go : ∀ (M2 : fM) (x : Nat) (y : Int32), Frm scr M M2 → Mdl M2 71 A → TrM M2 (A 4) → x = woL tx A p h kd (s + 1) → y = woB tx A p h kd (s + 1) → K 70 (nI p) (nI h) (nI kd) (jN x) y (nI (s + 1 + 1)) M2 := by
      intro M2 x y f hM2 hT2 hx hy
      subst hx hy
      exact ih (s + 1) M2 (by omega) (f.S hS) hM2 hT2 ((f.sm.m73).trans h73) fun M3 f3 => hz M3 (f.tr f3)
    by_cases q : bt (A (10 + 18 * h + 1)) (s + 1) = 1
    · refine iF_t (bt_1.mpr q) (iF_f (by decide) (nm_of (go M _ _ Frm.rf hM hT ?_ ?_)))
      · exact (if_pos q).symm
      · exact (if_pos q).symm
    · refine iF_f (fun z => q (bt_1.mp z)) (iF_t rfl ⟨isO_pt hS (by decide) rfl, m_best hS hM hO hT h73 rfl rfl rfl hp hh hkd (mkx_e _ _) fun M2 f2 hM2 hT2 g28 _ => ?_⟩)
      have hS2 := f2.S hS
      refine ⟨isO_pt hS2 (by decide) rfl, ?_⟩
      have g28 : mJ M2 70 28 = jN (bcV tx A p h kd (mkx (A (10 + 18 * h + 1)) (s + 1))) := g28
      rw [g28]
      by_cases q2 : bcV tx A p h kd (mkx (A (10 + 18 * h + 1)) (s + 1)) < woL tx A p h kd s
      · refine iF_t ((lgN_lt (by omega) (by omega)).mpr q2) (nm_of (nm_of (go M2 _ _ f2 hM2 hT2 ?_ ?_)))
        · exact ((if_neg q).trans (if_pos q2)).symm
        · exact ((if_neg q).trans (if_pos q2)).symm
      · refine iF_f (fun z => q2 ((lgN_lt (by omega) (by omega)).mp z)) (nm_of (go M2 _ _ f2 hM2 hT2 ?_ ?_))
        · exact ((if_neg q).trans (if_neg q2)).symm
        · exact ((if_neg q).trans (if_neg q2)).symm
theorem k_worth {L B : Nat} {X : Nat → Int32} {M : fM} {a b c : Int32} {φ : Int32 → fM → Prop} (hI : Inv L X B M) (hz : ∀ v M1, Mid L X B (fun M φ => w_X11_worth 70 a b c M φ) v M1 → φ v M1) : w_X10_worth 6 a b c M φ := by
  obtain ⟨A, A', nx, nx', tl, tp, hI⟩ := hI
  obtain ⟨hS, hX, hC, hM, hK, hMK, hO, hO', hTp, hFl, hTx⟩ := id hI
  obtain ⟨cn, cm, cr, ct, ch, p1, p2, p3, s4, s5, s6, s9, s11, s14, s15, s17, cb, cg⟩ := hC.f
  obtain ⟨hH, hP, hSc, hW, hB, hG, hA⟩ := id hC
  obtain ⟨m1, m4⟩ := id hM
  obtain ⟨f5, f6⟩ := id hFl
  obtain ⟨t0, t1, t2, t3⟩ := id hTp
  have e1 : 0 + 0 = 0 := rfl
  have e2 : 0 + 0 = 0 := rfl
  have e3 : 0 + 0 = 0 := rfl
  obtain ⟨⟨o0, o1, o2, o3, o4, o5, o6, o7, o8, o9⟩, oH, oP, oW, oA, oG, oB⟩ := id hO
  refine ⟨isO_pt hS (by decide) rfl, dR_of (Str.pg hS rfl) ⟨isO_pt hS (by decide) rfl, c_look hS hC hO hTx.2.1 (fun bad => ?_) (fun p h kd hp hh hkd ea eb ec M1 f1 lk => ?_)⟩⟩
  · refine iF_t rfl (mids hS hX hz Frm.rf fun Ψ hΨ => ?_)
    exact ⟨isO_pt hS (by decide) rfl, m_isMind hS hM hO (fun _ => iF_t rfl (hΨ _ hI.inv)) (fun g => absurd g bad)⟩
  · obtain ⟨hn1, hn, -⟩ := oH h hh
    have hpb := (oP p hp).2
    have gd := gd_3 o0 ea eb ec hp hh hkd
    have hS1 := f1.S hS
    subst ea eb ec
    have e4 : (nI kd : Int32) % (2 : Int32) = nI (kd % 2) := nI_mod (b := 2) (by omega) (by omega)
    refine iF_f (by decide) ⟨isO_pt hS1 (by decide) rfl, dR_of (Str.pg hS1 rfl) ⟨isO_pt hS1 (by decide) rfl, ⟨isO_pt hS1 (by decide) rfl, c_spread hS1 lk hpb hn1 hn (by omega) (vT_b _ _ _ _ _) fun M2 f2 hG2 => ?_⟩⟩⟩
    have f12 := f1.tr f2.f
    have hS2 := f2.S hS1
    refine ⟨isO_pt hS2 (by decide) rfl, c_choose (w := wwV (mI M 73) A p h kd (A (10 + 18 * h + 1)) (10 - A (82 + 3 * p + 2))) hS2 (f12.sc.cX hX) (lk.j f2) hG2 hn (wwV_Ms hO hp hh _ kd (A (10 + 18 * h + 1))) (hmV_b _ _ _ _ _) fun M3 f3 lk3 hG3 g0 g12 => ?_⟩
    have f := f12.tr f3
    have hS3 := f3.S hS2
    have g12 : mJ M3 58 12 = jN (woL (mI M 73) A p h kd 0) := g12
    refine ⟨isO_pt hS3 (by decide) rfl, nm_of ?_⟩
    rw [g12]
    rcases (show kd % 2 = 0 ∨ kd % 2 = 1 by omega) with k2 | k2
    · refine ⟨A (10 + 18 * h) + 1, c_wo_l (L := L) (X := X) (tx := mI M 73) hO hp hh k2 (A (10 + 18 * h)) 0 M3 (by omega) hS3 (f.sc.cX hX) lk3 fun M4 f4 => ?_⟩
      have fb := f.tr f4
      have hS4 := fb.S hS
      have hM4 := fb.sc.cM hM
      refine mids hS hX hz fb fun Ψ hΨ => ?_
      refine ⟨isO_pt hS4 (by decide) rfl, m_isMind hS4 hM4 hO (fun z => absurd gd z) fun _ => iF_f (by decide) (iF_f (by rw [e4, k2]; decide) ⟨isO_pt hS4 (by decide) rfl, m_best hS4 hM4 hO (TrM.of o3 (fun i hi => fb.sc.cT (hTx.2.1 i hi)) o4) (fb.sc.c73) rfl rfl rfl hp hh hkd (mk_0 _) fun M5 f5 hM5 hT5 g28 _ => ?_⟩)⟩
      have hS5 := f5.S hS4
      have g28 : mJ M5 70 28 = jN (woL (mI M 73) A p h kd 0) := g28
      refine ⟨isO_pt hS5 (by decide) rfl, nm_of ?_⟩
      rw [g28]
      exact ⟨A (10 + 18 * h) + 1, m_wo_l (L := L) (tx := mI M 73) hO hp hh hkd (A (10 + 18 * h)) 0 M5 (by omega) hS5 hM5 hT5 ((f5.sm.m73).trans fb.sc.c73) fun M6 f6 => hΨ _ (hI.look fb (f5.tr f6))⟩
    · refine ⟨1, ?_⟩
      show b_X3_bestMark_18 _ φ 58 (jN (woL (mI M 73) A p h kd 0)) (-1 : Int32) (1 : Int32) M3
      refine ⟨isO_pt hS3 (by decide) rfl, ?_⟩
      have l2 := lk3.2.1
      rw [lk3.1, l2, k2]
      refine iF_f (fun q => absurd ((nIlt (b := 1) (by omega) (by omega)).mp q) (by omega)) (iF_f (by decide) (mids hS hX hz f fun Ψ hΨ => ?_))
      have hM3 := f.sc.cM hM
      exact ⟨isO_pt hS3 (by decide) rfl, m_isMind hS3 hM3 hO (fun z => absurd gd z) fun _ => iF_f (by decide) (iF_t (by rw [e4, k2]; rfl) (hΨ _ (hI.look f Frm.rf)))⟩
theorem k_goes {L B : Nat} {X : Nat → Int32} {M : fM} {a b : Int32} {φ : Int32 → fM → Prop} (hI : Inv L X B M) (hz : ∀ v M1, Mid L X B (fun M φ => w_X11_goes 70 a b M φ) v M1 → φ v M1) : w_X10_goes 6 a b M φ := by
  obtain ⟨A, A', nx, nx', tl, tp, hI⟩ := hI
  obtain ⟨hS, hX, hC, hM, hK, hMK, hO, hO', hTp, hFl, hTx⟩ := id hI
  obtain ⟨cn, cm, cr, ct, ch, p1, p2, p3, s4, s5, s6, s9, s11, s14, s15, s17, cb, cg⟩ := hC.f
  obtain ⟨hH, hP, hSc, hW, hB, hG, hA⟩ := id hC
  obtain ⟨m1, m4⟩ := id hM
  obtain ⟨f5, f6⟩ := id hFl
  obtain ⟨t0, t1, t2, t3⟩ := id hTp
  have e1 : 0 + 0 = 0 := rfl
  have e2 : 0 + 0 = 0 := rfl
  have e3 : 0 + 0 = 0 := rfl
  obtain ⟨⟨o0, o1, o2, o3, o4, o5, o6, o7, o8, o9⟩, oH, oP, oW, oA, oG, oB⟩ := id hO
  refine ⟨isO_pt hS (by decide) rfl, dR_of (Str.pg hS rfl) ⟨isO_pt hS (by decide) rfl, ⟨isO_pt hS (by decide) rfl, c_look hS hC hO hTx.2.1 (fun bad => ?_) (fun p h kd hp hh hkd ea eb ec M1 f1 lk => ?_)⟩⟩⟩
  · refine iF_t rfl (mids hS hX hz Frm.rf fun Ψ hΨ => ?_)
    exact ⟨isO_pt hS (by decide) rfl, m_isMind hS hM hO (fun _ => iF_t rfl (hΨ _ hI.inv)) (fun g => absurd g bad)⟩
  · obtain ⟨hn1, hn, -⟩ := oH h hh
    have hpb := (oP p hp).2
    have gd := gd_3 o0 ea eb ec hp hh hkd
    have hk0 : kd = 0 := (nI_inj (a := 0) (by omega) (by omega) ec).symm
    subst hk0
    have hS1 := f1.S hS
    subst ea eb
    refine iF_f (by decide) ⟨isO_pt hS1 (by decide) rfl, c_spread hS1 lk hpb hn1 hn (by omega) (vT_b _ _ _ _ _) fun M2 f2 hG2 => ?_⟩
    have f12 := f1.tr f2.f
    have hS2 := f2.S hS1
    refine ⟨isO_pt hS2 (by decide) rfl, c_choose (w := wwV (mI M 73) A p h 0 (A (10 + 18 * h + 1)) (10 - A (82 + 3 * p + 2))) hS2 (f12.sc.cX hX) (lk.j f2) hG2 hn (wwV_Ms hO hp hh _ 0 (A (10 + 18 * h + 1))) (hmV_b _ _ _ _ _) fun M3 f3 lk3 hG3 g0 g12 => ?_⟩
    have f13 := f12.tr f3
    have hS3 := f3.S hS2
    have g12 : mJ M3 58 12 = jN (bcV (mI M 73) A p h 0 (A (10 + 18 * h + 1))) := g12
    refine ⟨isO_pt hS3 (by decide) rfl, nm_of ?_⟩
    rw [g12, show (2 : Int64) * jN (bcV (mI M 73) A p h 0 (A (10 + 18 * h + 1))) = jN (2 * bcV (mI M 73) A p h 0 (A (10 + 18 * h + 1))) from jN_mul 2 _]
    refine c_look hS3 (f13.sC o5 hC) hO (fun i hi => f13.sc.cT (hTx.2.1 i hi)) (fun bad => absurd (gd_3 o0 rfl rfl (show (1 : Int32) = nI 1 from rfl) hp hh (by omega)) bad) (fun p' h' kd hp' hh' hkd ea eb ec M4 f4 lk4 => ?_)
    have ep := nI_inj (by omega) (by omega) ea
    have eh := nI_inj (by omega) (by omega) eb
    have ek := nI_inj (a := 1) (by omega) (by omega) ec
    subst ep eh ek
    rw [f13.sc.c73] at lk4
    have f14 := f13.tr f4
    have hS4 := f4.S hS3
    refine ⟨isO_pt hS4 (by decide) rfl, c_spread hS4 lk4 hpb hn1 hn (by omega) (vT_b _ _ _ _ _) fun M5 f5 hG5 => ?_⟩
    have f15 := f14.tr f5.f
    have hS5 := f5.S hS4
    refine ⟨isO_pt hS5 (by decide) rfl, c_choose (w := wwV (mI M 73) A p h 1 (A (10 + 18 * h + 1)) (10 - A (82 + 3 * p + 2))) hS5 (f15.sc.cX hX) (lk4.j f5) hG5 hn (wwV_Ms hO hp hh _ 1 (A (10 + 18 * h + 1))) (hmV_b _ _ _ _ _) fun M6 f6 lk6 hG6 i0 i12 => ?_⟩
    have f := f15.tr f6
    have hS6 := f6.S hS5
    have i12 : mJ M6 58 12 = jN (bcV (mI M 73) A p h 1 (A (10 + 18 * h + 1))) := i12
    refine ⟨isO_pt hS6 (by decide) rfl, ?_⟩
    rw [i12]
    have b1 := bcV_b hO hp hh (mI M 73) 0 (A (10 + 18 * h + 1))
    have b2 := bcV_b hO hp hh (mI M 73) 1 (A (10 + 18 * h + 1))
    have hM6 := f.sc.cM hM
    have tail : ∀ (v : Int32) (Ψ : Int32 → fM → Prop), (∀ M2, Inv L X B M2 → Ψ v M2) → ((2 * bcV (mI M 73) A p h 0 (A (10 + 18 * h + 1)) = bcV (mI M 73) A p h 1 (A (10 + 18 * h + 1)) ∧ v = 2) ∨ (2 * bcV (mI M 73) A p h 0 (A (10 + 18 * h + 1)) < bcV (mI M 73) A p h 1 (A (10 + 18 * h + 1)) ∧ v = 1) ∨ (bcV (mI M 73) A p h 1 (A (10 + 18 * h + 1)) < 2 * bcV (mI M 73) A p h 0 (A (10 + 18 * h + 1)) ∧ v = 0)) → w_X11_goes 70 (nI p) (nI h) M6 Ψ := by
      intro v Ψ hΨ hv
      refine ⟨isO_pt hS6 (by decide) rfl, m_isMind hS6 hM6 hO (fun z => absurd gd z) fun _ => iF_f (by decide) ⟨isO_pt hS6 (by decide) rfl, m_best (kd := 1) hS6 hM6 hO (TrM.of o3 (fun i hi => f.sc.cT (hTx.2.1 i hi)) o4) (f.sc.c73) rfl rfl rfl hp hh (by omega) (mk_0 _) fun M7 f7 hM7 hT7 g28 _ => ?_⟩⟩
      have hS7 := f7.S hS6
      have g28 : mJ M7 70 28 = jN (bcV (mI M 73) A p h 1 (A (10 + 18 * h + 1))) := g28
      refine ⟨isO_pt hS7 (by decide) rfl, nm_of ?_⟩
      rw [g28]
      refine m_best (kd := 0) hS7 hM7 hO hT7 ((f7.sm.m73).trans f.sc.c73) rfl rfl rfl hp hh (by omega) (mk_0 _) fun M8 f8 hM8 hT8 j28 _ => ?_
      have hS8 := f8.S hS7
      have j28 : mJ M8 70 28 = jN (bcV (mI M 73) A p h 0 (A (10 + 18 * h + 1))) := j28
      have q := hΨ M8 (hI.look f (f7.tr f8))
      refine ⟨isO_pt hS8 (by decide) rfl, ?_⟩
      rw [j28, show (2 : Int64) * jN (bcV (mI M 73) A p h 0 (A (10 + 18 * h + 1))) = jN (2 * bcV (mI M 73) A p h 0 (A (10 + 18 * h + 1))) from jN_mul 2 _]
      rcases hv with ⟨e, rfl⟩ | ⟨e, rfl⟩ | ⟨e, rfl⟩
      · exact iF_t ((lgN_ge (by omega) (by omega)).mpr (by omega)) (iF_t ((lgN_eq (by omega) (by omega)).mpr e) q)
      · exact iF_f (fun z => absurd ((lgN_ge (by omega) (by omega)).mp z) (by omega)) q
      · exact iF_t ((lgN_ge (by omega) (by omega)).mpr (by omega)) (iF_f (fun z => absurd ((lgN_eq (by omega) (by omega)).mp z) (by omega)) q)
    rcases Nat.lt_trichotomy (2 * bcV (mI M 73) A p h 0 (A (10 + 18 * h + 1))) (bcV (mI M 73) A p h 1 (A (10 + 18 * h + 1))) with e | e | e
    · exact iF_f (fun z => absurd ((lgN_eq (by omega) (by omega)).mp z) (by omega)) (iF_f (fun z => absurd ((lgN_ge (by omega) (by omega)).mp z) (by omega)) (mids hS hX hz f fun Ψ hΨ => tail 1 Ψ hΨ (Or.inr (Or.inl ⟨e, rfl⟩))))
    · exact iF_t ((lgN_eq (by omega) (by omega)).mpr e) (mids hS hX hz f fun Ψ hΨ => tail 2 Ψ hΨ (Or.inl ⟨e, rfl⟩))
    · exact iF_f (fun z => absurd ((lgN_eq (by omega) (by omega)).mp z) (by omega)) (iF_t ((lgN_ge (by omega) (by omega)).mpr (by omega)) (mids hS hX hz f fun Ψ hΨ => tail 0 Ψ hΨ (Or.inr (Or.inr ⟨e, rfl⟩))))
