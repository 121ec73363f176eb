/-! ===== WHERE ===== -/
def alW (n : Nat) (w : Nat → Nat → Nat) (c : Nat) : Nat → Nat := smN (fun t => w t c * 10 ^ (n - t))
theorem alW_b {n c : Nat} {w : Nat → Nat → Nat} (h : Ms n w) (hn : n ≤ 14) (hc : c < 30) : alW n w c (n + 1) ≤ 15000000000000000 := by
  have e : alW n w c (n + 1) ≤ smN (fun _ => 10 ^ (n + 1)) (n + 1) := by
    refine smN_le (n + 1) fun t ht => ?_
    have q := Ms_e h (show t ≤ n by omega) 1
    rw [Nat.mul_one, Nat.mul_one] at q
    rw [← q]
    exact smN_g (f := fun c => w t c * 10 ^ (n - t)) 30 hc
  rw [smN_k] at e
  have q : (n + 1) * 10 ^ (n + 1) ≤ 15 * 1000000000000000 := Nat.mul_le_mul (by omega) (p10_le hn)
  omega
theorem alW_g {n c t : Nat} {w : Nat → Nat → Nat} (ht : t ≤ n) : w t c * 10 ^ (n - t) ≤ alW n w c (n + 1) := smN_g (f := fun t => w t c * 10 ^ (n - t)) (n + 1) (by omega)
def wrV (n : Nat) (w : Nat → Nat → Nat) (c t : Nat) (low : Int32) : Int64 := if alW n w c (n + 1) = 0 then -1 else jN (ptN (w t c * 10 ^ (n - t)) (alW n w c (n + 1)) low)
theorem c_wh_l {L n c t ld mk la : Nat} {X : Nat → Int32} {no tw hm : Nat → Nat} {w : Nat → Nat → Nat} {M : fM} {low : Int32} {φ : Int64 → fM → Prop} (hS : Str L M) (hX : Sts X M) (lk : Lk M n ld mk la no tw hm) (hG : GR M 62 (GW n w)) (hn : n ≤ 14) (hw : Ms n w) (hc : c < 30) (ht : t ≤ n) (h : φ (wrV n w c t low) M) : ∀ (j i : Nat), i + j = n + 1 → l_X3_oddsAt_36 φ (j + 1) 58 (nI c) (nI t) low (jN (alW n w c i)) (nI i) M := by
  intro j
  induction j with
  | zero =>
    intro i hi
    obtain rfl : i = n + 1 := by omega
    have b1 := alW_b hw hn hc
    have b2 := alW_g (w := w) (c := c) ht
    refine ⟨isO_pt hS (by decide) rfl, ?_⟩
    rw [lk.1]
    refine iF_t ((nIlt (by omega) (by omega)).mpr (by omega)) ?_
    unfold wrV at h
    by_cases q : alW n w c (n + 1) = 0
    · rw [if_pos q] at h
      exact iF_t ((lg_0 (by omega)).mpr q) h
    · rw [if_neg q] at h
      exact iF_f (fun z => q ((lg_0 (by omega)).mp z)) (c_even hS hX lk hG rfl rfl hn ht (by omega) (c_part (by omega) (by omega) (by omega) h))
  | succ j ih =>
    intro i hi
    show b_X3_oddsAt_36 (l_X3_oddsAt_36 φ (j + 1)) φ 58 (nI c) (nI t) low (jN (alW n w c i)) (nI i) M
    refine ⟨isO_pt hS (by decide) rfl, ?_⟩
    rw [lk.1]
    refine iF_f (fun q => absurd ((nIlt (by omega) (by omega)).mp q) (by omega)) (c_even hS hX lk hG rfl rfl hn (by omega) (by omega) (nm_of (nm_of ?_)))
    have e : jN (alW n w c i) + jN (w i c * 10 ^ (n - i)) = jN (alW n w c (i + 1)) := jN_add _ _
    rw [e, show nI i + (1 : Int32) = nI (i + 1) from nI_add _ 1]
    exact ih (i + 1) (by omega)
theorem m_wh_l {L n c t h : Nat} {A : Nat → Nat} {w : Nat → Nat → Nat} {M : fM} {low : Int32} {φ : Int64 → fM → Prop} (hS : Str L M) (hM : Mdl M 71 A) (hh : h < 4) (en : A (10 + 18 * h) = n) (hG : GR M 79 (GW n w)) (hn : n ≤ 14) (hw : Ms n w) (hc : c < 30) (ht : t ≤ n) (hz : φ (wrV n w c t low) M) : ∀ (j i : Nat), i + j = n + 1 → l_X11_where_59 φ (j + 1) 70 (nI h) (nI c) (nI t) low (jN (alW n w c i)) (nI i) M := by
  have ex : (10 : Int32) + ((18 : Int32) * nI h) = nI (10 + 18 * h) := by simp only [lit32, nI_muL, nI_add]
  intro j
  induction j with
  | zero =>
    intro i hi
    obtain rfl : i = n + 1 := by omega
    have b1 := alW_b hw hn hc
    have b2 := alW_g (w := w) (c := c) ht
    show b_X11_where_59 _ φ 70 (nI h) (nI c) (nI t) low (jN (alW n w c (n + 1))) (nI (n + 1)) M
    unfold b_X11_where_59 w_X11_stepsOf w_X11_cell
    simp only [ex, cell_e]
    rw [ix_nI (by omega), ix_nI (by omega), ix_nI (by omega)]
    refine ⟨isO_pt hS (by decide) rfl, isO_pt hS (by decide) rfl, dR_of (Str.pg hS rfl) ⟨inA_pt hS rfl (vp_nI (by omega) (by decide)), ?_⟩⟩
    rw [hM.1 _ (by omega) (by omega), en]
    refine iF_t ((nIlt (by omega) (by omega)).mpr (by omega)) ?_
    unfold wrV at hz
    by_cases q : alW n w c (n + 1) = 0
    · rw [if_pos q] at hz
      exact iF_t ((lg_0 (by omega)).mpr q) hz
    · rw [if_neg q] at hz
      refine iF_f (fun z => q ((lg_0 (by omega)).mp z)) ⟨isO_pt hS (by decide) rfl, dR_of (Str.pg hS rfl) ⟨inA_pt hS rfl (vp_nI (by omega) (by decide)), isO_pt hS (by decide) rfl, isO_pt hS (by decide) rfl, dR_of (Str.pg hS rfl) ⟨inA_pt hS rfl (vp_nI (by omega) (by decide)), m_tenTo (n := n - t) (by rw [hM.1 _ (by omega) (by omega), en]; exact nI_sub ht) (by omega) ?_⟩⟩⟩
      rw [hG t c (by omega) (by omega), show GW n w t c = w t c from if_pos ht, jN_mul]
      exact m_part (by omega) (by omega) (by omega) hz
  | succ j ih =>
    intro i hi
    have hin : i ≤ n := by omega
    show b_X11_where_59 (l_X11_where_59 φ (j + 1)) φ 70 (nI h) (nI c) (nI t) low (jN (alW n w c i)) (nI i) M
    unfold b_X11_where_59 w_X11_stepsOf w_X11_cell
    simp only [ex, cell_e]
    rw [ix_nI (by omega), ix_nI (by omega), ix_nI (by omega)]
    refine ⟨isO_pt hS (by decide) rfl, isO_pt hS (by decide) rfl, dR_of (Str.pg hS rfl) ⟨inA_pt hS rfl (vp_nI (by omega) (by decide)), ?_⟩⟩
    rw [hM.1 _ (by omega) (by omega), en]
    refine iF_f (fun q => absurd ((nIlt (by omega) (by omega)).mp q) (by omega)) ⟨isO_pt hS (by decide) rfl, dR_of (Str.pg hS rfl) ⟨inA_pt hS rfl (vp_nI (by omega) (by decide)), isO_pt hS (by decide) rfl, isO_pt hS (by decide) rfl, dR_of (Str.pg hS rfl) ⟨inA_pt hS rfl (vp_nI (by omega) (by decide)), m_tenTo (n := n - i) (by rw [hM.1 _ (by omega) (by omega), en]; exact nI_sub hin) (by omega) (nm_of (nm_of ?_))⟩⟩⟩
    have e : jN (alW n w c i) + jN (w i c * 10 ^ (n - i)) = jN (alW n w c (i + 1)) := jN_add _ _
    rw [hG i c (by omega) (by omega), show GW n w i c = w i c from if_pos hin, jN_mul, e, show nI i + (1 : Int32) = nI (i + 1) from nI_add _ 1]
    exact ih (i + 1) (by omega)
theorem k_where {L B : Nat} {X : Nat → Int32} {M : fM} {a b c d e g : Int32} {φ : Int64 → fM → Prop} (hI : Inv L X B M) (hz : ∀ v M1, Mid L X B (fun M φ => w_X11_where 70 a b c d e g M φ) v M1 → φ v M1) : w_X10_where 6 a b c d e g M φ := by
  obtain ⟨A, A', nx, nx', tl, tp, hI⟩ := hI
  obtain ⟨hS, hX, hC, hM, hK, hMK, hO, hO', hTp, hFl, hTx⟩ := id hI
  obtain ⟨cn, cm, cr, ct, ch, p1, p2, p3, s4, s5, s6, s9, s11, s14, s15, s17, cb, cg⟩ := hC.f
  obtain ⟨hH, hP, hSc, hW, hB, hG, hA⟩ := id hC
  obtain ⟨m1, m4⟩ := id hM
  obtain ⟨f5, f6⟩ := id hFl
  obtain ⟨t0, t1, t2, t3⟩ := id hTp
  have e1 : 0 + 0 = 0 := rfl
  have e2 : 0 + 0 = 0 := rfl
  have e3 : 0 + 0 = 0 := rfl
  obtain ⟨⟨o0, o1, o2, o3, o4, o5, o6, o7, o8, o9⟩, oH, oP, oW, oA, oG, oB⟩ := id hO
  refine ⟨isO_pt hS (by decide) rfl, dR_of (Str.pg hS rfl) ⟨isO_pt hS (by decide) rfl, c_look hS hC hO hTx.2.1 (fun bad => ?_) (fun p h kd hp hh hkd ea eb ec M1 f1 lk => ?_)⟩⟩
  · refine iF_t rfl (mids hS hX hz Frm.rf fun Ψ hΨ => ?_)
    exact ⟨isO_pt hS (by decide) rfl, m_isMind hS hM hO (fun _ => iF_t rfl (hΨ _ hI.inv)) (fun g => absurd g bad)⟩
  · obtain ⟨hn1, hn, -⟩ := oH h hh
    have hpb := (oP p hp).2
    have gd := gd_3 o0 ea eb ec hp hh hkd
    have hS1 := f1.S hS
    have hM1 := f1.sc.cM hM
    have ex : (10 : Int32) + ((18 : Int32) * nI h) = nI (10 + 18 * h) := by simp only [lit32, nI_muL, nI_add]
    subst ea eb ec
    refine iF_f (by decide) ⟨isO_pt hS1 (by decide) rfl, dR_of (Str.pg hS1 rfl) ⟨isO_pt hS1 (by decide) rfl, ?_⟩⟩
    rcases Decidable.em (0 ≤ d.toInt ∧ d.toInt ≤ (29 : Nat)) with hd | hd
    · obtain ⟨k, hk, rfl⟩ := rgI hd.1 hd.2
      rcases Decidable.em (0 ≤ e.toInt ∧ e.toInt ≤ (A (10 + 18 * h) : Nat)) with he | he
      · obtain ⟨t, ht, rfl⟩ := rgI he.1 he.2
        refine iF_f (fun q => absurd ((nIlt (b := 0) (by omega) (by omega)).mp q) (by omega)) (iF_f (fun q => absurd ((nIle (a := 30) (by omega) (by omega)).mp q) (by omega)) (iF_f (fun q => absurd ((nIlt (b := 0) (by omega) (by omega)).mp q) (by omega)) ⟨isO_pt hS1 (by decide) rfl, ?_⟩))
        rw [lk.1]
        refine iF_t ((nIle (by omega) (by omega)).mpr ht) (c_spread hS1 lk hpb hn1 hn (by omega) (vT_b _ _ _ _ _) fun M2 f2 hG2 => ⟨A (10 + 18 * h) + 2, ?_⟩)
        have fa := f1.tr f2.f
        have hS2 := f2.S hS1
        refine c_wh_l (w := wwV (mI M 73) A p h kd (A (10 + 18 * h + 1)) (10 - A (82 + 3 * p + 2))) hS2 (fa.sc.cX hX) (lk.j f2) hG2 hn (wwV_Ms hO hp hh _ kd (A (10 + 18 * h + 1))) (by omega) ht ?_ (A (10 + 18 * h) + 1) 0 (by omega)
        refine mids hS hX hz fa fun Ψ hΨ => ?_
        have hM2 := fa.sc.cM hM
        show w_X11_where 70 (nI p) (nI h) (nI kd) (nI k) (nI t) g _ _
        refine ⟨isO_pt hS2 (by decide) rfl, m_isMind hS2 hM2 hO (fun z => absurd gd z) fun _ => iF_f (by decide) ?_⟩
        refine iF_f (fun q => absurd ((nIlt (b := 0) (by omega) (by omega)).mp q) (by omega)) (iF_f (fun q => absurd ((nIlt (a := 29) (by omega) (by omega)).mp q) (by omega)) (iF_f (by decide) ⟨isO_pt hS2 (by decide) rfl, ?_⟩))
        unfold w_X11_stepsOf
        rw [ex, ix_nI (by omega)]
        refine ⟨isO_pt hS2 (by decide) rfl, dR_of (Str.pg hS2 rfl) ⟨inA_pt hS2 rfl (vp_nI (by omega) (by decide)), ?_⟩⟩
        rw [hM2.1 _ (by omega) (by omega)]
        refine iF_f (fun q => absurd ((nIlt (b := 0) (by omega) (by omega)).mp q) (by omega)) (iF_f (fun q => absurd ((nIlt (by omega) (by omega)).mp q) (by omega)) (iF_f (by decide) ⟨isO_pt hS2 (by decide) rfl, m_start (zf := 1) hS2 hM2 hO hp rfl rfl (by omega) fun M3 f3 hG3 => ?_⟩))
        rw [if_neg (by omega)] at hG3
        have hS3 := f3.S hS2
        have hM3 : Mdl M3 71 A := hM2.cg fun k => by rw [f3.I]
        refine ⟨isO_pt hS3 (by decide) rfl, m_goAll hS3 hM3 hO ((JG.f f3).sT (TrM.of o3 (fun i hi => fa.sc.cT (hTx.2.1 i hi)) o4)) hp hh hkd (by omega) hG3 fun M4 f4 hM4 _ hG4 => ⟨A (10 + 18 * h) + 2, ?_⟩⟩
        have e73 : mI M3 73 = mI M 73 := (f3.I 73).trans fa.sc.c73
        rw [e73] at hG4
        exact m_wh_l (w := wwV (mI M 73) A p h kd (A (10 + 18 * h + 1)) (10 - A (82 + 3 * p + 2))) (f4.S hS3) hM4 hh rfl hG4 hn (wwV_Ms hO hp hh _ kd (A (10 + 18 * h + 1))) (by omega) ht (hΨ _ (hI.look fa ((JG.f f3).tr f4))) (A (10 + 18 * h) + 1) 0 (by omega)
      · have no : φ (-1) M1 := by
          refine mids hS hX hz f1 fun Ψ hΨ => ?_
          show w_X11_where 70 (nI p) (nI h) (nI kd) (nI k) e g _ _
          refine ⟨isO_pt hS1 (by decide) rfl, m_isMind hS1 hM1 hO (fun z => absurd gd z) fun _ => iF_f (by decide) ?_⟩
          refine iF_f (fun q => absurd ((nIlt (b := 0) (by omega) (by omega)).mp q) (by omega)) (iF_f (fun q => absurd ((nIlt (a := 29) (by omega) (by omega)).mp q) (by omega)) (iF_f (by decide) ⟨isO_pt hS1 (by decide) rfl, ?_⟩))
          unfold w_X11_stepsOf
          rw [ex, ix_nI (by omega)]
          refine ⟨isO_pt hS1 (by decide) rfl, dR_of (Str.pg hS1 rfl) ⟨inA_pt hS1 rfl (vp_nI (by omega) (by decide)), ?_⟩⟩
          rw [hM1.1 _ (by omega) (by omega)]
          have q := hΨ _ (hI.look f1 Frm.rf)
          refine iF_s (fun _ => iF_t rfl q) (fun c1 => iF_s (fun _ => iF_t rfl q) (fun c2 => ?_))
          exfalso
          rw [lt_toInt, show (0 : Int32).toInt = 0 from rfl] at c1
          rw [lt_toInt, toInt_nI (by omega)] at c2
          omega
        refine iF_f (fun q => absurd ((nIlt (b := 0) (by omega) (by omega)).mp q) (by omega)) (iF_f (fun q => absurd ((nIle (a := 30) (by omega) (by omega)).mp q) (by omega)) (iF_s (fun _ => no) (fun c1 => ⟨isO_pt hS1 (by decide) rfl, ?_⟩)))
        rw [lk.1]
        refine iF_f (fun c2 => ?_) no
        rw [lt_toInt, show (0 : Int32).toInt = 0 from rfl] at c1
        rw [le_toInt, toInt_nI (by omega)] at c2
        omega
    · have no : φ (-1) M1 := by
        refine mids hS hX hz f1 fun Ψ hΨ => ?_
        show w_X11_where 70 (nI p) (nI h) (nI kd) d e g _ _
        refine ⟨isO_pt hS1 (by decide) rfl, m_isMind hS1 hM1 hO (fun z => absurd gd z) fun _ => iF_f (by decide) ?_⟩
        have q := hΨ _ (hI.look f1 Frm.rf)
        refine iF_s (fun _ => iF_t rfl q) (fun c1 => iF_s (fun _ => iF_t rfl q) (fun c2 => ?_))
        exfalso
        rw [lt_toInt, show (0 : Int32).toInt = 0 from rfl] at c1
        rw [lt_toInt, show (29 : Int32).toInt = 29 from rfl] at c2
        omega
      refine iF_s (fun _ => no) (fun c1 => iF_s (fun _ => no) (fun c2 => ?_))
      exfalso
      rw [lt_toInt, show (0 : Int32).toInt = 0 from rfl] at c1
      rw [le_toInt, show (30 : Int32).toInt = 30 from rfl] at c2
      omega
/-! ===== WHICH, WHETHER ===== -/
def jrV (tx : Nat → Int32) (A : Nat → Nat) (p h c z : Nat) : Nat := wwV tx A p h 0 (A (10 + 18 * h + 1)) z (A (10 + 18 * h)) c * 10 ^ (14 - A (10 + 18 * h))
theorem jrV_b {B p h : Nat} {A : Nat → Nat} (hO : Okk B A) (hp : p < A 0) (hh : h < 4) (tx : Nat → Int32) (c z : Nat) (hz : z ≤ 10 - A (82 + 3 * p + 2)) : jrV tx A p h c z ≤ 1000000000000000 := by
  have hn := (hO.2.1 h hh).2.1
  have hpb := (hO.2.2.1 p hp).2
  have q := Nat.mul_le_mul_right (10 ^ (14 - A (10 + 18 * h))) (WW_b (mk := mkB (A (10 + 18 * h + 1)) (0 % 2)) (z := z) (o := A (82 + 3 * p + 2)) (vT_b tx A p h 0) hn c)
  rw [Nat.mul_assoc, ← Nat.pow_add, show A (10 + 18 * h) + (14 - A (10 + 18 * h)) = 14 by omega] at q
  have q2 : (z + A (82 + 3 * p + 2)) * 10 ^ 14 ≤ 10 * 10 ^ 14 := Nat.mul_le_mul_right _ (by omega)
  have z14 : (10 : Nat) ^ 14 = 100000000000000 := by decide
  unfold jrV wwV
  omega
theorem c_jar {L n c ld mk la : Nat} {X : Nat → Int32} {no tw hm : Nat → Nat} {w : Nat → Nat → Nat} {M : fM} {b : Int32} {φ : Int64 → fM → Prop} (hS : Str L M) (hX : Sts X M) (lk : Lk M n ld mk la no tw hm) (hG : GR M 62 (GW n w)) (hb : b = nI c) (hn : n ≤ 14) (hc : c < 32) (h : φ (jN (w n c * 10 ^ (14 - n))) M) : w_X3_chanceOfJar 58 b M φ := by
  refine ⟨isO_pt hS (by decide) rfl, ?_⟩
  rw [lk.1]
  refine c_chance hS hG rfl hb (by omega) hc ⟨isO_pt hS (by decide) rfl, ?_⟩
  rw [lk.1, show (14 : Int32) - nI n = nI (14 - n) from nI_sub (a := 14) hn]
  refine c_power hS hX rfl (by omega) ?_
  rw [show GW n w n c = w n c from if_pos (Nat.le_refl _), jN_mul]
  exact h
theorem m_jarred {L B p h c zf : Nat} {A : Nat → Nat} {tx : Nat → Int32} {M : fM} {a b d e : Int32} {φ : Int64 → fM → Prop} (hS : Str L M) (hM : Mdl M 71 A) (hO : Okk B A) (hT : TrM M (A 4)) (h73 : mI M 73 = tx) (ha : a = nI p) (hb : b = nI h) (hd : d = nI c) (he : e = nI zf) (hp : p < A 0) (hh : h < 4) (hc : c < 30) (hzf : zf ≤ 1) (hz : ∀ M2, Frm scr M M2 → Mdl M2 71 A → TrM M2 (A 4) → φ (jN (jrV tx A p h c (if zf = 0 then 0 else 10 - A (82 + 3 * p + 2)))) M2) : w_X11_jarred 70 a b d e M φ := by
  subst ha hb hd he
  obtain ⟨hn1, hn, -⟩ := hO.2.1 h hh
  have hpb := (hO.2.2.1 p hp).2
  have ex : (10 : Int32) + ((18 : Int32) * nI h) = nI (10 + 18 * h) := by simp only [lit32, nI_muL, nI_add]
  refine ⟨isO_pt hS (by decide) rfl, m_start (zf := zf) hS hM hO hp rfl rfl hzf fun M1 f1 hG1 => ?_⟩
  have hS1 := f1.S hS
  have hM1 : Mdl M1 71 A := hM.cg fun k => by rw [f1.I]
  refine ⟨isO_pt hS1 (by decide) rfl, m_goAll (kd := 0) hS1 hM1 hO ((JG.f f1).sT hT) hp hh (by omega) (by split <;> omega) hG1 fun M2 f2 hM2 hT2 hG2 => ?_⟩
  have e73 : mI M1 73 = tx := (f1.I 73).trans h73
  rw [e73] at hG2
  have hS2 := f2.S hS1
  unfold w_X11_stepsOf w_X11_cell
  rw [ex, ix_nI (by omega)]
  refine ⟨isO_pt hS2 (by decide) rfl, dR_of (Str.pg hS2 rfl) ⟨isO_pt hS2 (by decide) rfl, dR_of (Str.pg hS2 rfl) ⟨inA_pt hS2 rfl (vp_nI (by omega) (by decide)), ?_⟩⟩⟩
  rw [hM2.1 _ (by omega) (by omega)]
  simp only [cell_e]
  rw [ix_nI (by omega)]
  refine ⟨inA_pt hS2 rfl (vp_nI (by omega) (by decide)), isO_pt hS2 (by decide) rfl, isO_pt hS2 (by decide) rfl, dR_of (Str.pg hS2 rfl) ⟨inA_pt hS2 rfl (vp_nI (by omega) (by decide)), m_tenTo (n := 14 - A (10 + 18 * h)) (by rw [hM2.1 _ (by omega) (by omega)]; exact nI_sub (a := 14) hn) (by omega) ?_⟩⟩
  have g : mJ M2 79 (32 * A (10 + 18 * h) + c) = jN (WW (vN tx A p h 0) (vT tx A p h 0) (mkB (A (10 + 18 * h + 1)) (0 % 2)) (if zf = 0 then 0 else 10 - A (82 + 3 * p + 2)) (A (82 + 3 * p + 2)) (A (10 + 18 * h)) c) := (hG2 _ c (by omega) (by omega)).trans (congrArg jN (if_pos (Nat.le_refl _)))
  rw [g, jN_mul]
  exact hz M2 ((JG.f f1).tr f2) hM2 hT2
theorem k_whether {L B : Nat} {X : Nat → Int32} {M : fM} {a b c d : Int32} {φ : Int64 → fM → Prop} (hI : Inv L X B M) (hz : ∀ v M1, Mid L X B (fun M φ => w_X11_whether 70 a b c d M φ) v M1 → φ v M1) : w_X10_whether 6 a b c d M φ := by
  obtain ⟨A, A', nx, nx', tl, tp, hI⟩ := hI
  obtain ⟨hS, hX, hC, hM, hK, hMK, hO, hO', hTp, hFl, hTx⟩ := id hI
  obtain ⟨cn, cm, cr, ct, ch, p1, p2, p3, s4, s5, s6, s9, s11, s14, s15, s17, cb, cg⟩ := hC.f
  obtain ⟨hH, hP, hSc, hW, hB, hG, hA⟩ := id hC
  obtain ⟨m1, m4⟩ := id hM
  obtain ⟨f5, f6⟩ := id hFl
  obtain ⟨t0, t1, t2, t3⟩ := id hTp
  have e1 : 0 + 0 = 0 := rfl
  have e2 : 0 + 0 = 0 := rfl
  have e3 : 0 + 0 = 0 := rfl
  obtain ⟨⟨o0, o1, o2, o3, o4, o5, o6, o7, o8, o9⟩, oH, oP, oW, oA, oG, oB⟩ := id hO
  refine ⟨isO_pt hS (by decide) rfl, dR_of (Str.pg hS rfl) ⟨isO_pt hS (by decide) rfl, c_look hS hC hO hTx.2.1 (fun bad => ?_) (fun p h kd hp hh hkd ea eb ec M1 f1 lk => ?_)⟩⟩
  · refine iF_t rfl (mids hS hX hz Frm.rf fun Ψ hΨ => ?_)
    exact ⟨isO_pt hS (by decide) rfl, m_isMind hS hM hO (fun _ => iF_t rfl (hΨ _ hI.inv)) (fun g => absurd g bad)⟩
  · obtain ⟨hn1, hn, -⟩ := oH h hh
    have hpb := (oP p hp).2
    have gd := gd_3 o0 ea eb ec hp hh hkd
    have hk0 : kd = 0 := (nI_inj (a := 0) (by omega) (by omega) ec).symm
    subst hk0
    have hS1 := f1.S hS
    have hM1 := f1.sc.cM hM
    subst ea eb
    refine iF_f (by decide) ⟨isO_pt hS1 (by decide) rfl, dR_of (Str.pg hS1 rfl) ⟨isO_pt hS1 (by decide) rfl, ?_⟩⟩
    rcases Decidable.em (0 ≤ c.toInt ∧ c.toInt ≤ (29 : Nat)) with hd | hd
    · obtain ⟨k, hk, rfl⟩ := rgI hd.1 hd.2
      refine iF_f (fun q => absurd ((nIlt (b := 0) (by omega) (by omega)).mp q) (by omega)) (iF_t ((nIlt (b := 30) (by omega) (by omega)).mpr (by omega)) ⟨isO_pt hS1 (by decide) rfl, c_spread hS1 lk hpb hn1 hn (by omega) (vT_b _ _ _ _ _) fun M2 f2 hG2 => ?_⟩)
      have fa := f1.tr f2.f
      have hS2 := f2.S hS1
      have lk2 := lk.j f2
      refine ⟨isO_pt hS2 (by decide) rfl, c_jar hS2 (fa.sc.cX hX) lk2 hG2 rfl hn (by omega) ⟨isO_pt hS2 (by decide) rfl, ?_⟩⟩
      refine c_spreadFrom (z := 0) (o := A (82 + 3 * p + 2)) (m := A (10 + 18 * h + 1)) hS2 lk2 rfl lk2.2.2.2.1 lk2.2.2.1 hn1 hn (by omega) (vT_b _ _ _ _ _) (by omega) fun M3 f3 hG3 => ?_
      have f := fa.tr f3.f
      have hS3 := f3.S hS2
      have hM3 := f.sc.cM hM
      have b1 := jrV_b hO hp hh (mI M 73) k (10 - A (82 + 3 * p + 2)) (Nat.le_refl _)
      have b2 := jrV_b hO hp hh (mI M 73) k 0 (by omega)
      have e1 : WW (vN (mI M 73) A p h 0) (vT (mI M 73) A p h 0) (mkB (A (10 + 18 * h + 1)) (0 % 2)) (10 - A (82 + 3 * p + 2)) (A (82 + 3 * p + 2)) (A (10 + 18 * h)) k * 10 ^ (14 - A (10 + 18 * h)) = jrV (mI M 73) A p h k (10 - A (82 + 3 * p + 2)) := rfl
      rw [e1]
      have tail : ∀ Ψ : Int64 → fM → Prop, (∀ M2, Inv L X B M2 → Ψ (if jrV (mI M 73) A p h k (10 - A (82 + 3 * p + 2)) = 0 then -1 else jN (ptN (jrV (mI M 73) A p h k 0) (jrV (mI M 73) A p h k (10 - A (82 + 3 * p + 2))) d)) M2) → w_X11_whether 70 (nI p) (nI h) (nI k) d M3 Ψ := by
        intro Ψ hΨ
        refine ⟨isO_pt hS3 (by decide) rfl, m_isMind hS3 hM3 hO (fun z => absurd gd z) fun _ => iF_f (by decide) ?_⟩
        refine iF_f (fun q => absurd ((nIlt (b := 0) (by omega) (by omega)).mp q) (by omega)) (iF_f (fun q => absurd ((nIlt (a := 29) (by omega) (by omega)).mp q) (by omega)) (iF_f (by decide) ⟨isO_pt hS3 (by decide) rfl, m_jarred (zf := 1) hS3 hM3 hO (TrM.of o3 (fun i hi => f.sc.cT (hTx.2.1 i hi)) o4) f.sc.c73 rfl rfl rfl rfl hp hh (by omega) (by omega) fun M4 f4 hM4 hT4 => ?_⟩))
        rw [if_neg (by omega)]
        have hS4 := f4.S hS3
        by_cases q : jrV (mI M 73) A p h k (10 - A (82 + 3 * p + 2)) = 0
        · rw [if_pos q] at hΨ
          exact iF_t ((lg_0 (by omega)).mpr q) (hΨ _ (hI.look f f4))
        · rw [if_neg q] at hΨ
          refine iF_f (fun z => q ((lg_0 (by omega)).mp z)) ⟨isO_pt hS4 (by decide) rfl, m_jarred (zf := 0) hS4 hM4 hO hT4 ((f4.sm.m73).trans f.sc.c73) rfl rfl rfl rfl hp hh (by omega) (by omega) fun M5 f5 hM5 hT5 => ?_⟩
          rw [if_pos rfl]
          exact m_part (by omega) (by omega) (by omega) (hΨ _ (hI.look f (f4.tr f5)))
      by_cases q : jrV (mI M 73) A p h k (10 - A (82 + 3 * p + 2)) = 0
      · rw [if_pos q] at tail
        exact iF_t ((lg_0 (by omega)).mpr q) (mids hS hX hz f tail)
      · rw [if_neg q] at tail
        refine iF_f (fun z => q ((lg_0 (by omega)).mp z)) ⟨isO_pt hS3 (by decide) rfl, c_jar (w := wwV (mI M 73) A p h 0 (A (10 + 18 * h + 1)) 0) hS3 (f.sc.cX hX) (lk2.j f3) hG3 rfl hn (by omega) ?_⟩
        exact c_part (a := jrV (mI M 73) A p h k 0) (by omega) (by omega) (by omega) (mids hS hX hz f tail)
    · have no : φ (-1) M1 := by
        refine mids hS hX hz f1 fun Ψ hΨ => ?_
        show w_X11_whether 70 (nI p) (nI h) c d _ _
        refine ⟨isO_pt hS1 (by decide) rfl, m_isMind hS1 hM1 hO (fun z => absurd gd z) fun _ => iF_f (by decide) ?_⟩
        have q := hΨ _ (hI.look f1 Frm.rf)
        refine iF_s (fun _ => iF_t rfl q) (fun c1 => iF_s (fun _ => iF_t rfl q) (fun c2 => ?_))
        exfalso
        rw [lt_toInt, show (0 : Int32).toInt = 0 from rfl] at c1
        rw [lt_toInt, show (29 : Int32).toInt = 29 from rfl] at c2
        omega
      refine iF_s (fun _ => no) (fun c1 => iF_f (fun c2 => ?_) no)
      rw [lt_toInt, show (0 : Int32).toInt = 0 from rfl] at c1
      rw [lt_toInt, show (30 : Int32).toInt = 30 from rfl] at c2
      omega
