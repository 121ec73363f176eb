theorem m_see_l {L B ti : Nat} {A : Nat → Nat} {tx : Nat → Int32} {t : Int32} {φ : Int32 → fM → Prop} (hO : Okk B A) (ht : t = nI ti - 1) : ∀ (m k : Nat) (M : fM), k + m = A 6 → Str L M → Mdl M 71 A → TrM M ti → mI M 73 = tx → (∀ M2, Frm scr M M2 → φ (iI (b01 (seB tx A ti m k))) M2) → l_X11_isSeenBy_2 φ (m + 1) 70 t (nI k) M := by
  obtain ⟨⟨o0, o1, o2, o3, o4, o5, o6, o7, o8, o9⟩, oH, oP, -, -, oG, -⟩ := id hO
  intro m
  induction m with
  | zero =>
    intro k M hk hS hM hT hx hz
    refine ⟨isO_pt hS (by decide) rfl, dR_of (Str.pg hS rfl) ⟨inA_pt hS rfl (vp_lit (by decide)), iF_t ?_ (hz M Frm.rf)⟩⟩
    rw [show ix (6 : Int32) = 6 from rfl, hM.1 6 (by omega) (by omega)]
    exact (nIle (by omega) (by omega)).mpr (by omega)
  | succ m ih =>
    intro k M hk hS hM hT hx hz
    obtain ⟨g0, g1, g2, g3, g4⟩ := oG k (by omega)
    obtain ⟨h1, h2, h3, h4, h5⟩ := oH _ g1
    have ek : nI k + (1 : Int32) = nI (k + 1) := nI_add k 1
    have e0 : (109 : Int32) + ((4 : Int32) * nI k) = nI (109 + 4 * k) := by rw [show (109 : Int32) = nI 109 from rfl, show (4 : Int32) = nI 4 from rfl, nI_muL, nI_add]
    have e1 : nI (109 + 4 * k) + (1 : Int32) = nI (109 + 4 * k + 1) := nI_add _ 1
    have e2 : nI (109 + 4 * k) + (2 : Int32) = nI (109 + 4 * k + 2) := nI_add _ 2
    have e3 : nI (109 + 4 * k) + (3 : Int32) = nI (109 + 4 * k + 3) := nI_add _ 3
    have es : nI (A (109 + 4 * k + 2)) - (1 : Int32) = nI (A (109 + 4 * k + 2) - 1) := nI_sub (b := 1) g2
    have eh : (10 : Int32) + ((18 : Int32) * nI (A (109 + 4 * k + 1))) = nI (10 + 18 * A (109 + 4 * k + 1)) := by rw [show (10 : Int32) = nI 10 from rfl, show (18 : Int32) = nI 18 from rfl, nI_muL, nI_add]
    show b_X11_isSeenBy_2 (l_X11_isSeenBy_2 φ (m + 1)) φ 70 t (nI k) M
    have hk2 : ∀ (M2 : fM), Frm scr M M2 → (∀ M3, Frm scr M2 M3 → φ (iI (b01 (seB tx A ti m (k + 1)))) M3) → l_X11_isSeenBy_2 φ (m + 1) 70 t (nI (k + 1)) M2 := fun M2 f q =>
      ih (k + 1) M2 (by omega) (f.S hS) (f.sc.cM hM) (f.sT hT) ((f.sc.c73).trans hx) q
    generalize l_X11_isSeenBy_2 φ (m + 1) = K at hk2 ⊢
    clear ih
    unfold b_X11_isSeenBy_2 w_X11_stepsOf
    rw [e0, ek]
    refine ⟨isO_pt hS (by decide) rfl, dR_of (Str.pg hS rfl) ⟨inA_pt hS rfl (vp_lit (by decide)), iF_f ?_ (nm_of (dR_of (Str.pg hS rfl) ?_))⟩⟩
    · rw [show ix (6 : Int32) = 6 from rfl, hM.1 6 (by omega) (by omega)]
      exact fun c => absurd ((nIle (by omega) (by omega)).mp c) (by omega)
    rw [e1, e2, e3, ix_nI (by omega), ix_nI (by omega), hM.1 (109 + 4 * k + 1) (by omega) (by omega)]
    refine ⟨inA_pt hS rfl (vp_nI (by omega) (by decide)), nm_of (dR_of (Str.pg hS rfl) ⟨inA_pt hS rfl (vp_nI (by omega) (by decide)), nm_of ⟨isO_pt hS (by decide) rfl, dR_of (Str.pg hS rfl) ?_⟩⟩)⟩
    rw [eh, ix_nI (n := 10 + 18 * A (109 + 4 * k + 1)) (by omega), hM.1 (10 + 18 * A (109 + 4 * k + 1)) (by omega) (by omega), hM.1 (109 + 4 * k + 2) (by omega) (by omega), es]
    refine ⟨inA_pt hS rfl (vp_nI (by omega) (by decide)), ?_⟩
    unfold seB at hz
    rcases Nat.lt_or_ge (A (10 + 18 * A (109 + 4 * k + 1))) (A (109 + 4 * k + 2)) with q | q
    · rw [if_pos q] at hz
      exact iF_t ((nIlt (by omega) (by omega)).mpr q) (nm_of (hk2 M Frm.rf hz))
    · rw [if_neg (by omega)] at hz
      refine iF_f (fun c => absurd ((nIlt (by omega) (by omega)).mp c) (by omega)) ⟨isO_pt hS (by decide) rfl, dR_of (Str.pg hS rfl) ⟨inA_pt hS rfl (vp_nI (by omega) (by decide)), ?_⟩⟩
      refine m_heightOf hS hM hO rfl rfl g1 g3 ⟨isO_pt hS (by decide) rfl, m_heightOf hS hM hO rfl rfl g1 (by omega) ⟨isO_pt hS (by decide) rfl, ?_⟩⟩
      rw [ix_nI (by omega), hM.1 (109 + 4 * k) (by omega) (by omega)]
      refine m_tripsBy (kd := 0) hS hM hO hT ht rfl rfl rfl rfl rfl rfl (show A (109 + 4 * k) < 6 from Nat.lt_of_lt_of_le g0 o0) g1 (by omega) g3 (htA_b hO g1 (by omega)) (htA_b hO g1 (by omega)) fun M3 x f3 ex => ?_
      have hS3 := f3.S hS
      have hM3 := f3.M hM
      rw [hx] at ex
      have ex : x = iI (b01 (vR tx ti A (A (109 + 4 * k + 0)) (A (109 + 4 * k + 1)) 0 (A (109 + 4 * k + 2)) (htA A (A (109 + 4 * k + 1)) (A (109 + 4 * k + 2))) (htA A (A (109 + 4 * k + 1)) (A (109 + 4 * k + 2) - 1)))) := ex
      refine ⟨isO_pt hS3 (by decide) rfl, dR_of (Str.pg hS3 rfl) ⟨inA_pt hS3 rfl (vp_nI (by omega) (by decide)), ?_⟩⟩
      rw [ix_nI (by omega), hM3.1 (109 + 4 * k + 3) (by omega) (by omega), ex]
      unfold j_X11_isSeenBy_102
      rw [ek]
      have g4' : A (109 + 4 * k + 3) = 0 ∨ A (109 + 4 * k + 3) = 1 := by omega
      generalize vR tx ti A (A (109 + 4 * k + 0)) (A (109 + 4 * k + 1)) 0 (A (109 + 4 * k + 2)) (htA A (A (109 + 4 * k + 1)) (A (109 + 4 * k + 2))) (htA A (A (109 + 4 * k + 1)) (A (109 + 4 * k + 2) - 1)) = t at hz ⊢
      rcases g4' with e | e
      · rw [e] at hz ⊢
        refine iF_f (by decide) ?_
        cases t
        · exact iF_t (by decide) (nm_of (hk2 M3 f3.f fun M4 f4 => hz M4 (f3.f.tr f4)))
        · exact iF_f (by decide) (hz M3 f3.f)
      · rw [e] at hz ⊢
        refine iF_t (by decide) ?_
        cases t
        · exact iF_f (by decide) (hz M3 f3.f)
        · exact iF_t (by decide) (nm_of (hk2 M3 f3.f fun M4 f4 => hz M4 (f3.f.tr f4)))
def lwF (tx : Nat → Int32) (A : Nat → Nat) : Nat → Nat → Int32 → Int32
  | 0, _, acc => acc
  | m + 1, i, acc => lwF tx A m (i + 1) (if seB tx A (i + 1) (A 6) 0 = true then acc ||| ((1 : Int32) <<< (nI i &&& 31)) else acc ||| (0 : Int32))
theorem c_laws_l {L B nx : Nat} {A : Nat → Nat} {tx : Nat → Int32} {φ : Int32 → fM → Prop} (hO : Okk B A) : ∀ (m i : Nat) (acc : Int32) (M : fM), i + m = A 3 → Str L M → Cls M 10 A nx → (∀ i, i < A 3 → TxR M 18 i) → mI M 73 = tx → (∀ M2, Frm scr M M2 → φ (lwF tx A m i acc) M2) → l_X6_lawsOfSeen_4 φ (m + 1) 64 acc (nI i) M := by
  obtain ⟨⟨o0, o1, o2, o3, o4, o5, o6, o7, o8, o9⟩, -⟩ := id hO
  intro m
  induction m with
  | zero =>
    intro i acc M hi hS hC hT hx hz
    have s14 := hC.2.2.1.2.2.2.2.2.1
    refine ⟨isO_pt hS (by decide) rfl, dR_of (Str.pg hS rfl) ⟨isO_pt hS (by decide) rfl, iF_t ?_ (hz M Frm.rf)⟩⟩
    rw [s14]
    exact (nIle (by omega) (by omega)).mpr (by omega)
  | succ m ih =>
    intro i acc M hi hS hC hT hx hz
    have s14 := hC.2.2.1.2.2.2.2.2.1
    have ei : nI i + (1 : Int32) = nI (i + 1) := nI_add i 1
    show b_X6_lawsOfSeen_4 (l_X6_lawsOfSeen_4 φ (m + 1)) φ 64 acc (nI i) M
    have hk2 : ∀ (M2 : fM) (acc2 : Int32), Frm scr M M2 → acc2 = (if seB tx A (i + 1) (A 6) 0 = true then acc ||| ((1 : Int32) <<< (nI i &&& 31)) else acc ||| (0 : Int32)) → l_X6_lawsOfSeen_4 φ (m + 1) 64 acc2 (nI (i + 1)) M2 := by
      intro M2 acc2 f e
      subst e
      exact ih (i + 1) _ M2 (by omega) (f.S hS) (f.sC o5 hC) (fun j hj => f.sc.cT (hT j hj)) ((f.sc.c73).trans hx) fun M3 f3 => hz M3 (f.tr f3)
    generalize l_X6_lawsOfSeen_4 φ (m + 1) = K at hk2 ⊢
    refine ⟨isO_pt hS (by decide) rfl, dR_of (Str.pg hS rfl) ⟨isO_pt hS (by decide) rfl, iF_f ?_ (dR_of (Str.pg hS rfl) ⟨isO_pt hS (by decide) rfl, ?_⟩)⟩⟩
    · rw [s14]
      exact fun c => absurd ((nIle (by omega) (by omega)).mp c) (by omega)
    have e2 : nI i = nI (i + 1) - (1 : Int32) := by rw [show (1 : Int32) = nI 1 from rfl, nI_sub (by omega), Nat.add_sub_cancel]
    refine c_textOf (ti := i + 1) hS hC hO hT e2 (by omega) fun o ho => ⟨isO_pt hS (by decide) rfl, A 6 + 1, c_see_l (ti := i + 1) (tx := tx) hO (A 6) 0 M (by omega) hS hC (fun M2 f q => by rw [← hx]; exact ho M2 f q) hx fun M2 f2 => ?_⟩
    rw [ei]
    cases e : seB tx A (i + 1) (A 6) 0 with
    | false => exact iF_t (by decide) (nm_of (nm_of (hk2 M2 _ f2 (by rw [e, if_neg (by decide)]))))
    | true => exact iF_f (by decide) (nm_of (nm_of (hk2 M2 _ f2 (by rw [e, if_pos rfl]))))
theorem m_laws_l {L B : Nat} {A : Nat → Nat} {tx : Nat → Int32} {φ : Int32 → fM → Prop} (hO : Okk B A) : ∀ (m i : Nat) (acc : Int32) (M : fM), i + m = A 3 → Str L M → Mdl M 71 A → (∀ i, i ≤ A 3 → TrM M i) → mI M 73 = tx → (∀ M2, Frm scr M M2 → φ (lwF tx A m i acc) M2) → l_X11_laws_4 φ (m + 1) 70 acc (nI i) M := by
  obtain ⟨⟨o0, o1, o2, o3, o4, o5, o6, o7, o8, o9⟩, -⟩ := id hO
  intro m
  induction m with
  | zero =>
    intro i acc M hi hS hM hT hx hz
    refine ⟨isO_pt hS (by decide) rfl, dR_of (Str.pg hS rfl) ⟨inA_pt hS rfl (vp_lit (by decide)), iF_t ?_ (hz M Frm.rf)⟩⟩
    rw [show ix (3 : Int32) = 3 from rfl, hM.1 3 (by omega) (by omega)]
    exact (nIle (by omega) (by omega)).mpr (by omega)
  | succ m ih =>
    intro i acc M hi hS hM hT hx hz
    have ei : nI i + (1 : Int32) = nI (i + 1) := nI_add i 1
    show b_X11_laws_4 (l_X11_laws_4 φ (m + 1)) φ 70 acc (nI i) M
    have hk2 : ∀ (M2 : fM) (acc2 : Int32), Frm scr M M2 → acc2 = (if seB tx A (i + 1) (A 6) 0 = true then acc ||| ((1 : Int32) <<< (nI i &&& 31)) else acc ||| (0 : Int32)) → l_X11_laws_4 φ (m + 1) 70 acc2 (nI (i + 1)) M2 := by
      intro M2 acc2 f e
      subst e
      exact ih (i + 1) _ M2 (by omega) (f.S hS) (f.sc.cM hM) (fun j hj => f.sT (hT j hj)) ((f.sc.c73).trans hx) fun M3 f3 => hz M3 (f.tr f3)
    generalize l_X11_laws_4 φ (m + 1) = K at hk2 ⊢
    have e2 : nI i = nI (i + 1) - (1 : Int32) := by rw [show (1 : Int32) = nI 1 from rfl, nI_sub (by omega), Nat.add_sub_cancel]
    refine ⟨isO_pt hS (by decide) rfl, dR_of (Str.pg hS rfl) ⟨inA_pt hS rfl (vp_lit (by decide)), iF_f ?_ ⟨A 6 + 1, m_see_l (ti := i + 1) (tx := tx) hO e2 (A 6) 0 M (by omega) hS hM (hT _ (by omega)) hx fun M2 f2 => ?_⟩⟩⟩
    · rw [show ix (3 : Int32) = 3 from rfl, hM.1 3 (by omega) (by omega)]
      exact fun c => absurd ((nIle (by omega) (by omega)).mp c) (by omega)
    rw [ei]
    cases e : seB tx A (i + 1) (A 6) 0 with
    | false => exact iF_t (by decide) (nm_of (nm_of (hk2 M2 _ f2 (by rw [e, if_neg (by decide)]))))
    | true => exact iF_f (by decide) (nm_of (nm_of (hk2 M2 _ f2 (by rw [e, if_pos rfl]))))
theorem k_laws {L B : Nat} {X : Nat → Int32} {M : fM} {φ : Int32 → fM → Prop} (hI : Inv L X B M) (hz : ∀ v M1, Mid L X B (fun M φ => w_X11_laws 70 M φ) v M1 → φ v M1) : w_X10_laws 6 M φ := by
  obtain ⟨A, A', nx, nx', tl, tp, hI⟩ := hI
  obtain ⟨hS, hX, hC, hM, hK, hMK, hO, hO', hTp, hFl, hTx⟩ := id hI
  have o3 := hO.1.2.2.2.1
  refine ⟨isO_pt hS (by decide) rfl, dR_of (Str.pg hS rfl) ⟨isO_pt hS (by decide) rfl, A 3 + 1, c_laws_l hO (A 3) 0 0 M (by omega) hS hC hTx.2.1 rfl fun M1 f1 => ?_⟩⟩
  refine mids hS hX hz f1 fun Ψ hΨ => ?_
  exact ⟨A 3 + 1, m_laws_l hO (A 3) 0 0 M1 (by omega) (f1.S hS) (f1.sc.cM hM) (fun i hi => TrM.of o3 (fun j hj => f1.sc.cT (hTx.2.1 j hj)) hi) f1.sc.c73 fun M2 f2 => hΨ M2 (hI.look f1 f2)⟩
