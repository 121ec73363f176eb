/-! ===== LAWS ===== -/
def seB (tx : Nat → Int32) (A : Nat → Nat) (ti : Nat) : Nat → Nat → Bool
  | 0, _ => true
  | m + 1, k => if A (10 + 18 * A (109 + 4 * k + 1)) < A (109 + 4 * k + 2) then seB tx A ti m (k + 1) else if vR tx ti A (A (109 + 4 * k + 0)) (A (109 + 4 * k + 1)) 0 (A (109 + 4 * k + 2)) (htA A (A (109 + 4 * k + 1)) (A (109 + 4 * k + 2))) (htA A (A (109 + 4 * k + 1)) (A (109 + 4 * k + 2) - 1)) = decide (A (109 + 4 * k + 3) = 1) then seB tx A ti m (k + 1) else false
theorem c_see_l {L B nx ti : Nat} {A : Nat → Nat} {tx : Nat → Int32} {o : Option Nat} {φ : Int32 → fM → Prop} (hO : Okk B A) : ∀ (m k : Nat) (M : fM), k + m = A 6 → Str L M → Cls M 10 A nx → (∀ M2, Frm scr M M2 → mP M2 7 2 = o → TrT M2 tx ti) → mI M 73 = tx → (∀ M2, Frm scr M M2 → φ (iI (b01 (seB tx A ti m k))) M2) → l_X6_allSeenBy_2 φ (m + 1) 64 o (nI k) M := by
  obtain ⟨⟨o0, o1, o2, o3, o4, o5, o6, o7, o8, o9⟩, oH, oP, -, -, oG, -⟩ := id hO
  intro m
  induction m with
  | zero =>
    intro k M hk hS hC ho hx hz
    have s17 := hC.2.2.1.2.2.2.2.2.2.2
    refine ⟨isO_pt hS (by decide) rfl, dR_of (Str.pg hS rfl) ⟨isO_pt hS (by decide) rfl, iF_t ?_ (hz M Frm.rf)⟩⟩
    rw [s17]
    exact (nIle (by omega) (by omega)).mpr (by omega)
  | succ m ih =>
    intro k M hk hS hC ho hx hz
    have s17 := hC.2.2.1.2.2.2.2.2.2.2
    have hG := hC.2.2.2.2.2.1
    obtain ⟨g0, g1, g2, g3, g4⟩ := oG k (by omega)
    obtain ⟨h1, h2, h3, h4, h5⟩ := oH _ g1
    have hpb := oP _ g0
    have c0 : mI M 19 (k * 4) = nI (A (109 + 4 * k + 0)) := hG k (by omega) 0 (by omega)
    have c1 : mI M 19 (k * 4 + 1) = nI (A (109 + 4 * k + 1)) := hG k (by omega) 1 (by omega)
    have c2 : mI M 19 (k * 4 + 2) = nI (A (109 + 4 * k + 2)) := hG k (by omega) 2 (by omega)
    have c3 : mI M 19 (k * 4 + 3) = nI (A (109 + 4 * k + 3)) := hG k (by omega) 3 (by omega)
    have hn := (hC.1 (A (109 + 4 * k + 1)) g1).1
    have ek : nI k + (1 : Int32) = nI (k + 1) := nI_add k 1
    have e4 : nI k * (4 : Int32) = nI (k * 4) := nI_muL k 4
    have e1 : nI (k * 4) + (1 : Int32) = nI (k * 4 + 1) := nI_add _ 1
    have e2 : nI (k * 4) + (2 : Int32) = nI (k * 4 + 2) := nI_add _ 2
    have e3 : nI (k * 4) + (3 : Int32) = nI (k * 4 + 3) := nI_add _ 3
    show b_X6_allSeenBy_2 (l_X6_allSeenBy_2 φ (m + 1)) φ 64 o (nI k) M
    have hk2 : ∀ (M2 : fM), Frm scr M M2 → (∀ M3, Frm scr M2 M3 → φ (iI (b01 (seB tx A ti m (k + 1)))) M3) → l_X6_allSeenBy_2 φ (m + 1) 64 o (nI (k + 1)) M2 := fun M2 f q =>
      ih (k + 1) M2 (by omega) (f.S hS) (f.sC o5 hC) (fun M3 f3 => ho M3 (f.tr f3)) ((f.sc.c73).trans hx) q
    generalize l_X6_allSeenBy_2 φ (m + 1) = K at hk2 ⊢
    clear ih
    unfold b_X6_allSeenBy_2
    rw [e4, ek]
    refine ⟨isO_pt hS (by decide) rfl, dR_of (Str.pg hS rfl) ⟨isO_pt hS (by decide) rfl, iF_f ?_ (nm_of (dR_of (Str.pg hS rfl) ⟨isO_pt hS (by decide) rfl, dR_of (Str.pg hS rfl) (c_cellN (Str.sh hS 18 _ rfl) e1 (by omega) (by omega) ⟨isO_pt hS (by decide) rfl, dR_of (Str.pg hS rfl) ⟨isO_pt hS (by decide) rfl, dR_of (Str.pg hS rfl) (c_cellN (Str.sh hS 18 _ rfl) e2 (by omega) (by omega) ⟨isO_pt hS (by decide) rfl, dR_of (Str.pg hS rfl) ⟨isO_pt hS (by decide) rfl, ?_⟩⟩)⟩⟩)⟩))⟩⟩
    · rw [s17]
      exact fun c => absurd ((nIle (by omega) (by omega)).mp c) (by omega)
    rw [c1, c2]
    refine c_hO10 hS g1 (gN_of rfl ⟨isO_hs hS g1, ?_⟩)
    unfold w_X0_hasStep
    refine iF_f (show ¬ (nI (A (109 + 4 * k + 2)) < nI 1) from fun c => absurd ((nIlt (by omega) (by omega)).mp c) (by omega)) ⟨isO_hs hS g1, ?_⟩
    rw [show mI M (20 + 2 * A (109 + 4 * k + 1)) 0 = _ from hn]
    unfold seB at hz
    rcases Nat.lt_or_ge (A (10 + 18 * A (109 + 4 * k + 1))) (A (109 + 4 * k + 2)) with q | q
    · rw [if_pos q] at hz
      exact iF_t ((nIlt (by omega) (by omega)).mpr q) (iF_t rfl (nm_of (hk2 M Frm.rf hz)))
    · rw [if_neg (by omega)] at hz
      refine iF_f (fun c => absurd ((nIlt (by omega) (by omega)).mp c) (by omega)) (iF_f (by decide) ⟨isO_pt hS (by decide) rfl, dR_of (Str.pg hS rfl) (dR_of (Str.pg hS rfl) (dR_of (Str.pg hS rfl) ⟨isO_pt hS (by decide) rfl, dR_of (Str.pg hS rfl) (c_cellN (Str.sh hS 18 _ rfl) rfl (by omega) (by omega) ⟨isO_pt hS (by decide) rfl, ?_⟩)⟩))⟩)
      rw [c0]
      refine c_turnTo hS hC hO rfl rfl (kd := 0) rfl (by omega) g1 (by omega) fun M1 f1 t1' t2' t3' t4' => ?_
      have hS1 := f1.S hS
      refine ⟨isO_pt hS1 (by decide) rfl, dR_of (Str.pg hS1 rfl) ⟨isO_pt hS1 (by decide) rfl, c_face hS1 (f1.sC o5 hC) hO rfl g1 g2 g3 (by omega) t4' fun M2 f2 z1 z2 z3 z4 => ?_⟩⟩
      have hS2 := f2.S hS1
      have f12 := f1.tr f2
      have hTr := ho M2 f12 (z1.trans t1')
      have hv : ∀ v, v < 10 → mI M2 8 v = nI (nvS A (A (109 + 4 * k + 0)) (A (109 + 4 * k + 1)) 0 (A (109 + 4 * k + 2)) v) ∧ nvS A (A (109 + 4 * k + 0)) (A (109 + 4 * k + 1)) 0 (A (109 + 4 * k + 2)) v ≤ 9999 := fun v hv => ⟨z4 v hv, nvF_b hO (by omega) g1 (by omega) g3 (htA_b hO g1 (by omega)) (htA_b hO g1 (by omega)) v⟩
      refine ⟨isO_pt hS2 (by decide) rfl, dR_of (Str.pg hS2 rfl) ⟨isO_pt hS2 (by decide) rfl, c_tripsNow hS2 hTr hv fun M3 x f3 ex => ?_⟩⟩
      have hS3 := f3.S hS2
      have f13 := f12.tr f3.f
      have ex : x = iI (b01 (vR tx ti A (A (109 + 4 * k + 0)) (A (109 + 4 * k + 1)) 0 (A (109 + 4 * k + 2)) (htA A (A (109 + 4 * k + 1)) (A (109 + 4 * k + 2))) (htA A (A (109 + 4 * k + 1)) (A (109 + 4 * k + 2) - 1)))) := ex
      refine ⟨isO_pt hS3 (by decide) rfl, dR_of (Str.pg hS3 rfl) ⟨isO_pt hS3 (by decide) rfl, dR_of (Str.pg hS3 rfl) (c_cellN (Str.sh hS3 18 _ rfl) e3 (by omega) (by omega) ?_)⟩⟩
      rw [f13.2.2 19 (by unfold scr; omega) _ (by omega), c3, ex]
      unfold j_X6_allSeenBy_139
      rw [ek]
      have g4' : A (109 + 4 * k + 3) = 0 ∨ A (109 + 4 * k + 3) = 1 := by omega
      generalize vR tx ti A (A (109 + 4 * k + 0)) (A (109 + 4 * k + 1)) 0 (A (109 + 4 * k + 2)) (htA A (A (109 + 4 * k + 1)) (A (109 + 4 * k + 2))) (htA A (A (109 + 4 * k + 1)) (A (109 + 4 * k + 2) - 1)) = t at hz ⊢
      rcases g4' with e | e
      · rw [e] at hz ⊢
        refine iF_f (by decide) ?_
        cases t
        · exact iF_t (by decide) (nm_of (hk2 M3 f13 fun M4 f4 => hz M4 (f13.tr f4)))
        · exact iF_f (by decide) (hz M3 f13)
      · rw [e] at hz ⊢
        refine iF_t (by decide) ?_
        cases t
        · exact iF_f (by decide) (hz M3 f13)
        · exact iF_t (by decide) (nm_of (hk2 M3 f13 fun M4 f4 => hz M4 (f13.tr f4)))
