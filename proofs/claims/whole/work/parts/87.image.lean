theorem TxR.cgp {M M2 : fM} {r i : Nat} (hr : mP M2 r i = mP M r i) (hP : ∀ q j, 82 ≤ q → mP M2 q j = mP M q j) (h3 : M2.2.2.2 = M.2.2.2) (hf : ∀ q, 82 ≤ q ∨ q = 73 → ∀ k, mI M2 q k = mI M q k) (h : TxR M r i) : TxR M2 r i := by
  have eS : ∀ q, mS M2 q = mS M q := fun q => by unfold mS; rw [h3]
  obtain ⟨o, c, s, e, d, u, cd, cl, p1, p2, p3, p4, p5, p6, p7, p8, q1, q2, q3, q4, q5, s1, s2, s3, s4, s5, t⟩ := h
  refine ⟨o, c, s, e, d, u, cd, cl, hr.trans p1, p2, by rw [eS]; exact p3, by rw [hP _ _ p2]; exact p4, by rw [hP _ _ p2]; exact p5, by rw [hP _ _ p2]; exact p6, by rw [hP _ _ p2]; exact p7, by rw [hP _ _ p2]; exact p8, q1, q2, q3, q4, q5, by rw [eS]; exact s1, by rw [eS]; exact s2, by rw [eS]; exact s3, by rw [eS]; exact s4, by rw [eS]; exact s5, ?_⟩
  rw [show mI M2 c = mI M c from funext (hf c (Or.inl q1)), show mI M2 s = mI M s from funext (hf s (Or.inl q2)), show mI M2 e = mI M e from funext (hf e (Or.inl q3)), show mI M2 d = mI M d from funext (hf d (Or.inl q4)), show mI M2 u = mI M u from funext (hf u (Or.inl q5)), show (fun k => mI M2 73 (705 * i + k)) = fun k => mI M 73 (705 * i + k) from funext fun k => hf 73 (Or.inr rfl) _]
  exact t
theorem m_copy_l {r0 r1 : Nat} {φ : fM → Prop} (h1 : 6 ≤ r1) (ne : r0 ≠ r1) : ∀ (m k : Nat) (M : fM), mS M r0 = some (12, 2565) → mS M r1 = some (12, 2565) → k + m = 2565 → φ (cpI M r0 r1 k k m) → l_X11_copy_2 φ (m + 1) r0 r1 (nI k) M := by
  intro m
  induction m with
  | zero =>
    intro k M s0 s1 hk h
    obtain rfl : k = 2565 := by omega
    rw [cp_0] at h
    exact iF_t (show nI 2565 ≤ nI 2565 from (nIle (by omega) (by omega)).mpr (by omega)) h
  | succ m ih =>
    intro k M s0 s1 hk h
    refine iF_f (fun c : nI 2565 ≤ nI k => absurd ((nIle (by omega) (by omega)).mp c) (by omega)) ⟨inA_of s0 (vp_nI (by omega) (by decide)), nm_of ⟨h1, inA_of s1 (vp_nI (by omega) (by decide)), st_of (nm_of ?_)⟩⟩
    rw [lit32, nI_add, ix_nI (by omega)]
    refine ih (k + 1) _ s0 s1 (by omega) ?_
    rw [cp_s (Or.inl ne)]
    exact h
theorem m_copy {r0 r1 : Nat} {M : fM} {φ : fM → Prop} (h1 : 6 ≤ r1) (ne : r0 ≠ r1) (s0 : mS M r0 = some (12, 2565)) (s1 : mS M r1 = some (12, 2565)) (h : φ (cpI M r0 r1 0 0 2565)) : w_X11_copy r0 r1 M φ := ⟨2566, m_copy_l h1 ne 2565 0 M s0 s1 rfl h⟩
theorem Mdl.mv {M : fM} {r r' : Nat} {A : Nat → Nat} (h : Mdl M r A) : Mdl (cpI M r r' 0 0 2565) r' A := by
  refine ⟨fun k h1 h2 => ?_, ?_⟩
  · rw [mI_ci rfl (by omega) (by omega), Nat.sub_zero, Nat.zero_add]; exact h.1 k h1 h2
  · rw [mI_ci rfl (by omega) (by omega)]; exact h.2
theorem IV.cpd {L : Nat} {X : Nat → Int32} {B : Nat} {A A' A2 A2' : Nat → Nat} {nx nx' nx2 nx2' tl : Nat} {tp : Nat → Nat} {M M2 : fM} (h : IV L X B A A' nx nx' tl tp M) (hS : Str L M2) (hJ : M2.2.1 = M.2.1) (h3 : M2.2.2.2 = M.2.2.2) (hf : ∀ r, ¬ ((10 ≤ r ∧ r ≤ 45) ∨ r = 71 ∨ r = 72) → ∀ k, mI M2 r k = mI M r k) (hP : ∀ q j, 82 ≤ q → mP M2 q j = mP M q j) (c1 : Cls M2 10 A2 nx2) (m1 : Mdl M2 71 A2) (c2 : Cls M2 28 A2' nx2') (m2 : Mdl M2 72 A2') (o1 : Okk B A2) (o2 : Okk B A2') (t1 : A2' 3 ≤ A2 3) (t2 : A2 3 ≤ A 3) (p1 : ∀ i, i < A2 3 → mP M2 18 i = mP M 18 i) (p2 : ∀ i, i < A2' 3 → mP M2 36 i = mP M2 18 i) (p3 : ∀ r, r = 18 ∨ r = 36 → ∀ i, i < 4 → ∀ y, mP M2 r i = some y → ∃ r', (r' = 18 ∨ r' = 36) ∧ mP M r' i = some y) : Inv L X B M2 := by
  obtain ⟨a1, a2, a3, a3', a4, a4', a5, a6, a7, a8, x1, x2, x3, x4⟩ := h
  refine ⟨A2, A2', nx2, nx2', tl, tp, hS, a2.cg (fun q hq => hf q (by omega)) (fun k => by unfold mJ; rw [hJ]), c1, m1, c2, m2, o1, o2, ?_, ?_, t1, fun i hi => (x2 i (by omega)).cgp (p1 i hi) hP h3 (fun q hq => hf q (by omega)), p2, fun r q i hi y e => ?_⟩
  · obtain ⟨t1, t2, t3, t4⟩ := a7
    exact ⟨t1, (hf 46 (by omega) _).trans t2, (hf 70 (by omega) _).trans t3, fun k hk => by rw [hf 47 (by omega), hf 74 (by omega)]; exact t4 k hk⟩
  · obtain ⟨g1, g2⟩ := a8
    exact ⟨(hf 51 (by omega) _).trans (g1.trans (hf 70 (by omega) _).symm), (hf 51 (by omega) _).trans (g2.trans (hf 70 (by omega) _).symm)⟩
  · obtain ⟨r', hr', e'⟩ := p3 r q i hi y e
    have x := x4 r' hr' i hi y e'
    unfold isO mS at x ⊢
    rw [h3]
    exact x
theorem k_image {L B : Nat} {X : Nat → Int32} {M : fM} {φ : Int32 → fM → Prop} (hI : Inv L X B M) (hz : ∀ v M1, Mid L X B (fun M φ => w_X11_image 70 M φ) v M1 → φ v M1) : w_X10_image 6 M φ := by
  obtain ⟨A, A', nx, nx', tl, tp, hI⟩ := hI
  obtain ⟨hS, hX, hC, hM, hK, hMK, hO, hO', hTp, hFl, x1, x2, x3, x4⟩ := id hI
  refine ⟨isO_pt hS (by decide) rfl, dR_of (Str.pg hS rfl) (dR_of (Str.pg hS rfl) ⟨isO_pt hS (by decide) rfl, c_become28 hS hC (x4 18 (Or.inl rfl)) fun M1 hS1 hb => ⟨isO_pt hS1 (by decide) rfl, dR_of (Str.pg hS1 rfl) ⟨isO_pt hS1 (by decide) rfl, ?_⟩⟩⟩)⟩
  have hb0 := hb
  obtain ⟨b1, b2, b3, b4, b5, -⟩ := hb
  rw [b5 10 (by omega), show mI M 10 6 = nI (A 1) from hC.2.2.1.2.2.1]
  have hM1 : Mdl M1 71 A := hM.cg (b5 71 (by omega))
  refine hz _ _ ⟨hS1, hX.cg (fun q hq => b5 q (by omega)) (fun k => by unfold mJ; rw [b1]), fun Ψ hΨ => ?_⟩
  refine ⟨isO_pt hS1 (by decide) rfl, dR_of (Str.pg hS1 rfl) (dR_of (Str.pg hS1 rfl) (m_copy (by omega) (by omega) (ss_71 hS1) (ss_72 hS1) ⟨isO_pt (by exact hS1) (by decide) rfl, dR_of (Str.pg hS1 rfl) ⟨inA_pt (by exact hS1) rfl (vp_lit (by decide)), ?_⟩⟩))⟩
  rw [show ix (1 : Int32) = 1 from rfl, mI_co (by omega), hM1.1 1 (by omega) (by omega)]
  refine hΨ _ (hI.cpd (A2 := A) (A2' := A) (nx2 := nx) (nx2' := nx) (by exact hS1) b1 b2 (fun r hr k => by rw [mI_co (by omega)]; exact b5 r (by omega) k) (fun q j hq => b4 q j (by omega)) ?_ ?_ ?_ hM1.mv hO hO (Nat.le_refl _) (Nat.le_refl _) (fun i hi => b4 18 i (by omega)) (fun i hi => (b3 i (by have := hO.1.2.2.2.1; omega)).trans (b4 18 i (by omega)).symm) (fun r q i hi y e => ?_))
  · exact hC.cg (fun q hq k => by rw [mI_co (by omega)]; exact b5 q (by omega) k) hO.1.2.2.2.2.2.1
  · exact hM1.cg fun k => mI_co (by omega)
  · exact (Bec.C hO.1.2.2.2.2.2.1 hb0 hC).cg (fun q hq k => mI_co (by omega)) hO.1.2.2.2.2.2.1
  · rcases q with rfl | rfl
    · exact ⟨18, Or.inl rfl, (b4 18 i (by omega)).symm.trans e⟩
    · exact ⟨18, Or.inl rfl, (b3 i hi).symm.trans e⟩
theorem k_back {L B : Nat} {X : Nat → Int32} {M : fM} {φ : Int32 → fM → Prop} (hI : Inv L X B M) (hz : ∀ v M1, Mid L X B (fun M φ => w_X11_back 70 M φ) v M1 → φ v M1) : w_X10_back 6 M φ := by
  obtain ⟨A, A', nx, nx', tl, tp, hI⟩ := hI
  obtain ⟨hS, hX, hC, hM, hK, hMK, hO, hO', hTp, hFl, x1, x2, x3, x4⟩ := id hI
  refine ⟨isO_pt hS (by decide) rfl, dR_of (Str.pg hS rfl) (dR_of (Str.pg hS rfl) ⟨isO_pt hS (by decide) rfl, c_become10 hS hK (x4 36 (Or.inr rfl)) fun M1 hS1 hb => ⟨isO_pt hS1 (by decide) rfl, dR_of (Str.pg hS1 rfl) ⟨isO_pt hS1 (by decide) rfl, ?_⟩⟩⟩)⟩
  have hb0 := hb
  obtain ⟨b1, b2, b3, b4, b5, b6, -⟩ := hb
  rw [b6 6 (by omega), show mI M 28 6 = nI (A' 1) from hK.2.2.1.2.2.1]
  have hM1 : Mdl M1 72 A' := hMK.cg (b5 72 (by omega))
  refine hz _ _ ⟨hS1, hX.cg (fun q hq => b5 q (by omega)) (fun k => by unfold mJ; rw [b1]), fun Ψ hΨ => ?_⟩
  refine ⟨isO_pt hS1 (by decide) rfl, dR_of (Str.pg hS1 rfl) (dR_of (Str.pg hS1 rfl) (m_copy (by omega) (by omega) (ss_72 hS1) (ss_71 hS1) ⟨isO_pt (by exact hS1) (by decide) rfl, dR_of (Str.pg hS1 rfl) ⟨inA_pt (by exact hS1) rfl (vp_lit (by decide)), ?_⟩⟩))⟩
  rw [show ix (1 : Int32) = 1 from rfl, hM1.mv.1 1 (by omega) (by omega)]
  refine hΨ _ (hI.cpd (A2 := A') (A2' := A') (nx2 := nx') (nx2' := nx') (by exact hS1) b1 b2 (fun r hr k => by rw [mI_co (by omega)]; exact b5 r (by omega) k) (fun q j hq => b4 q j (by omega)) ?_ hM1.mv ?_ ?_ hO' hO' (Nat.le_refl _) x1 (fun i hi => (b3 i (by have := hO'.1.2.2.2.1; omega)).trans (x3 i hi)) (fun i hi => (b4 36 i (by omega)).trans (b3 i (by have := hO'.1.2.2.2.1; omega)).symm) (fun r q i hi y e => ?_))
  · exact (Bec.C hO'.1.2.2.2.2.2.1 hb0 hK).cg (fun q hq k => mI_co (by omega)) hO'.1.2.2.2.2.2.1
  · exact hK.cg (fun q hq k => by rw [mI_co (by omega)]; exact b5 q (by omega) k) hO'.1.2.2.2.2.2.1
  · exact hM1.cg fun k => mI_co (by omega)
  · rcases q with rfl | rfl
    · exact ⟨36, Or.inr rfl, (b3 i hi).symm.trans e⟩
    · exact ⟨36, Or.inr rfl, (b4 36 i (by omega)).symm.trans e⟩
