/-! ===== ALIKE, of the model ===== -/
theorem m_workOf {L B h s x : Nat} {A : Nat → Nat} {few : Int32} {M : fM} {φ : Int32 → fM → Prop} (hS : Str L M) (hM : Mdl M 71 A) (hO : Okk B A) (hh : h < 4) (hs1 : 1 ≤ s) (hs : s ≤ 14) (hx : x ≤ 9) (hz : φ (nI (wkN A h few s x)) M) : w_X11_workOf 70 (nI h) (nI s) (nI x) few M φ := by
  have hb9 := htA_b hO hh (show s < 15 by omega)
  refine ⟨isO_pt hS (by decide) rfl, m_heightOf hS hM hO rfl rfl hh hs (nm_of ?_)⟩
  unfold wkN at hz
  by_cases q : htA A h s ≤ x
  · rw [nI_sub q]
    refine iF_t ((nIle (a := 0) (by omega) (by omega)).mpr (Nat.zero_le _)) ?_
    by_cases z : few = 0
    · rw [if_pos z, if_pos q] at hz
      exact iF_t z hz
    · rw [if_neg z] at hz
      refine iF_f z ?_
      by_cases e : x = htA A h s
      · rw [if_pos e] at hz
        rw [show x - htA A h s = 0 by omega]
        exact iF_t (by decide) hz
      · rw [if_neg e] at hz
        exact iF_f (fun c => absurd ((nIle (b := 0) (by omega) (by omega)).mp c) (by omega)) hz
  · have e : nI x - nI (htA A h s) = -nI (htA A h s - x) := by
      rw [← nI_sub (by omega), Int32.neg_sub]
    rw [e]
    have lt : ¬ ((0 : Int32) ≤ -nI (htA A h s - x)) := fun c => by
      rw [le_toInt, tI_neg (by omega), show (0 : Int32).toInt = 0 from rfl] at c
      omega
    refine iF_f lt ?_
    by_cases z : few = 0
    · rw [if_pos z, if_neg q] at hz
      rw [Int32.neg_neg]
      exact iF_t z hz
    · rw [if_neg z, if_neg (by omega)] at hz
      exact iF_f z hz
theorem m_workBy {L B h s x y : Nat} {A : Nat → Nat} {tx : Nat → Int32} {few : Int32} {M : fM} {φ : Int32 → fM → Prop} (hS : Str L M) (hM : Mdl M 71 A) (hO : Okk B A) (hT : TrM M (A 4)) (h73 : mI M 73 = tx) (hh : h < 4) (hs1 : 1 ≤ s) (hs : s ≤ A (10 + 18 * h)) (hx1 : 1 ≤ x) (hx : x ≤ 9) (hy : y ≤ 9) (hl : s < A (10 + 18 * h) → mI M 81 (10 * (s + 1) + x) = nI (LW tx A h few (A (10 + 18 * h) - s) x)) (hz : ∀ M2, FN M M2 → φ (nI (csN tx A h few (A (10 + 18 * h) - s) y x)) M2) : w_X11_workBy 70 (nI h) (nI s) (nI x) (nI y) few M φ := by
  have hn := (hO.2.1 h hh).2.1
  have ex : (10 : Int32) + ((18 : Int32) * nI h) = nI (10 + 18 * h) := by simp only [lit32, nI_muL, nI_add]
  have ey : ((10 : Int32) * (nI s + (1 : Int32))) + nI x = nI (10 * (s + 1) + x) := by simp only [lit32, nI_muL, nI_add]
  have ens : A (10 + 18 * h) - (A (10 + 18 * h) - s) = s := by omega
  have lb := LW_b hO hh tx few (A (10 + 18 * h) - s) x
  have w9 := wkN_b hO hh (show s ≤ 14 by omega) hx few
  have go : j_X11_workBy_26 φ 70 (nI h) (nI s) (nI x) (nI y) few (nI (LW tx A h few (A (10 + 18 * h) - s) x)) M := by
    by_cases q : 1000000 ≤ LW tx A h few (A (10 + 18 * h) - s) x
    · refine iF_t ((nIle (a := 1000000) (by omega) (by omega)).mpr q) ?_
      have z := hz M (FN.rf M)
      have e : csN tx A h few (A (10 + 18 * h) - s) y x = 1000000 := by
        unfold csN w0N
        rw [if_pos q]
        split <;> rfl
      rw [e] at z
      exact z
    · refine iF_f (fun c => q ((nIle (a := 1000000) (by omega) (by omega)).mp c)) ⟨isO_pt hS (by decide) rfl, ⟨A 0 + 1, m_smo_l (L := L) (B := B) (tx := tx) hO hh hs hx hy (A 0) 0 M (by omega) hS hM hT h73 rfl fun M1 f1 => ?_⟩⟩
      have hS1 := f1.S hS
      cases ha : atB tx A h s x y (A 0) with
      | true =>
        rw [if_pos rfl]
        refine iF_t rfl ?_
        have z := hz M1 f1
        have e : csN tx A h few (A (10 + 18 * h) - s) y x = 1000000 := by
          unfold csN
          rw [ens, ha, if_pos rfl]
        rw [e] at z
        exact z
      | false =>
        rw [if_neg (by decide)]
        refine iF_f (by decide) ⟨isO_pt hS1 (by decide) rfl, m_workOf hS1 (f1.M hM) hO hh hs1 (by omega) hx ?_⟩
        have z := hz M1 f1
        have e : csN tx A h few (A (10 + 18 * h) - s) y x = LW tx A h few (A (10 + 18 * h) - s) x + wkN A h few s x := by
          unfold csN w0N
          rw [ens, ha, if_neg (by decide), if_neg q]
        rw [e] at z
        rw [nI_add]
        exact z
  unfold w_X11_workBy w_X11_stepsOf
  rw [ex, ey, ix_nI (by omega), ix_nI (by omega)]
  refine ⟨isO_pt hS (by decide) rfl, isO_pt hS (by decide) rfl, dR_of (Str.pg hS rfl) ⟨inA_pt hS rfl (vp_nI (by omega) (by decide)), ?_⟩⟩
  rw [hM.1 _ (by omega) (by omega)]
  by_cases q : s = A (10 + 18 * h)
  · refine iF_t (by rw [q]) ?_
    have e0 : LW tx A h few (A (10 + 18 * h) - s) x = 0 := by
      rw [show A (10 + 18 * h) - s = 0 by omega]
      rfl
    rw [e0] at go
    exact go
  · refine iF_f (fun c => q (nI_inj (by omega) (by omega) c)) ⟨isO_pt hS (by decide) rfl, dR_of (Str.pg hS rfl) ⟨inA_pt hS rfl (vp_nI (by omega) (by decide)), ?_⟩⟩
    rw [hl (by omega)]
    exact go
def Pm8 (tx : Nat → Int32) (A : Nat → Nat) (h : Nat) (few : Int32) (M : fM) (s : Nat) : Prop := ∀ s' y, s ≤ s' → s' ≤ A (10 + 18 * h) → 1 ≤ y → y ≤ 9 → mI M 81 (10 * s' + y) = nI (LW tx A h few (A (10 + 18 * h) + 1 - s') y)
theorem Pm8.l {tx : Nat → Int32} {A : Nat → Nat} {h : Nat} {few : Int32} {M : fM} {s x : Nat} (p : Pm8 tx A h few M (s + 1)) (hx1 : 1 ≤ x) (hx : x ≤ 9) (hs : s < A (10 + 18 * h)) : mI M 81 (10 * (s + 1) + x) = nI (LW tx A h few (A (10 + 18 * h) - s) x) := by
  have q := p (s + 1) x (Nat.le_refl _) (by omega) hx1 hx
  rw [show A (10 + 18 * h) + 1 - (s + 1) = A (10 + 18 * h) - s by omega] at q
  exact q
theorem Pm8.fn {tx : Nat → Int32} {A : Nat → Nat} {h : Nat} {few : Int32} {M M2 : fM} {s : Nat} (f : FN M M2) (p : Pm8 tx A h few M s) : Pm8 tx A h few M2 s := fun s' y a1 a2 a3 a4 => (f.2.1 81 (by omega) (by omega) _).trans (p s' y a1 a2 a3 a4)
theorem Frm.w81 {M : fM} {k : Nat} {v : Int32} : Frm scr M (wI M 81 k v) := ⟨rfl, fun _ => rfl, fun r hr j _ => mI_n (by unfold scr at hr; omega)⟩
theorem m_f28 {L B h s y : Nat} {A : Nat → Nat} {tx : Nat → Int32} {few : Int32} {φ : fM → Prop} {K6 : Nat → Int32 → Int32 → Int32 → fM → Prop} {K13 : Nat → Int32 → Int32 → Int32 → Int32 → fM → Prop} (hO : Okk B A) (hh : h < 4) (hs1 : 1 ≤ s) (hs : s ≤ A (10 + 18 * h)) (hy1 : 1 ≤ y) (hy : y ≤ 9) : ∀ (m x : Nat) (M : fM), x + m = 9 → Str L M → Mdl M 71 A → TrM M (A 4) → mI M 73 = tx → Pm8 tx A h few M (s + 1) → (∀ M2, FN M M2 → K13 70 (nI h) few (nI s) (nI (y + 1)) (wI M2 81 (10 * s + y) (nI (mnF (csN tx A h few (A (10 + 18 * h) - s) y) 9)))) → l_X11_findWork_28 K6 K13 φ (m + 1) 70 (nI h) few (nI s) (nI y) (nI (mnF (csN tx A h few (A (10 + 18 * h) - s) y) x)) (nI (x + 1)) M := by
  have hn := (hO.2.1 h hh).2.1
  have ey : ((10 : Int32) * nI s) + nI y = nI (10 * s + y) := by simp only [lit32, nI_muL, nI_add]
  intro m
  induction m with
  | zero =>
    intro x M hx hS hM hT h73 pl hz
    obtain rfl : x = 9 := by omega
    show b_X11_findWork_28 K6 K13 _ φ 70 (nI h) few (nI s) (nI y) _ (nI 10) M
    unfold b_X11_findWork_28
    rw [ey, ix_nI (by omega)]
    refine iF_t (by decide) ⟨isO_pt hS (by decide) rfl, dR_of (Str.pg hS rfl) ⟨by omega, inA_pt hS rfl (vp_nI (by omega) (by decide)), st_of (nm_of ?_)⟩⟩
    rw [show nI y + (1 : Int32) = nI (y + 1) from nI_add _ 1]
    exact hz M (FN.rf M)
  | succ m ih =>
    intro x M hx hS hM hT h73 pl hz
    show b_X11_findWork_28 K6 K13 (l_X11_findWork_28 K6 K13 φ (m + 1)) φ 70 (nI h) few (nI s) (nI y) (nI (mnF (csN tx A h few (A (10 + 18 * h) - s) y) x)) (nI (x + 1)) M
    generalize hK : l_X11_findWork_28 K6 K13 φ (m + 1) = K at ih ⊢
    have e1 : nI (x + 1) + (1 : Int32) = nI (x + 1 + 1) := nI_add _ 1
    have ml := mnF_le (csN tx A h few (A (10 + 18 * h) - s) y) x
    refine iF_f (fun c => absurd ((nIle (a := 10) (by omega) (by omega)).mp c) (by omega)) ⟨isO_pt hS (by decide) rfl, m_workBy hS hM hO hT h73 hh hs1 hs (by omega) (by omega) hy (fun q => pl.l (by omega) (by omega) q) fun M2 f2 => ?_⟩
    have cb : csN tx A h few (A (10 + 18 * h) - s) y (x + 1) ≤ 1000000 := by
      have := w0N_b hO hh tx few (j := A (10 + 18 * h) - s) (x := x + 1) (by omega) (by omega)
      unfold csN
      split <;> omega
    have go : K 70 (nI h) few (nI s) (nI y) (nI (mnF (csN tx A h few (A (10 + 18 * h) - s) y) (x + 1))) (nI (x + 1 + 1)) M2 := ih (x + 1) M2 (by omega) (f2.S hS) (f2.M hM) (hT.fn f2) (f2.x.trans h73) (pl.fn f2) fun M3 f3 => hz M3 (f2.tr f3)
    by_cases q : mnF (csN tx A h few (A (10 + 18 * h) - s) y) x ≤ csN tx A h few (A (10 + 18 * h) - s) y (x + 1)
    · refine iF_t ((nIle (by omega) (by omega)).mpr q) (nm_of ?_)
      rw [e1]
      rw [mnF_s, if_neg (by omega)] at go
      exact go
    · refine iF_f (fun c => q ((nIle (by omega) (by omega)).mp c)) (nm_of ?_)
      rw [e1]
      rw [mnF_s, if_pos (by omega)] at go
      exact go
theorem m_f13 {L B h s : Nat} {A : Nat → Nat} {tx : Nat → Int32} {few : Int32} {φ : fM → Prop} {K6 : Nat → Int32 → Int32 → Int32 → fM → Prop} (hO : Okk B A) (hh : h < 4) (hs1 : 1 ≤ s) (hs : s ≤ A (10 + 18 * h)) : ∀ (m y : Nat) (M : fM), y + m = 10 → 1 ≤ y → Str L M → Mdl M 71 A → TrM M (A 4) → mI M 73 = tx → Pm8 tx A h few M (s + 1) → (∀ y', 1 ≤ y' → y' < y → mI M 81 (10 * s + y') = nI (LW tx A h few (A (10 + 18 * h) + 1 - s) y')) → (∀ M2, Frm scr M M2 → Mdl M2 71 A → TrM M2 (A 4) → Pm8 tx A h few M2 s → K6 70 (nI h) few (nI (s - 1)) M2) → l_X11_findWork_13 K6 φ (m + 1) 70 (nI h) few (nI s) (nI y) M := by
  have hn := (hO.2.1 h hh).2.1
  intro m
  induction m with
  | zero =>
    intro y M hy h1 hS hM hT h73 pl dn hz
    obtain rfl : y = 10 := by omega
    refine iF_t (by decide) (nm_of ?_)
    rw [show nI s + (-1 : Int32) = nI (s - 1) from (Int32.sub_eq_add_neg _ _).symm.trans (nI_sub (b := 1) hs1)]
    refine hz M Frm.rf hM hT fun s' y' a1 a2 a3 a4 => ?_
    by_cases e : s' = s
    · subst e
      exact dn y' a3 (by omega)
    · exact pl s' y' (by omega) a2 a3 a4
  | succ m ih =>
    intro y M hy h1 hS hM hT h73 pl dn hz
    show b_X11_findWork_13 K6 (l_X11_findWork_13 K6 φ (m + 1)) φ 70 (nI h) few (nI s) (nI y) M
    generalize hK : l_X11_findWork_13 K6 φ (m + 1) = K at ih ⊢
    refine iF_f (fun c => absurd ((nIle (a := 10) (by omega) (by omega)).mp c) (by omega)) ⟨10, ?_⟩
    refine m_f28 (L := L) (B := B) (tx := tx) hO hh hs1 hs h1 (by omega) 9 0 M rfl hS hM hT h73 pl fun M2 f2 => ?_
    have f3 : Frm scr M2 (wI M2 81 (10 * s + y) (nI (mnF (csN tx A h few (A (10 + 18 * h) - s) y) 9))) := Frm.w81
    have hM2 := f2.M hM
    have hT2 := hT.fn f2
    have o81 : ∀ k, k ≠ 10 * s + y → mI (wI M2 81 (10 * s + y) (nI (mnF (csN tx A h few (A (10 + 18 * h) - s) y) 9))) 81 k = mI M 81 k := fun k hk => (mI_n (by omega)).trans (f2.2.1 81 (by omega) (by omega) k)
    have n81 : mI (wI M2 81 (10 * s + y) (nI (mnF (csN tx A h few (A (10 + 18 * h) - s) y) 9))) 81 (10 * s + y) = nI (mnF (csN tx A h few (A (10 + 18 * h) - s) y) 9) := mI_s rfl rfl
    have hM3 : Mdl (wI M2 81 (10 * s + y) (nI (mnF (csN tx A h few (A (10 + 18 * h) - s) y) 9))) 71 A := hM2.cg fun k => mI_n (by omega)
    generalize wI M2 81 (10 * s + y) (nI (mnF (csN tx A h few (A (10 + 18 * h) - s) y) 9)) = M3 at f3 o81 n81 hM3 ⊢
    have f := f2.f.tr f3
    refine ih (y + 1) M3 (by omega) (by omega) (f.S hS) hM3 (f3.sT hT2) ((f3.sm.m73).trans (f2.x.trans h73)) (fun s' y' a1 a2 a3 a4 => (o81 _ (by omega)).trans (pl s' y' a1 a2 a3 a4)) (fun y' a1 a2 => ?_) fun M4 f4 i1 i2 i3 => hz M4 (f.tr f4) i1 i2 i3
    by_cases e : y' = y
    · subst e
      rw [show A (10 + 18 * h) + 1 - s = A (10 + 18 * h) - s + 1 by omega]
      exact n81
    · exact (o81 _ (by omega)).trans (dn y' a1 (by omega))
theorem m_f6 {L B h : Nat} {A : Nat → Nat} {tx : Nat → Int32} {few : Int32} {φ : fM → Prop} (hO : Okk B A) (hh : h < 4) : ∀ (s : Nat) (M : fM), s ≤ A (10 + 18 * h) → Str L M → Mdl M 71 A → TrM M (A 4) → mI M 73 = tx → Pm8 tx A h few M (s + 1) → (∀ M2, Frm scr M M2 → Mdl M2 71 A → TrM M2 (A 4) → Pm8 tx A h few M2 1 → φ M2) → l_X11_findWork_6 φ (s + 1) 70 (nI h) few (nI s) M := by
  have hn := (hO.2.1 h hh).2.1
  intro s
  induction s with
  | zero =>
    intro M hs hS hM hT h73 pl hz
    exact iF_t (by decide) (hz M Frm.rf hM hT pl)
  | succ s ih =>
    intro M hs hS hM hT h73 pl hz
    show b_X11_findWork_6 (l_X11_findWork_6 φ (s + 1)) φ 70 (nI h) few (nI (s + 1)) M
    generalize hK : l_X11_findWork_6 φ (s + 1) = K at ih ⊢
    refine iF_f (fun c => absurd ((nIle (b := 0) (by omega) (by omega)).mp c) (by omega)) ⟨10, ?_⟩
    refine m_f13 (L := L) (B := B) (tx := tx) (s := s + 1) hO hh (by omega) hs 9 1 M rfl (Nat.le_refl _) hS hM hT h73 pl (fun y' a1 a2 => absurd a1 (by omega)) fun M2 f2 hM2 hT2 p2 => ?_
    rw [Nat.add_sub_cancel]
    exact ih M2 (by omega) (f2.S hS) hM2 hT2 ((f2.sm.m73).trans h73) p2 fun M3 f3 i1 i2 i3 => hz M3 (f2.tr f3) i1 i2 i3
theorem csN_f {tx : Nat → Int32} {A : Nat → Nat} {h : Nat} {few : Int32} {j y x : Nat} (e : csN tx A h few j y x < 1000000) : LW tx A h few j x < 1000000 := by
  unfold csN w0N at e
  split at e
  · omega
  · split at e
    · omega
    · omega
def chV (tx : Nat → Int32) (A : Nat → Nat) (h : Nat) (few : Int32) : Nat → Nat → Nat → Nat
  | 0, _, y => y
  | m + 1, k, y => chV tx A h few m (k + 1) (agF (csN tx A h few (A (10 + 18 * h) - k) y) 9)
theorem ch_nx {tx : Nat → Int32} {A : Nat → Nat} {h : Nat} {few : Int32} {k y : Nat} (hk : k ≤ A (10 + 18 * h)) (e : LW tx A h few (A (10 + 18 * h) + 1 - k) y < 1000000) : 1 ≤ agF (csN tx A h few (A (10 + 18 * h) - k) y) 9 ∧ agF (csN tx A h few (A (10 + 18 * h) - k) y) 9 ≤ 9 ∧ LW tx A h few (A (10 + 18 * h) + 1 - (k + 1)) (agF (csN tx A h few (A (10 + 18 * h) - k) y) 9) < 1000000 ∧ csN tx A h few (A (10 + 18 * h) - k) y (agF (csN tx A h few (A (10 + 18 * h) - k) y) 9) = LW tx A h few (A (10 + 18 * h) + 1 - k) y ∧ ∀ x, 1 ≤ x → x < agF (csN tx A h few (A (10 + 18 * h) - k) y) 9 → LW tx A h few (A (10 + 18 * h) + 1 - k) y < csN tx A h few (A (10 + 18 * h) - k) y x := by
  rw [show A (10 + 18 * h) + 1 - k = A (10 + 18 * h) - k + 1 by omega, LW_s] at e ⊢
  obtain ⟨a1, a2, a3, a4⟩ := mnF_ag 9 e
  rw [show A (10 + 18 * h) + 1 - (k + 1) = A (10 + 18 * h) - k by omega]
  exact ⟨a1, a2, csN_f (by rw [a3]; exact e), a3, a4⟩
theorem c_l73 {L st h : Nat} {A : Nat → Nat} {tx : Nat → Int32} {few : Int32} {M : fM} {φ : Int32 → fM → Prop} (hS : Str L M) (hn : A (10 + 18 * h) ≤ 14) (hst : st ≤ A (10 + 18 * h)) (pl : Pl8 tx A h few M 1) : ∀ (m k y : Nat), k + m = st + 1 → 1 ≤ k → 1 ≤ y → y ≤ 9 → (1 < k ∨ y = 5) → LW tx A h few (A (10 + 18 * h) + 1 - k) y < 1000000 → φ (nI (chV tx A h few m k y)) M → l_X2_levelled_73 φ (m + 1) 66 (nI st) (nI y) (nI k) M := by
  intro m
  induction m with
  | zero =>
    intro k y hk k1 y1 y9 hc hl hz
    exact iF_t ((nIlt (by omega) (by omega)).mpr (by omega)) hz
  | succ m ih =>
    intro k y hk k1 y1 y9 hc hl hz
    show b_X2_levelled_73 (l_X2_levelled_73 φ (m + 1)) φ 66 (nI st) (nI y) (nI k) M
    obtain ⟨a1, a2, a3, -⟩ := ch_nx (by omega) hl
    refine iF_f (fun c => absurd ((nIlt (by omega) (by omega)).mp c) (by omega)) ⟨isO_pt hS (by decide) rfl, dR_of (Str.pg hS rfl) (c_cellN (k := 10 * k + y) (Str.sh hS 67 _ rfl) (by rw [Int32.mul_comm]; simp only [lit32, nI_muL, nI_add]) (by omega) (by omega) (nm_of ?_))⟩
    rw [(pl.2 k y k1 (by omega) y1 y9 hc).2, show nI k + (1 : Int32) = nI (k + 1) from nI_add _ 1]
    exact ih (k + 1) _ (by omega) (by omega) a1 a2 (Or.inl (by omega)) a3 hz
theorem m_l78 {L B h k y : Nat} {A : Nat → Nat} {tx : Nat → Int32} {few : Int32} {st : Int32} {φ : Int32 → fM → Prop} {K69 : Nat → Int32 → Int32 → Int32 → Int32 → Int32 → fM → Prop} (hO : Okk B A) (hh : h < 4) (k1 : 1 ≤ k) (hk : k ≤ A (10 + 18 * h)) (y1 : 1 ≤ y) (y9 : y ≤ 9) (hl : LW tx A h few (A (10 + 18 * h) + 1 - k) y < 1000000) : ∀ (m x : Nat) (M : fM), x + m = agF (csN tx A h few (A (10 + 18 * h) - k) y) 9 → 1 ≤ x → Str L M → Mdl M 71 A → TrM M (A 4) → mI M 73 = tx → Pm8 tx A h few M 1 → (∀ M2, FN M M2 → K69 70 (nI h) st few (nI (agF (csN tx A h few (A (10 + 18 * h) - k) y) 9)) (nI (k + 1)) M2) → l_X11_alike_78 K69 φ (m + 1) 70 (nI h) st few (nI y) (nI k) (nI x) M := by
  have hn := (hO.2.1 h hh).2.1
  obtain ⟨a1, a2, a3, a4, a5⟩ := ch_nx hk hl
  have ey : ((10 : Int32) * nI k) + nI y = nI (10 * k + y) := by simp only [lit32, nI_muL, nI_add]
  intro m
  induction m with
  | zero =>
    intro x M hx x1 hS hM hT h73 pl hz
    obtain rfl : x = agF (csN tx A h few (A (10 + 18 * h) - k) y) 9 := by omega
    generalize hb : agF (csN tx A h few (A (10 + 18 * h) - k) y) 9 = b at a1 a2 a4 hz x1 ⊢
    show b_X11_alike_78 K69 _ φ 70 (nI h) st few (nI y) (nI k) (nI b) M
    unfold b_X11_alike_78
    rw [ey, ix_nI (by omega)]
    refine ⟨isO_pt hS (by decide) rfl, m_workBy hS hM hO hT h73 hh k1 hk a1 a2 y9 (fun q => Pm8.l (show Pm8 tx A h few M (k + 1) from fun s' y' b1 b2 b3 b4 => pl s' y' (by omega) b2 b3 b4) a1 a2 q) fun M2 f2 => ?_⟩
    have hS2 := f2.S hS
    refine ⟨isO_pt hS2 (by decide) rfl, dR_of (Str.pg hS2 rfl) ⟨inA_pt hS2 rfl (vp_nI (by omega) (by decide)), ?_⟩⟩
    rw [(pl.fn f2) k y k1 hk y1 y9, a4]
    refine iF_t rfl (nm_of ?_)
    rw [show nI k + (1 : Int32) = nI (k + 1) from nI_add _ 1]
    exact hz M2 f2
  | succ m ih =>
    intro x M hx x1 hS hM hT h73 pl hz
    show b_X11_alike_78 K69 (l_X11_alike_78 K69 φ (m + 1)) φ 70 (nI h) st few (nI y) (nI k) (nI x) M
    generalize hK : l_X11_alike_78 K69 φ (m + 1) = K at ih ⊢
    unfold b_X11_alike_78
    rw [ey, ix_nI (by omega)]
    refine ⟨isO_pt hS (by decide) rfl, m_workBy hS hM hO hT h73 hh k1 hk x1 (by omega) y9 (fun q => Pm8.l (show Pm8 tx A h few M (k + 1) from fun s' y' b1 b2 b3 b4 => pl s' y' (by omega) b2 b3 b4) x1 (by omega) q) fun M2 f2 => ?_⟩
    have hS2 := f2.S hS
    refine ⟨isO_pt hS2 (by decide) rfl, dR_of (Str.pg hS2 rfl) ⟨inA_pt hS2 rfl (vp_nI (by omega) (by decide)), ?_⟩⟩
    rw [(pl.fn f2) k y k1 hk y1 y9]
    have lt := a5 x x1 (by omega)
    have cb : csN tx A h few (A (10 + 18 * h) - k) y x ≤ 1000000 := by
      have := w0N_b hO hh tx few (j := A (10 + 18 * h) - k) (x := x) (by omega) (by omega)
      unfold csN
      split <;> omega
    refine iF_f (fun c => ?_) (nm_of ?_)
    · have := nI_inj (by omega) (by omega) c
      omega
    · rw [show nI x + (1 : Int32) = nI (x + 1) from nI_add _ 1]
      exact ih (x + 1) M2 (by omega) (by omega) hS2 (f2.M hM) (hT.fn f2) (f2.x.trans h73) (pl.fn f2) fun M3 f3 => hz M3 (f2.tr f3)
theorem m_l69 {L B h st : Nat} {A : Nat → Nat} {tx : Nat → Int32} {few : Int32} {φ : Int32 → fM → Prop} (hO : Okk B A) (hh : h < 4) (hst : st ≤ A (10 + 18 * h)) : ∀ (m k y : Nat) (M : fM), k + m = st + 1 → 1 ≤ k → 1 ≤ y → y ≤ 9 → LW tx A h few (A (10 + 18 * h) + 1 - k) y < 1000000 → Str L M → Mdl M 71 A → TrM M (A 4) → mI M 73 = tx → Pm8 tx A h few M 1 → (∀ M2, FN M M2 → φ (nI (chV tx A h few m k y)) M2) → l_X11_alike_69 φ (m + 1) 70 (nI h) (nI st) few (nI y) (nI k) M := by
  have hn := (hO.2.1 h hh).2.1
  intro m
  induction m with
  | zero =>
    intro k y M hk k1 y1 y9 hl hS hM hT h73 pl hz
    exact iF_t ((nIlt (by omega) (by omega)).mpr (by omega)) (hz M (FN.rf M))
  | succ m ih =>
    intro k y M hk k1 y1 y9 hl hS hM hT h73 pl hz
    show b_X11_alike_69 (l_X11_alike_69 φ (m + 1)) φ 70 (nI h) (nI st) few (nI y) (nI k) M
    generalize hK : l_X11_alike_69 φ (m + 1) = K at ih ⊢
    obtain ⟨a1, a2, a3, -⟩ := ch_nx (by omega) hl
    refine iF_f (fun c => absurd ((nIlt (by omega) (by omega)).mp c) (by omega)) ⟨agF (csN tx A h few (A (10 + 18 * h) - k) y) 9 - 1 + 1, m_l78 (L := L) (B := B) (tx := tx) hO hh k1 (by omega) y1 y9 hl (agF (csN tx A h few (A (10 + 18 * h) - k) y) 9 - 1) 1 M (by omega) (Nat.le_refl _) hS hM hT h73 pl fun M2 f2 => ?_⟩
    exact ih (k + 1) _ M2 (by omega) (by omega) a1 a2 a3 (f2.S hS) (f2.M hM) (hT.fn f2) (f2.x.trans h73) (pl.fn f2) fun M3 f3 => hz M3 (f2.tr f3)
def alV (tx : Nat → Int32) (A : Nat → Nat) (h : Nat) (few b : Int32) (st : Nat) : Int32 := if 1000000 ≤ LW tx A h few (A (10 + 18 * h)) 5 then -1 else if b = -1 then nI (LW tx A h few (A (10 + 18 * h)) 5) else nI (chV tx A h few st 1 5)
theorem c_j31 {L B nx h st : Nat} {A : Nat → Nat} {tx : Nat → Int32} {few b : Int32} {M : fM} {φ : Int32 → fM → Prop} (hO : Okk B A) (hh : h < 4) (hb : b = -1 ∨ (b ≠ -1 ∧ b = nI st ∧ st ≤ A (10 + 18 * h))) (hS : Str L M) (hC : Cls M 10 A nx) (hT : ∀ i, i < A 3 → TxR M 18 i) (hx : mI M 73 = tx) (hz : ∀ M2, Frm scr M M2 → φ (alV tx A h few b st) M2) : j_X2_levelled_31 φ 66 (nI h) b few (20 + 2 * h) M := by
  have hn := (hO.2.1 h hh).2.1
  have lb := LW_b hO hh tx few (A (10 + 18 * h)) 5
  refine ⟨isO_pt hS (by decide) rfl, c_plan (L := L) (B := B) (nx := nx) (tx := tx) hO hh hS hC hT hx fun M2 f2 pl => ?_⟩
  have hS2 := f2.S hS
  have hn1 := (hO.2.1 h hh).1
  refine ⟨isO_pt hS2 (by decide) rfl, dR_of (Str.pg hS2 rfl) (c_cellN (k := 15) (Str.sh hS2 66 _ rfl) rfl (by omega) (by omega) ?_)⟩
  have e15 : mI M2 67 15 = nI (LW tx A h few (A (10 + 18 * h)) 5) := (pl.2 1 5 (Nat.le_refl _) hn1 (by omega) (by omega) (Or.inr rfl)).1
  rw [e15]
  have q := hz M2 f2
  unfold alV at q
  by_cases z : 1000000 ≤ LW tx A h few (A (10 + 18 * h)) 5
  · rw [if_pos z] at q
    exact iF_f (fun c => absurd ((nIlt (b := 1000000) (by omega) (by omega)).mp c) (by omega)) q
  · rw [if_neg z] at q
    refine iF_t ((nIlt (b := 1000000) (by omega) (by omega)).mpr (by omega)) ?_
    rcases hb with e | ⟨e, e2, hst⟩
    · rw [if_pos e] at q
      exact iF_t e q
    · rw [if_neg e] at q
      refine iF_f e ⟨st + 1, ?_⟩
      rw [e2]
      exact c_l73 hS2 hn hst pl st 1 5 (by omega) (Nat.le_refl _) (by omega) (by omega) (Or.inr rfl) (by rw [Nat.add_sub_cancel]; omega) q
theorem m_j23 {L B h st : Nat} {A : Nat → Nat} {tx : Nat → Int32} {few b : Int32} {M : fM} {φ : Int32 → fM → Prop} (hO : Okk B A) (hh : h < 4) (hb : b = -1 ∨ (b ≠ -1 ∧ b = nI st ∧ st ≤ A (10 + 18 * h))) (hS : Str L M) (hM : Mdl M 71 A) (hT : TrM M (A 4)) (hx : mI M 73 = tx) (hz : ∀ M2, Frm scr M M2 → φ (alV tx A h few b st) M2) : j_X11_alike_23 φ 70 (nI h) b few M := by
  obtain ⟨hn1, hn, -⟩ := hO.2.1 h hh
  have lb := LW_b hO hh tx few (A (10 + 18 * h)) 5
  have ex : (10 : Int32) + ((18 : Int32) * nI h) = nI (10 + 18 * h) := by simp only [lit32, nI_muL, nI_add]
  unfold j_X11_alike_23 w_X11_findWork w_X11_stepsOf
  rw [ex, ix_nI (by omega)]
  refine ⟨isO_pt hS (by decide) rfl, isO_pt hS (by decide) rfl, isO_pt hS (by decide) rfl, dR_of (Str.pg hS rfl) ⟨inA_pt hS rfl (vp_nI (by omega) (by decide)), ?_⟩⟩
  rw [hM.1 _ (by omega) (by omega)]
  refine ⟨A (10 + 18 * h) + 1, m_f6 (L := L) (B := B) (tx := tx) hO hh (A (10 + 18 * h)) M (Nat.le_refl _) hS hM hT hx (fun s' y a1 a2 => absurd a1 (by omega)) fun M2 f2 hM2 hT2 pl => ?_⟩
  have hS2 := f2.S hS
  have e15 : mI M2 81 15 = nI (LW tx A h few (A (10 + 18 * h)) 5) := pl 1 5 (Nat.le_refl _) hn1 (by omega) (by omega)
  rw [show (10 : Int32) + (5 : Int32) = nI 15 from rfl, ix_nI (by omega)]
  refine ⟨isO_pt hS2 (by decide) rfl, dR_of (Str.pg hS2 rfl) ⟨inA_pt hS2 rfl (vp_nI (by omega) (by decide)), ?_⟩⟩
  rw [e15]
  by_cases z : 1000000 ≤ LW tx A h few (A (10 + 18 * h)) 5
  · have q := hz M2 f2
    unfold alV at q
    rw [if_pos z] at q
    exact iF_f (fun c => absurd ((nIlt (b := 1000000) (by omega) (by omega)).mp c) (by omega)) q
  · refine iF_t ((nIlt (b := 1000000) (by omega) (by omega)).mpr (by omega)) ?_
    rcases hb with e | ⟨e, e2, hst⟩
    · have q := hz M2 f2
      unfold alV at q
      rw [if_neg z, if_pos e] at q
      refine iF_t e (dR_of (Str.pg hS2 rfl) ⟨inA_pt hS2 rfl (vp_nI (by omega) (by decide)), ?_⟩)
      rw [e15]
      exact q
    · refine iF_f e ⟨st + 1, ?_⟩
      unfold alV at hz
      rw [if_neg z, if_neg e] at hz
      rw [e2]
      exact m_l69 (L := L) (B := B) (tx := tx) hO hh hst st 1 5 M2 (by omega) (Nat.le_refl _) (by omega) (by omega) (by rw [Nat.add_sub_cancel]; omega) hS2 hM2 hT2 ((f2.sm.m73).trans hx) pl fun M3 f3 => hz M3 (f2.tr f3.f)
theorem k_alike {L B : Nat} {X : Nat → Int32} {M : fM} {a b c : Int32} {φ : Int32 → fM → Prop} (hI : Inv L X B M) (hz : ∀ v M1, Mid L X B (fun M φ => w_X11_alike 70 a b c M φ) v M1 → φ v M1) : w_X10_alike 6 a b c M φ := by
  obtain ⟨A, A', nx, nx', tl, tp, hI⟩ := hI
  obtain ⟨hS, hX, hC, hM, hK, hMK, hO, hO', hTp, hFl, hTx⟩ := id hI
  obtain ⟨cn, cm, cr, ct, ch, p1, p2, p3, s4, s5, s6, s9, s11, s14, s15, s17, cb, cg⟩ := hC.f
  obtain ⟨hH, hP, hSc, hW, hB, hG, hA⟩ := id hC
  obtain ⟨m1, m4⟩ := id hM
  obtain ⟨f5, f6⟩ := id hFl
  obtain ⟨t0, t1, t2, t3⟩ := id hTp
  have e1 : 0 + 0 = 0 := rfl
  have e2 : 0 + 0 = 0 := rfl
  have e3 : 0 + 0 = 0 := rfl
  obtain ⟨⟨o0, o1, o2, o3, o4, o5, o6, o7, o8, o9⟩, oH, oP, oW, oA, oG, oB⟩ := id hO
  refine ⟨isO_pt hS (by decide) rfl, dR_of (Str.pg hS rfl) ⟨isO_pt hS (by decide) rfl, ⟨isO_pt hS (by decide) rfl, dR_of (Str.pg hS rfl) ⟨isO_pt hS (by decide) rfl, ?_⟩⟩⟩⟩
  rcases Decidable.em (0 ≤ a.toInt ∧ a.toInt ≤ (3 : Nat)) with hv | hv
  · obtain ⟨h, hh3, rfl⟩ := rgI hv.1 hv.2
    have hh : h < 4 := by omega
    obtain ⟨hn1, hn, -⟩ := oH h hh
    have ex : (10 : Int32) + ((18 : Int32) * nI h) = nI (10 + 18 * h) := by simp only [lit32, nI_muL, nI_add]
    have good : ∀ st, (b = -1 ∨ (b ≠ -1 ∧ b = nI st ∧ 1 ≤ st ∧ st ≤ A (10 + 18 * h))) → j_X2_levelled_31 φ 66 (nI h) b c (20 + 2 * h) M := by
      intro st hb
      have hb2 : b = -1 ∨ (b ≠ -1 ∧ b = nI st ∧ st ≤ A (10 + 18 * h)) := by
        rcases hb with e | ⟨e1, e2, -, e3⟩
        · exact Or.inl e
        · exact Or.inr ⟨e1, e2, e3⟩
      refine c_j31 (L := L) (B := B) (nx := nx) (tx := mI M 73) hO hh hb2 hS hC hTx.2.1 rfl fun M2 f2 => ?_
      refine mids hS hX hz f2 fun Ψ hΨ => ?_
      have hS2 := f2.S hS
      have hM2 := f2.sc.cM hM
      have q : j_X11_alike_23 Ψ 70 (nI h) b c M2 := m_j23 (L := L) (B := B) (tx := mI M 73) hO hh hb2 hS2 hM2 (TrM.of o3 (fun i hi => f2.sc.cT (hTx.2.1 i hi)) o4) f2.sc.c73 fun M3 f3 => hΨ _ (hI.look f2 f3)
      show w_X11_alike 70 (nI h) b c _ _
      unfold w_X11_alike
      refine iF_f (fun q => absurd ((nIlt (b := 0) (by omega) (by omega)).mp q) (by omega)) (iF_f (fun q => absurd ((nIlt (a := 3) (by omega) (by omega)).mp q) (by omega)) ⟨isB1, iF_f (by decide) ?_⟩)
      rcases hb with e | ⟨e, e2, e3, e4⟩
      · exact iF_t e q
      · refine iF_f e ⟨isO_pt hS2 (by decide) rfl, ?_⟩
        rw [e2] at q ⊢
        refine iF_f (fun q => absurd ((nIlt (b := 0) (by omega) (by omega)).mp q) (by omega)) (iF_f (fun q => absurd ((nIlt (a := 3) (by omega) (by omega)).mp q) (by omega)) ⟨isB1, iF_f (by decide) ⟨isO_pt hS2 (by decide) rfl, ?_⟩⟩)
        unfold w_X11_stepsOf
        rw [ex, ix_nI (by omega)]
        refine ⟨isO_pt hS2 (by decide) rfl, dR_of (Str.pg hS2 rfl) ⟨inA_pt hS2 rfl (vp_nI (by omega) (by decide)), ?_⟩⟩
        rw [hM2.1 _ (by omega) (by omega)]
        exact iF_f (fun q => absurd ((nIlt (b := 1) (by omega) (by omega)).mp q) (by omega)) (iF_f (fun q => absurd ((nIlt (by omega) (by omega)).mp q) (by omega)) (iF_f (by decide) (iF_f (by decide) q)))
    refine c_hO10 hS hh (gN_of rfl ?_)
    by_cases e : b = -1
    · exact iF_t e (good 0 (Or.inl e))
    · refine iF_f e ⟨isO_hs hS hh, ?_⟩
      rcases Decidable.em (((1 : Nat) : Int) ≤ b.toInt ∧ b.toInt ≤ (A (10 + 18 * h) : Nat)) with hw | hw
      · obtain ⟨st, s1, s2, e2⟩ := rgJ hw.1 hw.2
        have q := good st (Or.inr ⟨e, e2, s1, s2⟩)
        rw [e2] at q ⊢
        refine iF_f (fun q => absurd ((nIlt (b := 1) (by omega) (by omega)).mp q) (by omega)) ⟨isO_hs hS hh, ?_⟩
        rw [cn h hh]
        exact iF_f (fun q => absurd ((nIlt (by omega) (by omega)).mp q) (by omega)) (iF_f (by decide) q)
      · have no : φ (-1) M := by
          refine mids hS hX hz Frm.rf fun Ψ hΨ => ?_
          have q := hΨ _ hI.inv
          show w_X11_alike 70 (nI h) b c _ _
          unfold w_X11_alike
          refine iF_f (fun q => absurd ((nIlt (b := 0) (by omega) (by omega)).mp q) (by omega)) (iF_f (fun q => absurd ((nIlt (a := 3) (by omega) (by omega)).mp q) (by omega)) ⟨isB1, iF_f (by decide) ?_⟩)
          refine iF_f e ⟨isO_pt hS (by decide) rfl, ?_⟩
          refine iF_f (fun q => absurd ((nIlt (b := 0) (by omega) (by omega)).mp q) (by omega)) (iF_f (fun q => absurd ((nIlt (a := 3) (by omega) (by omega)).mp q) (by omega)) ⟨isB1, iF_f (by decide) ⟨isO_pt hS (by decide) rfl, ?_⟩⟩)
          unfold w_X11_stepsOf
          rw [ex, ix_nI (by omega)]
          refine ⟨isO_pt hS (by decide) rfl, dR_of (Str.pg hS rfl) ⟨inA_pt hS rfl (vp_nI (by omega) (by decide)), ?_⟩⟩
          rw [hM.1 _ (by omega) (by omega)]
          refine iF_s (fun _ => iF_t rfl (iF_t rfl q)) (fun c1 => iF_s (fun _ => iF_t rfl (iF_t rfl q)) (fun c2 => ?_))
          exfalso
          rw [lt_toInt, show (1 : Int32).toInt = 1 from rfl] at c1
          rw [lt_toInt, toInt_nI (by omega)] at c2
          omega
        refine iF_s (fun _ => iF_t rfl no) (fun c1 => ⟨isO_hs hS hh, ?_⟩)
        rw [cn h hh]
        refine iF_s (fun _ => iF_t rfl no) (fun c2 => ?_)
        exfalso
        rw [lt_toInt, show (1 : Int32).toInt = 1 from rfl] at c1
        rw [lt_toInt, toInt_nI (by omega)] at c2
        omega
  · have no : φ (-1) M := by
      refine mids hS hX hz Frm.rf fun Ψ hΨ => ?_
      have q := hΨ _ hI.inv
      show w_X11_alike 70 a b c _ _
      unfold w_X11_alike
      refine iF_s (fun _ => ⟨isB0, iF_t rfl q⟩) (fun c1 => iF_s (fun _ => ⟨isB0, iF_t rfl q⟩) (fun c2 => ?_))
      exfalso
      rw [lt_toInt, show (0 : Int32).toInt = 0 from rfl] at c1
      rw [lt_toInt, show (3 : Int32).toInt = 3 from rfl] at c2
      omega
    unfold w_X5_houseOf
    repeat' (first | ((with_reducible refine c_fil_hh (L := L) ?_ ?_ ?_); (exact hS); omega) | ((with_reducible refine c_build (L := L) ?_ ?_ ?_); (exact hS); omega) | with_reducible refine nm_of ?_ | with_reducible refine st_of ?_ | ((with_reducible apply dR_of); first | exact Str.pg hS rfl | exact sp_hsx hS (by omega) | exact sp_hs hS (by omega) | exact sp_hh hS (by omega) | assumption | fail) | ((with_reducible refine And.intro ?_ ?_); first | exact isO_pt hS (by decide) rfl | exact inA_pt hS rfl (by (first | exact vp_lit (by decide) | (simp (disch := omega) only [lit32, Nat.add_sub_cancel, Nat.sub_zero, Nat.reduceSub, nI_add, nI_muL, nI_sub, ix_nI, mI_s, mI_n, mI_fs, mI_fn, mI_ci, mI_co, mI_si, mI_so, Nat.add_zero, up_n, up_s, cpA_i, cpA_o, shA_i, shA_o, fiA_i, fiA_o, imin_l, imin_r, nI_mod, nI_div, xr_e, cn, cm, cr, ct, ch, p1, p2, p3, s4, s5, s6, s9, s11, s14, s15, s17, cb, cg, m1, m4, f5, f6, t1, t2, e1, e2, e3]; first | done | exact vp_nI (by omega) (by decide)) | exact vp_nI (by omega) (by decide) | fail)) | omega | exact isO_hs hS (by omega) | exact inA_hh hS (by omega) (by (first | exact vp_lit (by decide) | (simp (disch := omega) only [lit32, Nat.add_sub_cancel, Nat.sub_zero, Nat.reduceSub, nI_add, nI_muL, nI_sub, ix_nI, mI_s, mI_n, mI_fs, mI_fn, mI_ci, mI_co, mI_si, mI_so, Nat.add_zero, up_n, up_s, cpA_i, cpA_o, shA_i, shA_o, fiA_i, fiA_o, imin_l, imin_r, nI_mod, nI_div, xr_e, cn, cm, cr, ct, ch, p1, p2, p3, s4, s5, s6, s9, s11, s14, s15, s17, cb, cg, m1, m4, f5, f6, t1, t2, e1, e2, e3]; first | done | exact vp_nI (by omega) (by decide)) | exact vp_nI (by omega) (by decide) | fail)) | exact isB1 | exact isB0 | assumption | fail) | ((with_reducible apply lenA_of); first | exact Str.sh hS _ _ rfl | exact ss_hh hS (by omega) | assumption | fail) | with_reducible refine gN_of rfl ?_ | with_reducible refine gN_no rfl ?_ | ((with_reducible refine iF_t ?_ ?_); focus ((try simp (disch := omega) only [lit32, Nat.add_sub_cancel, Nat.sub_zero, Nat.reduceSub, nI_add, nI_muL, nI_sub, ix_nI, mI_s, mI_n, mI_fs, mI_fn, mI_ci, mI_co, mI_si, mI_so, Nat.add_zero, up_n, up_s, cpA_i, cpA_o, shA_i, shA_o, fiA_i, fiA_o, imin_l, imin_r, nI_mod, nI_div, xr_e, cn, cm, cr, ct, ch, p1, p2, p3, s4, s5, s6, s9, s11, s14, s15, s17, cb, cg, m1, m4, f5, f6, t1, t2, e1, e2, e3, lt_toInt, le_toInt, eq_toInt, toInt_nI, tI_neg, bt_e, tI_sub, tI_subR, tI_subL]); first | done | omega)) | ((with_reducible refine iF_f ?_ ?_); focus ((try simp (disch := omega) only [lit32, Nat.add_sub_cancel, Nat.sub_zero, Nat.reduceSub, nI_add, nI_muL, nI_sub, ix_nI, mI_s, mI_n, mI_fs, mI_fn, mI_ci, mI_co, mI_si, mI_so, Nat.add_zero, up_n, up_s, cpA_i, cpA_o, shA_i, shA_o, fiA_i, fiA_o, imin_l, imin_r, nI_mod, nI_div, xr_e, cn, cm, cr, ct, ch, p1, p2, p3, s4, s5, s6, s9, s11, s14, s15, s17, cb, cg, m1, m4, f5, f6, t1, t2, e1, e2, e3, lt_toInt, le_toInt, eq_toInt, toInt_nI, tI_neg, bt_e, tI_sub, tI_subR, tI_subL]); first | done | omega)) | ((with_reducible refine iF_s (fun hc => ?_) (fun hc => ?_)) <;> (try simp (disch := omega) only [lit32, Nat.add_sub_cancel, Nat.sub_zero, Nat.reduceSub, nI_add, nI_muL, nI_sub, ix_nI, mI_s, mI_n, mI_fs, mI_fn, mI_ci, mI_co, mI_si, mI_so, Nat.add_zero, up_n, up_s, cpA_i, cpA_o, shA_i, shA_o, fiA_i, fiA_o, imin_l, imin_r, nI_mod, nI_div, xr_e, cn, cm, cr, ct, ch, p1, p2, p3, s4, s5, s6, s9, s11, s14, s15, s17, cb, cg, m1, m4, f5, f6, t1, t2, e1, e2, e3, lt_toInt, le_toInt, eq_toInt, toInt_nI, tI_neg, bt_e, tI_sub, tI_subR, tI_subL] at hc)) | fail)
    all_goals first | (exfalso; omega) | exact no | fail
