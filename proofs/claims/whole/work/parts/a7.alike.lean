/-! ===== ALIKE: the least work, the numbers ===== -/
def atB (tx : Nat → Int32) (A : Nat → Nat) (h s x y : Nat) : Nat → Bool
  | 0 => false
  | m + 1 => atB tx A h s x y m || vR tx (A 4) A m h 0 s x y
theorem atB_s {tx : Nat → Int32} {A : Nat → Nat} {h s x y m : Nat} : atB tx A h s x y (m + 1) = (atB tx A h s x y m || vR tx (A 4) A m h 0 s x y) := rfl
theorem atB_m {tx : Nat → Int32} {A : Nat → Nat} {h s x y m : Nat} (e : atB tx A h s x y m = true) : ∀ k, atB tx A h s x y (m + k) = true
  | 0 => e
  | k + 1 => by
    show (atB tx A h s x y (m + k) || vR tx (A 4) A (m + k) h 0 s x y) = true
    rw [atB_m e k]
    rfl
def wkN (A : Nat → Nat) (h : Nat) (few : Int32) (s x : Nat) : Nat := if few = 0 then (if htA A h s ≤ x then x - htA A h s else htA A h s - x) else if x = htA A h s then 0 else 1
theorem wkN_b {B h s x : Nat} {A : Nat → Nat} (hO : Okk B A) (hh : h < 4) (hs : s ≤ 14) (hx : x ≤ 9) (few : Int32) : wkN A h few s x ≤ 9 := by
  have := htA_b hO hh (show s < 15 by omega)
  unfold wkN
  (repeat' split) <;> omega
def mnF (f : Nat → Nat) : Nat → Nat
  | 0 => 1000000
  | m + 1 => if f (m + 1) < mnF f m then f (m + 1) else mnF f m
def agF (f : Nat → Nat) : Nat → Nat
  | 0 => 5
  | m + 1 => if f (m + 1) < mnF f m then m + 1 else agF f m
theorem mnF_s (f : Nat → Nat) (m : Nat) : mnF f (m + 1) = if f (m + 1) < mnF f m then f (m + 1) else mnF f m := rfl
theorem agF_s (f : Nat → Nat) (m : Nat) : agF f (m + 1) = if f (m + 1) < mnF f m then m + 1 else agF f m := rfl
theorem mnF_le (f : Nat → Nat) : ∀ m, mnF f m ≤ 1000000
  | 0 => Nat.le_refl _
  | m + 1 => by
    have := mnF_le f m
    rw [mnF_s]
    split <;> omega
theorem mnF_x {f : Nat → Nat} {x : Nat} (h1 : 1 ≤ x) : ∀ m, x ≤ m → mnF f m ≤ f x
  | 0, h => absurd h (by omega)
  | m + 1, h => by
    rw [mnF_s]
    by_cases e : x = m + 1
    · subst e
      split <;> omega
    · have := mnF_x (f := f) h1 m (by omega)
      split <;> omega
theorem mnF_ag {f : Nat → Nat} : ∀ m, mnF f m < 1000000 → 1 ≤ agF f m ∧ agF f m ≤ m ∧ f (agF f m) = mnF f m ∧ ∀ x, 1 ≤ x → x < agF f m → mnF f m < f x
  | 0, h => absurd h (Nat.lt_irrefl _)
  | m + 1, h => by
    rw [mnF_s] at h ⊢
    rw [agF_s]
    by_cases e : f (m + 1) < mnF f m
    · rw [if_pos e, if_pos e]
      refine ⟨by omega, Nat.le_refl _, rfl, fun x h1 h2 => ?_⟩
      have := mnF_x (f := f) h1 m (by omega)
      omega
    · rw [if_neg e] at h
      rw [if_neg e, if_neg e]
      obtain ⟨q1, q2, q3, q4⟩ := mnF_ag m h
      exact ⟨q1, by omega, q3, q4⟩
theorem mnF_u {f : Nat → Nat} {m b : Nat} (hb1 : 1 ≤ b) (hb2 : b ≤ m) (hb3 : f b < 1000000) (h1 : ∀ x, 1 ≤ x → x ≤ m → f b ≤ f x) (h2 : ∀ x, 1 ≤ x → x < b → f b < f x) : mnF f m = f b ∧ agF f m = b := by
  have q := mnF_x (f := f) hb1 m hb2
  obtain ⟨a1, a2, a3, a4⟩ := mnF_ag (f := f) m (by omega)
  have q1 := h1 _ a1 a2
  have e : mnF f m = f b := by omega
  refine ⟨e, ?_⟩
  rcases Nat.lt_trichotomy (agF f m) b with z | z | z
  · have := h2 _ a1 z
    omega
  · exact z
  · have := a4 b hb1 z
    omega
theorem mnF_n {f : Nat → Nat} : ∀ m, (∀ x, 1 ≤ x → x ≤ m → 1000000 ≤ f x) → mnF f m = 1000000 ∧ agF f m = 5
  | 0, _ => ⟨rfl, rfl⟩
  | m + 1, h => by
    obtain ⟨q1, q2⟩ := mnF_n m (fun x h1 h2 => h x h1 (by omega))
    have := h (m + 1) (by omega) (Nat.le_refl _)
    rw [mnF_s, agF_s, if_neg (by omega), if_neg (by omega)]
    exact ⟨q1, q2⟩
def LW (tx : Nat → Int32) (A : Nat → Nat) (h : Nat) (few : Int32) : Nat → Nat → Nat
  | 0, _ => 0
  | j + 1, y => mnF (fun x => if atB tx A h (A (10 + 18 * h) - j) x y (A 0) = true then 1000000 else if 1000000 ≤ LW tx A h few j x then 1000000 else LW tx A h few j x + wkN A h few (A (10 + 18 * h) - j) x) 9
def w0N (tx : Nat → Int32) (A : Nat → Nat) (h : Nat) (few : Int32) (j : Nat) : Nat → Nat := fun x => if 1000000 ≤ LW tx A h few j x then 1000000 else LW tx A h few j x + wkN A h few (A (10 + 18 * h) - j) x
def csN (tx : Nat → Int32) (A : Nat → Nat) (h : Nat) (few : Int32) (j y : Nat) : Nat → Nat := fun x => if atB tx A h (A (10 + 18 * h) - j) x y (A 0) = true then 1000000 else w0N tx A h few j x
theorem LW_s {tx : Nat → Int32} {A : Nat → Nat} {h : Nat} {few : Int32} {j y : Nat} : LW tx A h few (j + 1) y = mnF (csN tx A h few j y) 9 := rfl
theorem LW_b {B h : Nat} {A : Nat → Nat} (hO : Okk B A) (hh : h < 4) (tx : Nat → Int32) (few : Int32) : ∀ j y, LW tx A h few j y = 1000000 ∨ LW tx A h few j y ≤ 9 * j
  | 0, _ => Or.inr (Nat.le_refl _)
  | j + 1, y => by
    have hn := (hO.2.1 h hh).2.1
    rw [LW_s]
    by_cases e : mnF (csN tx A h few j y) 9 < 1000000
    · obtain ⟨a1, a2, a3, -⟩ := mnF_ag 9 e
      refine Or.inr ?_
      generalize agF (csN tx A h few j y) 9 = a at a1 a2 a3
      rw [← a3] at e ⊢
      have q := LW_b hO hh tx few j a
      have w := wkN_b hO hh (show A (10 + 18 * h) - j ≤ 14 by omega) a2 few
      unfold csN w0N at e ⊢
      split at e
      · omega
      · rename_i h1
        split at e
        · omega
        · rename_i h2
          rw [if_neg h1, if_neg h2]
          omega
    · have := mnF_le (csN tx A h few j y) 9
      exact Or.inl (by omega)
theorem w0N_b {B h : Nat} {A : Nat → Nat} (hO : Okk B A) (hh : h < 4) (tx : Nat → Int32) (few : Int32) {j x : Nat} (hj : j ≤ 14) (hx : x ≤ 9) : w0N tx A h few j x ≤ 1000000 := by
  have hn := (hO.2.1 h hh).2.1
  have q := LW_b hO hh tx few j x
  have w := wkN_b hO hh (show A (10 + 18 * h) - j ≤ 14 by omega) hx few
  unfold w0N
  split <;> omega
theorem w0N_m {B h : Nat} {A : Nat → Nat} (hO : Okk B A) (hh : h < 4) (tx : Nat → Int32) (few : Int32) {j x : Nat} (hj : j ≤ 14) (hx : x ≤ 9) : (if 1000000 ≤ wkN A h few (A (10 + 18 * h) - j) x + LW tx A h few j x then 1000000 else wkN A h few (A (10 + 18 * h) - j) x + LW tx A h few j x) = w0N tx A h few j x := by
  have hn := (hO.2.1 h hh).2.1
  have q := LW_b hO hh tx few j x
  have w := wkN_b hO hh (show A (10 + 18 * h) - j ≤ 14 by omega) hx few
  unfold w0N
  (repeat' split) <;> omega
/-! ===== whether anybody trips ===== -/
def K10 (M M2 : fM) : Prop := Frm scr M M2 ∧ ∀ r, 10 ≤ r → ∀ k, mI M2 r k = mI M r k
theorem K10.tr {M M1 M2 : fM} (h : K10 M M1) (h2 : K10 M1 M2) : K10 M M2 := ⟨h.1.tr h2.1, fun r hr k => (h2.2 r hr k).trans (h.2 r hr k)⟩
theorem K10.rf (M : fM) : K10 M M := ⟨Frm.rf, fun _ _ _ => rfl⟩
theorem K10.f9 {M M2 : fM} (f : F9 M M2) : K10 M M2 := ⟨f.f, fun r hr k => f.2 r (by omega) k⟩
theorem K10.w8 {M : fM} {k : Nat} {v : Int32} : K10 M (wI M 8 k v) := ⟨⟨rfl, fun _ => rfl, fun r hr j _ => mI_n (by unfold scr at hr; omega)⟩, fun r hr j => mI_n (by omega)⟩
theorem c_any_l {L B nx h s x y : Nat} {A : Nat → Nat} {tx : Nat → Int32} {φ : Int32 → fM → Prop} (hO : Okk B A) (hh : h < 4) (hs1 : 1 ≤ s) (hs : s ≤ A (10 + 18 * h)) (hx9 : x ≤ 9) (hy9 : y ≤ 9) : ∀ (m p : Nat) (M : fM), p + m = A 0 → Str L M → Cls M 10 A nx → (∀ i, i < A 3 → TxR M 18 i) → mI M 73 = tx → atB tx A h s x y p = false → (∀ M2, K10 M M2 → φ (iI (b01 (atB tx A h s x y (A 0)))) M2) → l_X2_anyoneTrips_3 φ (m + 1) 66 (20 + 2 * h) (nI h) (nI s) (nI x) (nI y) (nI p) M := by
  obtain ⟨⟨o0, o1, o2, o3, o4, o5, o6, o7, o8, o9⟩, oH, oP, -⟩ := id hO
  obtain ⟨h1, h2, h3, h4, h5⟩ := oH h hh
  intro m
  induction m with
  | zero =>
    intro p M hp hS hC hT hx ha hz
    obtain rfl : p = A 0 := by omega
    have s4 := hC.2.2.1.1
    refine ⟨isO_pt hS (by decide) rfl, dR_of (Str.pg hS rfl) ⟨isO_pt hS (by decide) rfl, iF_t ?_ ?_⟩⟩
    · rw [s4]
      exact (nIle (by omega) (by omega)).mpr (by omega)
    · have q := hz M (K10.rf M)
      rw [ha] at q
      exact q
  | succ m ih =>
    intro p M hp hS hC hT hx ha hz
    have s4 := hC.2.2.1.1
    have s15 := hC.2.2.1.2.2.2.2.2.2.1
    show b_X2_anyoneTrips_3 (l_X2_anyoneTrips_3 φ (m + 1)) φ 66 (20 + 2 * h) (nI h) (nI s) (nI x) (nI y) (nI p) M
    generalize hK : l_X2_anyoneTrips_3 φ (m + 1) = K at ih ⊢
    refine ⟨isO_pt hS (by decide) rfl, dR_of (Str.pg hS rfl) ⟨isO_pt hS (by decide) rfl, iF_f ?_ (dR_of (Str.pg hS rfl) (dR_of (Str.pg hS rfl) (dR_of (Str.pg hS rfl) (dR_of (Str.pg hS rfl) ⟨isO_pt hS (by decide) rfl, isO_pt hS (by decide) rfl, ?_⟩))))⟩⟩
    · rw [s4]
      exact fun c => absurd ((nIle (by omega) (by omega)).mp c) (by omega)
    refine c_textOf hS hC hO hT s15 o4 fun o ho => ⟨isO_pt hS (by decide) rfl, c_turnTo8 (kd := 0) hS hC hO rfl rfl rfl (by omega) hh (by omega) fun M1 f1 t1 t2 t3 t4 t5 => ?_⟩
    have hS1 := f1.S hS
    have k1 : K10 M M1 := ⟨f1, t5⟩
    refine ⟨isO_pt hS1 (by decide) rfl, dR_of (Str.pg hS1 rfl) ⟨isO_pt hS1 (by decide) rfl, c_face8 (p := p) hS1 (f1.sC o5 hC) hO rfl hh hs1 (by omega) (by omega) t4 fun M2 f2 z1 z2 z3 z4 z5 => ?_⟩⟩
    have hS2 := f2.S hS1
    have k2 : K10 M M2 := k1.tr ⟨f2, z5⟩
    refine ⟨isO_pt hS2 (by decide) rfl, dR_of (Str.pg hS2 rfl) ⟨isO_pt hS2 (by decide) rfl, ⟨isO_pt hS2 (by decide) rfl, dR_of (Str.pg hS2 rfl) ⟨by omega, inA_pt hS2 rfl (vp_lit (by decide)), st_of ?_⟩⟩⟩⟩
    have hS3 : Str L (wI M2 8 (ix (7 : Int32)) (nI x)) := (K10.w8 (M := M2)).1.S hS2
    refine dR_of (Str.pg hS3 rfl) ⟨by omega, inA_pt hS3 rfl (vp_lit (by decide)), st_of ?_⟩
    rw [show ix (7 : Int32) = 7 from rfl, show ix (8 : Int32) = 8 from rfl]
    have k4 : K10 M (wI (wI M2 8 7 (nI x)) 8 8 (nI y)) := (k2.tr K10.w8).tr K10.w8
    have hv : ∀ v, v < 10 → mI (wI (wI M2 8 7 (nI x)) 8 8 (nI y)) 8 v = nI (nvF A p h 0 s x y v) ∧ nvF A p h 0 s x y v ≤ 9999 := by
      intro v hv
      refine ⟨?_, nvF_b hO (by omega) hh (by omega) (by omega) hx9 hy9 v⟩
      by_cases e8 : v = 8
      · subst e8
        exact mI_s rfl rfl
      · by_cases e7 : v = 7
        · subst e7
          exact (mI_n (by omega)).trans (mI_s rfl rfl)
        · refine (mI_n (by omega)).trans ((mI_n (by omega)).trans ((z4 v hv).trans (congrArg nI ?_)))
          have hv8 : v = 0 ∨ v = 1 ∨ v = 2 ∨ v = 3 ∨ v = 4 ∨ v = 5 ∨ v = 6 ∨ v = 9 := by omega
          rcases hv8 with rfl | rfl | rfl | rfl | rfl | rfl | rfl | rfl <;> rfl
    have hTr : TrT M2 (mI M 73) (A 4) := ho M2 k2.1 (z1.trans t1)
    have hTr4 : TrT (wI (wI M2 8 7 (nI x)) 8 8 (nI y)) tx (A 4) := by
      rw [← hx]
      exact ho _ k4.1 (z1.trans t1)
    have hS4 := k4.1.S hS
    generalize wI (wI M2 8 7 (nI x)) 8 8 (nI y) = M4 at k4 hv hTr4 hS4 ⊢
    refine ⟨isO_pt hS4 (by decide) rfl, dR_of (Str.pg hS4 rfl) ⟨isO_pt hS4 (by decide) rfl, c_tripsNow hS4 hTr4 hv fun M5 v f5 ev => ?_⟩⟩
    have ev : v = iI (b01 (vR tx (A 4) A p h 0 s x y)) := ev
    have k5 := k4.tr (K10.f9 f5)
    have es := atB_s (tx := tx) (A := A) (h := h) (s := s) (x := x) (y := y) (m := p)
    rw [ha, Bool.false_or] at es
    subst ev
    rw [← es]
    cases e : atB tx A h s x y (p + 1) with
    | false =>
      refine iF_t (by decide) (nm_of ?_)
      rw [show nI p + (1 : Int32) = nI (p + 1) from nI_add _ 1]
      exact ih (p + 1) M5 (by omega) (k5.1.S hS) (k5.1.sC o5 hC) (fun i hi => k5.1.sc.cT (hT i hi)) ((k5.1.sc.c73).trans hx) e fun M6 k6 => hz M6 (k5.tr k6)
    | true =>
      have q := hz M5 k5
      have e2 := atB_m e (A 0 - (p + 1))
      rw [show p + 1 + (A 0 - (p + 1)) = A 0 by omega] at e2
      rw [e2] at q
      exact iF_f (by decide) q
theorem m_smo_l {L B h s x y : Nat} {A : Nat → Nat} {tx : Nat → Int32} {φ : Int32 → fM → Prop} (hO : Okk B A) (hh : h < 4) (hs : s ≤ A (10 + 18 * h)) (hx9 : x ≤ 9) (hy9 : y ≤ 9) : ∀ (m p : Nat) (M : fM), p + m = A 0 → Str L M → Mdl M 71 A → TrM M (A 4) → mI M 73 = tx → atB tx A h s x y p = false → (∀ M2, FN M M2 → φ (if atB tx A h s x y (A 0) = true then 0 else 1) M2) → l_X11_isSmooth_3 φ (m + 1) 70 (nI h) (nI s) (nI x) (nI y) (nI p) M := by
  obtain ⟨⟨o0, o1, o2, o3, o4, o5, o6, o7, o8, o9⟩, oH, oP, -⟩ := id hO
  obtain ⟨h1, h2, h3, h4, h5⟩ := oH h hh
  intro m
  induction m with
  | zero =>
    intro p M hp hS hM hT hx ha hz
    obtain rfl : p = A 0 := by omega
    refine ⟨isO_pt hS (by decide) rfl, dR_of (Str.pg hS rfl) ⟨inA_pt hS rfl (vp_lit (by decide)), ?_⟩⟩
    try rw [show ix (0 : Int32) = 0 from rfl]
    rw [hM.1 0 (by omega) (by omega)]
    have q := hz M (FN.rf M)
    rw [ha, if_neg (by decide)] at q
    exact iF_t ((nIle (by omega) (by omega)).mpr (Nat.le_refl _)) q
  | succ m ih =>
    intro p M hp hS hM hT hx ha hz
    show b_X11_isSmooth_3 (l_X11_isSmooth_3 φ (m + 1)) φ 70 (nI h) (nI s) (nI x) (nI y) (nI p) M
    generalize hK : l_X11_isSmooth_3 φ (m + 1) = K at ih ⊢
    refine ⟨isO_pt hS (by decide) rfl, dR_of (Str.pg hS rfl) ⟨inA_pt hS rfl (vp_lit (by decide)), ?_⟩⟩
    try rw [show ix (0 : Int32) = 0 from rfl]
    rw [hM.1 0 (by omega) (by omega)]
    refine iF_f (fun c => absurd ((nIle (by omega) (by omega)).mp c) (by omega)) (dR_of (Str.pg hS rfl) ⟨inA_pt hS rfl (vp_lit (by decide)), ?_⟩)
    try rw [show ix (4 : Int32) = 4 from rfl]
    refine m_tripsBy hS hM hO hT hM.2 rfl rfl (c := 0) (kd := 0) rfl rfl rfl rfl (by omega) hh (by omega) (by omega) hx9 hy9 fun M2 v f ev => ?_
    rw [hx] at ev
    have es := atB_s (tx := tx) (A := A) (h := h) (s := s) (x := x) (y := y) (m := p)
    rw [ha, Bool.false_or] at es
    subst ev
    rw [← es]
    cases e : atB tx A h s x y (p + 1) with
    | false =>
      refine iF_t (by decide) (nm_of ?_)
      rw [show nI p + (1 : Int32) = nI (p + 1) from nI_add _ 1]
      exact ih (p + 1) M2 (by omega) (f.S hS) (f.M hM) (hT.fn f) (f.x.trans hx) e fun M6 k6 => hz M6 (f.tr k6)
    | true =>
      have q := hz M2 f
      have e2 := atB_m e (A 0 - (p + 1))
      rw [show p + 1 + (A 0 - (p + 1)) = A 0 by omega] at e2
      rw [e2, if_pos rfl] at q
      exact iF_f (by decide) q
