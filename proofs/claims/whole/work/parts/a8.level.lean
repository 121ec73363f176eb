/-! ===== ALIKE, of the one ===== -/
def WA (M : fM) (V : Nat → Nat) : Prop := ∀ x, 1 ≤ x → x ≤ 9 → mI M 69 x = nI (V x)
theorem iabsN {a b : Nat} (ha : a ≤ 99) (hb : b ≤ 99) : iabs (nI a - nI b) = nI (if b ≤ a then a - b else b - a) := by
  unfold iabs
  by_cases h : b ≤ a
  · rw [if_pos h, nI_sub h, if_pos]
    rw [le_toInt, toInt_nI (by omega)]
    exact Int.natCast_nonneg _
  · rw [if_neg h, if_neg]
    · rw [Int32.sub_eq_add_neg (a := 0), Int32.zero_add, Int32.neg_sub, nI_sub (by omega)]
    · rw [le_toInt, tI_sub (by omega) (by omega), show (0 : Int32).toInt = 0 from rfl]
      omega
theorem c_ch_l2 {L : Nat} {V : Nat → Nat} {M : fM} {φ : Int32 → fM → Prop} (hS : Str L M) (hV : WA M V) (hb : ∀ x, 1 ≤ x → x ≤ 9 → V x ≤ 1000000) (hz : ∀ b, 1 ≤ b → b ≤ 9 → (∀ z, 1 ≤ z → z ≤ 9 → V b ≤ V z) → (∀ z, 1 ≤ z → z < b → V b < V z) → φ (nI b) M) : ∀ (j x b : Nat), x + j = 10 → 2 ≤ x → 1 ≤ b → b < x → (∀ z, 1 ≤ z → z < x → V b ≤ V z) → (∀ z, 1 ≤ z → z < b → V b < V z) → l_X2_cheapest_4 φ (j + 1) 66 (nI b) (nI x) M := by
  intro j
  induction j with
  | zero =>
    intro x b hx h2 h1 hbx q1 q2
    obtain rfl : x = 10 := by omega
    exact iF_t (by decide) (hz b h1 (by omega) (fun z a1 a2 => q1 z a1 (by omega)) q2)
  | succ j ih =>
    intro x b hx h2 h1 hbx q1 q2
    show b_X2_cheapest_4 (l_X2_cheapest_4 φ (j + 1)) φ 66 (nI b) (nI x) M
    have v1 := hb x (by omega) (by omega)
    have v2 := hb b (by omega) (by omega)
    have e1 : nI x + (1 : Int32) = nI (x + 1) := nI_add _ 1
    refine iF_f (fun c => absurd ((nIlt (a := 9) (by omega) (by omega)).mp c) (by omega)) ⟨isO_pt hS (by decide) rfl, dR_of (Str.pg hS rfl) (c_cellN (Str.sh hS 68 _ rfl) rfl (by omega) (by omega) ⟨isO_pt hS (by decide) rfl, dR_of (Str.pg hS rfl) (c_cellN (Str.sh hS 68 _ rfl) rfl (by omega) (by omega) ?_)⟩)⟩
    rw [hV x (by omega) (by omega), hV b (by omega) (by omega)]
    by_cases q : V b ≤ V x
    · refine iF_t ((nIle (by omega) (by omega)).mpr q) (nm_of ?_)
      rw [e1]
      refine ih (x + 1) b (by omega) (by omega) h1 (by omega) (fun z a1 a2 => ?_) q2
      by_cases e : z = x
      · rw [e]
        exact q
      · exact q1 z a1 (by omega)
    · refine iF_f (fun c => q ((nIle (by omega) (by omega)).mp c)) (nm_of ?_)
      rw [e1]
      refine ih (x + 1) x (by omega) (by omega) (by omega) (by omega) (fun z a1 a2 => ?_) (fun z a1 a2 => ?_)
      · by_cases e : z = x
        · rw [e]
          exact Nat.le_refl _
        · have := q1 z a1 (by omega)
          omega
      · have := q1 z a1 a2
        omega
theorem c_cheap {L : Nat} {V : Nat → Nat} {M : fM} {φ : Int32 → fM → Prop} (hS : Str L M) (hV : WA M V) (hb : ∀ x, 1 ≤ x → x ≤ 9 → V x ≤ 1000000) (hz : ∀ b, 1 ≤ b → b ≤ 9 → (∀ z, 1 ≤ z → z ≤ 9 → V b ≤ V z) → (∀ z, 1 ≤ z → z < b → V b < V z) → φ (nI b) M) : w_X2_cheapest 66 M φ :=
  ⟨9, c_ch_l2 hS hV hb hz 8 2 1 rfl (by omega) (by omega) (by omega) (fun z a1 a2 => by rw [show z = 1 by omega]; exact Nat.le_refl _) (fun z a1 a2 => absurd a1 (by omega))⟩
def ctN (V : Nat → Nat) : Nat → Nat
  | 0 => 0
  | m + 1 => ctN V m + (if V (m + 1) < 1000000 then 1 else 0)
theorem ctN_s (V : Nat → Nat) (m : Nat) : ctN V (m + 1) = ctN V m + (if V (m + 1) < 1000000 then 1 else 0) := rfl
theorem ctN_le (V : Nat → Nat) : ∀ m, ctN V m ≤ m
  | 0 => Nat.le_refl _
  | m + 1 => by
    have := ctN_le V m
    rw [ctN_s]
    split <;> omega
theorem ctN_u {V : Nat → Nat} {b : Nat} (h1 : 1 ≤ b) (hb : V b < 1000000) : ∀ m, ctN (fun z => if z = b then 1000000 else V z) m + (if b ≤ m then 1 else 0) = ctN V m
  | 0 => by rw [if_neg (by omega)]; rfl
  | m + 1 => by
    have ih := ctN_u (V := V) h1 hb m
    rw [ctN_s, ctN_s]
    by_cases e : m + 1 = b
    · subst e
      rw [if_neg (by omega)] at ih
      rw [if_pos rfl, if_neg (by omega), if_pos (by omega), if_pos hb]
      omega
    · rw [if_neg e]
      by_cases e2 : b ≤ m
      · rw [if_pos e2] at ih
        rw [if_pos (show b ≤ m + 1 by omega)]
        omega
      · rw [if_neg e2] at ih
        rw [if_neg (show ¬ b ≤ m + 1 by omega)]
        omega
theorem ctN_p {V : Nat → Nat} {b : Nat} (h1 : 1 ≤ b) (hb : V b < 1000000) : ∀ m, b ≤ m → 1 ≤ ctN V m := by
  intro m hm
  have q := ctN_u h1 hb m
  rw [if_pos hm] at q
  omega
theorem c_cho_l {L B nx h s y j : Nat} {A : Nat → Nat} {tx : Nat → Int32} {few : Int32} {φ : fM → Prop} (hO : Okk B A) (hh : h < 4) (hs1 : 1 ≤ s) (hs : s ≤ A (10 + 18 * h)) (hj : j + s = A (10 + 18 * h)) (hy1 : 1 ≤ y) (hy9 : y ≤ 9) : ∀ (m it : Nat) (V : Nat → Nat) (M : fM), it + m = 9 → Str L M → Cls M 10 A nx → (∀ i, i < A 3 → TxR M 18 i) → mI M 73 = tx → WA M V → (∀ x, 1 ≤ x → x ≤ 9 → V x = w0N tx A h few j x ∨ (V x = 1000000 ∧ csN tx A h few j y x = 1000000)) → ctN V 9 ≤ m → mI M 67 (10 * s + y) = nI 1000000 → mI M 68 (10 * s + y) = nI 5 → (∀ M2, Frm scr M M2 → mI M2 67 (10 * s + y) = nI (mnF (csN tx A h few j y) 9) → mI M2 68 (10 * s + y) = nI (agF (csN tx A h few j y) 9) → (∀ r, r = 67 ∨ r = 68 → ∀ k, k ≠ 10 * s + y → mI M2 r k = mI M r k) → φ M2) → l_X2_choose_33 φ (m + 1) 66 (20 + 2 * h) (nI h) (nI s) (nI y) (nI (10 * s + y)) (nI it) M := by
  have o5 := hO.1.2.2.2.2.2.1
  have hn := (hO.2.1 h hh).2.1
  have ens : A (10 + 18 * h) - j = s := by omega
  have w0b : ∀ x, x ≤ 9 → w0N tx A h few j x ≤ 1000000 := fun x hx => w0N_b hO hh tx few (by omega) hx
  intro m
  induction m with
  | zero =>
    intro it V M hit hS hC hT hx hV hw hc h67 h68 hz
    obtain rfl : it = 9 := by omega
    have all : ∀ x, 1 ≤ x → x ≤ 9 → 1000000 ≤ csN tx A h few j y x := fun x a1 a2 => by
      rcases Nat.lt_or_ge (V x) 1000000 with z | z
      · have := ctN_p a1 z 9 a2
        omega
      · rcases hw x a1 a2 with e | ⟨-, e⟩
        · unfold csN
          split
          · exact Nat.le_refl _
          · omega
        · omega
    obtain ⟨n1, n2⟩ := mnF_n 9 all
    refine iF_t (by decide) (hz M Frm.rf ?_ ?_ fun _ _ _ _ => rfl)
    · rw [n1]
      exact h67
    · rw [n2]
      exact h68
  | succ m ih =>
    intro it V M hit hS hC hT hx hV hw hc h67 h68 hz
    show b_X2_choose_33 (l_X2_choose_33 φ (m + 1)) φ 66 (20 + 2 * h) (nI h) (nI s) (nI y) (nI (10 * s + y)) (nI it) M
    generalize hK : l_X2_choose_33 φ (m + 1) = K at ih ⊢
    have vb : ∀ x, 1 ≤ x → x ≤ 9 → V x ≤ 1000000 := fun x a1 a2 => by
      have := w0b x a2
      rcases hw x a1 a2 with e | ⟨e, -⟩ <;> omega
    refine iF_f (fun c => absurd ((nIle (a := 9) (by omega) (by omega)).mp c) (by omega)) ⟨isO_pt hS (by decide) rfl, c_cheap hS hV vb fun b b1 b2 q1 q2 => ⟨isO_pt hS (by decide) rfl, dR_of (Str.pg hS rfl) (c_cellN (Str.sh hS 68 _ rfl) rfl (by omega) (by omega) ?_)⟩⟩
    have vbb := vb b b1 b2
    rw [hV b b1 b2]
    have le : ∀ x, 1 ≤ x → x ≤ 9 → V x ≤ csN tx A h few j y x := fun x a1 a2 => by
      have w1 := w0b x a2
      rcases hw x a1 a2 with e | ⟨e, e2⟩
      · unfold csN
        split <;> omega
      · omega
    by_cases z : V b < 1000000
    · have eb : V b = w0N tx A h few j b := by
        rcases hw b b1 b2 with e | ⟨e, -⟩
        · exact e
        · omega
      refine iF_t ((nIlt (b := 1000000) (by omega) (by omega)).mpr z) ⟨isO_pt hS (by decide) rfl, ⟨A 0 + 1, c_any_l (L := L) (B := B) (nx := nx) (tx := tx) hO hh hs1 hs b2 hy9 (A 0) 0 M (by omega) hS hC hT hx rfl fun M1 k1 => ?_⟩⟩
      have hS1 := k1.1.S hS
      cases ha : atB tx A h s b y (A 0) with
      | false =>
        have ec : csN tx A h few j y b = V b := by
          unfold csN
          rw [ens, ha, if_neg (by decide), eb]
        obtain ⟨u1, u2⟩ := mnF_u (f := csN tx A h few j y) (m := 9) b1 b2 (by omega) (fun x a1 a2 => by have := q1 x a1 a2; have := le x a1 a2; omega) (fun x a1 a2 => by have := q2 x a1 a2; have := le x a1 (by omega); omega)
        refine iF_t (by decide) ⟨isO_pt hS1 (by decide) rfl, dR_of (Str.pg hS1 rfl) (dR_of (Str.pg hS1 rfl) (c_cellN (Str.sh hS1 68 _ rfl) rfl (by omega) (by omega) (c_putN (by omega) (Str.sh hS1 66 _ rfl) rfl (by omega) (by omega) ?_)))⟩
        have f2 : Frm scr M1 (wI M1 67 (10 * s + y) (mI M1 69 b)) := Frm.ws (by omega)
        have hS2 := f2.S hS1
        have e69 : mI M1 69 b = nI (V b) := (k1.2 69 (by omega) b).trans (hV b b1 b2)
        refine ⟨isO_pt hS2 (by decide) rfl, dR_of (Str.pg hS2 rfl) (c_putN (by omega) (Str.sh hS2 67 _ rfl) rfl (by omega) (by omega) ?_)⟩
        refine hz _ ((k1.1.tr f2).tr (Frm.ws (by omega))) ?_ ?_ fun r hr k hk => ?_
        · rw [u1, ec, ← e69]
          exact (mI_n (by omega)).trans (mI_s rfl rfl)
        · rw [u2]
          exact mI_s rfl rfl
        · exact (mI_n (by omega)).trans ((mI_n (by omega)).trans (k1.2 r (by omega) k))
      | true =>
        have ec : csN tx A h few j y b = 1000000 := by
          unfold csN
          rw [ens, ha, if_pos rfl]
        refine iF_f (by decide) ⟨isO_pt hS1 (by decide) rfl, dR_of (Str.pg hS1 rfl) (c_putN (by omega) (Str.sh hS1 68 _ rfl) rfl (by omega) (by omega) (nm_of ?_))⟩
        rw [show nI it + (1 : Int32) = nI (it + 1) from nI_add _ 1]
        have k2 : Frm scr M (wI M1 69 b (1000000 : Int32)) := k1.1.tr (Frm.ws (by omega))
        have hcu := ctN_u (V := V) b1 z 9
        rw [if_pos b2] at hcu
        refine ih (it + 1) (fun z => if z = b then 1000000 else V z) _ (by omega) (k2.S hS) (k2.sC o5 hC) (fun i hi => k2.sc.cT (hT i hi)) ((k2.sc.c73).trans hx) (fun x a1 a2 => ?_) (fun x a1 a2 => ?_) (by omega) ?_ ?_ fun M3 f3 g1 g2 g3 => hz M3 (k2.tr f3) g1 g2 fun r hr k hk => (g3 r hr k hk).trans ((mI_n (by omega)).trans (k1.2 r (by omega) k))
        · show mI (wI M1 69 b 1000000) 69 x = nI (if x = b then 1000000 else V x)
          by_cases e : x = b
          · rw [if_pos e, e]
            exact mI_s rfl rfl
          · rw [if_neg e]
            exact (mI_n (by omega)).trans ((k1.2 69 (by omega) x).trans (hV x a1 a2))
        · show (if x = b then 1000000 else V x) = w0N tx A h few j x ∨ ((if x = b then 1000000 else V x) = 1000000 ∧ csN tx A h few j y x = 1000000)
          by_cases e : x = b
          · rw [if_pos e, e]
            exact Or.inr ⟨rfl, ec⟩
          · rw [if_neg e]
            exact hw x a1 a2
        · exact (mI_n (by omega)).trans ((k1.2 67 (by omega) _).trans h67)
        · exact (mI_n (by omega)).trans ((k1.2 68 (by omega) _).trans h68)
    · have all : ∀ x, 1 ≤ x → x ≤ 9 → 1000000 ≤ csN tx A h few j y x := fun x a1 a2 => by
        have := q1 x a1 a2
        have := le x a1 a2
        omega
      obtain ⟨n1, n2⟩ := mnF_n 9 all
      refine iF_f (fun c => z ((nIlt (b := 1000000) (by omega) (by omega)).mp c)) (hz M Frm.rf ?_ ?_ fun _ _ _ _ => rfl)
      · rw [n1]
        exact h67
      · rw [n2]
        exact h68
theorem c_cho {L B nx h s y j : Nat} {A : Nat → Nat} {tx : Nat → Int32} {few : Int32} {M : fM} {φ : fM → Prop} (hO : Okk B A) (hh : h < 4) (hs1 : 1 ≤ s) (hs : s ≤ A (10 + 18 * h)) (hj : j + s = A (10 + 18 * h)) (hy1 : 1 ≤ y) (hy9 : y ≤ 9) (hS : Str L M) (hC : Cls M 10 A nx) (hT : ∀ i, i < A 3 → TxR M 18 i) (hx : mI M 73 = tx) (hV : WA M (w0N tx A h few j)) (hz : ∀ M2, Frm scr M M2 → mI M2 67 (10 * s + y) = nI (mnF (csN tx A h few j y) 9) → mI M2 68 (10 * s + y) = nI (agF (csN tx A h few j y) 9) → (∀ r, r = 67 ∨ r = 68 → ∀ k, k ≠ 10 * s + y → mI M2 r k = mI M r k) → φ M2) : w_X2_choose 66 (20 + 2 * h) (nI h) (nI s) (nI y) M φ := by
  have o5 := hO.1.2.2.2.2.2.1
  have hn := (hO.2.1 h hh).2.1
  refine nm_of ?_
  rw [show nI s * (10 : Int32) + nI y = nI (10 * s + y) by rw [Int32.mul_comm]; simp only [lit32, nI_muL, nI_add]]
  refine ⟨isO_pt hS (by decide) rfl, dR_of (Str.pg hS rfl) (c_putN (by omega) (Str.sh hS 66 _ rfl) rfl (by omega) (by omega) ?_)⟩
  have f1 : Frm scr M (wI M 67 (10 * s + y) (1000000 : Int32)) := Frm.ws (by omega)
  have hS1 := f1.S hS
  refine ⟨isO_pt hS1 (by decide) rfl, dR_of (Str.pg hS1 rfl) (c_putN (by omega) (Str.sh hS1 67 _ rfl) rfl (by omega) (by omega) ⟨10, ?_⟩)⟩
  have f2 : Frm scr M (wI (wI M 67 (10 * s + y) (1000000 : Int32)) 68 (10 * s + y) (5 : Int32)) := f1.tr (Frm.ws (by omega))
  refine c_cho_l (L := L) (B := B) (nx := nx) (tx := tx) (few := few) hO hh hs1 hs hj hy1 hy9 9 0 (w0N tx A h few j) _ rfl (f2.S hS) (f2.sC o5 hC) (fun i hi => f2.sc.cT (hT i hi)) ((f2.sc.c73).trans hx) (fun x a1 a2 => (mI_n (by omega)).trans ((mI_n (by omega)).trans (hV x a1 a2))) (fun x a1 a2 => Or.inl rfl) (ctN_le _ 9) ((mI_n (by omega)).trans (mI_s rfl rfl)) (mI_s rfl rfl) fun M3 f3 g1 g2 g3 => hz M3 (f2.tr f3) g1 g2 fun r hr k hk => (g3 r hr k hk).trans ((mI_n (by omega)).trans (mI_n (by omega)))
theorem c_wei_l {L B nx h s j : Nat} {A : Nat → Nat} {tx : Nat → Int32} {few : Int32} {φ : fM → Prop} (hO : Okk B A) (hh : h < 4) (hs1 : 1 ≤ s) (hj : j + s = A (10 + 18 * h)) : ∀ (m x : Nat) (M : fM), x + m = 10 → 1 ≤ x → Str L M → Cls M 10 A nx → (∀ z, 1 ≤ z → z ≤ 9 → mI M 67 (10 * (s + 1) + z) = nI (LW tx A h few j z)) → (∀ z, 1 ≤ z → z < x → mI M 69 z = nI (w0N tx A h few j z)) → (∀ M2, Frm scr M M2 → WA M2 (w0N tx A h few j) → (∀ r, r = 67 ∨ r = 68 → ∀ k, mI M2 r k = mI M r k) → φ M2) → l_X2_weigh_3 φ (m + 1) 66 (20 + 2 * h) (nI s) few (nI x) M := by
  have o5 := hO.1.2.2.2.2.2.1
  have hn := (hO.2.1 h hh).2.1
  have ens : A (10 + 18 * h) - j = s := by omega
  intro m
  induction m with
  | zero =>
    intro x M hx h1 hS hC hl hV hz
    obtain rfl : x = 10 := by omega
    exact iF_t (by decide) (hz M Frm.rf (fun z a1 a2 => hV z a1 (by omega)) fun _ _ _ => rfl)
  | succ m ih =>
    intro x M hx h1 hS hC hl hV hz
    obtain ⟨cn, cm, cr, ct, ch, -⟩ := hC.f
    have hb9 := htA_b hO hh (show s < 15 by omega)
    show b_X2_weigh_3 (l_X2_weigh_3 φ (m + 1)) φ 66 (20 + 2 * h) (nI s) few (nI x) M
    generalize hK : l_X2_weigh_3 φ (m + 1) = K at ih ⊢
    have q := LW_b hO hh tx few j x
    have w9 := wkN_b hO hh (show s ≤ 14 by omega) (show x ≤ 9 by omega) few
    have wm := w0N_m hO hh tx few (j := j) (x := x) (by omega) (by omega)
    rw [ens] at wm
    have wb := w0N_b hO hh tx few (j := j) (x := x) (by omega) (by omega)
    have go : ∀ v, v = nI (wkN A h few s x) → j_X2_weigh_38 K φ 66 (20 + 2 * h) (nI s) few (nI x) v M := by
      intro v hv
      subst hv
      refine ⟨isO_pt hS (by decide) rfl, dR_of (Str.pg hS rfl) (dR_of (Str.pg hS rfl) (c_cellN (k := 10 * (s + 1) + x) (Str.sh hS 66 _ rfl) (by rw [show nI s + (1 : Int32) = nI (s + 1) from nI_add _ 1, Int32.mul_comm]; simp only [lit32, nI_muL, nI_add]) (by omega) (by omega) (c_putN (by omega) (Str.sh hS 68 _ rfl) rfl (by omega) (by omega) (nm_of ?_))))⟩
      rw [hl x h1 (by omega), show nI x + (1 : Int32) = nI (x + 1) from nI_add _ 1, nI_add]
      have em : imin (1000000 : Int32) (nI (wkN A h few s x + LW tx A h few j x)) = nI (w0N tx A h few j x) := by
        rw [← wm]
        by_cases z : 1000000 ≤ wkN A h few s x + LW tx A h few j x
        · rw [if_pos z]
          exact imin_l (a := 1000000) z (by omega)
        · rw [if_neg z]
          exact imin_r (a := 1000000) (by omega) (by omega)
      rw [em]
      have f1 : Frm scr M (wI M 69 x (nI (w0N tx A h few j x))) := Frm.ws (by omega)
      refine ih (x + 1) _ (by omega) (by omega) (f1.S hS) (f1.sC o5 hC) (fun z a1 a2 => (mI_n (by omega)).trans (hl z a1 a2)) (fun z a1 a2 => ?_) fun M2 f2 g1 g2 => hz M2 (f1.tr f2) g1 fun r hr k => (g2 r hr k).trans (mI_n (by omega))
      by_cases e : z = x
      · rw [e]
        exact mI_s rfl rfl
      · exact (mI_n (by omega)).trans (hV z a1 (by omega))
    refine iF_f (fun c => absurd ((nIlt (a := 9) (by omega) (by omega)).mp c) (by omega)) ⟨isO_hs hS hh, ⟨isO_hs hS hh, dR_of (sp_hh hS hh) (c_cellN (ss_hh hS hh) rfl (by omega) (by omega) (nm_of ?_))⟩⟩
    rw [ch h hh s (by omega), show A (10 + 18 * h + 3 + s) = htA A h s from rfl, iabsN (by omega) (by omega)]
    by_cases z : few = 0
    · refine iF_t z (go _ ?_)
      unfold wkN
      rw [if_pos z]
    · refine iF_f z (go _ ?_)
      unfold wkN
      rw [if_neg z]
      by_cases e : x = htA A h s
      · rw [if_pos e, e, if_pos (Nat.le_refl _), Nat.sub_self]
        rfl
      · rw [if_neg e]
        refine imin_l (a := 1) ?_ ?_
        · split <;> omega
        · split <;> omega
/-- the plan from a STEP on stands -/
def Dn8 (tx : Nat → Int32) (A : Nat → Nat) (h : Nat) (few : Int32) (M : fM) (s y : Nat) : Prop := mI M 67 (10 * s + y) = nI (LW tx A h few (A (10 + 18 * h) + 1 - s) y) ∧ mI M 68 (10 * s + y) = nI (agF (csN tx A h few (A (10 + 18 * h) - s) y) 9)
def Pl8 (tx : Nat → Int32) (A : Nat → Nat) (h : Nat) (few : Int32) (M : fM) (s : Nat) : Prop := (∀ y, 1 ≤ y → y ≤ 9 → mI M 67 (10 * (A (10 + 18 * h) + 1) + y) = nI 0) ∧ ∀ s' y, s ≤ s' → s' ≤ A (10 + 18 * h) → 1 ≤ y → y ≤ 9 → (1 < s' ∨ y = 5) → Dn8 tx A h few M s' y
theorem Pl8.l {tx : Nat → Int32} {A : Nat → Nat} {h : Nat} {few : Int32} {M : fM} {s : Nat} (p : Pl8 tx A h few M (s + 1)) (hs1 : 1 ≤ s) (hs : s ≤ A (10 + 18 * h)) : ∀ z, 1 ≤ z → z ≤ 9 → mI M 67 (10 * (s + 1) + z) = nI (LW tx A h few (A (10 + 18 * h) - s) z) := by
  intro z a1 a2
  by_cases e : s = A (10 + 18 * h)
  · rw [e, Nat.sub_self]
    exact p.1 z a1 a2
  · have q := (p.2 (s + 1) z (Nat.le_refl _) (by omega) a1 a2 (Or.inl (by omega))).1
    rw [show A (10 + 18 * h) + 1 - (s + 1) = A (10 + 18 * h) - s by omega] at q
    exact q
theorem c_pl23 {L B nx h s : Nat} {A : Nat → Nat} {tx : Nat → Int32} {few : Int32} {φ : fM → Prop} {K14 : Nat → Nat → Int32 → Int32 → Int32 → fM → Prop} (hO : Okk B A) (hh : h < 4) (hs1 : 1 ≤ s) (hs : s ≤ A (10 + 18 * h)) : ∀ (m y : Nat) (M : fM), y + m = 10 → 1 ≤ y → Str L M → Cls M 10 A nx → (∀ i, i < A 3 → TxR M 18 i) → mI M 73 = tx → Pl8 tx A h few M (s + 1) → (∀ y', 1 ≤ y' → y' < y → (1 < s ∨ y' = 5) → Dn8 tx A h few M s y') → (∀ M2, Frm scr M M2 → Pl8 tx A h few M2 s → K14 66 (20 + 2 * h) (nI h) few (nI (s - 1)) M2) → l_X2_plan_23 K14 φ (m + 1) 66 (20 + 2 * h) (nI h) few (nI s) (nI y) M := by
  have o5 := hO.1.2.2.2.2.2.1
  have hn := (hO.2.1 h hh).2.1
  intro m
  induction m with
  | zero =>
    intro y M hy h1 hS hC hT hx pl dn hz
    obtain rfl : y = 10 := by omega
    refine iF_t (by decide) (nm_of ?_)
    rw [show nI s + (-1 : Int32) = nI (s - 1) from (Int32.sub_eq_add_neg _ _).symm.trans (nI_sub (b := 1) hs1)]
    refine hz M Frm.rf ⟨pl.1, fun s' y' a1 a2 a3 a4 a5 => ?_⟩
    by_cases e : s' = s
    · subst e
      exact dn y' a3 (by omega) a5
    · exact pl.2 s' y' (by omega) a2 a3 a4 a5
  | succ m ih =>
    intro y M hy h1 hS hC hT hx pl dn hz
    show b_X2_plan_23 K14 (l_X2_plan_23 K14 φ (m + 1)) φ 66 (20 + 2 * h) (nI h) few (nI s) (nI y) M
    generalize hK : l_X2_plan_23 K14 φ (m + 1) = K at ih ⊢
    have e1 : nI y + (1 : Int32) = nI (y + 1) := nI_add _ 1
    have go : (1 < s ∨ y = 5) → j_X2_plan_42 K14 K φ 66 (20 + 2 * h) (nI h) few (nI s) (nI y) M := by
      intro hc
      refine ⟨isO_pt hS (by decide) rfl, ⟨10, c_wei_l (L := L) (B := B) (nx := nx) (tx := tx) (j := A (10 + 18 * h) - s) hO hh hs1 (by omega) 9 1 M rfl (Nat.le_refl _) hS hC (pl.l hs1 hs) (fun z a1 a2 => absurd a1 (by omega)) fun M1 f1 g1 g2 => ?_⟩⟩
      have hS1 := f1.S hS
      refine ⟨isO_pt hS1 (by decide) rfl, c_cho (L := L) (B := B) (nx := nx) (tx := tx) (few := few) (j := A (10 + 18 * h) - s) hO hh hs1 hs (by omega) h1 (by omega) hS1 (f1.sC o5 hC) (fun i hi => f1.sc.cT (hT i hi)) ((f1.sc.c73).trans hx) g1 fun M2 f2 i1 i2 i3 => nm_of ?_⟩
      rw [e1]
      have f := f1.tr f2
      have oth : ∀ r, r = 67 ∨ r = 68 → ∀ k, k ≠ 10 * s + y → mI M2 r k = mI M r k := fun r hr k hk => (i3 r hr k hk).trans (g2 r hr k)
      have keep : ∀ s' y', 1 ≤ y' → y' ≤ 9 → (s' ≠ s ∨ y' ≠ y) → Dn8 tx A h few M s' y' → Dn8 tx A h few M2 s' y' := fun s' y' a1 a2 a3 d => ⟨(oth 67 (Or.inl rfl) _ (by omega)).trans d.1, (oth 68 (Or.inr rfl) _ (by omega)).trans d.2⟩
      refine ih (y + 1) M2 (by omega) (by omega) (f.S hS) (f.sC o5 hC) (fun i hi => f.sc.cT (hT i hi)) ((f.sc.c73).trans hx) ⟨fun y' a1 a2 => (oth 67 (Or.inl rfl) _ (by omega)).trans (pl.1 y' a1 a2), fun s' y' a1 a2 a3 a4 a5 => keep s' y' a3 a4 (by omega) (pl.2 s' y' a1 a2 a3 a4 a5)⟩ (fun y' a1 a2 a3 => ?_) fun M3 f3 p3 => hz M3 (f.tr f3) p3
      by_cases e : y' = y
      · subst e
        refine ⟨?_, i2⟩
        rw [show A (10 + 18 * h) + 1 - s = A (10 + 18 * h) - s + 1 by omega]
        exact i1
      · exact keep s y' a1 (by omega) (by omega) (dn y' a1 (by omega) a3)
    refine iF_f (fun c => absurd ((nIlt (a := 9) (by omega) (by omega)).mp c) (by omega)) ?_
    by_cases z : 1 < s
    · exact iF_t ((nIlt (a := 1) (by omega) (by omega)).mpr z) (go (Or.inl z))
    · refine iF_f (fun c => z ((nIlt (a := 1) (by omega) (by omega)).mp c)) ?_
      by_cases z5 : y = 5
      · exact iF_t (by rw [z5]; rfl) (go (Or.inr z5))
      · refine iF_f (fun c => z5 (nI_inj (b := 5) (by omega) (by omega) c)) (nm_of ?_)
        rw [e1]
        refine ih (y + 1) M (by omega) (by omega) hS hC hT hx pl (fun y' a1 a2 a3 => ?_) hz
        exact dn y' a1 (by omega) a3
theorem c_pl14 {L B nx h : Nat} {A : Nat → Nat} {tx : Nat → Int32} {few : Int32} {φ : fM → Prop} (hO : Okk B A) (hh : h < 4) : ∀ (s : Nat) (M : fM), s ≤ A (10 + 18 * h) → Str L M → Cls M 10 A nx → (∀ i, i < A 3 → TxR M 18 i) → mI M 73 = tx → Pl8 tx A h few M (s + 1) → (∀ M2, Frm scr M M2 → Pl8 tx A h few M2 1 → φ M2) → l_X2_plan_14 φ (s + 1) 66 (20 + 2 * h) (nI h) few (nI s) M := by
  have o5 := hO.1.2.2.2.2.2.1
  have hn := (hO.2.1 h hh).2.1
  intro s
  induction s with
  | zero =>
    intro M hs hS hC hT hx pl hz
    exact iF_t (by decide) (hz M Frm.rf pl)
  | succ s ih =>
    intro M hs hS hC hT hx pl hz
    show b_X2_plan_14 (l_X2_plan_14 φ (s + 1)) φ 66 (20 + 2 * h) (nI h) few (nI (s + 1)) M
    generalize hK : l_X2_plan_14 φ (s + 1) = K at ih ⊢
    refine iF_f (fun c => absurd ((nIlt (b := 1) (by omega) (by omega)).mp c) (by omega)) ⟨10, ?_⟩
    refine c_pl23 (L := L) (B := B) (nx := nx) (tx := tx) (s := s + 1) hO hh (by omega) hs 9 1 M rfl (Nat.le_refl _) hS hC hT hx pl (fun y' a1 a2 => absurd a1 (by omega)) fun M2 f2 p2 => ?_
    rw [Nat.add_sub_cancel]
    exact ih M2 (by omega) (f2.S hS) (f2.sC o5 hC) (fun i hi => f2.sc.cT (hT i hi)) ((f2.sc.c73).trans hx) p2 fun M3 f3 p3 => hz M3 (f2.tr f3) p3
theorem c_plan {L B nx h : Nat} {A : Nat → Nat} {tx : Nat → Int32} {few : Int32} {M : fM} {φ : fM → Prop} (hO : Okk B A) (hh : h < 4) (hS : Str L M) (hC : Cls M 10 A nx) (hT : ∀ i, i < A 3 → TxR M 18 i) (hx : mI M 73 = tx) (hz : ∀ M2, Frm scr M M2 → Pl8 tx A h few M2 1 → φ M2) : w_X2_plan 66 (20 + 2 * h) (nI h) few M φ := by
  have o5 := hO.1.2.2.2.2.2.1
  have hn := (hO.2.1 h hh).2.1
  refine ⟨isO_pt hS (by decide) rfl, dR_of (Str.pg hS rfl) (c_fil (n := 160) (by omega) (by decide) (Str.sh hS 66 _ rfl) ?_)⟩
  have f1 : Frm scr M (fil M 67 0 160 (0 : Int32)) := ⟨rfl, fun _ => rfl, fun r hr k _ => mI_fn (by unfold scr at hr; omega)⟩
  have hS1 := f1.S hS
  have hC1 := f1.sC o5 hC
  obtain ⟨cn, -⟩ := hC1.f
  refine ⟨isO_hs hS1 hh, nm_of ?_⟩
  rw [cn h hh]
  refine ⟨A (10 + 18 * h) + 1, c_pl14 (L := L) (B := B) (nx := nx) (tx := tx) hO hh (A (10 + 18 * h)) _ (Nat.le_refl _) hS1 hC1 (fun i hi => f1.sc.cT (hT i hi)) ((f1.sc.c73).trans hx) ⟨fun y a1 a2 => mI_fs rfl (by omega) (by omega), fun s' y a1 a2 => absurd a1 (by omega)⟩ fun M2 f2 p2 => hz M2 (f1.tr f2) p2⟩
