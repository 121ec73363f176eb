/-! ===== SURE: nights until one is sure ===== -/
def bwW (a : Nat) : Nat → Nat → Nat
  | 0, 0 => 1
  | 0, _ + 1 => 0
  | t + 1, 0 => bwW a t 0 * (10 - a)
  | t + 1, k + 1 => bwW a t (k + 1) * (10 - a) + bwW a t k * a
def tlW (a r : Nat) : Nat → Nat
  | 0 => 0
  | t + 1 => tlW a r t * 10 + bwW a t (r - 1) * a
def owW (a r t k : Nat) : Nat := if k < r then bwW a t k else if k = r then tlW a r t else 0
def sfW (f : Nat → Nat) : Nat → Nat → Nat
  | _, 0 => 0
  | i, m + 1 => f i + sfW f (i + 1) m
theorem bwW_0 {a : Nat} : ∀ (t k : Nat), t < k → bwW a t k = 0
  | 0, 0, h => absurd h (by omega)
  | 0, _ + 1, _ => rfl
  | t + 1, 0, h => absurd h (by omega)
  | t + 1, k + 1, h => by
    show bwW a t (k + 1) * (10 - a) + bwW a t k * a = 0
    rw [bwW_0 t (k + 1) (by omega), bwW_0 t k (by omega), Nat.zero_mul, Nat.zero_mul]
theorem bwW_le {a : Nat} (ha : a ≤ 10) : ∀ (t k : Nat), bwW a t k ≤ 10 ^ t
  | 0, 0 => Nat.le_refl _
  | 0, _ + 1 => Nat.zero_le _
  | t + 1, 0 => by
    show bwW a t 0 * (10 - a) ≤ 10 ^ (t + 1)
    rw [Nat.pow_succ]
    exact Nat.mul_le_mul (bwW_le ha t 0) (by omega)
  | t + 1, k + 1 => by
    show bwW a t (k + 1) * (10 - a) + bwW a t k * a ≤ 10 ^ (t + 1)
    have h1 := Nat.mul_le_mul_right (10 - a) (bwW_le ha t (k + 1))
    have h2 := Nat.mul_le_mul_right a (bwW_le ha t k)
    have h3 : 10 ^ t * (10 - a) + 10 ^ t * a = 10 ^ (t + 1) := by
      rw [← Nat.mul_add, Nat.sub_add_cancel ha, Nat.pow_succ]
    omega
theorem tlW_le {a r : Nat} (ha : a ≤ 10) : ∀ t, tlW a r t ≤ t * 10 ^ t
  | 0 => Nat.zero_le _
  | t + 1 => by
    show tlW a r t * 10 + bwW a t (r - 1) * a ≤ (t + 1) * 10 ^ (t + 1)
    have h1 := Nat.mul_le_mul_right 10 (tlW_le (r := r) ha t)
    have h2 : bwW a t (r - 1) * a ≤ 10 ^ t * 10 := Nat.mul_le_mul (bwW_le ha t (r - 1)) ha
    have h3 : (t + 1) * 10 ^ (t + 1) = t * 10 ^ t * 10 + 10 ^ t * 10 := by
      rw [Nat.pow_succ, Nat.add_mul, Nat.one_mul, Nat.mul_assoc]
    omega
theorem sfW_b {a : Nat} (t : Nat) : ∀ (m i : Nat), sfW (bwW a (t + 1)) (i + 1) m = sfW (bwW a t) (i + 1) m * (10 - a) + sfW (bwW a t) i m * a
  | 0, _ => by
    show 0 = 0 * (10 - a) + 0 * a
    rw [Nat.zero_mul, Nat.zero_mul]
  | m + 1, i => by
    show bwW a t (i + 1) * (10 - a) + bwW a t i * a + sfW (bwW a (t + 1)) (i + 1 + 1) m = (bwW a t (i + 1) + sfW (bwW a t) (i + 1 + 1) m) * (10 - a) + (bwW a t i + sfW (bwW a t) (i + 1) m) * a
    rw [sfW_b t m (i + 1), Nat.add_mul, Nat.add_mul]
    omega
theorem sfW_s {f : Nat → Nat} : ∀ (m i : Nat), sfW f i m + f (i + m) = f i + sfW f (i + 1) m
  | 0, i => by
    show 0 + f i = f i + 0
    omega
  | m + 1, i => by
    show f i + sfW f (i + 1) m + f (i + (m + 1)) = f i + (f (i + 1) + sfW f (i + 1 + 1) m)
    have q := sfW_s (f := f) m (i + 1)
    rw [show i + (m + 1) = i + 1 + m by omega]
    omega
theorem tlW_s {a r : Nat} (ha : a ≤ 10) (hr : 1 ≤ r) (hr2 : r ≤ 16) : ∀ t, t ≤ 16 → sfW (bwW a t) r (17 - r) = tlW a r t
  | 0, _ => by
    have z : ∀ m i, sfW (bwW a 0) (i + 1) m = 0 := by
      intro m
      induction m with
      | zero => intro i; rfl
      | succ m ih =>
        intro i
        show bwW a 0 (i + 1) + sfW (bwW a 0) (i + 1 + 1) m = 0
        rw [ih (i + 1)]
        rfl
    obtain ⟨i, rfl⟩ : ∃ i, r = i + 1 := ⟨r - 1, by omega⟩
    exact z _ i
  | t + 1, ht => by
    obtain ⟨i, rfl⟩ : ∃ i, r = i + 1 := ⟨r - 1, by omega⟩
    have q := tlW_s (a := a) ha hr hr2 t (by omega)
    have q2 := sfW_s (f := bwW a t) (17 - (i + 1)) i
    rw [bwW_0 t (i + (17 - (i + 1))) (by omega)] at q2
    show sfW (bwW a (t + 1)) (i + 1) (17 - (i + 1)) = tlW a (i + 1) t * 10 + bwW a t (i + 1 - 1) * a
    rw [sfW_b, show sfW (bwW a t) i (17 - (i + 1)) = bwW a t i + sfW (bwW a t) (i + 1) (17 - (i + 1)) by omega, q, Nat.add_sub_cancel, Nat.add_mul]
    have h3 : tlW a (i + 1) t * (10 - a) + tlW a (i + 1) t * a = tlW a (i + 1) t * 10 := by
      rw [← Nat.mul_add, Nat.sub_add_cancel ha]
    omega
theorem c_filJ_l {r n : Nat} {v : Int64} {φ : fM → Prop} (h6 : 6 ≤ r) (hn : n < 2147483648) : ∀ (m k : Nat) (M : fM), k + m = n → mS M r = some (13, n) → (∀ M', M'.1 = M.1 → M'.2.2 = M.2.2 → (∀ r' j, mJ M' r' j = if r' = r ∧ k ≤ j ∧ j < n then v else mJ M r' j) → φ M') → l_J7_fill_d0a16_6 φ (m + 1) r v (nI k) (nI n) M := by
  intro m
  induction m with
  | zero =>
    intro k M hk hs h
    refine iF_t ((nIle (by omega) (by omega)).mpr (by omega)) (h M rfl rfl fun r' j => ?_)
    rw [if_neg (by omega)]
  | succ m ih =>
    intro k M hk hs h
    refine iF_f (fun c => absurd ((nIle (by omega) (by omega)).mp c) (by omega)) ⟨h6, inA_of hs (vp_nI (by omega) (by omega)), st_of (nm_of ?_)⟩
    rw [lit32, nI_add, ix_nI (by omega)]
    refine ih (k + 1) _ (by omega) hs fun M' h1 h3 h2 => h M' h1 h3 fun r' j => ?_
    rw [h2, mJ_wJ]
    by_cases e : r' = r ∧ j = k
    · rw [if_neg (by omega), if_pos e, if_pos (by omega)]
    · rw [if_neg e]
      by_cases e2 : r' = r ∧ k + 1 ≤ j ∧ j < n
      · rw [if_pos e2, if_pos (by omega)]
      · rw [if_neg e2, if_neg (by omega)]
theorem c_filJ {r n : Nat} {v : Int64} {M : fM} {φ : fM → Prop} (h6 : 6 ≤ r) (hn : n < 2147483648) (hs : mS M r = some (13, n)) (h : ∀ M', M'.1 = M.1 → M'.2.2 = M.2.2 → (∀ r' j, mJ M' r' j = if r' = r ∧ j < n then v else mJ M r' j) → φ M') : w_J7_fill_d0a16 r v M φ := by
  refine lenA_of hs (nm_of ⟨n + 1, ?_⟩)
  exact c_filJ_l h6 hn n 0 M (by omega) hs fun M' h1 h3 h2 => h M' h1 h3 fun r' j => by rw [h2]; simp
theorem Frm.wJ {P : Nat → Prop} {M : fM} {r k : Nat} {v : Int64} (hr : r ≠ 2) : Frm P M (wJ M r k v) := ⟨rfl, fun j => mJ_n (by omega), fun _ _ _ _ => rfl⟩
theorem powL_e : ∀ j, j < 16 → powL.getD j 0 = jN (10 ^ j) := by decide
theorem c_power {L : Nat} {X : Nat → Int32} {M : fM} {j : Nat} {v : Int32} {φ : Int64 → fM → Prop} (hS : Str L M) (hX : Sts X M) (hv : v = nI j) (hj : j < 16) (h : φ (jN (10 ^ j)) M) : w_X3_power v M φ := by
  subst hv
  refine iF_f (fun c => absurd ((nIlt (b := 0) (by omega) (by omega)).mp c) (by omega)) (lenA_of (Str.sh hS 1 _ rfl) (iF_f (fun c => absurd ((nIle (by omega) (by omega)).mp c) (by omega)) ⟨inA_pt hS rfl (vp_nI (by omega) (by decide)), ?_⟩))
  rw [ix_nI (by omega), hX.2.2.2 j hj, powL_e j hj]
  exact h
theorem m_ten_l {M : fM} {φ : Int64 → fM → Prop} {n : Nat} (hn : n < 100) (h : φ (jN (10 ^ n)) M) : ∀ (m i : Nat), i + m = n → l_X11_tenTo_4 φ (m + 1) (nI n) (jN (10 ^ i)) (nI i) M := by
  intro m
  induction m with
  | zero =>
    intro i hi
    obtain rfl : i = n := by omega
    exact iF_t ((nIle (by omega) (by omega)).mpr (Nat.le_refl _)) h
  | succ m ih =>
    intro i hi
    refine iF_f (fun c => absurd ((nIle (by omega) (by omega)).mp c) (by omega)) (nm_of (nm_of ?_))
    rw [show jN (10 ^ i) * (10 : Int64) = jN (10 ^ (i + 1)) from jN_mul (10 ^ i) 10, show nI i + (1 : Int32) = nI (i + 1) from nI_add _ 1]
    exact ih (i + 1) (by omega)
theorem m_tenTo {M : fM} {φ : Int64 → fM → Prop} {n : Nat} {v : Int32} (hv : v = nI n) (hn : n < 100) (h : φ (jN (10 ^ n)) M) : w_X11_tenTo v M φ := by
  subst hv
  exact ⟨n + 1, m_ten_l hn h n 0 (by omega)⟩
/-- one night of the one -/
theorem c_sur_l {L r a t : Nat} {n low : Int32} {φ : Int64 → fM → Prop} {K18 : Nat → Int32 → Int32 → Int32 → Int32 → Int32 → fM → Prop} (ha : a ≤ 10) (hr : 1 ≤ r) (hr9 : r ≤ 9) (ht : t < 100) : ∀ (j : Nat) (M : fM), j ≤ r + 1 → Str L M → (∀ k, k < 10 → mJ M 63 k = jN (if j ≤ k then owW a r (t + 1) k else owW a r t k)) → (∀ M2, Frm scr M M2 → (∀ k, k < 10 → mJ M2 63 k = jN (owW a r (t + 1) k)) → K18 58 (nI r) (nI a) n low (nI (t + 1)) M2) → l_X3_oddsOfSure_37 K18 φ (j + 1) 58 (nI r) (nI a) n low (nI t) (nI j - 1) M := by
  intro j
  induction j with
  | zero =>
    intro M hj hS h63 hz
    refine iF_t (by decide) (nm_of ?_)
    rw [show nI t + (1 : Int32) = nI (t + 1) from nI_add _ 1]
    refine hz M Frm.rf fun k hk => ?_
    rw [h63 k hk, if_pos (Nat.zero_le _)]
  | succ j ih =>
    intro M hj hS h63 hz
    show b_X3_oddsOfSure_37 K18 (l_X3_oddsOfSure_37 K18 φ (j + 1)) φ 58 (nI r) (nI a) n low (nI t) (nI (j + 1) - 1) M
    generalize hK : l_X3_oddsOfSure_37 K18 φ (j + 1) = K at ih ⊢
    have e : nI (j + 1) - (1 : Int32) = nI j := (nI_sub (a := j + 1) (b := 1) (by omega)).trans (by rw [Nat.add_sub_cancel])
    have e1 : nI j + (-1 : Int32) = nI j - 1 := (Int32.sub_eq_add_neg _ _).symm
    rw [e]
    refine iF_f (fun c => absurd ((nIlt (b := 0) (by omega) (by omega)).mp c) (by omega)) ⟨isO_pt hS (by decide) rfl, dR_of (Str.pg hS rfl) ⟨inA_pt hS rfl (vp_nI (by omega) (by decide)), ?_⟩⟩
    rw [ix_nI (by omega)]
    have old : ∀ k, k ≤ j → mJ M 63 k = jN (owW a r t k) := fun k hk => by rw [h63 k (by omega), if_neg (by omega)]
    rw [old j (Nat.le_refl _)]
    have go : ∀ w s0 : Nat, s0 ≤ 10 → owW a r t j * s0 + (if j = 0 then 0 else owW a r t (j - 1) * a) = owW a r (t + 1) j → j_X3_oddsOfSure_64 K18 K φ 58 (nI r) (nI a) n low (nI t) (nI j) (nI s0) (jN (owW a r t j)) M := by
      intro w s0 hs0 hw
      refine nm_of ⟨isO_pt hS (by decide) rfl, dR_of (Str.pg hS rfl) ?_⟩
      rw [jN_I (by omega), jN_mul]
      have fin : ∀ y : Nat, owW a r t j * s0 + y = owW a r (t + 1) j → j_X3_oddsOfSure_97 K18 K φ 58 (nI r) (nI a) n low (nI t) (nI j) (jN y) (jN (owW a r t j * s0)) (nI j) 63 M := by
        intro y hy
        refine nm_of ⟨by omega, inA_pt hS rfl (vp_nI (by omega) (by decide)), st_of (nm_of ?_)⟩
        rw [ix_nI (by omega), jN_add, hy, e1]
        have f : Frm scr M (wJ M 63 j (jN (owW a r (t + 1) j))) := Frm.wJ (by omega)
        refine ih _ (by omega) (f.S hS) (fun k hk => ?_) fun M2 f2 h2 => hz M2 (f.tr f2) h2
        by_cases z : k = j
        · subst z
          rw [mJ_s, if_pos (Nat.le_refl _)]
        · rw [mJ_n (by omega), h63 k hk]
          by_cases z2 : j ≤ k
          · rw [if_pos (by omega), if_pos z2]
          · rw [if_neg (by omega), if_neg z2]
      by_cases z : j = 0
      · rw [if_pos z] at hw
        refine iF_t ((nIle (b := 0) (by omega) (by omega)).mpr (by omega)) ?_
        exact fin 0 hw
      · rw [if_neg z] at hw
        have e2 : nI j - (1 : Int32) = nI (j - 1) := nI_sub (b := 1) (by omega)
        refine iF_f (fun c => absurd ((nIle (b := 0) (by omega) (by omega)).mp c) (by omega)) (dR_of (Str.pg hS rfl) ?_)
        rw [e2, ix_nI (by omega), old (j - 1) (by omega), jN_I (by omega), jN_mul]
        exact ⟨inA_pt hS rfl (vp_nI (by omega) (by decide)), fin _ hw⟩
    have e10 : (10 : Int32) - nI a = nI (10 - a) := nI_sub (a := 10) ha
    by_cases z : j = r
    · subst z
      refine iF_t rfl (go 0 10 (Nat.le_refl _) ?_)
      unfold owW
      rw [if_neg (by omega), if_pos rfl, if_neg (by omega), if_pos (by omega), if_neg (by omega), if_pos rfl]
      rfl
    · rw [e10]
      refine iF_f (fun c => z (nI_inj (by omega) (by omega) c)) (go 0 (10 - a) (by omega) ?_)
      have w1 : owW a r t j = bwW a t j := if_pos (by omega)
      have w2 : owW a r (t + 1) j = bwW a (t + 1) j := if_pos (by omega)
      rw [w1, w2]
      cases j with
      | zero => rfl
      | succ j =>
        rw [if_neg (Nat.succ_ne_zero j), Nat.add_sub_cancel, show owW a r t j = bwW a t j from if_pos (by omega)]
        rfl
theorem c_sun_l {L r a n : Nat} {low : Int32} {φ : Int64 → fM → Prop} (ha : a ≤ 10) (hr : 1 ≤ r) (hr9 : r ≤ 9) (hn : n ≤ 15) : ∀ (m t : Nat) (M : fM), t + m = n → Str L M → (∀ k, k < 10 → mJ M 63 k = jN (owW a r t k)) → (∀ M2, Frm scr M M2 → mJ M2 63 r = jN (tlW a r n) → w_X3_power (nI n) M2 fun x49 M48 => w_X10_part (jN (tlW a r n)) x49 low M48 fun x51 M50 => φ x51 M50) → l_X3_oddsOfSure_18 φ (m + 1) 58 (nI r) (nI a) (nI n) low (nI t) M := by
  intro m
  induction m with
  | zero =>
    intro t M ht hS h63 hz
    obtain rfl : t = n := by omega
    have q : mJ M 63 r = jN (tlW a r t) := by
      rw [h63 r (by omega)]
      unfold owW
      rw [if_neg (by omega), if_pos rfl]
    refine iF_t ((nIle (by omega) (by omega)).mpr (Nat.le_refl _)) (iF_f (fun c => absurd ((nIlt (b := 0) (by omega) (by omega)).mp c) (by omega)) ⟨isO_pt hS (by decide) rfl, dR_of (Str.pg hS rfl) (lenA_of (Str.sh hS 62 _ rfl) (iF_f (fun c => absurd ((nIle (by omega) (by omega)).mp c) (by omega)) (dR_of (Str.pg hS rfl) ⟨inA_pt hS rfl (vp_nI (by omega) (by decide)), ?_⟩)))⟩)
    rw [ix_nI (by omega), q]
    exact hz M Frm.rf q
  | succ m ih =>
    intro t M ht hS h63 hz
    show b_X3_oddsOfSure_18 (l_X3_oddsOfSure_18 φ (m + 1)) φ 58 (nI r) (nI a) (nI n) low (nI t) M
    generalize hK : l_X3_oddsOfSure_18 φ (m + 1) = K at ih ⊢
    refine iF_f (fun c => absurd ((nIle (by omega) (by omega)).mp c) (by omega)) ⟨isO_pt hS (by decide) rfl, dR_of (Str.pg hS rfl) (lenA_of (Str.sh hS 62 _ rfl) (nm_of ⟨r + 2, ?_⟩))⟩
    have e9 : imin (nI r) (nI 10 - (1 : Int32)) = nI (r + 1) - 1 := by
      rw [show nI 10 - (1 : Int32) = nI 9 from nI_sub (a := 10) (b := 1) (by omega), imin_l hr9 (by omega), show nI (r + 1) - (1 : Int32) = nI r from (nI_sub (a := r + 1) (b := 1) (by omega)).trans (by rw [Nat.add_sub_cancel])]
    rw [e9]
    refine c_sur_l (L := L) ha hr hr9 (by omega) (r + 1) M (Nat.le_refl _) hS (fun k hk => ?_) fun M2 f2 h2 => ih (t + 1) M2 (by omega) (f2.S hS) h2 fun M3 f3 h3 => hz M3 (f2.tr f3) h3
    rw [h63 k hk]
    by_cases z : r + 1 ≤ k
    · rw [if_pos z]
      unfold owW
      rw [if_neg (by omega), if_neg (by omega), if_neg (by omega), if_neg (by omega)]
    · rw [if_neg z]
theorem c_sure {L r a n : Nat} {X : Nat → Int32} {low : Int32} {M : fM} {φ : Int64 → fM → Prop} (hS : Str L M) (hX : Sts X M) (ha : a ≤ 10) (hr : 1 ≤ r) (hr9 : r ≤ 9) (hn : n ≤ 15) (h : ∀ M2, Frm scr M M2 → φ (jN (ptN (tlW a r n) (10 ^ n) low)) M2) : w_X3_oddsOfSure 58 (nI r) (nI a) (nI n) low M φ := by
  refine ⟨isO_pt hS (by decide) rfl, dR_of (Str.pg hS rfl) (c_filJ (n := 10) (by omega) (by decide) (Str.sh hS 62 _ rfl) fun M1 g1 g2 g3 => ?_)⟩
  have f1 : Frm scr M M1 := ⟨by unfold nop; rw [g2], fun k => by rw [g3, if_neg (by omega)], fun r hr k hk => by unfold mI; rw [g1]⟩
  have hS1 := f1.S hS
  refine ⟨isO_pt hS1 (by decide) rfl, dR_of (Str.pg hS1 rfl) ⟨by omega, inA_pt hS1 rfl (vp_lit (by decide)), st_of ⟨n + 1, ?_⟩⟩⟩
  have f2 : Frm scr M1 (wJ M1 63 (ix (0 : Int32)) (1 : Int64)) := Frm.wJ (by omega)
  have f12 := f1.tr f2
  have b10 : tlW a r n ≤ n * 10 ^ n := tlW_le ha n
  have p10 : 10 ^ n ≤ 10 ^ 15 := Nat.pow_le_pow_right (by omega) hn
  have p0 : 0 < 10 ^ n := Nat.pow_pos (by omega)
  have b11 : n * 10 ^ n ≤ 15 * 10 ^ 15 := Nat.mul_le_mul hn p10
  have z15 : (10 : Nat) ^ 15 = 1000000000000000 := by decide
  refine c_sun_l (L := L) ha hr hr9 hn n 0 _ (by omega) (f12.S hS) (fun k hk => ?_) fun M3 f3 q3 => ?_
  · rw [show ix (0 : Int32) = 0 from rfl]
    by_cases z : k = 0
    · subst z
      rw [mJ_s]
      unfold owW
      rw [if_pos (by omega)]
      rfl
    · rw [mJ_n (by omega), g3, if_pos ⟨rfl, hk⟩]
      obtain ⟨k', rfl⟩ : ∃ k', k = k' + 1 := ⟨k - 1, by omega⟩
      unfold owW
      split
      · rfl
      · split <;> rfl
  · have f := f12.tr f3
    exact c_power (f.S hS) (f.sc.cX hX) rfl (by omega) (c_part (by omega) (by omega) (by omega) (h M3 f))
/-- one night of the model -/
theorem m_sur_l {L a t : Nat} {r n low : Int32} {φ : Int64 → fM → Prop} {K70 : Nat → Int32 → Int32 → Int32 → Int32 → Int32 → fM → Prop} (ha : a ≤ 10) (ht : t ≤ 15) : ∀ (j : Nat) (M : fM), j ≤ 16 → Str L M → (∀ k, k < 17 → mJ M 80 k = jN (if j < k then bwW a (t + 1) k else bwW a t k)) → (∀ M2, Frm scr M M2 → (∀ k, k < 17 → mJ M2 80 k = jN (bwW a (t + 1) k)) → K70 70 r (nI a) n low (nI (t + 1)) M2) → l_X11_sure_82 K70 φ (j + 1) 70 r (nI a) n low (nI t) (nI j) M := by
  have e10 : (10 : Int32) - nI a = nI (10 - a) := nI_sub (a := 10) ha
  intro j
  induction j with
  | zero =>
    intro M hj hS h80 hz
    refine iF_t (by decide) ⟨isO_pt hS (by decide) rfl, dR_of (Str.pg hS rfl) ⟨inA_pt hS rfl (vp_lit (by decide)), nm_of ⟨by omega, inA_pt hS rfl (vp_lit (by decide)), st_of (nm_of ?_)⟩⟩⟩
    have q := h80 0 (by omega)
    rw [if_neg (by omega)] at q
    try rw [show ix (0 : Int32) = 0 from rfl]
    rw [q, e10, jN_I (by omega), jN_mul, show nI t + (1 : Int32) = nI (t + 1) from nI_add _ 1]
    refine hz _ (Frm.wJ (by omega)) fun k hk => ?_
    by_cases z : k = 0
    · subst z
      rw [mJ_s]
      rfl
    · rw [mJ_n (by omega), h80 k hk, if_pos (by omega)]
  | succ j ih =>
    intro M hj hS h80 hz
    show b_X11_sure_82 K70 (l_X11_sure_82 K70 φ (j + 1)) φ 70 r (nI a) n low (nI t) (nI (j + 1)) M
    generalize hK : l_X11_sure_82 K70 φ (j + 1) = K at ih ⊢
    have e : nI (j + 1) - (1 : Int32) = nI j := (nI_sub (a := j + 1) (b := 1) (by omega)).trans (by rw [Nat.add_sub_cancel])
    have e1 : nI (j + 1) + (-1 : Int32) = nI j := by
      rw [← e]
      exact (Int32.sub_eq_add_neg _ _).symm
    have q1 := h80 (j + 1) (by omega)
    have q2 := h80 j (by omega)
    rw [if_neg (by omega)] at q1 q2
    refine iF_f (fun c => absurd ((nIle (b := 0) (by omega) (by omega)).mp c) (by omega)) ⟨isO_pt hS (by decide) rfl, dR_of (Str.pg hS rfl) (dR_of (Str.pg hS rfl) ⟨inA_pt hS rfl (vp_nI (by omega) (by decide)), dR_of (Str.pg hS rfl) ?_⟩)⟩
    rw [e, e1, ix_nI (by omega), ix_nI (by omega), q1, q2, e10, jN_I (by omega), jN_I (by omega), jN_mul, jN_mul, jN_add]
    refine ⟨inA_pt hS rfl (vp_nI (by omega) (by decide)), nm_of ⟨by omega, inA_pt hS rfl (vp_nI (by omega) (by decide)), st_of (nm_of ?_)⟩⟩
    have f : Frm scr M (wJ M 80 (j + 1) (jN (bwW a t (j + 1) * (10 - a) + bwW a t j * a))) := Frm.wJ (by omega)
    refine ih _ (by omega) (f.S hS) (fun k hk => ?_) fun M2 f2 h2 => hz M2 (f.tr f2) h2
    by_cases z : k = j + 1
    · subst z
      rw [mJ_s, if_pos (by omega)]
      rfl
    · rw [mJ_n (by omega), h80 k hk]
      by_cases z2 : j < k
      · rw [if_pos (by omega), if_pos z2]
      · rw [if_neg (by omega), if_neg z2]
theorem m_sun_l {L a n : Nat} {r low : Int32} {φ : Int64 → fM → Prop} (ha : a ≤ 10) (hn : n ≤ 15) : ∀ (m t : Nat) (M : fM), t + m = n → Str L M → (∀ k, k < 17 → mJ M 80 k = jN (bwW a t k)) → (∀ M2, Frm scr M M2 → (∀ k, k < 17 → mJ M2 80 k = jN (bwW a n k)) → ∃ f, l_X11_sure_152 φ f 70 (nI n) low (0 : Int64) r M2) → l_X11_sure_70 φ (m + 1) 70 r (nI a) (nI n) low (nI t) M := by
  intro m
  induction m with
  | zero =>
    intro t M ht hS h80 hz
    obtain rfl : t = n := by omega
    exact iF_t ((nIle (by omega) (by omega)).mpr (Nat.le_refl _)) (hz M Frm.rf h80)
  | succ m ih =>
    intro t M ht hS h80 hz
    show b_X11_sure_70 (l_X11_sure_70 φ (m + 1)) φ 70 r (nI a) (nI n) low (nI t) M
    generalize hK : l_X11_sure_70 φ (m + 1) = K at ih ⊢
    refine iF_f (fun c => absurd ((nIle (by omega) (by omega)).mp c) (by omega)) (nm_of ⟨t + 2, ?_⟩)
    rw [show nI t + (1 : Int32) = nI (t + 1) from nI_add _ 1]
    refine m_sur_l (L := L) ha (by omega) (t + 1) M (by omega) hS (fun k hk => ?_) fun M2 f2 h2 => ih (t + 1) M2 (by omega) (f2.S hS) h2 fun M3 f3 h3 => hz M3 (f2.tr f3) h3
    rw [h80 k hk]
    by_cases z : t + 1 < k
    · rw [if_pos z, bwW_0 t k (by omega), bwW_0 (t + 1) k z]
    · rw [if_neg z]
theorem m_sum_l {L a n : Nat} {low : Int32} {M : fM} {φ : Int64 → fM → Prop} (hS : Str L M) (h80 : ∀ k, k < 17 → mJ M 80 k = jN (bwW a n k)) : ∀ (m i acc : Nat), i + m = 17 → (w_X11_tenTo (nI n) M fun x2 M1 => w_X11_part (jN (acc + sfW (bwW a n) i m)) x2 low M1 fun x4 M3 => φ x4 M3) → l_X11_sure_152 φ (m + 1) 70 (nI n) low (jN acc) (nI i) M := by
  intro m
  induction m with
  | zero =>
    intro i acc hi h
    obtain rfl : i = 17 := by omega
    exact iF_t (by decide) h
  | succ m ih =>
    intro i acc hi h
    show b_X11_sure_152 (l_X11_sure_152 φ (m + 1)) φ 70 (nI n) low (jN acc) (nI i) M
    refine iF_f (fun c => absurd ((nIle (a := 17) (by omega) (by omega)).mp c) (by omega)) ⟨isO_pt hS (by decide) rfl, dR_of (Str.pg hS rfl) ⟨inA_pt hS rfl (vp_nI (by omega) (by decide)), nm_of (nm_of ?_)⟩⟩
    rw [ix_nI (by omega), h80 i (by omega), jN_add, show nI i + (1 : Int32) = nI (i + 1) from nI_add _ 1]
    refine ih (i + 1) (acc + bwW a n i) (by omega) ?_
    rw [Nat.add_assoc]
    exact h
theorem m_ini_l {L : Nat} {r a n low : Int32} {φ : Int64 → fM → Prop} : ∀ (m i : Nat) (M : fM), i + m = 17 → Str L M → (∀ k, k < i → mJ M 80 k = jN (if k = 0 then 1 else 0)) → (∀ M2, Frm scr M M2 → (∀ k, k < 17 → mJ M2 80 k = jN (if k = 0 then 1 else 0)) → ∃ f, l_X11_sure_70 φ f 70 r a n low (0 : Int32) M2) → l_X11_sure_37 φ (m + 1) 70 r a n low (nI i) M := by
  intro m
  induction m with
  | zero =>
    intro i M hi hS h80 hz
    obtain rfl : i = 17 := by omega
    exact iF_t (by decide) (hz M Frm.rf h80)
  | succ m ih =>
    intro i M hi hS h80 hz
    show b_X11_sure_37 (l_X11_sure_37 φ (m + 1)) φ 70 r a n low (nI i) M
    generalize hK : l_X11_sure_37 φ (m + 1) = K at ih ⊢
    have go : ∀ s : Nat, s = (if i = 0 then 1 else 0) → j_X11_sure_60 K φ 70 r a n low (nI i) (jN s) (nI i) 80 M := by
      intro s hs
      refine ⟨by omega, inA_pt hS rfl (vp_nI (by omega) (by decide)), st_of (nm_of ?_)⟩
      rw [ix_nI (by omega), show nI i + (1 : Int32) = nI (i + 1) from nI_add _ 1]
      have f : Frm scr M (wJ M 80 i (jN s)) := Frm.wJ (by omega)
      refine ih (i + 1) _ (by omega) (f.S hS) (fun k hk => ?_) fun M2 f2 h2 => hz M2 (f.tr f2) h2
      by_cases z : k = i
      · subst z
        rw [mJ_s, hs]
      · rw [mJ_n (by omega)]
        exact h80 k (by omega)
    refine iF_f (fun c => absurd ((nIle (a := 17) (by omega) (by omega)).mp c) (by omega)) ⟨isO_pt hS (by decide) rfl, dR_of (Str.pg hS rfl) ?_⟩
    by_cases z : i = 0
    · exact iF_t (by rw [z]; rfl) (go 1 (by rw [if_pos z]))
    · exact iF_f (fun c => z (nI_inj (b := 0) (by omega) (by omega) c)) (go 0 (by rw [if_neg z]))
theorem k_sure {L B : Nat} {X : Nat → Int32} {M : fM} {a b c d : Int32} {φ : Int64 → fM → Prop} (hI : Inv L X B M) (hz : ∀ v M1, Mid L X B (fun M φ => w_X11_sure 70 a b c d M φ) v M1 → φ v M1) : w_X10_sure 6 a b c d M φ := by
  obtain ⟨A, A', nx, nx', tl, tp, hI⟩ := hI
  obtain ⟨hS, hX, hC, hM, hK, hMK, hO, hO', hTp, hFl, hTx⟩ := id hI
  obtain ⟨cn, cm, cr, ct, ch, p1, p2, p3, s4, s5, s6, s9, s11, s14, s15, s17, cb, cg⟩ := hC.f
  obtain ⟨hH, hP, hSc, hW, hB, hG, hA⟩ := id hC
  obtain ⟨m1, m4⟩ := id hM
  obtain ⟨f5, f6⟩ := id hFl
  obtain ⟨t0, t1, t2, t3⟩ := id hTp
  have e1 : 0 + 0 = 0 := rfl
  have e2 : 0 + 0 = 0 := rfl
  have e3 : 0 + 0 = 0 := rfl
  obtain ⟨⟨o0, o1, o2, o3, o4, o5, o6, o7, o8, o9⟩, oH, oP, oW, oA, oG, oB⟩ := id hO
  rcases Decidable.em (((1 : Nat) : Int) ≤ a.toInt ∧ a.toInt ≤ (9 : Nat) ∧ ((1 : Nat) : Int) ≤ b.toInt ∧ b.toInt ≤ (10 : Nat) ∧ 0 ≤ c.toInt ∧ c.toInt ≤ (15 : Nat)) with hv | hv
  · obtain ⟨r, hr1, hr2, rfl⟩ := rgJ hv.1 hv.2.1
    obtain ⟨p, hp1, hp2, rfl⟩ := rgJ hv.2.2.1 hv.2.2.2.1
    obtain ⟨n, hn, rfl⟩ := rgI hv.2.2.2.2.1 hv.2.2.2.2.2
    unfold w_X10_sure
    repeat' (first | ((with_reducible refine c_fil_hh (L := L) ?_ ?_ ?_); (exact hS); omega) | ((with_reducible refine c_build (L := L) ?_ ?_ ?_); (exact hS); omega) | with_reducible refine nm_of ?_ | with_reducible refine st_of ?_ | ((with_reducible apply dR_of); first | exact Str.pg hS rfl | exact sp_hsx hS (by omega) | exact sp_hs hS (by omega) | exact sp_hh hS (by omega) | assumption | fail) | ((with_reducible refine And.intro ?_ ?_); first | exact isO_pt hS (by decide) rfl | exact inA_pt hS rfl (by (first | exact vp_lit (by decide) | (simp (disch := omega) only [lit32, Nat.add_sub_cancel, Nat.sub_zero, Nat.reduceSub, nI_add, nI_muL, nI_sub, ix_nI, mI_s, mI_n, mI_fs, mI_fn, mI_ci, mI_co, mI_si, mI_so, Nat.add_zero, up_n, up_s, cpA_i, cpA_o, shA_i, shA_o, fiA_i, fiA_o, imin_l, imin_r, nI_mod, nI_div, xr_e, cn, cm, cr, ct, ch, p1, p2, p3, s4, s5, s6, s9, s11, s14, s15, s17, cb, cg, m1, m4, f5, f6, t1, t2, e1, e2, e3]; first | done | exact vp_nI (by omega) (by decide)) | exact vp_nI (by omega) (by decide) | fail)) | omega | exact isO_hs hS (by omega) | exact inA_hh hS (by omega) (by (first | exact vp_lit (by decide) | (simp (disch := omega) only [lit32, Nat.add_sub_cancel, Nat.sub_zero, Nat.reduceSub, nI_add, nI_muL, nI_sub, ix_nI, mI_s, mI_n, mI_fs, mI_fn, mI_ci, mI_co, mI_si, mI_so, Nat.add_zero, up_n, up_s, cpA_i, cpA_o, shA_i, shA_o, fiA_i, fiA_o, imin_l, imin_r, nI_mod, nI_div, xr_e, cn, cm, cr, ct, ch, p1, p2, p3, s4, s5, s6, s9, s11, s14, s15, s17, cb, cg, m1, m4, f5, f6, t1, t2, e1, e2, e3]; first | done | exact vp_nI (by omega) (by decide)) | exact vp_nI (by omega) (by decide) | fail)) | exact isB1 | exact isB0 | assumption | fail) | ((with_reducible apply lenA_of); first | exact Str.sh hS _ _ rfl | exact ss_hh hS (by omega) | assumption | fail) | with_reducible refine gN_of rfl ?_ | with_reducible refine gN_no rfl ?_ | ((with_reducible refine iF_t ?_ ?_); focus ((try simp (disch := omega) only [lit32, Nat.add_sub_cancel, Nat.sub_zero, Nat.reduceSub, nI_add, nI_muL, nI_sub, ix_nI, mI_s, mI_n, mI_fs, mI_fn, mI_ci, mI_co, mI_si, mI_so, Nat.add_zero, up_n, up_s, cpA_i, cpA_o, shA_i, shA_o, fiA_i, fiA_o, imin_l, imin_r, nI_mod, nI_div, xr_e, cn, cm, cr, ct, ch, p1, p2, p3, s4, s5, s6, s9, s11, s14, s15, s17, cb, cg, m1, m4, f5, f6, t1, t2, e1, e2, e3, lt_toInt, le_toInt, eq_toInt, toInt_nI, tI_neg, bt_e, tI_sub, tI_subR, tI_subL]); first | done | omega)) | ((with_reducible refine iF_f ?_ ?_); focus ((try simp (disch := omega) only [lit32, Nat.add_sub_cancel, Nat.sub_zero, Nat.reduceSub, nI_add, nI_muL, nI_sub, ix_nI, mI_s, mI_n, mI_fs, mI_fn, mI_ci, mI_co, mI_si, mI_so, Nat.add_zero, up_n, up_s, cpA_i, cpA_o, shA_i, shA_o, fiA_i, fiA_o, imin_l, imin_r, nI_mod, nI_div, xr_e, cn, cm, cr, ct, ch, p1, p2, p3, s4, s5, s6, s9, s11, s14, s15, s17, cb, cg, m1, m4, f5, f6, t1, t2, e1, e2, e3, lt_toInt, le_toInt, eq_toInt, toInt_nI, tI_neg, bt_e, tI_sub, tI_subR, tI_subL]); first | done | omega)) | fail)
    refine c_sure hS hX hp2 hr1 hr2 hn fun M1 f1 => mids hS hX hz f1 fun Ψ hΨ => ?_
    show w_X11_sure 70 (nI r) (nI p) (nI n) d _ _
    have hS0 := hS
    have hS := f1.S hS0
    unfold w_X11_sure w_X11_isIn
    repeat' (first | ((with_reducible refine c_fil_hh (L := L) ?_ ?_ ?_); (exact hS); omega) | ((with_reducible refine c_build (L := L) ?_ ?_ ?_); (exact hS); omega) | with_reducible refine nm_of ?_ | with_reducible refine st_of ?_ | ((with_reducible apply dR_of); first | exact Str.pg hS rfl | exact sp_hsx hS (by omega) | exact sp_hs hS (by omega) | exact sp_hh hS (by omega) | assumption | fail) | ((with_reducible refine And.intro ?_ ?_); first | exact isO_pt hS (by decide) rfl | exact inA_pt hS rfl (by (first | exact vp_lit (by decide) | (simp (disch := omega) only [lit32, Nat.add_sub_cancel, Nat.sub_zero, Nat.reduceSub, nI_add, nI_muL, nI_sub, ix_nI, mI_s, mI_n, mI_fs, mI_fn, mI_ci, mI_co, mI_si, mI_so, Nat.add_zero, up_n, up_s, cpA_i, cpA_o, shA_i, shA_o, fiA_i, fiA_o, imin_l, imin_r, nI_mod, nI_div, xr_e, cn, cm, cr, ct, ch, p1, p2, p3, s4, s5, s6, s9, s11, s14, s15, s17, cb, cg, m1, m4, f5, f6, t1, t2, e1, e2, e3]; first | done | exact vp_nI (by omega) (by decide)) | exact vp_nI (by omega) (by decide) | fail)) | omega | exact isO_hs hS (by omega) | exact inA_hh hS (by omega) (by (first | exact vp_lit (by decide) | (simp (disch := omega) only [lit32, Nat.add_sub_cancel, Nat.sub_zero, Nat.reduceSub, nI_add, nI_muL, nI_sub, ix_nI, mI_s, mI_n, mI_fs, mI_fn, mI_ci, mI_co, mI_si, mI_so, Nat.add_zero, up_n, up_s, cpA_i, cpA_o, shA_i, shA_o, fiA_i, fiA_o, imin_l, imin_r, nI_mod, nI_div, xr_e, cn, cm, cr, ct, ch, p1, p2, p3, s4, s5, s6, s9, s11, s14, s15, s17, cb, cg, m1, m4, f5, f6, t1, t2, e1, e2, e3]; first | done | exact vp_nI (by omega) (by decide)) | exact vp_nI (by omega) (by decide) | fail)) | exact isB1 | exact isB0 | assumption | fail) | ((with_reducible apply lenA_of); first | exact Str.sh hS _ _ rfl | exact ss_hh hS (by omega) | assumption | fail) | with_reducible refine gN_of rfl ?_ | with_reducible refine gN_no rfl ?_ | ((with_reducible refine iF_t ?_ ?_); focus ((try simp (disch := omega) only [lit32, Nat.add_sub_cancel, Nat.sub_zero, Nat.reduceSub, nI_add, nI_muL, nI_sub, ix_nI, mI_s, mI_n, mI_fs, mI_fn, mI_ci, mI_co, mI_si, mI_so, Nat.add_zero, up_n, up_s, cpA_i, cpA_o, shA_i, shA_o, fiA_i, fiA_o, imin_l, imin_r, nI_mod, nI_div, xr_e, cn, cm, cr, ct, ch, p1, p2, p3, s4, s5, s6, s9, s11, s14, s15, s17, cb, cg, m1, m4, f5, f6, t1, t2, e1, e2, e3, lt_toInt, le_toInt, eq_toInt, toInt_nI, tI_neg, bt_e, tI_sub, tI_subR, tI_subL]); first | done | omega)) | ((with_reducible refine iF_f ?_ ?_); focus ((try simp (disch := omega) only [lit32, Nat.add_sub_cancel, Nat.sub_zero, Nat.reduceSub, nI_add, nI_muL, nI_sub, ix_nI, mI_s, mI_n, mI_fs, mI_fn, mI_ci, mI_co, mI_si, mI_so, Nat.add_zero, up_n, up_s, cpA_i, cpA_o, shA_i, shA_o, fiA_i, fiA_o, imin_l, imin_r, nI_mod, nI_div, xr_e, cn, cm, cr, ct, ch, p1, p2, p3, s4, s5, s6, s9, s11, s14, s15, s17, cb, cg, m1, m4, f5, f6, t1, t2, e1, e2, e3, lt_toInt, le_toInt, eq_toInt, toInt_nI, tI_neg, bt_e, tI_sub, tI_subR, tI_subL]); first | done | omega)) | fail)
    have b10 : tlW p r n ≤ n * 10 ^ n := tlW_le hp2 n
    have p10 : 10 ^ n ≤ 10 ^ 15 := Nat.pow_le_pow_right (by omega) hn
    have p0 : 0 < 10 ^ n := Nat.pow_pos (by omega)
    have b11 : n * 10 ^ n ≤ 15 * 10 ^ 15 := Nat.mul_le_mul hn p10
    have z15 : (10 : Nat) ^ 15 = 1000000000000000 := by decide
    refine ⟨18, m_ini_l (L := L) 17 0 M1 rfl hS (fun k hk => absurd hk (by omega)) fun M2 f2 h2 => ⟨n + 1, m_sun_l (L := L) hp2 hn n 0 M2 (by omega) (f2.S hS) (fun k hk => ?_) fun M3 f3 h3 => ⟨17 - r + 1, m_sum_l (L := L) (f3.S (f2.S hS)) h3 (17 - r) r 0 (by omega) ?_⟩⟩⟩
    · rw [h2 k hk]
      cases k with
      | zero => rfl
      | succ k => rw [if_neg (Nat.succ_ne_zero k)]; rfl
    · rw [Nat.zero_add, tlW_s hp2 hr1 (by omega) n (by omega)]
      exact m_tenTo rfl (by omega) (m_part (by omega) (by omega) (by omega) (hΨ _ (hI.look f1 (f2.tr f3))))
  · unfold w_X10_sure
    repeat' (first | ((with_reducible refine c_fil_hh (L := L) ?_ ?_ ?_); (exact hS); omega) | ((with_reducible refine c_build (L := L) ?_ ?_ ?_); (exact hS); omega) | with_reducible refine nm_of ?_ | with_reducible refine st_of ?_ | ((with_reducible apply dR_of); first | exact Str.pg hS rfl | exact sp_hsx hS (by omega) | exact sp_hs hS (by omega) | exact sp_hh hS (by omega) | assumption | fail) | ((with_reducible refine And.intro ?_ ?_); first | exact isO_pt hS (by decide) rfl | exact inA_pt hS rfl (by (first | exact vp_lit (by decide) | (simp (disch := omega) only [lit32, Nat.add_sub_cancel, Nat.sub_zero, Nat.reduceSub, nI_add, nI_muL, nI_sub, ix_nI, mI_s, mI_n, mI_fs, mI_fn, mI_ci, mI_co, mI_si, mI_so, Nat.add_zero, up_n, up_s, cpA_i, cpA_o, shA_i, shA_o, fiA_i, fiA_o, imin_l, imin_r, nI_mod, nI_div, xr_e, cn, cm, cr, ct, ch, p1, p2, p3, s4, s5, s6, s9, s11, s14, s15, s17, cb, cg, m1, m4, f5, f6, t1, t2, e1, e2, e3]; first | done | exact vp_nI (by omega) (by decide)) | exact vp_nI (by omega) (by decide) | fail)) | omega | exact isO_hs hS (by omega) | exact inA_hh hS (by omega) (by (first | exact vp_lit (by decide) | (simp (disch := omega) only [lit32, Nat.add_sub_cancel, Nat.sub_zero, Nat.reduceSub, nI_add, nI_muL, nI_sub, ix_nI, mI_s, mI_n, mI_fs, mI_fn, mI_ci, mI_co, mI_si, mI_so, Nat.add_zero, up_n, up_s, cpA_i, cpA_o, shA_i, shA_o, fiA_i, fiA_o, imin_l, imin_r, nI_mod, nI_div, xr_e, cn, cm, cr, ct, ch, p1, p2, p3, s4, s5, s6, s9, s11, s14, s15, s17, cb, cg, m1, m4, f5, f6, t1, t2, e1, e2, e3]; first | done | exact vp_nI (by omega) (by decide)) | exact vp_nI (by omega) (by decide) | fail)) | exact isB1 | exact isB0 | assumption | fail) | ((with_reducible apply lenA_of); first | exact Str.sh hS _ _ rfl | exact ss_hh hS (by omega) | assumption | fail) | with_reducible refine gN_of rfl ?_ | with_reducible refine gN_no rfl ?_ | ((with_reducible refine iF_t ?_ ?_); focus ((try simp (disch := omega) only [lit32, Nat.add_sub_cancel, Nat.sub_zero, Nat.reduceSub, nI_add, nI_muL, nI_sub, ix_nI, mI_s, mI_n, mI_fs, mI_fn, mI_ci, mI_co, mI_si, mI_so, Nat.add_zero, up_n, up_s, cpA_i, cpA_o, shA_i, shA_o, fiA_i, fiA_o, imin_l, imin_r, nI_mod, nI_div, xr_e, cn, cm, cr, ct, ch, p1, p2, p3, s4, s5, s6, s9, s11, s14, s15, s17, cb, cg, m1, m4, f5, f6, t1, t2, e1, e2, e3, lt_toInt, le_toInt, eq_toInt, toInt_nI, tI_neg, bt_e, tI_sub, tI_subR, tI_subL]); first | done | omega)) | ((with_reducible refine iF_f ?_ ?_); focus ((try simp (disch := omega) only [lit32, Nat.add_sub_cancel, Nat.sub_zero, Nat.reduceSub, nI_add, nI_muL, nI_sub, ix_nI, mI_s, mI_n, mI_fs, mI_fn, mI_ci, mI_co, mI_si, mI_so, Nat.add_zero, up_n, up_s, cpA_i, cpA_o, shA_i, shA_o, fiA_i, fiA_o, imin_l, imin_r, nI_mod, nI_div, xr_e, cn, cm, cr, ct, ch, p1, p2, p3, s4, s5, s6, s9, s11, s14, s15, s17, cb, cg, m1, m4, f5, f6, t1, t2, e1, e2, e3, lt_toInt, le_toInt, eq_toInt, toInt_nI, tI_neg, bt_e, tI_sub, tI_subR, tI_subL]); first | done | omega)) | ((with_reducible refine iF_s (fun hc => ?_) (fun hc => ?_)) <;> (try simp (disch := omega) only [lit32, Nat.add_sub_cancel, Nat.sub_zero, Nat.reduceSub, nI_add, nI_muL, nI_sub, ix_nI, mI_s, mI_n, mI_fs, mI_fn, mI_ci, mI_co, mI_si, mI_so, Nat.add_zero, up_n, up_s, cpA_i, cpA_o, shA_i, shA_o, fiA_i, fiA_o, imin_l, imin_r, nI_mod, nI_div, xr_e, cn, cm, cr, ct, ch, p1, p2, p3, s4, s5, s6, s9, s11, s14, s15, s17, cb, cg, m1, m4, f5, f6, t1, t2, e1, e2, e3, lt_toInt, le_toInt, eq_toInt, toInt_nI, tI_neg, bt_e, tI_sub, tI_subR, tI_subL] at hc)) | fail)
    all_goals first | (exfalso; omega) | refine mids hS hX hz Frm.rf fun Ψ hΨ => ?_
    all_goals (show w_X11_sure 70 a b c d _ _)
    all_goals unfold w_X11_sure w_X11_isIn
    all_goals repeat' (first | ((with_reducible refine c_fil_hh (L := L) ?_ ?_ ?_); (exact hS); omega) | ((with_reducible refine c_build (L := L) ?_ ?_ ?_); (exact hS); omega) | with_reducible refine nm_of ?_ | with_reducible refine st_of ?_ | ((with_reducible apply dR_of); first | exact Str.pg hS rfl | exact sp_hsx hS (by omega) | exact sp_hs hS (by omega) | exact sp_hh hS (by omega) | assumption | fail) | ((with_reducible refine And.intro ?_ ?_); first | exact isO_pt hS (by decide) rfl | exact inA_pt hS rfl (by (first | exact vp_lit (by decide) | (simp (disch := omega) only [lit32, Nat.add_sub_cancel, Nat.sub_zero, Nat.reduceSub, nI_add, nI_muL, nI_sub, ix_nI, mI_s, mI_n, mI_fs, mI_fn, mI_ci, mI_co, mI_si, mI_so, Nat.add_zero, up_n, up_s, cpA_i, cpA_o, shA_i, shA_o, fiA_i, fiA_o, imin_l, imin_r, nI_mod, nI_div, xr_e, cn, cm, cr, ct, ch, p1, p2, p3, s4, s5, s6, s9, s11, s14, s15, s17, cb, cg, m1, m4, f5, f6, t1, t2, e1, e2, e3]; first | done | exact vp_nI (by omega) (by decide)) | exact vp_nI (by omega) (by decide) | fail)) | omega | exact isO_hs hS (by omega) | exact inA_hh hS (by omega) (by (first | exact vp_lit (by decide) | (simp (disch := omega) only [lit32, Nat.add_sub_cancel, Nat.sub_zero, Nat.reduceSub, nI_add, nI_muL, nI_sub, ix_nI, mI_s, mI_n, mI_fs, mI_fn, mI_ci, mI_co, mI_si, mI_so, Nat.add_zero, up_n, up_s, cpA_i, cpA_o, shA_i, shA_o, fiA_i, fiA_o, imin_l, imin_r, nI_mod, nI_div, xr_e, cn, cm, cr, ct, ch, p1, p2, p3, s4, s5, s6, s9, s11, s14, s15, s17, cb, cg, m1, m4, f5, f6, t1, t2, e1, e2, e3]; first | done | exact vp_nI (by omega) (by decide)) | exact vp_nI (by omega) (by decide) | fail)) | exact isB1 | exact isB0 | assumption | fail) | ((with_reducible apply lenA_of); first | exact Str.sh hS _ _ rfl | exact ss_hh hS (by omega) | assumption | fail) | with_reducible refine gN_of rfl ?_ | with_reducible refine gN_no rfl ?_ | ((with_reducible refine iF_t ?_ ?_); focus ((try simp (disch := omega) only [lit32, Nat.add_sub_cancel, Nat.sub_zero, Nat.reduceSub, nI_add, nI_muL, nI_sub, ix_nI, mI_s, mI_n, mI_fs, mI_fn, mI_ci, mI_co, mI_si, mI_so, Nat.add_zero, up_n, up_s, cpA_i, cpA_o, shA_i, shA_o, fiA_i, fiA_o, imin_l, imin_r, nI_mod, nI_div, xr_e, cn, cm, cr, ct, ch, p1, p2, p3, s4, s5, s6, s9, s11, s14, s15, s17, cb, cg, m1, m4, f5, f6, t1, t2, e1, e2, e3, lt_toInt, le_toInt, eq_toInt, toInt_nI, tI_neg, bt_e, tI_sub, tI_subR, tI_subL]); first | done | omega)) | ((with_reducible refine iF_f ?_ ?_); focus ((try simp (disch := omega) only [lit32, Nat.add_sub_cancel, Nat.sub_zero, Nat.reduceSub, nI_add, nI_muL, nI_sub, ix_nI, mI_s, mI_n, mI_fs, mI_fn, mI_ci, mI_co, mI_si, mI_so, Nat.add_zero, up_n, up_s, cpA_i, cpA_o, shA_i, shA_o, fiA_i, fiA_o, imin_l, imin_r, nI_mod, nI_div, xr_e, cn, cm, cr, ct, ch, p1, p2, p3, s4, s5, s6, s9, s11, s14, s15, s17, cb, cg, m1, m4, f5, f6, t1, t2, e1, e2, e3, lt_toInt, le_toInt, eq_toInt, toInt_nI, tI_neg, bt_e, tI_sub, tI_subR, tI_subL]); first | done | omega)) | ((with_reducible refine iF_s (fun hc => ?_) (fun hc => ?_)) <;> (try simp (disch := omega) only [lit32, Nat.add_sub_cancel, Nat.sub_zero, Nat.reduceSub, nI_add, nI_muL, nI_sub, ix_nI, mI_s, mI_n, mI_fs, mI_fn, mI_ci, mI_co, mI_si, mI_so, Nat.add_zero, up_n, up_s, cpA_i, cpA_o, shA_i, shA_o, fiA_i, fiA_o, imin_l, imin_r, nI_mod, nI_div, xr_e, cn, cm, cr, ct, ch, p1, p2, p3, s4, s5, s6, s9, s11, s14, s15, s17, cb, cg, m1, m4, f5, f6, t1, t2, e1, e2, e3, lt_toInt, le_toInt, eq_toInt, toInt_nI, tI_neg, bt_e, tI_sub, tI_subR, tI_subL] at hc)) | fail)
    all_goals first | (exfalso; omega) | exact hΨ _ hI.inv | fail
