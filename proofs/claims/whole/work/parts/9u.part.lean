/-! ===== a part: both Euclids come to the same ===== -/
def jN (n : Nat) : Int64 := iJ (n : Int)
theorem jN_t {n : Nat} (h : n < 9223372036854775808) : (jN n).toInt = n := iJ_t (by omega) (by omega)
theorem jN_add (a b : Nat) : jN a + jN b = jN (a + b) := by
  unfold jN
  rw [iJ_add, Int.natCast_add]
theorem jN_mul (a b : Nat) : jN a * jN b = jN (a * b) := by
  unfold jN
  rw [iJ_mul, Int.natCast_mul]
theorem jN_sub {a b : Nat} (h : b ≤ a) : jN a - jN b = jN (a - b) := by
  unfold jN
  rw [iJ_sub, Int.ofNat_sub h]
theorem jN_I {n : Nat} (h : n < 2147483648) : Int32.toInt64 (nI n) = jN n := by
  rw [← iI_n h]
  exact I2J (by omega) (by omega)
theorem jN_J {n : Nat} (h : n < 2147483648) : Int64.toInt32 (jN n) = nI n := by
  rw [← iI_n h]
  exact J2I (by omega) (by omega)
theorem jN_inj {a b : Nat} (ha : a < 9223372036854775808) (hb : b < 9223372036854775808) (h : jN a = jN b) : a = b := by
  have q := congrArg Int64.toInt h
  rw [jN_t ha, jN_t hb] at q
  omega
theorem jN_div {a b : Nat} (ha : a < 9223372036854775808) (hb : b < 9223372036854775808) : jN a / jN b = jN (a / b) := by
  apply Int64.toInt_inj.mp
  have h1 := Nat.div_le_self a b
  rw [Int64.toInt_div, jN_t ha, jN_t hb, jN_t (by omega), ← Int.ofNat_tdiv]
  generalize a / b = c at h1 ⊢
  exact bmod64 (by omega) (by omega)
theorem jN_mod {a b : Nat} (ha : a < 9223372036854775808) (hb : b < 9223372036854775808) : jN a % jN b = jN (a % b) := by
  apply Int64.toInt_inj.mp
  have h1 := Nat.mod_le a b
  rw [Int64.toInt_mod, jN_t ha, jN_t hb, jN_t (by omega), Int.tmod_eq_emod_of_nonneg (by omega), ← Int.natCast_emod]
theorem lg_0 {a : Nat} (ha : a < 9223372036854775808) : lg_cmp (jN a) (0 : Int64) = 0 ↔ a = 0 := by
  constructor
  · intro h
    rcases Nat.eq_zero_or_pos a with e | e
    · exact e
    · have q : lg_cmp (jN a) (iJ 0) = 1 := lg_gt (a := a) (b := 0) (by omega) (by omega) (by omega)
      rw [show (0 : Int64) = iJ 0 from rfl, q] at h
      exact absurd h (by decide)
  · rintro rfl
    exact lg_eq _
def fb : Nat → Nat
  | 0 => 0
  | 1 => 1
  | n + 2 => fb (n + 1) + fb n
theorem fb_m : ∀ n, fb n ≤ fb (n + 1)
  | 0 => by decide
  | n + 1 => by
    show fb (n + 1) ≤ fb (n + 1) + fb n
    omega
theorem fb_10 (n : Nat) : 89 * fb n ≤ fb (n + 10) := by
  have h := fb_m n
  have h2 : fb (n + 2) = fb (n + 1) + fb n := rfl
  have h3 : fb (n + 3) = fb (n + 2) + fb (n + 1) := rfl
  have h4 : fb (n + 4) = fb (n + 3) + fb (n + 2) := rfl
  have h5 : fb (n + 5) = fb (n + 4) + fb (n + 3) := rfl
  have h6 : fb (n + 6) = fb (n + 5) + fb (n + 4) := rfl
  have h7 : fb (n + 7) = fb (n + 6) + fb (n + 5) := rfl
  have h8 : fb (n + 8) = fb (n + 7) + fb (n + 6) := rfl
  have h9 : fb (n + 9) = fb (n + 8) + fb (n + 7) := rfl
  have h10 : fb (n + 10) = fb (n + 9) + fb (n + 8) := rfl
  omega
theorem fb_99 : 9223372036854775808 ≤ fb 99 := by
  have h0 : fb 9 = 34 := by decide
  have h1 : 89 * fb 9 ≤ fb 19 := fb_10 9
  have h2 : 89 * fb 19 ≤ fb 29 := fb_10 19
  have h3 : 89 * fb 29 ≤ fb 39 := fb_10 29
  have h4 : 89 * fb 39 ≤ fb 49 := fb_10 39
  have h5 : 89 * fb 49 ≤ fb 59 := fb_10 49
  have h6 : 89 * fb 59 ≤ fb 69 := fb_10 59
  have h7 : 89 * fb 69 ≤ fb 79 := fb_10 69
  have h8 : 89 * fb 79 ≤ fb 89 := fb_10 79
  have h9 : 89 * fb 89 ≤ fb 99 := fb_10 89
  omega
def ptN (a b : Nat) (low : Int32) : Nat := (if low = 0 then a else b) / Nat.gcd a b
theorem gcd_st (a b : Nat) : Nat.gcd b (a % b) = Nat.gcd a b := by
  rw [Nat.gcd_comm b (a % b), ← Nat.gcd_rec b a, Nat.gcd_comm]
theorem c_p44 {a b g : Nat} {low : Int32} {M : fM} {φ : Int64 → fM → Prop} (ha : a < 9223372036854775808) (hb : b < 9223372036854775808) (hg : g = Nat.gcd a b) (h0 : 0 < a + b) (h : φ (jN (ptN a b low)) M) : j_X10_part_44 φ (jN a) (jN b) low (jN g) M := by
  subst hg
  unfold ptN at h
  have g0 : 0 < Nat.gcd a b := by
    rcases Nat.eq_zero_or_pos (Nat.gcd a b) with e | e
    · have := Nat.gcd_eq_zero_iff.mp e
      omega
    · exact e
  have g1 : Nat.gcd a b < 9223372036854775808 := by
    rcases Nat.eq_zero_or_pos a with e | e
    · have := Nat.gcd_le_right a (show 0 < b by omega)
      omega
    · have := Nat.gcd_le_left b e
      omega
  have ne : ¬ (jN (Nat.gcd a b) = 0) := fun c => absurd (jN_inj (b := 0) g1 (by omega) c) (by omega)
  refine iF_f (fun c => absurd ((lg_0 g1).mp c) (by omega)) ?_
  by_cases q : low = 0
  · rw [if_pos q] at h
    refine iF_t q ⟨ne, ?_⟩
    rw [jN_div ha g1]
    exact h
  · rw [if_neg q] at h
    refine iF_f q ⟨ne, ?_⟩
    rw [jN_div hb g1]
    exact h
theorem c_eu_l {a b : Nat} {low : Int32} {M : fM} {φ : Int64 → fM → Prop} (ha : a < 9223372036854775808) (hb : b < 9223372036854775808) (h0 : 0 < a + b) (h : φ (jN (ptN a b low)) M) : ∀ (k x y p : Nat), p + k ≤ 100 → y < x → (y < fb (k + 1) ∨ x < fb (k + 2)) → x < 9223372036854775808 → Nat.gcd x y = Nat.gcd a b → l_X10_part_9 φ (k + 1) (jN a) (jN b) low (jN x) (jN y) (nI p) M := by
  intro k
  induction k with
  | zero =>
    intro x y p hp hyx hf hx hg
    have e1 : fb (0 + 1) = 1 := rfl
    have e2 : fb (0 + 2) = 1 := rfl
    obtain rfl : y = 0 := by omega
    have j : j_X10_part_44 φ (jN a) (jN b) low (jN x) M := c_p44 ha hb (by rw [← hg, Nat.gcd_zero_right]) h0 h
    exact iF_s (fun _ => j) (fun _ => iF_t ((lg_0 (by omega)).mpr rfl) j)
  | succ k ih =>
    intro x y p hp hyx hf hx hg
    show b_X10_part_9 (l_X10_part_9 φ (k + 1)) φ (jN a) (jN b) low (jN x) (jN y) (nI p) M
    refine iF_f (fun c => absurd ((nIle (a := 100) (by omega) (by omega)).mp c) (by omega)) ?_
    rcases Nat.eq_zero_or_pos y with e | e
    · subst e
      exact iF_t ((lg_0 (by omega)).mpr rfl) (c_p44 ha hb (by rw [← hg, Nat.gcd_zero_right]) h0 h)
    · refine iF_f (fun c => absurd ((lg_0 (by omega)).mp c) (by omega)) ⟨fun c => absurd (jN_inj (b := 0) (by omega) (by omega) c) (by omega), nm_of (nm_of ?_)⟩
      rw [jN_mod hx (by omega), show nI p + (1 : Int32) = nI (p + 1) from nI_add _ 1]
      have hm := Nat.mod_lt x e
      have hdiv := Nat.div_add_mod x y
      have hq : 1 ≤ x / y := (Nat.one_le_div_iff e).mpr (by omega)
      have hq2 : y ≤ y * (x / y) := Nat.le_mul_of_pos_right y hq
      have e3 : fb (k + 1 + 2) = fb (k + 2) + fb (k + 1) := rfl
      exact ih y (x % y) (p + 1) (by omega) hm (by rcases hf with hf | hf; exact Or.inr hf; omega) (by omega) ((gcd_st x y).trans hg)
theorem c_part {a b : Nat} {low : Int32} {M : fM} {φ : Int64 → fM → Prop} (ha : a < 9223372036854775808) (hb : b < 9223372036854775808) (h0 : 0 < a + b) (h : φ (jN (ptN a b low)) M) : w_X10_part (jN a) (jN b) low M φ := by
  refine ⟨100, ?_⟩
  have f99 := fb_99
  have go : ∀ x y p, p ≤ 1 → y < x → x < 9223372036854775808 → Nat.gcd x y = Nat.gcd a b → l_X10_part_9 φ 99 (jN a) (jN b) low (jN x) (jN y) (nI p) M := fun x y p hp hy hx hg => c_eu_l ha hb h0 h 98 x y p (by omega) hy (Or.inl (Nat.lt_of_lt_of_le (Nat.lt_trans hy hx) f99)) hx hg
  show b_X10_part_9 (l_X10_part_9 φ 99) φ (jN a) (jN b) low (jN a) (jN b) (0 : Int32) M
  refine iF_f (by decide) ?_
  rcases Nat.eq_zero_or_pos b with e | e
  · subst e
    exact iF_t ((lg_0 (by omega)).mpr rfl) (c_p44 ha hb (Nat.gcd_zero_right a).symm h0 h)
  · refine iF_f (fun c => absurd ((lg_0 hb).mp c) (by omega)) ⟨fun c => absurd (jN_inj (b := 0) hb (by omega) c) (by omega), nm_of (nm_of ?_)⟩
    rw [jN_mod ha hb]
    exact go b (a % b) 1 (by omega) (Nat.mod_lt a e) hb (gcd_st a b)
theorem m_com_l {φ : Int64 → fM → Prop} {M : fM} : ∀ (n x y : Nat), y ≤ n → x < 9223372036854775808 → y < 9223372036854775808 → φ (jN (Nat.gcd x y)) M → ∃ f, l_X11_common_6 φ f (jN x) (jN y) M := by
  intro n
  induction n using Nat.strongRecOn with
  | ind n ih =>
    intro x y hy hx hy2 h
    rcases Nat.eq_zero_or_pos y with e | e
    · subst e
      rw [Nat.gcd_zero_right] at h
      exact ⟨1, iF_t ((lg_0 (by omega)).mpr rfl) h⟩
    · have hm := Nat.mod_lt x e
      obtain ⟨f, q⟩ := ih (x % y) (by omega) y (x % y) (Nat.le_refl _) hy2 (by omega) (by rw [gcd_st]; exact h)
      refine ⟨f + 1, iF_f (fun c => absurd ((lg_0 hy2).mp c) (by omega)) ⟨fun c => absurd (jN_inj (b := 0) hy2 (by omega) c) (by omega), nm_of ?_⟩⟩
      rw [jN_mod hx hy2]
      exact q
theorem m_part {a b : Nat} {low : Int32} {M : fM} {φ : Int64 → fM → Prop} (ha : a < 9223372036854775808) (hb : b < 9223372036854775808) (h0 : 0 < a + b) (h : φ (jN (ptN a b low)) M) : w_X11_part (jN a) (jN b) low M φ := by
  unfold ptN at h
  have g0 : 0 < Nat.gcd a b := by
    rcases Nat.eq_zero_or_pos (Nat.gcd a b) with e | e
    · have := Nat.gcd_eq_zero_iff.mp e
      omega
    · exact e
  have g1 : Nat.gcd a b < 9223372036854775808 := by
    rcases Nat.eq_zero_or_pos a with e | e
    · have := Nat.gcd_le_right a (show 0 < b by omega)
      omega
    · have := Nat.gcd_le_left b e
      omega
  have ne : ¬ (jN (Nat.gcd a b) = 0) := fun c => absurd (jN_inj (b := 0) g1 (by omega) c) (by omega)
  have go : ∀ s, s < 9223372036854775808 → φ (jN (s / Nat.gcd a b)) M → j_X11_part_10 φ (jN a) (jN b) (jN s) M := fun s hs q => m_com_l b a b (Nat.le_refl _) ha hb ⟨ne, by rw [jN_div hs g1]; exact q⟩
  by_cases q : low = 0
  · rw [if_pos q] at h
    exact iF_t q (go a ha h)
  · rw [if_neg q] at h
    exact iF_f q (go b hb h)
theorem k_average {L B : Nat} {X : Nat → Int32} {M : fM} {a b c : Int32} {φ : Int32 → fM → Prop} (hI : Inv L X B M) (hz : ∀ v M1, Mid L X B (fun M φ => w_X11_average 70 a b c M φ) v M1 → φ v M1) : w_X10_average 6 a b c M φ := by
  obtain ⟨A, A', nx, nx', tl, tp, hI⟩ := hI
  obtain ⟨hS, hX, hC, hM, hK, hMK, hO, hO', hTp, hFl, hTx⟩ := id hI
  obtain ⟨cn, cm, cr, ct, ch, p1, p2, p3, s4, s5, s6, s9, s11, s14, s15, s17, cb, cg⟩ := hC.f
  obtain ⟨hH, hP, hSc, hW, hB, hG, hA⟩ := id hC
  obtain ⟨m1, m4⟩ := id hM
  obtain ⟨f5, f6⟩ := id hFl
  obtain ⟨t0, t1, t2, t3⟩ := id hTp
  have e1 : 0 + 0 = 0 := rfl
  have e2 : 0 + 0 = 0 := rfl
  have e3 : 0 + 0 = 0 := rfl
  obtain ⟨⟨o0, o1, o2, o3, o4, o5, o6, o7, o8, o9⟩, oH, oP, oW, oA, oG, oB⟩ := id hO
  rcases Decidable.em (((1 : Nat) : Int) ≤ a.toInt ∧ a.toInt ≤ (9 : Nat) ∧ ((1 : Nat) : Int) ≤ b.toInt ∧ b.toInt ≤ (10 : Nat)) with hv | hv
  · obtain ⟨r, hr1, hr2, rfl⟩ := rgJ hv.1 hv.2.1
    obtain ⟨p, hp1, hp2, rfl⟩ := rgJ hv.2.2.1 hv.2.2.2
    unfold w_X10_average
    repeat' (first | ((with_reducible refine c_fil_hh (L := L) ?_ ?_ ?_); (exact hS); omega) | ((with_reducible refine c_build (L := L) ?_ ?_ ?_); (exact hS); omega) | with_reducible refine nm_of ?_ | with_reducible refine st_of ?_ | ((with_reducible apply dR_of); first | exact Str.pg hS rfl | exact sp_hsx hS (by omega) | exact sp_hs hS (by omega) | exact sp_hh hS (by omega) | assumption | fail) | ((with_reducible refine And.intro ?_ ?_); first | exact isO_pt hS (by decide) rfl | exact inA_pt hS rfl (by (first | exact vp_lit (by decide) | (simp (disch := omega) only [lit32, Nat.add_sub_cancel, Nat.sub_zero, Nat.reduceSub, nI_add, nI_muL, nI_sub, ix_nI, mI_s, mI_n, mI_fs, mI_fn, mI_ci, mI_co, mI_si, mI_so, Nat.add_zero, up_n, up_s, cpA_i, cpA_o, shA_i, shA_o, fiA_i, fiA_o, imin_l, imin_r, nI_mod, nI_div, xr_e, cn, cm, cr, ct, ch, p1, p2, p3, s4, s5, s6, s9, s11, s14, s15, s17, cb, cg, m1, m4, f5, f6, t1, t2, e1, e2, e3]; first | done | exact vp_nI (by omega) (by decide)) | exact vp_nI (by omega) (by decide) | fail)) | omega | exact isO_hs hS (by omega) | exact inA_hh hS (by omega) (by (first | exact vp_lit (by decide) | (simp (disch := omega) only [lit32, Nat.add_sub_cancel, Nat.sub_zero, Nat.reduceSub, nI_add, nI_muL, nI_sub, ix_nI, mI_s, mI_n, mI_fs, mI_fn, mI_ci, mI_co, mI_si, mI_so, Nat.add_zero, up_n, up_s, cpA_i, cpA_o, shA_i, shA_o, fiA_i, fiA_o, imin_l, imin_r, nI_mod, nI_div, xr_e, cn, cm, cr, ct, ch, p1, p2, p3, s4, s5, s6, s9, s11, s14, s15, s17, cb, cg, m1, m4, f5, f6, t1, t2, e1, e2, e3]; first | done | exact vp_nI (by omega) (by decide)) | exact vp_nI (by omega) (by decide) | fail)) | exact isB1 | exact isB0 | assumption | fail) | ((with_reducible apply lenA_of); first | exact Str.sh hS _ _ rfl | exact ss_hh hS (by omega) | assumption | fail) | with_reducible refine gN_of rfl ?_ | with_reducible refine gN_no rfl ?_ | ((with_reducible refine iF_t ?_ ?_); focus ((try simp (disch := omega) only [lit32, Nat.add_sub_cancel, Nat.sub_zero, Nat.reduceSub, nI_add, nI_muL, nI_sub, ix_nI, mI_s, mI_n, mI_fs, mI_fn, mI_ci, mI_co, mI_si, mI_so, Nat.add_zero, up_n, up_s, cpA_i, cpA_o, shA_i, shA_o, fiA_i, fiA_o, imin_l, imin_r, nI_mod, nI_div, xr_e, cn, cm, cr, ct, ch, p1, p2, p3, s4, s5, s6, s9, s11, s14, s15, s17, cb, cg, m1, m4, f5, f6, t1, t2, e1, e2, e3, lt_toInt, le_toInt, eq_toInt, toInt_nI, tI_neg, bt_e, tI_sub, tI_subR, tI_subL]); first | done | omega)) | ((with_reducible refine iF_f ?_ ?_); focus ((try simp (disch := omega) only [lit32, Nat.add_sub_cancel, Nat.sub_zero, Nat.reduceSub, nI_add, nI_muL, nI_sub, ix_nI, mI_s, mI_n, mI_fs, mI_fn, mI_ci, mI_co, mI_si, mI_so, Nat.add_zero, up_n, up_s, cpA_i, cpA_o, shA_i, shA_o, fiA_i, fiA_o, imin_l, imin_r, nI_mod, nI_div, xr_e, cn, cm, cr, ct, ch, p1, p2, p3, s4, s5, s6, s9, s11, s14, s15, s17, cb, cg, m1, m4, f5, f6, t1, t2, e1, e2, e3, lt_toInt, le_toInt, eq_toInt, toInt_nI, tI_neg, bt_e, tI_sub, tI_subR, tI_subL]); first | done | omega)) | fail)
    have ex : Int32.toInt64 (nI r * (10 : Int32)) = jN (10 * r) := by
      rw [Int32.mul_comm, show (10 : Int32) * nI r = nI (10 * r) from nI_muL 10 r]
      exact jN_I (by omega)
    have ey : (10 : Int64) * Int32.toInt64 (nI r) = jN (10 * r) := by
      rw [jN_I (by omega), show (10 : Int64) = jN 10 from rfl, jN_mul]
    have ep : Int32.toInt64 (nI p) = jN p := jN_I (by omega)
    have ex2 : Int32.toInt64 (nI (r * 10)) = jN (10 * r) := by rw [Nat.mul_comm]; exact jN_I (by omega)
    first | rw [ex, ep] | rw [ex2, ep]
    refine c_part (a := 10 * r) (b := p) (by omega) (by omega) (by omega) ?_
    refine mids hS hX hz Frm.rf fun Ψ hΨ => ?_
    show w_X11_average 70 (nI r) (nI p) c _ _
    unfold w_X11_average w_X11_isIn
    repeat' (first | ((with_reducible refine c_fil_hh (L := L) ?_ ?_ ?_); (exact hS); omega) | ((with_reducible refine c_build (L := L) ?_ ?_ ?_); (exact hS); omega) | with_reducible refine nm_of ?_ | with_reducible refine st_of ?_ | ((with_reducible apply dR_of); first | exact Str.pg hS rfl | exact sp_hsx hS (by omega) | exact sp_hs hS (by omega) | exact sp_hh hS (by omega) | assumption | fail) | ((with_reducible refine And.intro ?_ ?_); first | exact isO_pt hS (by decide) rfl | exact inA_pt hS rfl (by (first | exact vp_lit (by decide) | (simp (disch := omega) only [lit32, Nat.add_sub_cancel, Nat.sub_zero, Nat.reduceSub, nI_add, nI_muL, nI_sub, ix_nI, mI_s, mI_n, mI_fs, mI_fn, mI_ci, mI_co, mI_si, mI_so, Nat.add_zero, up_n, up_s, cpA_i, cpA_o, shA_i, shA_o, fiA_i, fiA_o, imin_l, imin_r, nI_mod, nI_div, xr_e, cn, cm, cr, ct, ch, p1, p2, p3, s4, s5, s6, s9, s11, s14, s15, s17, cb, cg, m1, m4, f5, f6, t1, t2, e1, e2, e3]; first | done | exact vp_nI (by omega) (by decide)) | exact vp_nI (by omega) (by decide) | fail)) | omega | exact isO_hs hS (by omega) | exact inA_hh hS (by omega) (by (first | exact vp_lit (by decide) | (simp (disch := omega) only [lit32, Nat.add_sub_cancel, Nat.sub_zero, Nat.reduceSub, nI_add, nI_muL, nI_sub, ix_nI, mI_s, mI_n, mI_fs, mI_fn, mI_ci, mI_co, mI_si, mI_so, Nat.add_zero, up_n, up_s, cpA_i, cpA_o, shA_i, shA_o, fiA_i, fiA_o, imin_l, imin_r, nI_mod, nI_div, xr_e, cn, cm, cr, ct, ch, p1, p2, p3, s4, s5, s6, s9, s11, s14, s15, s17, cb, cg, m1, m4, f5, f6, t1, t2, e1, e2, e3]; first | done | exact vp_nI (by omega) (by decide)) | exact vp_nI (by omega) (by decide) | fail)) | exact isB1 | exact isB0 | assumption | fail) | ((with_reducible apply lenA_of); first | exact Str.sh hS _ _ rfl | exact ss_hh hS (by omega) | assumption | fail) | with_reducible refine gN_of rfl ?_ | with_reducible refine gN_no rfl ?_ | ((with_reducible refine iF_t ?_ ?_); focus ((try simp (disch := omega) only [lit32, Nat.add_sub_cancel, Nat.sub_zero, Nat.reduceSub, nI_add, nI_muL, nI_sub, ix_nI, mI_s, mI_n, mI_fs, mI_fn, mI_ci, mI_co, mI_si, mI_so, Nat.add_zero, up_n, up_s, cpA_i, cpA_o, shA_i, shA_o, fiA_i, fiA_o, imin_l, imin_r, nI_mod, nI_div, xr_e, cn, cm, cr, ct, ch, p1, p2, p3, s4, s5, s6, s9, s11, s14, s15, s17, cb, cg, m1, m4, f5, f6, t1, t2, e1, e2, e3, lt_toInt, le_toInt, eq_toInt, toInt_nI, tI_neg, bt_e, tI_sub, tI_subR, tI_subL]); first | done | omega)) | ((with_reducible refine iF_f ?_ ?_); focus ((try simp (disch := omega) only [lit32, Nat.add_sub_cancel, Nat.sub_zero, Nat.reduceSub, nI_add, nI_muL, nI_sub, ix_nI, mI_s, mI_n, mI_fs, mI_fn, mI_ci, mI_co, mI_si, mI_so, Nat.add_zero, up_n, up_s, cpA_i, cpA_o, shA_i, shA_o, fiA_i, fiA_o, imin_l, imin_r, nI_mod, nI_div, xr_e, cn, cm, cr, ct, ch, p1, p2, p3, s4, s5, s6, s9, s11, s14, s15, s17, cb, cg, m1, m4, f5, f6, t1, t2, e1, e2, e3, lt_toInt, le_toInt, eq_toInt, toInt_nI, tI_neg, bt_e, tI_sub, tI_subR, tI_subL]); first | done | omega)) | fail)
    rw [ey, ep]
    exact m_part (by omega) (by omega) (by omega) (hΨ _ hI.inv)
  · unfold w_X10_average
    repeat' (first | ((with_reducible refine c_fil_hh (L := L) ?_ ?_ ?_); (exact hS); omega) | ((with_reducible refine c_build (L := L) ?_ ?_ ?_); (exact hS); omega) | with_reducible refine nm_of ?_ | with_reducible refine st_of ?_ | ((with_reducible apply dR_of); first | exact Str.pg hS rfl | exact sp_hsx hS (by omega) | exact sp_hs hS (by omega) | exact sp_hh hS (by omega) | assumption | fail) | ((with_reducible refine And.intro ?_ ?_); first | exact isO_pt hS (by decide) rfl | exact inA_pt hS rfl (by (first | exact vp_lit (by decide) | (simp (disch := omega) only [lit32, Nat.add_sub_cancel, Nat.sub_zero, Nat.reduceSub, nI_add, nI_muL, nI_sub, ix_nI, mI_s, mI_n, mI_fs, mI_fn, mI_ci, mI_co, mI_si, mI_so, Nat.add_zero, up_n, up_s, cpA_i, cpA_o, shA_i, shA_o, fiA_i, fiA_o, imin_l, imin_r, nI_mod, nI_div, xr_e, cn, cm, cr, ct, ch, p1, p2, p3, s4, s5, s6, s9, s11, s14, s15, s17, cb, cg, m1, m4, f5, f6, t1, t2, e1, e2, e3]; first | done | exact vp_nI (by omega) (by decide)) | exact vp_nI (by omega) (by decide) | fail)) | omega | exact isO_hs hS (by omega) | exact inA_hh hS (by omega) (by (first | exact vp_lit (by decide) | (simp (disch := omega) only [lit32, Nat.add_sub_cancel, Nat.sub_zero, Nat.reduceSub, nI_add, nI_muL, nI_sub, ix_nI, mI_s, mI_n, mI_fs, mI_fn, mI_ci, mI_co, mI_si, mI_so, Nat.add_zero, up_n, up_s, cpA_i, cpA_o, shA_i, shA_o, fiA_i, fiA_o, imin_l, imin_r, nI_mod, nI_div, xr_e, cn, cm, cr, ct, ch, p1, p2, p3, s4, s5, s6, s9, s11, s14, s15, s17, cb, cg, m1, m4, f5, f6, t1, t2, e1, e2, e3]; first | done | exact vp_nI (by omega) (by decide)) | exact vp_nI (by omega) (by decide) | fail)) | exact isB1 | exact isB0 | assumption | fail) | ((with_reducible apply lenA_of); first | exact Str.sh hS _ _ rfl | exact ss_hh hS (by omega) | assumption | fail) | with_reducible refine gN_of rfl ?_ | with_reducible refine gN_no rfl ?_ | ((with_reducible refine iF_t ?_ ?_); focus ((try simp (disch := omega) only [lit32, Nat.add_sub_cancel, Nat.sub_zero, Nat.reduceSub, nI_add, nI_muL, nI_sub, ix_nI, mI_s, mI_n, mI_fs, mI_fn, mI_ci, mI_co, mI_si, mI_so, Nat.add_zero, up_n, up_s, cpA_i, cpA_o, shA_i, shA_o, fiA_i, fiA_o, imin_l, imin_r, nI_mod, nI_div, xr_e, cn, cm, cr, ct, ch, p1, p2, p3, s4, s5, s6, s9, s11, s14, s15, s17, cb, cg, m1, m4, f5, f6, t1, t2, e1, e2, e3, lt_toInt, le_toInt, eq_toInt, toInt_nI, tI_neg, bt_e, tI_sub, tI_subR, tI_subL]); first | done | omega)) | ((with_reducible refine iF_f ?_ ?_); focus ((try simp (disch := omega) only [lit32, Nat.add_sub_cancel, Nat.sub_zero, Nat.reduceSub, nI_add, nI_muL, nI_sub, ix_nI, mI_s, mI_n, mI_fs, mI_fn, mI_ci, mI_co, mI_si, mI_so, Nat.add_zero, up_n, up_s, cpA_i, cpA_o, shA_i, shA_o, fiA_i, fiA_o, imin_l, imin_r, nI_mod, nI_div, xr_e, cn, cm, cr, ct, ch, p1, p2, p3, s4, s5, s6, s9, s11, s14, s15, s17, cb, cg, m1, m4, f5, f6, t1, t2, e1, e2, e3, lt_toInt, le_toInt, eq_toInt, toInt_nI, tI_neg, bt_e, tI_sub, tI_subR, tI_subL]); first | done | omega)) | ((with_reducible refine iF_s (fun hc => ?_) (fun hc => ?_)) <;> (try simp (disch := omega) only [lit32, Nat.add_sub_cancel, Nat.sub_zero, Nat.reduceSub, nI_add, nI_muL, nI_sub, ix_nI, mI_s, mI_n, mI_fs, mI_fn, mI_ci, mI_co, mI_si, mI_so, Nat.add_zero, up_n, up_s, cpA_i, cpA_o, shA_i, shA_o, fiA_i, fiA_o, imin_l, imin_r, nI_mod, nI_div, xr_e, cn, cm, cr, ct, ch, p1, p2, p3, s4, s5, s6, s9, s11, s14, s15, s17, cb, cg, m1, m4, f5, f6, t1, t2, e1, e2, e3, lt_toInt, le_toInt, eq_toInt, toInt_nI, tI_neg, bt_e, tI_sub, tI_subR, tI_subL] at hc)) | fail)
    all_goals first | (exfalso; omega) | refine mids hS hX hz Frm.rf fun Ψ hΨ => ?_
    all_goals (show w_X11_average 70 a b c _ _)
    all_goals unfold w_X11_average w_X11_isIn
    all_goals repeat' (first | ((with_reducible refine c_fil_hh (L := L) ?_ ?_ ?_); (exact hS); omega) | ((with_reducible refine c_build (L := L) ?_ ?_ ?_); (exact hS); omega) | with_reducible refine nm_of ?_ | with_reducible refine st_of ?_ | ((with_reducible apply dR_of); first | exact Str.pg hS rfl | exact sp_hsx hS (by omega) | exact sp_hs hS (by omega) | exact sp_hh hS (by omega) | assumption | fail) | ((with_reducible refine And.intro ?_ ?_); first | exact isO_pt hS (by decide) rfl | exact inA_pt hS rfl (by (first | exact vp_lit (by decide) | (simp (disch := omega) only [lit32, Nat.add_sub_cancel, Nat.sub_zero, Nat.reduceSub, nI_add, nI_muL, nI_sub, ix_nI, mI_s, mI_n, mI_fs, mI_fn, mI_ci, mI_co, mI_si, mI_so, Nat.add_zero, up_n, up_s, cpA_i, cpA_o, shA_i, shA_o, fiA_i, fiA_o, imin_l, imin_r, nI_mod, nI_div, xr_e, cn, cm, cr, ct, ch, p1, p2, p3, s4, s5, s6, s9, s11, s14, s15, s17, cb, cg, m1, m4, f5, f6, t1, t2, e1, e2, e3]; first | done | exact vp_nI (by omega) (by decide)) | exact vp_nI (by omega) (by decide) | fail)) | omega | exact isO_hs hS (by omega) | exact inA_hh hS (by omega) (by (first | exact vp_lit (by decide) | (simp (disch := omega) only [lit32, Nat.add_sub_cancel, Nat.sub_zero, Nat.reduceSub, nI_add, nI_muL, nI_sub, ix_nI, mI_s, mI_n, mI_fs, mI_fn, mI_ci, mI_co, mI_si, mI_so, Nat.add_zero, up_n, up_s, cpA_i, cpA_o, shA_i, shA_o, fiA_i, fiA_o, imin_l, imin_r, nI_mod, nI_div, xr_e, cn, cm, cr, ct, ch, p1, p2, p3, s4, s5, s6, s9, s11, s14, s15, s17, cb, cg, m1, m4, f5, f6, t1, t2, e1, e2, e3]; first | done | exact vp_nI (by omega) (by decide)) | exact vp_nI (by omega) (by decide) | fail)) | exact isB1 | exact isB0 | assumption | fail) | ((with_reducible apply lenA_of); first | exact Str.sh hS _ _ rfl | exact ss_hh hS (by omega) | assumption | fail) | with_reducible refine gN_of rfl ?_ | with_reducible refine gN_no rfl ?_ | ((with_reducible refine iF_t ?_ ?_); focus ((try simp (disch := omega) only [lit32, Nat.add_sub_cancel, Nat.sub_zero, Nat.reduceSub, nI_add, nI_muL, nI_sub, ix_nI, mI_s, mI_n, mI_fs, mI_fn, mI_ci, mI_co, mI_si, mI_so, Nat.add_zero, up_n, up_s, cpA_i, cpA_o, shA_i, shA_o, fiA_i, fiA_o, imin_l, imin_r, nI_mod, nI_div, xr_e, cn, cm, cr, ct, ch, p1, p2, p3, s4, s5, s6, s9, s11, s14, s15, s17, cb, cg, m1, m4, f5, f6, t1, t2, e1, e2, e3, lt_toInt, le_toInt, eq_toInt, toInt_nI, tI_neg, bt_e, tI_sub, tI_subR, tI_subL]); first | done | omega)) | ((with_reducible refine iF_f ?_ ?_); focus ((try simp (disch := omega) only [lit32, Nat.add_sub_cancel, Nat.sub_zero, Nat.reduceSub, nI_add, nI_muL, nI_sub, ix_nI, mI_s, mI_n, mI_fs, mI_fn, mI_ci, mI_co, mI_si, mI_so, Nat.add_zero, up_n, up_s, cpA_i, cpA_o, shA_i, shA_o, fiA_i, fiA_o, imin_l, imin_r, nI_mod, nI_div, xr_e, cn, cm, cr, ct, ch, p1, p2, p3, s4, s5, s6, s9, s11, s14, s15, s17, cb, cg, m1, m4, f5, f6, t1, t2, e1, e2, e3, lt_toInt, le_toInt, eq_toInt, toInt_nI, tI_neg, bt_e, tI_sub, tI_subR, tI_subL]); first | done | omega)) | ((with_reducible refine iF_s (fun hc => ?_) (fun hc => ?_)) <;> (try simp (disch := omega) only [lit32, Nat.add_sub_cancel, Nat.sub_zero, Nat.reduceSub, nI_add, nI_muL, nI_sub, ix_nI, mI_s, mI_n, mI_fs, mI_fn, mI_ci, mI_co, mI_si, mI_so, Nat.add_zero, up_n, up_s, cpA_i, cpA_o, shA_i, shA_o, fiA_i, fiA_o, imin_l, imin_r, nI_mod, nI_div, xr_e, cn, cm, cr, ct, ch, p1, p2, p3, s4, s5, s6, s9, s11, s14, s15, s17, cb, cg, m1, m4, f5, f6, t1, t2, e1, e2, e3, lt_toInt, le_toInt, eq_toInt, toInt_nI, tI_neg, bt_e, tI_sub, tI_subR, tI_subL] at hc)) | fail)
    all_goals first | (exfalso; omega) | exact hΨ _ hI.inv | fail
