/-! ===== LAMP: whether one fraction is no less than another ===== -/
def tI (t : Bool) : Int32 := cond t 1 0
def anB (t : Bool) (a b : Nat) : Bool := cond t (decide (a ≤ b)) (decide (b ≤ a))
theorem dv_lt {p q r s : Nat} (hq : 0 < q) (hs : 0 < s) (h : p / q < r / s) : p * s < r * q := by
  have h1 := Nat.div_add_mod p q
  have h2 := Nat.mod_lt p hq
  have h3 := Nat.div_add_mod r s
  have h4 : p < q * (p / q + 1) := by
    rw [Nat.mul_add, Nat.mul_one]
    omega
  have h5 : p * s < q * (p / q + 1) * s := Nat.mul_lt_mul_of_pos_right h4 hs
  have h6 : q * (p / q + 1) * s ≤ q * (r / s) * s := Nat.mul_le_mul_right s (Nat.mul_le_mul_left q h)
  have h7 : q * (r / s) * s = s * (r / s) * q := by ac_rfl
  have h8 : s * (r / s) * q ≤ r * q := Nat.mul_le_mul_right q (by omega)
  omega
theorem dv_eq {p q r s : Nat} (h : p / q = r / s) : p * s + (r % s) * q = r * q + (p % q) * s := by
  have h1 := Nat.div_add_mod p q
  have h3 := Nat.div_add_mod r s
  have e1 : p * s = q * (p / q) * s + (p % q) * s := by
    rw [← Nat.add_mul, h1]
  have e2 : r * q = s * (r / s) * q + (r % s) * q := by
    rw [← Nat.add_mul, h3]
  have e3 : q * (p / q) * s = s * (r / s) * q := by
    rw [h]
    ac_rfl
  omega
theorem m_nl_l {M : fM} {φ : Int32 → fM → Prop} : ∀ (b p q r s : Nat) (t : Bool), q ≤ b → 0 < q → 0 < s → p < 9223372036854775808 → q < 9223372036854775808 → r < 9223372036854775808 → s < 9223372036854775808 → φ (tI (anB t (p * s) (r * q))) M → ∃ n, l_X11_isNoLess_17 φ n (jN p) (jN q) (jN r) (jN s) (tI t) M := by
  intro b
  induction b with
  | zero =>
    intro p q r s t hqb hq
    omega
  | succ b ih =>
    intro p q r s t hqb hq hs p63 q63 r63 s63 h
    have nq : ¬ jN q = 0 := fun c => absurd (jN_inj (b := 0) q63 (by omega) c) (by omega)
    have ns : ¬ jN s = 0 := fun c => absurd (jN_inj (b := 0) s63 (by omega) c) (by omega)
    have k1 := Nat.div_le_self p q
    have k2 := Nat.div_le_self r s
    have x1 := Nat.mod_lt p hq
    have y1 := Nat.mod_lt r hs
    have ne : p / q ≠ r / s → ∃ n, l_X11_isNoLess_17 φ n (jN p) (jN q) (jN r) (jN s) (tI t) M := by
      intro hne
      refine ⟨1, ?_⟩
      show b_X11_isNoLess_17 _ φ (jN p) (jN q) (jN r) (jN s) (tI t) M
      unfold b_X11_isNoLess_17
      rw [jN_div p63 q63, jN_div r63 s63]
      refine ⟨nq, ns, iF_f (fun c => hne ((lgN_eq (by omega) (by omega)).mp c)) ⟨nq, ns, ?_⟩⟩
      rcases lgN (a := p / q) (b := r / s) (by omega) (by omega) with ⟨z, e⟩ | ⟨z, e⟩ | ⟨z, e⟩
      · rw [e]
        have d := dv_lt hq hs z
        refine iF_t (by decide) ?_
        cases t
        · exact iF_t rfl (by rw [show anB false (p * s) (r * q) = false from decide_eq_false (by omega)] at h; exact h)
        · exact iF_f (by decide) (by rw [show anB true (p * s) (r * q) = true from decide_eq_true (by omega)] at h; exact h)
      · exact absurd z hne
      · rw [e]
        have d := dv_lt hs hq z
        refine iF_f (by decide) ?_
        cases t
        · exact iF_f (by decide) (by rw [show anB false (p * s) (r * q) = true from decide_eq_true (by omega)] at h; exact h)
        · exact iF_t rfl (by rw [show anB true (p * s) (r * q) = false from decide_eq_false (by omega)] at h; exact h)
    by_cases hk : p / q = r / s
    · have d := dv_eq hk
      have pre : ∀ f, (iF ((lg_cmp (jN (p % q)) (0 : Int64)) = 0) (j_X11_isNoLess_89 φ (tI t) (jN (p % q)) (jN (r % s)) M) (iF ((lg_cmp (jN (r % s)) (0 : Int64)) = 0) (j_X11_isNoLess_89 φ (tI t) (jN (p % q)) (jN (r % s)) M) (iF (tI t = 0) (l_X11_isNoLess_17 φ f (jN q) (jN (p % q)) (jN s) (jN (r % s)) (1 : Int32) M) (l_X11_isNoLess_17 φ f (jN q) (jN (p % q)) (jN s) (jN (r % s)) (0 : Int32) M)))) → l_X11_isNoLess_17 φ (f + 1) (jN p) (jN q) (jN r) (jN s) (tI t) M := by
        intro f hf
        show b_X11_isNoLess_17 (l_X11_isNoLess_17 φ f) φ (jN p) (jN q) (jN r) (jN s) (tI t) M
        unfold b_X11_isNoLess_17
        rw [jN_div p63 q63, jN_div r63 s63, jN_mod p63 q63, jN_mod r63 s63]
        exact ⟨nq, ns, iF_t ((lgN_eq (by omega) (by omega)).mpr hk) ⟨nq, nm_of ⟨ns, nm_of hf⟩⟩⟩
      have e89 : (p % q = 0 ∨ r % s = 0) → j_X11_isNoLess_89 φ (tI t) (jN (p % q)) (jN (r % s)) M := by
        intro hz
        by_cases e : p % q = r % s
        · refine iF_t ((lgN_eq (by omega) (by omega)).mpr e) ?_
          have ex : p % q = 0 := by omega
          have ey : r % s = 0 := by omega
          rw [ex, ey, Nat.zero_mul, Nat.zero_mul] at d
          have e1 : anB t (p * s) (r * q) = true := by
            cases t
            · exact decide_eq_true (by omega)
            · exact decide_eq_true (by omega)
          rw [e1] at h
          exact h
        · refine iF_f (fun c => e ((lgN_eq (by omega) (by omega)).mp c)) ?_
          by_cases ex : p % q = 0
          · have hp : 0 < (r % s) * q := Nat.mul_pos (by omega) hq
            rw [ex, Nat.zero_mul] at d
            refine iF_t ((lg_le (by omega)).mpr ex) ?_
            cases t
            · exact iF_t rfl (by rw [show anB false (p * s) (r * q) = false from decide_eq_false (by omega)] at h; exact h)
            · exact iF_f (by decide) (by rw [show anB true (p * s) (r * q) = true from decide_eq_true (by omega)] at h; exact h)
          · have ey : r % s = 0 := by omega
            have hp : 0 < (p % q) * s := Nat.mul_pos (by omega) hs
            rw [ey, Nat.zero_mul] at d
            refine iF_f (fun c => ex ((lg_le (by omega)).mp c)) ?_
            cases t
            · exact iF_f (by decide) (by rw [show anB false (p * s) (r * q) = true from decide_eq_true (by omega)] at h; exact h)
            · exact iF_t rfl (by rw [show anB true (p * s) (r * q) = false from decide_eq_false (by omega)] at h; exact h)
      by_cases ex : p % q = 0
      · exact ⟨1, pre 0 (iF_t ((lg_0 (by omega)).mpr ex) (e89 (Or.inl ex)))⟩
      · by_cases ey : r % s = 0
        · exact ⟨1, pre 0 (iF_f (fun c => ex ((lg_0 (by omega)).mp c)) (iF_t ((lg_0 (by omega)).mpr ey) (e89 (Or.inr ey))))⟩
        · have c1 : q * (r % s) = (r % s) * q := Nat.mul_comm _ _
          have c2 : s * (p % q) = (p % q) * s := Nat.mul_comm _ _
          have e1 : anB (!t) (q * (r % s)) (s * (p % q)) = anB t (p * s) (r * q) := by
            cases t
            · exact decide_eq_decide.mpr (by omega)
            · exact decide_eq_decide.mpr (by omega)
          obtain ⟨f, hf⟩ := ih q (p % q) s (r % s) (!t) (by omega) (by omega) (by omega) q63 (by omega) s63 (by omega) (by rw [e1]; exact h)
          refine ⟨f + 1, pre f (iF_f (fun c => ex ((lg_0 (by omega)).mp c)) (iF_f (fun c => ey ((lg_0 (by omega)).mp c)) ?_))⟩
          cases t
          · exact iF_t rfl hf
          · exact iF_f (by decide) hf
    · exact ne hk
theorem ce_le {a b k : Nat} (hb : 0 < b) : (a + b - 1) / b ≤ k ↔ a ≤ k * b := by
  have h := Nat.div_lt_iff_lt_mul (x := a + b - 1) (y := k + 1) hb
  rw [Nat.add_mul, Nat.one_mul] at h
  omega
def lmX (P H h : Nat) : Nat := ((P + H - 1) / H + h - 1) / h
theorem lmX_le {P H h N : Nat} (hH : 0 < H) (hh : 0 < h) : lmX P H h ≤ N ↔ P ≤ N * h * H := by
  unfold lmX
  rw [ce_le hh, ce_le hH]
def lmV (P H h : Nat) : Int32 := if H = 0 then -1 else if lmX P H h ≤ 9999 then nI (lmX P H h) else -1
theorem m_lm_l {L all H h p : Nat} {M : fM} {φ : Int32 → fM → Prop} (hS : Str L M) (hH : 0 < H) (hH2 : H ≤ 1500000000000000000) (hh : 0 < h) (hh2 : h ≤ 99) (hp : 0 < p) (hp2 : p ≤ 999) (ha : 0 < all) (ha2 : all ≤ 1000000000000000) (h29 : mJ M 70 29 = jN H) (hz : φ (lmV (p * all) H h) M) : ∀ (j N : Nat), N + j = 10000 → 1 ≤ N → N ≤ lmX (p * all) H h → l_X11_lamp_70 φ (j + 1) 70 (nI h) (nI p) (jN all) (nI N) M := by
  intro j
  induction j with
  | zero =>
    intro N hN h1 hx
    obtain rfl : N = 10000 := by omega
    unfold lmV at hz
    rw [if_neg (by omega), if_neg (by omega)] at hz
    exact iF_t (by decide) hz
  | succ j ih =>
    intro N hN h1 hx
    show b_X11_lamp_70 (l_X11_lamp_70 φ (j + 1)) φ 70 (nI h) (nI p) (jN all) (nI N) M
    refine iF_f (fun q => absurd ((nIlt (a := 9999) (by omega) (by omega)).mp q) (by omega)) ⟨isO_pt hS (by decide) rfl, ?_⟩
    rw [h29, jN_I (by omega), jN_I (by omega), jN_I (by omega), jN_mul]
    have b1 : N * h ≤ 9999 * 99 := Nat.mul_le_mul (by omega) hh2
    refine m_nl_l (φ := fun x5 M4 => iF (x5 = 0) (nm (nI N + (1 : Int32)) fun x6 => l_X11_lamp_70 φ (j + 1) 70 (nI h) (nI p) (jN all) x6 M4) (φ (nI N) M4)) p (N * h) p all H false (Nat.le_refl _) hp hH (by omega) (by omega) (by omega) (by omega) ?_
    have e : anB false (N * h * H) (all * p) = decide (lmX (p * all) H h ≤ N) := by
      show decide (all * p ≤ N * h * H) = _
      rw [Nat.mul_comm all p]
      exact decide_eq_decide.mpr (lmX_le hH hh).symm
    rw [e]
    by_cases q : lmX (p * all) H h ≤ N
    · rw [decide_eq_true q]
      unfold lmV at hz
      rw [if_neg (by omega), if_pos (by omega), show lmX (p * all) H h = N by omega] at hz
      exact iF_f (by decide) hz
    · rw [decide_eq_false q]
      refine iF_t rfl (nm_of ?_)
      rw [show nI N + (1 : Int32) = nI (N + 1) from nI_add _ 1]
      exact ih (N + 1) (by omega) (by omega) (by omega)
theorem c_ceil {a b : Nat} {M : fM} {φ : Int64 → fM → Prop} (hb : 0 < b) (hab : a + b < 9223372036854775808) (h : φ (jN ((a + b - 1) / b)) M) : w_X3_ceiling (jN a) (jN b) M φ := by
  refine iF_f (fun c => absurd ((lg_0 (by omega)).mp c) (by omega)) ⟨fun c => absurd (jN_inj (b := 0) (by omega) (by omega) c) (by omega), ?_⟩
  rw [jN_add, show jN (a + b) - (1 : Int64) = jN (a + b - 1) from jN_sub (b := 1) (by omega), jN_div (by omega) (by omega)]
  exact h
theorem smN_x {g : Nat → Nat} {b : Nat} (h : ∀ c, b ≤ c → g c = 0) : ∀ m, smN g (b + m) = smN g b
  | 0 => rfl
  | m + 1 => by rw [show b + (m + 1) = b + m + 1 by omega, smN_s, smN_x h m, h (b + m) (by omega), Nat.add_zero]
theorem hR_x {n f t : Nat} {hm : Nat → Nat} {w : Nat → Nat → Nat} (hf : f ≤ 30) : smN (hR n f hm w t) 30 = smN (hR n f hm w t) f := by
  have q := smN_x (g := hR n f hm w t) (b := f) (fun c hc => by unfold hR haC; rw [if_pos hc, Nat.mul_zero]) (30 - f)
  rw [show f + (30 - f) = 30 by omega] at q
  exact q
theorem c_l25 {L n t f ld mk la acc : Nat} {X : Nat → Int32} {no tw hm : Nat → Nat} {w : Nat → Nat → Nat} {M : fM} {p1 p2 : Int32} {φ : Int32 → fM → Prop} {K13 : Nat → Int32 → Int32 → Int64 → Int32 → fM → Prop} (hS : Str L M) (hX : Sts X M) (lk : Lk M n ld mk la no tw hm) (hG : GR M 62 (GW n w)) (hn : n ≤ 14) (ht : t ≤ n) (hf : f ≤ 30) (h0 : mI M 58 0 = nI f) (hh : ∀ t, hm t ≤ 99) (hz : K13 58 p1 p2 (jN (acc + smN (hR n f hm w t) f)) (nI (t + 1)) M) : ∀ (j c : Nat), c + j = f → l_X3_lampNights_25 K13 φ (j + 1) 58 p1 p2 (jN (acc + smN (hR n f hm w t) c)) (nI t) (nI c) M := by
  intro j
  induction j with
  | zero =>
    intro c hc
    obtain rfl : c = f := by omega
    refine ⟨isO_pt hS (by decide) rfl, ?_⟩
    rw [h0]
    refine iF_t ((nIle (by omega) (by omega)).mpr (Nat.le_refl _)) (nm_of ?_)
    rw [show nI t + (1 : Int32) = nI (t + 1) from nI_add _ 1]
    exact hz
  | succ j ih =>
    intro c hc
    have hb := hh t
    show b_X3_lampNights_25 K13 (l_X3_lampNights_25 K13 φ (j + 1)) φ 58 p1 p2 (jN (acc + smN (hR n f hm w t) c)) (nI t) (nI c) M
    refine ⟨isO_pt hS (by decide) rfl, ?_⟩
    rw [h0]
    refine iF_f (fun q => absurd ((nIle (by omega) (by omega)).mp q) (by omega)) (c_even hS hX lk hG rfl rfl hn ht (by omega) ⟨isO_pt hS (by decide) rfl, dR_of (Str.pg hS rfl) (c_cellN (Str.sh hS 60 _ rfl) rfl (by omega) (by omega) (nm_of (nm_of ?_)))⟩)
    rw [lk.2.2.2.2.2 t ht, jN_I (by omega), jN_mul, jN_add, Nat.add_assoc]
    have e : smN (hR n f hm w t) c + w t c * 10 ^ (n - t) * hm t = smN (hR n f hm w t) (c + 1) := by
      rw [smN_s]
      unfold hR haC
      rw [if_neg (by omega)]
    rw [e, show nI c + (1 : Int32) = nI (c + 1) from nI_add _ 1]
    exact ih (c + 1) (by omega)
theorem c_l13 {L n f ld mk la h p : Nat} {X : Nat → Int32} {no tw hm : Nat → Nat} {w : Nat → Nat → Nat} {M : fM} {φ : Int32 → fM → Prop} (hS : Str L M) (hX : Sts X M) (lk : Lk M n ld mk la no tw hm) (hG : GR M 62 (GW n w)) (hn : n ≤ 14) (hw : Ms n w) (hf : f ≤ 30) (h0 : mI M 58 0 = nI f) (hm9 : ∀ t, hm t ≤ 99) (hh : 0 < h) (hh2 : h ≤ 99) (hp : 0 < p) (hp2 : p ≤ 999) (hz : φ (lmV (p * 10 ^ (n + 1)) (HA n hm w f) h) M) : ∀ (j t : Nat), t + j = n + 1 → l_X3_lampNights_13 φ (j + 1) 58 (nI h) (nI p) (jN (smN (fun t => smN (hR n f hm w t) 30) t)) (nI t) M := by
  intro j
  induction j with
  | zero =>
    intro t ht
    obtain rfl : t = n + 1 := by omega
    have b1 : HA n hm w f ≤ 1500000000000000000 := HA_b hw hn hm9
    have b2 := p10_le hn
    have b3 : 0 < 10 ^ (n + 1) := Nat.pow_pos (by omega)
    show b_X3_lampNights_13 _ φ 58 (nI h) (nI p) (jN (HA n hm w f)) (nI (n + 1)) M
    refine ⟨isO_pt hS (by decide) rfl, ?_⟩
    rw [lk.1]
    refine iF_t ((nIlt (by omega) (by omega)).mpr (by omega)) ?_
    have b4 : p * 10 ^ (n + 1) ≤ 999 * 1000000000000000 := Nat.mul_le_mul hp2 b2
    have b5 : 0 < p * 10 ^ (n + 1) := Nat.mul_pos hp b3
    unfold lmV at hz
    by_cases q : HA n hm w f = 0
    · rw [if_pos q] at hz
      exact iF_t ((lg_le (by omega)).mpr q) hz
    · rw [if_neg q] at hz
      refine iF_f (fun c => q ((lg_le (by omega)).mp c)) (iF_t ((nIlt (a := 0) (by omega) (by omega)).mpr hh) ?_)
      rw [show nI n + (1 : Int32) = nI (n + 1) from nI_add _ 1]
      refine c_power hS hX rfl (by omega) ?_
      rw [jN_I (by omega), jN_mul]
      have d1 := Nat.div_le_self (p * 10 ^ (n + 1) + HA n hm w f - 1) (HA n hm w f)
      refine c_ceil (by omega) (by omega) ?_
      rw [jN_I (by omega)]
      have d2 := Nat.div_le_self ((p * 10 ^ (n + 1) + HA n hm w f - 1) / HA n hm w f + h - 1) h
      refine c_ceil hh (by omega) ?_
      have e : ((p * 10 ^ (n + 1) + HA n hm w f - 1) / HA n hm w f + h - 1) / h = lmX (p * 10 ^ (n + 1)) (HA n hm w f) h := rfl
      rw [e] at d2 ⊢
      rw [show (9999 : Int64) = jN 9999 from rfl]
      by_cases z : lmX (p * 10 ^ (n + 1)) (HA n hm w f) h ≤ 9999
      · rw [if_pos z] at hz
        refine iF_t ?_ (by rw [jN_J (by omega)]; exact hz)
        rcases lgN (a := lmX (p * 10 ^ (n + 1)) (HA n hm w f) h) (b := 9999) (by omega) (by omega) with ⟨_, e⟩ | ⟨_, e⟩ | ⟨y, e⟩
        · rw [e]; decide
        · rw [e]; decide
        · omega
      · rw [if_neg z] at hz
        refine iF_f (fun c => ?_) hz
        rcases lgN (a := lmX (p * 10 ^ (n + 1)) (HA n hm w f) h) (b := 9999) (by omega) (by omega) with ⟨y, e⟩ | ⟨y, e⟩ | ⟨_, e⟩
        · omega
        · omega
        · rw [e] at c
          exact absurd c (by decide)
  | succ j ih =>
    intro t ht
    show b_X3_lampNights_13 (l_X3_lampNights_13 φ (j + 1)) φ 58 (nI h) (nI p) (jN (smN (fun t => smN (hR n f hm w t) 30) t)) (nI t) M
    refine ⟨isO_pt hS (by decide) rfl, ?_⟩
    rw [lk.1]
    refine iF_f (fun q => absurd ((nIlt (by omega) (by omega)).mp q) (by omega)) ⟨f + 1, c_l25 (acc := smN (fun t => smN (hR n f hm w t) 30) t) hS hX lk hG hn (by omega) hf h0 hm9 ?_ f 0 (by omega)⟩
    have q := ih (t + 1) (by omega)
    rw [smN_s, hR_x hf] at q
    exact q
theorem k_lamp {L B : Nat} {X : Nat → Int32} {M : fM} {a b c d : Int32} {φ : Int32 → fM → Prop} (hI : Inv L X B M) (hz : ∀ v M1, Mid L X B (fun M φ => w_X11_lamp 70 a b c d M φ) v M1 → φ v M1) : w_X10_lamp 6 a b c d M φ := by
  obtain ⟨A, A', nx, nx', tl, tp, hI⟩ := hI
  obtain ⟨hS, hX, hC, hM, hK, hMK, hO, hO', hTp, hFl, hTx⟩ := id hI
  obtain ⟨cn, cm, cr, ct, ch, p1, p2, p3, s4, s5, s6, s9, s11, s14, s15, s17, cb, cg⟩ := hC.f
  obtain ⟨hH, hP, hSc, hW, hB, hG, hA⟩ := id hC
  obtain ⟨m1, m4⟩ := id hM
  obtain ⟨f5, f6⟩ := id hFl
  obtain ⟨t0, t1, t2, t3⟩ := id hTp
  have e1 : 0 + 0 = 0 := rfl
  have e2 : 0 + 0 = 0 := rfl
  have e3 : 0 + 0 = 0 := rfl
  obtain ⟨⟨o0, o1, o2, o3, o4, o5, o6, o7, o8, o9⟩, oH, oP, oW, oA, oG, oB⟩ := id hO
  have nob : ∀ M1, Frm scr M M1 → ¬ (((1 : Nat) : Int) ≤ c.toInt ∧ c.toInt ≤ (99 : Nat) ∧ ((1 : Nat) : Int) ≤ d.toInt ∧ d.toInt ≤ (999 : Nat)) → φ (-1) M1 := fun M1 f1 q => by
    have hS1 := f1.S hS
    have hM1 := f1.sc.cM hM
    refine mids hS hX hz f1 fun Ψ hΨ => ?_
    have z := hΨ _ (hI.look f1 Frm.rf)
    refine ⟨isO_pt hS1 (by decide) rfl, m_isMind hS1 hM1 hO (fun _ => iF_t rfl z) (fun g => iF_f (by decide) ?_)⟩
    refine iF_s (fun _ => iF_t rfl z) (fun c1 => iF_s (fun _ => iF_t rfl z) (fun c2 => iF_f (by decide) (iF_s (fun _ => iF_t rfl z) (fun c3 => iF_s (fun _ => iF_t rfl z) (fun c4 => ?_)))))
    exfalso
    rw [lt_toInt, show (1 : Int32).toInt = 1 from rfl] at c1 c3
    rw [lt_toInt, show (99 : Int32).toInt = 99 from rfl] at c2
    rw [lt_toInt, show (999 : Int32).toInt = 999 from rfl] at c4
    omega
  rcases Decidable.em (((1 : Nat) : Int) ≤ c.toInt ∧ c.toInt ≤ (99 : Nat) ∧ ((1 : Nat) : Int) ≤ d.toInt ∧ d.toInt ≤ (999 : Nat)) with hv | hv
  · obtain ⟨r, hr1, hr2, rfl⟩ := rgJ hv.1 hv.2.1
    obtain ⟨s, hs1, hs2, rfl⟩ := rgJ hv.2.2.1 hv.2.2.2
    refine iF_f (fun q => absurd ((nIlt (b := 1) (by omega) (by omega)).mp q) (by omega)) (iF_f (fun q => absurd ((nIlt (a := 99) (by omega) (by omega)).mp q) (by omega)) (iF_f (fun q => absurd ((nIlt (b := 1) (by omega) (by omega)).mp q) (by omega)) (iF_f (fun q => absurd ((nIlt (a := 999) (by omega) (by omega)).mp q) (by omega)) ⟨isO_pt hS (by decide) rfl, dR_of (Str.pg hS rfl) ⟨isO_pt hS (by decide) rfl, c_look hS hC hO hTx.2.1 (fun bad => ?_) (fun p h kd hp hh hkd ea eb ec M1 f1 lk => ?_)⟩⟩)))
    · refine iF_t rfl (mids hS hX hz Frm.rf fun Ψ hΨ => ?_)
      exact ⟨isO_pt hS (by decide) rfl, m_isMind hS hM hO (fun _ => iF_t rfl (hΨ _ hI.inv)) (fun g => absurd g bad)⟩
    · obtain ⟨hn1, hn, -⟩ := oH h hh
      have hpb := (oP p hp).2
      have gd := gd_3 o0 ea eb ec hp hh hkd
      have hk0 : kd = 0 := (nI_inj (a := 0) (by omega) (by omega) ec).symm
      subst hk0
      have hS1 := f1.S hS
      subst ea eb
      refine iF_f (by decide) ⟨isO_pt hS1 (by decide) rfl, dR_of (Str.pg hS1 rfl) ⟨isO_pt hS1 (by decide) rfl, ⟨isO_pt hS1 (by decide) rfl, c_spread hS1 lk hpb hn1 hn (by omega) (vT_b _ _ _ _ _) fun M2 f2 hG2 => ?_⟩⟩⟩
      have f12 := f1.tr f2.f
      have hS2 := f2.S hS1
      refine ⟨isO_pt hS2 (by decide) rfl, c_choose (w := wwV (mI M 73) A p h 0 (A (10 + 18 * h + 1)) (10 - A (82 + 3 * p + 2))) hS2 (f12.sc.cX hX) (lk.j f2) hG2 hn (wwV_Ms hO hp hh _ 0 (A (10 + 18 * h + 1))) (hmV_b _ _ _ _ _) fun M3 f3 lk3 hG3 g0 g12 => ⟨A (10 + 18 * h) + 2, ?_⟩⟩
      have f := f12.tr f3
      have hS3 := f3.S hS2
      have bl := bsF_le (coV (mI M 73) A p h 0 (A (10 + 18 * h + 1))) 30
      refine c_l13 (w := wwV (mI M 73) A p h 0 (A (10 + 18 * h + 1)) (10 - A (82 + 3 * p + 2))) hS3 (f.sc.cX hX) lk3 hG3 hn (wwV_Ms hO hp hh _ 0 (A (10 + 18 * h + 1))) bl g0 (hmV_b _ _ _ _ _) hr1 hr2 hs1 hs2 ?_ (A (10 + 18 * h) + 1) 0 (by omega)
      refine mids hS hX hz f fun Ψ hΨ => ?_
      have hM3 := f.sc.cM hM
      have ex : (10 : Int32) + ((18 : Int32) * nI h) = nI (10 + 18 * h) := by simp only [lit32, nI_muL, nI_add]
      refine ⟨isO_pt hS3 (by decide) rfl, m_isMind hS3 hM3 hO (fun z => absurd gd z) fun _ => iF_f (by decide) ?_⟩
      refine iF_f (fun q => absurd ((nIlt (b := 1) (by omega) (by omega)).mp q) (by omega)) (iF_f (fun q => absurd ((nIlt (a := 99) (by omega) (by omega)).mp q) (by omega)) (iF_f (by decide) ?_))
      refine iF_f (fun q => absurd ((nIlt (b := 1) (by omega) (by omega)).mp q) (by omega)) (iF_f (fun q => absurd ((nIlt (a := 999) (by omega) (by omega)).mp q) (by omega)) (iF_f (by decide) ?_))
      refine ⟨isO_pt hS3 (by decide) rfl, m_best (kd := 0) hS3 hM3 hO (TrM.of o3 (fun i hi => f.sc.cT (hTx.2.1 i hi)) o4) (f.sc.c73) rfl rfl rfl hp hh (by omega) (mk_0 _) fun M4 f4 hM4 hT4 _ g29 => ?_⟩
      have hS4 := f4.S hS3
      have b1 := haV_b hO hp hh (mI M 73) 0 (A (10 + 18 * h + 1)) (bsF (coV (mI M 73) A p h 0 (A (10 + 18 * h + 1))) 30)
      have b2 := p10_le hn
      have b3 : 0 < 10 ^ (A (10 + 18 * h) + 1) := Nat.pow_pos (by omega)
      have q := hΨ M4 (hI.look f f4)
      have q : Ψ (lmV (s * 10 ^ (A (10 + 18 * h) + 1)) (haV (mI M 73) A p h 0 (A (10 + 18 * h + 1)) (bsF (coV (mI M 73) A p h 0 (A (10 + 18 * h + 1))) 30)) r) M4 := q
      refine ⟨isO_pt hS4 (by decide) rfl, ?_⟩
      rw [g29]
      generalize haV (mI M 73) A p h 0 (A (10 + 18 * h + 1)) (bsF (coV (mI M 73) A p h 0 (A (10 + 18 * h + 1))) 30) = H at b1 q g29 ⊢
      by_cases z : H = 0
      · refine iF_t ((lg_0 (by omega)).mpr z) ?_
        unfold lmV at q
        rw [if_pos z] at q
        exact q
      · refine iF_f (fun c => z ((lg_0 (by omega)).mp c)) ?_
        unfold w_X11_stepsOf
        rw [ex, ix_nI (by omega)]
        refine ⟨isO_pt hS4 (by decide) rfl, dR_of (Str.pg hS4 rfl) ⟨inA_pt hS4 rfl (vp_nI (by omega) (by decide)), ?_⟩⟩
        rw [hM4.1 _ (by omega) (by omega)]
        refine m_tenTo (n := A (10 + 18 * h) + 1) (nI_add _ 1) (by omega) ⟨10000, m_lm_l hS4 (by omega) b1 hr1 hr2 hs1 hs2 b3 b2 g29 q 9999 1 rfl (Nat.le_refl _) ?_⟩
        have b5 : 0 < s * 10 ^ (A (10 + 18 * h) + 1) := Nat.mul_pos hs1 b3
        have w := (lmX_le (P := s * 10 ^ (A (10 + 18 * h) + 1)) (H := H) (h := r) (N := 0) (by omega) hr1).mp
        rcases Nat.lt_or_ge 0 (lmX (s * 10 ^ (A (10 + 18 * h) + 1)) H r) with y | y
        · exact y
        · have w2 := w y
          rw [Nat.zero_mul, Nat.zero_mul] at w2
          omega
  · have q := nob M Frm.rf hv
    unfold w_X10_lamp
    repeat' (first | ((with_reducible refine c_fil_hh (L := L) ?_ ?_ ?_); (exact hS); omega) | ((with_reducible refine c_build (L := L) ?_ ?_ ?_); (exact hS); omega) | with_reducible refine nm_of ?_ | with_reducible refine st_of ?_ | ((with_reducible apply dR_of); first | exact Str.pg hS rfl | exact sp_hsx hS (by omega) | exact sp_hs hS (by omega) | exact sp_hh hS (by omega) | assumption | fail) | ((with_reducible refine And.intro ?_ ?_); first | exact isO_pt hS (by decide) rfl | exact inA_pt hS rfl (by (first | exact vp_lit (by decide) | (simp (disch := omega) only [lit32, Nat.add_sub_cancel, Nat.sub_zero, Nat.reduceSub, nI_add, nI_muL, nI_sub, ix_nI, mI_s, mI_n, mI_fs, mI_fn, mI_ci, mI_co, mI_si, mI_so, Nat.add_zero, up_n, up_s, cpA_i, cpA_o, shA_i, shA_o, fiA_i, fiA_o, imin_l, imin_r, nI_mod, nI_div, xr_e, cn, cm, cr, ct, ch, p1, p2, p3, s4, s5, s6, s9, s11, s14, s15, s17, cb, cg, m1, m4, f5, f6, t1, t2, e1, e2, e3]; first | done | exact vp_nI (by omega) (by decide)) | exact vp_nI (by omega) (by decide) | fail)) | omega | exact isO_hs hS (by omega) | exact inA_hh hS (by omega) (by (first | exact vp_lit (by decide) | (simp (disch := omega) only [lit32, Nat.add_sub_cancel, Nat.sub_zero, Nat.reduceSub, nI_add, nI_muL, nI_sub, ix_nI, mI_s, mI_n, mI_fs, mI_fn, mI_ci, mI_co, mI_si, mI_so, Nat.add_zero, up_n, up_s, cpA_i, cpA_o, shA_i, shA_o, fiA_i, fiA_o, imin_l, imin_r, nI_mod, nI_div, xr_e, cn, cm, cr, ct, ch, p1, p2, p3, s4, s5, s6, s9, s11, s14, s15, s17, cb, cg, m1, m4, f5, f6, t1, t2, e1, e2, e3]; first | done | exact vp_nI (by omega) (by decide)) | exact vp_nI (by omega) (by decide) | fail)) | exact isB1 | exact isB0 | assumption | fail) | ((with_reducible apply lenA_of); first | exact Str.sh hS _ _ rfl | exact ss_hh hS (by omega) | assumption | fail) | with_reducible refine gN_of rfl ?_ | with_reducible refine gN_no rfl ?_ | ((with_reducible refine iF_t ?_ ?_); focus ((try simp (disch := omega) only [lit32, Nat.add_sub_cancel, Nat.sub_zero, Nat.reduceSub, nI_add, nI_muL, nI_sub, ix_nI, mI_s, mI_n, mI_fs, mI_fn, mI_ci, mI_co, mI_si, mI_so, Nat.add_zero, up_n, up_s, cpA_i, cpA_o, shA_i, shA_o, fiA_i, fiA_o, imin_l, imin_r, nI_mod, nI_div, xr_e, cn, cm, cr, ct, ch, p1, p2, p3, s4, s5, s6, s9, s11, s14, s15, s17, cb, cg, m1, m4, f5, f6, t1, t2, e1, e2, e3, lt_toInt, le_toInt, eq_toInt, toInt_nI, tI_neg, bt_e, tI_sub, tI_subR, tI_subL]); first | done | omega)) | ((with_reducible refine iF_f ?_ ?_); focus ((try simp (disch := omega) only [lit32, Nat.add_sub_cancel, Nat.sub_zero, Nat.reduceSub, nI_add, nI_muL, nI_sub, ix_nI, mI_s, mI_n, mI_fs, mI_fn, mI_ci, mI_co, mI_si, mI_so, Nat.add_zero, up_n, up_s, cpA_i, cpA_o, shA_i, shA_o, fiA_i, fiA_o, imin_l, imin_r, nI_mod, nI_div, xr_e, cn, cm, cr, ct, ch, p1, p2, p3, s4, s5, s6, s9, s11, s14, s15, s17, cb, cg, m1, m4, f5, f6, t1, t2, e1, e2, e3, lt_toInt, le_toInt, eq_toInt, toInt_nI, tI_neg, bt_e, tI_sub, tI_subR, tI_subL]); first | done | omega)) | ((with_reducible refine iF_s (fun hc => ?_) (fun hc => ?_)) <;> (try simp (disch := omega) only [lit32, Nat.add_sub_cancel, Nat.sub_zero, Nat.reduceSub, nI_add, nI_muL, nI_sub, ix_nI, mI_s, mI_n, mI_fs, mI_fn, mI_ci, mI_co, mI_si, mI_so, Nat.add_zero, up_n, up_s, cpA_i, cpA_o, shA_i, shA_o, fiA_i, fiA_o, imin_l, imin_r, nI_mod, nI_div, xr_e, cn, cm, cr, ct, ch, p1, p2, p3, s4, s5, s6, s9, s11, s14, s15, s17, cb, cg, m1, m4, f5, f6, t1, t2, e1, e2, e3, lt_toInt, le_toInt, eq_toInt, toInt_nI, tI_neg, bt_e, tI_sub, tI_subR, tI_subL] at hc)) | fail)
    all_goals first | (exfalso; omega) | exact q | fail
