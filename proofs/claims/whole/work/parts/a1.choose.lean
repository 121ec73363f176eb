/-! ===== what it costs: the sums, from count to count ===== -/
def smZ (f : Nat → Int) : Nat → Int
  | 0 => 0
  | m + 1 => smZ f m + f m
theorem smZ_s (f : Nat → Int) (m : Nat) : smZ f (m + 1) = smZ f m + f m := rfl
def moF (n : Nat) (hm : Nat → Nat) (w : Nat → Nat → Nat) (c : Nat) : Nat → Int := fun t => ((w t c * 10 ^ (n - t) : Nat) : Int) * ((hm t : Int) - 2)
def moZ (n : Nat) (hm : Nat → Nat) (w : Nat → Nat → Nat) (c : Nat) : Int := smZ (moF n hm w c) (n + 1)
theorem cR_s {n f t : Nat} {hm : Nat → Nat} {w : Nat → Nat → Nat} : ∀ m, smN (cR n (f + 1) hm w t) m + (if f < m then w t f * 10 ^ (n - t) * 3 else 0) = smN (cR n f hm w t) m + (if f < m then w t f * 10 ^ (n - t) * (1 + hm t) else 0)
  | 0 => by rw [if_neg (by omega), if_neg (by omega)]; rfl
  | m + 1 => by
    have ih := cR_s (n := n) (f := f) (t := t) (hm := hm) (w := w) m
    rw [smN_s, smN_s]
    by_cases h1 : f < m
    · rw [if_pos h1, if_pos h1] at ih
      rw [if_pos (by omega), if_pos (by omega)]
      have e : cR n (f + 1) hm w t m = cR n f hm w t m := by
        unfold cR coC
        rw [if_pos (by omega), if_pos (by omega)]
      rw [e]
      omega
    · rw [if_neg h1, if_neg h1] at ih
      by_cases h2 : f = m
      · subst h2
        rw [if_pos (by omega), if_pos (by omega)]
        have e : cR n (f + 1) hm w t f = w t f * 10 ^ (n - t) * (1 + hm t) := by
          unfold cR coC
          rw [if_neg (by omega)]
        have e2 : cR n f hm w t f = w t f * 10 ^ (n - t) * 3 := by
          unfold cR coC
          rw [if_pos (by omega)]
        rw [e, e2]
        omega
      · rw [if_neg (by omega), if_neg (by omega)]
        have e : cR n (f + 1) hm w t m = cR n f hm w t m := by
          unfold cR coC
          rw [if_neg (by omega), if_neg (by omega)]
        rw [e]
        omega
theorem CO_sl {n f : Nat} {hm : Nat → Nat} {w : Nat → Nat → Nat} (hf : f < 30) : ∀ m, ((smN (fun t => smN (cR n (f + 1) hm w t) 30) m : Nat) : Int) = ((smN (fun t => smN (cR n f hm w t) 30) m : Nat) : Int) + smZ (moF n hm w f) m
  | 0 => rfl
  | m + 1 => by
    have ih := CO_sl (n := n) (hm := hm) (w := w) hf m
    have q := cR_s (n := n) (f := f) (t := m) (hm := hm) (w := w) 30
    rw [if_pos hf, if_pos hf, Nat.mul_add, Nat.mul_one] at q
    show ((smN (fun t => smN (cR n (f + 1) hm w t) 30) m + smN (cR n (f + 1) hm w m) 30 : Nat) : Int) = ((smN (fun t => smN (cR n f hm w t) 30) m + smN (cR n f hm w m) 30 : Nat) : Int) + (smZ (moF n hm w f) m + ((w m f * 10 ^ (n - m) : Nat) : Int) * ((hm m : Int) - 2))
    rw [Int.mul_sub, ← Int.natCast_mul]
    generalize w m f * 10 ^ (n - m) = x at q ⊢
    generalize x * hm m = y at q ⊢
    omega
theorem CO_s {n f : Nat} {hm : Nat → Nat} {w : Nat → Nat → Nat} (hf : f < 30) : ((CO n hm w (f + 1) : Nat) : Int) = ((CO n hm w f : Nat) : Int) + moZ n hm w f := CO_sl hf (n + 1)
def Ms (n : Nat) (w : Nat → Nat → Nat) : Prop := ∀ t, t ≤ n → smN (w t) 30 = 10 * 10 ^ t
theorem Ms_e {n t : Nat} {w : Nat → Nat → Nat} (h : Ms n w) (ht : t ≤ n) (k : Nat) : smN (fun c => w t c * (10 ^ (n - t) * k)) 30 = 10 ^ (n + 1) * k := by
  rw [smN_m, h t ht, ← Nat.mul_assoc, Nat.mul_assoc 10, ← Nat.pow_add, show t + (n - t) = n by omega, Nat.mul_comm 10, ← Nat.pow_succ]
theorem CO_0 {n : Nat} {hm : Nat → Nat} {w : Nat → Nat → Nat} (h : Ms n w) : CO n hm w 0 = 3 * (n + 1) * 10 ^ (n + 1) := by
  unfold CO
  have e : smN (fun t => smN (cR n 0 hm w t) 30) (n + 1) = smN (fun _ => 10 ^ (n + 1) * 3) (n + 1) := by
    refine smN_c (n + 1) fun t ht => ?_
    rw [← Ms_e h (show t ≤ n by omega) 3]
    refine smN_c 30 fun c _ => ?_
    unfold cR coC
    rw [if_pos (Nat.zero_le _), Nat.mul_assoc]
  rw [e, smN_k, Nat.mul_comm (10 ^ (n + 1)) 3, ← Nat.mul_assoc, Nat.mul_comm (n + 1) 3]
theorem p10_le {n : Nat} (hn : n ≤ 14) : 10 ^ (n + 1) ≤ 1000000000000000 := Nat.le_trans (Nat.pow_le_pow_right (by omega) (show n + 1 ≤ 15 by omega)) (by decide)
theorem CO_b {n f : Nat} {hm : Nat → Nat} {w : Nat → Nat → Nat} (h : Ms n w) (hn : n ≤ 14) (hh : ∀ t, hm t ≤ 99) : CO n hm w f ≤ 1500000000000000000 := by
  have e : CO n hm w f ≤ smN (fun _ => 10 ^ (n + 1) * 100) (n + 1) := by
    refine smN_le (n + 1) fun t ht => ?_
    rw [← Ms_e h (show t ≤ n by omega) 100]
    refine smN_le 30 fun c _ => ?_
    show w t c * 10 ^ (n - t) * coC f (hm t) c ≤ _
    rw [← Nat.mul_assoc]
    refine Nat.mul_le_mul_left _ ?_
    have := hh t
    unfold coC
    split <;> omega
  rw [smN_k] at e
  have q : (n + 1) * (10 ^ (n + 1) * 100) ≤ 15 * (1000000000000000 * 100) := Nat.mul_le_mul (by omega) (Nat.mul_le_mul_right 100 (p10_le hn))
  omega
theorem HA_b {n f : Nat} {hm : Nat → Nat} {w : Nat → Nat → Nat} (h : Ms n w) (hn : n ≤ 14) (hh : ∀ t, hm t ≤ 99) : HA n hm w f ≤ 1500000000000000000 := by
  have e : HA n hm w f ≤ smN (fun _ => 10 ^ (n + 1) * 100) (n + 1) := by
    refine smN_le (n + 1) fun t ht => ?_
    rw [← Ms_e h (show t ≤ n by omega) 100]
    refine smN_le 30 fun c _ => ?_
    show w t c * 10 ^ (n - t) * haC f (hm t) c ≤ _
    rw [← Nat.mul_assoc]
    refine Nat.mul_le_mul_left _ ?_
    have := hh t
    unfold haC
    split <;> omega
  rw [smN_k] at e
  have q : (n + 1) * (10 ^ (n + 1) * 100) ≤ 15 * (1000000000000000 * 100) := Nat.mul_le_mul (by omega) (Nat.mul_le_mul_right 100 (p10_le hn))
  omega
theorem WW_Ms {no tw : Nat → Nat} {mk : Nat → Bool} {la n : Nat} (hb : ∀ t, no t + tw t ≤ 10) (hla : la ≤ 10) (hn : n ≤ 14) : Ms n (WW no tw mk (10 - la) la) := fun t ht => by
  rw [WW_m hb t (by omega), Nat.sub_add_cancel hla]
/-- the first of the least -/
def bsF (C : Nat → Nat) : Nat → Nat
  | 0 => 0
  | m + 1 => if C (m + 1) < C (bsF C m) then m + 1 else bsF C m
theorem bsF_s (C : Nat → Nat) (m : Nat) : bsF C (m + 1) = if C (m + 1) < C (bsF C m) then m + 1 else bsF C m := rfl
theorem bsF_le (C : Nat → Nat) : ∀ m, bsF C m ≤ m
  | 0 => Nat.le_refl _
  | m + 1 => by
    have := bsF_le C m
    rw [bsF_s]
    split <;> omega
theorem lgN {a b : Nat} (ha : a < 9223372036854775808) (hb : b < 9223372036854775808) : (a < b ∧ lg_cmp (jN a) (jN b) = -1) ∨ (a = b ∧ lg_cmp (jN a) (jN b) = 0) ∨ (b < a ∧ lg_cmp (jN a) (jN b) = 1) := by
  rcases Nat.lt_trichotomy a b with h | h | h
  · exact Or.inl ⟨h, lg_lt (by omega) (by omega) (by omega)⟩
  · subst h
    exact Or.inr (Or.inl ⟨rfl, lg_eq _⟩)
  · exact Or.inr (Or.inr ⟨h, lg_gt (by omega) (by omega) (by omega)⟩)
theorem lgN_lt {a b : Nat} (ha : a < 9223372036854775808) (hb : b < 9223372036854775808) : lg_cmp (jN a) (jN b) < 0 ↔ a < b := by
  rcases lgN ha hb with ⟨h, e⟩ | ⟨h, e⟩ | ⟨h, e⟩
  · rw [e]; exact ⟨fun _ => h, fun _ => by decide⟩
  · rw [e]; exact ⟨fun c => absurd c (by decide), fun c => absurd c (by omega)⟩
  · rw [e]; exact ⟨fun c => absurd c (by decide), fun c => absurd c (by omega)⟩
theorem lgN_ge {a b : Nat} (ha : a < 9223372036854775808) (hb : b < 9223372036854775808) : 0 ≤ lg_cmp (jN a) (jN b) ↔ b ≤ a := by
  rcases lgN ha hb with ⟨h, e⟩ | ⟨h, e⟩ | ⟨h, e⟩
  · rw [e]; exact ⟨fun c => absurd c (by decide), fun c => absurd c (by omega)⟩
  · rw [e]; exact ⟨fun _ => by omega, fun _ => by decide⟩
  · rw [e]; exact ⟨fun _ => by omega, fun _ => by decide⟩
theorem lgN_eq {a b : Nat} (ha : a < 9223372036854775808) (hb : b < 9223372036854775808) : lg_cmp (jN a) (jN b) = 0 ↔ a = b := by
  rcases lgN ha hb with ⟨h, e⟩ | ⟨h, e⟩ | ⟨h, e⟩
  · rw [e]; exact ⟨fun c => absurd c (by decide), fun c => absurd c (by omega)⟩
  · rw [e]; exact ⟨fun _ => h, fun _ => rfl⟩
  · rw [e]; exact ⟨fun c => absurd c (by decide), fun c => absurd c (by omega)⟩
/-! ===== what it costs, of the one ===== -/
def GW (n : Nat) (w : Nat → Nat → Nat) : Nat → Nat → Nat := fun t' c => if t' ≤ n then w t' c else 0
theorem c_even {L n t c ld mk la : Nat} {X : Nat → Int32} {no tw hm : Nat → Nat} {w : Nat → Nat → Nat} {M : fM} {a b : Int32} {φ : Int64 → fM → Prop} (hS : Str L M) (hX : Sts X M) (lk : Lk M n ld mk la no tw hm) (hG : GR M 62 (GW n w)) (ha : a = nI t) (hb : b = nI c) (hn : n ≤ 14) (ht : t ≤ n) (hc : c < 32) (h : φ (jN (w t c * 10 ^ (n - t))) M) : w_X3_evenChance 58 a b M φ := by
  subst ha
  refine ⟨isO_pt hS (by decide) rfl, c_chance hS hG rfl hb (by omega) hc ⟨isO_pt hS (by decide) rfl, ?_⟩⟩
  rw [lk.1, nI_sub ht]
  refine c_power hS hX rfl (by omega) ?_
  unfold GW
  rw [if_pos ht, jN_mul]
  exact h
theorem nI_s2 {h : Nat} (hh : h ≤ 99) : Int32.toInt64 (nI h - 2) = iJ ((h : Int) - 2) := by
  have e : nI h - (2 : Int32) = iI ((h : Int) - 2) := by
    rw [← iI_n (by omega)]
    exact (Int32.ofInt_sub (h : Int) 2).symm
  rw [e]
  exact I2J (by omega) (by omega)
theorem c_bo_l {L n c ld mk la : Nat} {X : Nat → Int32} {no tw hm : Nat → Nat} {w : Nat → Nat → Nat} {M : fM} {φ : Int64 → fM → Prop} (hS : Str L M) (hX : Sts X M) (lk : Lk M n ld mk la no tw hm) (hG : GR M 62 (GW n w)) (hn : n ≤ 14) (hc : c < 32) (hh : ∀ t, hm t ≤ 99) (h : φ (iJ (moZ n hm w c)) M) : ∀ (j t : Nat), t + j = n + 1 → l_X3_boldlyMore_5 φ (j + 1) 58 (nI c) (iJ (smZ (moF n hm w c) t)) (nI t) M := by
  intro j
  induction j with
  | zero =>
    intro t ht
    obtain rfl : t = n + 1 := by omega
    refine ⟨isO_pt hS (by decide) rfl, ?_⟩
    rw [lk.1]
    exact iF_t ((nIlt (by omega) (by omega)).mpr (by omega)) h
  | succ j ih =>
    intro t ht
    show b_X3_boldlyMore_5 (l_X3_boldlyMore_5 φ (j + 1)) φ 58 (nI c) (iJ (smZ (moF n hm w c) t)) (nI t) M
    refine ⟨isO_pt hS (by decide) rfl, ?_⟩
    rw [lk.1]
    refine iF_f (fun q => absurd ((nIlt (by omega) (by omega)).mp q) (by omega)) (c_even hS hX lk hG rfl rfl hn (by omega) hc ⟨isO_pt hS (by decide) rfl, dR_of (Str.pg hS rfl) (c_cellN (Str.sh hS 60 _ rfl) rfl (by omega) (by omega) (nm_of (nm_of ?_)))⟩)
    have e : iJ (smZ (moF n hm w c) t) + jN (w t c * 10 ^ (n - t)) * Int32.toInt64 (nI (hm t) - 2) = iJ (smZ (moF n hm w c) (t + 1)) := by
      rw [nI_s2 (hh t)]
      unfold jN
      rw [iJ_mul, iJ_add]
      rfl
    rw [lk.2.2.2.2.2 t (by omega), e, show nI t + (1 : Int32) = nI (t + 1) from nI_add _ 1]
    exact ih (t + 1) (by omega)
theorem c_bold {L n c ld mk la : Nat} {X : Nat → Int32} {no tw hm : Nat → Nat} {w : Nat → Nat → Nat} {M : fM} {φ : Int64 → fM → Prop} (hS : Str L M) (hX : Sts X M) (lk : Lk M n ld mk la no tw hm) (hG : GR M 62 (GW n w)) (hn : n ≤ 14) (hc : c < 32) (hh : ∀ t, hm t ≤ 99) (h : φ (iJ (moZ n hm w c)) M) : w_X3_boldlyMore 58 (nI c) M φ := ⟨n + 2, c_bo_l hS hX lk hG hn hc hh h (n + 1) 0 (by omega)⟩
theorem CO_J {n f : Nat} {hm : Nat → Nat} {w : Nat → Nat → Nat} (hf : f < 30) : jN (CO n hm w f) + iJ (moZ n hm w f) = jN (CO n hm w (f + 1)) := by
  unfold jN
  rw [iJ_add, CO_s hf]
theorem c_toes {L n ld mk la : Nat} {X : Nat → Int32} {no tw hm : Nat → Nat} {w : Nat → Nat → Nat} {M : fM} {φ : Int64 → fM → Prop} (hS : Str L M) (hX : Sts X M) (lk : Lk M n ld mk la no tw hm) (hn : n ≤ 14) (hw : Ms n w) (h : φ (jN (CO n hm w 0)) M) : w_X3_costOfToes 58 M φ := by
  refine ⟨isO_pt hS (by decide) rfl, ?_⟩
  rw [lk.1, show nI n + (1 : Int32) = nI (n + 1) from nI_add _ 1, show (3 : Int32) * nI (n + 1) = nI (3 * (n + 1)) from nI_muL 3 (n + 1)]
  refine c_power hS hX rfl (by omega) ?_
  rw [jN_I (by omega), jN_mul, ← CO_0 hw]
  exact h
theorem c_cf_l {L n f ld mk la : Nat} {X : Nat → Int32} {no tw hm : Nat → Nat} {w : Nat → Nat → Nat} {M : fM} {low : Int32} {φ : Int64 → fM → Prop} (hS : Str L M) (hX : Sts X M) (lk : Lk M n ld mk la no tw hm) (hG : GR M 62 (GW n w)) (hn : n ≤ 14) (hw : Ms n w) (hh : ∀ t, hm t ≤ 99) (hf : f ≤ 30) (h : φ (jN (ptN (CO n hm w f) (10 ^ (n + 1)) low)) M) : ∀ (j c : Nat), c + j = f → l_X3_costFrom_8 φ (j + 1) 58 (nI f) low (jN (CO n hm w c)) (nI c) M := by
  intro j
  induction j with
  | zero =>
    intro c hc
    obtain rfl : c = f := by omega
    have b1 := CO_b (f := c) hw hn hh
    have b2 := p10_le hn
    have b3 : 0 < 10 ^ (n + 1) := Nat.pow_pos (by omega)
    refine iF_t ((nIle (by omega) (by omega)).mpr (Nat.le_refl _)) ⟨isO_pt hS (by decide) rfl, ?_⟩
    rw [lk.1, show nI n + (1 : Int32) = nI (n + 1) from nI_add _ 1]
    exact c_power hS hX rfl (by omega) (c_part (by omega) (by omega) (by omega) h)
  | succ j ih =>
    intro c hc
    show b_X3_costFrom_8 (l_X3_costFrom_8 φ (j + 1)) φ 58 (nI f) low (jN (CO n hm w c)) (nI c) M
    refine iF_f (fun q => absurd ((nIle (by omega) (by omega)).mp q) (by omega)) ⟨isO_pt hS (by decide) rfl, c_bold hS hX lk hG hn (by omega) hh (nm_of (nm_of ?_))⟩
    rw [CO_J (by omega), show nI c + (1 : Int32) = nI (c + 1) from nI_add _ 1]
    exact ih (c + 1) (by omega)
theorem c_costFrom {L n f ld mk la : Nat} {X : Nat → Int32} {no tw hm : Nat → Nat} {w : Nat → Nat → Nat} {M : fM} {low : Int32} {φ : Int64 → fM → Prop} (hS : Str L M) (hX : Sts X M) (lk : Lk M n ld mk la no tw hm) (hG : GR M 62 (GW n w)) (hn : n ≤ 14) (hw : Ms n w) (hh : ∀ t, hm t ≤ 99) (hf : f ≤ 30) (h : φ (jN (ptN (CO n hm w f) (10 ^ (n + 1)) low)) M) : w_X3_costFrom 58 (nI f) low M φ :=
  ⟨isO_pt hS (by decide) rfl, c_toes hS hX lk hn hw ⟨f + 1, c_cf_l hS hX lk hG hn hw hh hf h f 0 (by omega)⟩⟩
theorem Lk.w0 {M : fM} {n ld mk la : Nat} {no tw hm : Nat → Nat} {v : Int32} (h : Lk M n ld mk la no tw hm) : Lk (wI M 58 0 v) n ld mk la no tw hm := by
  obtain ⟨a1, a2, a3, a4, a5, a6⟩ := h
  exact ⟨(mI_n (by omega)).trans a1, (mI_n (by omega)).trans a2, (mI_n (by omega)).trans a3, (mI_n (by omega)).trans a4, fun t q1 q2 => ⟨(mI_n (by omega)).trans (a5 t q1 q2).1, (mI_n (by omega)).trans (a5 t q1 q2).2⟩, fun t q => (mI_n (by omega)).trans (a6 t q)⟩
theorem c_ch_l {L n ld mk la : Nat} {X : Nat → Int32} {no tw hm : Nat → Nat} {w : Nat → Nat → Nat} {φ : fM → Prop} (hn : n ≤ 14) (hw : Ms n w) (hh : ∀ t, hm t ≤ 99) : ∀ (j c : Nat) (M : fM), c + j = 30 → Str L M → Sts X M → Lk M n ld mk la no tw hm → GR M 62 (GW n w) → mI M 58 0 = nI (bsF (CO n hm w) c) → mJ M 58 12 = jN (CO n hm w (bsF (CO n hm w) c)) → (∀ M2, Frm scr M M2 → Lk M2 n ld mk la no tw hm → GR M2 62 (GW n w) → mI M2 58 0 = nI (bsF (CO n hm w) 30) → mJ M2 58 12 = jN (CO n hm w (bsF (CO n hm w) 30)) → φ M2) → l_X3_chooseFrom_17 φ (j + 1) 58 (jN (CO n hm w c)) (nI c) M := by
  intro j
  induction j with
  | zero =>
    intro c M hc hS hX lk hG h0 h12 hz
    obtain rfl : c = 30 := by omega
    exact iF_t (by decide) (hz M Frm.rf lk hG h0 h12)
  | succ j ih =>
    intro c M hc hS hX lk hG h0 h12 hz
    show b_X3_chooseFrom_17 (l_X3_chooseFrom_17 φ (j + 1)) φ 58 (jN (CO n hm w c)) (nI c) M
    generalize hK : l_X3_chooseFrom_17 φ (j + 1) = K at ih ⊢
    have e1 : nI c + (1 : Int32) = nI (c + 1) := nI_add _ 1
    refine iF_f (fun q => absurd ((nIle (a := 30) (by omega) (by omega)).mp q) (by omega)) ⟨isO_pt hS (by decide) rfl, c_bold hS hX lk hG hn (by omega) hh (nm_of ⟨isO_pt hS (by decide) rfl, ?_⟩)⟩
    rw [CO_J (by omega), h12]
    have b1 := CO_b (f := c + 1) hw hn hh
    have b2 := CO_b (f := bsF (CO n hm w) c) hw hn hh
    by_cases q : CO n hm w (c + 1) < CO n hm w (bsF (CO n hm w) c)
    · have eb : bsF (CO n hm w) (c + 1) = c + 1 := by rw [bsF_s, if_pos q]
      refine iF_f (fun z => absurd ((lgN_ge (by omega) (by omega)).mp z) (by omega)) (st_of (nm_of (st_of (nm_of ?_))))
      rw [e1]
      have f1 : JF M (wJ M 58 12 (jN (CO n hm w (c + 1)))) := JF.w (by omega)
      have f2 : Frm scr (wJ M 58 12 (jN (CO n hm w (c + 1)))) (wI (wJ M 58 12 (jN (CO n hm w (c + 1)))) 58 0 (nI (c + 1))) := Frm.ws (by omega)
      have f : Frm scr M (wI (wJ M 58 12 (jN (CO n hm w (c + 1)))) 58 0 (nI (c + 1))) := f1.f.tr f2
      refine ih (c + 1) _ (by omega) (f.S hS) (f.sc.cX hX) ((lk.j f1).w0) (hG.o (by omega)) ?_ ?_ fun M2 g1 g2 g3 g4 g5 => hz M2 (f.tr g1) g2 g3 g4 g5
      · rw [eb]
        exact mI_s rfl rfl
      · rw [eb]
        exact mJ_s M 58 12 _
    · have eb : bsF (CO n hm w) (c + 1) = bsF (CO n hm w) c := by rw [bsF_s, if_neg q]
      refine iF_t ((lgN_ge (by omega) (by omega)).mpr (by omega)) (nm_of ?_)
      rw [e1]
      exact ih (c + 1) M (by omega) hS hX lk hG (by rw [eb]; exact h0) (by rw [eb]; exact h12) hz
theorem c_choose {L n ld mk la : Nat} {X : Nat → Int32} {no tw hm : Nat → Nat} {w : Nat → Nat → Nat} {M : fM} {φ : fM → Prop} (hS : Str L M) (hX : Sts X M) (lk : Lk M n ld mk la no tw hm) (hG : GR M 62 (GW n w)) (hn : n ≤ 14) (hw : Ms n w) (hh : ∀ t, hm t ≤ 99) (hz : ∀ M2, Frm scr M M2 → Lk M2 n ld mk la no tw hm → GR M2 62 (GW n w) → mI M2 58 0 = nI (bsF (CO n hm w) 30) → mJ M2 58 12 = jN (CO n hm w (bsF (CO n hm w) 30)) → φ M2) : w_X3_chooseFrom 58 M φ := by
  refine ⟨isO_pt hS (by decide) rfl, c_toes hS hX lk hn hw ⟨isO_pt hS (by decide) rfl, st_of (st_of ⟨31, ?_⟩)⟩⟩
  have f1 : Frm scr M (wI M 58 0 0) := Frm.ws (by omega)
  have f2 : JF (wI M 58 0 0) (wJ (wI M 58 0 0) 58 12 (jN (CO n hm w 0))) := JF.w (by omega)
  have f : Frm scr M (wJ (wI M 58 0 0) 58 12 (jN (CO n hm w 0))) := f1.tr f2.f
  have hG1 : GR (wI M 58 0 0) 62 (GW n w) := hG
  refine c_ch_l (L := L) (X := X) hn hw hh 30 0 _ rfl (f.S hS) (f.sc.cX hX) ((lk.w0).j f2) (hG1.o (by omega)) ?_ (mJ_s _ _ _ _) fun M2 g1 g2 g3 g4 g5 => hz M2 (f.tr g1) g2 g3 g4 g5
  exact (f2.I 58 ▸ (mI_s rfl rfl : mI (wI M 58 0 0) 58 0 = 0) : mI (wJ (wI M 58 0 0) 58 12 (jN (CO n hm w 0))) 58 0 = 0)
