/-! ===== facts by which a word is walked ===== -/
theorem Cls.f {M : fM} {A : Nat → Nat} {nx : Nat} (w : Cls M 10 A nx) : (∀ h, h < 4 → mI M (20 + 2 * h) 0 = nI (A (10 + 18 * h))) ∧ (∀ h, h < 4 → mI M (20 + 2 * h) 2 = nI (A (10 + 18 * h + 1))) ∧ (∀ h, h < 4 → mI M (20 + 2 * h) 3 = nI (A (10 + 18 * h + 2))) ∧ (∀ h, h < 4 → mI M (20 + 2 * h) 4 = nI (A 7 / 2 ^ h % 2)) ∧ (∀ h, h < 4 → ∀ j, j < 15 → mI M (21 + 2 * h) j = nI (A (10 + 18 * h + 3 + j))) ∧
    (∀ p, p < 6 → mI M 12 p = nI (A (82 + 3 * p))) ∧ (∀ p, p < 6 → mI M 13 p = nI (A (82 + 3 * p + 1))) ∧ (∀ p, p < 6 → mI M 14 p = nI (A (82 + 3 * p + 2))) ∧
    mI M 10 4 = nI (A 0) ∧ mI M 10 5 = nI (A 2) ∧ mI M 10 6 = nI (A 1) ∧ mI M 10 9 = nI (A 8) ∧ mI M 10 11 = nI (A 5) ∧ mI M 10 14 = nI (A 3) ∧ mI M 10 15 = nI (A 4) - 1 ∧ mI M 10 17 = nI (A 6) ∧
    (∀ i, i < 256 → ∀ k, k < 8 → mI M 16 (i * 8 + k) = nI (A (517 + 8 * i + k))) ∧ (∀ i, i < 12 → ∀ k, k < 4 → mI M 19 (i * 4 + k) = nI (A (109 + 4 * i + k))) := by
  obtain ⟨hH, hP, hS, hW, hB, hG, hA⟩ := w
  exact ⟨fun h q => (hH h q).1, fun h q => (hH h q).2.1, fun h q => (hH h q).2.2.1, fun h q => (hH h q).2.2.2.1, fun h q => (hH h q).2.2.2.2, fun p q => (hP p q).1, fun p q => (hP p q).2.1, fun p q => (hP p q).2.2, hS.1, hS.2.1, hS.2.2.1, hS.2.2.2.1, hS.2.2.2.2.1, hS.2.2.2.2.2.1, hS.2.2.2.2.2.2.1, hS.2.2.2.2.2.2.2, hB, hG⟩
theorem sp_hs {L : Nat} {M : fM} (hS : Str L M) {h : Nat} (q : h < 4) : mP M 11 h = some (20 + 2 * h) := by
  match h, q with
  | 0, _ => exact sp_11_0 hS
  | 1, _ => exact sp_11_1 hS
  | 2, _ => exact sp_11_2 hS
  | 3, _ => exact sp_11_3 hS
  | h + 4, q => omega
theorem sp_hsx {L : Nat} {M : fM} (hS : Str L M) {h : Nat} (q : h < 4) : mP M 11 (ix (nI h)) = some (20 + 2 * h) := by rw [ix_nI (by omega)]; exact sp_hs hS q
theorem sp_hh {L : Nat} {M : fM} (hS : Str L M) {h : Nat} (q : h < 4) : mP M (20 + 2 * h) 1 = some (21 + 2 * h) := by
  match h, q with
  | 0, _ => exact sp_20_1 hS
  | 1, _ => exact sp_22_1 hS
  | 2, _ => exact sp_24_1 hS
  | 3, _ => exact sp_26_1 hS
  | h + 4, q => omega
theorem ss_hs {L : Nat} {M : fM} (hS : Str L M) {h : Nat} (q : h < 4) : mS M (20 + 2 * h) = some (0, 5) := by
  match h, q with
  | 0, _ => exact ss_20 hS
  | 1, _ => exact ss_22 hS
  | 2, _ => exact ss_24 hS
  | 3, _ => exact ss_26 hS
  | h + 4, q => omega
theorem ss_hh {L : Nat} {M : fM} (hS : Str L M) {h : Nat} (q : h < 4) : mS M (21 + 2 * h) = some (12, 15) := by
  match h, q with
  | 0, _ => exact ss_21 hS
  | 1, _ => exact ss_23 hS
  | 2, _ => exact ss_25 hS
  | 3, _ => exact ss_27 hS
  | h + 4, q => omega
theorem isO_hs {L : Nat} {M : fM} (hS : Str L M) {h : Nat} (q : h < 4) : isO M (20 + 2 * h) 0 := isO_of (by omega) (ss_hs hS q)
theorem inA_hh {L : Nat} {M : fM} {i : Int32} (hS : Str L M) {h : Nat} (q : h < 4) (hv : vp_in i 15) : inA M (21 + 2 * h) 12 i := inA_of (ss_hh hS q) hv
theorem lenA_hh {L : Nat} {M : fM} {A : Nat → Prop} (hS : Str L M) {h : Nat} (q : h < 4) (hA : A 15) : lenA M (21 + 2 * h) 12 A := lenA_of (ss_hh hS q) hA
theorem bmod_id {a : Int} (h1 : -2147483648 ≤ a) (h2 : a < 2147483648) : a.bmod (2 ^ 32) = a := by
  rw [Int.bmod_def]
  split <;> omega
theorem tI_neg {n : Nat} (h : n < 2147483648) : (-nI n).toInt = -(n : Int) := by
  rw [Int32.toInt_neg, toInt_nI h]
  exact bmod_id (by omega) (by omega)
theorem tI_sub {a b : Nat} (ha : a < 2147483648) (hb : b < 2147483648) : (nI a - nI b).toInt = (a : Int) - b := by
  rw [Int32.toInt_sub, toInt_nI ha, toInt_nI hb]
  exact bmod_id (by omega) (by omega)
theorem tI_subR {a : Int32} {b : Nat} (hb : b < 2147483648) (h : -2147483648 + (b : Int) ≤ a.toInt) : (a - nI b).toInt = a.toInt - b := by
  have h1 := a.toInt_lt
  rw [Int32.toInt_sub, toInt_nI hb]
  exact bmod_id (by omega) (by omega)
theorem nI_sub {a b : Nat} (h : b ≤ a) : nI a - nI b = nI (a - b) := by
  have h2 : nI a = nI (a - b) + nI b := by rw [nI_add, Nat.sub_add_cancel h]
  rw [h2]
  exact Int32.add_sub_cancel _ _
theorem rgI {a : Int32} {n : Nat} (h : 0 ≤ a.toInt) (h2 : a.toInt ≤ n) : ∃ k, k ≤ n ∧ a = nI k := ⟨a.toInt.toNat, by omega, nI_ex h⟩
theorem rgJ {a : Int32} {m n : Nat} (h : (m : Int) ≤ a.toInt) (h2 : a.toInt ≤ n) : ∃ k, m ≤ k ∧ k ≤ n ∧ a = nI k := ⟨a.toInt.toNat, by omega, by omega, nI_ex (by omega)⟩
theorem tI_subL {a : Int32} {n : Nat} (hn : n < 2147483648) (h : 0 ≤ a.toInt) : (nI n - a).toInt = n - a.toInt := by
  have h1 := a.toInt_lt
  rw [Int32.toInt_sub, toInt_nI hn]
  exact bmod_id (by omega) (by omega)
theorem imin_l {a b : Nat} (h : a ≤ b) (hb : b < 2147483648) : imin (nI a) (nI b) = nI a := by
  unfold imin
  by_cases e : a = b
  · subst e; split <;> rfl
  · rw [if_neg]
    rw [lt_toInt, toInt_nI hb, toInt_nI (by omega)]; omega
theorem imin_r {a b : Nat} (h : b ≤ a) (ha : a < 2147483648) : imin (nI a) (nI b) = nI b := by
  unfold imin
  by_cases e : a = b
  · subst e; split <;> rfl
  · rw [if_pos]
    rw [lt_toInt, toInt_nI (by omega), toInt_nI (by omega)]; omega
theorem nI_mod {a b : Nat} (ha : a < 2147483648) (hb : b < 2147483648) : nI a % nI b = nI (a % b) := by
  apply Int32.toInt_inj.mp
  have hm := Nat.mod_le a b
  rw [Int32.toInt_mod, toInt_nI ha, toInt_nI hb, toInt_nI (by omega)]
  exact (Int.ofNat_tmod a b).symm
theorem nI_div {a b : Nat} (ha : a < 2147483648) (hb : b < 2147483648) : nI a / nI b = nI (a / b) := by
  apply Int32.toInt_inj.mp
  have hm := Nat.div_le_self a b
  rw [Int32.toInt_div, toInt_nI ha, toInt_nI hb, toInt_nI (by omega), ← Int.ofNat_tdiv]
  generalize a / b = c at hm
  exact bmod_id (by omega) (by omega)
theorem neg_mod {a : Int32} (h : a.toInt < 0) : (a % nI 10).toInt ≤ 0 := by
  rw [Int32.toInt_mod, toInt_nI (by omega)]
  have h2 := Int.neg_tmod (-a.toInt) ((10 : Nat) : Int)
  rw [Int.neg_neg] at h2
  have h3 := Int.tmod_nonneg ((10 : Nat) : Int) (a := -a.toInt) (by omega)
  omega
theorem neg_div {a : Int32} (h : a.toInt < 0) : (a / nI 10).toInt ≤ 0 := by
  rw [Int32.toInt_div, toInt_nI (by omega)]
  have h1 := a.le_toInt
  have h2 := Int.neg_tdiv (-a.toInt) ((10 : Nat) : Int)
  rw [Int.neg_neg] at h2
  have h3 : 0 ≤ (-a.toInt).tdiv ((10 : Nat) : Int) := Int.tdiv_nonneg (by omega) (by omega)
  have h4 : (-a.toInt).tdiv ((10 : Nat) : Int) ≤ 2147483648 := by
    rw [Int.tdiv_eq_ediv_of_nonneg (by omega)]
    omega
  rw [bmod_id (by omega) (by omega)]
  omega
theorem isB0 : isB 0 := rfl
theorem isB1 : isB 1 := rfl
def lk : List (Nat × Nat × Nat) → Nat → Nat → Option Nat
  | [], _, _ => none
  | (a, b, c) :: l, r, k => cond (Nat.beq a r && Nat.beq b k) (some c) (lk l r k)
theorem lk_mem : ∀ (l : List (Nat × Nat × Nat)) {r k v : Nat}, lk l r k = some v → (r, k, v) ∈ l
  | [], _, _, _, h => by simp [lk] at h
  | (a, b, c) :: l, r, k, v, h => by
    unfold lk at h
    cases e : (Nat.beq a r && Nat.beq b k) with
    | true =>
      rw [e] at h
      rw [Bool.and_eq_true] at e
      have e1 := Nat.eq_of_beq_eq_true e.1
      have e2 := Nat.eq_of_beq_eq_true e.2
      subst e1 e2
      cases h
      exact List.mem_cons_self
    | false =>
      rw [e] at h
      exact List.mem_cons_of_mem _ (lk_mem l h)
theorem Str.pg {L : Nat} {M : fM} {r k v : Nat} (h : Str L M) (hi : lk PTL r k = some v) : mP M r k = some v := h.2 (r, k, v) (lk_mem PTL hi)
/-- any Int32 is nI of a number -/
def un (x : Int32) : Nat := x.toUInt32.toNat
theorem nI_un (x : Int32) : nI (un x) = x := by
  apply Int32.toBitVec_inj.mp
  show BitVec.ofNat 32 x.toBitVec.toNat = x.toBitVec
  exact BitVec.ofNat_toNat _ _ |>.trans (by simp)
/-- a MARK turned -/
def xr (m s : Nat) : Nat := un (nI m ^^^ (nI 1 <<< (nI s &&& nI 31)))
theorem xr_e (m s : Nat) : nI m ^^^ (nI 1 <<< (nI s &&& nI 31)) = nI (xr m s) := (nI_un _).symm
/-- a bit is set -/
def bt (m s : Nat) : Int := ((nI m >>> (nI s &&& nI 31)) &&& nI 1).toInt
theorem bt_e (m s : Nat) : ((nI m >>> (nI s &&& nI 31)) &&& nI 1).toInt = bt m s := rfl
theorem c_fil {r n : Nat} {v : Int32} {M : fM} {φ : fM → Prop} (h6 : 6 ≤ r) (hn : n < 2147483648) (hs : mS M r = some (12, n)) (h : φ (fil M r 0 n v)) : w_J7_fill_53178 r v M φ := by
  refine c_fill h6 hn hs fun M2 h2 h1 => ?_
  rw [show M2 = fil M r 0 n v from mext h2 fun r' j => by rw [h1, mI_fil]; simp]
  exact h
theorem c_fil_hh {L : Nat} {v : Int32} {M : fM} {φ : fM → Prop} (hS : Str L M) {i : Nat} (q : i < 4) (h : φ (fil M (21 + 2 * i) 0 15 v)) : w_J7_fill_53178 (21 + 2 * i) v M φ := c_fil (by omega) (by decide) (ss_hh hS q) h
theorem c_build_l {L : Nat} {b : Nat} {φ : fM → Prop} (hb : b ≤ 64) : ∀ (m k : Nat) (M : fM), Str L M → k + m = 15 → φ (fil M 71 (b + 3 + k) (b + 18) (nI 5)) → l_X11_build_36 φ (m + 1) 70 (nI b) (nI k) M := by
  intro m
  induction m with
  | zero =>
    intro k M hS hk h
    rw [fil_0 (by omega)] at h
    exact iF_t (show nI 15 ≤ nI k from (nIle (by omega) (by omega)).mpr (by omega)) h
  | succ m ih =>
    intro k M hS hk h
    refine iF_f (fun c : nI 15 ≤ nI k => absurd ((nIle (by omega) (by omega)).mp c) (by omega)) ⟨isO_pt hS (by decide) rfl, dR_of (Str.pg hS rfl) ⟨by omega, inA_pt hS rfl ?_, st_of (nm_of ?_)⟩⟩
    · simp only [lit32, nI_add]
      exact vp_nI (by omega) (by decide)
    · simp only [lit32, nI_add]
      rw [ix_nI (by omega)]
      refine ih (k + 1) _ hS (by omega) ?_
      rw [show b + 3 + (k + 1) = b + 3 + k + 1 by omega, fil_s (by omega)]
      exact h
theorem c_build {L : Nat} {i : Nat} {v : Int32} {M : fM} {φ : fM → Prop} (hS : Str L M) (q : i < 4) (h : φ (fil (wI (wI (wI M 71 (10 + 18 * i) v) 71 (10 + 18 * i + 1) 0) 71 (10 + 18 * i + 2) 0) 71 (10 + 18 * i + 3) (10 + 18 * i + 18) (nI 5))) : w_X11_build 70 (nI i) v M φ := by
  refine nm_of ?_
  simp only [lit32, nI_add, nI_muL]
  refine ⟨isO_pt hS (by decide) rfl, dR_of (Str.pg hS rfl) ⟨by omega, inA_pt hS rfl (vp_nI (by omega) (by decide)), st_of (dR_of (Str.pg hS rfl) ⟨by omega, inA_pt hS rfl (vp_nI (by omega) (by decide)), st_of (dR_of (Str.pg hS rfl) ⟨by omega, inA_pt hS rfl (vp_nI (by omega) (by decide)), st_of ⟨16, ?_⟩⟩)⟩)⟩⟩
  rw [ix_nI (by omega), ix_nI (by omega), ix_nI (by omega)]
  exact c_build_l (by omega) 15 0 _ hS rfl h
theorem way_on {M : fM} {A : Nat → Nat} (h : RlW M 10 A) (h1 : A 108 = 1) : mI M 15 0 = nI (A 100) ∧ mI M 15 1 = nI (A 101) ∧ mI M 15 2 = nI (A 102) ∧ mI M 15 3 = nI (A 103) ∧ mI M 15 4 = nI (A 104) ∧ mI M 15 5 = nI (A 105) ∧ mI M 15 6 = nI (A 106) ∧ mI M 15 7 = nI (A 107) := ⟨h.1 h1 0 (by omega), h.1 h1 1 (by omega), h.1 h1 2 (by omega), h.1 h1 3 (by omega), h.1 h1 4 (by omega), h.1 h1 5 (by omega), h.1 h1 6 (by omega), h.1 h1 7 (by omega)⟩
theorem Mdl.w4 {M : fM} {r x : Nat} {A : Nat → Nat} {v : Int32} (hv : v = nI x - 1) (h : Mdl M r A) : Mdl (wI M r 4 v) r (up A 4 x) := by
  refine ⟨fun j h1 h2 => ?_, ?_⟩
  · rw [mI_wI, if_neg (by omega), up_n (by omega)]; exact h.1 j h1 h2
  · rw [mI_s rfl rfl, up_s]; exact hv
