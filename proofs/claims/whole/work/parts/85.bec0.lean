/-! ===== all of a State taken over by another ===== -/
theorem c_copy {r0 r1 n : Nat} {M : fM} {φ : fM → Prop} (h0 : 6 ≤ r0) (h1 : 6 ≤ r1) (hn : n < 2147483648) (s0 : mS M r0 = some (12, n)) (s1 : mS M r1 = some (12, n)) (h : φ (cpI M r0 r1 0 0 n)) : w_X10_copy r0 r1 M φ := by
  have e : imin (nI n) (nI n) = nI n := imin_l (Nat.le_refl n) hn
  have e0 : ix (0 : Int32) = 0 := rfl
  refine lenA_of s0 (lenA_of s1 ⟨h0, h1, by decide, by decide, ?_, lenA_of s0 (lenA_of s1 ⟨?_, ?_, st_of ?_⟩)⟩)
  · rw [e]
    intro c
    have c2 := (lt_toInt _ _).mp c
    rw [toInt_nI hn] at c2
    have e2 : (0 : Int32).toInt = 0 := rfl
    omega
  · rw [e, ix_nI hn]; omega
  · rw [e, ix_nI hn]; omega
  · rw [e, ix_nI hn]; exact h
theorem c_hbec {y0 z0 y1 z1 : Nat} {M : fM} {φ : fM → Prop} (a0 : isO M y0 0) (a1 : isO M y1 0) (p0 : mP M y0 1 = some z0) (p1 : mP M y1 1 = some z1) (s0 : mS M z0 = some (12, 15)) (s1 : mS M z1 = some (12, 15)) (h60 : 6 ≤ z0) (h61 : 6 ≤ z1) (n1 : y1 ≠ z0) (n2 : y1 ≠ y0) (b : isB (mI M y1 4)) (h : φ (wI (wI (wI (cpI (wI M y0 0 (mI M y1 0)) z1 z0 0 0 15) y0 2 (mI M y1 2)) y0 3 (mI M y1 3)) y0 4 (mI M y1 4))) : w_X0_become y0 y1 M φ := by
  refine ⟨a1, nm_of ⟨a0, st_of (dR_of p1 (dR_of p0 (c_copy h61 h60 (by decide) s1 s0 ⟨a1, nm_of ⟨a0, st_of (nm_of (st_of (nm_of ⟨?_, st_of ?_⟩)))⟩⟩)))⟩⟩
  · simp (disch := omega) only [mI_n, mI_co]
    exact b
  · simp (disch := omega) only [mI_n, mI_co]
    exact h
theorem sp_ks {L : Nat} {M : fM} (hS : Str L M) {h : Nat} (q : h < 4) : mP M 29 h = some (38 + 2 * h) := by
  match h, q with
  | 0, _ => exact sp_29_0 hS
  | 1, _ => exact sp_29_1 hS
  | 2, _ => exact sp_29_2 hS
  | 3, _ => exact sp_29_3 hS
  | h + 4, q => omega
theorem sp_kh {L : Nat} {M : fM} (hS : Str L M) {h : Nat} (q : h < 4) : mP M (38 + 2 * h) 1 = some (39 + 2 * h) := by
  match h, q with
  | 0, _ => exact sp_38_1 hS
  | 1, _ => exact sp_40_1 hS
  | 2, _ => exact sp_42_1 hS
  | 3, _ => exact sp_44_1 hS
  | h + 4, q => omega
theorem ss_ks {L : Nat} {M : fM} (hS : Str L M) {h : Nat} (q : h < 4) : mS M (38 + 2 * h) = some (0, 5) := by
  match h, q with
  | 0, _ => exact ss_38 hS
  | 1, _ => exact ss_40 hS
  | 2, _ => exact ss_42 hS
  | 3, _ => exact ss_44 hS
  | h + 4, q => omega
theorem ss_kh {L : Nat} {M : fM} (hS : Str L M) {h : Nat} (q : h < 4) : mS M (39 + 2 * h) = some (12, 15) := by
  match h, q with
  | 0, _ => exact ss_39 hS
  | 1, _ => exact ss_41 hS
  | 2, _ => exact ss_43 hS
  | 3, _ => exact ss_45 hS
  | h + 4, q => omega
theorem c_hO10 {L h : Nat} {M : fM} {φ : Option Nat → fM → Prop} (hS : Str L M) (hh : h < 4) (k : φ (some (20 + 2 * h)) M) : w_X5_houseOf 10 (nI h) M φ := by
  refine iF_f (fun c => ?_) ⟨isO_pt hS (by decide) rfl, dR_of (Str.pg hS rfl) (lenA_of (ss_11 hS) (iF_f (fun c => absurd ((nIle (by omega) (by omega)).mp c) (by omega)) (dR_of (Str.pg hS rfl) ⟨inA_of (ss_11 hS) (vp_nI hh (by decide)), dR_of ?_ k⟩)))⟩
  · have c2 := (lt_toInt _ _).mp c
    rw [toInt_nI (by omega)] at c2
    have e2 : (0 : Int32).toInt = 0 := rfl
    omega
  · rw [ix_nI (by omega)]; exact sp_hs hS hh
theorem c_hO28 {L h : Nat} {M : fM} {φ : Option Nat → fM → Prop} (hS : Str L M) (hh : h < 4) (k : φ (some (38 + 2 * h)) M) : w_X5_houseOf 28 (nI h) M φ := by
  refine iF_f (fun c => ?_) ⟨isO_pt hS (by decide) rfl, dR_of (Str.pg hS rfl) (lenA_of (ss_29 hS) (iF_f (fun c => absurd ((nIle (by omega) (by omega)).mp c) (by omega)) (dR_of (Str.pg hS rfl) ⟨inA_of (ss_29 hS) (vp_nI hh (by decide)), dR_of ?_ k⟩)))⟩
  · have c2 := (lt_toInt _ _).mp c
    rw [toInt_nI (by omega)] at c2
    have e2 : (0 : Int32).toInt = 0 := rfl
    omega
  · rw [ix_nI (by omega)]; exact sp_ks hS hh
theorem PTL_tx : ∀ t ∈ PTL, t.1 ≠ 18 ∧ t.1 ≠ 36 := by decide
theorem Str.pw {L : Nat} {M M2 : fM} (h1 : M2.2.2.2 = M.2.2.2) (h2 : ∀ r k, r ≠ 18 → r ≠ 36 → mP M2 r k = mP M r k) (h : Str L M) : Str L M2 := by
  obtain ⟨⟨ex, he⟩, hp⟩ := h
  refine ⟨⟨ex, h1.trans he⟩, fun t ht => ?_⟩
  obtain ⟨q1, q2⟩ := PTL_tx t ht
  exact (h2 t.1 t.2.1 q1 q2).trans (hp t ht)
def HsEq (D S k : Nat) (M M2 : fM) : Prop := M2.2 = M.2 ∧ (∀ r, (∀ i, k ≤ i → i < 4 → r ≠ D + 10 + 2 * i ∧ r ≠ D + 11 + 2 * i) → ∀ j, mI M2 r j = mI M r j) ∧ ∀ i, k ≤ i → i < 4 → mI M2 (D + 10 + 2 * i) 0 = mI M (S + 10 + 2 * i) 0 ∧ mI M2 (D + 10 + 2 * i) 2 = mI M (S + 10 + 2 * i) 2 ∧ mI M2 (D + 10 + 2 * i) 3 = mI M (S + 10 + 2 * i) 3 ∧ mI M2 (D + 10 + 2 * i) 4 = mI M (S + 10 + 2 * i) 4 ∧ ∀ j, j < 15 → mI M2 (D + 11 + 2 * i) j = mI M (S + 11 + 2 * i) j
/-- the State at D is behind what the State at S was -/
def Bec (D S : Nat) (M M2 : fM) : Prop := M2.2.1 = M.2.1 ∧ M2.2.2.2 = M.2.2.2 ∧ (∀ i, i < 4 → mP M2 (D + 8) i = mP M (S + 8) i) ∧ (∀ r j, r ≠ D + 8 → mP M2 r j = mP M r j) ∧ (∀ r, ¬ (D ≤ r ∧ r ≤ D + 17) → ∀ j, mI M2 r j = mI M r j) ∧ (∀ f, f = 4 ∨ f = 5 ∨ f = 6 ∨ f = 9 ∨ f = 11 ∨ f = 12 ∨ f = 14 ∨ f = 15 ∨ f = 17 → mI M2 D f = mI M S f) ∧ (∀ j, j < 6 → mI M2 (D + 2) j = mI M (S + 2) j ∧ mI M2 (D + 3) j = mI M (S + 3) j ∧ mI M2 (D + 4) j = mI M (S + 4) j) ∧ (∀ j, j < 8 → mI M2 (D + 5) j = mI M (S + 5) j) ∧ (∀ j, j < 2048 → mI M2 (D + 6) j = mI M (S + 6) j) ∧ (∀ j, j < 330 → mI M2 (D + 7) j = mI M (S + 7) j) ∧ (∀ j, j < 48 → mI M2 (D + 9) j = mI M (S + 9) j) ∧ ∀ i, i < 4 → mI M2 (D + 10 + 2 * i) 0 = mI M (S + 10 + 2 * i) 0 ∧ mI M2 (D + 10 + 2 * i) 2 = mI M (S + 10 + 2 * i) 2 ∧ mI M2 (D + 10 + 2 * i) 3 = mI M (S + 10 + 2 * i) 3 ∧ mI M2 (D + 10 + 2 * i) 4 = mI M (S + 10 + 2 * i) 4 ∧ ∀ j, j < 15 → mI M2 (D + 11 + 2 * i) j = mI M (S + 11 + 2 * i) j
theorem Bec.C {D S nx : Nat} {M M2 : fM} {A : Nat → Nat} (h5 : A 5 ≤ 30) (h : Bec D S M M2) (hC : Cls M S A nx) : Cls M2 D A nx := by
  obtain ⟨-, -, -, -, -, b1, b2, b3, b4, b5, b6, b7⟩ := h
  obtain ⟨hH, hP, ⟨s0, s1, s2, s3, s4, s5, s6, s7⟩, ⟨w1, w2⟩, hB, hG, a1, a2, a3⟩ := hC
  refine ⟨fun i hi => ?_, fun p hp => ?_, ?_, ⟨fun e k hk => (b3 k hk).trans (w1 e k hk), fun e => (b3 0 (by omega)).trans (w2 e)⟩, fun i hi k hk => (b4 _ (by omega)).trans (hB i hi k hk), fun i hi k hk => (b6 _ (by omega)).trans (hG i hi k hk), (b1 12 (by omega)).trans a1, a2, fun k hk => ?_⟩
  · obtain ⟨c1, c2, c3, c4, c5⟩ := b7 i hi
    obtain ⟨d1, d2, d3, d4, d5⟩ := hH i hi
    exact ⟨c1.trans d1, c2.trans d2, c3.trans d3, c4.trans d4, fun j hj => (c5 j hj).trans (d5 j hj)⟩
  · obtain ⟨c1, c2, c3⟩ := b2 p hp
    obtain ⟨d1, d2, d3⟩ := hP p hp
    exact ⟨c1.trans d1, c2.trans d2, c3.trans d3⟩
  · exact ⟨(b1 4 (by omega)).trans s0, (b1 5 (by omega)).trans s1, (b1 6 (by omega)).trans s2, (b1 9 (by omega)).trans s3, (b1 11 (by omega)).trans s4, (b1 14 (by omega)).trans s5, (b1 15 (by omega)).trans s6, (b1 17 (by omega)).trans s7⟩
  · obtain ⟨d1, d2, d3, d4, d5⟩ := a3 k hk
    have hs : slot nx (A 5) k < 30 := by unfold slot; omega
    exact ⟨fun e j hj => (b5 _ (by omega)).trans (d1 e j hj), fun e => (b5 _ (by omega)).trans (d2 e), (b5 _ (by omega)).trans d3, (b5 _ (by omega)).trans d4, (b5 _ (by omega)).trans d5⟩
