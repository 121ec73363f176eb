/-! ===== the law's loop ===== -/
theorem lp_fin {L t : Nat} (hL : L ≤ 3584) (h : L < 7 * t + 7) (ht : t ≤ 512) : nI L - (7 : Int32) < nI (7 * t) := by
  by_cases e : 7 ≤ L
  · rw [show nI L - (7 : Int32) = nI (L - 7) from nI_sub (b := 7) e]
    exact (nIlt (by omega) (by omega)).mpr (by omega)
  · have q : ∀ l, l < 7 → nI l - (7 : Int32) < (0 : Int32) := by decide
    exact Int32.lt_of_lt_of_le (q L (by omega)) ((nIle (a := 0) (by omega) (by omega)).mpr (Nat.zero_le _))
theorem Inv.S {L B : Nat} {X : Nat → Int32} {M : fM} (h : Inv L X B M) : Str L M := by
  obtain ⟨A, A', nx, nx', tl, tp, h⟩ := h
  exact h.1
theorem Inv.X {L B : Nat} {X : Nat → Int32} {M : fM} (h : Inv L X B M) : Sts X M := by
  obtain ⟨A, A', nx, nx', tl, tp, h⟩ := h
  exact h.2.1
theorem Inv.mn {L B B2 : Nat} {X : Nat → Int32} {M : fM} (h : Inv L X B M) (hB : B ≤ B2) (hB2 : B2 ≤ 1000000) : Inv L X B2 M := by
  obtain ⟨A, A', nx, nx', tl, tp, a1, a2, a3, a4, a5, a6, a7, a8, a9⟩ := h
  exact ⟨A, A', nx, nx', tl, tp, a1, a2, a3, a4, a5, a6, a7.mn hB hB2, a8.mn hB hB2, a9⟩
theorem inq {L p i : Nat} {M : fM} (hS : Str L M) (hp : p + 7 ≤ L) (hL : L ≤ 3584) (hi : i ≤ 6) : inA M 0 12 (nI p + nI i) := by
  rw [nI_add]
  exact inA_of hS.sh0 (vp_nI (by omega) (by omega))
def NxL (L : Nat) (X : Nat → Int32) (B p : Nat) (K : Nat → Nat → Nat → Int32 → fM → Prop) : Prop := p + 7 ≤ L ∧ L ≤ 3584 ∧ B + 2376 ≤ 1000000 ∧ ∀ M2, Inv L X (B + 105) M2 → K 0 6 70 (nI (p + 7)) M2
theorem jl_end {L B B2 p : Nat} {X : Nat → Int32} {M : fM} {K : Nat → Nat → Nat → Int32 → fM → Prop} {φ : Int32 → fM → Prop} (h : NxL L X B p K) (hI : Inv L X B2 M) (hb : B2 ≤ B + 105) : j_L_law_1833 K φ 0 6 70 (nI p) M := by
  refine nm_of ?_
  rw [show nI p + (7 : Int32) = nI (p + 7) from nI_add _ 7]
  exact h.2.2.2 M (hI.mn hb (by have := h.2.2.1; omega))
theorem jl_216 {L B p : Nat} {X : Nat → Int32} {M : fM} {K : Nat → Nat → Nat → Int32 → fM → Prop} {φ : Int32 → fM → Prop} (h : NxL L X B p K) (hI : Inv L X B M) : j_L_law_216 K φ 0 6 70 (nI p) M := by
  obtain ⟨n1, n2, n3, -⟩ := id h
  have hS := hI.S
  have hX := hI.X
  refine ⟨inq (i := 1) hS n1 n2 (by omega), inq (i := 2) hS n1 n2 (by omega), isO_pt hS (by decide) rfl, k_stair hI fun v M1 mid => ?_⟩
  obtain ⟨hS1, hX1, hm⟩ := mid
  have e : ∀ i, mI M1 0 i = mI M 0 i := fun i => (hX1.1 i).trans (hX.1 i).symm
  refine ⟨inq (i := 1) hS1 n1 n2 (by omega), inq (i := 2) hS1 n1 n2 (by omega), isO_pt hS1 (by decide) rfl, ?_⟩
  rw [e, e]
  exact hm _ fun M2 hI2 => iF_t rfl (jl_end h hI2 (by omega))
theorem jl_249 {L B p : Nat} {X : Nat → Int32} {M : fM} {K : Nat → Nat → Nat → Int32 → fM → Prop} {φ : Int32 → fM → Prop} (h : NxL L X B p K) (hI : Inv L X B M) : j_L_law_249 K φ 0 6 70 (nI p) M := by
  obtain ⟨n1, n2, n3, -⟩ := id h
  have hS := hI.S
  have hX := hI.X
  refine ⟨inq (i := 1) hS n1 n2 (by omega), inq (i := 2) hS n1 n2 (by omega), inq (i := 3) hS n1 n2 (by omega), isO_pt hS (by decide) rfl, k_height hI fun v M1 mid => ?_⟩
  obtain ⟨hS1, hX1, hm⟩ := mid
  have e : ∀ i, mI M1 0 i = mI M 0 i := fun i => (hX1.1 i).trans (hX.1 i).symm
  refine ⟨inq (i := 1) hS1 n1 n2 (by omega), inq (i := 2) hS1 n1 n2 (by omega), inq (i := 3) hS1 n1 n2 (by omega), isO_pt hS1 (by decide) rfl, ?_⟩
  rw [e, e, e]
  exact hm _ fun M2 hI2 => iF_t rfl (jl_end h hI2 (by omega))
theorem jl_316 {L B p : Nat} {X : Nat → Int32} {M : fM} {K : Nat → Nat → Nat → Int32 → fM → Prop} {φ : Int32 → fM → Prop} {c : Int32} (h : NxL L X B p K) (hI : Inv L X B M) (hc : (c = 0 ∧ mI M 0 (ix (nI p + (3 : Int32))) = 0) ∨ (c = 1 ∧ ¬ mI M 0 (ix (nI p + (3 : Int32))) = 0)) : j_L_law_316 K φ 0 6 70 (nI p) c (mI M 0 (ix (nI p + (2 : Int32)))) (mI M 0 (ix (nI p + (1 : Int32)))) 6 M := by
  obtain ⟨n1, n2, n3, -⟩ := id h
  have hS := hI.S
  have hX := hI.X
  refine ⟨isO_pt hS (by decide) rfl, k_mark (by rcases hc with ⟨e, -⟩ | ⟨e, -⟩ <;> subst e <;> decide) hI fun v M1 mid => ?_⟩
  obtain ⟨hS1, hX1, hm⟩ := mid
  have e : ∀ i, mI M1 0 i = mI M 0 i := fun i => (hX1.1 i).trans (hX.1 i).symm
  refine ⟨inq (i := 1) hS1 n1 n2 (by omega), inq (i := 2) hS1 n1 n2 (by omega), inq (i := 3) hS1 n1 n2 (by omega), ?_⟩
  rw [e, e, e]
  rcases hc with ⟨e1, e2⟩ | ⟨e1, e2⟩
  · subst e1
    exact iF_t e2 ⟨isO_pt hS1 (by decide) rfl, hm _ fun M2 hI2 => iF_t rfl (jl_end h hI2 (by omega))⟩
  · subst e1
    exact iF_f e2 ⟨isO_pt hS1 (by decide) rfl, hm _ fun M2 hI2 => iF_t rfl (jl_end h hI2 (by omega))⟩
theorem jl_292 {L B p : Nat} {X : Nat → Int32} {M : fM} {K : Nat → Nat → Nat → Int32 → fM → Prop} {φ : Int32 → fM → Prop} (h : NxL L X B p K) (hI : Inv L X B M) : j_L_law_292 K φ 0 6 70 (nI p) M := by
  obtain ⟨n1, n2, n3, -⟩ := id h
  have hS := hI.S
  exact ⟨inq (i := 1) hS n1 n2 (by omega), inq (i := 2) hS n1 n2 (by omega), inq (i := 3) hS n1 n2 (by omega), iF_s (fun q => jl_316 h hI (Or.inl ⟨rfl, q⟩)) (fun q => jl_316 h hI (Or.inr ⟨rfl, q⟩))⟩
theorem jl_351 {L B p : Nat} {X : Nat → Int32} {M : fM} {K : Nat → Nat → Nat → Int32 → fM → Prop} {φ : Int32 → fM → Prop} (h : NxL L X B p K) (hI : Inv L X B M) : j_L_law_351 K φ 0 6 70 (nI p) M := by
  obtain ⟨n1, n2, n3, -⟩ := id h
  have hS := hI.S
  have hX := hI.X
  refine ⟨inq (i := 1) hS n1 n2 (by omega), inq (i := 2) hS n1 n2 (by omega), isO_pt hS (by decide) rfl, k_rail hI fun v M1 mid => ?_⟩
  obtain ⟨hS1, hX1, hm⟩ := mid
  have e : ∀ i, mI M1 0 i = mI M 0 i := fun i => (hX1.1 i).trans (hX.1 i).symm
  refine ⟨inq (i := 1) hS1 n1 n2 (by omega), inq (i := 2) hS1 n1 n2 (by omega), isO_pt hS1 (by decide) rfl, ?_⟩
  rw [e, e]
  exact hm _ fun M2 hI2 => iF_t rfl (jl_end h hI2 (by omega))
theorem jl_384 {L B p : Nat} {X : Nat → Int32} {M : fM} {K : Nat → Nat → Nat → Int32 → fM → Prop} {φ : Int32 → fM → Prop} (h : NxL L X B p K) (hI : Inv L X B M) : j_L_law_384 K φ 0 6 70 (nI p) M := by
  obtain ⟨n1, n2, n3, -⟩ := id h
  have hS := hI.S
  have hX := hI.X
  refine ⟨inq (i := 1) hS n1 n2 (by omega), inq (i := 2) hS n1 n2 (by omega), inq (i := 3) hS n1 n2 (by omega), isO_pt hS (by decide) rfl, k_person hI fun v M1 mid => ?_⟩
  obtain ⟨hS1, hX1, hm⟩ := mid
  have e : ∀ i, mI M1 0 i = mI M 0 i := fun i => (hX1.1 i).trans (hX.1 i).symm
  refine ⟨inq (i := 1) hS1 n1 n2 (by omega), inq (i := 2) hS1 n1 n2 (by omega), inq (i := 3) hS1 n1 n2 (by omega), isO_pt hS1 (by decide) rfl, ?_⟩
  rw [e, e, e]
  exact hm _ fun M2 hI2 => iF_t rfl (jl_end h hI2 (by omega))
theorem jl_427 {L B p : Nat} {X : Nat → Int32} {M : fM} {K : Nat → Nat → Nat → Int32 → fM → Prop} {φ : Int32 → fM → Prop} (h : NxL L X B p K) (hI : Inv L X B M) : j_L_law_427 K φ 0 6 70 (nI p) M := by
  obtain ⟨n1, n2, n3, -⟩ := id h
  have hS := hI.S
  have hX := hI.X
  refine ⟨inq (i := 1) hS n1 n2 (by omega), isO_pt hS (by decide) rfl, k_seed hI fun v M1 mid => ?_⟩
  obtain ⟨hS1, hX1, hm⟩ := mid
  have e : ∀ i, mI M1 0 i = mI M 0 i := fun i => (hX1.1 i).trans (hX.1 i).symm
  refine ⟨inq (i := 1) hS1 n1 n2 (by omega), isO_pt hS1 (by decide) rfl, ?_⟩
  rw [e]
  exact hm _ fun M2 hI2 => iF_t rfl (jl_end h hI2 (by omega))
theorem jl_450 {L B p : Nat} {X : Nat → Int32} {M : fM} {K : Nat → Nat → Nat → Int32 → fM → Prop} {φ : Int32 → fM → Prop} (h : NxL L X B p K) (hI : Inv L X B M) : j_L_law_450 K φ 0 6 70 (nI p) M := by
  obtain ⟨n1, n2, n3, -⟩ := id h
  have hS := hI.S
  have hX := hI.X
  refine ⟨inq (i := 1) hS n1 n2 (by omega), inq (i := 2) hS n1 n2 (by omega), inq (i := 3) hS n1 n2 (by omega), inq (i := 4) hS n1 n2 (by omega), inq (i := 5) hS n1 n2 (by omega), isO_pt hS (by decide) rfl, k_feed hI fun v M1 hS1 e hm => ?_⟩
  refine ⟨inq (i := 1) hS1 n1 n2 (by omega), inq (i := 2) hS1 n1 n2 (by omega), inq (i := 3) hS1 n1 n2 (by omega), inq (i := 4) hS1 n1 n2 (by omega), inq (i := 5) hS1 n1 n2 (by omega), isO_pt hS1 (by decide) rfl, ?_⟩
  rw [e, e, e, e, e]
  exact hm _ fun M2 hI2 => iF_t rfl (jl_end h hI2 (by omega))
theorem jl_513 {L B p : Nat} {X : Nat → Int32} {M : fM} {K : Nat → Nat → Nat → Int32 → fM → Prop} {φ : Int32 → fM → Prop} (h : NxL L X B p K) (hI : Inv L X B M) : j_L_law_513 K φ 0 6 70 (nI p) M := by
  obtain ⟨n1, n2, n3, -⟩ := id h
  have hS := hI.S
  have hX := hI.X
  refine ⟨inq (i := 1) hS n1 n2 (by omega), isO_pt hS (by decide) rfl, k_end hI fun v M1 hS1 e hm => ?_⟩
  refine ⟨inq (i := 1) hS1 n1 n2 (by omega), isO_pt hS1 (by decide) rfl, ?_⟩
  rw [e]
  exact hm _ fun M2 hI2 => iF_t rfl (jl_end h hI2 (by omega))
theorem jl_536 {L B p : Nat} {X : Nat → Int32} {M : fM} {K : Nat → Nat → Nat → Int32 → fM → Prop} {φ : Int32 → fM → Prop} (h : NxL L X B p K) (hI : Inv L X B M) : j_L_law_536 K φ 0 6 70 (nI p) M := by
  obtain ⟨n1, n2, n3, -⟩ := id h
  have hS := hI.S
  have hX := hI.X
  refine ⟨isO_pt hS (by decide) rfl, k_text hI fun v M1 mid => ?_⟩
  obtain ⟨hS1, hX1, hm⟩ := mid
  refine ⟨isO_pt hS1 (by decide) rfl, ?_⟩
  exact hm _ fun M2 hI2 => iF_t rfl (jl_end h hI2 (by omega))
theorem jl_549 {L B p : Nat} {X : Nat → Int32} {M : fM} {K : Nat → Nat → Nat → Int32 → fM → Prop} {φ : Int32 → fM → Prop} (h : NxL L X B p K) (hI : Inv L X B M) : j_L_law_549 K φ 0 6 70 (nI p) M := by
  obtain ⟨n1, n2, n3, -⟩ := id h
  have hS := hI.S
  have hX := hI.X
  refine ⟨inq (i := 1) hS n1 n2 (by omega), isO_pt hS (by decide) rfl, k_fault hI fun v M1 mid => ?_⟩
  obtain ⟨hS1, hX1, hm⟩ := mid
  have e : ∀ i, mI M1 0 i = mI M 0 i := fun i => (hX1.1 i).trans (hX.1 i).symm
  refine ⟨inq (i := 1) hS1 n1 n2 (by omega), isO_pt hS1 (by decide) rfl, ?_⟩
  rw [e]
  exact hm _ fun M2 hI2 => iF_t rfl (jl_end h hI2 (by omega))
theorem jl_572 {L B p : Nat} {X : Nat → Int32} {M : fM} {K : Nat → Nat → Nat → Int32 → fM → Prop} {φ : Int32 → fM → Prop} (h : NxL L X B p K) (hI : Inv L X B M) : j_L_law_572 K φ 0 6 70 (nI p) M := by
  obtain ⟨n1, n2, n3, -⟩ := id h
  have hS := hI.S
  have hX := hI.X
  refine ⟨inq (i := 1) hS n1 n2 (by omega), isO_pt hS (by decide) rfl, k_by hI fun v M1 mid => ?_⟩
  obtain ⟨hS1, hX1, hm⟩ := mid
  have e : ∀ i, mI M1 0 i = mI M 0 i := fun i => (hX1.1 i).trans (hX.1 i).symm
  refine ⟨inq (i := 1) hS1 n1 n2 (by omega), isO_pt hS1 (by decide) rfl, ?_⟩
  rw [e]
  exact hm _ fun M2 hI2 => iF_t rfl (jl_end h hI2 (by omega))
theorem jl_595 {L B p : Nat} {X : Nat → Int32} {M : fM} {K : Nat → Nat → Nat → Int32 → fM → Prop} {φ : Int32 → fM → Prop} (h : NxL L X B p K) (hI : Inv L X B M) : j_L_law_595 K φ 0 6 70 (nI p) M := by
  obtain ⟨n1, n2, n3, -⟩ := id h
  have hS := hI.S
  have hX := hI.X
  refine ⟨inq (i := 1) hS n1 n2 (by omega), inq (i := 2) hS n1 n2 (by omega), inq (i := 3) hS n1 n2 (by omega), isO_pt hS (by decide) rfl, k_begin hI fun v M1 mid => ?_⟩
  obtain ⟨hS1, hX1, hm⟩ := mid
  have e : ∀ i, mI M1 0 i = mI M 0 i := fun i => (hX1.1 i).trans (hX.1 i).symm
  refine ⟨inq (i := 1) hS1 n1 n2 (by omega), inq (i := 2) hS1 n1 n2 (by omega), inq (i := 3) hS1 n1 n2 (by omega), isO_pt hS1 (by decide) rfl, ?_⟩
  rw [e, e, e]
  exact hm _ fun M2 hI2 => iF_t rfl (jl_end h hI2 (by omega))
theorem jl_638 {L B p : Nat} {X : Nat → Int32} {M : fM} {K : Nat → Nat → Nat → Int32 → fM → Prop} {φ : Int32 → fM → Prop} (h : NxL L X B p K) (hI : Inv L X B M) : j_L_law_638 K φ 0 6 70 (nI p) M := by
  obtain ⟨n1, n2, n3, -⟩ := id h
  have hS := hI.S
  have hX := hI.X
  refine ⟨isO_pt hS (by decide) rfl, k_step (by omega) hI fun v M1 mid => ?_⟩
  obtain ⟨hS1, hX1, hm⟩ := mid
  refine ⟨isO_pt hS1 (by decide) rfl, ?_⟩
  exact hm _ fun M2 hI2 => iF_t rfl (jl_end h hI2 (by omega))
theorem jl_651 {L B p : Nat} {X : Nat → Int32} {M : fM} {K : Nat → Nat → Nat → Int32 → fM → Prop} {φ : Int32 → fM → Prop} (h : NxL L X B p K) (hI : Inv L X B M) : j_L_law_651 K φ 0 6 70 (nI p) M := by
  obtain ⟨n1, n2, n3, -⟩ := id h
  have hS := hI.S
  have hX := hI.X
  refine ⟨isO_pt hS (by decide) rfl, k_toe (by omega) hI fun v M1 mid => ?_⟩
  obtain ⟨hS1, hX1, hm⟩ := mid
  refine ⟨isO_pt hS1 (by decide) rfl, ?_⟩
  exact hm _ fun M2 hI2 => iF_t rfl (jl_end h hI2 (by omega))
theorem jl_664 {L B p : Nat} {X : Nat → Int32} {M : fM} {K : Nat → Nat → Nat → Int32 → fM → Prop} {φ : Int32 → fM → Prop} (h : NxL L X B p K) (hI : Inv L X B M) : j_L_law_664 K φ 0 6 70 (nI p) M := by
  obtain ⟨n1, n2, n3, -⟩ := id h
  have hS := hI.S
  have hX := hI.X
  refine ⟨isO_pt hS (by decide) rfl, k_stop (by omega) hI fun v M1 mid => ?_⟩
  obtain ⟨hS1, hX1, hm⟩ := mid
  refine ⟨isO_pt hS1 (by decide) rfl, ?_⟩
  exact hm _ fun M2 hI2 => iF_t rfl (jl_end h hI2 (by omega))
theorem jl_677 {L B p : Nat} {X : Nat → Int32} {M : fM} {K : Nat → Nat → Nat → Int32 → fM → Prop} {φ : Int32 → fM → Prop} (h : NxL L X B p K) (hI : Inv L X B M) : j_L_law_677 K φ 0 6 70 (nI p) M := by
  obtain ⟨n1, n2, n3, -⟩ := id h
  have hS := hI.S
  have hX := hI.X
  refine ⟨inq (i := 1) hS n1 n2 (by omega), isO_pt hS (by decide) rfl, k_night hI fun v M1 mid => ?_⟩
  obtain ⟨hS1, hX1, hm⟩ := mid
  have e : ∀ i, mI M1 0 i = mI M 0 i := fun i => (hX1.1 i).trans (hX.1 i).symm
  refine ⟨inq (i := 1) hS1 n1 n2 (by omega), isO_pt hS1 (by decide) rfl, ?_⟩
  rw [e]
  exact hm _ fun M2 hI2 => iF_t rfl (jl_end h hI2 (by omega))
theorem jl_700 {L B p : Nat} {X : Nat → Int32} {M : fM} {K : Nat → Nat → Nat → Int32 → fM → Prop} {φ : Int32 → fM → Prop} (h : NxL L X B p K) (hI : Inv L X B M) : j_L_law_700 K φ 0 6 70 (nI p) M := by
  obtain ⟨n1, n2, n3, -⟩ := id h
  have hS := hI.S
  have hX := hI.X
  refine ⟨inq (i := 1) hS n1 n2 (by omega), isO_pt hS (by decide) rfl, k_played (by omega) hI fun v M1 mid => ?_⟩
  obtain ⟨hS1, hX1, hm⟩ := mid
  have e : ∀ i, mI M1 0 i = mI M 0 i := fun i => (hX1.1 i).trans (hX.1 i).symm
  refine ⟨inq (i := 1) hS1 n1 n2 (by omega), isO_pt hS1 (by decide) rfl, ?_⟩
  rw [e]
  exact hm _ fun M2 hI2 => iF_t rfl (jl_end h hI2 (by omega))
theorem jl_723 {L B p : Nat} {X : Nat → Int32} {M : fM} {K : Nat → Nat → Nat → Int32 → fM → Prop} {φ : Int32 → fM → Prop} (h : NxL L X B p K) (hI : Inv L X B M) : j_L_law_723 K φ 0 6 70 (nI p) M := by
  obtain ⟨n1, n2, n3, -⟩ := id h
  have hS := hI.S
  have hX := hI.X
  refine ⟨inq (i := 1) hS n1 n2 (by omega), inq (i := 2) hS n1 n2 (by omega), isO_pt hS (by decide) rfl, k_week (by omega) hI fun v M1 mid => ?_⟩
  obtain ⟨hS1, hX1, hm⟩ := mid
  have e : ∀ i, mI M1 0 i = mI M 0 i := fun i => (hX1.1 i).trans (hX.1 i).symm
  refine ⟨inq (i := 1) hS1 n1 n2 (by omega), inq (i := 2) hS1 n1 n2 (by omega), isO_pt hS1 (by decide) rfl, ?_⟩
  rw [e, e]
  exact hm _ fun M2 hI2 => iF_t rfl (jl_end h hI2 (by omega))
theorem jl_756 {L B p : Nat} {X : Nat → Int32} {M : fM} {K : Nat → Nat → Nat → Int32 → fM → Prop} {φ : Int32 → fM → Prop} (h : NxL L X B p K) (hI : Inv L X B M) : j_L_law_756 K φ 0 6 70 (nI p) M := by
  obtain ⟨n1, n2, n3, -⟩ := id h
  have hS := hI.S
  have hX := hI.X
  refine ⟨isO_pt hS (by decide) rfl, k_undo hI fun v M1 mid => ?_⟩
  obtain ⟨hS1, hX1, hm⟩ := mid
  refine ⟨isO_pt hS1 (by decide) rfl, ?_⟩
  exact hm _ fun M2 hI2 => iF_t rfl (jl_end h hI2 (by omega))
theorem jl_769 {L B p : Nat} {X : Nat → Int32} {M : fM} {K : Nat → Nat → Nat → Int32 → fM → Prop} {φ : Int32 → fM → Prop} (h : NxL L X B p K) (hI : Inv L X B M) : j_L_law_769 K φ 0 6 70 (nI p) M := by
  obtain ⟨n1, n2, n3, -⟩ := id h
  have hS := hI.S
  have hX := hI.X
  refine ⟨inq (i := 1) hS n1 n2 (by omega), isO_pt hS (by decide) rfl, k_way hI fun v M1 mid => ?_⟩
  obtain ⟨hS1, hX1, hm⟩ := mid
  have e : ∀ i, mI M1 0 i = mI M 0 i := fun i => (hX1.1 i).trans (hX.1 i).symm
  refine ⟨inq (i := 1) hS1 n1 n2 (by omega), isO_pt hS1 (by decide) rfl, ?_⟩
  rw [e]
  exact hm _ fun M2 hI2 => iF_t rfl (jl_end h hI2 (by omega))
theorem jl_792 {L B p : Nat} {X : Nat → Int32} {M : fM} {K : Nat → Nat → Nat → Int32 → fM → Prop} {φ : Int32 → fM → Prop} (h : NxL L X B p K) (hI : Inv L X B M) : j_L_law_792 K φ 0 6 70 (nI p) M := by
  obtain ⟨n1, n2, n3, -⟩ := id h
  have hS := hI.S
  have hX := hI.X
  refine ⟨inq (i := 1) hS n1 n2 (by omega), inq (i := 2) hS n1 n2 (by omega), isO_pt hS (by decide) rfl, k_house hI fun v M1 mid => ?_⟩
  obtain ⟨hS1, hX1, hm⟩ := mid
  have e : ∀ i, mI M1 0 i = mI M 0 i := fun i => (hX1.1 i).trans (hX.1 i).symm
  refine ⟨inq (i := 1) hS1 n1 n2 (by omega), inq (i := 2) hS1 n1 n2 (by omega), isO_pt hS1 (by decide) rfl, ?_⟩
  rw [e, e]
  exact hm _ fun M2 hI2 => iF_t rfl (jl_end h hI2 (by omega))
theorem jl_825 {L B p : Nat} {X : Nat → Int32} {M : fM} {K : Nat → Nat → Nat → Int32 → fM → Prop} {φ : Int32 → fM → Prop} (h : NxL L X B p K) (hI : Inv L X B M) : j_L_law_825 K φ 0 6 70 (nI p) M := by
  obtain ⟨n1, n2, n3, -⟩ := id h
  have hS := hI.S
  have hX := hI.X
  refine ⟨inq (i := 1) hS n1 n2 (by omega), inq (i := 2) hS n1 n2 (by omega), inq (i := 3) hS n1 n2 (by omega), inq (i := 4) hS n1 n2 (by omega), inq (i := 5) hS n1 n2 (by omega), isO_pt hS (by decide) rfl, k_says hI fun v M1 mid => ?_⟩
  obtain ⟨hS1, hX1, hm⟩ := mid
  have e : ∀ i, mI M1 0 i = mI M 0 i := fun i => (hX1.1 i).trans (hX.1 i).symm
  refine ⟨inq (i := 1) hS1 n1 n2 (by omega), inq (i := 2) hS1 n1 n2 (by omega), inq (i := 3) hS1 n1 n2 (by omega), inq (i := 4) hS1 n1 n2 (by omega), inq (i := 5) hS1 n1 n2 (by omega), isO_pt hS1 (by decide) rfl, ?_⟩
  rw [e, e, e, e, e]
  exact hm _ fun M2 hI2 => iF_t rfl (jl_end h hI2 (by omega))
theorem jl_888 {L B p : Nat} {X : Nat → Int32} {M : fM} {K : Nat → Nat → Nat → Int32 → fM → Prop} {φ : Int32 → fM → Prop} (h : NxL L X B p K) (hI : Inv L X B M) : j_L_law_888 K φ 0 6 70 (nI p) M := by
  obtain ⟨n1, n2, n3, -⟩ := id h
  have hS := hI.S
  have hX := hI.X
  refine ⟨inq (i := 1) hS n1 n2 (by omega), inq (i := 2) hS n1 n2 (by omega), isO_pt hS (by decide) rfl, k_book hI fun v M1 mid => ?_⟩
  obtain ⟨hS1, hX1, hm⟩ := mid
  have e : ∀ i, mI M1 0 i = mI M 0 i := fun i => (hX1.1 i).trans (hX.1 i).symm
  refine ⟨inq (i := 1) hS1 n1 n2 (by omega), inq (i := 2) hS1 n1 n2 (by omega), isO_pt hS1 (by decide) rfl, ?_⟩
  rw [e, e]
  exact hm _ fun M2 hI2 => iF_t rfl (jl_end h hI2 (by omega))
theorem jl_961 {L B p : Nat} {X : Nat → Int32} {M : fM} {K : Nat → Nat → Nat → Int32 → fM → Prop} {φ : Int32 → fM → Prop} {c : Int32} (h : NxL L X B p K) (hI : Inv L X B M) (hc : (c = 0 ∧ mI M 0 (ix (nI p + (6 : Int32))) = 0) ∨ (c = 1 ∧ ¬ mI M 0 (ix (nI p + (6 : Int32))) = 0)) : j_L_law_961 K φ 0 6 70 (nI p) c (mI M 0 (ix (nI p + (5 : Int32)))) (mI M 0 (ix (nI p + (4 : Int32)))) (mI M 0 (ix (nI p + (3 : Int32)))) (mI M 0 (ix (nI p + (2 : Int32)))) (mI M 0 (ix (nI p + (1 : Int32)))) 6 M := by
  obtain ⟨n1, n2, n3, -⟩ := id h
  have hS := hI.S
  have hX := hI.X
  refine ⟨isO_pt hS (by decide) rfl, k_where hI fun v M1 mid => ?_⟩
  obtain ⟨hS1, hX1, hm⟩ := mid
  have e : ∀ i, mI M1 0 i = mI M 0 i := fun i => (hX1.1 i).trans (hX.1 i).symm
  refine ⟨inq (i := 1) hS1 n1 n2 (by omega), inq (i := 2) hS1 n1 n2 (by omega), inq (i := 3) hS1 n1 n2 (by omega), inq (i := 4) hS1 n1 n2 (by omega), inq (i := 5) hS1 n1 n2 (by omega), inq (i := 6) hS1 n1 n2 (by omega), ?_⟩
  rw [e, e, e, e, e, e]
  rcases hc with ⟨e1, e2⟩ | ⟨e1, e2⟩
  · subst e1
    exact iF_t e2 ⟨isO_pt hS1 (by decide) rfl, hm _ fun M2 hI2 => iF_t (lg_eq _) (jl_end h hI2 (by omega))⟩
  · subst e1
    exact iF_f e2 ⟨isO_pt hS1 (by decide) rfl, hm _ fun M2 hI2 => iF_t (lg_eq _) (jl_end h hI2 (by omega))⟩
theorem jl_921 {L B p : Nat} {X : Nat → Int32} {M : fM} {K : Nat → Nat → Nat → Int32 → fM → Prop} {φ : Int32 → fM → Prop} (h : NxL L X B p K) (hI : Inv L X B M) : j_L_law_921 K φ 0 6 70 (nI p) M := by
  obtain ⟨n1, n2, n3, -⟩ := id h
  have hS := hI.S
  exact ⟨inq (i := 1) hS n1 n2 (by omega), inq (i := 2) hS n1 n2 (by omega), inq (i := 3) hS n1 n2 (by omega), inq (i := 4) hS n1 n2 (by omega), inq (i := 5) hS n1 n2 (by omega), inq (i := 6) hS n1 n2 (by omega), iF_s (fun q => jl_961 h hI (Or.inl ⟨rfl, q⟩)) (fun q => jl_961 h hI (Or.inr ⟨rfl, q⟩))⟩
theorem jl_1047 {L B p : Nat} {X : Nat → Int32} {M : fM} {K : Nat → Nat → Nat → Int32 → fM → Prop} {φ : Int32 → fM → Prop} {c : Int32} (h : NxL L X B p K) (hI : Inv L X B M) (hc : (c = 0 ∧ mI M 0 (ix (nI p + (5 : Int32))) = 0) ∨ (c = 1 ∧ ¬ mI M 0 (ix (nI p + (5 : Int32))) = 0)) : j_L_law_1047 K φ 0 6 70 (nI p) c (mI M 0 (ix (nI p + (4 : Int32)))) (mI M 0 (ix (nI p + (3 : Int32)))) (mI M 0 (ix (nI p + (2 : Int32)))) (mI M 0 (ix (nI p + (1 : Int32)))) 6 M := by
  obtain ⟨n1, n2, n3, -⟩ := id h
  have hS := hI.S
  have hX := hI.X
  refine ⟨isO_pt hS (by decide) rfl, k_cost hI fun v M1 mid => ?_⟩
  obtain ⟨hS1, hX1, hm⟩ := mid
  have e : ∀ i, mI M1 0 i = mI M 0 i := fun i => (hX1.1 i).trans (hX.1 i).symm
  refine ⟨inq (i := 1) hS1 n1 n2 (by omega), inq (i := 2) hS1 n1 n2 (by omega), inq (i := 3) hS1 n1 n2 (by omega), inq (i := 4) hS1 n1 n2 (by omega), inq (i := 5) hS1 n1 n2 (by omega), ?_⟩
  rw [e, e, e, e, e]
  rcases hc with ⟨e1, e2⟩ | ⟨e1, e2⟩
  · subst e1
    exact iF_t e2 ⟨isO_pt hS1 (by decide) rfl, hm _ fun M2 hI2 => iF_t (lg_eq _) (jl_end h hI2 (by omega))⟩
  · subst e1
    exact iF_f e2 ⟨isO_pt hS1 (by decide) rfl, hm _ fun M2 hI2 => iF_t (lg_eq _) (jl_end h hI2 (by omega))⟩
theorem jl_1013 {L B p : Nat} {X : Nat → Int32} {M : fM} {K : Nat → Nat → Nat → Int32 → fM → Prop} {φ : Int32 → fM → Prop} (h : NxL L X B p K) (hI : Inv L X B M) : j_L_law_1013 K φ 0 6 70 (nI p) M := by
  obtain ⟨n1, n2, n3, -⟩ := id h
  have hS := hI.S
  exact ⟨inq (i := 1) hS n1 n2 (by omega), inq (i := 2) hS n1 n2 (by omega), inq (i := 3) hS n1 n2 (by omega), inq (i := 4) hS n1 n2 (by omega), inq (i := 5) hS n1 n2 (by omega), iF_s (fun q => jl_1047 h hI (Or.inl ⟨rfl, q⟩)) (fun q => jl_1047 h hI (Or.inr ⟨rfl, q⟩))⟩
theorem jl_1093 {L B p : Nat} {X : Nat → Int32} {M : fM} {K : Nat → Nat → Nat → Int32 → fM → Prop} {φ : Int32 → fM → Prop} (h : NxL L X B p K) (hI : Inv L X B M) : j_L_law_1093 K φ 0 6 70 (nI p) M := by
  obtain ⟨n1, n2, n3, -⟩ := id h
  have hS := hI.S
  have hX := hI.X
  refine ⟨inq (i := 1) hS n1 n2 (by omega), inq (i := 2) hS n1 n2 (by omega), inq (i := 3) hS n1 n2 (by omega), isO_pt hS (by decide) rfl, k_from hI fun v M1 mid => ?_⟩
  obtain ⟨hS1, hX1, hm⟩ := mid
  have e : ∀ i, mI M1 0 i = mI M 0 i := fun i => (hX1.1 i).trans (hX.1 i).symm
  refine ⟨inq (i := 1) hS1 n1 n2 (by omega), inq (i := 2) hS1 n1 n2 (by omega), inq (i := 3) hS1 n1 n2 (by omega), isO_pt hS1 (by decide) rfl, ?_⟩
  rw [e, e, e]
  exact hm _ fun M2 hI2 => iF_t rfl (jl_end h hI2 (by omega))
theorem jl_1136 {L B p : Nat} {X : Nat → Int32} {M : fM} {K : Nat → Nat → Nat → Int32 → fM → Prop} {φ : Int32 → fM → Prop} (h : NxL L X B p K) (hI : Inv L X B M) : j_L_law_1136 K φ 0 6 70 (nI p) M := by
  obtain ⟨n1, n2, n3, -⟩ := id h
  have hS := hI.S
  have hX := hI.X
  refine ⟨inq (i := 1) hS n1 n2 (by omega), inq (i := 2) hS n1 n2 (by omega), inq (i := 3) hS n1 n2 (by omega), isO_pt hS (by decide) rfl, k_worth hI fun v M1 mid => ?_⟩
  obtain ⟨hS1, hX1, hm⟩ := mid
  have e : ∀ i, mI M1 0 i = mI M 0 i := fun i => (hX1.1 i).trans (hX.1 i).symm
  refine ⟨inq (i := 1) hS1 n1 n2 (by omega), inq (i := 2) hS1 n1 n2 (by omega), inq (i := 3) hS1 n1 n2 (by omega), isO_pt hS1 (by decide) rfl, ?_⟩
  rw [e, e, e]
  exact hm _ fun M2 hI2 => iF_t rfl (jl_end h hI2 (by omega))
theorem jl_1179 {L B p : Nat} {X : Nat → Int32} {M : fM} {K : Nat → Nat → Nat → Int32 → fM → Prop} {φ : Int32 → fM → Prop} (h : NxL L X B p K) (hI : Inv L X B M) : j_L_law_1179 K φ 0 6 70 (nI p) M := by
  obtain ⟨n1, n2, n3, -⟩ := id h
  have hS := hI.S
  have hX := hI.X
  refine ⟨inq (i := 1) hS n1 n2 (by omega), inq (i := 2) hS n1 n2 (by omega), isO_pt hS (by decide) rfl, k_goes hI fun v M1 mid => ?_⟩
  obtain ⟨hS1, hX1, hm⟩ := mid
  have e : ∀ i, mI M1 0 i = mI M 0 i := fun i => (hX1.1 i).trans (hX.1 i).symm
  refine ⟨inq (i := 1) hS1 n1 n2 (by omega), inq (i := 2) hS1 n1 n2 (by omega), isO_pt hS1 (by decide) rfl, ?_⟩
  rw [e, e]
  exact hm _ fun M2 hI2 => iF_t rfl (jl_end h hI2 (by omega))
theorem jl_1212 {L B p : Nat} {X : Nat → Int32} {M : fM} {K : Nat → Nat → Nat → Int32 → fM → Prop} {φ : Int32 → fM → Prop} (h : NxL L X B p K) (hI : Inv L X B M) : j_L_law_1212 K φ 0 6 70 (nI p) M := by
  obtain ⟨n1, n2, n3, -⟩ := id h
  have hS := hI.S
  have hX := hI.X
  refine ⟨inq (i := 1) hS n1 n2 (by omega), inq (i := 2) hS n1 n2 (by omega), inq (i := 3) hS n1 n2 (by omega), inq (i := 4) hS n1 n2 (by omega), isO_pt hS (by decide) rfl, k_lamp hI fun v M1 mid => ?_⟩
  obtain ⟨hS1, hX1, hm⟩ := mid
  have e : ∀ i, mI M1 0 i = mI M 0 i := fun i => (hX1.1 i).trans (hX.1 i).symm
  refine ⟨inq (i := 1) hS1 n1 n2 (by omega), inq (i := 2) hS1 n1 n2 (by omega), inq (i := 3) hS1 n1 n2 (by omega), inq (i := 4) hS1 n1 n2 (by omega), isO_pt hS1 (by decide) rfl, ?_⟩
  rw [e, e, e, e]
  exact hm _ fun M2 hI2 => iF_t rfl (jl_end h hI2 (by omega))
theorem jl_1294 {L B p : Nat} {X : Nat → Int32} {M : fM} {K : Nat → Nat → Nat → Int32 → fM → Prop} {φ : Int32 → fM → Prop} {c : Int32} (h : NxL L X B p K) (hI : Inv L X B M) (hc : (c = 0 ∧ mI M 0 (ix (nI p + (4 : Int32))) = 0) ∨ (c = 1 ∧ ¬ mI M 0 (ix (nI p + (4 : Int32))) = 0)) : j_L_law_1294 K φ 0 6 70 (nI p) c (mI M 0 (ix (nI p + (3 : Int32)))) (mI M 0 (ix (nI p + (2 : Int32)))) (mI M 0 (ix (nI p + (1 : Int32)))) 6 M := by
  obtain ⟨n1, n2, n3, -⟩ := id h
  have hS := hI.S
  have hX := hI.X
  refine ⟨isO_pt hS (by decide) rfl, k_which hI fun v M1 mid => ?_⟩
  obtain ⟨hS1, hX1, hm⟩ := mid
  have e : ∀ i, mI M1 0 i = mI M 0 i := fun i => (hX1.1 i).trans (hX.1 i).symm
  refine ⟨inq (i := 1) hS1 n1 n2 (by omega), inq (i := 2) hS1 n1 n2 (by omega), inq (i := 3) hS1 n1 n2 (by omega), inq (i := 4) hS1 n1 n2 (by omega), ?_⟩
  rw [e, e, e, e]
  rcases hc with ⟨e1, e2⟩ | ⟨e1, e2⟩
  · subst e1
    exact iF_t e2 ⟨isO_pt hS1 (by decide) rfl, hm _ fun M2 hI2 => iF_t (lg_eq _) (jl_end h hI2 (by omega))⟩
  · subst e1
    exact iF_f e2 ⟨isO_pt hS1 (by decide) rfl, hm _ fun M2 hI2 => iF_t (lg_eq _) (jl_end h hI2 (by omega))⟩
theorem jl_1265 {L B p : Nat} {X : Nat → Int32} {M : fM} {K : Nat → Nat → Nat → Int32 → fM → Prop} {φ : Int32 → fM → Prop} (h : NxL L X B p K) (hI : Inv L X B M) : j_L_law_1265 K φ 0 6 70 (nI p) M := by
  obtain ⟨n1, n2, n3, -⟩ := id h
  have hS := hI.S
  exact ⟨inq (i := 1) hS n1 n2 (by omega), inq (i := 2) hS n1 n2 (by omega), inq (i := 3) hS n1 n2 (by omega), inq (i := 4) hS n1 n2 (by omega), iF_s (fun q => jl_1294 h hI (Or.inl ⟨rfl, q⟩)) (fun q => jl_1294 h hI (Or.inr ⟨rfl, q⟩))⟩
theorem jl_1364 {L B p : Nat} {X : Nat → Int32} {M : fM} {K : Nat → Nat → Nat → Int32 → fM → Prop} {φ : Int32 → fM → Prop} {c : Int32} (h : NxL L X B p K) (hI : Inv L X B M) (hc : (c = 0 ∧ mI M 0 (ix (nI p + (4 : Int32))) = 0) ∨ (c = 1 ∧ ¬ mI M 0 (ix (nI p + (4 : Int32))) = 0)) : j_L_law_1364 K φ 0 6 70 (nI p) c (mI M 0 (ix (nI p + (3 : Int32)))) (mI M 0 (ix (nI p + (2 : Int32)))) (mI M 0 (ix (nI p + (1 : Int32)))) 6 M := by
  obtain ⟨n1, n2, n3, -⟩ := id h
  have hS := hI.S
  have hX := hI.X
  refine ⟨isO_pt hS (by decide) rfl, k_whether hI fun v M1 mid => ?_⟩
  obtain ⟨hS1, hX1, hm⟩ := mid
  have e : ∀ i, mI M1 0 i = mI M 0 i := fun i => (hX1.1 i).trans (hX.1 i).symm
  refine ⟨inq (i := 1) hS1 n1 n2 (by omega), inq (i := 2) hS1 n1 n2 (by omega), inq (i := 3) hS1 n1 n2 (by omega), inq (i := 4) hS1 n1 n2 (by omega), ?_⟩
  rw [e, e, e, e]
  rcases hc with ⟨e1, e2⟩ | ⟨e1, e2⟩
  · subst e1
    exact iF_t e2 ⟨isO_pt hS1 (by decide) rfl, hm _ fun M2 hI2 => iF_t (lg_eq _) (jl_end h hI2 (by omega))⟩
  · subst e1
    exact iF_f e2 ⟨isO_pt hS1 (by decide) rfl, hm _ fun M2 hI2 => iF_t (lg_eq _) (jl_end h hI2 (by omega))⟩
theorem jl_1335 {L B p : Nat} {X : Nat → Int32} {M : fM} {K : Nat → Nat → Nat → Int32 → fM → Prop} {φ : Int32 → fM → Prop} (h : NxL L X B p K) (hI : Inv L X B M) : j_L_law_1335 K φ 0 6 70 (nI p) M := by
  obtain ⟨n1, n2, n3, -⟩ := id h
  have hS := hI.S
  exact ⟨inq (i := 1) hS n1 n2 (by omega), inq (i := 2) hS n1 n2 (by omega), inq (i := 3) hS n1 n2 (by omega), inq (i := 4) hS n1 n2 (by omega), iF_s (fun q => jl_1364 h hI (Or.inl ⟨rfl, q⟩)) (fun q => jl_1364 h hI (Or.inr ⟨rfl, q⟩))⟩
theorem jl_1434 {L B p : Nat} {X : Nat → Int32} {M : fM} {K : Nat → Nat → Nat → Int32 → fM → Prop} {φ : Int32 → fM → Prop} {c : Int32} (h : NxL L X B p K) (hI : Inv L X B M) (hc : (c = 0 ∧ mI M 0 (ix (nI p + (4 : Int32))) = 0) ∨ (c = 1 ∧ ¬ mI M 0 (ix (nI p + (4 : Int32))) = 0)) : j_L_law_1434 K φ 0 6 70 (nI p) c (mI M 0 (ix (nI p + (3 : Int32)))) (mI M 0 (ix (nI p + (2 : Int32)))) (mI M 0 (ix (nI p + (1 : Int32)))) 6 M := by
  obtain ⟨n1, n2, n3, -⟩ := id h
  have hS := hI.S
  have hX := hI.X
  refine ⟨isO_pt hS (by decide) rfl, k_sure hI fun v M1 mid => ?_⟩
  obtain ⟨hS1, hX1, hm⟩ := mid
  have e : ∀ i, mI M1 0 i = mI M 0 i := fun i => (hX1.1 i).trans (hX.1 i).symm
  refine ⟨inq (i := 1) hS1 n1 n2 (by omega), inq (i := 2) hS1 n1 n2 (by omega), inq (i := 3) hS1 n1 n2 (by omega), inq (i := 4) hS1 n1 n2 (by omega), ?_⟩
  rw [e, e, e, e]
  rcases hc with ⟨e1, e2⟩ | ⟨e1, e2⟩
  · subst e1
    exact iF_t e2 ⟨isO_pt hS1 (by decide) rfl, hm _ fun M2 hI2 => iF_t (lg_eq _) (jl_end h hI2 (by omega))⟩
  · subst e1
    exact iF_f e2 ⟨isO_pt hS1 (by decide) rfl, hm _ fun M2 hI2 => iF_t (lg_eq _) (jl_end h hI2 (by omega))⟩
theorem jl_1405 {L B p : Nat} {X : Nat → Int32} {M : fM} {K : Nat → Nat → Nat → Int32 → fM → Prop} {φ : Int32 → fM → Prop} (h : NxL L X B p K) (hI : Inv L X B M) : j_L_law_1405 K φ 0 6 70 (nI p) M := by
  obtain ⟨n1, n2, n3, -⟩ := id h
  have hS := hI.S
  exact ⟨inq (i := 1) hS n1 n2 (by omega), inq (i := 2) hS n1 n2 (by omega), inq (i := 3) hS n1 n2 (by omega), inq (i := 4) hS n1 n2 (by omega), iF_s (fun q => jl_1434 h hI (Or.inl ⟨rfl, q⟩)) (fun q => jl_1434 h hI (Or.inr ⟨rfl, q⟩))⟩
theorem jl_1499 {L B p : Nat} {X : Nat → Int32} {M : fM} {K : Nat → Nat → Nat → Int32 → fM → Prop} {φ : Int32 → fM → Prop} {c : Int32} (h : NxL L X B p K) (hI : Inv L X B M) (hc : (c = 0 ∧ mI M 0 (ix (nI p + (3 : Int32))) = 0) ∨ (c = 1 ∧ ¬ mI M 0 (ix (nI p + (3 : Int32))) = 0)) : j_L_law_1499 K φ 0 6 70 (nI p) c (mI M 0 (ix (nI p + (2 : Int32)))) (mI M 0 (ix (nI p + (1 : Int32)))) 6 M := by
  obtain ⟨n1, n2, n3, -⟩ := id h
  have hS := hI.S
  have hX := hI.X
  refine ⟨isO_pt hS (by decide) rfl, k_average hI fun v M1 mid => ?_⟩
  obtain ⟨hS1, hX1, hm⟩ := mid
  have e : ∀ i, mI M1 0 i = mI M 0 i := fun i => (hX1.1 i).trans (hX.1 i).symm
  refine ⟨inq (i := 1) hS1 n1 n2 (by omega), inq (i := 2) hS1 n1 n2 (by omega), inq (i := 3) hS1 n1 n2 (by omega), ?_⟩
  rw [e, e, e]
  rcases hc with ⟨e1, e2⟩ | ⟨e1, e2⟩
  · subst e1
    exact iF_t e2 ⟨isO_pt hS1 (by decide) rfl, hm _ fun M2 hI2 => iF_t rfl (jl_end h hI2 (by omega))⟩
  · subst e1
    exact iF_f e2 ⟨isO_pt hS1 (by decide) rfl, hm _ fun M2 hI2 => iF_t rfl (jl_end h hI2 (by omega))⟩
theorem jl_1475 {L B p : Nat} {X : Nat → Int32} {M : fM} {K : Nat → Nat → Nat → Int32 → fM → Prop} {φ : Int32 → fM → Prop} (h : NxL L X B p K) (hI : Inv L X B M) : j_L_law_1475 K φ 0 6 70 (nI p) M := by
  obtain ⟨n1, n2, n3, -⟩ := id h
  have hS := hI.S
  exact ⟨inq (i := 1) hS n1 n2 (by omega), inq (i := 2) hS n1 n2 (by omega), inq (i := 3) hS n1 n2 (by omega), iF_s (fun q => jl_1499 h hI (Or.inl ⟨rfl, q⟩)) (fun q => jl_1499 h hI (Or.inr ⟨rfl, q⟩))⟩
theorem jl_1534 {L B p : Nat} {X : Nat → Int32} {M : fM} {K : Nat → Nat → Nat → Int32 → fM → Prop} {φ : Int32 → fM → Prop} (h : NxL L X B p K) (hI : Inv L X B M) : j_L_law_1534 K φ 0 6 70 (nI p) M := by
  obtain ⟨n1, n2, n3, -⟩ := id h
  have hS := hI.S
  have hX := hI.X
  refine ⟨inq (i := 1) hS n1 n2 (by omega), inq (i := 2) hS n1 n2 (by omega), isO_pt hS (by decide) rfl, k_tally hI fun v M1 mid => ?_⟩
  obtain ⟨hS1, hX1, hm⟩ := mid
  have e : ∀ i, mI M1 0 i = mI M 0 i := fun i => (hX1.1 i).trans (hX.1 i).symm
  refine ⟨inq (i := 1) hS1 n1 n2 (by omega), inq (i := 2) hS1 n1 n2 (by omega), isO_pt hS1 (by decide) rfl, ?_⟩
  rw [e, e]
  exact hm _ fun M2 hI2 => iF_t rfl (jl_end h hI2 (by omega))
theorem jl_1567 {L B p : Nat} {X : Nat → Int32} {M : fM} {K : Nat → Nat → Nat → Int32 → fM → Prop} {φ : Int32 → fM → Prop} (h : NxL L X B p K) (hI : Inv L X B M) : j_L_law_1567 K φ 0 6 70 (nI p) M := by
  obtain ⟨n1, n2, n3, -⟩ := id h
  have hS := hI.S
  have hX := hI.X
  refine ⟨inq (i := 1) hS n1 n2 (by omega), inq (i := 2) hS n1 n2 (by omega), isO_pt hS (by decide) rfl, k_legs hI fun v M1 mid => ?_⟩
  obtain ⟨hS1, hX1, hm⟩ := mid
  have e : ∀ i, mI M1 0 i = mI M 0 i := fun i => (hX1.1 i).trans (hX.1 i).symm
  refine ⟨inq (i := 1) hS1 n1 n2 (by omega), inq (i := 2) hS1 n1 n2 (by omega), isO_pt hS1 (by decide) rfl, ?_⟩
  rw [e, e]
  exact hm _ fun M2 hI2 => iF_t rfl (jl_end h hI2 (by omega))
theorem jl_1600 {L B p : Nat} {X : Nat → Int32} {M : fM} {K : Nat → Nat → Nat → Int32 → fM → Prop} {φ : Int32 → fM → Prop} (h : NxL L X B p K) (hI : Inv L X B M) : j_L_law_1600 K φ 0 6 70 (nI p) M := by
  obtain ⟨n1, n2, n3, -⟩ := id h
  have hS := hI.S
  have hX := hI.X
  refine ⟨inq (i := 1) hS n1 n2 (by omega), inq (i := 2) hS n1 n2 (by omega), inq (i := 3) hS n1 n2 (by omega), isO_pt hS (by decide) rfl, k_trippers hI fun v M1 mid => ?_⟩
  obtain ⟨hS1, hX1, hm⟩ := mid
  have e : ∀ i, mI M1 0 i = mI M 0 i := fun i => (hX1.1 i).trans (hX.1 i).symm
  refine ⟨inq (i := 1) hS1 n1 n2 (by omega), inq (i := 2) hS1 n1 n2 (by omega), inq (i := 3) hS1 n1 n2 (by omega), isO_pt hS1 (by decide) rfl, ?_⟩
  rw [e, e, e]
  exact hm _ fun M2 hI2 => iF_t rfl (jl_end h hI2 (by omega))
theorem jl_1672 {L B p : Nat} {X : Nat → Int32} {M : fM} {K : Nat → Nat → Nat → Int32 → fM → Prop} {φ : Int32 → fM → Prop} {c : Int32} (h : NxL L X B p K) (hI : Inv L X B M) (hc : (c = 0 ∧ mI M 0 (ix (nI p + (4 : Int32))) = 0) ∨ (c = 1 ∧ ¬ mI M 0 (ix (nI p + (4 : Int32))) = 0)) : j_L_law_1672 K φ 0 6 70 (nI p) c (mI M 0 (ix (nI p + (3 : Int32)))) (mI M 0 (ix (nI p + (2 : Int32)))) (mI M 0 (ix (nI p + (1 : Int32)))) 6 M := by
  obtain ⟨n1, n2, n3, -⟩ := id h
  have hS := hI.S
  have hX := hI.X
  refine ⟨isO_pt hS (by decide) rfl, k_seen hI fun v M1 mid => ?_⟩
  obtain ⟨hS1, hX1, hm⟩ := mid
  have e : ∀ i, mI M1 0 i = mI M 0 i := fun i => (hX1.1 i).trans (hX.1 i).symm
  refine ⟨inq (i := 1) hS1 n1 n2 (by omega), inq (i := 2) hS1 n1 n2 (by omega), inq (i := 3) hS1 n1 n2 (by omega), inq (i := 4) hS1 n1 n2 (by omega), ?_⟩
  rw [e, e, e, e]
  rcases hc with ⟨e1, e2⟩ | ⟨e1, e2⟩
  · subst e1
    exact iF_t e2 ⟨isO_pt hS1 (by decide) rfl, hm _ fun M2 hI2 => iF_t rfl (jl_end h hI2 (by omega))⟩
  · subst e1
    exact iF_f e2 ⟨isO_pt hS1 (by decide) rfl, hm _ fun M2 hI2 => iF_t rfl (jl_end h hI2 (by omega))⟩
theorem jl_1643 {L B p : Nat} {X : Nat → Int32} {M : fM} {K : Nat → Nat → Nat → Int32 → fM → Prop} {φ : Int32 → fM → Prop} (h : NxL L X B p K) (hI : Inv L X B M) : j_L_law_1643 K φ 0 6 70 (nI p) M := by
  obtain ⟨n1, n2, n3, -⟩ := id h
  have hS := hI.S
  exact ⟨inq (i := 1) hS n1 n2 (by omega), inq (i := 2) hS n1 n2 (by omega), inq (i := 3) hS n1 n2 (by omega), inq (i := 4) hS n1 n2 (by omega), iF_s (fun q => jl_1672 h hI (Or.inl ⟨rfl, q⟩)) (fun q => jl_1672 h hI (Or.inr ⟨rfl, q⟩))⟩
theorem jl_1712 {L B p : Nat} {X : Nat → Int32} {M : fM} {K : Nat → Nat → Nat → Int32 → fM → Prop} {φ : Int32 → fM → Prop} (h : NxL L X B p K) (hI : Inv L X B M) : j_L_law_1712 K φ 0 6 70 (nI p) M := by
  obtain ⟨n1, n2, n3, -⟩ := id h
  have hS := hI.S
  have hX := hI.X
  refine ⟨isO_pt hS (by decide) rfl, k_laws hI fun v M1 mid => ?_⟩
  obtain ⟨hS1, hX1, hm⟩ := mid
  refine ⟨isO_pt hS1 (by decide) rfl, ?_⟩
  exact hm _ fun M2 hI2 => iF_t rfl (jl_end h hI2 (by omega))
theorem jl_1749 {L B p : Nat} {X : Nat → Int32} {M : fM} {K : Nat → Nat → Nat → Int32 → fM → Prop} {φ : Int32 → fM → Prop} {c : Int32} (h : NxL L X B p K) (hI : Inv L X B M) (hc : (c = 0 ∧ mI M 0 (ix (nI p + (3 : Int32))) = 0) ∨ (c = 1 ∧ ¬ mI M 0 (ix (nI p + (3 : Int32))) = 0)) : j_L_law_1749 K φ 0 6 70 (nI p) c (mI M 0 (ix (nI p + (2 : Int32)))) (mI M 0 (ix (nI p + (1 : Int32)))) 6 M := by
  obtain ⟨n1, n2, n3, -⟩ := id h
  have hS := hI.S
  have hX := hI.X
  refine ⟨isO_pt hS (by decide) rfl, k_alike hI fun v M1 mid => ?_⟩
  obtain ⟨hS1, hX1, hm⟩ := mid
  have e : ∀ i, mI M1 0 i = mI M 0 i := fun i => (hX1.1 i).trans (hX.1 i).symm
  refine ⟨inq (i := 1) hS1 n1 n2 (by omega), inq (i := 2) hS1 n1 n2 (by omega), inq (i := 3) hS1 n1 n2 (by omega), ?_⟩
  rw [e, e, e]
  rcases hc with ⟨e1, e2⟩ | ⟨e1, e2⟩
  · subst e1
    exact iF_t e2 ⟨isO_pt hS1 (by decide) rfl, hm _ fun M2 hI2 => iF_t rfl (jl_end h hI2 (by omega))⟩
  · subst e1
    exact iF_f e2 ⟨isO_pt hS1 (by decide) rfl, hm _ fun M2 hI2 => iF_t rfl (jl_end h hI2 (by omega))⟩
theorem jl_1725 {L B p : Nat} {X : Nat → Int32} {M : fM} {K : Nat → Nat → Nat → Int32 → fM → Prop} {φ : Int32 → fM → Prop} (h : NxL L X B p K) (hI : Inv L X B M) : j_L_law_1725 K φ 0 6 70 (nI p) M := by
  obtain ⟨n1, n2, n3, -⟩ := id h
  have hS := hI.S
  exact ⟨inq (i := 1) hS n1 n2 (by omega), inq (i := 2) hS n1 n2 (by omega), inq (i := 3) hS n1 n2 (by omega), iF_s (fun q => jl_1749 h hI (Or.inl ⟨rfl, q⟩)) (fun q => jl_1749 h hI (Or.inr ⟨rfl, q⟩))⟩
theorem jl_1784 {L B p : Nat} {X : Nat → Int32} {M : fM} {K : Nat → Nat → Nat → Int32 → fM → Prop} {φ : Int32 → fM → Prop} (h : NxL L X B p K) (hI : Inv L X B M) : j_L_law_1784 K φ 0 6 70 (nI p) M := by
  obtain ⟨n1, n2, n3, -⟩ := id h
  have hS := hI.S
  have hX := hI.X
  refine ⟨isO_pt hS (by decide) rfl, k_image hI fun v M1 mid => ?_⟩
  obtain ⟨hS1, hX1, hm⟩ := mid
  refine ⟨isO_pt hS1 (by decide) rfl, ?_⟩
  exact hm _ fun M2 hI2 => iF_t rfl (jl_end h hI2 (by omega))
theorem jl_1797 {L B p : Nat} {X : Nat → Int32} {M : fM} {K : Nat → Nat → Nat → Int32 → fM → Prop} {φ : Int32 → fM → Prop} (h : NxL L X B p K) (hI : Inv L X B M) : j_L_law_1797 K φ 0 6 70 (nI p) M := by
  obtain ⟨n1, n2, n3, -⟩ := id h
  have hS := hI.S
  have hX := hI.X
  refine ⟨isO_pt hS (by decide) rfl, k_back hI fun v M1 mid => ?_⟩
  obtain ⟨hS1, hX1, hm⟩ := mid
  refine ⟨isO_pt hS1 (by decide) rfl, ?_⟩
  exact hm _ fun M2 hI2 => iF_t rfl (jl_end h hI2 (by omega))
theorem jl_1810 {L B p : Nat} {X : Nat → Int32} {M : fM} {K : Nat → Nat → Nat → Int32 → fM → Prop} {φ : Int32 → fM → Prop} (h : NxL L X B p K) (hI : Inv L X B M) : j_L_law_1810 K φ 0 6 70 (nI p) M := by
  obtain ⟨n1, n2, n3, -⟩ := id h
  have hS := hI.S
  have hX := hI.X
  refine ⟨inq (i := 1) hS n1 n2 (by omega), isO_pt hS (by decide) rfl, k_about hI fun v M1 mid => ?_⟩
  obtain ⟨hS1, hX1, hm⟩ := mid
  have e : ∀ i, mI M1 0 i = mI M 0 i := fun i => (hX1.1 i).trans (hX.1 i).symm
  refine ⟨inq (i := 1) hS1 n1 n2 (by omega), isO_pt hS1 (by decide) rfl, ?_⟩
  rw [e]
  exact hm _ fun M2 hI2 => iF_t rfl (jl_end h hI2 (by omega))
theorem lp_law {L B p : Nat} {X : Nat → Int32} {M : fM} {K : Nat → Nat → Nat → Int32 → fM → Prop} {φ : Int32 → fM → Prop} (h : NxL L X B p K) (hI : Inv L X B M) : b_L_law_18 K φ 0 6 70 (nI p) M := by
  obtain ⟨n1, n2, n3, -⟩ := id h
  have hS := hI.S
  refine lenA_of hS.sh0 (iF_f (fun c => ?_) ⟨inA_of hS.sh0 (vp_nI (by omega) (by omega)), nm_of ?_⟩)
  · rw [show nI L - (7 : Int32) = nI (L - 7) from nI_sub (b := 7) (by omega)] at c
    exact absurd ((nIlt (by omega) (by omega)).mp c) (by omega)
  exact iF_s (fun _ => jl_216 h hI) (fun _ => iF_s (fun _ => jl_249 h hI) (fun _ => iF_s (fun _ => jl_292 h hI) (fun _ => iF_s (fun _ => jl_351 h hI) (fun _ => iF_s (fun _ => jl_384 h hI) (fun _ => iF_s (fun _ => jl_427 h hI) (fun _ => iF_s (fun _ => jl_450 h hI) (fun _ => iF_s (fun _ => jl_513 h hI) (fun _ => iF_s (fun _ => jl_536 h hI) (fun _ => iF_s (fun _ => jl_549 h hI) (fun _ => iF_s (fun _ => jl_572 h hI) (fun _ => iF_s (fun _ => jl_595 h hI) (fun _ => iF_s (fun _ => jl_638 h hI) (fun _ => iF_s (fun _ => jl_651 h hI) (fun _ => iF_s (fun _ => jl_664 h hI) (fun _ => iF_s (fun _ => jl_677 h hI) (fun _ => iF_s (fun _ => jl_700 h hI) (fun _ => iF_s (fun _ => jl_723 h hI) (fun _ => iF_s (fun _ => jl_756 h hI) (fun _ => iF_s (fun _ => jl_769 h hI) (fun _ => iF_s (fun _ => jl_792 h hI) (fun _ => iF_s (fun _ => jl_825 h hI) (fun _ => iF_s (fun _ => jl_888 h hI) (fun _ => iF_s (fun _ => jl_921 h hI) (fun _ => iF_s (fun _ => jl_1013 h hI) (fun _ => iF_s (fun _ => jl_1093 h hI) (fun _ => iF_s (fun _ => jl_1136 h hI) (fun _ => iF_s (fun _ => jl_1179 h hI) (fun _ => iF_s (fun _ => jl_1212 h hI) (fun _ => iF_s (fun _ => jl_1265 h hI) (fun _ => iF_s (fun _ => jl_1335 h hI) (fun _ => iF_s (fun _ => jl_1405 h hI) (fun _ => iF_s (fun _ => jl_1475 h hI) (fun _ => iF_s (fun _ => jl_1534 h hI) (fun _ => iF_s (fun _ => jl_1567 h hI) (fun _ => iF_s (fun _ => jl_1600 h hI) (fun _ => iF_s (fun _ => jl_1643 h hI) (fun _ => iF_s (fun _ => jl_1712 h hI) (fun _ => iF_s (fun _ => jl_1725 h hI) (fun _ => iF_s (fun _ => jl_1784 h hI) (fun _ => iF_s (fun _ => jl_1797 h hI) (fun _ => iF_s (fun _ => jl_1810 h hI) (fun _ => jl_end h hI (by omega)))))))))))))))))))))))))))))))))))))))))))
theorem lp_run {L : Nat} {X : Nat → Int32} {φ : Int32 → fM → Prop} (hL : L ≤ 3584) (hφ : ∀ M, φ 1 M) : ∀ (m t : Nat) (M : fM), t + m = 512 → Inv L X (105 * t) M → l_L_law_18 φ (m + 1) 0 6 70 (nI (7 * t)) M := by
  intro m
  induction m with
  | zero =>
    intro t M ht hI
    refine lenA_of hI.S.sh0 (iF_t (lp_fin hL (by omega) (by omega)) (hφ M))
  | succ m ih =>
    intro t M ht hI
    show b_L_law_18 (l_L_law_18 φ (m + 1)) φ 0 6 70 (nI (7 * t)) M
    generalize hK : l_L_law_18 φ (m + 1) = K at ih ⊢
    by_cases e : 7 * t + 7 ≤ L
    · refine lp_law ⟨e, hL, by omega, fun M2 hI2 => ?_⟩ hI
      have := ih (t + 1) M2 (by omega) (by rw [show 105 * (t + 1) = 105 * t + 105 by omega]; exact hI2)
      rw [show 7 * t + 7 = 7 * (t + 1) by omega]
      exact this
    · refine lenA_of hI.S.sh0 (iF_t (lp_fin hL (by omega) (by omega)) (hφ M))
