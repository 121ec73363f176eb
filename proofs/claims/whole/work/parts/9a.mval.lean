/-! ===== what laws say, of the model ===== -/
def TrM (M : fM) (ti : Nat) : Prop := ti = 0 ∨ ∃ i cd C S E D U cl, ti = i + 1 ∧ i < 4 ∧ TxC cd C S E D U cl (Tx M i)
def FN (M M2 : fM) : Prop := M2.2.2 = M.2.2 ∧ (∀ r, r ≠ 76 → r ≠ 78 → ∀ k, mI M2 r k = mI M r k) ∧ ∀ r, r ≠ 77 → ∀ k, mJ M2 r k = mJ M r k
theorem FN.rf (M : fM) : FN M M := ⟨rfl, fun _ _ _ _ => rfl, fun _ _ _ => rfl⟩
theorem FN.tr {M M1 M2 : fM} (h : FN M M1) (h2 : FN M1 M2) : FN M M2 := ⟨h2.1.trans h.1, fun r a b k => (h2.2.1 r a b k).trans (h.2.1 r a b k), fun r a k => (h2.2.2 r a k).trans (h.2.2 r a k)⟩
theorem FN.S {L : Nat} {M M2 : fM} (h : FN M M2) (hS : Str L M) : Str L M2 := by unfold Str; rw [h.1]; exact hS
theorem FN.M {M M2 : fM} {A : Nat → Nat} (h : FN M M2) (hM : Mdl M 71 A) : Mdl M2 71 A := hM.cg fun k => h.2.1 71 (by omega) (by omega) k
theorem FN.f {M M2 : fM} (h : FN M M2) : Frm scr M M2 := ⟨by unfold nop; rw [h.1], fun k => h.2.2 2 (by omega) k, fun r hr k _ => h.2.1 r (fun e => hr (by unfold scr; omega)) (fun e => hr (by unfold scr; omega)) k⟩
theorem FN.t {M M2 : fM} (h : FN M M2) (i : Nat) : Tx M2 i = Tx M i := funext fun k => h.2.1 73 (by omega) (by omega) _
theorem FN.x {M M2 : fM} (h : FN M M2) : mI M2 73 = mI M 73 := funext fun k => h.2.1 73 (by omega) (by omega) _
theorem TrM.fn {M M2 : fM} {ti : Nat} (f : FN M M2) (h : TrM M ti) : TrM M2 ti := by
  rcases h with h | ⟨i, cd, C, S, E, D, U, cl, h1, h2, hx⟩
  · exact Or.inl h
  · exact Or.inr ⟨i, cd, C, S, E, D, U, cl, h1, h2, by rw [f.t]; exact hx⟩
def F78 (M M2 : fM) : Prop := M2.2.2 = M.2.2 ∧ (∀ r, r ≠ 78 → ∀ k, mI M2 r k = mI M r k) ∧ ∀ r, r ≠ 77 → ∀ k, mJ M2 r k = mJ M r k
theorem F78.rf (M : fM) : F78 M M := ⟨rfl, fun _ _ _ => rfl, fun _ _ _ => rfl⟩
theorem F78.n {M M2 : fM} (h : F78 M M2) : FN M M2 := ⟨h.1, fun r _ b k => h.2.1 r b k, h.2.2⟩
theorem m_sumBy {L B w own top : Nat} {A : Nat → Nat} {nv : Nat → Nat} {M : fM} {a b c : Int32} {φ : Int32 → fM → Prop} (hS : Str L M) (hM : Mdl M 71 A) (hO : Okk B A) (hT : TrM M (A 4)) (ha : a = nI w) (hb : b = nI own) (hc : c = nI top) (hw : w < 5) (hw2 : w ≠ 2) (ho : own ≤ 99) (ht : top ≤ 99) (hv : ∀ v, v < lim w → mI M 76 v = nI (nv v) ∧ nv v ≤ 9999) (h : ∀ M2, F78 M M2 → φ (nI (sumV (lawR (mI M 73) (A 4) w nv) own top)) M2) : w_X11_sumBy 70 a b c M φ := by
  subst ha hb hc
  have r4 := hM.2
  have hno : lawR (mI M 73) (A 4) w nv = none → iF (nI own ≤ nI top) (φ (nI own) M) (φ (nI top) M) := by
    intro q
    rw [q] at h
    have h' := h M (F78.rf M)
    unfold sumV at h'
    refine iF_s (fun c => ?_) (fun c => ?_)
    · rw [if_neg (by have := (nIle (by omega) (by omega)).mp c; omega)] at h'
      exact h'
    · rw [if_pos (by
        rcases Nat.lt_or_ge top own with z | z
        · exact z
        · exact absurd ((nIle (by omega) (by omega)).mpr z) c)] at h'
      exact h'
  refine ⟨isO_pt hS (by decide) rfl, dR_of (Str.pg hS rfl) ⟨inA_pt hS rfl (vp_lit (by decide)), ?_⟩⟩
  rw [show ix (4 : Int32) = 4 from rfl, r4]
  rcases hT with hT | ⟨i, cd, C, S, E, D, U, cl, h1, h2, hx⟩
  · rw [hT]
    have hl : lawR (mI M 73) (A 4) w nv = none := by unfold lawR; rw [if_pos hT]
    rw [show nI 0 - (1 : Int32) = -1 by decide]
    exact m_clauseOf0 (iF_f (by decide) (hno hl))
  · have e4 : nI (A 4) - (1 : Int32) = nI i := by rw [h1, show (1 : Int32) = nI 1 from rfl, nI_sub (by omega), Nat.add_sub_cancel]
    have hl : lawR (mI M 73) (A 4) w nv = lvR (Tx M i) w nv := by
      unfold lawR
      rw [if_neg (by omega), h1, Nat.add_sub_cancel]
      rfl
    rw [e4]
    refine m_clauseOf hS rfl rfl h2 hx.2.1 hx.1 (fun q => ?_) (fun k q => ?_)
    · exact iF_f (by decide) (hno (by rw [hl]; unfold lvR; rw [q]; rfl))
    · have hk24 : k < 24 := by
        rcases hx.law hw with ⟨z, -⟩ | ⟨k', _, _, z, z2, -⟩
        · rw [q] at z; cases z
        · rw [q] at z; cases z; exact z2
      refine iF_t ((le_toInt _ _).mpr (by rw [toInt_nI (by omega)]; show (0 : Int) ≤ k; omega)) ⟨isO_pt hS (by decide) rfl, dR_of (Str.pg hS rfl) ⟨inA_pt hS rfl (vp_lit (by decide)), ?_⟩⟩
      rw [r4, e4]
      refine m_work (nc := 0) hS rfl rfl h2 hw hx q hv fun M2 vs ts e2 f2 g2 g _ g3 => ?_
      obtain ⟨z, rfl, rfl, gb, g4⟩ := g3 hw2
      have f : F78 M M2 := ⟨e2, f2, g2⟩
      have hS2 := f.n.S hS
      have h' := h M2 f
      rw [hl, g] at h'
      have h' : φ (nI (cut z top)) M2 := h'
      unfold cut at h'
      refine ⟨isO_pt hS2 (by decide) rfl, dR_of (Str.pg hS2 rfl) ⟨inA_pt hS2 rfl (vp_lit (by decide)), ?_⟩⟩
      rw [show ix (0 : Int32) = 0 from rfl, g4, show (0 : Int64) = iJ 0 from rfl]
      by_cases z0 : z < 0
      · rw [lg_lt (by omega) (by omega) z0]
        rw [if_pos z0] at h'
        exact iF_f (by decide) h'
      · rw [if_neg z0] at h'
        have hge : (0 : Int32) ≤ lg_cmp (iJ z) (iJ 0) := by
          rcases Int.lt_trichotomy z 0 with p | p | p
          · exact absurd p z0
          · subst p; rw [lg_eq]; decide
          · rw [lg_gt (by omega) (by omega) p]; decide
        refine iF_t hge (dR_of (Str.pg hS2 rfl) ⟨inA_pt hS2 rfl (vp_lit (by decide)), ?_⟩)
        rw [g4, cutI top (by omega), I2J (by omega) (by omega)]
        by_cases z1 : (top : Int) < z
        · rw [if_pos z1, cutI top (by omega)] at h'
          rw [lg_gt (by omega) (by omega) z1]
          exact iF_f (by decide) h'
        · rw [if_neg z1] at h'
          have hle : lg_cmp (iJ z) (iJ (top : Int)) ≤ 0 := by
            rcases Int.lt_trichotomy z (top : Int) with p | p | p
            · rw [lg_lt (by omega) (by omega) p]; decide
            · rw [p, lg_eq]; decide
            · exact absurd p z1
          refine iF_t hle (dR_of (Str.pg hS2 rfl) ⟨inA_pt hS2 rfl (vp_lit (by decide)), ?_⟩)
          rw [g4, J2I (by omega) (by omega)]
          rw [cutI z.toNat (by omega), Int.toNat_of_nonneg (by omega)] at h'
          exact h'
