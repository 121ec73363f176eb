theorem ixr_lit {n : Nat} (h : n < 2147483648) : ix (OfNat.ofNat n) = OfNat.ofNat n := ix_nI h
theorem nI_la (a b : Nat) : (OfNat.ofNat a : Int32) + nI b = nI (OfNat.ofNat a + b) := nI_add _ _
theorem nI_al (a b : Nat) : nI a + (OfNat.ofNat b : Int32) = nI (a + OfNat.ofNat b) := nI_add _ _
theorem nI_lm (a b : Nat) : (OfNat.ofNat a : Int32) * nI b = nI (OfNat.ofNat a * b) := nI_muL _ _
theorem nI_ml (a b : Nat) : nI a * (OfNat.ofNat b : Int32) = nI (a * OfNat.ofNat b) := nI_muL _ _
theorem tst_wk1 {L : Nat} {M : fM} (hS : Str L M) {φ : Int32 → fM → Prop} (h : φ (1 : Int32) (wI M 71 (ix (7 : Int32)) ((mI M 71 (ix (7 : Int32))) ||| ((1 : Int32) <<< ((2 : Int32) &&& 31))))) : w_X11_told 70 2 M φ := by
  unfold w_X11_told
  repeat (first | refine nm_of ?_ | refine st_of ?_ | refine And.intro (isO_pt (by assumption) (by decide) rfl) ?_ | refine And.intro (show 6 ≤ _ by decide) ?_ | refine dR_of (Str.pf (by assumption) rfl) ?_ | refine And.intro (inA_pt (by assumption) rfl (by (first | exact vp_lit (by decide) | (simp only [lit32, nI_add, nI_muL]; exact vp_nI (by omega) (by decide)) | assumption))) ?_ | refine lenA_pt (by assumption) rfl ?_)
  exact h
theorem tst_wk2 {L : Nat} {M : fM} (hS : Str L M) {k : Nat} (hk : k < 4) {φ : fM → Prop} (h : ∀ M', φ M') : w_X11_build 70 (nI k) 3 M φ := by
  unfold w_X11_build
  repeat (first | refine nm_of ?_ | refine st_of ?_ | refine And.intro (isO_pt (by assumption) (by decide) rfl) ?_ | refine And.intro (show 6 ≤ _ by decide) ?_ | refine dR_of (Str.pf (by assumption) rfl) ?_ | refine And.intro (inA_pt (by assumption) rfl (by (first | exact vp_lit (by decide) | (simp only [lit32, nI_add, nI_muL]; exact vp_nI (by omega) (by decide)) | assumption))) ?_ | refine lenA_pt (by assumption) rfl ?_)
  simp (disch := omega) only [ixr_lit, ix_nI, nI_add, nI_muL, nI_la, nI_al, nI_lm, nI_ml]
  sorry
