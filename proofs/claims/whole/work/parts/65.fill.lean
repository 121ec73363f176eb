theorem nIle {a b : Nat} (ha : a < 2147483648) (hb : b < 2147483648) : nI a ≤ nI b ↔ a ≤ b := by
  rw [le_toInt, toInt_nI ha, toInt_nI hb]; omega
theorem nIlt {a b : Nat} (ha : a < 2147483648) (hb : b < 2147483648) : nI a < nI b ↔ a < b := by
  rw [lt_toInt, toInt_nI ha, toInt_nI hb]; omega
theorem c_fill_l {r n : Nat} {v : Int32} {φ : fM → Prop} (h6 : 6 ≤ r) (hn : n < 2147483648) : ∀ (m k : Nat) (M : fM), k + m = n → mS M r = some (12, n) → (∀ M', M'.2 = M.2 → (∀ r' j, mI M' r' j = if r' = r ∧ k ≤ j ∧ j < n then v else mI M r' j) → φ M') → l_J7_fill_53178_5 φ (m + 1) r v (nI k) (nI n) M := by
  intro m
  induction m with
  | zero =>
    intro k M hk hs h
    refine iF_t ((nIle (by omega) (by omega)).mpr (by omega)) (h M rfl fun r' j => ?_)
    rw [if_neg (by omega)]
  | succ m ih =>
    intro k M hk hs h
    refine iF_f (fun c => absurd ((nIle (by omega) (by omega)).mp c) (by omega)) ⟨h6, inA_of hs (vp_nI (by omega) (by omega)), st_of (nm_of ?_)⟩
    rw [lit32, nI_add, ix_nI (by omega)]
    refine ih (k + 1) _ (by omega) hs fun M' h1 h2 => h M' h1 fun r' j => ?_
    rw [h2, mI_wI]
    by_cases e : r' = r ∧ j = k
    · rw [if_neg (by omega), if_pos e, if_pos (by omega)]
    · rw [if_neg e]
      by_cases e2 : r' = r ∧ k + 1 ≤ j ∧ j < n
      · rw [if_pos e2, if_pos (by omega)]
      · rw [if_neg e2, if_neg (by omega)]
theorem c_fill {r n : Nat} {v : Int32} {M : fM} {φ : fM → Prop} (h6 : 6 ≤ r) (hn : n < 2147483648) (hs : mS M r = some (12, n)) (h : ∀ M', M'.2 = M.2 → (∀ r' j, mI M' r' j = if r' = r ∧ j < n then v else mI M r' j) → φ M') : w_J7_fill_53178 r v M φ := by
  refine lenA_of hs (nm_of ⟨n + 1, ?_⟩)
  exact c_fill_l h6 hn n 0 M (by omega) hs fun M' h1 h2 => h M' h1 fun r' j => by rw [h2]; simp
