/-! ===== numbers and reads behind writes, for the pure part ===== -/
theorem mI_wI (M : fM) (r k : Nat) (v : Int32) (r' k' : Nat) : mI (wI M r k v) r' k' = if r' = r ∧ k' = k then v else mI M r' k' := rfl
theorem mI_wJ (M : fM) (r k : Nat) (v : Int64) (r' k' : Nat) : mI (wJ M r k v) r' k' = mI M r' k' := rfl
theorem mI_wP (M : fM) (r k : Nat) (v : Option Nat) (r' k' : Nat) : mI (wP M r k v) r' k' = mI M r' k' := rfl
theorem mJ_wJ (M : fM) (r k : Nat) (v : Int64) (r' k' : Nat) : mJ (wJ M r k v) r' k' = if r' = r ∧ k' = k then v else mJ M r' k' := rfl
theorem mJ_wI (M : fM) (r k : Nat) (v : Int32) (r' k' : Nat) : mJ (wI M r k v) r' k' = mJ M r' k' := rfl
theorem mJ_wP (M : fM) (r k : Nat) (v : Option Nat) (r' k' : Nat) : mJ (wP M r k v) r' k' = mJ M r' k' := rfl
theorem mP_wI (M : fM) (r k : Nat) (v : Int32) (r' k' : Nat) : mP (wI M r k v) r' k' = mP M r' k' := rfl
theorem mP_wJ (M : fM) (r k : Nat) (v : Int64) (r' k' : Nat) : mP (wJ M r k v) r' k' = mP M r' k' := rfl
theorem mP_wP (M : fM) (r k : Nat) (v : Option Nat) (r' k' : Nat) : mP (wP M r k v) r' k' = if r' = r ∧ k' = k then v else mP M r' k' := rfl
theorem mS_wI (M : fM) (r k : Nat) (v : Int32) (r' : Nat) : mS (wI M r k v) r' = mS M r' := rfl
theorem mS_wJ (M : fM) (r k : Nat) (v : Int64) (r' : Nat) : mS (wJ M r k v) r' = mS M r' := rfl
theorem mS_wP (M : fM) (r k : Nat) (v : Option Nat) (r' : Nat) : mS (wP M r k v) r' = mS M r' := rfl
theorem lit32 (n : Nat) : (OfNat.ofNat n : Int32) = nI (OfNat.ofNat n) := rfl
theorem nI_muL (a b : Nat) : nI a * nI b = nI (a * b) := pk_mul a b
theorem ix_nI {n : Nat} (h : n < 2147483648) : ix (nI n) = n := nI_clamp h
theorem vp_nI {n N : Nat} (h : n < N) (hN : N < 2147483648) : vp_in (nI n) N := vp_in_nI h hN
theorem toInt_nI {n : Nat} (h : n < 2147483648) : (nI n).toInt = n := nI_toInt h
theorem lt_toInt (a b : Int32) : a < b ↔ a.toInt < b.toInt := Int32.lt_iff_toInt_lt
theorem le_toInt (a b : Int32) : a ≤ b ↔ a.toInt ≤ b.toInt := Int32.le_iff_toInt_le
theorem eq_toInt (a b : Int32) : a = b ↔ a.toInt = b.toInt := Int32.toInt_inj.symm
/-- a number between 0 and a bound is nI of one -/
theorem nI_ex {x : Int32} (h0 : 0 ≤ x.toInt) : x = nI x.toInt.toNat := by
  apply Int32.toInt_inj.mp
  have h1 := x.toInt_lt
  rw [toInt_nI (by omega)]
  omega
theorem nI_inj {a b : Nat} (ha : a < 2147483648) (hb : b < 2147483648) (h : nI a = nI b) : a = b := by
  have h2 := congrArg Int32.toInt h
  rw [toInt_nI ha, toInt_nI hb] at h2
  omega
theorem tst_g1 (x : Int32) (h0 : 0 ≤ x) (h1 : x < 9) : 0 ≤ 100 + x := by grind
theorem tst_g2 (x : Int32) (k : Nat) (h0 : k < 9) (hx : x = nI k) : ix ((100 : Int32) + x) = 100 + k := by
  subst hx
  rw [lit32, nI_add, ix_nI (by omega)]
theorem tst_g3 (k : Nat) (h0 : k < 4) : ix ((10 : Int32) + ((18 : Int32) * nI k)) = 10 + 18 * k := by
  simp only [lit32, nI_add, nI_muL]
  rw [ix_nI (by omega)]
