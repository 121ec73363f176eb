/-! ===== what is in mind: weights over powers of ten ===== -/
def smN (f : Nat → Nat) : Nat → Nat
  | 0 => 0
  | m + 1 => smN f m + f m
theorem smN_s (f : Nat → Nat) (m : Nat) : smN f (m + 1) = smN f m + f m := rfl
theorem smN_c {f g : Nat → Nat} : ∀ m, (∀ k, k < m → f k = g k) → smN f m = smN g m
  | 0, _ => rfl
  | m + 1, h => by rw [smN_s, smN_s, smN_c m (fun k hk => h k (by omega)), h m (by omega)]
theorem smN_le {f g : Nat → Nat} : ∀ m, (∀ k, k < m → f k ≤ g k) → smN f m ≤ smN g m
  | 0, _ => Nat.le_refl _
  | m + 1, h => Nat.add_le_add (smN_le m (fun k hk => h k (by omega))) (h m (by omega))
theorem smN_m {f : Nat → Nat} (a : Nat) : ∀ m, smN (fun k => f k * a) m = smN f m * a
  | 0 => (Nat.zero_mul a).symm
  | m + 1 => by rw [smN_s, smN_s, smN_m a m, Nat.add_mul]
theorem smN_k (a : Nat) : ∀ m, smN (fun _ => a) m = m * a
  | 0 => (Nat.zero_mul a).symm
  | m + 1 => by rw [smN_s, smN_k a m, Nat.succ_mul]
theorem smN_0 {f : Nat → Nat} {m : Nat} (h : ∀ k, k < m → f k = 0) : smN f m = 0 := by
  rw [smN_c (g := fun _ => 0) m h, smN_k, Nat.mul_zero]
theorem smN_a {f g : Nat → Nat} : ∀ m, smN (fun k => f k + g k) m = smN f m + smN g m
  | 0 => rfl
  | m + 1 => by rw [smN_s, smN_s, smN_s, smN_a m]; omega
theorem smN_g {f : Nat → Nat} {k : Nat} : ∀ m, k < m → f k ≤ smN f m
  | 0, h => absurd h (by omega)
  | m + 1, h => by
    rw [smN_s]
    by_cases e : k = m
    · subst e
      omega
    · have := smN_g (f := f) m (show k < m by omega)
      omega
/-- one further: what stays, goes on, leaps -/
def shW (w : Nat → Nat) (no tw c : Nat) : Nat := w c * no + (if 1 ≤ c then w (c - 1) * (10 - no - tw) else 0) + (if 2 ≤ c then w (c - 2) * tw else 0)
def WW (no tw : Nat → Nat) (mk : Nat → Bool) (z o : Nat) : Nat → Nat → Nat
  | 0, c => if c = 0 then z else if c = 1 then o else 0
  | t + 1, c => if mk (t + 1) = true then (if c = t + 1 then smN (WW no tw mk z o t) 30 * 10 else 0) else shW (WW no tw mk z o t) (no (t + 1)) (tw (t + 1)) c
theorem WW_s (no tw : Nat → Nat) (mk : Nat → Bool) (z o t c : Nat) : WW no tw mk z o (t + 1) c = if mk (t + 1) = true then (if c = t + 1 then smN (WW no tw mk z o t) 30 * 10 else 0) else shW (WW no tw mk z o t) (no (t + 1)) (tw (t + 1)) c := rfl
theorem WW_0 {no tw : Nat → Nat} {mk : Nat → Bool} {z o : Nat} : ∀ (t c : Nat), 2 * t + 1 < c → WW no tw mk z o t c = 0
  | 0, c, h => by
    show (if c = 0 then z else if c = 1 then o else 0) = 0
    rw [if_neg (by omega), if_neg (by omega)]
  | t + 1, c, h => by
    rw [WW_s]
    split
    · rw [if_neg (by omega)]
    · unfold shW
      rw [WW_0 t c (by omega), if_pos (by omega), WW_0 t (c - 1) (by omega), if_pos (by omega), WW_0 t (c - 2) (by omega), Nat.zero_mul, Nat.zero_mul, Nat.zero_mul]
/-- what of it is there when the counts below m are done -/
def ptW (w : Nat → Nat) (b : Bool) (t no tw m k : Nat) : Nat := if b = true then (if k = t + 1 then smN w m * 10 else 0) else (if k < m then w k * no else 0) + (if 1 ≤ k ∧ k ≤ m then w (k - 1) * (10 - no - tw) else 0) + (if 2 ≤ k ∧ k ≤ m + 1 then w (k - 2) * tw else 0)
theorem ptW_0 {w : Nat → Nat} {b : Bool} {t no tw k : Nat} : ptW w b t no tw 0 k = 0 := by
  unfold ptW
  split
  · split
    · rfl
    · rfl
  · rw [if_neg (by omega), if_neg (by omega), if_neg (by omega)]
theorem ptW_f {w : Nat → Nat} {t no tw m k : Nat} : ptW w false t no tw (m + 1) k = ptW w false t no tw m k + (if k = m then w m * no else 0) + (if k = m + 1 then w m * (10 - no - tw) else 0) + (if k = m + 2 then w m * tw else 0) := by
  unfold ptW
  rw [if_neg (show ¬ (false = true) by decide), if_neg (show ¬ (false = true) by decide)]
  by_cases h1 : k = m
  · subst h1
    rw [if_pos (show k < k + 1 by omega), if_neg (show ¬ k < k by omega), if_pos (rfl : k = k), if_neg (show ¬ k = k + 1 by omega), if_neg (show ¬ k = k + 2 by omega)]
    by_cases q1 : 1 ≤ k
    · rw [if_pos (show 1 ≤ k ∧ k ≤ k + 1 by omega), if_pos (show 1 ≤ k ∧ k ≤ k by omega)]
      by_cases q2 : 2 ≤ k
      · rw [if_pos (show 2 ≤ k ∧ k ≤ k + 1 + 1 by omega), if_pos (show 2 ≤ k ∧ k ≤ k + 1 by omega)]
        omega
      · rw [if_neg (show ¬ (2 ≤ k ∧ k ≤ k + 1 + 1) by omega), if_neg (show ¬ (2 ≤ k ∧ k ≤ k + 1) by omega)]
        omega
    · rw [if_neg (show ¬ (1 ≤ k ∧ k ≤ k + 1) by omega), if_neg (show ¬ (1 ≤ k ∧ k ≤ k) by omega), if_neg (show ¬ (2 ≤ k ∧ k ≤ k + 1 + 1) by omega), if_neg (show ¬ (2 ≤ k ∧ k ≤ k + 1) by omega)]
      omega
  · rw [if_neg h1]
    by_cases h2 : k = m + 1
    · subst h2
      rw [if_neg (show ¬ m + 1 < m + 1 by omega), if_neg (show ¬ m + 1 < m by omega), if_pos (show 1 ≤ m + 1 ∧ m + 1 ≤ m + 1 by omega), if_neg (show ¬ (1 ≤ m + 1 ∧ m + 1 ≤ m) by omega), if_pos (rfl : m + 1 = m + 1), if_neg (show ¬ m + 1 = m + 2 by omega), Nat.add_sub_cancel]
      by_cases q2 : 2 ≤ m + 1
      · rw [if_pos (show 2 ≤ m + 1 ∧ m + 1 ≤ m + 1 + 1 by omega), if_pos (show 2 ≤ m + 1 ∧ m + 1 ≤ m + 1 by omega)]
        omega
      · rw [if_neg (show ¬ (2 ≤ m + 1 ∧ m + 1 ≤ m + 1 + 1) by omega), if_neg (show ¬ (2 ≤ m + 1 ∧ m + 1 ≤ m + 1) by omega)]
        first | done | omega
    · rw [if_neg h2]
      by_cases h3 : k = m + 2
      · subst h3
        rw [if_neg (show ¬ m + 2 < m + 1 by omega), if_neg (show ¬ m + 2 < m by omega), if_neg (show ¬ (1 ≤ m + 2 ∧ m + 2 ≤ m + 1) by omega), if_neg (show ¬ (1 ≤ m + 2 ∧ m + 2 ≤ m) by omega), if_pos (show 2 ≤ m + 2 ∧ m + 2 ≤ m + 1 + 1 by omega), if_neg (show ¬ (2 ≤ m + 2 ∧ m + 2 ≤ m + 1) by omega), if_pos (rfl : m + 2 = m + 2), Nat.add_sub_cancel]
        first | done | omega
      · rw [if_neg h3]
        by_cases q : k < m
        · rw [if_pos (show k < m + 1 by omega), if_pos q]
          by_cases q1 : 1 ≤ k
          · rw [if_pos (show 1 ≤ k ∧ k ≤ m + 1 by omega), if_pos (show 1 ≤ k ∧ k ≤ m by omega)]
            by_cases q2 : 2 ≤ k
            · rw [if_pos (show 2 ≤ k ∧ k ≤ m + 1 + 1 by omega), if_pos (show 2 ≤ k ∧ k ≤ m + 1 by omega), Nat.add_zero]
            · rw [if_neg (show ¬ (2 ≤ k ∧ k ≤ m + 1 + 1) by omega), if_neg (show ¬ (2 ≤ k ∧ k ≤ m + 1) by omega)]
          · rw [if_neg (show ¬ (1 ≤ k ∧ k ≤ m + 1) by omega), if_neg (show ¬ (1 ≤ k ∧ k ≤ m) by omega), if_neg (show ¬ (2 ≤ k ∧ k ≤ m + 1 + 1) by omega), if_neg (show ¬ (2 ≤ k ∧ k ≤ m + 1) by omega)]
        · rw [if_neg (show ¬ k < m + 1 by omega), if_neg q, if_neg (show ¬ (1 ≤ k ∧ k ≤ m + 1) by omega), if_neg (show ¬ (1 ≤ k ∧ k ≤ m) by omega), if_neg (show ¬ (2 ≤ k ∧ k ≤ m + 1 + 1) by omega), if_neg (show ¬ (2 ≤ k ∧ k ≤ m + 1) by omega)]
theorem ptW_t {w : Nat → Nat} {t no tw m k : Nat} : ptW w true t no tw (m + 1) k = ptW w true t no tw m k + (if k = t + 1 then w m * 10 else 0) := by
  unfold ptW
  rw [if_pos rfl, if_pos rfl]
  by_cases h : k = t + 1
  · rw [if_pos h, if_pos h, if_pos h, smN_s, Nat.add_mul]
  · rw [if_neg h, if_neg h, if_neg h]
theorem ptW_30 {no tw : Nat → Nat} {mk : Nat → Bool} {z o t k : Nat} (ht : t < 14) (hk : k < 32) : ptW (WW no tw mk z o t) (mk (t + 1)) t (no (t + 1)) (tw (t + 1)) 30 k = WW no tw mk z o (t + 1) k := by
  rw [WW_s]
  unfold ptW
  by_cases h : mk (t + 1) = true
  · rw [if_pos h, if_pos h]
  · rw [if_neg h, if_neg h]
    unfold shW
    by_cases q : k < 30
    · rw [if_pos q]
      by_cases q1 : 1 ≤ k
      · rw [if_pos (show 1 ≤ k ∧ k ≤ 30 by omega), if_pos q1]
        by_cases q2 : 2 ≤ k
        · rw [if_pos (show 2 ≤ k ∧ k ≤ 30 + 1 by omega), if_pos q2]
        · rw [if_neg (show ¬ (2 ≤ k ∧ k ≤ 30 + 1) by omega), if_neg q2]
      · rw [if_neg (show ¬ (1 ≤ k ∧ k ≤ 30) by omega), if_neg q1, if_neg (show ¬ (2 ≤ k ∧ k ≤ 30 + 1) by omega), if_neg (show ¬ 2 ≤ k by omega)]
    · rw [if_neg q, WW_0 t k (by omega), Nat.zero_mul, if_pos (show 1 ≤ k by omega), if_pos (show 2 ≤ k by omega), if_pos (show 2 ≤ k ∧ k ≤ 30 + 1 by omega), WW_0 t (k - 1) (by omega), Nat.zero_mul]
      split <;> rfl
theorem shW_m {w : Nat → Nat} {no tw : Nat} (h : no + tw ≤ 10) : ∀ m, smN (shW w no tw) (m + 2) + w (m + 1) * (10 - no) + w m * tw = smN w (m + 2) * 10
  | 0 => by
    show 0 + shW w no tw 0 + shW w no tw 1 + w 1 * (10 - no) + w 0 * tw = (0 + w 0 + w 1) * 10
    unfold shW
    rw [if_neg (by omega), if_neg (by omega), if_pos (by omega), if_neg (by omega), show 1 - 1 = 0 from rfl]
    have e : 10 = no + (10 - no - tw) + tw := by omega
    have e2 : 10 = no + (10 - no) := by omega
    have z0 : w 0 * 10 = w 0 * no + w 0 * (10 - no - tw) + w 0 * tw := by rw [← Nat.mul_add, ← Nat.mul_add, ← e]
    have z1 : w 1 * 10 = w 1 * no + w 1 * (10 - no) := by rw [← Nat.mul_add, ← e2]
    omega
  | m + 1 => by
    have ih := shW_m (w := w) h m
    rw [smN_s (shW w no tw) (m + 1 + 1), smN_s w (m + 1 + 1)]
    have e1 : shW w no tw (m + 2) = w (m + 2) * no + w (m + 1) * (10 - no - tw) + w m * tw := by
      unfold shW
      rw [if_pos (by omega), if_pos (by omega), show m + 2 - 1 = m + 1 by omega, Nat.add_sub_cancel]
    have e : 10 - no = (10 - no - tw) + tw := by omega
    have e2 : 10 = no + (10 - no) := by omega
    have z1 : w (m + 1) * (10 - no) = w (m + 1) * (10 - no - tw) + w (m + 1) * tw := by rw [← Nat.mul_add, ← e]
    have z2 : w (m + 2) * 10 = w (m + 2) * no + w (m + 2) * (10 - no) := by rw [← Nat.mul_add, ← e2]
    rw [show m + 1 + 1 = m + 2 by omega]
    omega
theorem WW_m {no tw : Nat → Nat} {mk : Nat → Bool} {z o : Nat} (h : ∀ t, no t + tw t ≤ 10) : ∀ t, t ≤ 14 → smN (WW no tw mk z o t) 30 = (z + o) * 10 ^ t
  | 0, _ => by
    have e : smN (WW no tw mk z o 0) 30 = smN (WW no tw mk z o 0) 2 := by
      have q : ∀ m, smN (WW no tw mk z o 0) (2 + m) = smN (WW no tw mk z o 0) 2 := by
        intro m
        induction m with
        | zero => rfl
        | succ m ih =>
          rw [show 2 + (m + 1) = 2 + m + 1 by omega, smN_s, ih, WW_0 0 (2 + m) (by omega)]
          rfl
      exact q 28
    rw [e, Nat.pow_zero, Nat.mul_one]
    show 0 + z + o = z + o
    omega
  | t + 1, ht => by
    have ih := WW_m (no := no) (tw := tw) (mk := mk) (z := z) (o := o) h t (by omega)
    have e : smN (WW no tw mk z o (t + 1)) 30 = smN (WW no tw mk z o t) 30 * 10 := by
      by_cases q : mk (t + 1) = true
      · have e1 : ∀ m, smN (WW no tw mk z o (t + 1)) m = if t + 1 < m then smN (WW no tw mk z o t) 30 * 10 else 0 := by
          intro m
          induction m with
          | zero => rfl
          | succ m ih2 =>
            rw [smN_s, ih2, WW_s, if_pos q]
            by_cases r : m = t + 1
            · rw [if_neg (by omega), if_pos r, if_pos (by omega)]
              omega
            · rw [if_neg r]
              by_cases r2 : t + 1 < m
              · rw [if_pos r2, if_pos (by omega), Nat.add_zero]
              · rw [if_neg r2, if_neg (by omega)]
        rw [e1, if_pos (by omega)]
      · have e1 : smN (WW no tw mk z o (t + 1)) 30 = smN (shW (WW no tw mk z o t) (no (t + 1)) (tw (t + 1))) 30 := smN_c 30 fun k _ => by rw [WW_s, if_neg q]
        have e2 := shW_m (w := WW no tw mk z o t) (h (t + 1)) 28
        rw [WW_0 t 29 (by omega), WW_0 t 28 (by omega), Nat.zero_mul, Nat.zero_mul] at e2
        rw [e1]
        exact e2
    rw [e, ih, Nat.pow_succ, Nat.mul_assoc]
theorem WW_b {no tw : Nat → Nat} {mk : Nat → Bool} {z o : Nat} (h : ∀ t, no t + tw t ≤ 10) {t : Nat} (ht : t ≤ 14) (c : Nat) : WW no tw mk z o t c ≤ (z + o) * 10 ^ t := by
  by_cases q : c < 30
  · rw [← WW_m h t ht]
    exact smN_g 30 q
  · rw [WW_0 t c (by omega)]
    exact Nat.zero_le _
theorem WW_c {no tw no2 tw2 : Nat → Nat} {mk mk2 : Nat → Bool} {z o : Nat} {n : Nat} (h1 : ∀ t, 1 ≤ t → t ≤ n → no t = no2 t) (h2 : ∀ t, 1 ≤ t → t ≤ n → tw t = tw2 t) (h3 : ∀ t, 1 ≤ t → t ≤ n → mk t = mk2 t) : ∀ t, t ≤ n → WW no tw mk z o t = WW no2 tw2 mk2 z o t
  | 0, _ => rfl
  | t + 1, ht => by
    funext c
    rw [WW_s, WW_s, WW_c h1 h2 h3 t (by omega), h1 (t + 1) (by omega) ht, h2 (t + 1) (by omega) ht, h3 (t + 1) (by omega) ht]
