/-! ===== TEXT: the TOKENS of a tape, the numbers ===== -/
def whF (c : Nat → Bool) (tp : Nat → Nat) (tl : Nat) : Nat → Nat → Nat
  | 0, p => p
  | n + 1, p => if p < tl ∧ c (tp p) = true then whF c tp tl n (p + 1) else p
def ru (c : Nat → Bool) (tp : Nat → Nat) (tl p : Nat) : Nat := whF c tp tl (tl - p) p
theorem ru_s {c : Nat → Bool} {tp : Nat → Nat} {tl p : Nat} (h : p < tl) (hc : c (tp p) = true) : ru c tp tl p = ru c tp tl (p + 1) := by
  unfold ru
  rw [show tl - p = tl - (p + 1) + 1 by omega]
  exact if_pos ⟨h, hc⟩
theorem ru_e {c : Nat → Bool} {tp : Nat → Nat} {tl p : Nat} (h : ¬ (p < tl ∧ c (tp p) = true)) : ru c tp tl p = p := by
  unfold ru
  cases tl - p with
  | zero => rfl
  | succ n => exact if_neg h
theorem whF_b {c : Nat → Bool} {tp : Nat → Nat} {tl : Nat} : ∀ n p, p ≤ whF c tp tl n p ∧ (p ≤ tl → whF c tp tl n p ≤ tl) ∧ ∀ q, p ≤ q → q < whF c tp tl n p → c (tp q) = true
  | 0, p => ⟨Nat.le_refl _, fun h => h, fun q a b => absurd a (Nat.not_le.mpr b)⟩
  | n + 1, p => by
    show p ≤ (if p < tl ∧ c (tp p) = true then whF c tp tl n (p + 1) else p) ∧ (p ≤ tl → (if p < tl ∧ c (tp p) = true then whF c tp tl n (p + 1) else p) ≤ tl) ∧ ∀ q, p ≤ q → q < (if p < tl ∧ c (tp p) = true then whF c tp tl n (p + 1) else p) → c (tp q) = true
    by_cases e : p < tl ∧ c (tp p) = true
    · rw [if_pos e]
      obtain ⟨q1, q2, q3⟩ := whF_b (c := c) (tp := tp) (tl := tl) n (p + 1)
      refine ⟨by omega, fun _ => q2 (by omega), fun q a b => ?_⟩
      by_cases z : q = p
      · rw [z]
        exact e.2
      · exact q3 q (by omega) b
    · rw [if_neg e]
      exact ⟨Nat.le_refl _, fun h => h, fun q a b => absurd a (Nat.not_le.mpr b)⟩
theorem ru_ge {c : Nat → Bool} {tp : Nat → Nat} {tl p : Nat} : p ≤ ru c tp tl p := (whF_b _ _).1
theorem ru_le {c : Nat → Bool} {tp : Nat → Nat} {tl p : Nat} (h : p ≤ tl) : ru c tp tl p ≤ tl := (whF_b _ _).2.1 h
theorem ru_c {c : Nat → Bool} {tp : Nat → Nat} {tl p q : Nat} (h1 : p ≤ q) (h2 : q < ru c tp tl p) : c (tp q) = true := (whF_b _ _).2.2 q h1 h2
def isBl (b : Nat) : Bool := decide (b = 32 ∨ b = 10)
def isDg (b : Nat) : Bool := decide (48 ≤ b ∧ b ≤ 57)
def isLt (b : Nat) : Bool := decide ((97 ≤ b ∧ b ≤ 122) ∨ (65 ≤ b ∧ b ≤ 90))
theorem isDg_t {b : Nat} : isDg b = true ↔ 48 ≤ b ∧ b ≤ 57 := decide_eq_true_iff
theorem isLt_t {b : Nat} : isLt b = true ↔ (97 ≤ b ∧ b ≤ 122) ∨ (65 ≤ b ∧ b ≤ 90) := decide_eq_true_iff
theorem isBl_t {b : Nat} : isBl b = true ↔ b = 32 ∨ b = 10 := decide_eq_true_iff
/-- a number, as the one has it, and as the model has it -/
def ncF (tp : Nat → Nat) (tl : Nat) : Nat → Nat → Nat → Nat
  | 0, _, v => v
  | n + 1, p, v => if p < tl ∧ isDg (tp p) = true then ncF tp tl n (p + 1) (if 10 * v + (tp p - 48) ≤ 10000 then 10 * v + (tp p - 48) else 10000) else v
def nmF (tp : Nat → Nat) (tl : Nat) : Nat → Nat → Nat → Nat
  | 0, _, v => v
  | n + 1, p, v => if p < tl ∧ isDg (tp p) = true then nmF tp tl n (p + 1) (if v < 100000 then 10 * v + (tp p - 48) else v) else v
def ncV (tp : Nat → Nat) (tl p v : Nat) : Nat := ncF tp tl (tl - p) p v
def nmV (tp : Nat → Nat) (tl p v : Nat) : Nat := nmF tp tl (tl - p) p v
theorem ncV_s {tp : Nat → Nat} {tl p v : Nat} (h : p < tl) (hc : isDg (tp p) = true) : ncV tp tl p v = ncV tp tl (p + 1) (if 10 * v + (tp p - 48) ≤ 10000 then 10 * v + (tp p - 48) else 10000) := by
  unfold ncV
  rw [show tl - p = tl - (p + 1) + 1 by omega]
  exact if_pos ⟨h, hc⟩
theorem ncV_e {tp : Nat → Nat} {tl p v : Nat} (h : ¬ (p < tl ∧ isDg (tp p) = true)) : ncV tp tl p v = v := by
  unfold ncV
  cases tl - p with
  | zero => rfl
  | succ n => exact if_neg h
theorem nmV_s {tp : Nat → Nat} {tl p v : Nat} (h : p < tl) (hc : isDg (tp p) = true) : nmV tp tl p v = nmV tp tl (p + 1) (if v < 100000 then 10 * v + (tp p - 48) else v) := by
  unfold nmV
  rw [show tl - p = tl - (p + 1) + 1 by omega]
  exact if_pos ⟨h, hc⟩
theorem nmV_e {tp : Nat → Nat} {tl p v : Nat} (h : ¬ (p < tl ∧ isDg (tp p) = true)) : nmV tp tl p v = v := by
  unfold nmV
  cases tl - p with
  | zero => rfl
  | succ n => exact if_neg h
def nuR (v n : Nat) : Prop := (v ≤ 9999 ∧ n = v) ∨ (v = 10000 ∧ 10000 ≤ n ∧ n ≤ 1000000)
theorem nuR_l {tp : Nat → Nat} {tl : Nat} : ∀ f p v n, nuR v n → nuR (ncF tp tl f p v) (nmF tp tl f p n)
  | 0, _, _, _, h => h
  | f + 1, p, v, n, h => by
    show nuR (if p < tl ∧ isDg (tp p) = true then ncF tp tl f (p + 1) (if 10 * v + (tp p - 48) ≤ 10000 then 10 * v + (tp p - 48) else 10000) else v) (if p < tl ∧ isDg (tp p) = true then nmF tp tl f (p + 1) (if n < 100000 then 10 * n + (tp p - 48) else n) else n)
    by_cases e : p < tl ∧ isDg (tp p) = true
    · rw [if_pos e, if_pos e]
      refine nuR_l f (p + 1) _ _ ?_
      have d := isDg_t.mp e.2
      unfold nuR at h ⊢
      (repeat' split) <;> omega
    · rw [if_neg e, if_neg e]
      exact h
theorem nuR_V {tp : Nat → Nat} {tl p : Nat} : nuR (ncV tp tl p 0) (nmV tp tl p 0) := nuR_l _ _ _ _ (Or.inl ⟨by omega, rfl⟩)
theorem ncV_b {tp : Nat → Nat} {tl p : Nat} : ncV tp tl p 0 ≤ 10000 := by
  have h := nuR_V (tp := tp) (tl := tl) (p := p)
  unfold nuR at h
  omega
/-- words -/
def WDL : List (List Nat) := [[110, 111, 110, 101], [116, 119, 105, 99, 101], [116, 114, 105, 112, 115], [106, 97, 114], [102, 97, 108, 108], [115, 116, 97, 105, 114], [104, 105, 103, 104], [109, 97, 114, 107], [114, 97, 105, 108], [111, 110, 101], [98, 101, 103, 105, 110], [108, 111, 97, 100], [100, 114, 105, 110, 107], [115, 116, 101, 112], [116, 111, 101], [115, 116, 111, 112], [110, 105, 103, 104, 116], [108, 111, 110, 103], [97, 116], [111, 102], [108, 97, 110, 100, 105, 110, 103], [105, 102], [101, 110, 100], [110, 111, 116], [111, 114], [97, 110, 100], [119, 104, 111], [104, 111, 117, 115, 101], [115, 116, 101, 112, 115], [100, 114, 117, 110, 107], [108, 111, 97, 100, 101, 100], [110, 105, 103, 104, 116, 115], [110, 116, 104], [104, 101, 105, 103, 104, 116], [108, 97, 115, 116]]
def WD (k : Nat) : List Nat := WDL.getD k []
def wpF : Nat → Nat
  | 0 => 0
  | k + 1 => wpF k + 1 + (WD k).length
theorem wor_sp : ∀ k, k < 36 → worL.getD (wpF k) 0 = 32 := by decide +kernel
theorem wor_35 : wpF 35 = 177 := by decide +kernel
theorem wor_le : ∀ k, k < 35 → wpF k + 1 + (WD k).length ≤ 177 := by decide +kernel
theorem wor_ch : ∀ k, k < 35 → ∀ j, j < (WD k).length → worL.getD (wpF k + 1 + j) 0 = Int32.ofNat ((WD k).getD j 0) := by decide +kernel
theorem WD_ch : ∀ k, k < 35 → ∀ j, j < (WD k).length → 97 ≤ (WD k).getD j 0 ∧ (WD k).getD j 0 ≤ 122 := by decide +kernel
theorem WD_ln : ∀ k, k < 35 → 2 ≤ (WD k).length ∧ (WD k).length ≤ 7 := by decide +kernel
theorem WD_in : ∀ k, k < 35 → ∀ k', k' < 35 → WD k = WD k' → k = k' := by decide +kernel
def wdQ (tp : Nat → Nat) (s e k : Nat) : Bool := decide (e - s = (WD k).length ∧ ∀ j, j < (WD k).length → tp (s + j) = (WD k).getD j 0)
theorem wdQ_t {tp : Nat → Nat} {s e k : Nat} : wdQ tp s e k = true ↔ e - s = (WD k).length ∧ ∀ j, j < (WD k).length → tp (s + j) = (WD k).getD j 0 := decide_eq_true_iff
theorem gdE {l : List Nat} {j : Nat} (h : j < l.length) : l.getD j 0 = l[j] := by
  rw [List.getD_eq_getElem?_getD, List.getElem?_eq_getElem h]
  rfl
theorem wdQ_u {tp : Nat → Nat} {s e k k' : Nat} (hk : k < 35) (hk' : k' < 35) (h : wdQ tp s e k = true) (h' : wdQ tp s e k' = true) : k = k' := by
  obtain ⟨a1, a2⟩ := wdQ_t.mp h
  obtain ⟨b1, b2⟩ := wdQ_t.mp h'
  refine WD_in k hk k' hk' (List.ext_getElem (by omega) fun j q1 q2 => ?_)
  have e1 := a2 j q1
  have e2 := b2 j q2
  rw [gdE q1] at e1
  rw [gdE q2] at e2
  exact e1.symm.trans e2
def wzF (tp : Nat → Nat) (s e : Nat) : Nat → Nat
  | 0 => 62
  | m + 1 => if wdQ tp s e (34 - m) = true then 34 - m else wzF tp s e m
theorem wzF_k {tp : Nat → Nat} {s e k : Nat} (hk : k < 35) (h : wdQ tp s e k = true) : ∀ m, 35 - m ≤ k → m ≤ 35 → wzF tp s e m = k
  | 0, a, _ => absurd a (by omega)
  | m + 1, a, b => by
    show (if wdQ tp s e (34 - m) = true then 34 - m else wzF tp s e m) = k
    by_cases z : wdQ tp s e (34 - m) = true
    · rw [if_pos z]
      exact wdQ_u (by omega) hk z h
    · rw [if_neg z]
      refine wzF_k hk h m ?_ (by omega)
      rcases Nat.lt_or_ge (34 - m) k with y | y
      · omega
      · have : 34 - m = k := by omega
        rw [this] at z
        exact absurd h z
theorem wzF_r {tp : Nat → Nat} {s e : Nat} : ∀ m, m ≤ 35 → wzF tp s e m = 62 ∨ (wzF tp s e m < 35 ∧ wdQ tp s e (wzF tp s e m) = true)
  | 0, _ => Or.inl rfl
  | m + 1, b => by
    show (if wdQ tp s e (34 - m) = true then 34 - m else wzF tp s e m) = 62 ∨ ((if wdQ tp s e (34 - m) = true then 34 - m else wzF tp s e m) < 35 ∧ wdQ tp s e (if wdQ tp s e (34 - m) = true then 34 - m else wzF tp s e m) = true)
    by_cases z : wdQ tp s e (34 - m) = true
    · rw [if_pos z]
      exact Or.inr ⟨by omega, z⟩
    · rw [if_neg z]
      exact wzF_r m (by omega)
def wid (tp : Nat → Nat) (s e : Nat) : Nat := wzF tp s e 35
theorem wid_i {tp : Nat → Nat} {s e k : Nat} (hk : k < 35) : wid tp s e = k ↔ wdQ tp s e k = true := by
  constructor
  · intro h
    rcases wzF_r (tp := tp) (s := s) (e := e) 35 (Nat.le_refl _) with q | ⟨-, q⟩
    · unfold wid at h
      omega
    · unfold wid at h
      rw [h] at q
      exact q
  · intro h
    exact wzF_k hk h 35 (by omega) (Nat.le_refl _)
theorem wid_b (tp : Nat → Nat) (s e : Nat) : wid tp s e = 62 ∨ wid tp s e < 35 := by
  rcases wzF_r (tp := tp) (s := s) (e := e) 35 (Nat.le_refl _) with q | ⟨q, -⟩
  · exact Or.inl q
  · exact Or.inr q
/-- signs -/
def sgK (b : Nat) (q : Bool) : Nat := if b = 35 then 49 else if b = 40 then 50 else if b = 41 then 51 else if b = 42 then 42 else if b = 43 then 40 else if b = 45 then 41 else if b = 47 then 43 else if b = 58 then 54 else if b = 59 then 52 else if b = 60 then (if q = true then 45 else 44) else if b = 61 then 48 else if b = 62 then (if q = true then 47 else 46) else if b = 63 then 53 else 62
theorem sgK_d : ∀ b, b < 64 → ∀ q, (40 ≤ sgK b q ∧ sgK b q ≤ 54) ∨ sgK b q = 62 := by decide +kernel
theorem sgK_b (b : Nat) (q : Bool) : (40 ≤ sgK b q ∧ sgK b q ≤ 54) ∨ sgK b q = 62 := by
  rcases Nat.lt_or_ge b 64 with h | h
  · exact sgK_d b h q
  · refine Or.inr ?_
    unfold sgK
    rw [if_neg (by omega), if_neg (by omega), if_neg (by omega), if_neg (by omega), if_neg (by omega), if_neg (by omega), if_neg (by omega), if_neg (by omega), if_neg (by omega), if_neg (by omega), if_neg (by omega), if_neg (by omega), if_neg (by omega)]
def eqQ (tp : Nat → Nat) (tl p : Nat) : Bool := decide (p + 1 < tl ∧ tp (p + 1) = 61)
def tkK (tp : Nat → Nat) (tl p : Nat) : Nat := if p < tl then (if isDg (tp p) = true then 60 else if isLt (tp p) = true then wid tp p (ru isLt tp tl p) else sgK (tp p) (eqQ tp tl p)) else 61
def tkV (tp : Nat → Nat) (tl p : Nat) : Nat := ncV tp tl p 0
def tkE (tp : Nat → Nat) (tl p : Nat) : Nat := if p < tl then (if isDg (tp p) = true then ru isDg tp tl p else if isLt (tp p) = true then ru isLt tp tl p else if (tp p = 60 ∨ tp p = 62) ∧ eqQ tp tl p = true then p + 2 else p + 1) else p
theorem tkK_e {tp : Nat → Nat} {tl p : Nat} : tkK tp tl p = 61 ↔ tl ≤ p := by
  unfold tkK
  by_cases h : p < tl
  · rw [if_pos h]
    refine ⟨fun c => ?_, fun c => absurd h (by omega)⟩
    exfalso
    split at c
    · omega
    · split at c
      · rcases wid_b tp p (ru isLt tp tl p) with q | q <;> omega
      · have := sgK_b (tp p) (eqQ tp tl p)
        omega
  · rw [if_neg h]
    exact ⟨fun _ => by omega, fun _ => rfl⟩
theorem tkK_b (tp : Nat → Nat) (tl p : Nat) : tkK tp tl p ≤ 62 := by
  unfold tkK
  have h1 := wid_b tp p (ru isLt tp tl p)
  have h2 := sgK_b (tp p) (eqQ tp tl p)
  (repeat' split) <;> omega
theorem tkE_g {tp : Nat → Nat} {tl p : Nat} (h : p < tl) : p + 1 ≤ tkE tp tl p ∧ tkE tp tl p ≤ tl := by
  unfold tkE
  rw [if_pos h]
  have a1 := ru_le (c := isDg) (tp := tp) (tl := tl) (p := p + 1) (by omega)
  have a2 := ru_le (c := isLt) (tp := tp) (tl := tl) (p := p + 1) (by omega)
  have b1 := ru_ge (c := isDg) (tp := tp) (tl := tl) (p := p + 1)
  have b2 := ru_ge (c := isLt) (tp := tp) (tl := tl) (p := p + 1)
  split
  · rename_i e
    rw [ru_s h e]
    exact ⟨b1, a1⟩
  · split
    · rename_i e
      rw [ru_s h e]
      exact ⟨b2, a2⟩
    · split
      · rename_i e
        have q : p + 1 < tl ∧ tp (p + 1) = 61 := of_decide_eq_true e.2
        omega
      · omega
def poS (tp : Nat → Nat) (tl : Nat) : Nat → Nat
  | 0 => ru isBl tp tl 0
  | i + 1 => ru isBl tp tl (tkE tp tl (poS tp tl i))
def TKk (tp : Nat → Nat) (tl i : Nat) : Nat := tkK tp tl (poS tp tl i)
def TKv (tp : Nat → Nat) (tl i : Nat) : Nat := tkV tp tl (poS tp tl i)
/-- all TOKENS ahead are there -/
def lvT (tp : Nat → Nat) (tl i : Nat) : Prop := ∀ k, k < i → TKk tp tl k ≠ 61
theorem lvT_s {tp : Nat → Nat} {tl i : Nat} (h : lvT tp tl i) (h2 : TKk tp tl i ≠ 61) : lvT tp tl (i + 1) := fun k hk => by
  by_cases e : k = i
  · rw [e]
    exact h2
  · exact h k (by omega)
theorem poS_g {tp : Nat → Nat} {tl : Nat} : ∀ i, lvT tp tl i → i ≤ poS tp tl i
  | 0, _ => Nat.zero_le _
  | i + 1, h => by
    have h2 : ¬ tl ≤ poS tp tl i := fun c => h i (Nat.lt_succ_self i) (tkK_e.mpr c)
    have q := poS_g i (fun k hk => h k (by omega))
    have e := (tkE_g (tp := tp) (tl := tl) (p := poS tp tl i) (by omega)).1
    have g := ru_ge (c := isBl) (tp := tp) (tl := tl) (p := tkE tp tl (poS tp tl i))
    show i + 1 ≤ ru isBl tp tl (tkE tp tl (poS tp tl i))
    omega
theorem poS_l {tp : Nat → Nat} {tl : Nat} : ∀ i, lvT tp tl i → poS tp tl i ≤ tl
  | 0, _ => ru_le (Nat.zero_le _)
  | i + 1, h => by
    have h2 : ¬ tl ≤ poS tp tl i := fun c => h i (Nat.lt_succ_self i) (tkK_e.mpr c)
    exact ru_le (tkE_g (tp := tp) (tl := tl) (p := poS tp tl i) (by omega)).2
theorem lvT_l {tp : Nat → Nat} {tl i : Nat} (h : lvT tp tl i) : i ≤ tl := Nat.le_trans (poS_g i h) (poS_l i h)
theorem lvT_t {tp : Nat → Nat} {tl i : Nat} (h : lvT tp tl i) (h2 : TKk tp tl i ≠ 61) : i < tl := lvT_l (lvT_s h h2)
