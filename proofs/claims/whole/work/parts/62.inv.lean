/-! ===== the pure part: what the class' cells are of the model's row ===== -/
/-- a row of ints written over -/
def uI (M : fM) (F : Nat → Nat → Int32) : fM := (F, M.2)
def uR (M : fM) (r : Nat) (f : Nat → Int32) : fM := (fun r' k => if r' = r then f k else M.1 r' k, M.2)
theorem mI_uR (M : fM) (r : Nat) (f : Nat → Int32) (r' k : Nat) : mI (uR M r f) r' k = if r' = r then f k else mI M r' k := rfl
theorem mJ_uR (M : fM) (r : Nat) (f : Nat → Int32) (r' k : Nat) : mJ (uR M r f) r' k = mJ M r' k := rfl
theorem mP_uR (M : fM) (r : Nat) (f : Nat → Int32) (r' k : Nat) : mP (uR M r f) r' k = mP M r' k := rfl
theorem mS_uR (M : fM) (r : Nat) (f : Nat → Int32) (r' : Nat) : mS (uR M r f) r' = mS M r' := rfl
/-- the tables behind the class' static fields: nothing here writes them -/
/-- the houses of the State at b -/
structure RelH (M : fM) (b : Nat) (A : Nat → Int32) : Prop where
  n : ∀ h, h < 4 → mI M (b + 10 + 2 * h) 0 = A (10 + 18 * h)
  marks : ∀ h, h < 4 → mI M (b + 10 + 2 * h) 2 = A (11 + 18 * h)
  rail : ∀ h, h < 4 → mI M (b + 10 + 2 * h) 3 = A (12 + 18 * h)
  told : ∀ h, h < 4 → mI M (b + 10 + 2 * h) 4 = (A 7 >>> nI h) &&& 1
  high : ∀ h, h < 4 → ∀ j, j < 15 → mI M (b + 11 + 2 * h) j = A (13 + 18 * h + j)
structure RelC (M : fM) (b : Nat) (A : Nat → Int32) : Prop where
  none : ∀ p, p < 6 → mI M (b + 2) p = A (82 + 3 * p)
  twice : ∀ p, p < 6 → mI M (b + 3) p = A (83 + 3 * p)
  landing : ∀ p, p < 6 → mI M (b + 4) p = A (84 + 3 * p)
  people : mI M b 4 = A 0
  x : mI M b 5 = A 2
  night : mI M b 6 = A 1
  way : A 108 = 1 → ∀ k, k < 8 → mI M (b + 5) k = A (100 + k)
  off : A 108 = 0 → mI M (b + 5) 0 = -1
  book : ∀ k, k < 2048 → mI M (b + 6) k = A (517 + k)
  written : mI M b 9 = A 8
  acts : mI M b 11 = A 5
  texts : mI M b 14 = A 3
  ruling : mI M b 15 = A 4
  seen : mI M b 17 = A 6
  sights : ∀ k, k < 48 → mI M (b + 9) k = A (109 + k)
/-- the ring of ACTS: the k-th oldest of m -/
def slot (nx m k : Nat) : Nat := (nx + 30 - m + k) % 30
structure RelA (M : fM) (b : Nat) (A : Nat → Int32) (nx m : Nat) : Prop where
  next : mI M b 12 = nI nx
  nx30 : nx < 30
  m30 : m ≤ 30
  num : A 5 = nI m
  going : ∀ k, k < m → A (165 + 12 * k) = 1 ∨ A (165 + 12 * k) = 0
  way : ∀ k, k < m → A (165 + 12 * k) = 1 → ∀ j, j < 8 → mI M (b + 7) (11 * slot nx m k + j) = A (157 + 12 * k + j)
  off : ∀ k, k < m → A (165 + 12 * k) = 0 → mI M (b + 7) (11 * slot nx m k) = -1
  written : ∀ k, k < m → mI M (b + 7) (11 * slot nx m k + 10) = A (166 + 12 * k)
  night : ∀ k, k < m → mI M (b + 7) (11 * slot nx m k + 8) = A (167 + 12 * k)
  x : ∀ k, k < m → mI M (b + 7) (11 * slot nx m k + 9) = A (168 + 12 * k)
/-- the model's row is within its bounds -/
structure Ok (A : Nat → Int32) : Prop where
  people : ∃ n, n ≤ 6 ∧ A 0 = nI n
  night : ∃ n, n ≤ 999 ∧ A 1 = nI n
  x : ∃ n, n < 30071 ∧ A 2 = nI n
  texts : ∃ n, n ≤ 4 ∧ A 3 = nI n
  ruling : A 4 = -1 ∨ ∃ n m, A 4 = nI n ∧ A 3 = nI m ∧ n < m
  seen : ∃ n, n ≤ 12 ∧ A 6 = nI n
  going : A 108 = 1 ∨ A 108 = 0
  steps : ∀ h, h < 4 → ∃ n, 1 ≤ n ∧ n ≤ 14 ∧ A (10 + 18 * h) = nI n
  rail : ∀ h, h < 4 → ∃ n, n ≤ 14 ∧ A (12 + 18 * h) = nI n
  high : ∀ h, h < 4 → ∀ j, j < 15 → ∃ n, 1 ≤ n ∧ n ≤ 9 ∧ A (13 + 18 * h + j) = nI n
  floor : ∀ h, h < 4 → A (13 + 18 * h) = 5
