/-! ===== the pure part: what the cells of the one are of the row of the other ===== -/
/-- a row of ints written over -/
def uI (M : fM) (F : Nat → Nat → Int32) : fM := (F, M.2)
def uR (M : fM) (r : Nat) (f : Nat → Int32) : fM := (fun r' k => if r' = r then f k else M.1 r' k, M.2)
theorem mI_uR (M : fM) (r : Nat) (f : Nat → Int32) (r' k : Nat) : mI (uR M r f) r' k = if r' = r then f k else mI M r' k := rfl
theorem mJ_uR (M : fM) (r : Nat) (f : Nat → Int32) (r' k : Nat) : mJ (uR M r f) r' k = mJ M r' k := rfl
theorem mP_uR (M : fM) (r : Nat) (f : Nat → Int32) (r' k : Nat) : mP (uR M r f) r' k = mP M r' k := rfl
theorem mS_uR (M : fM) (r : Nat) (f : Nat → Int32) (r' : Nat) : mS (uR M r f) r' = mS M r' := rfl

/-- the houses of the State at b -/
def RelH (M : fM) (b : Nat) (A : Nat → Int32) : Prop := (∀ h, h < 4 → mI M (b + 10 + 2 * h) 0 = A (10 + 18 * h)) ∧ (∀ h, h < 4 → mI M (b + 10 + 2 * h) 2 = A (11 + 18 * h)) ∧ (∀ h, h < 4 → mI M (b + 10 + 2 * h) 3 = A (12 + 18 * h)) ∧ (∀ h, h < 4 → mI M (b + 10 + 2 * h) 4 = (A 7 >>> nI h) &&& 1) ∧ (∀ h, h < 4 → ∀ j, j < 15 → mI M (b + 11 + 2 * h) j = A (13 + 18 * h + j))
theorem RelH.p_n {M : fM} {b : Nat} {A : Nat → Int32} (h : RelH M b A) : ∀ h, h < 4 → mI M (b + 10 + 2 * h) 0 = A (10 + 18 * h) := h.1
theorem RelH.p_marks {M : fM} {b : Nat} {A : Nat → Int32} (h : RelH M b A) : ∀ h, h < 4 → mI M (b + 10 + 2 * h) 2 = A (11 + 18 * h) := h.2.1
theorem RelH.p_rail {M : fM} {b : Nat} {A : Nat → Int32} (h : RelH M b A) : ∀ h, h < 4 → mI M (b + 10 + 2 * h) 3 = A (12 + 18 * h) := h.2.2.1
theorem RelH.p_told {M : fM} {b : Nat} {A : Nat → Int32} (h : RelH M b A) : ∀ h, h < 4 → mI M (b + 10 + 2 * h) 4 = (A 7 >>> nI h) &&& 1 := h.2.2.2.1
theorem RelH.p_high {M : fM} {b : Nat} {A : Nat → Int32} (h : RelH M b A) : ∀ h, h < 4 → ∀ j, j < 15 → mI M (b + 11 + 2 * h) j = A (13 + 18 * h + j) := h.2.2.2.2

def RelC (M : fM) (b : Nat) (A : Nat → Int32) : Prop := (∀ p, p < 6 → mI M (b + 2) p = A (82 + 3 * p)) ∧ (∀ p, p < 6 → mI M (b + 3) p = A (83 + 3 * p)) ∧ (∀ p, p < 6 → mI M (b + 4) p = A (84 + 3 * p)) ∧ (mI M b 4 = A 0) ∧ (mI M b 5 = A 2) ∧ (mI M b 6 = A 1) ∧ (A 108 = 1 → ∀ k, k < 8 → mI M (b + 5) k = A (100 + k)) ∧ (A 108 = 0 → mI M (b + 5) 0 = -1) ∧ (∀ k, k < 2048 → mI M (b + 6) k = A (517 + k)) ∧ (mI M b 9 = A 8) ∧ (mI M b 11 = A 5) ∧ (mI M b 14 = A 3) ∧ (mI M b 15 = A 4) ∧ (mI M b 17 = A 6) ∧ (∀ k, k < 48 → mI M (b + 9) k = A (109 + k))
theorem RelC.p_none {M : fM} {b : Nat} {A : Nat → Int32} (h : RelC M b A) : ∀ p, p < 6 → mI M (b + 2) p = A (82 + 3 * p) := h.1
theorem RelC.p_twice {M : fM} {b : Nat} {A : Nat → Int32} (h : RelC M b A) : ∀ p, p < 6 → mI M (b + 3) p = A (83 + 3 * p) := h.2.1
theorem RelC.p_landing {M : fM} {b : Nat} {A : Nat → Int32} (h : RelC M b A) : ∀ p, p < 6 → mI M (b + 4) p = A (84 + 3 * p) := h.2.2.1
theorem RelC.p_people {M : fM} {b : Nat} {A : Nat → Int32} (h : RelC M b A) : mI M b 4 = A 0 := h.2.2.2.1
theorem RelC.p_x {M : fM} {b : Nat} {A : Nat → Int32} (h : RelC M b A) : mI M b 5 = A 2 := h.2.2.2.2.1
theorem RelC.p_night {M : fM} {b : Nat} {A : Nat → Int32} (h : RelC M b A) : mI M b 6 = A 1 := h.2.2.2.2.2.1
theorem RelC.p_way {M : fM} {b : Nat} {A : Nat → Int32} (h : RelC M b A) : A 108 = 1 → ∀ k, k < 8 → mI M (b + 5) k = A (100 + k) := h.2.2.2.2.2.2.1
theorem RelC.p_off {M : fM} {b : Nat} {A : Nat → Int32} (h : RelC M b A) : A 108 = 0 → mI M (b + 5) 0 = -1 := h.2.2.2.2.2.2.2.1
theorem RelC.p_book {M : fM} {b : Nat} {A : Nat → Int32} (h : RelC M b A) : ∀ k, k < 2048 → mI M (b + 6) k = A (517 + k) := h.2.2.2.2.2.2.2.2.1
theorem RelC.p_written {M : fM} {b : Nat} {A : Nat → Int32} (h : RelC M b A) : mI M b 9 = A 8 := h.2.2.2.2.2.2.2.2.2.1
theorem RelC.p_acts {M : fM} {b : Nat} {A : Nat → Int32} (h : RelC M b A) : mI M b 11 = A 5 := h.2.2.2.2.2.2.2.2.2.2.1
theorem RelC.p_texts {M : fM} {b : Nat} {A : Nat → Int32} (h : RelC M b A) : mI M b 14 = A 3 := h.2.2.2.2.2.2.2.2.2.2.2.1
theorem RelC.p_ruling {M : fM} {b : Nat} {A : Nat → Int32} (h : RelC M b A) : mI M b 15 = A 4 := h.2.2.2.2.2.2.2.2.2.2.2.2.1
theorem RelC.p_seen {M : fM} {b : Nat} {A : Nat → Int32} (h : RelC M b A) : mI M b 17 = A 6 := h.2.2.2.2.2.2.2.2.2.2.2.2.2.1
theorem RelC.p_sights {M : fM} {b : Nat} {A : Nat → Int32} (h : RelC M b A) : ∀ k, k < 48 → mI M (b + 9) k = A (109 + k) := h.2.2.2.2.2.2.2.2.2.2.2.2.2.2
/-- the ring of ACTS: the k-th oldest of m -/
def slot (nx m k : Nat) : Nat := (nx + 30 - m + k) % 30
def RelA (M : fM) (b : Nat) (A : Nat → Int32) (nx m : Nat) : Prop := (mI M b 12 = nI nx) ∧ (nx < 30) ∧ (m ≤ 30) ∧ (A 5 = nI m) ∧ (∀ k, k < m → A (165 + 12 * k) = 1 ∨ A (165 + 12 * k) = 0) ∧ (∀ k, k < m → A (165 + 12 * k) = 1 → ∀ j, j < 8 → mI M (b + 7) (11 * slot nx m k + j) = A (157 + 12 * k + j)) ∧ (∀ k, k < m → A (165 + 12 * k) = 0 → mI M (b + 7) (11 * slot nx m k) = -1) ∧ (∀ k, k < m → mI M (b + 7) (11 * slot nx m k + 10) = A (166 + 12 * k)) ∧ (∀ k, k < m → mI M (b + 7) (11 * slot nx m k + 8) = A (167 + 12 * k)) ∧ (∀ k, k < m → mI M (b + 7) (11 * slot nx m k + 9) = A (168 + 12 * k))
theorem RelA.p_next {M : fM} {b : Nat} {A : Nat → Int32} {nx m : Nat} (h : RelA M b A nx m) : mI M b 12 = nI nx := h.1
theorem RelA.p_nx30 {M : fM} {b : Nat} {A : Nat → Int32} {nx m : Nat} (h : RelA M b A nx m) : nx < 30 := h.2.1
theorem RelA.p_m30 {M : fM} {b : Nat} {A : Nat → Int32} {nx m : Nat} (h : RelA M b A nx m) : m ≤ 30 := h.2.2.1
theorem RelA.p_num {M : fM} {b : Nat} {A : Nat → Int32} {nx m : Nat} (h : RelA M b A nx m) : A 5 = nI m := h.2.2.2.1
theorem RelA.p_going {M : fM} {b : Nat} {A : Nat → Int32} {nx m : Nat} (h : RelA M b A nx m) : ∀ k, k < m → A (165 + 12 * k) = 1 ∨ A (165 + 12 * k) = 0 := h.2.2.2.2.1
theorem RelA.p_way {M : fM} {b : Nat} {A : Nat → Int32} {nx m : Nat} (h : RelA M b A nx m) : ∀ k, k < m → A (165 + 12 * k) = 1 → ∀ j, j < 8 → mI M (b + 7) (11 * slot nx m k + j) = A (157 + 12 * k + j) := h.2.2.2.2.2.1
theorem RelA.p_off {M : fM} {b : Nat} {A : Nat → Int32} {nx m : Nat} (h : RelA M b A nx m) : ∀ k, k < m → A (165 + 12 * k) = 0 → mI M (b + 7) (11 * slot nx m k) = -1 := h.2.2.2.2.2.2.1
theorem RelA.p_written {M : fM} {b : Nat} {A : Nat → Int32} {nx m : Nat} (h : RelA M b A nx m) : ∀ k, k < m → mI M (b + 7) (11 * slot nx m k + 10) = A (166 + 12 * k) := h.2.2.2.2.2.2.2.1
theorem RelA.p_night {M : fM} {b : Nat} {A : Nat → Int32} {nx m : Nat} (h : RelA M b A nx m) : ∀ k, k < m → mI M (b + 7) (11 * slot nx m k + 8) = A (167 + 12 * k) := h.2.2.2.2.2.2.2.2.1
theorem RelA.p_x {M : fM} {b : Nat} {A : Nat → Int32} {nx m : Nat} (h : RelA M b A nx m) : ∀ k, k < m → mI M (b + 7) (11 * slot nx m k + 9) = A (168 + 12 * k) := h.2.2.2.2.2.2.2.2.2
/-- the model's row is within its bounds -/
def Ok (A : Nat → Int32) : Prop := (∃ n, n ≤ 6 ∧ A 0 = nI n) ∧ (∃ n, n ≤ 999 ∧ A 1 = nI n) ∧ (∃ n, n < 30071 ∧ A 2 = nI n) ∧ (∃ n, n ≤ 4 ∧ A 3 = nI n) ∧ (A 4 = -1 ∨ ∃ n m, A 4 = nI n ∧ A 3 = nI m ∧ n < m) ∧ (∃ n, n ≤ 12 ∧ A 6 = nI n) ∧ (A 108 = 1 ∨ A 108 = 0) ∧ (∀ h, h < 4 → ∃ n, 1 ≤ n ∧ n ≤ 14 ∧ A (10 + 18 * h) = nI n) ∧ (∀ h, h < 4 → ∃ n, n ≤ 14 ∧ A (12 + 18 * h) = nI n) ∧ (∀ h, h < 4 → ∀ j, j < 15 → ∃ n, 1 ≤ n ∧ n ≤ 9 ∧ A (13 + 18 * h + j) = nI n) ∧ (∀ h, h < 4 → A (13 + 18 * h) = 5)
theorem Ok.p_people {A : Nat → Int32} (h : Ok A) : ∃ n, n ≤ 6 ∧ A 0 = nI n := h.1
theorem Ok.p_night {A : Nat → Int32} (h : Ok A) : ∃ n, n ≤ 999 ∧ A 1 = nI n := h.2.1
theorem Ok.p_x {A : Nat → Int32} (h : Ok A) : ∃ n, n < 30071 ∧ A 2 = nI n := h.2.2.1
theorem Ok.p_texts {A : Nat → Int32} (h : Ok A) : ∃ n, n ≤ 4 ∧ A 3 = nI n := h.2.2.2.1
theorem Ok.p_ruling {A : Nat → Int32} (h : Ok A) : A 4 = -1 ∨ ∃ n m, A 4 = nI n ∧ A 3 = nI m ∧ n < m := h.2.2.2.2.1
theorem Ok.p_seen {A : Nat → Int32} (h : Ok A) : ∃ n, n ≤ 12 ∧ A 6 = nI n := h.2.2.2.2.2.1
theorem Ok.p_going {A : Nat → Int32} (h : Ok A) : A 108 = 1 ∨ A 108 = 0 := h.2.2.2.2.2.2.1
theorem Ok.p_steps {A : Nat → Int32} (h : Ok A) : ∀ h, h < 4 → ∃ n, 1 ≤ n ∧ n ≤ 14 ∧ A (10 + 18 * h) = nI n := h.2.2.2.2.2.2.2.1
theorem Ok.p_rail {A : Nat → Int32} (h : Ok A) : ∀ h, h < 4 → ∃ n, n ≤ 14 ∧ A (12 + 18 * h) = nI n := h.2.2.2.2.2.2.2.2.1
theorem Ok.p_high {A : Nat → Int32} (h : Ok A) : ∀ h, h < 4 → ∀ j, j < 15 → ∃ n, 1 ≤ n ∧ n ≤ 9 ∧ A (13 + 18 * h + j) = nI n := h.2.2.2.2.2.2.2.2.2.1
theorem Ok.p_floor {A : Nat → Int32} (h : Ok A) : ∀ h, h < 4 → A (13 + 18 * h) = 5 := h.2.2.2.2.2.2.2.2.2.2
