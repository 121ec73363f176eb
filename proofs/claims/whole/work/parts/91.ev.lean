/-! ===== laws, worked: numbers, and what a code comes to ===== -/
def iI (z : Int) : Int32 := Int32.ofInt z
def iJ (z : Int) : Int64 := Int64.ofInt z
theorem iI_t {z : Int} (h : -2147483648 ≤ z) (h2 : z < 2147483648) : (iI z).toInt = z := Int32.toInt_ofInt_of_le (by omega) (by omega)
theorem iJ_t {z : Int} (h : -9223372036854775808 ≤ z) (h2 : z < 9223372036854775808) : (iJ z).toInt = z := Int64.toInt_ofInt_of_le (by omega) (by omega)
theorem iI_n {n : Nat} (h : n < 2147483648) : iI (n : Int) = nI n := Int32.toInt_inj.mp (by rw [iI_t (by omega) (by omega), toInt_nI h])
theorem I2J {z : Int} (h : -2147483648 ≤ z) (h2 : z < 2147483648) : Int32.toInt64 (iI z) = iJ z := Int64.toInt_inj.mp (by rw [Int32.toInt_toInt64, iI_t h h2, iJ_t (by omega) (by omega)])
theorem J2I {z : Int} (h : -2147483648 ≤ z) (h2 : z < 2147483648) : Int64.toInt32 (iJ z) = iI z := Int32.toInt_inj.mp (by rw [Int64.toInt_toInt32, iI_t h h2, iJ_t (by omega) (by omega)]; exact bmod_id h h2)
theorem bmod64 {a : Int} (h1 : -9223372036854775808 ≤ a) (h2 : a < 9223372036854775808) : a.bmod (2 ^ 64) = a := by
  rw [Int.bmod_def]
  split <;> omega
theorem iJ_add (a b : Int) : iJ a + iJ b = iJ (a + b) := (Int64.ofInt_add a b).symm
theorem iJ_mul (a b : Int) : iJ a * iJ b = iJ (a * b) := (Int64.ofInt_mul a b).symm
theorem iJ_sub {a b : Int} : iJ a - iJ b = iJ (a - b) := by
  have h : iJ a = iJ (a - b) + iJ b := by rw [iJ_add]; congr 1; omega
  rw [h]
  exact Int64.add_sub_cancel _ _
theorem iJ_div {a b : Int} (ha : -1000000000000 ≤ a ∧ a ≤ 1000000000000) (hb : -1000000000000 ≤ b ∧ b ≤ 1000000000000) : iJ a / iJ b = iJ (a.tdiv b) := by
  apply Int64.toInt_inj.mp
  have h : -1000000000000 ≤ a.tdiv b ∧ a.tdiv b ≤ 1000000000000 := by
    have h1 := Int.natAbs_tdiv_le_natAbs a b
    omega
  rw [Int64.toInt_div, iJ_t (by omega) (by omega), iJ_t (by omega) (by omega), iJ_t (by omega) (by omega)]
  exact bmod64 (by omega) (by omega)
theorem lg_lt {a b : Int} (ha : -9223372036854775808 ≤ a ∧ a < 9223372036854775808) (hb : -9223372036854775808 ≤ b ∧ b < 9223372036854775808) (h : a < b) : lg_cmp (iJ a) (iJ b) = -1 := by
  unfold lg_cmp
  rw [if_neg, if_neg]
  · intro c
    have c2 := congrArg Int64.toInt c
    rw [iJ_t ha.1 ha.2, iJ_t hb.1 hb.2] at c2
    omega
  · intro c
    have c2 := Int64.lt_iff_toInt_lt.mp c
    rw [iJ_t ha.1 ha.2, iJ_t hb.1 hb.2] at c2
    omega
theorem lg_gt {a b : Int} (ha : -9223372036854775808 ≤ a ∧ a < 9223372036854775808) (hb : -9223372036854775808 ≤ b ∧ b < 9223372036854775808) (h : b < a) : lg_cmp (iJ a) (iJ b) = 1 := by
  unfold lg_cmp
  rw [if_pos]
  exact Int64.lt_iff_toInt_lt.mpr (by rw [iJ_t ha.1 ha.2, iJ_t hb.1 hb.2]; exact h)
theorem lg_eq (a : Int64) : lg_cmp a a = 0 := by
  unfold lg_cmp
  rw [if_neg, if_pos rfl]
  intro c
  have c2 := Int64.lt_iff_toInt_lt.mp c
  omega
def clp (z : Int) : Int := if 1000000 < z then 1000000 else if z < -1000000 then -1000000 else z
theorem clp_b (z : Int) : -1000000 ≤ clp z ∧ clp z ≤ 1000000 := by
  unfold clp
  split
  · omega
  · split <;> omega
def opI (o : Nat) (a b : Int) : Int := if o = 4 then clp (a + b) else if o = 5 then clp (a - b) else if o = 6 then clp (a * b) else if b = 0 then 0 else clp (a.tdiv b)
def asB (o : Nat) (a b : Int) : Bool := if o = 10 then decide (a < b) else if o = 11 then decide (a ≤ b) else if o = 12 then decide (b < a) else if o = 13 then decide (b ≤ a) else if o = 14 then decide (a = b) else decide (a ≠ b)
def b01 (t : Bool) : Int := if t then 1 else 0
/-- an operation of two, over the one's stack -/
def joI (o : Nat) (a b : Int) : Int := if o ≤ 7 then opI o a b else if o ≤ 15 then b01 (asB o a b) else if o = 21 then b01 (decide (a ≠ 0 ∧ b ≠ 0)) else b01 (decide (a ≠ 0 ∨ b ≠ 0))
def evC (nv : Nat → Nat) (x : Nat × Nat) (st : List Int) : List Int := if x.1 = 0 then (x.2 : Int) :: st else if x.1 = 1 then (nv x.2 : Int) :: st else if x.1 = 2 then (match st with
    | b :: a :: c :: l => (if c ≠ 0 then a else b) :: l
    | l => l) else if x.1 = 3 then (match st with
    | a :: l => -a :: l
    | l => l) else if x.1 = 20 then (match st with
    | a :: l => (1 - a) :: l
    | l => l) else (match st with
    | b :: a :: l => joI x.1 a b :: l
    | l => l)
def evV (nv : Nat → Nat) (x : Nat × Nat) (vs : List Int) (ts : List Bool) : List Int := if x.1 = 0 then (x.2 : Int) :: vs else if x.1 = 1 then (nv x.2 : Int) :: vs else if x.1 = 2 then (match vs, ts with
    | b :: a :: l, t :: _ => (if t then a else b) :: l
    | l, _ => l) else if x.1 = 3 then (match vs with
    | a :: l => -a :: l
    | l => l) else if x.1 ≤ 7 then (match vs with
    | b :: a :: l => opI x.1 a b :: l
    | l => l) else if x.1 ≤ 15 then (match vs with
    | _ :: _ :: l => l
    | l => l) else vs
def evT (x : Nat × Nat) (vs : List Int) (ts : List Bool) : List Bool := if x.1 ≤ 1 then ts else if x.1 = 2 then ts.tail else if x.1 ≤ 7 then ts else if x.1 ≤ 15 then (match vs with
    | b :: a :: _ => asB x.1 a b :: ts
    | _ => ts) else if x.1 = 20 then (match ts with
    | t :: l => (!t) :: l
    | l => l) else if x.1 = 21 then (match ts with
    | t :: s :: l => (s && t) :: l
    | l => l) else (match ts with
    | t :: s :: l => (s || t) :: l
    | l => l)
def mg : List Bool → List Int → List Bool → List Int
  | [], _, _ => []
  | false :: k, v :: vs, ts => v :: mg k vs ts
  | true :: k, vs, t :: ts => b01 t :: mg k vs ts
  | false :: _, [], _ => []
  | true :: _, _, [] => []
/-- two piles of these types -/
def wf : List Bool → List Int → List Bool → Prop
  | [], vs, ts => vs = [] ∧ ts = []
  | false :: k, vs, ts => ∃ v l, vs = v :: l ∧ (-1000000 ≤ v ∧ v ≤ 1000000) ∧ wf k l ts
  | true :: k, vs, ts => ∃ t l, ts = t :: l ∧ wf k vs l
theorem mg_len : ∀ (k : List Bool) (vs : List Int) (ts : List Bool), wf k vs ts → (mg k vs ts).length = k.length
  | [], _, _, _ => rfl
  | false :: k, vs, ts, h => by
    obtain ⟨v, l, rfl, -, h⟩ := h
    simp [mg, mg_len k l ts h]
  | true :: k, vs, ts, h => by
    obtain ⟨t, l, rfl, h⟩ := h
    simp [mg, mg_len k vs l h]
theorem tyS_inv {t t2 : List Bool} {o : Nat} (h : tyS t o = some t2) : (o ≤ 1 ∧ t2 = false :: t) ∨ (o = 2 ∧ ∃ r, t = false :: false :: true :: r ∧ t2 = false :: r) ∨ (o = 3 ∧ ∃ r, t = false :: r ∧ t2 = t) ∨ (4 ≤ o ∧ o ≤ 7 ∧ ∃ r, t = false :: false :: r ∧ t2 = false :: r) ∨ (10 ≤ o ∧ o ≤ 15 ∧ ∃ r, t = false :: false :: r ∧ t2 = true :: r) ∨ (o = 20 ∧ ∃ r, t = true :: r ∧ t2 = t) ∨ ((o = 21 ∨ o = 22) ∧ ∃ r, t = true :: true :: r ∧ t2 = true :: r) := by
  unfold tyS at h
  split at h
  · rename_i q
    cases h
    exact Or.inl ⟨q, rfl⟩
  · split at h
    all_goals (repeat' split at h)
    all_goals first | (cases h; done) | skip
    all_goals (cases h)
    all_goals simp_all
    all_goals omega
theorem ev_step {nv : Nat → Nat} {x : Nat × Nat} {t t2 : List Bool} {vs : List Int} {ts : List Bool} (h : tyS t x.1 = some t2) (hn : x.1 = 0 → x.2 ≤ 9999) (hv : x.1 = 1 → nv x.2 ≤ 9999) (hw : wf t vs ts) : evC nv x (mg t vs ts) = mg t2 (evV nv x vs ts) (evT x vs ts) ∧ wf t2 (evV nv x vs ts) (evT x vs ts) := by
  obtain ⟨o, y⟩ := x
  rcases tyS_inv h with ⟨q, rfl⟩ | ⟨q, r, rfl, rfl⟩ | ⟨q, r, rfl, rfl⟩ | ⟨q, q2, r, rfl, rfl⟩ | ⟨q, q2, r, rfl, rfl⟩ | ⟨q, r, rfl, rfl⟩ | ⟨q, r, rfl, rfl⟩
  · have q3 : o = 0 ∨ o = 1 := by (simp at q; omega)
    rcases q3 with rfl | rfl
    · have := hn rfl
      simp [evC, evV, evT, mg, wf, hw]
      simp at this
      omega
    · have := hv rfl
      simp [evC, evV, evT, mg, wf, hw]
      simp at this
      omega
  · simp at q
    subst q
    obtain ⟨b, l, rfl, hb, a, l2, rfl, ha, t, l3, rfl, hw⟩ := hw
    cases t
    · simp [evC, evV, evT, mg, wf, hw, b01]; omega
    · simp [evC, evV, evT, mg, wf, hw, b01]; omega
  · simp at q
    subst q
    obtain ⟨b, l, rfl, hb, hw⟩ := hw
    simp [evC, evV, evT, mg, wf, hw]; omega
  · obtain ⟨b, l, rfl, hb, a, l2, rfl, ha, hw⟩ := hw
    have hc : ∀ z, -1000000 ≤ clp z ∧ clp z ≤ 1000000 := clp_b
    simp at q q2
    have q3 : o = 4 ∨ o = 5 ∨ o = 6 ∨ o = 7 := by omega
    have h0 : -1000000 ≤ opI o a b ∧ opI o a b ≤ 1000000 := by
      unfold opI
      repeat' split
      all_goals first | exact clp_b _ | omega
    rcases q3 with rfl | rfl | rfl | rfl
    all_goals simp [evC, evV, evT, mg, wf, hw, joI]
    all_goals exact h0
  · obtain ⟨b, l, rfl, hb, a, l2, rfl, ha, hw⟩ := hw
    simp at q q2
    have q3 : o = 10 ∨ o = 11 ∨ o = 12 ∨ o = 13 ∨ o = 14 ∨ o = 15 := by omega
    rcases q3 with rfl | rfl | rfl | rfl | rfl | rfl
    all_goals simp [evC, evV, evT, mg, wf, hw, joI]
  · simp at q
    subst q
    obtain ⟨t, l, rfl, hw⟩ := hw
    cases t
    all_goals simp [evC, evV, evT, mg, wf, hw, b01]
  · obtain ⟨t, l, rfl, s, l2, rfl, hw⟩ := hw
    simp at q
    rcases q with rfl | rfl
    all_goals cases t
    all_goals cases s
    all_goals simp [evC, evV, evT, mg, wf, hw, joI, b01]
