/-! ===== both constructors, from the law's entry; the law's word as a whole ===== -/
def zi_lk : List (Nat × Nat × Nat) → Nat → Nat → Option Nat
  | [], _, _ => none
  | t :: l, r, k => if r = t.1 ∧ k = t.2.1 then some t.2.2 else zi_lk l r k
def zi_rd : List (Nat × Nat × Nat × Int32) → Nat → Nat → Int32
  | [], _, _ => 0
  | t :: l, r, k => if r = t.1 ∧ t.2.1 ≤ k ∧ k < t.2.2.1 then t.2.2.2 else zi_rd l r k
theorem zi_rd_no {r k : Nat} : ∀ {l : List (Nat × Nat × Nat × Int32)}, (∀ t ∈ l, r ≠ t.1) → zi_rd l r k = 0
  | [], _ => rfl
  | t :: l, h => by
    unfold zi_rd
    rw [if_neg (fun c => h t List.mem_cons_self c.1)]
    exact zi_rd_no fun t ht => h t (List.mem_cons_of_mem _ ht)
theorem zi_lk_no {r k : Nat} : ∀ {l : List (Nat × Nat × Nat)}, (∀ t ∈ l, t.1 < r) → zi_lk l r k = none
  | [], _ => rfl
  | t :: l, h => by
    unfold zi_lk
    rw [if_neg (fun c => by have h2 := h t List.mem_cons_self; omega)]
    exact zi_lk_no fun t ht => h t (List.mem_cons_of_mem _ ht)
/-- the memory while the constructors run: q cells of the whole, these pointers, these numbers -/
def Zi (L : Nat) (X : Nat → Int32) (q : Nat) (PL : List (Nat × Nat × Nat)) (WL : List (Nat × Nat × Nat × Int32)) (M : fM) : Prop := M.2.2.2 = ((12, L) :: SHL).take q ∧ (6 ≤ q ∧ q ≤ 82) ∧ (∀ r k, mP M r k = zi_lk PL r k) ∧ (∀ t ∈ PL, t.1 < q) ∧ (∀ t ∈ WL, t.1 < q) ∧ (∀ r, 6 ≤ r → ∀ k, mI M r k = zi_rd WL r k) ∧ Sts X M
theorem Zi.sh {L : Nat} {X : Nat → Int32} {q r : Nat} {PL : List (Nat × Nat × Nat)} {WL : List (Nat × Nat × Nat × Int32)} {M : fM} {s : Nat × Nat} (h : Zi L X q PL WL M) (hr : r + 1 < q) (e : SHL[r]? = some s) : mS M (r + 1) = some s := by
  unfold mS
  rw [h.1, List.getElem?_take, if_pos hr, List.getElem?_cons_succ]
  exact e
theorem Zi.n {L : Nat} {X : Nat → Int32} {q : Nat} {PL : List (Nat × Nat × Nat)} {WL : List (Nat × Nat × Nat × Int32)} {M : fM} (h : Zi L X q PL WL M) : mN M = q := by
  have h3 := h.2.1
  have e : ((12, L) :: SHL).length = 82 := rfl
  unfold mN
  rw [h.1, List.length_take, e]
  omega
theorem zi_nw {L : Nat} {X : Nat → Int32} {q : Nat} {PL : List (Nat × Nat × Nat)} {WL : List (Nat × Nat × Nat × Int32)} {M : fM} (h : Zi L X q PL WL M) (r q2 : Nat) {kd n : Nat} {A : Nat → fM → Prop} (e : q = r + 1) (e2 : q2 = q + 1) (hs : SHL[r]? = some (kd, n)) (K : ∀ M', Zi L X q2 PL WL M' → A q M') : nw M kd n A := by
  intro q1 M1 e1 e3
  have hn := h.n
  rw [hn] at e1
  rw [e1, e3]
  refine K _ ?_
  obtain ⟨h1, h2, h3, h4, h5, h6, h7⟩ := h
  have hlt : r < SHL.length := (List.getElem?_eq_some_iff.mp hs).1
  have hl : SHL.length = 81 := rfl
  refine ⟨?_, by omega, fun r' k => ?_, fun t ht => by have := h4 t ht; omega, fun t ht => by have := h5 t ht; omega, fun r' h6' k => ?_, h7.cg (fun q hq k => ?_) (fun k => ?_)⟩
  · show M.2.2.2 ++ [(kd, n)] = _
    rw [h1, e2, List.take_add_one, e, List.getElem?_cons_succ, hs]
    all_goals rfl
  · show (if r' = mN M then none else mP M r' k) = _
    rw [hn]
    by_cases c : r' = q
    · rw [if_pos c, c, zi_lk_no h4]
    · rw [if_neg c]
      exact h3 r' k
  · show (if r' = mN M then 0 else mI M r' k) = _
    rw [hn]
    by_cases c : r' = q
    · rw [if_pos c, c, zi_rd_no fun t ht => by have := h5 t ht; omega]
    · rw [if_neg c]
      exact h6 r' h6' k
  · show (if q = mN M then 0 else mI M q k) = _
    rw [hn, if_neg (by omega)]
  · show (if 2 = mN M then 0 else mJ M 2 k) = _
    rw [hn, if_neg (by omega)]
theorem zi_p {L : Nat} {X : Nat → Int32} {q : Nat} {PL : List (Nat × Nat × Nat)} {WL : List (Nat × Nat × Nat × Int32)} {M : fM} {r k v : Nat} {A : fM → Prop} (h : Zi L X q PL WL M) (hr : r < q) (K : ∀ M', Zi L X q ((r, k, v) :: PL) WL M' → A M') : st (wP M r k (some v)) A := by
  refine st_of (K _ ?_)
  obtain ⟨h1, h2, h3, h4, h5, h6, h7⟩ := h
  refine ⟨h1, h2, fun r' k' => ?_, fun t ht => ?_, h5, h6, h7⟩
  · rw [mP_wP, h3]
    all_goals rfl
  · rcases List.mem_cons.mp ht with rfl | ht
    · exact hr
    · exact h4 t ht
theorem zi_w {L : Nat} {X : Nat → Int32} {q : Nat} {PL : List (Nat × Nat × Nat)} {WL : List (Nat × Nat × Nat × Int32)} {M M' : fM} {r a b : Nat} {v : Int32} (h : Zi L X q PL WL M) (h6 : 6 ≤ r) (hr : r < q) (e2 : M'.2 = M.2) (e : ∀ r' j, mI M' r' j = if r' = r ∧ a ≤ j ∧ j < b then v else mI M r' j) : Zi L X q PL ((r, a, b, v) :: WL) M' := by
  obtain ⟨h1, h2, h3, h4, h5, hh, h7⟩ := h
  refine ⟨by rw [e2]; exact h1, h2, fun r' k' => by unfold mP; rw [e2]; exact h3 r' k', h4, fun t ht => ?_, fun r' h6' k' => ?_, h7.cg (fun q hq k => by rw [e, if_neg (by omega)]) (fun k => by unfold mJ; rw [e2])⟩
  · rcases List.mem_cons.mp ht with rfl | ht
    · exact hr
    · exact h5 t ht
  · rw [e, hh r' h6']
    all_goals rfl
theorem zi_i {L : Nat} {X : Nat → Int32} {q : Nat} {PL : List (Nat × Nat × Nat)} {WL : List (Nat × Nat × Nat × Int32)} {M : fM} {r k : Nat} {v : Int32} {A : fM → Prop} (h : Zi L X q PL WL M) (h6 : 6 ≤ r) (hr : r < q) (K : ∀ M', Zi L X q PL ((r, k, k + 1, v) :: WL) M' → A M') : st (wI M r k v) A := by
  refine st_of (K _ (zi_w h h6 hr rfl fun r' j => ?_))
  rw [mI_wI]
  by_cases c : r' = r ∧ j = k
  · rw [if_pos c, if_pos (by omega)]
  · rw [if_neg c, if_neg (by omega)]
theorem zi_f {L : Nat} {X : Nat → Int32} {q : Nat} {PL : List (Nat × Nat × Nat)} {WL : List (Nat × Nat × Nat × Int32)} {M : fM} {r n : Nat} {v : Int32} {φ : fM → Prop} (h : Zi L X q PL WL M) (h6 : 6 ≤ r + 1) (hr : r + 1 < q) (hs : SHL[r]? = some (12, n)) (hn : n < 2147483648) (K : ∀ M', Zi L X q PL ((r + 1, 0, n, v) :: WL) M' → φ M') : w_J7_fill_53178 (r + 1) v M φ := by
  refine c_fill h6 hn (h.sh hr hs) fun M' e2 e => K _ (zi_w h h6 hr e2 fun r' j => ?_)
  rw [e]
  by_cases c : r' = r + 1 ∧ j < n
  · rw [if_pos c, if_pos (by omega)]
  · rw [if_neg c, if_neg (by omega)]
theorem zi_d {L : Nat} {X : Nat → Int32} {q : Nat} {PL : List (Nat × Nat × Nat)} {WL : List (Nat × Nat × Nat × Int32)} {M : fM} {r k y : Nat} {A : Nat → Prop} (h : Zi L X q PL WL M) (e : zi_lk PL r k = some y) (K : A y) : dR (mP M r k) A := dR_of ((h.2.2.1 r k).trans e) K
theorem zi_o {L : Nat} {X : Nat → Int32} {q : Nat} {PL : List (Nat × Nat × Nat)} {WL : List (Nat × Nat × Nat × Int32)} {M : fM} {r kd n : Nat} (h : Zi L X q PL WL M) (h6 : 6 ≤ r + 1) (hr : r + 1 < q) (hs : SHL[r]? = some (kd, n)) : isO M (r + 1) kd := isO_of h6 (h.sh hr hs)
theorem zi_a {L : Nat} {X : Nat → Int32} {q : Nat} {PL : List (Nat × Nat × Nat)} {WL : List (Nat × Nat × Nat × Int32)} {M : fM} {r kd n : Nat} {i : Int32} (h : Zi L X q PL WL M) (hr : r + 1 < q) (hs : SHL[r]? = some (kd, n)) (hi : vp_in i n) : inA M (r + 1) kd i := inA_of (h.sh hr hs) hi
def zi_PL : List (Nat × Nat × Nat) := [(70, 31, 81), (70, 30, 80), (70, 24, 79), (70, 23, 78), (70, 22, 77), (70, 21, 76), (70, 16, 75), (70, 3, 74), (70, 2, 73), (70, 1, 72), (70, 0, 71), (6, 7, 66), (66, 1, 7), (66, 0, 10), (66, 4, 69), (66, 3, 68), (66, 2, 67), (6, 6, 64), (64, 1, 7), (64, 0, 10), (64, 2, 65), (6, 5, 58), (58, 2, 7), (58, 1, 10), (58, 11, 63), (58, 10, 62), (58, 9, 61), (58, 8, 60), (58, 7, 59), (6, 4, 57), (57, 1, 7), (57, 0, 10), (6, 3, 51), (51, 2, 46), (51, 7, 56), (51, 6, 55), (51, 5, 54), (51, 4, 53), (51, 3, 52), (6, 2, 46), (46, 4, 50), (46, 3, 49), (46, 2, 48), (46, 0, 47), (6, 1, 28), (29, 3, 44), (44, 1, 45), (29, 2, 42), (42, 1, 43), (29, 1, 40), (40, 1, 41), (29, 0, 38), (38, 1, 39), (28, 16, 37), (28, 13, 36), (28, 10, 35), (28, 8, 34), (28, 7, 33), (28, 3, 32), (28, 2, 31), (28, 1, 30), (28, 0, 29), (6, 0, 10), (11, 3, 26), (26, 1, 27), (11, 2, 24), (24, 1, 25), (11, 1, 22), (22, 1, 23), (11, 0, 20), (20, 1, 21), (10, 16, 19), (10, 13, 18), (10, 10, 17), (10, 8, 16), (10, 7, 15), (10, 3, 14), (10, 2, 13), (10, 1, 12), (10, 0, 11), (7, 1, 9), (7, 0, 8)]
def zi_WL : List (Nat × Nat × Nat × Int32) := [(71, 4, 5, (-1 : Int32)), (71, 2, 3, (13 : Int32)), (70, 6, 7, (-1 : Int32)), (70, 5, 6, (-1 : Int32)), (51, 1, 2, (-1 : Int32)), (51, 0, 1, (-1 : Int32)), (33, 0, 1, (-1 : Int32)), (45, 0, 15, (5 : Int32)), (44, 0, 1, (12 : Int32)), (43, 0, 15, (5 : Int32)), (42, 0, 1, (12 : Int32)), (41, 0, 15, (5 : Int32)), (40, 0, 1, (12 : Int32)), (39, 0, 15, (5 : Int32)), (38, 0, 1, (12 : Int32)), (28, 15, 16, (-1 : Int32)), (28, 5, 6, (13 : Int32)), (15, 0, 1, (-1 : Int32)), (27, 0, 15, (5 : Int32)), (26, 0, 1, (12 : Int32)), (25, 0, 15, (5 : Int32)), (24, 0, 1, (12 : Int32)), (23, 0, 15, (5 : Int32)), (22, 0, 1, (12 : Int32)), (21, 0, 15, (5 : Int32)), (20, 0, 1, (12 : Int32)), (10, 15, 16, (-1 : Int32)), (10, 5, 6, (13 : Int32))]
theorem zi_str {L : Nat} {X : Nat → Int32} {PL : List (Nat × Nat × Nat)} {WL : List (Nat × Nat × Nat × Int32)} {M : fM} (h : Zi L X 82 PL WL M) (hp : ∀ t ∈ PTL, zi_lk PL t.1 t.2.1 = some t.2.2) : Str L M := by
  refine ⟨⟨[], ?_⟩, fun t ht => (h.2.2.1 _ _).trans (hp t ht)⟩
  have e : ((12, L) :: SHL).length = 82 := rfl
  rw [List.append_nil]
  exact h.1.trans (List.take_of_length_le (Nat.le_of_eq e))
theorem zi_ptl : ∀ t ∈ PTL, zi_lk zi_PL t.1 t.2.1 = some t.2.2 := by decide +kernel
/-- the numbers of a new object, i houses built -/
def zi_A (i k : Nat) : Nat := if k = 2 then 13 else if 10 ≤ k ∧ k < 10 + 18 * i then (if (k - 10) % 18 = 0 then 12 else if (k - 10) % 18 < 3 then 0 else 5) else 0
theorem zi_A4 (i : Nat) : zi_A i 4 = 0 := by
  unfold zi_A
  rw [if_neg (by omega), if_neg (by omega)]
theorem zi_As (i k : Nat) : nI (zi_A (i + 1) k) = if 10 + 18 * i + 3 ≤ k ∧ k < 10 + 18 * i + 18 then nI 5 else if k = 10 + 18 * i + 2 then 0 else if k = 10 + 18 * i + 1 then 0 else if k = 10 + 18 * i then 12 else nI (zi_A i k) := by
  unfold zi_A
  by_cases c1 : 10 + 18 * i + 3 ≤ k ∧ k < 10 + 18 * i + 18
  · rw [if_pos c1, if_neg (by omega), if_pos (by omega), if_neg (by omega), if_neg (by omega)]
  · rw [if_neg c1]
    by_cases c2 : k = 10 + 18 * i + 2
    · rw [if_pos c2, if_neg (by omega), if_pos (by omega), if_neg (by omega), if_pos (by omega)]
      all_goals rfl
    · rw [if_neg c2]
      by_cases c3 : k = 10 + 18 * i + 1
      · rw [if_pos c3, if_neg (by omega), if_pos (by omega), if_neg (by omega), if_pos (by omega)]
        all_goals rfl
      · rw [if_neg c3]
        by_cases c4 : k = 10 + 18 * i
        · rw [if_pos c4, if_neg (by omega), if_pos (by omega), if_pos (by omega)]
          all_goals rfl
        · rw [if_neg c4]
          by_cases c5 : k = 2
          · rw [if_pos c5, if_pos c5]
          · rw [if_neg c5, if_neg c5]
            by_cases c6 : 10 ≤ k ∧ k < 10 + 18 * i
            · rw [if_pos c6, if_pos (by omega)]
            · rw [if_neg c6, if_neg (by omega)]
theorem zi_l {L : Nat} {M0 : fM} {φ : fM → Prop} (hz : ∀ M', M'.2 = M0.2 → (∀ r, r ≠ 71 → r ≠ 72 → ∀ k, mI M' r k = mI M0 r k) → Mdl M' 71 (zi_A 4) → Mdl M' 72 (zi_A 4) → φ M') : ∀ (m i : Nat) (M : fM), i + m = 4 → Str L M → M.2 = M0.2 → (∀ r, r ≠ 71 → r ≠ 72 → ∀ k, mI M r k = mI M0 r k) → Mdl M 71 (zi_A i) → l_X11_init_128 φ (m + 1) 70 (nI i) M := by
  intro m
  induction m with
  | zero =>
    intro i M hi hS e2 er hM
    obtain rfl : i = 4 := by omega
    refine iF_t (show nI 4 ≤ nI 4 from (nIle (by omega) (by omega)).mpr (by omega)) ⟨isO_pt hS (by decide) rfl, dR_of (Str.pg hS rfl) (dR_of (Str.pg hS rfl) (m_copy (by omega) (by omega) (ss_71 hS) (ss_72 hS) (hz _ e2 (fun r h1 h2 k => ?_) ?_ hM.mv)))⟩
    · rw [mI_co (by omega)]
      exact er r h1 h2 k
    · exact hM.cg fun k => mI_co (by omega)
  | succ m ih =>
    intro i M hi hS e2 er hM
    refine iF_f (fun c : nI 4 ≤ nI i => absurd ((nIle (by omega) (by omega)).mp c) (by omega)) ⟨isO_pt hS (by decide) rfl, c_build hS (by omega) (nm_of ?_)⟩
    rw [show nI i + (1 : Int32) = nI (i + 1) from nI_add _ 1]
    refine ih (i + 1) _ (by omega) hS e2 (fun r h1 h2 k => ?_) ⟨fun k hk h4 => ?_, ?_⟩
    · rw [mI_fn (by omega), mI_n (by omega), mI_n (by omega), mI_n (by omega)]
      exact er r h1 h2 k
    · rw [zi_As, mI_fil, mI_wI, mI_wI, mI_wI, hM.1 k hk h4]
      by_cases c1 : 10 + 18 * i + 3 ≤ k ∧ k < 10 + 18 * i + 18
      · rw [if_pos ⟨rfl, c1⟩, if_pos c1]
      · rw [if_neg (fun c => c1 c.2), if_neg c1]
        by_cases c2 : k = 10 + 18 * i + 2
        · rw [if_pos ⟨rfl, c2⟩, if_pos c2]
        · rw [if_neg (fun c => c2 c.2), if_neg c2]
          by_cases c3 : k = 10 + 18 * i + 1
          · rw [if_pos ⟨rfl, c3⟩, if_pos c3]
          · rw [if_neg (fun c => c3 c.2), if_neg c3]
            by_cases c4 : k = 10 + 18 * i
            · rw [if_pos ⟨rfl, c4⟩, if_pos c4]
            · rw [if_neg (fun c => c4 c.2), if_neg c4]
    · rw [mI_fn (by omega), mI_n (by omega), mI_n (by omega), mI_n (by omega), hM.2, zi_A4, zi_A4]
theorem zi_loop {L : Nat} {M : fM} {φ : fM → Prop} (hS : Str L M) (h0 : Mdl M 71 (zi_A 0)) (hz : ∀ M', M'.2 = M.2 → (∀ r, r ≠ 71 → r ≠ 72 → ∀ k, mI M' r k = mI M r k) → Mdl M' 71 (zi_A 4) → Mdl M' 72 (zi_A 4) → φ M') : ∃ n, l_X11_init_128 φ n 70 (0 : Int32) M := ⟨4 + 1, zi_l (M0 := M) hz 4 0 M rfl hS rfl (fun _ _ _ _ => rfl) h0⟩
theorem zi_no71 : ∀ t ∈ zi_WL.drop 2, (71 : Nat) ≠ t.1 := by decide
theorem zi_m0 {L : Nat} {X : Nat → Int32} {PL : List (Nat × Nat × Nat)} {M : fM} (h : Zi L X 82 PL zi_WL M) : Mdl M 71 (zi_A 0) := by
  have hr : ∀ k, mI M 71 k = if 71 = 71 ∧ 4 ≤ k ∧ k < 4 + 1 then -1 else if 71 = 71 ∧ 2 ≤ k ∧ k < 2 + 1 then 13 else zi_rd (zi_WL.drop 2) 71 k := fun k => h.2.2.2.2.2.1 71 (by omega) k
  refine ⟨fun k hk h4 => ?_, ?_⟩
  · rw [hr, if_neg (by omega), zi_rd_no zi_no71]
    unfold zi_A
    by_cases c : k = 2
    · rw [if_pos c, if_pos (by omega)]
      all_goals rfl
    · rw [if_neg c, if_neg (by omega), if_neg (by omega)]
      all_goals rfl
  · rw [hr, if_pos (by omega), zi_A4]
    all_goals rfl
theorem zi_okk : Okk 0 (zi_A 4) := by
  have z : ∀ k, 82 ≤ k → zi_A 4 k = 0 := fun k hk => by
    unfold zi_A
    rw [if_neg (by omega), if_neg (by omega)]
  refine ⟨by unfold OkS; decide, by unfold OkH; decide, fun p hp => ?_, ⟨Or.inl (z _ (by omega)), by rw [z _ (by omega)]; omega, fun c => ?_⟩, fun k hk => ?_, fun k hk => ?_, fun i hi => by rw [z _ (by omega)]; omega⟩
  · rw [show zi_A 4 0 = 0 from rfl] at hp
    omega
  · rw [z _ (by omega)] at c
    omega
  · rw [show zi_A 4 5 = 0 from rfl] at hk
    omega
  · rw [show zi_A 4 6 = 0 from rfl] at hk
    omega
def zi_b (b : Nat) : Prop := (∀ h, h < 4 → zi_rd zi_WL (b + 10 + 2 * h) 0 = nI (zi_A 4 (10 + 18 * h)) ∧ zi_rd zi_WL (b + 10 + 2 * h) 2 = nI (zi_A 4 (10 + 18 * h + 1)) ∧ zi_rd zi_WL (b + 10 + 2 * h) 3 = nI (zi_A 4 (10 + 18 * h + 2)) ∧ zi_rd zi_WL (b + 10 + 2 * h) 4 = nI (zi_A 4 7 / 2 ^ h % 2) ∧ ∀ j, j < 15 → zi_rd zi_WL (b + 11 + 2 * h) j = nI (zi_A 4 (10 + 18 * h + 3 + j))) ∧ (zi_rd zi_WL b 4 = nI (zi_A 4 0) ∧ zi_rd zi_WL b 5 = nI (zi_A 4 2) ∧ zi_rd zi_WL b 6 = nI (zi_A 4 1) ∧ zi_rd zi_WL b 9 = nI (zi_A 4 8) ∧ zi_rd zi_WL b 11 = nI (zi_A 4 5) ∧ zi_rd zi_WL b 14 = nI (zi_A 4 3) ∧ zi_rd zi_WL b 15 = nI (zi_A 4 4) - 1 ∧ zi_rd zi_WL b 17 = nI (zi_A 4 6)) ∧ zi_rd zi_WL (b + 5) 0 = -1 ∧ zi_rd zi_WL b 12 = nI 0 ∧ ∀ t ∈ zi_WL, b + 2 ≠ t.1 ∧ b + 3 ≠ t.1 ∧ b + 4 ≠ t.1 ∧ b + 6 ≠ t.1 ∧ b + 9 ≠ t.1
theorem zi_b10 : zi_b 10 := by unfold zi_b; decide +kernel
theorem zi_b28 : zi_b 28 := by unfold zi_b; decide +kernel
theorem zi_cls {b : Nat} {M : fM} (hb : zi_b b) (h : ∀ r, b ≤ r → r ≤ b + 17 → ∀ k, mI M r k = zi_rd zi_WL r k) : Cls M b (zi_A 4) 0 := by
  have z : ∀ k, 82 ≤ k → zi_A 4 k = 0 := fun k hk => by
    unfold zi_A
    rw [if_neg (by omega), if_neg (by omega)]
  obtain ⟨h1, h2, h3, h4, h5⟩ := hb
  refine ⟨fun i hi => ?_, fun p hp => ?_, ?_, ⟨fun c => ?_, fun _ => ?_⟩, fun i hi k hk => ?_, fun i hi k hk => ?_, ⟨?_, by omega, fun k hk => ?_⟩⟩
  · rw [h _ (by omega) (by omega), h _ (by omega) (by omega), h _ (by omega) (by omega), h _ (by omega) (by omega)]
    obtain ⟨a1, a2, a3, a4, a5⟩ := h1 i hi
    refine ⟨a1, a2, a3, a4, fun j hj => ?_⟩
    rw [h _ (by omega) (by omega)]
    exact a5 j hj
  · rw [h _ (by omega) (by omega), h _ (by omega) (by omega), h _ (by omega) (by omega), z _ (by omega), z _ (by omega), z _ (by omega), zi_rd_no fun t ht => (h5 t ht).1, zi_rd_no fun t ht => (h5 t ht).2.1, zi_rd_no fun t ht => (h5 t ht).2.2.1]
    exact ⟨rfl, rfl, rfl⟩
  · unfold RlS
    rw [h _ (by omega) (by omega), h _ (by omega) (by omega), h _ (by omega) (by omega), h _ (by omega) (by omega), h _ (by omega) (by omega), h _ (by omega) (by omega), h _ (by omega) (by omega), h _ (by omega) (by omega)]
    exact h2
  · rw [z _ (by omega)] at c
    omega
  · rw [h _ (by omega) (by omega)]
    exact h3
  · rw [h _ (by omega) (by omega), z _ (by omega), zi_rd_no fun t ht => (h5 t ht).2.2.2.1]
    all_goals rfl
  · rw [h _ (by omega) (by omega), z _ (by omega), zi_rd_no fun t ht => (h5 t ht).2.2.2.2]
    all_goals rfl
  · rw [h _ (by omega) (by omega)]
    exact h4
  · rw [show zi_A 4 5 = 0 from rfl] at hk
    omega
theorem zi_k1 : zi_rd zi_WL 46 1 = 0 ∧ zi_rd zi_WL 70 4 = 0 ∧ zi_rd zi_WL 51 0 = zi_rd zi_WL 70 5 ∧ zi_rd zi_WL 51 1 = zi_rd zi_WL 70 6 := by decide +kernel
theorem zi_k2 : ∀ t ∈ zi_PL, (18 : Nat) ≠ t.1 ∧ (36 : Nat) ≠ t.1 := by decide
theorem zi_lk_o {r k : Nat} : ∀ {l : List (Nat × Nat × Nat)}, (∀ t ∈ l, r ≠ t.1) → zi_lk l r k = none
  | [], _ => rfl
  | t :: l, h => by
    unfold zi_lk
    rw [if_neg (fun c => h t List.mem_cons_self c.1)]
    exact zi_lk_o fun t ht => h t (List.mem_cons_of_mem _ ht)
theorem zi_inv {L : Nat} {X : Nat → Int32} {M M' : fM} (h : Zi L X 82 zi_PL zi_WL M) (e2 : M'.2 = M.2) (er : ∀ r, r ≠ 71 → r ≠ 72 → ∀ k, mI M' r k = mI M r k) (m1 : Mdl M' 71 (zi_A 4)) (m2 : Mdl M' 72 (zi_A 4)) : Inv L X 0 M' := by
  have hS : Str L M' := by
    unfold Str
    rw [e2]
    exact zi_str h zi_ptl
  have hr : ∀ r, 6 ≤ r → r ≠ 71 → r ≠ 72 → ∀ k, mI M' r k = zi_rd zi_WL r k := fun r a b c k => (er r b c k).trans (h.2.2.2.2.2.1 r a k)
  obtain ⟨k1, k2, k3, k4⟩ := zi_k1
  have z3 : zi_A 4 3 = 0 := rfl
  refine ⟨zi_A 4, zi_A 4, 0, 0, 0, fun _ => 0, hS, h.2.2.2.2.2.2.cg (fun q hq k => er q (by omega) (by omega) k) (fun k => by unfold mJ; rw [e2]), zi_cls zi_b10 (fun r a b k => hr r (by omega) (by omega) (by omega) k), m1, zi_cls zi_b28 (fun r a b k => hr r (by omega) (by omega) (by omega) k), m2, zi_okk, zi_okk, ⟨by omega, ?_, ?_, fun k hk => absurd hk (by omega)⟩, ⟨?_, ?_⟩, ⟨Nat.le_refl _, fun i hi => ?_, fun i hi => ?_, fun r hr2 i hi y e => ?_⟩⟩
  · rw [hr _ (by omega) (by omega) (by omega), k1]
    all_goals rfl
  · rw [hr _ (by omega) (by omega) (by omega), k2]
    all_goals rfl
  · rw [hr _ (by omega) (by omega) (by omega), hr _ (by omega) (by omega) (by omega), k3]
  · rw [hr _ (by omega) (by omega) (by omega), hr _ (by omega) (by omega) (by omega), k4]
  · rw [z3] at hi
    omega
  · rw [z3] at hi
    omega
  · have e3 : mP M' r i = zi_lk zi_PL r i := by
      unfold mP
      rw [e2]
      exact h.2.2.1 r i
    rw [e3] at e
    rcases hr2 with rfl | rfl
    · rw [zi_lk_o fun t ht => (zi_k2 t ht).1] at e
      cases e
    · rw [zi_lk_o fun t ht => (zi_k2 t ht).2] at e
      cases e
theorem zi_run {L : Nat} {X : Nat → Int32} {M : fM} (hL : L ≤ 3584) (h : Inv L X 0 M) : l_L_law_18 (fun x _ => x = 1) 513 0 6 70 (0 : Int32) M := by
  have q := lp_run (φ := fun x _ => x = 1) hL (fun _ => rfl) 512 0 M rfl h
  exact q
set_option maxRecDepth 100000 in
set_option maxHeartbeats 4000000 in
theorem zi_law {L : Nat} {X : Nat → Int32} {M : fM} (hL : L ≤ 3584) (hB : Zi L X 6 [] [] M) : w_L_law 0 M (fun x _ => x = 1) := by
  refine zi_nw hB 5 7 rfl rfl rfl fun M hB => ?_
  refine zi_nw hB 6 8 rfl rfl rfl fun M hB => ?_
  refine zi_nw hB 7 9 rfl rfl rfl fun M hB => ?_
  refine And.intro (zi_o hB (r := 6) (by decide) (by decide) rfl) ?_
  refine zi_p (r := 7) (k := 0) (v := 8) hB (by decide) fun M hB => ?_
  refine zi_nw hB 8 10 rfl rfl rfl fun M hB => ?_
  refine zi_p (r := 7) (k := 1) (v := 9) hB (by decide) fun M hB => ?_
  refine zi_nw hB 9 11 rfl rfl rfl fun M hB => ?_
  refine zi_nw hB 10 12 rfl rfl rfl fun M hB => ?_
  refine And.intro (zi_o hB (r := 9) (by decide) (by decide) rfl) ?_
  refine zi_p (r := 10) (k := 0) (v := 11) hB (by decide) fun M hB => ?_
  refine zi_nw hB 11 13 rfl rfl rfl fun M hB => ?_
  refine zi_p (r := 10) (k := 1) (v := 12) hB (by decide) fun M hB => ?_
  refine zi_nw hB 12 14 rfl rfl rfl fun M hB => ?_
  refine zi_p (r := 10) (k := 2) (v := 13) hB (by decide) fun M hB => ?_
  refine zi_nw hB 13 15 rfl rfl rfl fun M hB => ?_
  refine zi_p (r := 10) (k := 3) (v := 14) hB (by decide) fun M hB => ?_
  refine zi_i (r := 10) (k := 5) (v := (13)) hB (by decide) (by decide) fun M hB => ?_
  refine zi_nw hB 14 16 rfl rfl rfl fun M hB => ?_
  refine zi_p (r := 10) (k := 7) (v := 15) hB (by decide) fun M hB => ?_
  refine zi_nw hB 15 17 rfl rfl rfl fun M hB => ?_
  refine zi_p (r := 10) (k := 8) (v := 16) hB (by decide) fun M hB => ?_
  refine zi_nw hB 16 18 rfl rfl rfl fun M hB => ?_
  refine zi_p (r := 10) (k := 10) (v := 17) hB (by decide) fun M hB => ?_
  refine zi_nw hB 17 19 rfl rfl rfl fun M hB => ?_
  refine zi_p (r := 10) (k := 13) (v := 18) hB (by decide) fun M hB => ?_
  refine zi_i (r := 10) (k := 15) (v := (-1)) hB (by decide) (by decide) fun M hB => ?_
  refine zi_nw hB 18 20 rfl rfl rfl fun M hB => ?_
  refine zi_p (r := 10) (k := 16) (v := 19) hB (by decide) fun M hB => ?_
  refine zi_d (r := 10) (k := 0) (y := 11) hB (by decide) ?_
  refine zi_nw hB 19 21 rfl rfl rfl fun M hB => ?_
  refine And.intro (zi_o hB (r := 19) (by decide) (by decide) rfl) ?_
  refine zi_i (r := 20) (k := 0) (v := (12)) hB (by decide) (by decide) fun M hB => ?_
  refine zi_nw hB 20 22 rfl rfl rfl fun M hB => ?_
  refine zi_p (r := 20) (k := 1) (v := 21) hB (by decide) fun M hB => ?_
  refine zi_d (r := 20) (k := 1) (y := 21) hB (by decide) ?_
  refine zi_f (r := 20) (v := 5) hB (by decide) (by decide) rfl (by decide) fun M hB => ?_
  refine And.intro (by decide) ?_
  refine And.intro (zi_a hB (r := 10) (by decide) rfl (vp_lit (by decide))) ?_
  refine And.intro (zi_o hB (r := 19) (by decide) (by decide) rfl) ?_
  refine zi_p (r := 11) (k := 0) (v := 20) hB (by decide) fun M hB => ?_
  refine And.intro (zi_o hB (r := 9) (by decide) (by decide) rfl) ?_
  refine zi_d (r := 10) (k := 0) (y := 11) hB (by decide) ?_
  refine zi_nw hB 21 23 rfl rfl rfl fun M hB => ?_
  refine And.intro (zi_o hB (r := 21) (by decide) (by decide) rfl) ?_
  refine zi_i (r := 22) (k := 0) (v := (12)) hB (by decide) (by decide) fun M hB => ?_
  refine zi_nw hB 22 24 rfl rfl rfl fun M hB => ?_
  refine zi_p (r := 22) (k := 1) (v := 23) hB (by decide) fun M hB => ?_
  refine zi_d (r := 22) (k := 1) (y := 23) hB (by decide) ?_
  refine zi_f (r := 22) (v := 5) hB (by decide) (by decide) rfl (by decide) fun M hB => ?_
  refine And.intro (by decide) ?_
  refine And.intro (zi_a hB (r := 10) (by decide) rfl (vp_lit (by decide))) ?_
  refine And.intro (zi_o hB (r := 21) (by decide) (by decide) rfl) ?_
  refine zi_p (r := 11) (k := 1) (v := 22) hB (by decide) fun M hB => ?_
  refine And.intro (zi_o hB (r := 9) (by decide) (by decide) rfl) ?_
  refine zi_d (r := 10) (k := 0) (y := 11) hB (by decide) ?_
  refine zi_nw hB 23 25 rfl rfl rfl fun M hB => ?_
  refine And.intro (zi_o hB (r := 23) (by decide) (by decide) rfl) ?_
  refine zi_i (r := 24) (k := 0) (v := (12)) hB (by decide) (by decide) fun M hB => ?_
  refine zi_nw hB 24 26 rfl rfl rfl fun M hB => ?_
  refine zi_p (r := 24) (k := 1) (v := 25) hB (by decide) fun M hB => ?_
  refine zi_d (r := 24) (k := 1) (y := 25) hB (by decide) ?_
  refine zi_f (r := 24) (v := 5) hB (by decide) (by decide) rfl (by decide) fun M hB => ?_
  refine And.intro (by decide) ?_
  refine And.intro (zi_a hB (r := 10) (by decide) rfl (vp_lit (by decide))) ?_
  refine And.intro (zi_o hB (r := 23) (by decide) (by decide) rfl) ?_
  refine zi_p (r := 11) (k := 2) (v := 24) hB (by decide) fun M hB => ?_
  refine And.intro (zi_o hB (r := 9) (by decide) (by decide) rfl) ?_
  refine zi_d (r := 10) (k := 0) (y := 11) hB (by decide) ?_
  refine zi_nw hB 25 27 rfl rfl rfl fun M hB => ?_
  refine And.intro (zi_o hB (r := 25) (by decide) (by decide) rfl) ?_
  refine zi_i (r := 26) (k := 0) (v := (12)) hB (by decide) (by decide) fun M hB => ?_
  refine zi_nw hB 26 28 rfl rfl rfl fun M hB => ?_
  refine zi_p (r := 26) (k := 1) (v := 27) hB (by decide) fun M hB => ?_
  refine zi_d (r := 26) (k := 1) (y := 27) hB (by decide) ?_
  refine zi_f (r := 26) (v := 5) hB (by decide) (by decide) rfl (by decide) fun M hB => ?_
  refine And.intro (by decide) ?_
  refine And.intro (zi_a hB (r := 10) (by decide) rfl (vp_lit (by decide))) ?_
  refine And.intro (zi_o hB (r := 25) (by decide) (by decide) rfl) ?_
  refine zi_p (r := 11) (k := 3) (v := 26) hB (by decide) fun M hB => ?_
  refine And.intro (zi_o hB (r := 9) (by decide) (by decide) rfl) ?_
  refine zi_d (r := 10) (k := 7) (y := 15) hB (by decide) ?_
  refine And.intro (by decide) ?_
  refine And.intro (zi_a hB (r := 14) (by decide) rfl (vp_lit (by decide))) ?_
  refine zi_i (r := 15) (k := 0) (v := (-1)) hB (by decide) (by decide) fun M hB => ?_
  refine And.intro (zi_o hB (r := 5) (by decide) (by decide) rfl) ?_
  refine zi_p (r := 6) (k := 0) (v := 10) hB (by decide) fun M hB => ?_
  refine zi_nw hB 27 29 rfl rfl rfl fun M hB => ?_
  refine zi_nw hB 28 30 rfl rfl rfl fun M hB => ?_
  refine And.intro (zi_o hB (r := 27) (by decide) (by decide) rfl) ?_
  refine zi_p (r := 28) (k := 0) (v := 29) hB (by decide) fun M hB => ?_
  refine zi_nw hB 29 31 rfl rfl rfl fun M hB => ?_
  refine zi_p (r := 28) (k := 1) (v := 30) hB (by decide) fun M hB => ?_
  refine zi_nw hB 30 32 rfl rfl rfl fun M hB => ?_
  refine zi_p (r := 28) (k := 2) (v := 31) hB (by decide) fun M hB => ?_
  refine zi_nw hB 31 33 rfl rfl rfl fun M hB => ?_
  refine zi_p (r := 28) (k := 3) (v := 32) hB (by decide) fun M hB => ?_
  refine zi_i (r := 28) (k := 5) (v := (13)) hB (by decide) (by decide) fun M hB => ?_
  refine zi_nw hB 32 34 rfl rfl rfl fun M hB => ?_
  refine zi_p (r := 28) (k := 7) (v := 33) hB (by decide) fun M hB => ?_
  refine zi_nw hB 33 35 rfl rfl rfl fun M hB => ?_
  refine zi_p (r := 28) (k := 8) (v := 34) hB (by decide) fun M hB => ?_
  refine zi_nw hB 34 36 rfl rfl rfl fun M hB => ?_
  refine zi_p (r := 28) (k := 10) (v := 35) hB (by decide) fun M hB => ?_
  refine zi_nw hB 35 37 rfl rfl rfl fun M hB => ?_
  refine zi_p (r := 28) (k := 13) (v := 36) hB (by decide) fun M hB => ?_
  refine zi_i (r := 28) (k := 15) (v := (-1)) hB (by decide) (by decide) fun M hB => ?_
  refine zi_nw hB 36 38 rfl rfl rfl fun M hB => ?_
  refine zi_p (r := 28) (k := 16) (v := 37) hB (by decide) fun M hB => ?_
  refine zi_d (r := 28) (k := 0) (y := 29) hB (by decide) ?_
  refine zi_nw hB 37 39 rfl rfl rfl fun M hB => ?_
  refine And.intro (zi_o hB (r := 37) (by decide) (by decide) rfl) ?_
  refine zi_i (r := 38) (k := 0) (v := (12)) hB (by decide) (by decide) fun M hB => ?_
  refine zi_nw hB 38 40 rfl rfl rfl fun M hB => ?_
  refine zi_p (r := 38) (k := 1) (v := 39) hB (by decide) fun M hB => ?_
  refine zi_d (r := 38) (k := 1) (y := 39) hB (by decide) ?_
  refine zi_f (r := 38) (v := 5) hB (by decide) (by decide) rfl (by decide) fun M hB => ?_
  refine And.intro (by decide) ?_
  refine And.intro (zi_a hB (r := 28) (by decide) rfl (vp_lit (by decide))) ?_
  refine And.intro (zi_o hB (r := 37) (by decide) (by decide) rfl) ?_
  refine zi_p (r := 29) (k := 0) (v := 38) hB (by decide) fun M hB => ?_
  refine And.intro (zi_o hB (r := 27) (by decide) (by decide) rfl) ?_
  refine zi_d (r := 28) (k := 0) (y := 29) hB (by decide) ?_
  refine zi_nw hB 39 41 rfl rfl rfl fun M hB => ?_
  refine And.intro (zi_o hB (r := 39) (by decide) (by decide) rfl) ?_
  refine zi_i (r := 40) (k := 0) (v := (12)) hB (by decide) (by decide) fun M hB => ?_
  refine zi_nw hB 40 42 rfl rfl rfl fun M hB => ?_
  refine zi_p (r := 40) (k := 1) (v := 41) hB (by decide) fun M hB => ?_
  refine zi_d (r := 40) (k := 1) (y := 41) hB (by decide) ?_
  refine zi_f (r := 40) (v := 5) hB (by decide) (by decide) rfl (by decide) fun M hB => ?_
  refine And.intro (by decide) ?_
  refine And.intro (zi_a hB (r := 28) (by decide) rfl (vp_lit (by decide))) ?_
  refine And.intro (zi_o hB (r := 39) (by decide) (by decide) rfl) ?_
  refine zi_p (r := 29) (k := 1) (v := 40) hB (by decide) fun M hB => ?_
  refine And.intro (zi_o hB (r := 27) (by decide) (by decide) rfl) ?_
  refine zi_d (r := 28) (k := 0) (y := 29) hB (by decide) ?_
  refine zi_nw hB 41 43 rfl rfl rfl fun M hB => ?_
  refine And.intro (zi_o hB (r := 41) (by decide) (by decide) rfl) ?_
  refine zi_i (r := 42) (k := 0) (v := (12)) hB (by decide) (by decide) fun M hB => ?_
  refine zi_nw hB 42 44 rfl rfl rfl fun M hB => ?_
  refine zi_p (r := 42) (k := 1) (v := 43) hB (by decide) fun M hB => ?_
  refine zi_d (r := 42) (k := 1) (y := 43) hB (by decide) ?_
  refine zi_f (r := 42) (v := 5) hB (by decide) (by decide) rfl (by decide) fun M hB => ?_
  refine And.intro (by decide) ?_
  refine And.intro (zi_a hB (r := 28) (by decide) rfl (vp_lit (by decide))) ?_
  refine And.intro (zi_o hB (r := 41) (by decide) (by decide) rfl) ?_
  refine zi_p (r := 29) (k := 2) (v := 42) hB (by decide) fun M hB => ?_
  refine And.intro (zi_o hB (r := 27) (by decide) (by decide) rfl) ?_
  refine zi_d (r := 28) (k := 0) (y := 29) hB (by decide) ?_
  refine zi_nw hB 43 45 rfl rfl rfl fun M hB => ?_
  refine And.intro (zi_o hB (r := 43) (by decide) (by decide) rfl) ?_
  refine zi_i (r := 44) (k := 0) (v := (12)) hB (by decide) (by decide) fun M hB => ?_
  refine zi_nw hB 44 46 rfl rfl rfl fun M hB => ?_
  refine zi_p (r := 44) (k := 1) (v := 45) hB (by decide) fun M hB => ?_
  refine zi_d (r := 44) (k := 1) (y := 45) hB (by decide) ?_
  refine zi_f (r := 44) (v := 5) hB (by decide) (by decide) rfl (by decide) fun M hB => ?_
  refine And.intro (by decide) ?_
  refine And.intro (zi_a hB (r := 28) (by decide) rfl (vp_lit (by decide))) ?_
  refine And.intro (zi_o hB (r := 43) (by decide) (by decide) rfl) ?_
  refine zi_p (r := 29) (k := 3) (v := 44) hB (by decide) fun M hB => ?_
  refine And.intro (zi_o hB (r := 27) (by decide) (by decide) rfl) ?_
  refine zi_d (r := 28) (k := 7) (y := 33) hB (by decide) ?_
  refine And.intro (by decide) ?_
  refine And.intro (zi_a hB (r := 32) (by decide) rfl (vp_lit (by decide))) ?_
  refine zi_i (r := 33) (k := 0) (v := (-1)) hB (by decide) (by decide) fun M hB => ?_
  refine And.intro (zi_o hB (r := 5) (by decide) (by decide) rfl) ?_
  refine zi_p (r := 6) (k := 1) (v := 28) hB (by decide) fun M hB => ?_
  refine zi_nw hB 45 47 rfl rfl rfl fun M hB => ?_
  refine zi_nw hB 46 48 rfl rfl rfl fun M hB => ?_
  refine And.intro (zi_o hB (r := 45) (by decide) (by decide) rfl) ?_
  refine zi_p (r := 46) (k := 0) (v := 47) hB (by decide) fun M hB => ?_
  refine zi_nw hB 47 49 rfl rfl rfl fun M hB => ?_
  refine zi_p (r := 46) (k := 2) (v := 48) hB (by decide) fun M hB => ?_
  refine zi_nw hB 48 50 rfl rfl rfl fun M hB => ?_
  refine zi_p (r := 46) (k := 3) (v := 49) hB (by decide) fun M hB => ?_
  refine zi_nw hB 49 51 rfl rfl rfl fun M hB => ?_
  refine zi_p (r := 46) (k := 4) (v := 50) hB (by decide) fun M hB => ?_
  refine And.intro (zi_o hB (r := 5) (by decide) (by decide) rfl) ?_
  refine zi_p (r := 6) (k := 2) (v := 46) hB (by decide) fun M hB => ?_
  refine zi_nw hB 50 52 rfl rfl rfl fun M hB => ?_
  refine zi_d (r := 6) (k := 2) (y := 46) hB (by decide) ?_
  refine And.intro (zi_o hB (r := 50) (by decide) (by decide) rfl) ?_
  refine zi_i (r := 51) (k := 0) (v := (-1)) hB (by decide) (by decide) fun M hB => ?_
  refine zi_i (r := 51) (k := 1) (v := (-1)) hB (by decide) (by decide) fun M hB => ?_
  refine zi_nw hB 51 53 rfl rfl rfl fun M hB => ?_
  refine zi_p (r := 51) (k := 3) (v := 52) hB (by decide) fun M hB => ?_
  refine zi_nw hB 52 54 rfl rfl rfl fun M hB => ?_
  refine zi_p (r := 51) (k := 4) (v := 53) hB (by decide) fun M hB => ?_
  refine zi_nw hB 53 55 rfl rfl rfl fun M hB => ?_
  refine zi_p (r := 51) (k := 5) (v := 54) hB (by decide) fun M hB => ?_
  refine zi_nw hB 54 56 rfl rfl rfl fun M hB => ?_
  refine zi_p (r := 51) (k := 6) (v := 55) hB (by decide) fun M hB => ?_
  refine zi_nw hB 55 57 rfl rfl rfl fun M hB => ?_
  refine zi_p (r := 51) (k := 7) (v := 56) hB (by decide) fun M hB => ?_
  refine zi_p (r := 51) (k := 2) (v := 46) hB (by decide) fun M hB => ?_
  refine And.intro (zi_o hB (r := 5) (by decide) (by decide) rfl) ?_
  refine zi_p (r := 6) (k := 3) (v := 51) hB (by decide) fun M hB => ?_
  refine zi_nw hB 56 58 rfl rfl rfl fun M hB => ?_
  refine zi_d (r := 6) (k := 0) (y := 10) hB (by decide) ?_
  refine And.intro (zi_o hB (r := 56) (by decide) (by decide) rfl) ?_
  refine zi_p (r := 57) (k := 0) (v := 10) hB (by decide) fun M hB => ?_
  refine zi_p (r := 57) (k := 1) (v := 7) hB (by decide) fun M hB => ?_
  refine And.intro (zi_o hB (r := 5) (by decide) (by decide) rfl) ?_
  refine zi_p (r := 6) (k := 4) (v := 57) hB (by decide) fun M hB => ?_
  refine zi_nw hB 57 59 rfl rfl rfl fun M hB => ?_
  refine zi_d (r := 6) (k := 0) (y := 10) hB (by decide) ?_
  refine zi_nw hB 58 60 rfl rfl rfl fun M hB => ?_
  refine And.intro (zi_o hB (r := 57) (by decide) (by decide) rfl) ?_
  refine zi_p (r := 58) (k := 7) (v := 59) hB (by decide) fun M hB => ?_
  refine zi_nw hB 59 61 rfl rfl rfl fun M hB => ?_
  refine zi_p (r := 58) (k := 8) (v := 60) hB (by decide) fun M hB => ?_
  refine zi_nw hB 60 62 rfl rfl rfl fun M hB => ?_
  refine zi_p (r := 58) (k := 9) (v := 61) hB (by decide) fun M hB => ?_
  refine zi_nw hB 61 63 rfl rfl rfl fun M hB => ?_
  refine zi_p (r := 58) (k := 10) (v := 62) hB (by decide) fun M hB => ?_
  refine zi_nw hB 62 64 rfl rfl rfl fun M hB => ?_
  refine zi_p (r := 58) (k := 11) (v := 63) hB (by decide) fun M hB => ?_
  refine zi_p (r := 58) (k := 1) (v := 10) hB (by decide) fun M hB => ?_
  refine zi_p (r := 58) (k := 2) (v := 7) hB (by decide) fun M hB => ?_
  refine And.intro (zi_o hB (r := 5) (by decide) (by decide) rfl) ?_
  refine zi_p (r := 6) (k := 5) (v := 58) hB (by decide) fun M hB => ?_
  refine zi_nw hB 63 65 rfl rfl rfl fun M hB => ?_
  refine zi_d (r := 6) (k := 0) (y := 10) hB (by decide) ?_
  refine zi_nw hB 64 66 rfl rfl rfl fun M hB => ?_
  refine And.intro (zi_o hB (r := 63) (by decide) (by decide) rfl) ?_
  refine zi_p (r := 64) (k := 2) (v := 65) hB (by decide) fun M hB => ?_
  refine zi_p (r := 64) (k := 0) (v := 10) hB (by decide) fun M hB => ?_
  refine zi_p (r := 64) (k := 1) (v := 7) hB (by decide) fun M hB => ?_
  refine And.intro (zi_o hB (r := 5) (by decide) (by decide) rfl) ?_
  refine zi_p (r := 6) (k := 6) (v := 64) hB (by decide) fun M hB => ?_
  refine zi_nw hB 65 67 rfl rfl rfl fun M hB => ?_
  refine zi_d (r := 6) (k := 0) (y := 10) hB (by decide) ?_
  refine zi_nw hB 66 68 rfl rfl rfl fun M hB => ?_
  refine And.intro (zi_o hB (r := 65) (by decide) (by decide) rfl) ?_
  refine zi_p (r := 66) (k := 2) (v := 67) hB (by decide) fun M hB => ?_
  refine zi_nw hB 67 69 rfl rfl rfl fun M hB => ?_
  refine zi_p (r := 66) (k := 3) (v := 68) hB (by decide) fun M hB => ?_
  refine zi_nw hB 68 70 rfl rfl rfl fun M hB => ?_
  refine zi_p (r := 66) (k := 4) (v := 69) hB (by decide) fun M hB => ?_
  refine zi_p (r := 66) (k := 0) (v := 10) hB (by decide) fun M hB => ?_
  refine zi_p (r := 66) (k := 1) (v := 7) hB (by decide) fun M hB => ?_
  refine And.intro (zi_o hB (r := 5) (by decide) (by decide) rfl) ?_
  refine zi_p (r := 6) (k := 7) (v := 66) hB (by decide) fun M hB => ?_
  refine zi_nw hB 69 71 rfl rfl rfl fun M hB => ?_
  refine zi_nw hB 70 72 rfl rfl rfl fun M hB => ?_
  refine And.intro (zi_o hB (r := 69) (by decide) (by decide) rfl) ?_
  refine zi_p (r := 70) (k := 0) (v := 71) hB (by decide) fun M hB => ?_
  refine zi_nw hB 71 73 rfl rfl rfl fun M hB => ?_
  refine zi_p (r := 70) (k := 1) (v := 72) hB (by decide) fun M hB => ?_
  refine zi_nw hB 72 74 rfl rfl rfl fun M hB => ?_
  refine zi_p (r := 70) (k := 2) (v := 73) hB (by decide) fun M hB => ?_
  refine zi_nw hB 73 75 rfl rfl rfl fun M hB => ?_
  refine zi_p (r := 70) (k := 3) (v := 74) hB (by decide) fun M hB => ?_
  refine zi_i (r := 70) (k := 5) (v := (-1)) hB (by decide) (by decide) fun M hB => ?_
  refine zi_i (r := 70) (k := 6) (v := (-1)) hB (by decide) (by decide) fun M hB => ?_
  refine zi_nw hB 74 76 rfl rfl rfl fun M hB => ?_
  refine zi_p (r := 70) (k := 16) (v := 75) hB (by decide) fun M hB => ?_
  refine zi_nw hB 75 77 rfl rfl rfl fun M hB => ?_
  refine zi_p (r := 70) (k := 21) (v := 76) hB (by decide) fun M hB => ?_
  refine zi_nw hB 76 78 rfl rfl rfl fun M hB => ?_
  refine zi_p (r := 70) (k := 22) (v := 77) hB (by decide) fun M hB => ?_
  refine zi_nw hB 77 79 rfl rfl rfl fun M hB => ?_
  refine zi_p (r := 70) (k := 23) (v := 78) hB (by decide) fun M hB => ?_
  refine zi_nw hB 78 80 rfl rfl rfl fun M hB => ?_
  refine zi_p (r := 70) (k := 24) (v := 79) hB (by decide) fun M hB => ?_
  refine zi_nw hB 79 81 rfl rfl rfl fun M hB => ?_
  refine zi_p (r := 70) (k := 30) (v := 80) hB (by decide) fun M hB => ?_
  refine zi_nw hB 80 82 rfl rfl rfl fun M hB => ?_
  refine zi_p (r := 70) (k := 31) (v := 81) hB (by decide) fun M hB => ?_
  refine zi_d (r := 70) (k := 0) (y := 71) hB (by decide) ?_
  refine And.intro (by decide) ?_
  refine And.intro (zi_a hB (r := 70) (by decide) rfl (vp_lit (by decide))) ?_
  refine zi_i (r := 71) (k := 2) (v := (13)) hB (by decide) (by decide) fun M hB => ?_
  refine zi_d (r := 70) (k := 0) (y := 71) hB (by decide) ?_
  refine And.intro (by decide) ?_
  refine And.intro (zi_a hB (r := 70) (by decide) rfl (vp_lit (by decide))) ?_
  refine zi_i (r := 71) (k := 4) (v := (-1)) hB (by decide) (by decide) fun M hB => ?_
  have hB : Zi L X 82 zi_PL zi_WL _ := hB
  refine zi_loop (zi_str hB zi_ptl) (zi_m0 hB) fun M' e2 er m1 m2 => ?_
  exact ⟨513, Nat.le_refl _, zi_run hL (zi_inv hB e2 er m1 m2)⟩
