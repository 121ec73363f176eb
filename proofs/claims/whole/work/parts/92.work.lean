/-! ===== the one's stack ===== -/
theorem nI_an {a b : Nat} (h : b ≤ a) : nI a + -nI b = nI (a - b) := by
  rw [← nI_sub h]
  exact (Int32.sub_eq_add_neg _ _).symm
theorem c_cellN {r n k : Nat} {i : Int32} {M : fM} {φ : Int32 → fM → Prop} (hs : mS M r = some (12, n)) (hi : i = nI k) (hk : k < n) (hn : n < 2147483648) (h : φ (mI M r k) M) : w_X10_cell r i M φ := by
  subst hi
  refine iF_f (fun c => ?_) (lenA_of hs (iF_f (fun c => absurd ((nIle hn (by omega)).mp c) (by omega)) ⟨inA_of hs (vp_nI hk hn), ?_⟩))
  · have c2 := (lt_toInt _ _).mp c
    rw [toInt_nI (by omega)] at c2
    have e2 : (0 : Int32).toInt = 0 := rfl
    omega
  · rw [ix_nI (by omega)]; exact h
theorem c_putN {r n k : Nat} {i v : Int32} {M : fM} {φ : fM → Prop} (h6 : 6 ≤ r) (hs : mS M r = some (12, n)) (hi : i = nI k) (hk : k < n) (hn : n < 2147483648) (h : φ (wI M r k v)) : w_X10_put r i v M φ := by
  subst hi
  refine iF_f (fun c => ?_) (lenA_of hs (iF_f (fun c => absurd ((nIle hn (by omega)).mp c) (by omega)) ⟨h6, inA_of hs (vp_nI hk hn), st_of ?_⟩))
  · have c2 := (lt_toInt _ _).mp c
    rw [toInt_nI (by omega)] at c2
    have e2 : (0 : Int32).toInt = 0 := rfl
    omega
  · rw [ix_nI (by omega)]; exact h
def stk (M : fM) (r : Nat) : List Int → Prop
  | [] => True
  | v :: l => mI M r l.length = iI v ∧ stk M r l
theorem stk_cg {M M2 : fM} {r : Nat} : ∀ (l : List Int), (∀ j, j < l.length → mI M2 r j = mI M r j) → stk M r l → stk M2 r l
  | [], _, _ => trivial
  | v :: l, hf, h => ⟨(hf l.length (by simp)).trans h.1, stk_cg l (fun j hj => hf j (by simp; omega)) h.2⟩
theorem mg_b : ∀ (k : List Bool) (vs : List Int) (ts : List Bool), wf k vs ts → ∀ v ∈ mg k vs ts, -1000000 ≤ v ∧ v ≤ 1000000
  | [], _, _, _ => by intro v hv; simp [mg] at hv
  | false :: k, vs, ts, h => by
    obtain ⟨v, l, rfl, hb, h⟩ := h
    intro w hw
    simp only [mg, List.mem_cons] at hw
    rcases hw with rfl | hw
    · exact hb
    · exact mg_b k l ts h w hw
  | true :: k, vs, ts, h => by
    obtain ⟨t, l, rfl, h⟩ := h
    intro w hw
    simp only [mg, List.mem_cons] at hw
    rcases hw with rfl | hw
    · cases t
      · simp [b01]
      · simp [b01]
    · exact mg_b k vs l h w hw
theorem c_clip {z : Int} {M : fM} {φ : Int32 → fM → Prop} (hz : -1000000000000000 ≤ z ∧ z ≤ 1000000000000000) (h : φ (iI (clp z)) M) : j_X1_joined_295 φ (iJ z) M := by
  unfold j_X1_joined_295
  have e1 : (1000000 : Int64) = iJ 1000000 := rfl
  have e2 : (-1000000 : Int64) = iJ (-1000000) := rfl
  rw [e2, e1]
  unfold clp at h
  rcases Int.lt_trichotomy z 1000000 with q | q | q
  · rw [lg_lt (by omega) (by omega) q]
    rw [if_neg (by omega)] at h
    refine iF_t (by decide) ?_
    rcases Int.lt_trichotomy z (-1000000) with p | p | p
    · rw [lg_lt (by omega) (by omega) p]
      rw [if_pos p] at h
      refine iF_f (by decide) ?_
      rw [J2I (by omega) (by omega)]
      exact h
    · rw [← p, lg_eq]
      rw [if_neg (by omega)] at h
      refine iF_t (by decide) ?_
      rw [J2I (by omega) (by omega)]
      exact h
    · rw [lg_gt (by omega) (by omega) p]
      rw [if_neg (by omega)] at h
      refine iF_t (by decide) ?_
      rw [J2I (by omega) (by omega)]
      exact h
  · subst q
    rw [lg_eq, lg_gt (by omega) (by omega) (by omega)]
    refine iF_t (by decide) (iF_t (by decide) ?_)
    rw [J2I (by omega) (by omega)]
    exact h
  · rw [lg_gt (by omega) (by omega) q]
    rw [if_pos q] at h
    refine iF_f (by decide) ?_
    rw [J2I (by omega) (by omega)]
    exact h
theorem clp_b01 (t : Bool) : clp (b01 t) = b01 t := by cases t <;> rfl
theorem mul_b {a b : Int} (ha : -1000000 ≤ a ∧ a ≤ 1000000) (hb : -1000000 ≤ b ∧ b ≤ 1000000) : -1000000000000 ≤ a * b ∧ a * b ≤ 1000000000000 := by
  have h1 : a.natAbs ≤ 1000000 := by omega
  have h2 : b.natAbs ≤ 1000000 := by omega
  have h3 := Nat.mul_le_mul h1 h2
  have h4 := Int.natAbs_mul a b
  omega
theorem lg_z0 {z : Int} (h : z = 0) : lg_cmp (iJ z) (iJ 0) = 0 := by subst h; exact lg_eq _
theorem lg_z1 {z : Int} (hz : -1000000 ≤ z ∧ z ≤ 1000000) (h : z ≠ 0) : ¬ lg_cmp (iJ z) (iJ 0) = 0 := by
  rcases Int.lt_trichotomy z 0 with q | q | q
  · rw [lg_lt (by omega) (by omega) q]; decide
  · exact absurd q h
  · rw [lg_gt (by omega) (by omega) q]; decide
theorem c_joined {o : Nat} {a b : Int} {M : fM} {c : Int32} {φ : Int32 → fM → Prop} (hc : c = -nI (tok o)) (ho : (4 ≤ o ∧ o ≤ 7) ∨ (10 ≤ o ∧ o ≤ 15) ∨ o = 21 ∨ o = 22) (ha : -1000000 ≤ a ∧ a ≤ 1000000) (hb : -1000000 ≤ b ∧ b ≤ 1000000) (h : φ (iI (joI o a b)) M) : w_X1_joined c (iJ a) (iJ b) M φ := by
  subst hc
  have e0 : (0 : Int64) = iJ 0 := rfl
  have e1 : (1 : Int64) = iJ 1 := rfl
  have ho2 : o = 4 ∨ o = 5 ∨ o = 6 ∨ o = 7 ∨ o = 10 ∨ o = 11 ∨ o = 12 ∨ o = 13 ∨ o = 14 ∨ o = 15 ∨ o = 21 ∨ o = 22 := by omega
  have hm := mul_b ha hb
  have c0 : ∀ t : Bool, t = false → φ (iI (b01 t)) M → j_X1_joined_295 φ (iJ 0) M := fun t e hh => c_clip (by omega) (by subst e; exact hh)
  have c1 : ∀ t : Bool, t = true → φ (iI (b01 t)) M → j_X1_joined_295 φ (iJ 1) M := fun t e hh => c_clip (by omega) (by subst e; exact hh)
  unfold w_X1_joined j_X1_joined_277 j_X1_joined_261 j_X1_joined_245 j_X1_joined_229 j_X1_joined_213 j_X1_joined_153 j_X1_joined_196 j_X1_joined_170 j_X1_joined_282
  simp only [j_X1_joined_175, j_X1_joined_197, j_X1_joined_293]
  rw [e0, e1]
  rcases ho2 with rfl | rfl | rfl | rfl | rfl | rfl | rfl | rfl | rfl | rfl | rfl | rfl
  all_goals repeat (first | refine iF_t (show -nI (tok _) = _ by decide) ?_ | refine iF_f (show ¬ (-nI (tok _) = _) by decide) ?_)
  · refine nm_of ?_
    rw [iJ_add]
    exact c_clip (by omega) h
  · refine nm_of ?_
    rw [iJ_sub]
    exact c_clip (by omega) h
  · refine nm_of ?_
    rw [iJ_mul]
    exact c_clip (by omega) h
  · by_cases hb0 : b = 0
    · subst hb0
      rw [lg_eq]
      exact iF_t rfl (c_clip (by omega) (by simpa [joI, opI, clp] using h))
    · have hq := Int.natAbs_tdiv_le_natAbs a b
      have hne : ¬ iJ b = 0 := fun c => hb0 (by
        have c2 := congrArg Int64.toInt c
        rw [iJ_t (by omega) (by omega)] at c2
        exact c2)
      have hl : ¬ lg_cmp (iJ b) (iJ 0) = 0 := by
        rcases Int.lt_trichotomy b 0 with q | q | q
        · rw [lg_lt (by omega) (by omega) q]; decide
        · exact absurd q hb0
        · rw [lg_gt (by omega) (by omega) q]; decide
      refine iF_f hl ⟨hne, ?_⟩
      rw [iJ_div (by omega) (by omega)]
      exact c_clip (by omega) (by simpa [joI, opI, hb0] using h)
  all_goals first
    | (rcases Int.lt_trichotomy a b with q | q | q
       · rw [lg_lt (by omega) (by omega) q]
         first | exact iF_t (by decide) (c1 _ (by simp [asB]; omega) h) | exact iF_t (by decide) (c0 _ (by simp [asB]; omega) h) | exact iF_f (by decide) (c1 _ (by simp [asB]; omega) h) | exact iF_f (by decide) (c0 _ (by simp [asB]; omega) h)
       · subst q
         rw [lg_eq]
         first | exact iF_t (by decide) (c1 _ (by simp [asB]) h) | exact iF_t (by decide) (c0 _ (by simp [asB]) h) | exact iF_f (by decide) (c1 _ (by simp [asB]) h) | exact iF_f (by decide) (c0 _ (by simp [asB]) h)
       · rw [lg_gt (by omega) (by omega) q]
         first | exact iF_t (by decide) (c1 _ (by simp [asB]; omega) h) | exact iF_t (by decide) (c0 _ (by simp [asB]; omega) h) | exact iF_f (by decide) (c1 _ (by simp [asB]; omega) h) | exact iF_f (by decide) (c0 _ (by simp [asB]; omega) h))
    | skip
  all_goals (rcases (show a = 0 ∨ a ≠ 0 by omega) with qa | qa)
  all_goals (rcases (show b = 0 ∨ b ≠ 0 by omega) with qb | qb)
  all_goals first
    | exact iF_t (lg_z0 qa) (c0 _ (by simp [qa]) h)
    | exact iF_f (lg_z1 ha qa) (iF_t (lg_z0 qb) (c0 _ (by simp [qa, qb]) h))
    | exact iF_f (lg_z1 ha qa) (iF_f (lg_z1 hb qb) (c1 _ (by simp [qa, qb]) h))
    | exact iF_t (lg_z0 qa) (iF_t (lg_z0 qb) (c0 _ (by simp [qa, qb]) h))
    | exact iF_t (lg_z0 qa) (iF_f (lg_z1 hb qb) (c1 _ (by simp [qa, qb]) h))
    | exact iF_f (lg_z1 ha qa) (c1 _ (by simp [qa]) h)
