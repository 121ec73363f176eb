def look (PL : List (Nat × Nat × Nat)) (r k : Nat) : Option Nat := (PL.find? fun t => t.1 == r && t.2.1 == k).map fun t => t.2.2
def Bm (S : List (Nat × Nat)) (PL : List (Nat × Nat × Nat)) (M : fM) : Prop := M.2.2.2 = S ∧ ∀ r k, mP M r k = look PL r k
theorem Bm.wI {S PL M} (h : Bm S PL M) (r k : Nat) (v : Int32) : Bm S PL (wI M r k v) := h
theorem Bm.wP {S PL M} (h : Bm S PL M) (r k v : Nat) : Bm S ((r, k, v) :: PL) (wP M r k (some v)) := by
  refine ⟨h.1, fun r' k' => ?_⟩
  rw [mP_wP, h.2]
  unfold look
  rw [List.find?_cons]
  by_cases e : r' = r ∧ k' = k
  · obtain ⟨rfl, rfl⟩ := e
    simp
  · rw [if_neg e]
    have e2 : ((r, k, v).1 == r' && (r, k, v).2.1 == k') = false := by
      rw [Bool.eq_false_iff]
      intro c
      simp only [Bool.and_eq_true, beq_iff_eq] at c
      exact e ⟨c.1.symm, c.2.symm⟩
    rw [e2]
theorem Bm.nw {S PL M} (h : Bm S PL M) (kd n : Nat) (hp : (PL.all fun t => decide (t.1 < S.length)) = true) : Bm (S ++ [(kd, n)]) PL (mNew M kd n) ∧ mN M = S.length := by
  obtain ⟨h1, h2⟩ := h
  have hN : mN M = S.length := congrArg List.length h1
  refine ⟨⟨congrArg (· ++ [(kd, n)]) h1, fun r k => ?_⟩, hN⟩
  show (if r = mN M then none else mP M r k) = _
  by_cases e : r = mN M
  · rw [if_pos e]
    unfold look
    rw [List.find?_eq_none.mpr, Option.map_none]
    intro t ht c
    have h3 := of_decide_eq_true (List.all_eq_true.mp hp t ht)
    simp only [Bool.and_eq_true, beq_iff_eq] at c
    omega
  · rw [if_neg e, h2]
