/-! ===== to walk a word of the printed methods, in the pure part ===== -/
theorem isO_pt {L : Nat} {M : fM} {r kd n : Nat} (hS : Str L M) (h6 : 6 ≤ r + 1) (hi : SHL[r]? = some (kd, n)) : isO M (r + 1) kd := isO_of h6 (hS.sh r (kd, n) hi)
theorem inA_pt {L : Nat} {M : fM} {r kd n : Nat} {i : Int32} (hS : Str L M) (hi : SHL[r]? = some (kd, n)) (hv : vp_in i n) : inA M (r + 1) kd i := inA_of (hS.sh r (kd, n) hi) hv
theorem lenA_pt {L : Nat} {M : fM} {r kd n : Nat} {A : Nat → Prop} (hS : Str L M) (hi : SHL[r]? = some (kd, n)) (hA : A n) : lenA M (r + 1) kd A := lenA_of (hS.sh r (kd, n) hi) hA
def PTf (r k : Nat) : Option Nat := (PTL.find? fun t => t.1 == r && t.2.1 == k).map fun t => t.2.2
theorem Str.pf {L : Nat} {M : fM} {r k v : Nat} (h : Str L M) (hi : PTf r k = some v) : mP M r k = some v := by
  unfold PTf at hi
  rw [Option.map_eq_some_iff] at hi
  obtain ⟨t, h1, h2⟩ := hi
  have h3 := List.mem_of_find?_eq_some h1
  have h4 := List.find?_some h1
  simp only [Bool.and_eq_true, beq_iff_eq] at h4
  have h5 := h.2 t h3
  rw [h4.1, h4.2, h2] at h5
  exact h5
theorem vp_lit {i : Int32} {n : Nat} (h : decide (¬ (i < 0 ∨ n ≤ i.toNatClampNeg)) = true) : vp_in i n := by
  have h2 : ¬ (i < 0 ∨ n ≤ i.toNatClampNeg) := of_decide_eq_true h
  exact h2
