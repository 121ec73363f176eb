/-! ===== a law of a TEXT, as the model's row T of it has it; the one's TEXT has the same ===== -/
def cdl (T : Nat → Int32) (a b : Nat) : List (Nat × Nat) := (List.range (b - a)).map fun j => (un (T (97 + 2 * (a + j))), un (T (98 + 2 * (a + j))))
def fk (T : Nat → Int32) (s : Nat) : Option Nat := (List.range (un (T 0))).find? fun k => decide (T (1 + 4 * k) = nI s)
def lvR (T : Nat → Int32) (s : Nat) (nv : Nat → Nat) : Option (List Int × List Bool) := (fk T s).map fun k => evR nv (cdl T (un (T (3 + 4 * k))) (un (T (4 + 4 * k)))) ([], [])
theorem un_nI {n : Nat} (h : n < 4294967296) : un (nI n) = n := by
  show (BitVec.ofNat 32 n).toNat = n
  rw [BitVec.toNat_ofNat]
  exact Nat.mod_eq_of_lt (by omega)
theorem cdl_len (T : Nat → Int32) (a b : Nat) : (cdl T a b).length = b - a := by simp [cdl]
theorem cdl_at (T : Nat → Int32) (a b j : Nat) (x : Nat × Nat) (h : (cdl T a b)[j]? = some x) : j < b - a ∧ x = (un (T (97 + 2 * (a + j))), un (T (98 + 2 * (a + j)))) := by
  have hj := (List.getElem?_eq_some_iff.mp h).1
  rw [cdl_len] at hj
  unfold cdl at h
  rw [List.getElem?_map, List.getElem?_range hj] at h
  exact ⟨hj, (Option.some.inj h).symm⟩
theorem tyR_cg {g : Nat × Nat → Nat × Nat} : ∀ (l : List (Nat × Nat)) (t : List Bool), (∀ x ∈ l, (g x).1 = x.1) → tyR t (l.map g) = tyR t l
  | [], _, _ => rfl
  | x :: l, t, h => by
    have e := h x List.mem_cons_self
    simp only [List.map_cons, tyR, e]
    split
    · exact tyR_cg l _ fun y hy => h y (List.mem_cons_of_mem _ hy)
    · rfl
theorem tyR_b : ∀ (l : List (Nat × Nat)) (t tf : List Bool), tyR t l = some tf → ∀ x ∈ l, x.1 ≤ 22
  | [], _, _, _ => by intro x hx; cases hx
  | y :: l, t, tf, h => by
    intro x hx
    unfold tyR at h
    split at h
    · rename_i t2 e
      rcases List.mem_cons.mp hx with rfl | hx
      · rcases tyS_inv e with ⟨q, -⟩ | ⟨q, -⟩ | ⟨q, -⟩ | ⟨-, q, -⟩ | ⟨-, q, -⟩ | ⟨q, -⟩ | ⟨q, -⟩
        all_goals omega
      · exact tyR_b l t2 tf h x hx
    · cases h
/-- what a TEXT says of the law s -/
theorem TxC.law {cd : List (Nat × Nat)} {C S E D U : Nat → Int32} {cl : Nat} {T : Nat → Int32} (h : TxC cd C S E D U cl T) {s : Nat} (hs : s < 5) : (fk T s = none ∧ E s = 0) ∨ ∃ k a b, fk T s = some k ∧ k < 24 ∧ a < b ∧ b ≤ cd.length ∧ b ≤ 300 ∧ S s = nI a ∧ E s = nI b ∧ T (3 + 4 * k) = nI a ∧ T (4 + 4 * k) = nI b ∧ cdOk s (cdl T a b) ∧ ∀ j x, (cdl T a b)[j]? = some x → C (a + j) = enc x ∧ T (97 + 2 * (a + j)) = nI x.1 ∧ T (98 + 2 * (a + j)) = nI x.2 := by
  obtain ⟨t0, hcl, hnc, hcd, hk, hu, hE⟩ := h
  have hun : un (T 0) = cl := by rw [t0]; exact un_nI (by omega)
  cases e : fk T s with
  | none =>
    refine Or.inl ⟨rfl, hE s hs fun k hk2 hD => ?_⟩
    unfold fk at e
    rw [List.find?_eq_none] at e
    obtain ⟨s2, -, d1, d2, -⟩ := hk k hk2
    exact e k (by rw [hun]; exact List.mem_range.mpr hk2) (by rw [decide_eq_true_eq, d2, ← d1]; exact hD)
  | some k =>
    have e1 := List.find?_some e
    have e2 := List.mem_of_find?_eq_some e
    rw [hun, List.mem_range] at e2
    rw [decide_eq_true_eq] at e1
    obtain ⟨s2, b1, d1, d2, d3, -⟩ := hk k e2
    have es : s2 = s := nI_inj (by omega) (by omega) (d2.symm.trans e1)
    subst es
    obtain ⟨a, b, q1, q2, q3, q4, q5, q6, q7, q8⟩ := d3 hs
    refine Or.inr ⟨k, a, b, rfl, by omega, q1, q2, by omega, q3, q4, q5, q6, ?_, ?_⟩
    · have em : cdl T a b = ((cd.drop a).take (b - a)).map fun x => (x.1, un (nI x.2)) := by
        apply List.ext_getElem?
        intro j
        rw [List.getElem?_map]
        by_cases hj : j < b - a
        · rw [List.getElem?_take_of_lt hj, List.getElem?_drop]
          have hlt : a + j < cd.length := by omega
          obtain ⟨x, hx⟩ : ∃ x, cd[a + j]? = some x := ⟨cd[a + j], List.getElem?_eq_getElem hlt⟩
          obtain ⟨c1, c2, c3⟩ := hcd _ _ hx
          have hm : x ∈ (cd.drop a).take (b - a) := by
            apply List.mem_of_getElem? (i := j)
            rw [List.getElem?_take_of_lt hj, List.getElem?_drop]
            exact hx
          have hb := tyR_b _ _ _ q7 x hm
          unfold cdl
          rw [List.getElem?_map, List.getElem?_range hj, hx]
          simp only [Option.map_some]
          rw [c2, c3, un_nI (by omega)]
        · rw [List.getElem?_eq_none (by rw [cdl_len]; omega), List.getElem?_eq_none (by simp; omega)]
          rfl
      rw [em]
      refine ⟨?_, fun x hx => ?_⟩
      · rw [tyR_cg (g := fun x => (x.1, un (nI x.2))) _ _ (fun x _ => rfl)]
        exact q7
      · obtain ⟨y, hy, rfl⟩ := List.mem_map.mp hx
        obtain ⟨z1, z2⟩ := q8 y hy
        refine ⟨fun e => ?_, fun e => ?_⟩
        · have z := z1 e
          show un (nI y.2) ≤ 9999
          rw [un_nI (by omega)]
          exact z
        · have z := z2 e
          show un (nI y.2) < _
          have z3 : y.2 < 10 := by
            split at z <;> omega
          rw [un_nI (by omega)]
          exact z
    · intro j x hx
      obtain ⟨hj, rfl⟩ := cdl_at _ _ _ _ _ hx
      have hlt : a + j < cd.length := by omega
      obtain ⟨x, hx⟩ : ∃ x, cd[a + j]? = some x := ⟨cd[a + j], List.getElem?_eq_getElem hlt⟩
      obtain ⟨c1, c2, c3⟩ := hcd _ _ hx
      have hm : x ∈ (cd.drop a).take (b - a) := by
        apply List.mem_of_getElem? (i := j)
        rw [List.getElem?_take_of_lt (by omega), List.getElem?_drop]
        exact hx
      have hb := tyR_b _ _ _ q7 x hm
      refine ⟨?_, (nI_un _).symm, (nI_un _).symm⟩
      rw [c1, c2, c3, un_nI (by omega)]
      unfold enc
      simp only [nI_un]
