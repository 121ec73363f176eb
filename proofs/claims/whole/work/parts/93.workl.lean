/-! ===== the one's loop over a code ===== -/
def evR (nv : Nat → Nat) (l : List (Nat × Nat)) (p : List Int × List Bool) : List Int × List Bool := l.foldl (fun p x => (evV nv x p.1 p.2, evT x p.1 p.2)) p
theorem iI_neg {z : Int} : -iI z = iI (-z) := (Int32.ofInt_neg z).symm
theorem iI_sub1 {z : Int} : (1 : Int32) - iI z = iI (1 - z) := (Int32.ofInt_sub 1 z).symm
theorem enc1 : ∀ v, v < 10 → ((-100 : Int32) - nI v < 0) ∧ ¬ ((-100 : Int32) < -100 - nI v) ∧ (-100 : Int32) - (-100 - nI v) = nI v := by decide
theorem c_wk_l {L o c nc bb lim : Nat} {nv : Nat → Nat} {φ : Int32 → fM → Prop} {tf : List Bool} (h6 : 82 ≤ o) (hc6 : 82 ≤ c) (hnc : nc ≤ 300) (hbb : bb ≤ nc) (hlim : lim ≤ 10) : ∀ (l : List (Nat × Nat)) (i : Nat) (M : fM) (t : List Bool) (vs : List Int) (ts : List Bool), i + l.length = bb → Str L M → mP M 7 2 = some o → mS M o = some (8, 5) → mP M o 0 = some c → mS M c = some (12, nc) → (∀ j x, l[j]? = some x → mI M c (i + j) = enc x) → (∀ v, v < lim → mI M 8 v = nI (nv v) ∧ nv v ≤ 9999) → (∀ x ∈ l, (x.1 = 0 → x.2 ≤ 9999) ∧ (x.1 = 1 → x.2 < lim)) → tyR t l = some tf → wf t vs ts → stk M 9 (mg t vs ts) → t.length ≤ i → (∀ M2, M2.2 = M.2 → (∀ r, r ≠ 9 → ∀ k, mI M2 r k = mI M r k) → wf tf (evR nv l (vs, ts)).1 (evR nv l (vs, ts)).2 → stk M2 9 (mg tf (evR nv l (vs, ts)).1 (evR nv l (vs, ts)).2) → φ (mI M2 9 0) M2) → l_X1_worked_49 φ (l.length + 1) 7 (nI t.length) (nI bb) (nI i) M := by
  intro l
  induction l with
  | nil =>
    intro i M t vs ts hi hS p7 so po sc hx hv hn ht hw hs hl h
    simp only [List.length_nil] at hi
    simp only [tyR, Option.some.injEq] at ht
    subst ht
    refine iF_t ((nIle (by omega) (by omega)).mpr (by omega)) ⟨isO_pt hS (by decide) rfl, dR_of (Str.pg hS rfl) ⟨inA_pt hS rfl (vp_lit (by decide)), ?_⟩⟩
    exact h M rfl (fun _ _ _ => rfl) hw hs
  | cons x l ih =>
    intro i M t vs ts hi hS p7 so po sc hx hv hn ht hw hs hl h
    simp only [List.length_cons] at hi
    have hx0 := hx 0 x rfl
    rw [Nat.add_zero] at hx0
    obtain ⟨hn0, hn1⟩ := hn x List.mem_cons_self
    obtain ⟨t2, ht2, ht3⟩ : ∃ t2, tyS t x.1 = some t2 ∧ tyR t2 l = some tf := by
      unfold tyR at ht
      split at ht
      · rename_i t2 e
        exact ⟨t2, e, ht⟩
      · cases ht
    obtain ⟨es, ew⟩ := ev_step (nv := nv) ht2 hn0 (fun e => (hv _ (hn1 e)).2) hw
    show b_X1_worked_49 (l_X1_worked_49 φ (l.length + 1)) φ 7 (nI t.length) (nI bb) (nI i) M
    have hk : ∀ (M2 : fM) (k : Nat), k = t2.length → M2.2 = M.2 → (∀ r, r ≠ 9 → ∀ k, mI M2 r k = mI M r k) → stk M2 9 (evC nv x (mg t vs ts)) → l_X1_worked_49 φ (l.length + 1) 7 (nI k) (nI bb) (nI i + 1) M2 := by
      intro M2 k ek e2 f2 s2
      subst ek
      have eP : ∀ q k, mP M2 q k = mP M q k := fun q k => by unfold mP; rw [e2]
      have eS : ∀ q, mS M2 q = mS M q := fun q => by unfold mS; rw [e2]
      rw [lit32, nI_add]
      refine ih (i + 1) M2 t2 _ _ (by omega) (by unfold Str; rw [e2]; exact hS) (by rw [eP]; exact p7) (by rw [eS]; exact so) (by rw [eP]; exact po) (by rw [eS]; exact sc) (fun j y hy => ?_) (fun v hv2 => ?_) (fun y hy => hn y (List.mem_cons_of_mem _ hy)) ht3 ew (by rw [← es]; exact s2) ?_ (fun M3 e3 f3 w3 s3 => h M3 (e3.trans e2) (fun r hr k => (f3 r hr k).trans (f2 r hr k)) w3 s3)
      · rw [f2 c (by omega), show i + 1 + j = i + (j + 1) by omega]
        exact hx (j + 1) y hy
      · rw [f2 8 (by omega)]
        exact hv v hv2
      · rcases tyS_inv ht2 with ⟨q, rfl⟩ | ⟨q, r, rfl, rfl⟩ | ⟨q, r, rfl, rfl⟩ | ⟨q, q2, r, rfl, rfl⟩ | ⟨q, q2, r, rfl, rfl⟩ | ⟨q, r, rfl, rfl⟩ | ⟨q, r, rfl, rfl⟩
        all_goals simp only [List.length_cons] at hl ⊢
        all_goals omega
    generalize l_X1_worked_49 φ (l.length + 1) = K at hk ⊢
    clear ih h
    refine iF_f (fun c => absurd ((nIle (by omega) (by omega)).mp c) (by omega)) ⟨isO_pt hS (by decide) rfl, nm_of (dR_of p7 ⟨isO_of (by omega) so, dR_of po (c_cellN sc rfl (by omega) (by omega) ?_)⟩)⟩
    rw [hx0]
    have hml := mg_len t vs ts hw
    have hmb := mg_b t vs ts hw
    sorry
