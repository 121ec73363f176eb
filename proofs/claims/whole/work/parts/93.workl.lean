/-! ===== the one's loop over a code ===== -/
def evR (nv : Nat → Nat) (l : List (Nat × Nat)) (p : List Int × List Bool) : List Int × List Bool := l.foldl (fun p x => (evV nv x p.1 p.2, evT x p.1 p.2)) p
theorem iI_neg {z : Int} : -iI z = iI (-z) := (Int32.ofInt_neg z).symm
theorem iI_sub1 {z : Int} : (1 : Int32) - iI z = iI (1 - z) := (Int32.ofInt_sub 1 z).symm
theorem enc1 : ∀ v, v < 10 → ((-100 : Int32) - nI v < 0) ∧ ¬ ((-100 : Int32) < -100 - nI v) ∧ (-100 : Int32) - (-100 - nI v) = nI v := by decide
theorem stk_push {M : fM} {r n : Nat} {v : Int32} {z : Int} {l : List Int} (hn : l.length = n) (hv : v = iI z) (h : stk M r l) : stk (wI M r n v) r (z :: l) := by
  subst hn
  exact ⟨(mI_s rfl rfl).trans hv, stk_cg l (fun j hj => mI_n (by omega)) h⟩
theorem c_bin {L p y n i : Nat} {a b : Int} {M : fM} {bb : Int32} {K : Nat → Int32 → Int32 → Int32 → fM → Prop} (hS : Str L M) (h9 : mS M 9 = some (12, 300)) (hp : (4 ≤ p ∧ p ≤ 7) ∨ (10 ≤ p ∧ p ≤ 15) ∨ p = 21 ∨ p = 22) (hn : n + 2 ≤ 300) (s1 : mI M 9 (n + 1) = iI b) (s2 : mI M 9 n = iI a) (ha : -1000000 ≤ a ∧ a ≤ 1000000) (hb : -1000000 ≤ b ∧ b ≤ 1000000) (ei : nI i + (1 : Int32) = nI (i + 1)) {P1 P2 P3 P4 P5 : Prop} (h : K 7 (nI (n + 1)) bb (nI (i + 1)) (wI M 9 n (iI (joI p a b)))) : iF (enc (p, y) < 0) (iF ((-100 : Int32) < enc (p, y)) (iF (enc (p, y) = (-70 : Int32)) P1 (iF (enc (p, y) = (-23 : Int32)) P2 (iF (enc (p, y) = (-21 : Int32)) P3 (nm (nI (n + 1 + 1) + (-1 : Int32)) fun x26 => isO M 7 1 ∧ dR (mP M 7 1) fun y31 => dR (mP M 7 1) fun y33 => w_X10_cell y33 (x26 - (1 : Int32)) M fun x36 M35 => isO M35 7 1 ∧ dR (mP M35 7 1) fun y40 => w_X10_cell y40 x26 M35 fun x43 M42 => w_X1_joined (enc (p, y)) (Int32.toInt64 x36) (Int32.toInt64 x43) M42 fun x45 M44 => w_X10_put y31 (x26 - (1 : Int32)) x45 M44 fun M46 => nm (nI i + (1 : Int32)) fun x47 => K 7 x26 bb x47 M46)))) P4) P5 := by
  have ho : p = 4 ∨ p = 5 ∨ p = 6 ∨ p = 7 ∨ p = 10 ∨ p = 11 ∨ p = 12 ∨ p = 13 ∨ p = 14 ∨ p = 15 ∨ p = 21 ∨ p = 22 := by omega
  have e2 : nI (n + 1 + 1) + (-1 : Int32) = nI (n + 1) := by rw [show (-1 : Int32) = -nI 1 from rfl, nI_an (by omega)]; congr 1
  have e3 : nI (n + 1) - (1 : Int32) = nI n := by rw [show (1 : Int32) = nI 1 from rfl, nI_sub (by omega), Nat.add_sub_cancel]
  have hq : enc (p, y) = -nI (tok p) ∧ (-nI (tok p) < 0) ∧ ((-100 : Int32) < -nI (tok p)) ∧ ¬ (-nI (tok p) = (-70 : Int32)) ∧ ¬ (-nI (tok p) = (-23 : Int32)) ∧ ¬ (-nI (tok p) = (-21 : Int32)) := by
    rcases ho with rfl | rfl | rfl | rfl | rfl | rfl | rfl | rfl | rfl | rfl | rfl | rfl
    all_goals exact ⟨rfl, by decide, by decide, by decide, by decide, by decide⟩
  obtain ⟨q0, q1, q2, q3, q4, q5⟩ := hq
  rw [q0]
  refine iF_t q1 (iF_t q2 (iF_f q3 (iF_f q4 (iF_f q5 (nm_of ?_)))))
  rw [e2, e3]
  refine ⟨isO_pt hS (by decide) rfl, dR_of (Str.pg hS rfl) (dR_of (Str.pg hS rfl) (c_cellN (k := n) h9 rfl (by omega) (by omega) ⟨isO_pt hS (by decide) rfl, dR_of (Str.pg hS rfl) (c_cellN (k := n + 1) h9 rfl (by omega) (by omega) ?_)⟩))⟩
  rw [s1, s2, I2J (by omega) (by omega), I2J (by omega) (by omega)]
  refine c_joined rfl hp ha hb (c_putN (k := n) (by omega) h9 rfl (by omega) (by omega) (nm_of ?_))
  rw [ei]
  exact h
theorem c_wk_l {L o c nc bb lim : Nat} {nv : Nat → Nat} {φ : Int32 → fM → Prop} {tf : List Bool} (h6 : 82 ≤ o) (hc6 : 82 ≤ c) (hnc : nc ≤ 300) (hbb : bb ≤ nc) (hlim : lim ≤ 10) : ∀ (l : List (Nat × Nat)) (i : Nat) (M : fM) (t : List Bool) (vs : List Int) (ts : List Bool), i + l.length = bb → Str L M → mP M 7 2 = some o → mS M o = some (8, 5) → mP M o 0 = some c → mS M c = some (12, nc) → (∀ j x, l[j]? = some x → mI M c (i + j) = enc x) → (∀ v, v < lim → mI M 8 v = nI (nv v) ∧ nv v ≤ 9999) → (∀ x ∈ l, (x.1 = 0 → x.2 ≤ 9999) ∧ (x.1 = 1 → x.2 < lim)) → tyR t l = some tf → wf t vs ts → stk M 9 (mg t vs ts) → t.length ≤ i → (∀ M2, M2.2 = M.2 → (∀ r, r ≠ 9 → ∀ k, mI M2 r k = mI M r k) → wf tf (evR nv l (vs, ts)).1 (evR nv l (vs, ts)).2 → stk M2 9 (mg tf (evR nv l (vs, ts)).1 (evR nv l (vs, ts)).2) → φ (mI M2 9 0) M2) → l_X1_worked_49 φ (l.length + 1) 7 (nI t.length) (nI bb) (nI i) M := by
  intro l
  induction l with
  | nil =>
    intro i M t vs ts hi hS p7 so po sc hx hv hn ht hw hs hl h
    simp only [List.length_nil] at hi
    simp only [tyR, Option.some.injEq] at ht
    subst ht
    refine iF_t ((nIle (by omega) (by omega)).mpr (by omega)) ⟨isO_pt hS (by decide) rfl, dR_of (Str.pg hS rfl) ⟨inA_pt hS rfl (vp_lit (by decide)), ?_⟩⟩
    exact h M rfl (fun _ _ _ => rfl) hw hs
  | cons x l ih =>
    intro i M t vs ts hi hS p7 so po sc hx hv hn ht hw hs hl h
    simp only [List.length_cons] at hi
    have hx0 := hx 0 x rfl
    rw [Nat.add_zero] at hx0
    obtain ⟨hn0, hn1⟩ := hn x List.mem_cons_self
    obtain ⟨t2, ht2, ht3⟩ : ∃ t2, tyS t x.1 = some t2 ∧ tyR t2 l = some tf := by
      unfold tyR at ht
      split at ht
      · rename_i t2 e
        exact ⟨t2, e, ht⟩
      · cases ht
    obtain ⟨es, ew⟩ := ev_step (nv := nv) ht2 hn0 (fun e => (hv _ (hn1 e)).2) hw
    show b_X1_worked_49 (l_X1_worked_49 φ (l.length + 1)) φ 7 (nI t.length) (nI bb) (nI i) M
    have hk : ∀ (M2 : fM) (k : Nat), k = t2.length → M2.2 = M.2 → (∀ r, r ≠ 9 → ∀ k, mI M2 r k = mI M r k) → stk M2 9 (evC nv x (mg t vs ts)) → l_X1_worked_49 φ (l.length + 1) 7 (nI k) (nI bb) (nI (i + 1)) M2 := by
      intro M2 k ek e2 f2 s2
      subst ek
      have eP : ∀ q k, mP M2 q k = mP M q k := fun q k => by unfold mP; rw [e2]
      have eS : ∀ q, mS M2 q = mS M q := fun q => by unfold mS; rw [e2]
      refine ih (i + 1) M2 t2 _ _ (by omega) (by unfold Str; rw [e2]; exact hS) (by rw [eP]; exact p7) (by rw [eS]; exact so) (by rw [eP]; exact po) (by rw [eS]; exact sc) (fun j y hy => ?_) (fun v hv2 => ?_) (fun y hy => hn y (List.mem_cons_of_mem _ hy)) ht3 ew (by rw [← es]; exact s2) ?_ (fun M3 e3 f3 w3 s3 => h M3 (e3.trans e2) (fun r hr k => (f3 r hr k).trans (f2 r hr k)) w3 s3)
      · rw [f2 c (by omega), show i + 1 + j = i + (j + 1) by omega]
        exact hx (j + 1) y hy
      · rw [f2 8 (by omega)]
        exact hv v hv2
      · rcases tyS_inv ht2 with ⟨q, rfl⟩ | ⟨q, r, rfl, rfl⟩ | ⟨q, r, rfl, rfl⟩ | ⟨q, q2, r, rfl, rfl⟩ | ⟨q, q2, r, rfl, rfl⟩ | ⟨q, r, rfl, rfl⟩ | ⟨q, r, rfl, rfl⟩
        all_goals simp only [List.length_cons] at hl ⊢
        all_goals omega
    generalize l_X1_worked_49 φ (l.length + 1) = K at hk ⊢
    clear ih h
    refine iF_f (fun c => absurd ((nIle (by omega) (by omega)).mp c) (by omega)) ⟨isO_pt hS (by decide) rfl, nm_of (dR_of p7 ⟨isO_of (by omega) so, dR_of po (c_cellN sc rfl (by omega) (by omega) ?_)⟩)⟩
    rw [hx0]
    have hml := mg_len t vs ts hw
    have hmb := mg_b t vs ts hw
    obtain ⟨p, y⟩ := x
    have ei : nI i + (1 : Int32) = nI (i + 1) := nI_add i 1
    have h9 := ss_9 hS
    rcases tyS_inv ht2 with ⟨q, rfl⟩ | ⟨q, r, rfl, rfl⟩ | ⟨q, r, rfl, rfl⟩ | ⟨q, q2, r, rfl, rfl⟩ | ⟨q, q2, r, rfl, rfl⟩ | ⟨q, r, rfl, rfl⟩ | ⟨q, r, rfl, rfl⟩
    · have q3 : p = 0 ∨ p = 1 := by (simp at q; omega)
      rcases q3 with rfl | rfl
      · have hy : y ≤ 9999 := hn0 rfl
        refine iF_f (show ¬ nI y < 0 from fun c => ?_) ⟨isO_pt hS (by decide) rfl, dR_of (Str.pg hS rfl) (c_putN (by omega) h9 rfl (by omega) (by omega) (nm_of (nm_of ?_)))⟩
        · have c2 := (nIlt (a := y) (b := 0) (by omega) (by omega)).mp c
          omega
        · rw [ei, show nI t.length + (1 : Int32) = nI (t.length + 1) from nI_add _ 1]
          exact hk _ _ rfl rfl (fun r hr k => mI_n (by omega)) (stk_push hml (iI_n (by omega)).symm hs)
      · have hy : y < lim := hn1 rfl
        obtain ⟨g1, g2, g3⟩ := enc1 y (by omega)
        obtain ⟨v1, v2⟩ := hv y hy
        refine iF_t g1 (iF_f g2 ⟨isO_pt hS (by decide) rfl, dR_of (Str.pg hS rfl) (dR_of (Str.pg hS rfl) (c_cellN (ss_8 hS) g3 (by omega) (by omega) (c_putN (by omega) h9 rfl (by omega) (by omega) (nm_of (nm_of ?_)))))⟩)
        rw [ei, show nI t.length + (1 : Int32) = nI (t.length + 1) from nI_add _ 1]
        exact hk _ _ rfl rfl (fun r hr k => mI_n (by omega)) (stk_push hml (by rw [v1]; exact (iI_n (by omega)).symm) hs)
    · simp at q
      subst q
      obtain ⟨b, l1, rfl, hb, a, l2, rfl, ha, tt, l3, rfl, hw⟩ := hw
      simp only [mg, stk, List.length_cons] at hs hml hmb hl
      obtain ⟨s1, s2, s3, s4⟩ := hs
      have hR : (mg r l2 l3).length = r.length := by omega
      rw [hR] at s1 s2 s3
      simp only [List.length_cons]
      rw [show enc (2, y) = -nI 21 from rfl]
      refine iF_t (by decide) (iF_t (by decide) (iF_f (by decide) (iF_f (by decide) (iF_t (by decide) (nm_of ⟨isO_pt hS (by decide) rfl, dR_of (Str.pg hS rfl) (dR_of (Str.pg hS rfl) (c_cellN (k := r.length) h9 ?_ (by omega) (by omega) ?_))⟩)))))
      · rw [show (-2 : Int32) = -nI 2 from rfl, nI_an (by omega), show (1 : Int32) = nI 1 from rfl, nI_sub (by omega)]
        congr 1
      · have e2 : nI (r.length + 1 + 1 + 1) + (-2 : Int32) = nI (r.length + 1) := by rw [show (-2 : Int32) = -nI 2 from rfl, nI_an (by omega)]; congr 1
        have e3 : nI (r.length + 1) - (1 : Int32) = nI r.length := by rw [show (1 : Int32) = nI 1 from rfl, nI_sub (by omega), Nat.add_sub_cancel]
        have e4 : nI (r.length + 1) + (1 : Int32) = nI (r.length + 2) := nI_add _ 1
        rw [e2, e3, e4, s3]
        cases tt
        · refine iF_t (by decide) ⟨isO_pt hS (by decide) rfl, dR_of (Str.pg hS rfl) (c_cellN (k := r.length + 2) h9 rfl (by omega) (by omega) (c_putN (by omega) h9 rfl (by omega) (by omega) (nm_of ?_)))⟩
          rw [ei, s1]
          exact hk _ _ rfl rfl (fun r hr k => mI_n (by omega)) (by simpa [evC, mg, b01] using stk_push (z := b) hR rfl s4)
        · refine iF_f (by decide) ⟨isO_pt hS (by decide) rfl, dR_of (Str.pg hS rfl) (c_cellN (k := r.length + 1) h9 rfl (by omega) (by omega) (c_putN (by omega) h9 rfl (by omega) (by omega) (nm_of ?_)))⟩
          rw [ei, s2]
          exact hk _ _ rfl rfl (fun r hr k => mI_n (by omega)) (by simpa [evC, mg, b01] using stk_push (z := a) hR rfl s4)
    · simp at q
      subst q
      obtain ⟨b, l1, rfl, hb, hw⟩ := hw
      simp only [mg, stk, List.length_cons] at hs hml hmb hl
      obtain ⟨s1, s4⟩ := hs
      have hR : (mg r l1 ts).length = r.length := by omega
      rw [hR] at s1
      simp only [List.length_cons]
      have e3 : nI (r.length + 1) - (1 : Int32) = nI r.length := by rw [show (1 : Int32) = nI 1 from rfl, nI_sub (by omega), Nat.add_sub_cancel]
      rw [show enc (3, y) = -nI 70 from rfl]
      refine iF_t (by decide) (iF_t (by decide) (iF_t (by decide) ⟨isO_pt hS (by decide) rfl, dR_of (Str.pg hS rfl) (dR_of (Str.pg hS rfl) (c_cellN (k := r.length) h9 e3 (by omega) (by omega) (c_putN (k := r.length) (by omega) h9 e3 (by omega) (by omega) (nm_of ?_))))⟩))
      rw [ei, s1, iI_neg]
      exact hk _ _ rfl rfl (fun r hr k => mI_n (by omega)) (by simpa [evC, mg] using stk_push (z := -b) hR rfl s4)
    · obtain ⟨b, l1, rfl, hb, a, l2, rfl, ha, hw⟩ := hw
      simp only [mg, stk, List.length_cons] at hs hml hmb hl
      obtain ⟨s1, s2, s4⟩ := hs
      have hR : (mg r l2 ts).length = r.length := by omega
      rw [hR] at s1 s2
      simp only [List.length_cons]
      exact c_bin hS h9 (by simp at q q2; omega) (by omega) s1 s2 ha hb ei (hk _ _ rfl rfl (fun r hr k => mI_n (by omega)) (by
        have q3 : p = 4 ∨ p = 5 ∨ p = 6 ∨ p = 7 := by (simp at q q2; omega)
        rcases q3 with rfl | rfl | rfl | rfl
        all_goals simpa [evC, mg] using stk_push (z := joI _ a b) hR rfl s4))
    · obtain ⟨b, l1, rfl, hb, a, l2, rfl, ha, hw⟩ := hw
      simp only [mg, stk, List.length_cons] at hs hml hmb hl
      obtain ⟨s1, s2, s4⟩ := hs
      have hR : (mg r l2 ts).length = r.length := by omega
      rw [hR] at s1 s2
      simp only [List.length_cons]
      exact c_bin hS h9 (by simp at q q2; omega) (by omega) s1 s2 ha hb ei (hk _ _ rfl rfl (fun r hr k => mI_n (by omega)) (by
        have q3 : p = 10 ∨ p = 11 ∨ p = 12 ∨ p = 13 ∨ p = 14 ∨ p = 15 := by (simp at q q2; omega)
        rcases q3 with rfl | rfl | rfl | rfl | rfl | rfl
        all_goals simpa [evC, mg] using stk_push (z := joI _ a b) hR rfl s4))
    · simp at q
      subst q
      obtain ⟨tt, l1, rfl, hw⟩ := hw
      simp only [mg, stk, List.length_cons] at hs hml hmb hl
      obtain ⟨s1, s4⟩ := hs
      have hR : (mg r vs l1).length = r.length := by omega
      rw [hR] at s1
      simp only [List.length_cons]
      have e3 : nI (r.length + 1) - (1 : Int32) = nI r.length := by rw [show (1 : Int32) = nI 1 from rfl, nI_sub (by omega), Nat.add_sub_cancel]
      rw [show enc (20, y) = -nI 23 from rfl]
      refine iF_t (by decide) (iF_t (by decide) (iF_f (by decide) (iF_t (by decide) ⟨isO_pt hS (by decide) rfl, dR_of (Str.pg hS rfl) (dR_of (Str.pg hS rfl) (c_cellN (k := r.length) h9 e3 (by omega) (by omega) (c_putN (k := r.length) (by omega) h9 e3 (by omega) (by omega) (nm_of ?_))))⟩)))
      rw [ei, s1, iI_sub1]
      exact hk _ _ rfl rfl (fun r hr k => mI_n (by omega)) (by simpa [evC, mg] using stk_push (z := 1 - b01 tt) hR rfl s4)
    · obtain ⟨b, l1, rfl, a, l2, rfl, hw⟩ := hw
      simp only [mg, stk, List.length_cons] at hs hml hmb hl
      obtain ⟨s1, s2, s4⟩ := hs
      have hR : (mg r vs l2).length = r.length := by omega
      rw [hR] at s1 s2
      simp only [List.length_cons]
      exact c_bin hS h9 (by simp at q; omega) (by omega) s1 s2 (hmb (b01 a) (by simp)) (hmb (b01 b) (by simp)) ei (hk _ _ rfl rfl (fun r hr k => mI_n (by omega)) (by
        simp at q
        rcases q with rfl | rfl
        all_goals simpa [evC, mg] using stk_push (z := joI _ (b01 a) (b01 b)) hR rfl s4))
