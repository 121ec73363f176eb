/-! ===== the model's loop over a code ===== -/
def stkJ (M : fM) (r : Nat) : List Int → Prop
  | [] => True
  | v :: l => mJ M r l.length = iJ v ∧ stkJ M r l
def stkB (M : fM) (r : Nat) : List Bool → Prop
  | [] => True
  | v :: l => mI M r l.length = iI (b01 v) ∧ stkB M r l
theorem stkJ_cg {M M2 : fM} {r : Nat} : ∀ (l : List Int), (∀ j, j < l.length → mJ M2 r j = mJ M r j) → stkJ M r l → stkJ M2 r l
  | [], _, _ => trivial
  | v :: l, hf, h => ⟨(hf l.length (by simp)).trans h.1, stkJ_cg l (fun j hj => hf j (by simp; omega)) h.2⟩
theorem stkB_cg {M M2 : fM} {r : Nat} : ∀ (l : List Bool), (∀ j, j < l.length → mI M2 r j = mI M r j) → stkB M r l → stkB M2 r l
  | [], _, _ => trivial
  | v :: l, hf, h => ⟨(hf l.length (by simp)).trans h.1, stkB_cg l (fun j hj => hf j (by simp; omega)) h.2⟩
theorem mJ_s (M : fM) (r k : Nat) (v : Int64) : mJ (wJ M r k v) r k = v := by rw [mJ_wJ, if_pos ⟨rfl, rfl⟩]
theorem mJ_n {M : fM} {r k r' k' : Nat} {v : Int64} (h : r' ≠ r ∨ k' ≠ k) : mJ (wJ M r k v) r' k' = mJ M r' k' := by rw [mJ_wJ, if_neg (by omega)]
theorem stkJ_push {M : fM} {r n : Nat} {v : Int64} {z : Int} {l : List Int} (hn : l.length = n) (hv : v = iJ z) (h : stkJ M r l) : stkJ (wJ M r n v) r (z :: l) := by
  subst hn
  exact ⟨(mJ_s _ _ _ _).trans hv, stkJ_cg l (fun j hj => mJ_n (by omega)) h⟩
theorem stkB_push {M : fM} {r n : Nat} {v : Int32} {z : Bool} {l : List Bool} (hn : l.length = n) (hv : v = iI (b01 z)) (h : stkB M r l) : stkB (wI M r n v) r (z :: l) := by
  subst hn
  exact ⟨(mI_s rfl rfl).trans hv, stkB_cg l (fun j hj => mI_n (by omega)) h⟩
theorem wf_len : ∀ (k : List Bool) (vs : List Int) (ts : List Bool), wf k vs ts → vs.length + ts.length = k.length
  | [], _, _, h => by simp [h.1, h.2]
  | false :: k, vs, ts, h => by
    obtain ⟨v, l, rfl, -, h⟩ := h
    have q := wf_len k l ts h
    simp only [List.length_cons]; omega
  | true :: k, vs, ts, h => by
    obtain ⟨t, l, rfl, h⟩ := h
    have q := wf_len k vs l h
    simp only [List.length_cons]; omega
theorem m_clip {z : Int} {M : fM} {φ : Int64 → fM → Prop} (hz : -1000000000000000 ≤ z ∧ z ≤ 1000000000000000) (h : φ (iJ (clp z)) M) : w_X11_clip (iJ z) M φ := by
  unfold w_X11_clip
  have e1 : (1000000 : Int64) = iJ 1000000 := rfl
  have e2 : (-1000000 : Int64) = iJ (-1000000) := rfl
  rw [e2, e1]
  unfold clp at h
  rcases Int.lt_trichotomy z 1000000 with q | q | q
  · rw [lg_lt (by omega) (by omega) q]
    rw [if_neg (by omega)] at h
    refine iF_t (by decide) ?_
    rcases Int.lt_trichotomy z (-1000000) with p | p | p
    · rw [lg_lt (by omega) (by omega) p]
      rw [if_pos p] at h
      exact iF_f (by decide) h
    · rw [← p, lg_eq]
      rw [if_neg (by omega)] at h
      exact iF_t (by decide) h
    · rw [lg_gt (by omega) (by omega) p]
      rw [if_neg (by omega)] at h
      exact iF_t (by decide) h
  · subst q
    rw [lg_eq, lg_gt (by omega) (by omega) (by omega)]
    exact iF_t (by decide) (iF_t (by decide) h)
  · rw [lg_gt (by omega) (by omega) q]
    rw [if_pos q] at h
    exact iF_f (by decide) h
theorem m_two {o : Nat} {a b : Int} {M : fM} {φ : Int64 → fM → Prop} (ho : 4 ≤ o ∧ o ≤ 7) (ha : -1000000 ≤ a ∧ a ≤ 1000000) (hb : -1000000 ≤ b ∧ b ≤ 1000000) (h : φ (iJ (opI o a b)) M) : w_X11_two (nI o) (iJ a) (iJ b) M φ := by
  have e0 : (0 : Int64) = iJ 0 := rfl
  have ho2 : o = 4 ∨ o = 5 ∨ o = 6 ∨ o = 7 := by omega
  have hm := mul_b ha hb
  unfold w_X11_two
  rw [e0]
  rcases ho2 with rfl | rfl | rfl | rfl
  · refine iF_t (by decide) ?_
    rw [iJ_add]
    rw [show opI 4 a b = clp (a + b) by simp [opI]] at h
    exact m_clip (by omega) h
  · refine iF_f (by decide) (iF_t (by decide) ?_)
    rw [iJ_sub]
    rw [show opI 5 a b = clp (a - b) by simp [opI]] at h
    exact m_clip (by omega) h
  · refine iF_f (by decide) (iF_f (by decide) (iF_t (by decide) ?_))
    rw [iJ_mul]
    rw [show opI 6 a b = clp (a * b) by simp [opI]] at h
    exact m_clip (by omega) h
  · refine iF_f (by decide) (iF_f (by decide) (iF_f (by decide) ?_))
    clear hm
    by_cases hb0 : b = 0
    · have e : opI 7 a b = 0 := by simp [opI, hb0]
      rw [e] at h
      exact iF_t (lg_z0 hb0) h
    · have hq := Int.natAbs_tdiv_le_natAbs a b
      have hne : ¬ iJ b = 0 := fun c => hb0 (by
        have c2 := congrArg Int64.toInt c
        rw [iJ_t (by omega) (by omega)] at c2
        exact c2)
      refine iF_f (lg_z1 hb hb0) ⟨hne, ?_⟩
      rw [iJ_div (by omega) (by omega)]
      have e : opI 7 a b = clp (a.tdiv b) := by simp [opI, hb0]
      rw [e] at h
      exact m_clip (by omega) h
theorem m_asked {o : Nat} {a b : Int} {M : fM} {φ : Int32 → fM → Prop} (ho : 10 ≤ o ∧ o ≤ 15) (ha : -1000000 ≤ a ∧ a ≤ 1000000) (hb : -1000000 ≤ b ∧ b ≤ 1000000) (h : φ (iI (b01 (asB o a b))) M) : w_X11_isAsked (nI o) (iJ a) (iJ b) M φ := by
  have ho2 : o = 10 ∨ o = 11 ∨ o = 12 ∨ o = 13 ∨ o = 14 ∨ o = 15 := by omega
  have c0 : ∀ t : Bool, t = false → φ (iI (b01 t)) M → φ (0 : Int32) M := fun t e hh => by subst e; exact hh
  have c1 : ∀ t : Bool, t = true → φ (iI (b01 t)) M → φ (1 : Int32) M := fun t e hh => by subst e; exact hh
  unfold w_X11_isAsked
  rcases ho2 with rfl | rfl | rfl | rfl | rfl | rfl
  all_goals repeat (first | refine iF_t (show nI _ = _ by decide) ?_ | refine iF_f (show ¬ (nI _ = _) by decide) ?_)
  all_goals
    (rcases Int.lt_trichotomy a b with q | q | q
     · rw [lg_lt (by omega) (by omega) q]
       first | exact iF_t (by decide) (c1 _ (by simp [asB]; omega) h) | exact iF_t (by decide) (c0 _ (by simp [asB]; omega) h) | exact iF_f (by decide) (c1 _ (by simp [asB]; omega) h) | exact iF_f (by decide) (c0 _ (by simp [asB]; omega) h)
     · subst q
       rw [lg_eq]
       first | exact iF_t (by decide) (c1 _ (by simp [asB]) h) | exact iF_t (by decide) (c0 _ (by simp [asB]) h) | exact iF_f (by decide) (c1 _ (by simp [asB]) h) | exact iF_f (by decide) (c0 _ (by simp [asB]) h)
     · rw [lg_gt (by omega) (by omega) q]
       first | exact iF_t (by decide) (c1 _ (by simp [asB]; omega) h) | exact iF_t (by decide) (c0 _ (by simp [asB]; omega) h) | exact iF_f (by decide) (c1 _ (by simp [asB]; omega) h) | exact iF_f (by decide) (c0 _ (by simp [asB]; omega) h))
theorem isBb (t : Bool) : isB (iI (b01 t)) := by cases t <;> rfl
theorem b01_0 (t : Bool) : iI (b01 t) = 0 ↔ t = false := by cases t <;> decide
theorem m_wk_l {L bb xb cb lim : Nat} {nv : Nat → Nat} {φ : fM → Prop} {tf : List Bool} (hbb : bb ≤ 300) (hlim : lim ≤ 10) (hxb : xb + 3 < 2820) (hcb : cb + 2 * bb ≤ 2820) : ∀ (l : List (Nat × Nat)) (i : Nat) (M : fM) (t : List Bool) (vs : List Int) (ts : List Bool), i + l.length = bb → Str L M → mI M 73 (xb + 3) = nI bb → (∀ j x, l[j]? = some x → mI M 73 (cb + 2 * (i + j)) = nI x.1 ∧ mI M 73 (cb + 2 * (i + j) + 1) = nI x.2) → (∀ v, v < lim → mI M 76 v = nI (nv v) ∧ nv v ≤ 9999) → (∀ x ∈ l, (x.1 = 0 → x.2 ≤ 9999) ∧ (x.1 = 1 → x.2 < lim)) → tyR t l = some tf → wf t vs ts → stkJ M 77 vs → stkB M 78 ts → t.length ≤ i → (∀ M2, M2.2.2 = M.2.2 → (∀ r, r ≠ 78 → ∀ k, mI M2 r k = mI M r k) → (∀ r, r ≠ 77 → ∀ k, mJ M2 r k = mJ M r k) → wf tf (evR nv l (vs, ts)).1 (evR nv l (vs, ts)).2 → stkJ M2 77 (evR nv l (vs, ts)).1 → stkB M2 78 (evR nv l (vs, ts)).2 → φ M2) → l_X11_work_38 φ (l.length + 1) 70 (nI xb) (nI cb) (nI vs.length) (nI ts.length) (nI i) M := by
  intro l
  induction l with
  | nil =>
    intro i M t vs ts hi hS he hx hv hn ht hw hs hs2 hl h
    simp only [List.length_nil] at hi
    simp only [tyR, Option.some.injEq] at ht
    subst ht
    have e3 : nI xb + (3 : Int32) = nI (xb + 3) := nI_add xb 3
    show b_X11_work_38 _ φ 70 (nI xb) (nI cb) (nI vs.length) (nI ts.length) (nI i) M
    unfold b_X11_work_38
    rw [e3, ix_nI (by omega)]
    refine ⟨isO_pt hS (by decide) rfl, dR_of (Str.pg hS rfl) ⟨inA_pt hS rfl (vp_nI (by omega) (by decide)), iF_t ?_ (h M rfl (fun _ _ _ => rfl) (fun _ _ _ => rfl) hw hs hs2)⟩⟩
    rw [he]
    exact (nIle (by omega) (by omega)).mpr (by omega)
  | cons x l ih =>
    intro i M t vs ts hi hS he hx hv hn ht hw hs hs2 hl h
    simp only [List.length_cons] at hi
    obtain ⟨hx0, hx1⟩ := hx 0 x rfl
    simp only [Nat.add_zero] at hx0 hx1
    obtain ⟨hn0, hn1⟩ := hn x List.mem_cons_self
    obtain ⟨t2, ht2, ht3⟩ : ∃ t2, tyS t x.1 = some t2 ∧ tyR t2 l = some tf := by
      unfold tyR at ht
      split at ht
      · rename_i t2 e
        exact ⟨t2, e, ht⟩
      · cases ht
    obtain ⟨-, ew⟩ := ev_step (nv := nv) ht2 hn0 (fun e => (hv _ (hn1 e)).2) hw
    have hwl := wf_len t vs ts hw
    show b_X11_work_38 (l_X11_work_38 φ (l.length + 1)) φ 70 (nI xb) (nI cb) (nI vs.length) (nI ts.length) (nI i) M
    have hk : ∀ (M2 : fM) (k k2 : Nat), k = (evV nv x vs ts).length → k2 = (evT x vs ts).length → M2.2.2 = M.2.2 → (∀ r, r ≠ 78 → ∀ k, mI M2 r k = mI M r k) → (∀ r, r ≠ 77 → ∀ k, mJ M2 r k = mJ M r k) → stkJ M2 77 (evV nv x vs ts) → stkB M2 78 (evT x vs ts) → l_X11_work_38 φ (l.length + 1) 70 (nI xb) (nI cb) (nI k) (nI k2) (nI (i + 1)) M2 := by
      intro M2 k k2 ek ek2 e2 f2 g2 s2 s3
      subst ek ek2
      refine ih (i + 1) M2 t2 _ _ (by omega) (by unfold Str; rw [e2]; exact hS) ((f2 73 (by omega) _).trans he) (fun j y hy => ?_) (fun v hv2 => ?_) (fun y hy => hn y (List.mem_cons_of_mem _ hy)) ht3 ew s2 s3 ?_ (fun M3 e3 f3 g3 w3 s3 s4 => h M3 (e3.trans e2) (fun r hr k => (f3 r hr k).trans (f2 r hr k)) (fun r hr k => (g3 r hr k).trans (g2 r hr k)) w3 s3 s4)
      · rw [f2 73 (by omega), f2 73 (by omega), show i + 1 + j = i + (j + 1) by omega]
        exact hx (j + 1) y hy
      · rw [f2 76 (by omega)]
        exact hv v hv2
      · rcases tyS_inv ht2 with ⟨q, rfl⟩ | ⟨q, r, rfl, rfl⟩ | ⟨q, r, rfl, rfl⟩ | ⟨q, q2, r, rfl, rfl⟩ | ⟨q, q2, r, rfl, rfl⟩ | ⟨q, r, rfl, rfl⟩ | ⟨q, r, rfl, rfl⟩
        all_goals simp only [List.length_cons] at hl ⊢
        all_goals omega
    generalize l_X11_work_38 φ (l.length + 1) = K at hk ⊢
    clear ih h
    have hk2 : ∀ (M2 : fM) (V : List Int) (T : List Bool) (k k2 : Nat), evV nv x vs ts = V → evT x vs ts = T → k = V.length → k2 = T.length → M2.2.2 = M.2.2 → (∀ r, r ≠ 78 → ∀ k, mI M2 r k = mI M r k) → (∀ r, r ≠ 77 → ∀ k, mJ M2 r k = mJ M r k) → stkJ M2 77 V → stkB M2 78 T → K 70 (nI xb) (nI cb) (nI k) (nI k2) (nI (i + 1)) M2 := fun M2 V T k k2 eV eT e1 e2 e3 f g s1 s2 => hk M2 k k2 (by rw [eV]; exact e1) (by rw [eT]; exact e2) e3 f g (by rw [eV]; exact s1) (by rw [eT]; exact s2)
    clear hk
    have e3 : nI xb + (3 : Int32) = nI (xb + 3) := nI_add xb 3
    have e5 : nI cb + ((2 : Int32) * nI i) = nI (cb + 2 * i) := by rw [show (2 : Int32) = nI 2 from rfl, nI_muL, nI_add]
    have e6 : nI (cb + 2 * i) + (1 : Int32) = nI (cb + 2 * i + 1) := nI_add _ 1
    have ei : nI i + (1 : Int32) = nI (i + 1) := nI_add i 1
    have em : ∀ k : Nat, nI (k + 1) + (-1 : Int32) = nI k := fun k => by rw [show (-1 : Int32) = -nI 1 from rfl, nI_an (by omega), Nat.add_sub_cancel]
    have es : ∀ k : Nat, nI (k + 1) - (1 : Int32) = nI k := fun k => by rw [show (1 : Int32) = nI 1 from rfl, nI_sub (by omega), Nat.add_sub_cancel]
    have ea : ∀ k : Nat, nI k + (1 : Int32) = nI (k + 1) := fun k => nI_add k 1
    have em2 : ∀ k : Nat, nI (k + 1 + 1) + (-2 : Int32) = nI k := fun k => by rw [show (-2 : Int32) = -nI 2 from rfl, nI_an (by omega)]; congr 1
    unfold b_X11_work_38
    rw [e3, e5, ix_nI (by omega), ix_nI (by omega), e6, ix_nI (by omega), ei]
    refine ⟨isO_pt hS (by decide) rfl, dR_of (Str.pg hS rfl) ⟨inA_pt hS rfl (vp_nI (by omega) (by decide)), iF_f ?_ (dR_of (Str.pg hS rfl) ⟨inA_pt hS rfl (vp_nI (by omega) (by decide)), nm_of (dR_of (Str.pg hS rfl) ⟨inA_pt hS rfl (vp_nI (by omega) (by decide)), nm_of ?_⟩)⟩)⟩⟩
    · rw [he]
      exact fun c => absurd ((nIle (by omega) (by omega)).mp c) (by omega)
    rw [hx0, hx1]
    clear hx hx0 hx1
    obtain ⟨p, y⟩ := x
    have h77 := ss_77 hS
    have h78 := ss_78 hS
    rcases tyS_inv ht2 with ⟨q, rfl⟩ | ⟨q, r, rfl, rfl⟩ | ⟨q, r, rfl, rfl⟩ | ⟨q, q2, r, rfl, rfl⟩ | ⟨q, q2, r, rfl, rfl⟩ | ⟨q, r, rfl, rfl⟩ | ⟨q, r, rfl, rfl⟩
    · have q3 : p = 0 ∨ p = 1 := by (simp at q; omega)
      rcases q3 with rfl | rfl
      · have hy : y ≤ 9999 := hn0 rfl
        refine iF_f (show ¬ ((1 : Int32) < nI 0) by decide) (dR_of (Str.pg hS rfl) (iF_t (show nI 0 = 0 by decide) ?_))
        unfold j_X11_work_112
        refine ⟨by omega, inA_of h77 (vp_nI (by omega) (by decide)), st_of (nm_of (nm_of ?_))⟩
        rw [ei, ea, ix_nI (by omega)]
        exact hk2 _ ((y : Int) :: vs) ts _ _ (by simp [evV]) (by simp [evT]) rfl rfl rfl (fun _ _ _ => rfl) (fun r hr k => mJ_n (by omega)) (stkJ_push rfl (by rw [← iI_n (by omega)]; exact I2J (by omega) (by omega)) hs) (stkB_cg (M := M) _ (fun _ _ => rfl) hs2)
      · have hy : y < lim := hn1 rfl
        obtain ⟨v1, v2⟩ := hv y hy
        refine iF_f (show ¬ ((1 : Int32) < nI 1) by decide) (dR_of (Str.pg hS rfl) (iF_f (show ¬ (nI 1 = 0) by decide) (dR_of (Str.pg hS rfl) ⟨inA_pt hS rfl (vp_nI (by omega) (by decide)), ?_⟩)))
        unfold j_X11_work_112
        refine ⟨by omega, inA_of h77 (vp_nI (by omega) (by decide)), st_of (nm_of (nm_of ?_))⟩
        rw [ei, ea, ix_nI (by omega), ix_nI (by omega), v1]
        exact hk2 _ ((nv y : Int) :: vs) ts _ _ (by simp [evV]) (by simp [evT]) rfl rfl rfl (fun _ _ _ => rfl) (fun r hr k => mJ_n (by omega)) (stkJ_push rfl (by rw [← iI_n (by omega)]; exact I2J (by omega) (by omega)) hs) (stkB_cg (M := M) _ (fun _ _ => rfl) hs2)
    · simp at q
      subst q
      obtain ⟨b, l1, rfl, hb, a, l2, rfl, ha, tt, l3, rfl, hw⟩ := hw
      simp only [stkJ, stkB, List.length_cons] at hs hs2 hl hwl ⊢
      obtain ⟨s1, s2, s4⟩ := hs
      obtain ⟨s3, s5⟩ := hs2
      refine iF_t (by decide) (iF_t (by decide) (nm_of (nm_of (dR_of (Str.pg hS rfl) ?_))))
      rw [em, em, es, ix_nI (by omega), ix_nI (by omega), s3]
      refine ⟨inA_of h78 (vp_nI (by omega) (by decide)), ?_⟩
      cases tt
      · refine iF_t (by decide) (dR_of (Str.pg hS rfl) (dR_of (Str.pg hS rfl) ⟨inA_of h77 (vp_nI (by omega) (by decide)), nm_of ⟨by omega, inA_of h77 (vp_nI (by omega) (by decide)), st_of (nm_of ?_)⟩⟩))
        rw [ix_nI (by omega), s1]
        exact hk2 _ (b :: l2) l3 _ _ (by simp [evV]) (by simp [evT]) rfl rfl rfl (fun _ _ _ => rfl) (fun r hr k => mJ_n (by omega)) (stkJ_push rfl rfl s4) (stkB_cg (M := M) _ (fun _ _ => rfl) s5)
      · refine iF_f (by decide) (nm_of ?_)
        exact hk2 _ (a :: l2) l3 _ _ (by simp [evV]) (by simp [evT]) rfl rfl rfl (fun _ _ _ => rfl) (fun _ _ _ => rfl) ⟨s2, s4⟩ s5
    · simp at q
      subst q
      obtain ⟨b, l1, rfl, hb, hw⟩ := hw
      simp only [stkJ, List.length_cons] at hs hl hwl ⊢
      obtain ⟨s1, s4⟩ := hs
      refine iF_t (by decide) (iF_f (by decide) (iF_t (by decide) (dR_of (Str.pg hS rfl) (dR_of (Str.pg hS rfl) ?_))))
      rw [es, ix_nI (by omega), s1]
      refine ⟨inA_of h77 (vp_nI (by omega) (by decide)), nm_of ⟨by omega, inA_of h77 (vp_nI (by omega) (by decide)), st_of (nm_of ?_)⟩⟩
      rw [show -iJ b = iJ (-b) from (Int64.ofInt_neg b).symm]
      exact hk2 _ (-b :: l1) ts _ _ (by simp [evV]) (by simp [evT]) rfl rfl rfl (fun _ _ _ => rfl) (fun r hr k => mJ_n (by omega)) (stkJ_push rfl rfl s4) (stkB_cg (M := M) _ (fun _ _ => rfl) hs2)
    · obtain ⟨b, l1, rfl, hb, a, l2, rfl, ha, hw⟩ := hw
      simp only [stkJ, List.length_cons] at hs hl hwl ⊢
      obtain ⟨s1, s2, s4⟩ := hs
      simp at q q2
      have q3 : p = 4 ∨ p = 5 ∨ p = 6 ∨ p = 7 := by omega
      have k1 : (1 : Int32) < nI p ∧ ¬ (nI p = (2 : Int32)) ∧ ¬ (nI p = (3 : Int32)) ∧ ¬ ((10 : Int32) ≤ nI p) := by
        rcases q3 with rfl | rfl | rfl | rfl
        all_goals exact ⟨by decide, by decide, by decide, by decide⟩
      obtain ⟨k1, k2, k3, k4⟩ := k1
      refine iF_t k1 (iF_f k2 (iF_f k3 (iF_f k4 (nm_of (dR_of (Str.pg hS rfl) (dR_of (Str.pg hS rfl) ?_))))))
      rw [em, es, ix_nI (by omega), ix_nI (by omega), s2]
      refine ⟨inA_of h77 (vp_nI (by omega) (by decide)), dR_of (Str.pg hS rfl) ⟨inA_of h77 (vp_nI (by omega) (by decide)), ?_⟩⟩
      rw [s1]
      refine m_two ⟨q, q2⟩ ha hb ⟨by omega, inA_of h77 (vp_nI (by omega) (by decide)), st_of (nm_of ?_)⟩
      have e1 : evV nv (p, y) (b :: a :: l2) ts = opI p a b :: l2 := by
        rcases q3 with rfl | rfl | rfl | rfl
        all_goals simp [evV]
      have e2 : evT (p, y) (b :: a :: l2) ts = ts := by
        rcases q3 with rfl | rfl | rfl | rfl
        all_goals simp [evT]
      exact hk2 _ _ _ _ _ e1 e2 rfl rfl rfl (fun _ _ _ => rfl) (fun r hr k => mJ_n (by omega)) (stkJ_push rfl rfl s4) (stkB_cg (M := M) _ (fun _ _ => rfl) hs2)
    · obtain ⟨b, l1, rfl, hb, a, l2, rfl, ha, hw⟩ := hw
      simp only [stkJ, List.length_cons] at hs hl hwl ⊢
      obtain ⟨s1, s2, s4⟩ := hs
      simp at q q2
      have q3 : p = 10 ∨ p = 11 ∨ p = 12 ∨ p = 13 ∨ p = 14 ∨ p = 15 := by omega
      have k1 : (1 : Int32) < nI p ∧ ¬ (nI p = (2 : Int32)) ∧ ¬ (nI p = (3 : Int32)) ∧ ((10 : Int32) ≤ nI p) ∧ ¬ ((20 : Int32) ≤ nI p) := by
        rcases q3 with rfl | rfl | rfl | rfl | rfl | rfl
        all_goals exact ⟨by decide, by decide, by decide, by decide, by decide⟩
      obtain ⟨k1, k2, k3, k4, k5⟩ := k1
      refine iF_t k1 (iF_f k2 (iF_f k3 (iF_t k4 (iF_f k5 (nm_of (dR_of (Str.pg hS rfl) (dR_of (Str.pg hS rfl) ?_)))))))
      rw [em2, ea l2.length, ea ts.length, ix_nI (n := l2.length) (by omega), ix_nI (n := l2.length + 1) (by omega), ix_nI (n := ts.length) (by omega), s2]
      refine ⟨inA_of h77 (vp_nI (by omega) (by decide)), dR_of (Str.pg hS rfl) ⟨inA_of h77 (vp_nI (by omega) (by decide)), ?_⟩⟩
      rw [s1]
      refine m_asked ⟨q, q2⟩ ha hb ⟨by omega, inA_of h78 (vp_nI (by omega) (by decide)), isBb _, st_of (nm_of (nm_of ?_))⟩
      have e1 : evV nv (p, y) (b :: a :: l2) ts = l2 := by
        rcases q3 with rfl | rfl | rfl | rfl | rfl | rfl
        all_goals simp [evV]
      have e2 : evT (p, y) (b :: a :: l2) ts = asB p a b :: ts := by
        rcases q3 with rfl | rfl | rfl | rfl | rfl | rfl
        all_goals simp [evT]
      exact hk2 _ _ _ _ _ e1 e2 rfl rfl rfl (fun r hr k => mI_n (by omega)) (fun _ _ _ => rfl) (stkJ_cg (M := M) _ (fun _ _ => rfl) s4) (stkB_push rfl rfl hs2)
    · simp at q
      subst q
      obtain ⟨tt, l1, rfl, hw⟩ := hw
      simp only [stkB, List.length_cons] at hs2 hl hwl ⊢
      obtain ⟨s1, s4⟩ := hs2
      refine iF_t (by decide) (iF_f (by decide) (iF_f (by decide) (iF_t (by decide) (iF_t (by decide) (iF_t (by decide) (dR_of (Str.pg hS rfl) (dR_of (Str.pg hS rfl) ?_)))))))
      unfold j_X11_work_307
      rw [es, ix_nI (by omega), s1, ei]
      refine ⟨inA_of h78 (vp_nI (by omega) (by decide)), ?_⟩
      cases tt
      · refine iF_t (by decide) ⟨by omega, inA_of h78 (vp_nI (by omega) (by decide)), isB1, st_of (nm_of ?_)⟩
        exact hk2 _ vs (true :: l1) _ _ (by simp [evV]) (by simp [evT]) rfl rfl rfl (fun r hr k => mI_n (by omega)) (fun _ _ _ => rfl) (stkJ_cg (M := M) _ (fun _ _ => rfl) hs) (stkB_push (z := true) (v := 1) rfl rfl s4)
      · refine iF_f (by decide) ⟨by omega, inA_of h78 (vp_nI (by omega) (by decide)), isB0, st_of (nm_of ?_)⟩
        exact hk2 _ vs (false :: l1) _ _ (by simp [evV]) (by simp [evT]) rfl rfl rfl (fun r hr k => mI_n (by omega)) (fun _ _ _ => rfl) (stkJ_cg (M := M) _ (fun _ _ => rfl) hs) (stkB_push (z := false) (v := 0) rfl rfl s4)
    · obtain ⟨b, l1, rfl, a, l2, rfl, hw⟩ := hw
      simp only [stkB, List.length_cons] at hs2 hl hwl ⊢
      obtain ⟨s1, s2, s4⟩ := hs2
      simp at q
      have e0 : ∀ c : Bool, stkB (wI M 78 l2.length (iI (b01 c))) 78 (c :: l2) := fun c => stkB_push rfl rfl s4
      rcases q with rfl | rfl
      · refine iF_t (by decide) (iF_f (by decide) (iF_f (by decide) (iF_t (by decide) (iF_t (by decide) (iF_f (by decide) (nm_of (dR_of (Str.pg hS rfl) (iF_t (by decide) (dR_of (Str.pg hS rfl) ?_)))))))))
        unfold j_X11_work_355 j_X11_work_386
        rw [em, es, ix_nI (by omega), ix_nI (by omega), s2, ei]
        refine ⟨inA_of h78 (vp_nI (by omega) (by decide)), ?_⟩
        cases a
        · refine iF_t (by decide) ⟨by omega, inA_of h78 (vp_nI (by omega) (by decide)), isB0, st_of (nm_of ?_)⟩
          exact hk2 _ vs (false :: l2) _ _ (by simp [evV]) (by simp [evT]) rfl rfl rfl (fun r hr k => mI_n (by omega)) (fun _ _ _ => rfl) (stkJ_cg (M := M) _ (fun _ _ => rfl) hs) (e0 false)
        · refine iF_f (by decide) (dR_of (Str.pg hS rfl) ⟨inA_of h78 (vp_nI (by omega) (by decide)), ?_⟩)
          rw [s1]
          cases b
          · refine iF_t (by decide) ⟨by omega, inA_of h78 (vp_nI (by omega) (by decide)), isB0, st_of (nm_of ?_)⟩
            exact hk2 _ vs (false :: l2) _ _ (by simp [evV]) (by simp [evT]) rfl rfl rfl (fun r hr k => mI_n (by omega)) (fun _ _ _ => rfl) (stkJ_cg (M := M) _ (fun _ _ => rfl) hs) (e0 false)
          · refine iF_f (by decide) ⟨by omega, inA_of h78 (vp_nI (by omega) (by decide)), isB1, st_of (nm_of ?_)⟩
            exact hk2 _ vs (true :: l2) _ _ (by simp [evV]) (by simp [evT]) rfl rfl rfl (fun r hr k => mI_n (by omega)) (fun _ _ _ => rfl) (stkJ_cg (M := M) _ (fun _ _ => rfl) hs) (e0 true)
      · refine iF_t (by decide) (iF_f (by decide) (iF_f (by decide) (iF_t (by decide) (iF_t (by decide) (iF_f (by decide) (nm_of (dR_of (Str.pg hS rfl) (iF_f (by decide) (dR_of (Str.pg hS rfl) ?_)))))))))
        unfold j_X11_work_381 j_X11_work_386
        rw [em, es, ix_nI (by omega), ix_nI (by omega), s2, ei]
        refine ⟨inA_of h78 (vp_nI (by omega) (by decide)), ?_⟩
        cases a
        · refine iF_t (by decide) (dR_of (Str.pg hS rfl) ⟨inA_of h78 (vp_nI (by omega) (by decide)), ?_⟩)
          rw [s1]
          cases b
          · refine iF_t (by decide) ⟨by omega, inA_of h78 (vp_nI (by omega) (by decide)), isB0, st_of (nm_of ?_)⟩
            exact hk2 _ vs (false :: l2) _ _ (by simp [evV]) (by simp [evT]) rfl rfl rfl (fun r hr k => mI_n (by omega)) (fun _ _ _ => rfl) (stkJ_cg (M := M) _ (fun _ _ => rfl) hs) (e0 false)
          · refine iF_f (by decide) ⟨by omega, inA_of h78 (vp_nI (by omega) (by decide)), isB1, st_of (nm_of ?_)⟩
            exact hk2 _ vs (true :: l2) _ _ (by simp [evV]) (by simp [evT]) rfl rfl rfl (fun r hr k => mI_n (by omega)) (fun _ _ _ => rfl) (stkJ_cg (M := M) _ (fun _ _ => rfl) hs) (e0 true)
        · refine iF_f (by decide) ⟨by omega, inA_of h78 (vp_nI (by omega) (by decide)), isB1, st_of (nm_of ?_)⟩
          exact hk2 _ vs (true :: l2) _ _ (by simp [evV]) (by simp [evT]) rfl rfl rfl (fun r hr k => mI_n (by omega)) (fun _ _ _ => rfl) (stkJ_cg (M := M) _ (fun _ _ => rfl) hs) (e0 true)
