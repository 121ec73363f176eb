/-! ===== the flat machine: arrays, new cells, statics ===== -/
def ix (i : Int32) : Nat := i.toNatClampNeg
/-- an array that can be read -/
def rdA (U : State) (H : Heap) (a : Nat) (ty : FieldType) (n : Nat) (f : Nat → Value) : Prop := ∃ cell : Cell, H[a]? = some cell ∧ U.isArrayOf cell ty ∧ cell.vm ≠ .unknown ∧ n ≤ cell.slots.size ∧ cell.slots.size.toInt32 = Int32.ofNat n ∧ ∀ j : Nat, j < n → cell.slots[j]? = some (f j)
theorem rdA_of {U : State} {H : Heap} {a : Nat} {ty : FieldType} {n : Nat} {cA : ClassId} {f : Nat → Value} (hc : H[a]? = some (arrV cA n f)) (hA : ArrOfT U cA ty) : rdA U H a ty n f := ⟨_, hc, hA n f, (fun h => by cases h), by rw [arrV_size]; exact Nat.le_refl _, by rw [arrV_size], fun j hj => arrV_read _ _ hj⟩
theorem rdA_T {g : GT} {ty : FieldType} {t n : Nat} {f f' : Nat → Value} {s : State} {H : Heap} {locs : List Loc} (h : va_T ty t n f (gA g) s s.heap) (hS : va_S (gA g) s.heap H locs) (hf : ∀ j, j < n → f j = f' j) : rdA s H t ty n f' := by
  obtain ⟨cell, h1, h2, h3, h4, h5, h6, h7⟩ := h.kept hS.2.1
  exact ⟨cell, h1, h2, h3, h4, h5, fun j hj => by rw [← hf j hj]; exact h6 j hj⟩
def kdT (kd : Nat) : FieldType := match kd with
  | 12 => .int
  | 13 => .long
  | 14 => .boolean
  | 15 => .object "OneStepMore$House"
  | 16 => .object "OneStepMore$Text"
  | _ => .byte
theorem rdArr {g : GT} {M : fM} {s : State} {H : Heap} {locs : List Loc} {r kd n : Nat} (hK : va_K (gD g) vwCl (tysOf g) s) (hSt : Sta g s s.heap) (hS : va_S (gA g) s.heap H locs) (hP : Rp g M H) (hs : mS M r = some (kd, n)) (h12 : 12 ≤ kd) (h16 : kd ≤ 18) (h17 : kd ≠ 17) (hb : kd = 18 → r < 6) : rdA s H (ad g r) (kdT kd) n (aval g M r kd) := by
  obtain ⟨a0, a1, a2, a3, a4, a5, a6, a7, a8, a9⟩ := hP.2.2.1
  obtain ⟨t0, t1, t2, -, -, -, -, t8, -⟩ := hSt
  by_cases hr : 6 ≤ r
  · have hc := hP.2.2.2 r _ hr hs
    unfold cellAt at hc
    rw [if_neg (by show ¬ kd < 12; omega)] at hc
    have hA : ArrOfT s (gC g kd) (kdT kd) := by
      rcases (show kd = 12 ∨ kd = 13 ∨ kd = 14 ∨ kd = 15 ∨ kd = 16 ∨ kd = 18 by omega) with h | h | h | h | h | h
      · subst h; exact (hK.2 0 _ rfl).1
      · subst h; exact (hK.2 1 _ rfl).1
      · subst h; exact (hK.2 2 _ rfl).1
      · subst h; exact (hK.2 3 _ rfl).1
      · subst h; exact (hK.2 4 _ rfl).1
      · exact absurd (hb h) (by omega)
    exact rdA_of hc hA
  · rcases (show r = 0 ∨ r = 1 ∨ r = 2 ∨ r = 3 ∨ r = 4 ∨ r = 5 by omega) with h | h | h | h | h | h
    · subst h
      rw [a0] at hs
      cases hs
      exact rdA_T t0 hS (fun j hj => by unfold aval; rw [if_neg (by decide), if_neg (by decide), a7 j hj])
    · subst h
      rw [a1] at hs
      cases hs
      exact rdA_T t1 hS (fun j hj => by unfold aval; rw [if_neg (by decide), if_neg (by decide), a8 j hj])
    · subst h
      rw [a2] at hs
      cases hs
      exact rdA_T t2 hS (fun j hj => by unfold aval; rw [if_pos rfl, a9 j hj])
    · subst h
      rw [a3] at hs
      cases hs
      exact absurd rfl h17
    · subst h
      rw [a4] at hs
      cases hs
      exact rdA_T (t8.1 0 (by decide)).2.2.2 hS (fun j hj => by
        unfold aval; rw [if_neg (by decide), if_neg (by decide), a6 j hj]
        rfl)
    · subst h
      rw [a5] at hs
      cases hs
      omega
theorem vp_out {i : Int32} {n m : Nat} (h : vp_in i n) (hm : n ≤ m) : ¬ (i < 0 ∨ m ≤ i.toNatClampNeg) := fun q => h (q.elim Or.inl (fun z => Or.inr (Nat.le_trans hm z)))
theorem vp_ix {i : Int32} {n : Nat} (h : vp_in i n) : ix i < n := Nat.not_le.mp fun q => h (Or.inr q)
section RW3
variable {g : GT} {mt : MT} {d pc : Nat} {ls ls' : List (Nat × Value)} {rest : List Value} {M : fM} {bc bs : Nat} {Φ : Option Value → fM → Prop}
theorem fw_iald {r n : Nat} {i : Int32} (hd : decode mt.2.1 pc = .ok (.iaload, 1)) (hs : mS M r = some (12, n)) (hi : vp_in i n) (kk : FW g mt d (pc + 1) ls (.int (mI M r (ix i)) :: rest) M bc bs Φ) : FW g mt d pc ls (.int i :: .ref r :: rest) M bc bs Φ := by
  intro p l e R s m args below meth c H locs cells slots Q lsA hC hR h1 h2 hS hP hl
  obtain ⟨cell, c1, c2, c3, c4, c5, c6⟩ := rdArr hC.2.2.2.2.2.2.1 hC.2.2.2.2.2.2.2.1 hS hP hs (by decide) (by decide) (by decide) (fun h => by cases h)
  exact W.iald hC.1 hC.2.1 c1 c2 c3 (vp_out hi c4) (c6 _ (vp_ix hi)) rfl rfl hd (kk p l e R s m args below meth c H locs cells slots Q lsA hC hR h1 h2 hS hP hl)
theorem fw_lald {r n : Nat} {i : Int32} (hd : decode mt.2.1 pc = .ok (.laload, 1)) (hs : mS M r = some (13, n)) (hi : vp_in i n) (kk : FW g mt d (pc + 1) ls (.long (mJ M r (ix i)) :: rest) M bc bs Φ) : FW g mt d pc ls (.int i :: .ref r :: rest) M bc bs Φ := by
  intro p l e R s m args below meth c H locs cells slots Q lsA hC hR h1 h2 hS hP hl
  obtain ⟨cell, c1, c2, c3, c4, c5, c6⟩ := rdArr hC.2.2.2.2.2.2.1 hC.2.2.2.2.2.2.2.1 hS hP hs (by decide) (by decide) (by decide) (fun h => by cases h)
  exact W.lald hC.1 hC.2.1 c1 c2 c3 (vp_out hi c4) (c6 _ (vp_ix hi)) rfl rfl hd (kk p l e R s m args below meth c H locs cells slots Q lsA hC hR h1 h2 hS hP hl)
theorem fw_zald {r n : Nat} {i : Int32} (hd : decode mt.2.1 pc = .ok (.baload, 1)) (hs : mS M r = some (14, n)) (hi : vp_in i n) (kk : FW g mt d (pc + 1) ls (.int (mI M r (ix i)) :: rest) M bc bs Φ) : FW g mt d pc ls (.int i :: .ref r :: rest) M bc bs Φ := by
  intro p l e R s m args below meth c H locs cells slots Q lsA hC hR h1 h2 hS hP hl
  obtain ⟨cell, c1, c2, c3, c4, c5, c6⟩ := rdArr hC.2.2.2.2.2.2.1 hC.2.2.2.2.2.2.2.1 hS hP hs (by decide) (by decide) (by decide) (fun h => by cases h)
  exact W.zald hC.1 hC.2.1 c1 c2 c3 (vp_out hi c4) (c6 _ (vp_ix hi)) rfl rfl hd (kk p l e R s m args below meth c H locs cells slots Q lsA hC hR h1 h2 hS hP hl)
theorem fw_bald {n : Nat} {i : Int32} (hd : decode mt.2.1 pc = .ok (.baload, 1)) (hs : mS M 4 = some (18, n)) (hi : vp_in i n) (kk : FW g mt d (pc + 1) ls (.int (mI M 4 (ix i)) :: rest) M bc bs Φ) : FW g mt d pc ls (.int i :: .ref 4 :: rest) M bc bs Φ := by
  intro p l e R s m args below meth c H locs cells slots Q lsA hC hR h1 h2 hS hP hl
  obtain ⟨cell, c1, c2, c3, c4, c5, c6⟩ := rdArr hC.2.2.2.2.2.2.1 hC.2.2.2.2.2.2.2.1 hS hP hs (by decide) (by decide) (by decide) (fun h => by decide)
  exact W.bald hC.1 hC.2.1 c1 c2 c3 (vp_out hi c4) (c6 _ (vp_ix hi)) rfl rfl hd (kk p l e R s m args below meth c H locs cells slots Q lsA hC hR h1 h2 hS hP hl)
theorem fw_aald {r n kd : Nat} {i : Int32} (hd : decode mt.2.1 pc = .ok (.aaload, 1)) (hk : kd = 15 ∨ kd = 16) (hs : mS M r = some (kd, n)) (hi : vp_in i n) (kk : FW g mt d (pc + 1) ls (fr (mP M r (ix i)) :: rest) M bc bs Φ) : FW g mt d pc ls (.int i :: .ref r :: rest) M bc bs Φ := by
  intro p l e R s m args below meth c H locs cells slots Q lsA hC hR h1 h2 hS hP hl
  obtain ⟨cell, c1, c2, c3, c4, c5, c6⟩ := rdArr hC.2.2.2.2.2.2.1 hC.2.2.2.2.2.2.2.1 hS hP hs (by omega) (by omega) (by omega) (by omega)
  have ea : aval g M r kd (ix i) = tr g (fr (mP M r (ix i))) := by
    unfold aval
    rw [if_neg (by omega), if_pos hk, tr_fr]
  have h6 := c6 _ (vp_ix hi)
  rw [ea] at h6
  exact W.aald (ty := kdT kd) hC.1 hC.2.1 c1 c2 (by rcases hk with h | h <;> subst h <;> rfl) c3 (vp_out hi c4) h6 rfl rfl hd (kk p l e R s m args below meth c H locs cells slots Q lsA hC hR h1 h2 hS hP hl)
theorem fw_alen {r n kd : Nat} (hd : decode mt.2.1 pc = .ok (.arraylength, 1)) (hs : mS M r = some (kd, n)) (h12 : 12 ≤ kd) (h16 : kd ≤ 18) (h17 : kd ≠ 17) (h18 : kd = 18 → r < 6) (kk : FW g mt d (pc + 1) ls (.int (nI n) :: rest) M bc bs Φ) : FW g mt d pc ls (.ref r :: rest) M bc bs Φ := by
  intro p l e R s m args below meth c H locs cells slots Q lsA hC hR h1 h2 hS hP hl
  obtain ⟨cell, c1, c2, c3, c4, c5, c6⟩ := rdArr hC.2.2.2.2.2.2.1 hC.2.2.2.2.2.2.2.1 hS hP hs h12 h16 h17 h18
  exact W.alen hC.1 hC.2.1 c1 c2 c5 rfl rfl hd (kk p l e R s m args below meth c H locs cells slots Q lsA hC hR h1 h2 hS hP hl)
/-- a store into an array of the world -/
theorem astG {r n kd : Nat} {M1 : fM} {i : Int32} {v : Value} {H H1 : Heap} (hP : Rp g M H) (h12 : 12 ≤ kd) (hr : 6 ≤ r) (hs : mS M r = some (kd, n)) (ho : offM M M1 r) (hM : ∀ j, aval g M1 r kd j = updV (aval g M r kd) (ix i) v j)
    (e : H1[ad g r]? = some ((arrV (gC g kd) n (aval g M r kd)).setSlot i.toNatClampNeg v)) (z : H1.size = H.size) (oq : ∀ q, q ≠ ad g r → H1[q]? = H[q]?) : Rp g M1 H1 := by
  refine hP.upd hr hs ho z oq ?_
  unfold cellAt
  rw [if_neg (by show ¬ kd < 12; omega)]
  rw [e, arrV_store]
  congr 2
  funext j
  exact (hM j).symm
theorem arrD {r n kd : Nat} {H : Heap} (hP : Rp g M H) (h12 : 12 ≤ kd) (hr : 6 ≤ r) (hs : mS M r = some (kd, n)) : H[ad g r]? = some (arrV (gC g kd) n (aval g M r kd)) := by
  have hc := hP.2.2.2 r _ hr hs
  unfold cellAt at hc
  rw [if_neg (by show ¬ kd < 12; omega)] at hc
  exact hc
theorem fw_iast {r n : Nat} {i x : Int32} (hd : decode mt.2.1 pc = .ok (.iastore, 1)) (hr : 6 ≤ r) (hs : mS M r = some (12, n)) (hi : vp_in i n) (kk : FW g mt d (pc + 1) ls rest (wI M r (ix i) x) bc bs Φ) : FW g mt d pc ls (.int x :: .int i :: .ref r :: rest) M bc bs Φ := by
  intro p l e R s m args below meth c H locs cells slots Q lsA hC hR h1 h2 hS hP hl
  refine W.iast hC.1 hC.2.1 (arrD hP (by decide) hr hs) ((hC.2.2.2.2.2.2.1.2 0 _ rfl).1 _ _) (fun h => by cases h) (by rw [arrV_size]; exact hi) rfl rfl hd (fun H1 e1 z oq => ?_)
  exact kk p l e R s m args below meth c H1 _ cells slots Q lsA hC hR h1 h2 (hS.upd hr z oq) (astG hP (by decide) hr hs (offM_I M r (ix i) x) (fun j => by
    unfold aval updV
    by_cases ej : j = ix i
    · subst ej; simp [mI, wI]
    · simp [mI, wI, ej]) e1 z oq) hl
theorem fw_last {r n : Nat} {i : Int32} {x : Int64} (hd : decode mt.2.1 pc = .ok (.lastore, 1)) (hr : 6 ≤ r) (hs : mS M r = some (13, n)) (hi : vp_in i n) (kk : FW g mt d (pc + 1) ls rest (wJ M r (ix i) x) bc bs Φ) : FW g mt d pc ls (.long x :: .int i :: .ref r :: rest) M bc bs Φ := by
  intro p l e R s m args below meth c H locs cells slots Q lsA hC hR h1 h2 hS hP hl
  refine W.last hC.1 hC.2.1 (arrD hP (by decide) hr hs) ((hC.2.2.2.2.2.2.1.2 1 _ rfl).1 _ _) (fun h => by cases h) (by rw [arrV_size]; exact hi) rfl rfl hd (fun H1 e1 z oq => ?_)
  exact kk p l e R s m args below meth c H1 _ cells slots Q lsA hC hR h1 h2 (hS.upd hr z oq) (astG hP (by decide) hr hs (offM_J M r (ix i) x) (fun j => by
    unfold aval updV
    by_cases ej : j = ix i
    · subst ej; simp [mJ, wJ]
    · simp [mJ, wJ, ej]) e1 z oq) hl
theorem fw_zast {r n : Nat} {i x : Int32} (hd : decode mt.2.1 pc = .ok (.bastore, 1)) (hr : 6 ≤ r) (hs : mS M r = some (14, n)) (hi : vp_in i n) (hx : narrow .boolean (.int x) = .int x) (kk : FW g mt d (pc + 1) ls rest (wI M r (ix i) x) bc bs Φ) : FW g mt d pc ls (.int x :: .int i :: .ref r :: rest) M bc bs Φ := by
  intro p l e R s m args below meth c H locs cells slots Q lsA hC hR h1 h2 hS hP hl
  refine W.zast hC.1 hC.2.1 (arrD hP (by decide) hr hs) ((hC.2.2.2.2.2.2.1.2 2 _ rfl).1 _ _) (fun h => by cases h) (by rw [arrV_size]; exact hi) rfl rfl hd (fun H1 e1 z oq => ?_)
  rw [hx] at e1
  exact kk p l e R s m args below meth c H1 _ cells slots Q lsA hC hR h1 h2 (hS.upd hr z oq) (astG hP (by decide) hr hs (offM_I M r (ix i) x) (fun j => by
    unfold aval updV
    by_cases ej : j = ix i
    · subst ej; simp [mI, wI]
    · simp [mI, wI, ej]) e1 z oq) hl
theorem fw_aastP (kd ci : Nat) (C : String) {r n v len : Nat} {i : Int32} (hd : decode mt.2.1 pc = .ok (.aastore, 1)) (hk : (kd = 15 ∧ ci = 0 ∧ C = RX0) ∨ (kd = 16 ∧ ci = 8 ∧ C = RX8)) (hr : 6 ≤ r) (hs : mS M r = some (kd, n)) (hi : vp_in i n) (hv6 : 6 ≤ v) (hv : mS M v = some (ci, len)) (kk : FW g mt d (pc + 1) ls rest (wP M r (ix i) (some v)) bc bs Φ) : FW g mt d pc ls (.ref v :: .int i :: .ref r :: rest) M bc bs Φ := by
  intro p l e R s m args below meth c H locs cells slots Q lsA hC hR h1 h2 hS hP hl
  have hK := hC.2.2.2.2.2.2.1
  have hci : ∃ q : vw_C, vwCl[ci]? = some q ∧ q.1 = C := by
    rcases hk with ⟨h, h', h''⟩ | ⟨h, h', h''⟩ <;> subst h' <;> subst h'' <;> exact ⟨_, rfl, rfl⟩
  obtain ⟨q, hq, hqC⟩ := hci
  have h12 := (cls_all hq).2
  have hc := hP.2.2.2 v _ hv6 hv
  unfold cellAt at hc
  rw [if_pos h12] at hc
  obtain ⟨q', hq', cellV, g1, g2, g3, -⟩ := hc
  have hcls := (hK.1 ci q hq).2
  have hRA : va_RA s (gC g kd) (.object C) := by
    rcases hk with ⟨h, h', h''⟩ | ⟨h, h', h''⟩
    · subst h; subst h''; exact (hK.2 3 _ rfl).2
    · subst h; subst h''; exact (hK.2 4 _ rfl).2
  obtain ⟨kA, comp, k1, k2, k3, -⟩ := hRA
  have hcomp : comp = (gD g).1 ci := Option.some.inj (k3.symm.trans (hqC ▸ hcls.1))
  subst hcomp
  obtain ⟨kC, hkC, -⟩ := hcls.2
  have h15 : 12 ≤ kd := by omega
  refine W.aast hC.1 hC.2.1 (arrD hP h15 hr hs) (fun q h => by cases h) (fun h => by cases h) k1 k2 rfl hkC ⟨fun z => hi (Or.inl z), by show _ < (arrV _ _ _).slots.size; rw [arrV_size]; exact vp_ix hi⟩ g1 (fun q h => by rw [g3] at h; cases h) (by rw [g2]; exact hkC) (by rw [g2]; exact va_assign hcls) rfl rfl hd (fun H1 e1 z oq => ?_)
  exact kk p l e R s m args below meth c H1 _ cells slots Q lsA hC hR h1 h2 (hS.upd hr z oq) (astG hP h15 hr hs (offM_P M r (ix i) (some v)) (fun j => by
    have hk' : kd = 15 ∨ kd = 16 := by omega
    have h13 : ¬ kd = 13 := by omega
    unfold aval updV
    simp only [if_neg h13, if_pos hk']
    by_cases ej : j = ix i
    · subst ej; simp [mP, wP]; rfl
    · simp [mP, wP, ej]) e1 z oq) hl
theorem fw_aastN (kd : Nat) (C : String) {r n : Nat} {i : Int32} (hd : decode mt.2.1 pc = .ok (.aastore, 1)) (hk : (kd = 15 ∧ C = RX0) ∨ (kd = 16 ∧ C = RX8)) (hr : 6 ≤ r) (hs : mS M r = some (kd, n)) (hi : vp_in i n) (kk : FW g mt d (pc + 1) ls rest (wP M r (ix i) none) bc bs Φ) : FW g mt d pc ls (.null :: .int i :: .ref r :: rest) M bc bs Φ := by
  intro p l e R s m args below meth c H locs cells slots Q lsA hC hR h1 h2 hS hP hl
  have hK := hC.2.2.2.2.2.2.1
  have h15 : 12 ≤ kd := by omega
  have hA : ArrOfT s (gC g kd) (.object C) := by
    rcases hk with ⟨h, h'⟩ | ⟨h, h'⟩
    · subst h; subst h'; exact (hK.2 3 _ rfl).1
    · subst h; subst h'; exact (hK.2 4 _ rfl).1
  refine va_WaastN (C := C) hC.1 hC.2.1 (arrD hP h15 hr hs) (hA _ _) (fun h => by cases h) (by rw [arrV_size]; exact hi) rfl rfl hd (fun H1 e1 z oq => ?_)
  exact kk p l e R s m args below meth c H1 _ cells slots Q lsA hC hR h1 h2 (hS.upd hr z oq) (astG hP h15 hr hs (offM_P M r (ix i) none) (fun j => by
    have hk' : kd = 15 ∨ kd = 16 := by omega
    have h13 : ¬ kd = 13 := by omega
    unfold aval updV
    simp only [if_neg h13, if_pos hk']
    by_cases ej : j = ix i
    · subst ej; simp [mP, wP]; rfl
    · simp [mP, wP, ej]) e1 z oq) hl
/-- the world with one cell more -/
theorem newG {kd n : Nat} {H H1 : Heap} (hP : Rp g M H) (z : H1.size = H.size + 1) (oq : ∀ q, q < H.size → H1[q]? = H[q]?) (hc : cellAt g (mNew M kd n) (mN M) (kd, n) H1) : Rp g (mNew M kd n) H1 := by
  obtain ⟨p1, p2, p3, p4⟩ := hP
  have hN : mN (mNew M kd n) = mN M + 1 := by simp [mN, mNew]
  have hS : ∀ r, r < mN M → mS (mNew M kd n) r = mS M r := fun r hr => by
    show (M.2.2.2 ++ [(kd, n)])[r]? = M.2.2.2[r]?
    exact List.getElem?_append_left hr
  have hne : ∀ r k, r ≠ mN M → mI (mNew M kd n) r k = mI M r k ∧ mJ (mNew M kd n) r k = mJ M r k ∧ mP (mNew M kd n) r k = mP M r k := fun r k h => ⟨by simp [mI, mNew, h], by simp [mJ, mNew, h], by simp [mP, mNew, h]⟩
  refine ⟨by rw [z, hN]; omega, by omega, ?_, fun r sh h6 hs => ?_⟩
  · obtain ⟨a0, a1, a2, a3, a4, a5, a6, a7, a8, a9⟩ := p3
    exact ⟨(hS 0 (by omega)).trans a0, (hS 1 (by omega)).trans a1, (hS 2 (by omega)).trans a2, (hS 3 (by omega)).trans a3, (hS 4 (by omega)).trans a4, (hS 5 (by omega)).trans a5, fun j hj => (hne 4 j (by omega)).1.trans (a6 j hj), fun j hj => (hne 0 j (by omega)).1.trans (a7 j hj), fun j hj => (hne 1 j (by omega)).1.trans (a8 j hj), fun j hj => (hne 2 j (by omega)).2.1.trans (a9 j hj)⟩
  · by_cases e : r = mN M
    · subst e
      have h1 : mS (mNew M kd n) (mN M) = some (kd, n) := by
        show (M.2.2.2 ++ [(kd, n)])[M.2.2.2.length]? = _
        simp
      rw [h1] at hs
      cases hs
      exact hc
    · have hl := mS_lt hs
      rw [hN] at hl
      rw [hS r (by omega)] at hs
      exact (p4 r sh h6 hs).kept (fun k => hne r k e) (oq _ (by rw [ad_dyn h6]; omega))
theorem va_S.new {H0 H H1 : Heap} {locs : List Loc} (h : va_S (gA g) H0 H locs) (z : H1.size = H.size + 1) (oq : ∀ q, q < H.size → H1[q]? = H[q]?) : va_S (gA g) H0 H1 locs := ⟨by have := h.1; omega, fun q h1 h2 => (oq q (Nat.lt_of_lt_of_le h1 h.1)).trans (h.2.1 q h1 h2), h.2.2⟩
theorem fw_newa (kd : Nat) {at0 : ArrayType} {n : Int32} (hd : decode mt.2.1 pc = .ok (.newarray at0, 2)) (hk : (kd = 12 ∧ at0 = .int) ∨ (kd = 13 ∧ at0 = .long) ∨ (kd = 14 ∧ at0 = .boolean)) (hn : ¬ n < 0) (hN : ix n ≤ 65536) (hbc : 1 ≤ bc) (hbs : ix n ≤ bs) (hw : Cond.arrayClass (newarray.typeOf at0) ∈ WS) (kk : FW g mt d (pc + 2) ls (.ref (mN M) :: rest) (mNew M kd (ix n)) (bc - 1) (bs - ix n) Φ) : FW g mt d pc ls (.int n :: rest) M bc bs Φ := by
  intro p l e R s m args below meth c H locs cells slots Q lsA hC hR h1 h2 hS hP hl
  have hK := hC.2.2.2.2.2.2.1
  have hsz : H.size = ad g (mN M) := by
    have a1 := hP.1
    have a2 := hP.2.1
    rw [ad_dyn a2]
    omega
  have hb : ix n * componentBytes (newarray.typeOf at0) ≤ 536870912 := by
    have : componentBytes (newarray.typeOf at0) ≤ 8 := by rcases hk with ⟨-, h⟩ | ⟨-, h⟩ | ⟨-, h⟩ <;> subst h <;> decide
    calc ix n * componentBytes (newarray.typeOf at0) ≤ 65536 * 8 := Nat.mul_le_mul hN this
      _ ≤ 536870912 := by decide
  refine va_newaK hC.1 hC.2.1 (hC.2.2.2.2.1 _ hw) rfl hd rfl hn rfl hb (by omega) (by show slots + ix n ≤ R.slots; omega) hsz (fun H1 cA e1 z oq hA hF => ?_)
  have hcA : cA = gC g kd := by
    rcases hk with ⟨h, h'⟩ | ⟨h, h'⟩ | ⟨h, h'⟩ <;> subst h <;> subst h'
    · exact Option.some.inj (hF.symm.trans (hK.2 0 _ rfl).2)
    · exact Option.some.inj (hF.symm.trans (hK.2 1 _ rfl).2)
    · exact Option.some.inj (hF.symm.trans (hK.2 2 _ rfl).2)
  subst hcA
  rw [← hsz] at z oq
  refine kk p l e R s m args below meth c H1 locs (cells + 1) (slots + ix n) Q lsA hC hR (by omega) (by omega) (hS.new z oq) (newG hP z oq ?_) hl
  unfold cellAt
  rw [if_neg (by show ¬ kd < 12; omega), e1]
  congr 2
  funext j
  rcases hk with ⟨h, h'⟩ | ⟨h, h'⟩ | ⟨h, h'⟩ <;> subst h <;> subst h' <;> simp [aval, mI, mJ, mNew] <;> rfl
theorem fw_anewa (kd : Nat) (C : String) {idx : Nat} {n : Int32} (hd : decode mt.2.1 pc = .ok (.anewarray idx, 3)) (hk : (kd = 15 ∧ C = "OneStepMore$House") ∨ (kd = 16 ∧ C = "OneStepMore$Text")) (hn : ¬ n < 0) (hN : ix n ≤ 65536) (hbc : 1 ≤ bc) (hbs : ix n ≤ bs) (hw : Cond.classLink mt.1.cls idx C ∈ WS) (kk : FW g mt d (pc + 3) ls (.ref (mN M) :: rest) (mNew M kd (ix n)) (bc - 1) (bs - ix n) Φ) : FW g mt d pc ls (.int n :: rest) M bc bs Φ := by
  intro p l e R s m args below meth c H locs cells slots Q lsA hC hR h1 h2 hS hP hl
  have hK := hC.2.2.2.2.2.2.1
  have hsz : H.size = ad g (mN M) := by
    have a1 := hP.1
    have a2 := hP.2.1
    rw [ad_dyn a2]
    omega
  have hAO : va_AO C s := by
    obtain ⟨-, -, -, -, -, -, -, -, -, a10, a11, -⟩ := hC.2.2.2.2.2.2.2.1
    rcases hk with ⟨-, h⟩ | ⟨-, h⟩ <;> subst h
    · exact a10
    · exact a11
  refine W.anew hC.1 hC.2.1 hC.2.2.2.1 (hC.2.2.2.2.1 _ hw) (va_AO.use hAO) rfl hd rfl hn (by show ix n * 4 ≤ 536870912; omega) (by omega) (by show slots + ix n ≤ R.slots; omega) (fun cA kA comp f1 f2 f3 f4 => ?_)
  generalize hH1 : H.push ({ cls := cA, slots := Array.replicate n.toNatClampNeg .null, vm := .none } : Cell) = H1
  have z : H1.size = H.size + 1 := by rw [← hH1, Array.size_push]
  have e1 : H1[H.size]? = some (arrV cA n.toNatClampNeg (fun _ => .null)) := by rw [← hH1, Array.getElem?_push_size, ← arrV_new]
  have oq : ∀ q : Nat, q < H.size → H1[q]? = H[q]? := fun q hq => by rw [← hH1, Array.getElem?_push, if_neg (Nat.ne_of_lt hq)]
  have hcA : cA = gC g kd := by
    rcases hk with ⟨h, h'⟩ | ⟨h, h'⟩ <;> subst h <;> subst h'
    · obtain ⟨kA', comp', k1, k2, k3, k4⟩ := (hK.2 3 _ rfl).2
      exact Option.some.inj (f1.symm.trans k4)
    · obtain ⟨kA', comp', k1, k2, k3, k4⟩ := (hK.2 4 _ rfl).2
      exact Option.some.inj (f1.symm.trans k4)
  subst hcA
  have hst : F0 m (pc + 3) lsA (Value.ref H.size :: rest.map (tr g)) = F0 m (pc + 3) lsA ((Value.ref (mN M) :: rest).map (tr g)) := by rw [hsz]; rfl
  refine W.eq hst ?_
  refine kk p l e R s m args below meth c H1 locs (cells + 1) (slots + ix n) Q lsA hC hR (by omega) (by omega) (hS.new z oq) (newG hP z oq ?_) hl
  unfold cellAt
  rw [if_neg (by show ¬ kd < 12; omega), ← hsz, e1]
  congr 2
  funext j
  rcases hk with ⟨h, h'⟩ | ⟨h, h'⟩ <;> subst h <;> simp [aval, mP, mNew] <;> rfl
def clW (own : String) (idx kd len : Nat) : Prop := ∃ q : vw_C, vwCl[kd]? = some q ∧ q.2.2 = len ∧ Cond.classLink own idx q.1 ∈ WS ∧ Cond.instantiable q.1 q.2.2 ∈ WS ∧ Cond.initialized q.1 ∈ WS
theorem fw_new {kd idx len : Nat} (hd : decode mt.2.1 pc = .ok (.new idx, 3)) (hw : clW mt.1.cls idx kd len) (hbc : 1 ≤ bc) (hbs : len ≤ bs) (kk : FW g mt d (pc + 3) ls (.ref (mN M) :: rest) (mNew M kd len) (bc - 1) (bs - len) Φ) : FW g mt d pc ls rest M bc bs Φ := by
  intro p l e R s m args below meth c H locs cells slots Q lsA hC hR h1 h2 hS hP hl
  have hK := hC.2.2.2.2.2.2.1
  have hts := hC.2.2.2.2.1
  obtain ⟨q, hq, rfl, w1, w2, w3⟩ := hw
  obtain ⟨⟨hin, hnm, ty, hty, htc⟩, h12⟩ := cls_all hq
  have hsz : H.size = ad g (mN M) := by
    have a1 := hP.1
    have a2 := hP.2.1
    rw [ad_dyn a2]
    omega
  have hKn := hK.1 kd _ hq
  refine W.newcK hC.1 hC.2.1 hC.2.2.2.1 (hts _ w1) (hts _ w2) (hts _ w3) rfl hd (by omega) (by omega) hKn.2.1 hsz (fun H1 kC hkC e1 z oq => ?_)
  rw [← hsz] at z oq
  refine kk p l e R s m args below meth c H1 locs (cells + 1) (slots + q.2.2) Q lsA hC hR (by omega) (by omega) (hS.new z oq) (newG hP z oq ?_) hl
  unfold cellAt
  rw [if_pos h12]
  refine ⟨q, hq, (u_born ty hts hin hKn hkC e1 hty).to (fun k hk => ?_)⟩
  have h3 := htc k hk
  unfold fval
  show defaultValue (ty k) = match fty kd k with
    | 1 => Value.long (mJ (mNew M kd q.2.2) (mN M) k)
    | 2 => rv g (mP (mNew M kd q.2.2) (mN M) k)
    | _ => Value.int (mI (mNew M kd q.2.2) (mN M) k)
  rw [← h3]
  have e4 : tyC (ty k) ≠ 9 := by
    rw [h3]
    rcases (show kd = 0 ∨ kd = 1 ∨ kd = 2 ∨ kd = 3 ∨ kd = 4 ∨ kd = 5 ∨ kd = 6 ∨ kd = 7 ∨ kd = 8 ∨ kd = 9 ∨ kd = 10 ∨ kd = 11 by omega) with h | h | h | h | h | h | h | h | h | h | h | h <;> subst h <;> cases hq <;> exact (by decide : ∀ k, k < _ → fty _ k ≠ 9) k hk
  revert e4
  cases ty k <;> intro e4 <;> first | exact absurd rfl e4 | (simp [tyC, mI, mJ, mP, mNew, rv, va_rf, defaultValue])
theorem fw_gets {idx r : Nat} {n ds : String} (hd : decode mt.2.1 pc = .ok (.getstatic idx, 3)) (hk : (n = "SHAPES" ∧ ds = "[I" ∧ r = 1) ∨ (n = "POWERS" ∧ ds = "[J" ∧ r = 2)) (hw : Cond.fieldLink mt.1.cls idx "OneStepMore" n ds ∈ WS) (kk : FW g mt d (pc + 3) ls (.ref r :: rest) M bc bs Φ) : FW g mt d pc ls rest M bc bs Φ := by
  intro p l e R s m args below meth c H locs cells slots Q lsA hC hR h1 h2 hS hP hl
  obtain ⟨-, -, -, z1, z2, -⟩ := hC.2.2.2.2.2.2.2.1
  have kk' := kk p l e R s m args below meth c H locs cells slots Q lsA hC hR h1 h2 hS hP hl
  rcases hk with ⟨rfl, rfl, rfl⟩ | ⟨rfl, rfl, rfl⟩
  · exact va_gets hC.1 hC.2.1 z1 hS hC.2.2.2.1 (hC.2.2.2.2.1 _ hw) (fun _ h => h) hd kk'
  · exact va_gets hC.1 hC.2.1 z2 hS hC.2.2.2.1 (hC.2.2.2.2.1 _ hw) (fun _ h => h) hd kk'
theorem fw_getsC {idx : Nat} (hd : decode mt.2.1 pc = .ok (.getstatic idx, 3)) (hw : Cond.fieldLink mt.1.cls idx "java/lang/String" "COMPACT_STRINGS" "Z" ∈ WS) (kk : FW g mt d (pc + 3) ls (.int 1 :: rest) M bc bs Φ) : FW g mt d pc ls rest M bc bs Φ := by
  intro p l e R s m args below meth c H locs cells slots Q lsA hC hR h1 h2 hS hP hl
  obtain ⟨-, -, -, -, -, z1, -⟩ := hC.2.2.2.2.2.2.2.1
  exact va_gets hC.1 hC.2.1 z1 hS hC.2.2.2.1 (hC.2.2.2.2.1 _ hw) (fun _ h => h) hd (kk p l e R s m args below meth c H locs cells slots Q lsA hC hR h1 h2 hS hP hl)
theorem fw_getsF {idx : Nat} (hd : decode mt.2.1 pc = .ok (.getstatic idx, 3)) (hw : Cond.fieldLink mt.1.cls idx "jdk/internal/util/Preconditions" "SIOOBE_FORMATTER" "Ljava/util/function/BiFunction;" ∈ WS) (kk : FW g mt d (pc + 3) ls (fV g :: rest) M bc bs Φ) : FW g mt d pc ls rest M bc bs Φ := by
  intro p l e R s m args below meth c H locs cells slots Q lsA hC hR h1 h2 hS hP hl
  obtain ⟨-, -, -, -, -, -, z1, -⟩ := hC.2.2.2.2.2.2.2.1
  exact va_gets hC.1 hC.2.1 z1 hS hC.2.2.2.1 (hC.2.2.2.2.1 _ hw) (fun _ h => h) hd (kk p l e R s m args below meth c H locs cells slots Q lsA hC hR h1 h2 hS hP hl)
theorem fw_strV {idx : Nat} (hd : decode mt.2.1 pc = .ok (.getfield idx, 3)) (hw : Cond.fieldLink mt.1.cls idx "java/lang/String" "value" "[B" ∈ WS) (kk : FW g mt d (pc + 3) ls (.ref 4 :: rest) M bc bs Φ) : FW g mt d pc ls (.ref 3 :: rest) M bc bs Φ := by
  intro p l e R s m args below meth c H locs cells slots Q lsA hC hR h1 h2 hS hP hl
  obtain ⟨-, -, -, -, -, -, -, z1, -⟩ := hC.2.2.2.2.2.2.2.1
  exact vk_getf hC.1 hC.2.1 (z1.1 0 (by decide)).2.2.1 hS hC.2.2.2.1 (hC.2.2.2.2.1 _ hw) (fun _ h => h) hd (kk p l e R s m args below meth c H locs cells slots Q lsA hC hR h1 h2 hS hP hl)
theorem fw_strC {idx : Nat} (hd : decode mt.2.1 pc = .ok (.getfield idx, 3)) (hw : Cond.fieldLink mt.1.cls idx "java/lang/String" "coder" "B" ∈ WS) (kk : FW g mt d (pc + 3) ls (.int 0 :: rest) M bc bs Φ) : FW g mt d pc ls (.ref 3 :: rest) M bc bs Φ := by
  intro p l e R s m args below meth c H locs cells slots Q lsA hC hR h1 h2 hS hP hl
  obtain ⟨-, -, -, -, -, -, -, z1, -⟩ := hC.2.2.2.2.2.2.2.1
  exact vk_getf hC.1 hC.2.1 (z1.1 0 (by decide)).2.1 hS hC.2.2.2.1 (hC.2.2.2.2.1 _ hw) (fun _ h => h) hd (kk p l e R s m args below meth c H locs cells slots Q lsA hC hR h1 h2 hS hP hl)
end RW3
