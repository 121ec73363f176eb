/-! ===== what laws say: numbers of the row 73 (tx), the TEXT's number and one (ti; 0: none), the names ===== -/
def lawR (tx : Nat → Int32) (ti s : Nat) (nv : Nat → Nat) : Option (List Int × List Bool) := if ti = 0 then none else lvR (fun k => tx (705 * (ti - 1) + k)) s nv
def cut (z : Int) (top : Nat) : Nat := if z < 0 then 0 else if (top : Int) < z then top else z.toNat
def sumV (R : Option (List Int × List Bool)) (own top : Nat) : Nat := match R with
  | some (z :: _, _) => cut z top
  | _ => if top < own then top else own
def trpV (R : Option (List Int × List Bool)) (a b : Nat) : Bool := match R with
  | some (_, t :: _) => t
  | _ => decide (b + 3 ≤ a ∨ a + 3 ≤ b)
theorem sumV_le (R : Option (List Int × List Bool)) (own top : Nat) : sumV R own top ≤ top := by
  unfold sumV
  split
  · unfold cut; repeat' split
    all_goals omega
  · split <;> omega
/-- the one's Laws are turned to the TEXT ti -/
def TrT (M : fM) (tx : Nat → Int32) (ti : Nat) : Prop := (ti = 0 ∧ mP M 7 2 = none) ∨ ∃ i o c s e d u cd cl, ti = i + 1 ∧ i < 4 ∧ txt M o c s e cd.length ∧ TxC cd (mI M c) (mI M s) (mI M e) (mI M d) (mI M u) cl (fun k => tx (705 * i + k)) ∧ 82 ≤ d ∧ 82 ≤ u
def F9 (M M2 : fM) : Prop := M2.2 = M.2 ∧ ∀ r, r ≠ 9 → ∀ k, mI M2 r k = mI M r k
theorem F9.rf (M : fM) : F9 M M := ⟨rfl, fun _ _ _ => rfl⟩
theorem F9.tr {M M1 M2 : fM} (h : F9 M M1) (h2 : F9 M1 M2) : F9 M M2 := ⟨h2.1.trans h.1, fun r hr k => (h2.2 r hr k).trans (h.2 r hr k)⟩
theorem F9.S {L : Nat} {M M2 : fM} (h : F9 M M2) (hS : Str L M) : Str L M2 := by unfold Str; rw [h.1]; exact hS
theorem F9.P {M M2 : fM} (h : F9 M M2) (r k : Nat) : mP M2 r k = mP M r k := by unfold mP; rw [h.1]
theorem F9.f {M M2 : fM} (h : F9 M M2) : Frm scr M M2 := ⟨by unfold nop; rw [h.1], fun k => by unfold mJ; rw [h.1], fun r hr k _ => h.2 r (fun e => hr (by unfold scr; omega)) k⟩
theorem TrT.f9 {M M2 : fM} {tx : Nat → Int32} {ti : Nat} (f : F9 M M2) (h : TrT M tx ti) : TrT M2 tx ti := by
  have eS : ∀ q, mS M2 q = mS M q := fun q => by unfold mS; rw [f.1]
  rcases h with ⟨h1, h2⟩ | ⟨i, o, c, s, e, d, u, cd, cl, h1, h2, ⟨t1, t2, t3, t4, t5, t6, t7, t8, t9, t10, t11, t12⟩, hx, hd, hu⟩
  · exact Or.inl ⟨h1, (f.P _ _).trans h2⟩
  · refine Or.inr ⟨i, o, c, s, e, d, u, cd, cl, h1, h2, ⟨(f.P _ _).trans t1, t2, t3, t4, t5, (eS _).trans t6, (f.P _ _).trans t7, (f.P _ _).trans t8, (f.P _ _).trans t9, (eS _).trans t10, (eS _).trans t11, (eS _).trans t12⟩, ?_, hd, hu⟩
    rw [show mI M2 c = mI M c from funext (f.2 c (by omega)), show mI M2 s = mI M s from funext (f.2 s (by omega)), show mI M2 e = mI M e from funext (f.2 e (by omega)), show mI M2 d = mI M d from funext (f.2 d (by omega)), show mI M2 u = mI M u from funext (f.2 u (by omega))]
    exact hx
theorem imin_t (x y : Int32) : (imin x y).toInt = if y.toInt < x.toInt then y.toInt else x.toInt := by
  unfold imin
  by_cases h : y < x
  · rw [if_pos h, if_pos ((lt_toInt _ _).mp h)]
  · rw [if_neg h, if_neg (fun c => h ((lt_toInt _ _).mpr c))]
theorem imax_t (x y : Int32) : (imax x y).toInt = if x.toInt < y.toInt then y.toInt else x.toInt := by
  unfold imax
  by_cases h : x < y
  · rw [if_pos h, if_pos ((lt_toInt _ _).mp h)]
  · rw [if_neg h, if_neg (fun c => h ((lt_toInt _ _).mpr c))]
theorem btw {z : Int} {top : Nat} (hz : -1000000 ≤ z ∧ z ≤ 1000000) (ht : top ≤ 99) : imax (0 : Int32) (imin (nI top) (iI z)) = nI (cut z top) := by
  apply Int32.toInt_inj.mp
  have e0 : (0 : Int32).toInt = 0 := rfl
  have hc : cut z top ≤ 99 := by
    unfold cut
    repeat' split
    all_goals omega
  rw [imax_t, imin_t, e0, toInt_nI (by omega), iI_t (by omega) (by omega), toInt_nI (by omega)]
  unfold cut
  by_cases h0 : z < (top : Int)
  · rw [if_pos h0]
    by_cases h1 : z < 0
    · rw [if_pos h1, if_neg (by omega)]; rfl
    · rw [if_neg h1, if_neg (show ¬ (top : Int) < z by omega)]
      split <;> omega
  · rw [if_neg h0, if_neg (show ¬ z < 0 by omega)]
    split
    · split <;> omega
    · split <;> omega
theorem cut_n {own top : Nat} : cut (own : Int) top = if top < own then top else own := by
  unfold cut
  rw [if_neg (by omega)]
  by_cases h : top < own
  · rw [if_pos (by omega), if_pos h]
  · rw [if_neg (by omega), if_neg h]; rfl
/-- the value of a law that is a sum, of the one -/
theorem c_sum {L w own top : Nat} {tx : Nat → Int32} {ti : Nat} {nv : Nat → Nat} {M : fM} {φ : Int32 → fM → Prop} (hS : Str L M) (hT : TrT M tx ti) (hw : w < 5) (hw2 : w ≠ 2) (hv : ∀ v, v < lim w → mI M 8 v = nI (nv v) ∧ nv v ≤ 9999) {i : Int32} (hi : i = nI w) {P : Prop} {Q : Int32 → fM → Prop} (h0 : lawR tx ti w nv = none → P) (h1 : ∀ M2 z l, F9 M M2 → lawR tx ti w nv = some (z :: l, []) → (-1000000 ≤ z ∧ z ≤ 1000000) → Q (iI z) M2) : w_X1_rules 7 i M fun x M1 => M1 = M ∧ ((x = 0 ∧ P) ∨ (x = 1 ∧ ∀ j : Int32, j = nI w → w_X1_worked 7 j M Q)) := by
  rcases hT with ⟨h1', h2'⟩ | ⟨i', o, c, s, e, d, u, cd, cl, h1', h2', ht, hx, -⟩
  · exact c_rules0 hS h2' ⟨rfl, Or.inl ⟨rfl, h0 (by unfold lawR; rw [if_pos h1'])⟩⟩
  · have hl : lawR tx ti w nv = lvR (fun k => tx (705 * i' + k)) w nv := by
      unfold lawR
      rw [if_neg (by omega), h1', Nat.add_sub_cancel]
    refine c_rules hS ht hx hi hw (fun q => ⟨rfl, Or.inl ⟨rfl, h0 ?_⟩⟩) (fun k q => ⟨rfl, Or.inr ⟨rfl, fun j hj => ?_⟩⟩)
    · rw [hl]; unfold lvR; rw [q]; rfl
    · refine c_worked hS ht hx hj hw q hv fun M2 vs ts e2 f2 g _ g2 => ?_
      obtain ⟨z, rfl, rfl, gb, g3⟩ := g2 hw2
      rw [g3]
      exact h1 M2 z [] ⟨e2, f2⟩ (hl.trans g) gb
theorem cutI (n : Nat) (h : n < 2147483648) : nI n = iI (n : Int) := (iI_n h).symm
/-- none, twice, jar, fall of the one -/
theorem c_noneNow {L own : Nat} {tx : Nat → Int32} {ti : Nat} {nv : Nat → Nat} {M : fM} {φ : Int32 → fM → Prop} (hS : Str L M) (hT : TrT M tx ti) (hv : ∀ v, v < 10 → mI M 8 v = nI (nv v) ∧ nv v ≤ 9999) (h3 : mI M 7 3 = nI own) (ho : own ≤ 10) (h : ∀ M2, F9 M M2 → φ (nI (sumV (lawR tx ti 0 nv) own 10)) M2) : w_X1_noneNow 7 M φ := by
  refine ⟨isO_pt hS (by decide) rfl, ?_⟩
  rcases hT with ⟨q1, q2⟩ | ⟨i', o, c, s, e, d, u, cd, cl, q1, q2, ht, hx, hd⟩
  · have hl : lawR tx ti 0 nv = none := by unfold lawR; rw [if_pos q1]
    refine c_rules0 hS q2 (iF_t rfl ⟨isO_pt hS (by decide) rfl, ?_⟩)
    show φ (imax (0 : Int32) (imin (nI 10) (mI M 7 3))) M
    rw [h3, cutI own (by omega), btw (by omega) (by omega), cut_n]
    rw [hl] at h
    exact h M (F9.rf M)
  · have hl : lawR tx ti 0 nv = lvR (fun k => tx (705 * i' + k)) 0 nv := by
      unfold lawR
      rw [if_neg (by omega), q1, Nat.add_sub_cancel]
    refine c_rules hS ht hx (w := 0) rfl (by omega) (fun q => iF_t rfl ⟨isO_pt hS (by decide) rfl, ?_⟩) (fun k q => iF_f (by decide) ⟨isO_pt hS (by decide) rfl, ?_⟩)
    · show φ (imax (0 : Int32) (imin (nI 10) (mI M 7 3))) M
      rw [h3, cutI own (by omega), btw (by omega) (by omega), cut_n]
      rw [hl, show lvR (fun k => tx (705 * i' + k)) 0 nv = none by unfold lvR; rw [q]; rfl] at h
      exact h M (F9.rf M)
    · refine c_worked hS ht hx (w := 0) rfl (by omega) q (fun v hv2 => hv v hv2) fun M2 vs ts e2 f2 g _ g2 => ?_
      obtain ⟨z, rfl, rfl, gb, g3⟩ := g2 (by omega)
      show φ (imax (0 : Int32) (imin (nI 10) (mI M2 9 0))) M2
      rw [g3, btw gb (by omega)]
      rw [hl, g] at h
      exact h M2 ⟨e2, f2⟩
theorem c_twiceNow {L own n : Nat} {tx : Nat → Int32} {ti : Nat} {nv : Nat → Nat} {M : fM} {j : Int32} {φ : Int32 → fM → Prop} (hS : Str L M) (hT : TrT M tx ti) (hv : ∀ v, v < 10 → mI M 8 v = nI (nv v) ∧ nv v ≤ 9999) (h3 : mI M 7 4 = nI own) (ho : own ≤ 10) (hj : j = nI n) (hn : n ≤ 10) (h : ∀ M2, F9 M M2 → φ (nI (sumV (lawR tx ti 1 nv) own (10 - n))) M2) : w_X1_twiceNow 7 j M φ := by
  subst hj
  have e10 : (10 : Int32) - nI n = nI (10 - n) := nI_sub (a := 10) hn
  refine ⟨isO_pt hS (by decide) rfl, ?_⟩
  rcases hT with ⟨q1, q2⟩ | ⟨i', o, c, s, e, d, u, cd, cl, q1, q2, ht, hx, hd⟩
  · have hl : lawR tx ti 1 nv = none := by unfold lawR; rw [if_pos q1]
    refine c_rules0 hS q2 (iF_t rfl ⟨isO_pt hS (by decide) rfl, ?_⟩)
    show φ (imax (0 : Int32) (imin ((10 : Int32) - nI n) (mI M 7 4))) M
    rw [e10, h3, cutI own (by omega), btw (by omega) (by omega), cut_n]
    rw [hl] at h
    exact h M (F9.rf M)
  · have hl : lawR tx ti 1 nv = lvR (fun k => tx (705 * i' + k)) 1 nv := by
      unfold lawR
      rw [if_neg (by omega), q1, Nat.add_sub_cancel]
    refine c_rules hS ht hx (w := 1) rfl (by omega) (fun q => iF_t rfl ⟨isO_pt hS (by decide) rfl, ?_⟩) (fun k q => iF_f (by decide) ⟨isO_pt hS (by decide) rfl, ?_⟩)
    · show φ (imax (0 : Int32) (imin ((10 : Int32) - nI n) (mI M 7 4))) M
      rw [e10, h3, cutI own (by omega), btw (by omega) (by omega), cut_n]
      rw [hl, show lvR (fun k => tx (705 * i' + k)) 1 nv = none by unfold lvR; rw [q]; rfl] at h
      exact h M (F9.rf M)
    · refine c_worked hS ht hx (w := 1) rfl (by omega) q (fun v hv2 => hv v hv2) fun M2 vs ts e2 f2 g _ g2 => ?_
      obtain ⟨z, rfl, rfl, gb, g3⟩ := g2 (by omega)
      show φ (imax (0 : Int32) (imin ((10 : Int32) - nI n) (mI M2 9 0))) M2
      rw [e10, g3, btw gb (by omega)]
      rw [hl, g] at h
      exact h M2 ⟨e2, f2⟩
theorem c_jarNow {L : Nat} {tx : Nat → Int32} {ti : Nat} {nv : Nat → Nat} {M : fM} {φ : Int32 → fM → Prop} (hS : Str L M) (hT : TrT M tx ti) (hv : ∀ v, v < 6 → mI M 8 v = nI (nv v) ∧ nv v ≤ 9999) (h : ∀ M2, F9 M M2 → φ (nI (sumV (lawR tx ti 3 nv) 5 99)) M2) : w_X1_jarNow 7 M φ := by
  refine ⟨isO_pt hS (by decide) rfl, ?_⟩
  rcases hT with ⟨q1, q2⟩ | ⟨i', o, c, s, e, d, u, cd, cl, q1, q2, ht, hx, hd⟩
  · have hl : lawR tx ti 3 nv = none := by unfold lawR; rw [if_pos q1]
    rw [hl] at h
    exact c_rules0 hS q2 (iF_t rfl (h M (F9.rf M)))
  · have hl : lawR tx ti 3 nv = lvR (fun k => tx (705 * i' + k)) 3 nv := by
      unfold lawR
      rw [if_neg (by omega), q1, Nat.add_sub_cancel]
    refine c_rules hS ht hx (w := 3) rfl (by omega) (fun q => iF_t rfl ?_) (fun k q => iF_f (by decide) ⟨isO_pt hS (by decide) rfl, ?_⟩)
    · rw [hl, show lvR (fun k => tx (705 * i' + k)) 3 nv = none by unfold lvR; rw [q]; rfl] at h
      exact h M (F9.rf M)
    · refine c_worked hS ht hx (w := 3) rfl (by omega) q (fun v hv2 => hv v hv2) fun M2 vs ts e2 f2 g _ g2 => ?_
      obtain ⟨z, rfl, rfl, gb, g3⟩ := g2 (by omega)
      show φ (imax (0 : Int32) (imin (nI 99) (mI M2 9 0))) M2
      rw [g3, btw gb (by omega)]
      rw [hl, g] at h
      exact h M2 ⟨e2, f2⟩
theorem c_fallNow {L : Nat} {tx : Nat → Int32} {ti : Nat} {nv : Nat → Nat} {M : fM} {φ : Int32 → fM → Prop} (hS : Str L M) (hT : TrT M tx ti) (hv : ∀ v, v < 6 → mI M 8 v = nI (nv v) ∧ nv v ≤ 9999) (h : ∀ M2, F9 M M2 → φ (nI (sumV (lawR tx ti 4 nv) 9 99)) M2) : w_X1_fallNow 7 M φ := by
  refine ⟨isO_pt hS (by decide) rfl, ?_⟩
  rcases hT with ⟨q1, q2⟩ | ⟨i', o, c, s, e, d, u, cd, cl, q1, q2, ht, hx, hd⟩
  · have hl : lawR tx ti 4 nv = none := by unfold lawR; rw [if_pos q1]
    rw [hl] at h
    exact c_rules0 hS q2 (iF_t rfl (h M (F9.rf M)))
  · have hl : lawR tx ti 4 nv = lvR (fun k => tx (705 * i' + k)) 4 nv := by
      unfold lawR
      rw [if_neg (by omega), q1, Nat.add_sub_cancel]
    refine c_rules hS ht hx (w := 4) rfl (by omega) (fun q => iF_t rfl ?_) (fun k q => iF_f (by decide) ⟨isO_pt hS (by decide) rfl, ?_⟩)
    · rw [hl, show lvR (fun k => tx (705 * i' + k)) 4 nv = none by unfold lvR; rw [q]; rfl] at h
      exact h M (F9.rf M)
    · refine c_worked hS ht hx (w := 4) rfl (by omega) q (fun v hv2 => hv v hv2) fun M2 vs ts e2 f2 g _ g2 => ?_
      obtain ⟨z, rfl, rfl, gb, g3⟩ := g2 (by omega)
      show φ (imax (0 : Int32) (imin (nI 99) (mI M2 9 0))) M2
      rw [g3, btw gb (by omega)]
      rw [hl, g] at h
      exact h M2 ⟨e2, f2⟩
theorem iabs3 {a b : Nat} (ha : a ≤ 9999) (hb : b ≤ 9999) : iabs (nI a - nI b) < (3 : Int32) ↔ ¬ (b + 3 ≤ a ∨ a + 3 ≤ b) := by
  have e3 : (3 : Int32).toInt = 3 := rfl
  have e0 : (0 : Int32).toInt = 0 := rfl
  have e := tI_sub (a := a) (b := b) (by omega) (by omega)
  unfold iabs
  by_cases h : (0 : Int32) ≤ nI a - nI b
  · rw [if_pos h, lt_toInt, e, e3]
    rw [le_toInt, e, e0] at h
    omega
  · rw [if_neg h, lt_toInt, e3, Int32.toInt_sub, e, e0, bmod_id (by omega) (by omega)]
    rw [le_toInt, e, e0] at h
    omega
/-- whether one trips, of the one; a the height, b the one ahead -/
theorem c_tripsNow {L : Nat} {tx : Nat → Int32} {ti : Nat} {nv : Nat → Nat} {M : fM} {φ : Int32 → fM → Prop} (hS : Str L M) (hT : TrT M tx ti) (hv : ∀ v, v < 10 → mI M 8 v = nI (nv v) ∧ nv v ≤ 9999) (h : ∀ M2 x, F9 M M2 → x = iI (b01 (trpV (lawR tx ti 2 nv) (nv 7) (nv 8))) → φ x M2) : w_X1_tripsNow 7 M φ := by
  have h0 : trpV (lawR tx ti 2 nv) (nv 7) (nv 8) = false → ∀ M2, F9 M M2 → φ 0 M2 := fun q M2 f => h M2 0 f (by rw [q]; rfl)
  have h1 : trpV (lawR tx ti 2 nv) (nv 7) (nv 8) = true → ∀ M2, F9 M M2 → φ 1 M2 := fun q M2 f => h M2 1 f (by rw [q]; rfl)
  have hab := iabs3 (a := nv 7) (b := nv 8) (hv 7 (by omega)).2 (hv 8 (by omega)).2
  have key : lawR tx ti 2 nv = none → iF (iabs (mI M 8 (ix (7 : Int32)) - mI M 8 (ix (8 : Int32))) < (3 : Int32)) (φ 0 M) (φ 1 M) := by
    intro q
    rw [show ix (7 : Int32) = 7 from rfl, show ix (8 : Int32) = 8 from rfl, (hv 7 (by omega)).1, (hv 8 (by omega)).1]
    rw [q] at h0 h1
    refine iF_s (fun c => h0 ?_ M (F9.rf M)) (fun c => h1 ?_ M (F9.rf M))
    · exact decide_eq_false (hab.mp c)
    · refine decide_eq_true ?_
      by_cases z : nv 8 + 3 ≤ nv 7 ∨ nv 7 + 3 ≤ nv 8
      · exact z
      · exact absurd (hab.mpr z) c
  refine ⟨isO_pt hS (by decide) rfl, ?_⟩
  rcases hT with ⟨q1, q2⟩ | ⟨i', o, c, s, e, d, u, cd, cl, q1, q2, ht, hx, hd⟩
  · have hl : lawR tx ti 2 nv = none := by unfold lawR; rw [if_pos q1]
    exact c_rules0 hS q2 (iF_t rfl ⟨isO_pt hS (by decide) rfl, dR_of (Str.pg hS rfl) ⟨inA_pt hS rfl (vp_lit (by decide)), dR_of (Str.pg hS rfl) ⟨inA_pt hS rfl (vp_lit (by decide)), key hl⟩⟩⟩)
  · have hl : lawR tx ti 2 nv = lvR (fun k => tx (705 * i' + k)) 2 nv := by
      unfold lawR
      rw [if_neg (by omega), q1, Nat.add_sub_cancel]
    refine c_rules hS ht hx (w := 2) rfl (by omega) (fun q => iF_t rfl ⟨isO_pt hS (by decide) rfl, dR_of (Str.pg hS rfl) ⟨inA_pt hS rfl (vp_lit (by decide)), dR_of (Str.pg hS rfl) ⟨inA_pt hS rfl (vp_lit (by decide)), key ?_⟩⟩⟩) (fun k q => iF_f (by decide) ⟨isO_pt hS (by decide) rfl, ?_⟩)
    · rw [hl]; unfold lvR; rw [q]; rfl
    · refine c_worked hS ht hx (w := 2) rfl (by omega) q (fun v hv2 => hv v hv2) fun M2 vs ts e2 f2 g g2 _ => ?_
      obtain ⟨t, rfl, rfl, g3⟩ := g2 rfl
      rw [g3]
      rw [hl, g] at h0 h1
      cases t
      · exact iF_t (by decide) (h0 rfl M2 ⟨e2, f2⟩)
      · exact iF_f (by decide) (h1 rfl M2 ⟨e2, f2⟩)
