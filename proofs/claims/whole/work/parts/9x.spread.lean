/-! ===== the weights, of the one ===== -/
def GR (M : fM) (r : Nat) (G : Nat → Nat → Nat) : Prop := ∀ t c, t < 15 → c < 32 → mJ M r (32 * t + c) = jN (G t c)
theorem GR.cg {M : fM} {r : Nat} {G G2 : Nat → Nat → Nat} (h : GR M r G) (e : ∀ t c, t < 15 → c < 32 → G2 t c = G t c) : GR M r G2 := fun t c ht hc => by rw [e t c ht hc]; exact h t c ht hc
theorem GR.w {M : fM} {r t0 c0 v : Nat} {G : Nat → Nat → Nat} (h : GR M r G) (hc0 : c0 < 32) : GR (wJ M r (32 * t0 + c0) (jN v)) r (fun t c => if t = t0 ∧ c = c0 then v else G t c) := by
  intro t c ht hc
  rw [mJ_wJ]
  by_cases e : t = t0 ∧ c = c0
  · rw [if_pos ⟨rfl, by omega⟩]
    exact congrArg jN (if_pos e).symm
  · rw [if_neg (by omega)]
    exact (h t c ht hc).trans (congrArg jN (if_neg e).symm)
def JF (M M2 : fM) : Prop := M2.1 = M.1 ∧ M2.2.2 = M.2.2 ∧ ∀ k, mJ M2 2 k = mJ M 2 k
theorem JF.rf (M : fM) : JF M M := ⟨rfl, rfl, fun _ => rfl⟩
theorem JF.tr {M M1 M2 : fM} (h : JF M M1) (h2 : JF M1 M2) : JF M M2 := ⟨h2.1.trans h.1, h2.2.1.trans h.2.1, fun k => (h2.2.2 k).trans (h.2.2 k)⟩
theorem JF.f {P : Nat → Prop} {M M2 : fM} (h : JF M M2) : Frm P M M2 := ⟨nop_e h.2.1, h.2.2, fun r _ k _ => by unfold mI; rw [h.1]⟩
theorem JF.I {M M2 : fM} (h : JF M M2) (r : Nat) : mI M2 r = mI M r := by unfold mI; rw [h.1]
theorem JF.S {L : Nat} {M M2 : fM} (h : JF M M2) (hS : Str L M) : Str L M2 := (JF.f (P := scr) h).S hS
theorem JF.w {M : fM} {r k : Nat} {v : Int64} (hr : r ≠ 2) : JF M (wJ M r k v) := ⟨rfl, rfl, fun j => mJ_n (by omega)⟩
theorem c_add {L t c v : Nat} {G : Nat → Nat → Nat} {M : fM} {a b : Int32} {d : Int64} {φ : fM → Prop} (hS : Str L M) (hG : GR M 62 G) (ha : a = nI t) (hb : b = nI c) (hd : d = jN v) (ht : t < 15) (hc : c < 32) (h : φ (wJ M 62 (32 * t + c) (jN (G t c + v)))) : w_X3_add 58 a b d M φ := by
  subst ha hb hd
  refine nm_of ?_
  rw [show nI t * (32 : Int32) + nI c = nI (32 * t + c) by rw [Int32.mul_comm]; simp only [lit32, nI_muL, nI_add]]
  refine iF_f (fun q => absurd ((nIlt (b := 0) (by omega) (by omega)).mp q) (by omega)) ⟨isO_pt hS (by decide) rfl, dR_of (Str.pg hS rfl) (lenA_of (Str.sh hS 61 _ rfl) (iF_f (fun q => absurd ((nIle (by omega) (by omega)).mp q) (by omega)) (dR_of (Str.pg hS rfl) ⟨inA_pt hS rfl (vp_nI (by omega) (by decide)), ?_⟩)))⟩
  rw [ix_nI (by omega), hG t c ht hc, jN_add]
  exact nm_of ⟨by omega, inA_pt hS rfl (vp_nI (by omega) (by decide)), st_of h⟩
theorem c_chance {L t c : Nat} {G : Nat → Nat → Nat} {M : fM} {a b : Int32} {φ : Int64 → fM → Prop} (hS : Str L M) (hG : GR M 62 G) (ha : a = nI t) (hb : b = nI c) (ht : t < 15) (hc : c < 32) (h : φ (jN (G t c)) M) : w_X3_chance 58 a b M φ := by
  subst ha hb
  refine nm_of ?_
  rw [show nI t * (32 : Int32) + nI c = nI (32 * t + c) by rw [Int32.mul_comm]; simp only [lit32, nI_muL, nI_add]]
  refine iF_f (fun q => absurd ((nIlt (b := 0) (by omega) (by omega)).mp q) (by omega)) ⟨isO_pt hS (by decide) rfl, dR_of (Str.pg hS rfl) (lenA_of (Str.sh hS 61 _ rfl) (iF_f (fun q => absurd ((nIle (by omega) (by omega)).mp q) (by omega)) (dR_of (Str.pg hS rfl) ⟨inA_pt hS rfl (vp_nI (by omega) (by decide)), ?_⟩)))⟩
  rw [ix_nI (by omega), hG t c ht hc]
  exact h
/-- rows up to t are done, of the next one the counts below m -/
def pfG (w : Nat → Nat → Nat) (b : Bool) (t no tw m : Nat) : Nat → Nat → Nat := fun t' c => if t' ≤ t then w t' c else if t' = t + 1 then ptW (w t) b t no tw m c else 0
theorem pfG_0 {w : Nat → Nat → Nat} {b : Bool} {t no tw t' c : Nat} : pfG w b t no tw 0 t' c = if t' ≤ t then w t' c else 0 := by
  unfold pfG
  rw [ptW_0]
  split
  · rfl
  · split <;> rfl
theorem c_car_l {L t no tw : Nat} {w : Nat → Nat → Nat} {φ : fM → Prop} (ht : t < 14) (hn : no + tw ≤ 10) (hw : ∀ c, w t c < 9223372036854775808) : ∀ (m k : Nat) (M : fM), k + m = 30 → Str L M → GR M 62 (pfG w false t no tw k) → (∀ M2, JF M M2 → GR M2 62 (pfG w false t no tw 30) → φ M2) → l_X3_carry_21 φ (m + 1) 58 (nI (t + 1)) (nI no) (nI tw) (nI k) M := by
  have et : nI (t + 1) - (1 : Int32) = nI t := (nI_sub (a := t + 1) (b := 1) (by omega)).trans (by rw [Nat.add_sub_cancel])
  have em : (10 : Int32) - nI no - nI tw = nI (10 - no - tw) := by
    rw [show (10 : Int32) - nI no = nI (10 - no) from nI_sub (a := 10) (by omega), nI_sub (by omega)]
  intro m
  induction m with
  | zero =>
    intro k M hk hS hG hz
    obtain rfl : k = 30 := by omega
    exact iF_t (by decide) (hz M (JF.rf M) hG)
  | succ m ih =>
    intro k M hk hS hG hz
    show b_X3_carry_21 (l_X3_carry_21 φ (m + 1)) φ 58 (nI (t + 1)) (nI no) (nI tw) (nI k) M
    generalize hK : l_X3_carry_21 φ (m + 1) = K at ih ⊢
    have e1 : nI k + (1 : Int32) = nI (k + 1) := nI_add _ 1
    have e2 : nI k + (2 : Int32) = nI (k + 2) := nI_add _ 2
    refine iF_f (fun q => absurd ((nIle (a := 30) (by omega) (by omega)).mp q) (by omega)) ⟨isO_pt hS (by decide) rfl, c_chance hS hG et rfl (by omega) (by omega) ?_⟩
    have eG : pfG w false t no tw k t k = w t k := by
      unfold pfG
      rw [if_pos (Nat.le_refl _)]
    rw [eG]
    have hwk := hw k
    by_cases z : w t k = 0
    · refine iF_t ((lg_0 hwk).mpr z) (nm_of ?_)
      rw [e1]
      refine ih (k + 1) M (by omega) hS (hG.cg fun t' c h1 h2 => ?_) hz
      unfold pfG
      rw [ptW_f, z, Nat.zero_mul, Nat.zero_mul, Nat.zero_mul, ite_self, ite_self, ite_self]
      rfl
    · refine iF_f (fun q => z ((lg_0 hwk).mp q)) ⟨isO_pt hS (by decide) rfl, c_add (v := w t k * no) hS hG rfl rfl (by rw [jN_I (by omega), jN_mul]) (by omega) (by omega) ?_⟩
      have f1 : JF M (wJ M 62 (32 * (t + 1) + k) (jN (pfG w false t no tw k (t + 1) k + w t k * no))) := JF.w (by omega)
      have hG1 := hG.w (t0 := t + 1) (c0 := k) (v := pfG w false t no tw k (t + 1) k + w t k * no) (by omega)
      generalize wJ M 62 (32 * (t + 1) + k) (jN (pfG w false t no tw k (t + 1) k + w t k * no)) = M1 at f1 hG1 ⊢
      have hS1 := f1.S hS
      refine ⟨isO_pt hS1 (by decide) rfl, c_add (v := w t k * (10 - no - tw)) hS1 hG1 rfl e1 (by rw [em, jN_I (by omega), jN_mul]) (by omega) (by omega) ?_⟩
      rw [if_neg (show ¬ (t + 1 = t + 1 ∧ k + 1 = k) by omega)]
      have f2 : JF M1 (wJ M1 62 (32 * (t + 1) + (k + 1)) (jN (pfG w false t no tw k (t + 1) (k + 1) + w t k * (10 - no - tw)))) := JF.w (by omega)
      have hG2 := hG1.w (t0 := t + 1) (c0 := k + 1) (v := pfG w false t no tw k (t + 1) (k + 1) + w t k * (10 - no - tw)) (by omega)
      generalize wJ M1 62 (32 * (t + 1) + (k + 1)) (jN (pfG w false t no tw k (t + 1) (k + 1) + w t k * (10 - no - tw))) = M2 at f2 hG2 ⊢
      have hS2 := f2.S hS1
      refine ⟨isO_pt hS2 (by decide) rfl, c_add (v := w t k * tw) hS2 hG2 rfl e2 (by rw [jN_I (by omega), jN_mul]) (by omega) (by omega) (nm_of ?_)⟩
      rw [if_neg (show ¬ (t + 1 = t + 1 ∧ k + 2 = k + 1) by omega), if_neg (show ¬ (t + 1 = t + 1 ∧ k + 2 = k) by omega), e1]
      have f3 : JF M2 (wJ M2 62 (32 * (t + 1) + (k + 2)) (jN (pfG w false t no tw k (t + 1) (k + 2) + w t k * tw))) := JF.w (by omega)
      have hG3 := hG2.w (t0 := t + 1) (c0 := k + 2) (v := pfG w false t no tw k (t + 1) (k + 2) + w t k * tw) (by omega)
      have f := (f1.tr f2).tr f3
      refine ih (k + 1) _ (by omega) (f.S hS) (hG3.cg fun t' c h1 h2 => ?_) fun M3 f4 h4 => hz M3 (f.tr f4) h4
      by_cases q : t' = t + 1
      · subst q
        have eq : ∀ c, pfG w false t no tw k (t + 1) c = ptW (w t) false t no tw k c := fun c => by
          unfold pfG
          rw [if_neg (by omega), if_pos rfl]
        have eq1 : pfG w false t no tw (k + 1) (t + 1) c = ptW (w t) false t no tw (k + 1) c := by
          unfold pfG
          rw [if_neg (by omega), if_pos rfl]
        rw [eq1, ptW_f]
        simp only [eq, true_and]
        by_cases c2 : c = k + 2
        · subst c2
          (repeat' split) <;> omega
        · by_cases c1 : c = k + 1
          · subst c1
            (repeat' split) <;> omega
          · by_cases c0 : c = k
            · subst c0
              (repeat' split) <;> omega
            · (repeat' split) <;> omega
      · rw [if_neg (fun z => q z.1), if_neg (fun z => q z.1), if_neg (fun z => q z.1)]
        unfold pfG
        rw [if_neg q, if_neg q]
theorem c_gat_l {L t no tw : Nat} {w : Nat → Nat → Nat} {φ : fM → Prop} (ht : t < 14) : ∀ (m k : Nat) (M : fM), k + m = 30 → Str L M → GR M 62 (pfG w true t no tw 0) → (∀ M2, JF M M2 → GR M2 62 (pfG w true t no tw 30) → φ M2) → l_X3_gather_5 φ (m + 1) 58 (nI (t + 1)) (jN (smN (w t) k)) (nI k) M := by
  have et : nI (t + 1) - (1 : Int32) = nI t := (nI_sub (a := t + 1) (b := 1) (by omega)).trans (by rw [Nat.add_sub_cancel])
  intro m
  induction m with
  | zero =>
    intro k M hk hS hG hz
    obtain rfl : k = 30 := by omega
    refine iF_t (by decide) ⟨isO_pt hS (by decide) rfl, c_add (v := smN (w t) 30 * 10) hS hG rfl rfl (jN_mul (smN (w t) 30) 10) (by omega) (by omega) ?_⟩
    have hG1 := hG.w (t0 := t + 1) (c0 := t + 1) (v := pfG w true t no tw 0 (t + 1) (t + 1) + smN (w t) 30 * 10) (by omega)
    refine hz _ (JF.w (by omega)) (hG1.cg fun t' c h1 h2 => ?_)
    have p30 : ptW (w t) true t no tw 30 c = if c = t + 1 then smN (w t) 30 * 10 else 0 := by
      unfold ptW
      rw [if_pos rfl]
    unfold pfG
    rw [p30]
    simp only [ptW_0]
    (repeat' split) <;> omega
  | succ m ih =>
    intro k M hk hS hG hz
    show b_X3_gather_5 (l_X3_gather_5 φ (m + 1)) φ 58 (nI (t + 1)) (jN (smN (w t) k)) (nI k) M
    refine iF_f (fun q => absurd ((nIle (a := 30) (by omega) (by omega)).mp q) (by omega)) ⟨isO_pt hS (by decide) rfl, c_chance hS hG et rfl (by omega) (by omega) (nm_of (nm_of ?_))⟩
    rw [pfG_0, if_pos (Nat.le_refl _), jN_add, ← smN_s, show nI k + (1 : Int32) = nI (k + 1) from nI_add _ 1]
    exact ih (k + 1) M (by omega) hS hG hz
/-- what the one has taken into mind -/
def Lk (M : fM) (n ld mk la : Nat) (no tw hm : Nat → Nat) : Prop := mI M 58 3 = nI n ∧ mI M 58 4 = nI ld ∧ mI M 58 5 = nI mk ∧ mI M 58 6 = nI la ∧ (∀ t, 1 ≤ t → t ≤ n → mI M 59 t = nI (no t) ∧ mI M 60 t = nI (tw t)) ∧ ∀ t, t ≤ n → mI M 61 t = nI (hm t)
theorem Lk.j {M M2 : fM} {n ld mk la : Nat} {no tw hm : Nat → Nat} (f : JF M M2) (h : Lk M n ld mk la no tw hm) : Lk M2 n ld mk la no tw hm := by
  unfold Lk
  rw [f.I, f.I, f.I, f.I]
  exact h
def mkB (m ld : Nat) : Nat → Bool := fun t => decide (bt m t = 1 ∧ ld = 0)
theorem c_spr_l {L n ld mk la m z o : Nat} {no tw hm : Nat → Nat} {φ : fM → Prop} (hn14 : n ≤ 14) (hld : ld ≤ 1) (hb : ∀ t, no t + tw t ≤ 10) (hzo : z + o ≤ 10) : ∀ (j t : Nat) (M : fM), t + j = n → Str L M → Lk M n ld mk la no tw hm → GR M 62 (fun t' c => if t' ≤ t then WW no tw (mkB m ld) z o t' c else 0) → (∀ M2, JF M M2 → GR M2 62 (fun t' c => if t' ≤ n then WW no tw (mkB m ld) z o t' c else 0) → φ M2) → l_X3_spreadFrom_27 φ (j + 1) 58 (nI m) (nI (t + 1)) M := by
  intro j
  induction j with
  | zero =>
    intro t M ht hS lk hG hz
    obtain rfl : t = n := by omega
    refine ⟨isO_pt hS (by decide) rfl, ?_⟩
    rw [lk.1]
    exact iF_t ((nIlt (by omega) (by omega)).mpr (by omega)) (hz M (JF.rf M) hG)
  | succ j ih =>
    intro t M ht hS lk hG hz
    show b_X3_spreadFrom_27 (l_X3_spreadFrom_27 φ (j + 1)) φ 58 (nI m) (nI (t + 1)) M
    generalize hK : l_X3_spreadFrom_27 φ (j + 1) = K at ih ⊢
    obtain ⟨l1, l2, l3, l4, l5, l6⟩ := id lk
    obtain ⟨g1, g2⟩ := l5 (t + 1) (by omega) (by omega)
    have p14 : 10 ^ t ≤ 10 ^ 13 := Nat.pow_le_pow_right (by omega) (by omega)
    have z13 : (10 : Nat) ^ 13 = 10000000000000 := by decide
    have hw : ∀ c, WW no tw (mkB m ld) z o t c < 9223372036854775808 := fun c => by
      have q := WW_b (mk := mkB m ld) (z := z) (o := o) hb (t := t) (by omega) c
      have q2 : (z + o) * 10 ^ t ≤ 10 * 10 ^ 13 := Nat.mul_le_mul hzo p14
      omega
    have fin : ∀ b, mkB m ld (t + 1) = b → ∀ M2, JF M M2 → GR M2 62 (pfG (WW no tw (mkB m ld) z o) b t (no (t + 1)) (tw (t + 1)) 30) → K 58 (nI m) (nI (t + 1) + 1) M2 := by
      intro b hbb M2 f hG2
      rw [show nI (t + 1) + (1 : Int32) = nI (t + 1 + 1) from nI_add _ 1]
      refine ih (t + 1) M2 (by omega) (f.S hS) (lk.j f) (hG2.cg fun t' c h1 h2 => ?_) fun M3 f3 h3 => hz M3 (f.tr f3) h3
      unfold pfG
      by_cases q : t' ≤ t
      · rw [if_pos (by omega), if_pos q]
      · rw [if_neg q]
        by_cases q1 : t' = t + 1
        · rw [if_pos (by omega), if_pos q1, q1, ← hbb, ptW_30 (by omega) h2]
        · rw [if_neg (by omega), if_neg q1]
    have hG0 : ∀ b, GR M 62 (pfG (WW no tw (mkB m ld) z o) b t (no (t + 1)) (tw (t + 1)) 0) := fun b => hG.cg fun t' c _ _ => pfG_0
    refine ⟨isO_pt hS (by decide) rfl, ?_⟩
    rw [l1]
    refine iF_f (fun q => absurd ((nIlt (by omega) (by omega)).mp q) (by omega)) ?_
    have carry : mkB m ld (t + 1) = false → j_X3_spreadFrom_62 K φ 58 (nI m) (nI (t + 1)) M := fun q => by
      refine ⟨isO_pt hS (by decide) rfl, isO_pt hS (by decide) rfl, dR_of (Str.pg hS rfl) (c_cellN (Str.sh hS 58 _ rfl) rfl (by omega) (by omega) ⟨isO_pt hS (by decide) rfl, dR_of (Str.pg hS rfl) (c_cellN (Str.sh hS 59 _ rfl) rfl (by omega) (by omega) ⟨31, ?_⟩)⟩)⟩
      rw [g1, g2]
      exact c_car_l (by omega) (hb (t + 1)) hw 30 0 M rfl hS (hG0 false) fun M2 f h => nm_of (fin false q M2 f h)
    rw [l2]
    have hld2 : ld = 0 ∨ ld = 1 := by omega
    rcases hld2 with e | e
    · refine iF_t (by rw [e]; rfl) (iF_s (fun q => ?_) (fun q => ?_))
      · have qb : bt m (t + 1) = 1 := by unfold bt; rw [show (nI 31 : Int32) = 31 from rfl, show (nI 1 : Int32) = 1 from rfl, q]; rfl
        exact ⟨31, c_gat_l (by omega) 30 0 M rfl hS (hG0 true) fun M2 f h => nm_of (fin true (decide_eq_true ⟨qb, e⟩) M2 f h)⟩
      · refine carry (decide_eq_false fun c => q ?_)
        have z1 := c.1
        unfold bt at z1
        exact Int32.toInt_inj.mp z1
    · exact iF_f (by rw [e]; decide) (carry (decide_eq_false fun c => absurd c.2 (by omega)))
theorem c_spreadFrom {L n ld mk la m z o : Nat} {no tw hm : Nat → Nat} {M : fM} {a b c : Int32} {φ : fM → Prop} (hS : Str L M) (lk : Lk M n ld mk la no tw hm) (ha : a = nI z) (hb : b = nI o) (hc : c = nI m) (hn1 : 1 ≤ n) (hn14 : n ≤ 14) (hld : ld ≤ 1) (hbd : ∀ t, no t + tw t ≤ 10) (hzo : z + o ≤ 10) (hz : ∀ M2, JF M M2 → GR M2 62 (fun t' c => if t' ≤ n then WW no tw (mkB m ld) z o t' c else 0) → φ M2) : w_X3_spreadFrom 58 a b c M φ := by
  subst ha hb hc
  refine ⟨isO_pt hS (by decide) rfl, dR_of (Str.pg hS rfl) (c_filJ (n := 480) (by omega) (by decide) (Str.sh hS 61 _ rfl) fun M1 g1 g2 g3 => ?_)⟩
  have f1 : JF M M1 := ⟨g1, g2, fun k => by rw [g3, if_neg (by omega)]⟩
  have hS1 := f1.S hS
  have hG1 : GR M1 62 (fun _ _ => 0) := fun t c h1 h2 => by
    rw [g3, if_pos ⟨rfl, by omega⟩]
    rfl
  refine ⟨isO_pt hS1 (by decide) rfl, c_add (v := z) (t := 0) (c := 0) hS1 hG1 rfl rfl (jN_I (by omega)) (by omega) (by omega) ?_⟩
  have f2 : JF M1 (wJ M1 62 (32 * 0 + 0) (jN (0 + z))) := JF.w (by omega)
  have hG2 := hG1.w (t0 := 0) (c0 := 0) (v := 0 + z) (by omega)
  generalize wJ M1 62 (32 * 0 + 0) (jN (0 + z)) = M2 at f2 hG2 ⊢
  have f12 := f1.tr f2
  have hS2 := f12.S hS
  refine ⟨isO_pt hS2 (by decide) rfl, c_add (v := o) (t := 0) (c := 1) hS2 hG2 rfl rfl (jN_I (by omega)) (by omega) (by omega) ⟨n + 1, ?_⟩⟩
  rw [if_neg (by omega)]
  have f3 : JF M2 (wJ M2 62 (32 * 0 + 1) (jN (0 + o))) := JF.w (by omega)
  have hG3 := hG2.w (t0 := 0) (c0 := 1) (v := 0 + o) (by omega)
  generalize wJ M2 62 (32 * 0 + 1) (jN (0 + o)) = M3 at f3 hG3 ⊢
  have f := f12.tr f3
  refine c_spr_l (L := L) (n := n) (no := no) (tw := tw) hn14 hld hbd hzo n 0 M3 (by omega) (f.S hS) (lk.j f) (hG3.cg fun t' c h1 h2 => ?_) fun M4 f4 h4 => hz M4 (f.tr f4) h4
  by_cases q : t' ≤ 0
  · have q0 : t' = 0 := by omega
    rw [if_pos q, q0]
    show (if c = 0 then z else if c = 1 then o else 0) = _
    (repeat' split) <;> omega
  · rw [if_neg q, if_neg (by omega), if_neg (by omega)]
theorem c_spread {L n ld mk la : Nat} {no tw hm : Nat → Nat} {M : fM} {φ : fM → Prop} (hS : Str L M) (lk : Lk M n ld mk la no tw hm) (hla : la ≤ 10) (hn1 : 1 ≤ n) (hn14 : n ≤ 14) (hld : ld ≤ 1) (hbd : ∀ t, no t + tw t ≤ 10) (hz : ∀ M2, JF M M2 → GR M2 62 (fun t' c => if t' ≤ n then WW no tw (mkB mk ld) (10 - la) la t' c else 0) → φ M2) : w_X3_spread 58 M φ := by
  obtain ⟨l1, l2, l3, l4, l5, l6⟩ := id lk
  refine ⟨isO_pt hS (by decide) rfl, c_spreadFrom (z := 10 - la) (o := la) hS lk ?_ l4 l3 hn1 hn14 hld hbd (by omega) hz⟩
  rw [l4]
  exact nI_sub (a := 10) hla
