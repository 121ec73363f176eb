/-! ===== none, twice, trips, jar, fall: numbers of tx (row 73), A, person, house, kind, step ===== -/
def nvS (A : Nat → Nat) (p h kd s : Nat) : Nat → Nat := nvF A p h kd s (htA A h s) (htA A h (s - 1))
def vN (tx : Nat → Int32) (A : Nat → Nat) (p h kd s : Nat) : Nat := sumV (lawR tx (A 4) 0 (nvS A p h kd s)) (A (82 + 3 * p)) 10
def vT (tx : Nat → Int32) (A : Nat → Nat) (p h kd s : Nat) : Nat := sumV (lawR tx (A 4) 1 (nvS A p h kd s)) (A (82 + 3 * p + 1)) (10 - vN tx A p h kd s)
def vR (tx : Nat → Int32) (ti : Nat) (A : Nat → Nat) (p h kd s a b : Nat) : Bool := trpV (lawR tx ti 2 (nvF A p h kd s a b)) a b
def vJ (tx : Nat → Int32) (A : Nat → Nat) (p h kd : Nat) : Nat := sumV (lawR tx (A 4) 3 (nvF A p h kd 0 0 0)) 5 99
def vF (tx : Nat → Int32) (A : Nat → Nat) (p h kd : Nat) : Nat := sumV (lawR tx (A 4) 4 (nvF A p h kd 0 0 0)) 9 99
theorem vN_b (tx : Nat → Int32) (A : Nat → Nat) (p h kd s : Nat) : vN tx A p h kd s ≤ 10 := sumV_le _ _ _
theorem vT_b (tx : Nat → Int32) (A : Nat → Nat) (p h kd s : Nat) : vN tx A p h kd s + vT tx A p h kd s ≤ 10 := by
  have h1 := vN_b tx A p h kd s
  have h2 : vT tx A p h kd s ≤ 10 - vN tx A p h kd s := sumV_le _ _ _
  omega
theorem m_nameAt {L B p h kd s : Nat} {A : Nat → Nat} {M : fM} {a b c d : Int32} {φ : fM → Prop} (hS : Str L M) (hM : Mdl M 71 A) (hO : Okk B A) (ha : a = nI p) (hb : b = nI h) (hc : c = nI kd) (hd : d = nI s) (hp : p < 6) (hh : h < 4) (hk : kd < 4) (hs1 : 1 ≤ s) (hs : s ≤ 14) (hz : ∀ M2, FN M M2 → (∀ v, v < 10 → mI M2 76 v = nI (nvS A p h kd s v)) → φ M2) : w_X11_nameAt 70 a b c d M φ := by
  subst hd
  have es : nI s - (1 : Int32) = nI (s - 1) := nI_sub (b := 1) hs1
  refine ⟨isO_pt hS (by decide) rfl, m_name hS hM hO ha hb hc hp hh hk fun M1 f1 q1 => ?_⟩
  have hS1 := f1.S hS
  have hM1 := f1.M hM
  refine ⟨isO_pt hS1 (by decide) rfl, m_heightOf hS1 hM1 hO hb rfl hh (by omega) ⟨isO_pt hS1 (by decide) rfl, ?_⟩⟩
  rw [es]
  refine m_heightOf hS1 hM1 hO hb rfl hh (by omega) ⟨isO_pt hS1 (by decide) rfl, ?_⟩
  exact m_nameStep hS1 hM1 hO hb hc rfl rfl rfl hh hk hs q1 fun M2 f2 q2 => hz M2 (f1.tr f2) q2
theorem m_noneAt {L B p h kd s : Nat} {A : Nat → Nat} {M : fM} {a b c d : Int32} {φ : Int32 → fM → Prop} (hS : Str L M) (hM : Mdl M 71 A) (hO : Okk B A) (hT : TrM M (A 4)) (ha : a = nI p) (hb : b = nI h) (hc : c = nI kd) (hd : d = nI s) (hp : p < A 0) (hh : h < 4) (hk : kd < 4) (hs1 : 1 ≤ s) (hs : s ≤ 14) (hz : ∀ M2, FN M M2 → (∀ v, v < 10 → mI M2 76 v = nI (nvS A p h kd s v)) → φ (nI (vN (mI M 73) A p h kd s)) M2) : w_X11_noneAt 70 a b c d M φ := by
  have o0 := hO.1.1
  have hb1 := (hO.2.2.1 p hp).1
  refine ⟨isO_pt hS (by decide) rfl, m_nameAt hS hM hO ha hb hc hd (by omega) hh hk hs1 hs fun M1 f1 q1 => ?_⟩
  have hS1 := f1.S hS
  have hM1 := f1.M hM
  have e : (82 : Int32) + ((3 : Int32) * a) = nI (82 + 3 * p) := by rw [ha, show (82 : Int32) = nI 82 from rfl, show (3 : Int32) = nI 3 from rfl, nI_muL, nI_add]
  rw [e, ix_nI (by omega)]
  refine ⟨isO_pt hS1 (by decide) rfl, dR_of (Str.pg hS1 rfl) ⟨inA_pt hS1 rfl (vp_nI (by omega) (by decide)), ?_⟩⟩
  rw [hM1.1 _ (by omega) (by omega)]
  refine m_sumBy (w := 0) (own := A (82 + 3 * p)) (top := 10) (nv := nvS A p h kd s) hS1 hM1 hO (hT.fn f1) rfl rfl rfl (by omega) (by omega) (by omega) (by omega) (fun v hv => ⟨q1 v hv, nvF_b hO (by omega) hh hk hs (htA_b hO hh (by omega)) (htA_b hO hh (by omega)) v⟩) fun M2 f2 => ?_
  rw [f1.x]
  exact hz M2 (f1.tr f2.n) fun v hv => (f2.2.1 76 (by omega) v).trans (q1 v hv)
theorem m_twiceAt {L B p h kd s : Nat} {A : Nat → Nat} {M : fM} {a b c d : Int32} {φ : Int32 → fM → Prop} (hS : Str L M) (hM : Mdl M 71 A) (hO : Okk B A) (hT : TrM M (A 4)) (ha : a = nI p) (hb : b = nI h) (hc : c = nI kd) (hd : d = nI s) (hp : p < A 0) (hh : h < 4) (hk : kd < 4) (hs1 : 1 ≤ s) (hs : s ≤ 14) (hz : ∀ M2, FN M M2 → φ (nI (vT (mI M 73) A p h kd s)) M2) : w_X11_twiceAt 70 a b c d M φ := by
  have o0 := hO.1.1
  have hb1 := (hO.2.2.1 p hp).1
  have hvb := vN_b (mI M 73) A p h kd s
  have e : (82 : Int32) + ((3 : Int32) * a) = nI (82 + 3 * p) := by rw [ha, show (82 : Int32) = nI 82 from rfl, show (3 : Int32) = nI 3 from rfl, nI_muL, nI_add]
  have e1 : nI (82 + 3 * p) + (1 : Int32) = nI (82 + 3 * p + 1) := nI_add _ 1
  refine ⟨isO_pt hS (by decide) rfl, m_noneAt hS hM hO hT ha hb hc hd hp hh hk hs1 hs fun M1 f1 q1 => ?_⟩
  have hS1 := f1.S hS
  have hM1 := f1.M hM
  rw [e, e1, ix_nI (by omega)]
  refine ⟨isO_pt hS1 (by decide) rfl, dR_of (Str.pg hS1 rfl) ⟨inA_pt hS1 rfl (vp_nI (by omega) (by decide)), ?_⟩⟩
  rw [hM1.1 _ (by omega) (by omega)]
  refine m_sumBy (w := 1) (own := A (82 + 3 * p + 1)) (top := 10 - vN (mI M 73) A p h kd s) (nv := nvS A p h kd s) hS1 hM1 hO (hT.fn f1) rfl rfl (nI_sub (a := 10) hvb) (by omega) (by omega) (by omega) (by omega) (fun v hv => ⟨q1 v hv, nvF_b hO (by omega) hh hk hs (htA_b hO hh (by omega)) (htA_b hO hh (by omega)) v⟩) fun M2 f2 => ?_
  rw [f1.x]
  exact hz M2 (f1.tr f2.n)
theorem m_jarOf {L B p h kd : Nat} {A : Nat → Nat} {M : fM} {a b c : Int32} {φ : Int32 → fM → Prop} (hS : Str L M) (hM : Mdl M 71 A) (hO : Okk B A) (hT : TrM M (A 4)) (ha : a = nI p) (hb : b = nI h) (hc : c = nI kd) (hp : p < 6) (hh : h < 4) (hk : kd < 4) (hz : ∀ M2, FN M M2 → φ (nI (vJ (mI M 73) A p h kd)) M2) : w_X11_jarOf 70 a b c M φ := by
  refine ⟨isO_pt hS (by decide) rfl, m_name hS hM hO ha hb hc hp hh hk fun M1 f1 q1 => ?_⟩
  have hS1 := f1.S hS
  refine ⟨isO_pt hS1 (by decide) rfl, m_sumBy (w := 3) (own := 5) (top := 99) (nv := nvF A p h kd 0 0 0) hS1 (f1.M hM) hO (hT.fn f1) rfl rfl rfl (by omega) (by omega) (by omega) (by omega) (fun v hv => ⟨q1 0 0 0 v hv, nvF_b hO hp hh hk (by omega) (by omega) (by omega) v⟩) fun M2 f2 => ?_⟩
  rw [f1.x]
  exact hz M2 (f1.tr f2.n)
theorem m_fallOf {L B p h kd : Nat} {A : Nat → Nat} {M : fM} {a b c : Int32} {φ : Int32 → fM → Prop} (hS : Str L M) (hM : Mdl M 71 A) (hO : Okk B A) (hT : TrM M (A 4)) (ha : a = nI p) (hb : b = nI h) (hc : c = nI kd) (hp : p < 6) (hh : h < 4) (hk : kd < 4) (hz : ∀ M2, FN M M2 → φ (nI (vF (mI M 73) A p h kd)) M2) : w_X11_fallOf 70 a b c M φ := by
  refine ⟨isO_pt hS (by decide) rfl, m_name hS hM hO ha hb hc hp hh hk fun M1 f1 q1 => ?_⟩
  have hS1 := f1.S hS
  refine ⟨isO_pt hS1 (by decide) rfl, m_sumBy (w := 4) (own := 9) (top := 99) (nv := nvF A p h kd 0 0 0) hS1 (f1.M hM) hO (hT.fn f1) rfl rfl rfl (by omega) (by omega) (by omega) (by omega) (fun v hv => ⟨q1 0 0 0 v hv, nvF_b hO hp hh hk (by omega) (by omega) (by omega) v⟩) fun M2 f2 => ?_⟩
  rw [f1.x]
  exact hz M2 (f1.tr f2.n)
/-- by the TEXT ti over a STEP so high (x), the one ahead so high (y) -/
theorem m_tripsBy {L B p h kd s x y ti : Nat} {A : Nat → Nat} {M : fM} {t a b c d e f : Int32} {φ : Int32 → fM → Prop} (hS : Str L M) (hM : Mdl M 71 A) (hO : Okk B A) (hT : TrM M ti) (ht : t = nI ti - 1) (ha : a = nI p) (hb : b = nI h) (hc : c = nI kd) (hd : d = nI s) (he : e = nI x) (hf : f = nI y) (hp : p < 6) (hh : h < 4) (hk : kd < 4) (hs : s ≤ 14) (hx9 : x ≤ 9) (hy9 : y ≤ 9) (hz : ∀ M2 v, FN M M2 → v = iI (b01 (vR (mI M 73) ti A p h kd s x y)) → φ v M2) : w_X11_tripsBy 70 t a b c d e f M φ := by
  subst ht
  have g0 : vR (mI M 73) ti A p h kd s x y = false → ∀ M2, FN M M2 → φ 0 M2 := fun q M2 f => hz M2 0 f (by rw [q]; rfl)
  have g1 : vR (mI M 73) ti A p h kd s x y = true → ∀ M2, FN M M2 → φ 1 M2 := fun q M2 f => hz M2 1 f (by rw [q]; rfl)
  have key : lawR (mI M 73) ti 2 (nvF A p h kd s x y) = none → iF ((3 : Int32) ≤ e - f) (φ 1 M) (iF (f - e < (3 : Int32)) (φ 0 M) (φ 1 M)) := by
    intro q
    have e3 : (3 : Int32).toInt = 3 := rfl
    have q1 := tI_sub (a := x) (b := y) (by omega) (by omega)
    have q2 := tI_sub (a := y) (b := x) (by omega) (by omega)
    subst he hf
    unfold vR trpV at g0 g1
    rw [q] at g0 g1
    refine iF_s (fun c => g1 (decide_eq_true ?_) M (FN.rf M)) (fun c => iF_s (fun c2 => g0 (decide_eq_false ?_) M (FN.rf M)) (fun c2 => g1 (decide_eq_true ?_) M (FN.rf M)))
    · rw [le_toInt, e3, q1] at c; omega
    · rw [le_toInt, e3, q1] at c
      rw [lt_toInt, e3, q2] at c2
      omega
    · rw [lt_toInt, e3, q2] at c2
      omega
  refine ⟨isO_pt hS (by decide) rfl, ?_⟩
  rcases hT with hT | ⟨i, cd, C, S, E, D, U, cl, h1, h2, hx⟩
  · have hl : lawR (mI M 73) ti 2 (nvF A p h kd s x y) = none := by unfold lawR; rw [if_pos hT]
    rw [hT, show nI 0 - (1 : Int32) = -1 by decide]
    exact m_clauseOf0 (iF_f (by decide) (key hl))
  · have e4 : nI ti - (1 : Int32) = nI i := by rw [h1, show (1 : Int32) = nI 1 from rfl, nI_sub (by omega), Nat.add_sub_cancel]
    have hl : ∀ nv, lawR (mI M 73) ti 2 nv = lvR (Tx M i) 2 nv := fun nv => by
      unfold lawR
      rw [if_neg (by omega), h1, Nat.add_sub_cancel]
      rfl
    rw [e4]
    refine m_clauseOf (s := 2) hS rfl rfl h2 hx.2.1 hx.1 (fun q => ?_) (fun k q => ?_)
    · exact iF_f (by decide) (key (by rw [hl]; unfold lvR; rw [q]; rfl))
    · have hk24 : k < 24 := by
        rcases hx.law (s := 2) (by omega) with ⟨z, -⟩ | ⟨k', _, _, z, z2, -⟩
        · rw [q] at z; cases z
        · rw [q] at z; cases z; exact z2
      refine iF_t ((le_toInt _ _).mpr (by rw [toInt_nI (by omega)]; show (0 : Int) ≤ k; omega)) ⟨isO_pt hS (by decide) rfl, m_name hS hM hO ha hb hc hp hh hk fun M1 f1 q1 => ?_⟩
      have hS1 := f1.S hS
      refine ⟨isO_pt hS1 (by decide) rfl, m_nameStep hS1 (f1.M hM) hO hb hc hd he hf hh hk hs q1 fun M2 f2 q2 => ?_⟩
      have hS2 := f2.S hS1
      have f12 := f1.tr f2
      refine ⟨isO_pt hS2 (by decide) rfl, m_work (nc := 0) (w := 2) (nv := nvF A p h kd s x y) hS2 rfl rfl h2 (by omega) (by rw [f12.t]; exact hx) (by rw [f12.t]; exact q) (fun v hv => ⟨q2 v hv, nvF_b hO hp hh hk hs hx9 hy9 v⟩) fun M3 vs ts e2 f3 g2 g g3 _ => ?_⟩
      obtain ⟨tt, rfl, rfl, g4⟩ := g3 rfl
      have fw : F78 M2 M3 := ⟨e2, f3, g2⟩
      have hS3 := fw.n.S hS2
      refine ⟨isO_pt hS3 (by decide) rfl, dR_of (Str.pg hS3 rfl) ⟨inA_pt hS3 rfl (vp_lit (by decide)), ?_⟩⟩
      rw [show ix (0 : Int32) = 0 from rfl, g4]
      refine ⟨isBb tt, hz M3 _ (f12.tr fw.n) ?_⟩
      unfold vR
      rw [hl, ← f12.t i, g]
      rfl
theorem m_tripsAt {L B p h kd s : Nat} {A : Nat → Nat} {M : fM} {a b c d : Int32} {φ : Int32 → fM → Prop} (hS : Str L M) (hM : Mdl M 71 A) (hO : Okk B A) (hT : TrM M (A 4)) (ha : a = nI p) (hb : b = nI h) (hc : c = nI kd) (hd : d = nI s) (hp : p < 6) (hh : h < 4) (hk : kd < 4) (hs1 : 1 ≤ s) (hs : s ≤ 14) (hz : ∀ M2 v, FN M M2 → v = iI (b01 (vR (mI M 73) (A 4) A p h kd s (htA A h s) (htA A h (s - 1)))) → φ v M2) : w_X11_tripsAt 70 a b c d M φ := by
  have es : d - (1 : Int32) = nI (s - 1) := by rw [hd]; exact nI_sub (b := 1) hs1
  have r4 := hM.2
  refine ⟨isO_pt hS (by decide) rfl, dR_of (Str.pg hS rfl) ⟨inA_pt hS rfl (vp_lit (by decide)), ?_⟩⟩
  rw [show ix (4 : Int32) = 4 from rfl, r4, es]
  refine m_heightOf hS hM hO hb hd hh (by omega) ⟨isO_pt hS (by decide) rfl, m_heightOf hS hM hO hb rfl hh (by omega) ⟨isO_pt hS (by decide) rfl, ?_⟩⟩
  exact m_tripsBy hS hM hO hT rfl ha hb hc hd rfl rfl hp hh hk hs (htA_b hO hh (by omega)) (htA_b hO hh (by omega)) fun M2 v f q => ⟨by rw [q]; exact isBb _, hz M2 v f q⟩
