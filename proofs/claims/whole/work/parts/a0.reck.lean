/-! ===== what it costs to feel from a count on: sums; the model's side ===== -/
def coC (f hm c : Nat) : Nat := if f ≤ c then 3 else 1 + hm
def haC (f hm c : Nat) : Nat := if f ≤ c then 0 else hm
def cR (n f : Nat) (hm : Nat → Nat) (w : Nat → Nat → Nat) (t : Nat) : Nat → Nat := fun c => w t c * 10 ^ (n - t) * coC f (hm t) c
def hR (n f : Nat) (hm : Nat → Nat) (w : Nat → Nat → Nat) (t : Nat) : Nat → Nat := fun c => w t c * 10 ^ (n - t) * haC f (hm t) c
def CO (n : Nat) (hm : Nat → Nat) (w : Nat → Nat → Nat) (f : Nat) : Nat := smN (fun t => smN (cR n f hm w t) 30) (n + 1)
def HA (n : Nat) (hm : Nat → Nat) (w : Nat → Nat → Nat) (f : Nat) : Nat := smN (fun t => smN (hR n f hm w t) 30) (n + 1)
def JR (M M2 : fM) : Prop := M2.1 = M.1 ∧ M2.2.2 = M.2.2 ∧ ∀ q k, q ≠ 79 → (q ≠ 70 ∨ (k ≠ 25 ∧ k ≠ 26)) → mJ M2 q k = mJ M q k
theorem JR.rf (M : fM) : JR M M := ⟨rfl, rfl, fun _ _ _ _ => rfl⟩
theorem JR.tr {M M1 M2 : fM} (h : JR M M1) (h2 : JR M1 M2) : JR M M2 := ⟨h2.1.trans h.1, h2.2.1.trans h.2.1, fun q k a b => (h2.2.2 q k a b).trans (h.2.2 q k a b)⟩
theorem JR.jf {M M2 : fM} (h : JR M M2) : JF M M2 := ⟨h.1, h.2.1, fun k => h.2.2 2 k (by omega) (by omega)⟩
theorem JR.g {M M2 : fM} (h : JG M M2) : JR M M2 := ⟨h.1, h.2.1, fun q k a _ => h.2.2 q a k⟩
theorem JR.w {M : fM} {k : Nat} {v : Int64} (hk : k = 25 ∨ k = 26) : JR M (wJ M 70 k v) := ⟨rfl, rfl, fun q j a b => mJ_n (by omega)⟩
theorem GR.o {M : fM} {r q k : Nat} {v : Int64} {G : Nat → Nat → Nat} (hq : q ≠ r) (h : GR M r G) : GR (wJ M q k v) r G := fun t c h1 h2 => (mJ_n (by omega)).trans (h t c h1 h2)
theorem pfG_e {w : Nat → Nat → Nat} {b : Bool} {t no tw k c : Nat} : pfG w b t no tw k t c = w t c := by
  unfold pfG
  rw [if_pos (Nat.le_refl _)]
theorem pfG_z {w : Nat → Nat → Nat} {b : Bool} {t no tw k t' c : Nat} (h : w t k = 0) : pfG w b t no tw (k + 1) t' c = pfG w b t no tw k t' c := by
  unfold pfG
  cases b
  · rw [ptW_f, h, Nat.zero_mul, Nat.zero_mul, Nat.zero_mul, ite_self, ite_self, ite_self]
    rfl
  · rw [ptW_t, h, Nat.zero_mul, ite_self]
    rfl
theorem m_rc_l {L n h kd m f t no tw hmt cs hs : Nat} {A : Nat → Nat} {w : Nat → Nat → Nat} {p1 p7 p8 : Int32} {φ : fM → Prop} {K51 : Nat → Int32 → Int32 → Int32 → Int32 → Int32 → Int32 → Int32 → Int32 → fM → Prop} (hh : h < 4) (hkd : kd < 4) (htn : t ≤ n) (hn : n ≤ 14) (hb : no + tw ≤ 10) (hf : f ≤ 30) (hhm : hmt ≤ 99) (hwb : ∀ c, c < 30 → w t c * 10 ^ (n - t) < 9223372036854775808) : ∀ (j k : Nat) (M : fM), k + j = 30 → Str L M → Mdl M 71 A → nI (A (10 + 18 * h + 1)) ||| mI M 70 27 = nI m → GR M 79 (pfG w (mkB m (kd % 2) (t + 1)) t no tw (if t < n then k else 0)) → mJ M 70 25 = jN (cs + smN (fun c => w t c * 10 ^ (n - t) * coC f hmt c) k) → mJ M 70 26 = jN (hs + smN (fun c => w t c * 10 ^ (n - t) * haC f hmt c) k) → (∀ M2, JR M M2 → GR M2 79 (pfG w (mkB m (kd % 2) (t + 1)) t no tw (if t < n then 30 else 0)) → mJ M2 70 25 = jN (cs + smN (fun c => w t c * 10 ^ (n - t) * coC f hmt c) 30) → mJ M2 70 26 = jN (hs + smN (fun c => w t c * 10 ^ (n - t) * haC f hmt c) 30) → K51 70 p1 (nI h) (nI kd) (nI f) (nI n) p7 p8 (nI t + 1) M2) → l_X11_reckon_153 K51 φ (j + 1) 70 p1 (nI h) (nI kd) (nI f) (nI n) p7 p8 (nI t) (jN (10 ^ (n - t))) (nI no) (nI tw) (nI hmt) (nI k) M := by
  intro j
  induction j with
  | zero =>
    intro k M hk hS hM hmm hG h25 h26 hz
    obtain rfl : k = 30 := by omega
    exact iF_t (by decide) (nm_of (hz M (JR.rf M) hG h25 h26))
  | succ j ih =>
    intro k M hk hS hM hmm hG h25 h26 hz
    show b_X11_reckon_153 K51 (l_X11_reckon_153 K51 φ (j + 1)) φ 70 p1 (nI h) (nI kd) (nI f) (nI n) p7 p8 (nI t) (jN (10 ^ (n - t))) (nI no) (nI tw) (nI hmt) (nI k) M
    generalize hK : l_X11_reckon_153 K51 φ (j + 1) = K at ih ⊢
    have e1 : nI k + (1 : Int32) = nI (k + 1) := nI_add _ 1
    unfold b_X11_reckon_153 w_X11_cell
    simp only [cell_e]
    rw [ix_nI (by omega)]
    refine iF_f (fun q => absurd ((nIle (a := 30) (by omega) (by omega)).mp q) (by omega)) ⟨isO_pt hS (by decide) rfl, dR_of (Str.pg hS rfl) ⟨inA_pt hS rfl (vp_nI (by omega) (by decide)), nm_of ?_⟩⟩
    rw [hG t k (by omega) (by omega), pfG_e, jN_mul]
    by_cases q : w t k * 10 ^ (n - t) = 0
    · refine iF_t ((lg_0 (hwb k (by omega))).mpr q) (nm_of ?_)
      rw [e1]
      have z : w t k = 0 := by
        rcases Nat.mul_eq_zero.mp q with e | e
        · exact e
        · exact absurd e (Nat.pos_iff_ne_zero.mp (Nat.pow_pos (by omega)))
      refine ih (k + 1) M (by omega) hS hM hmm (hG.cg fun t' c h1 h2 => ?_) ?_ ?_ hz
      · by_cases tn : t < n
        · rw [if_pos tn, if_pos tn, pfG_z z]
        · rw [if_neg tn, if_neg tn]
      · rw [smN_s, q, Nat.zero_mul, Nat.add_zero]
        exact h25
      · rw [smN_s, q, Nat.zero_mul, Nat.add_zero]
        exact h26
    · refine iF_f (fun c => q ((lg_0 (hwb k (by omega))).mp c)) ⟨isO_pt hS (by decide) rfl, ?_⟩
      have go : ∀ s0 : Nat, s0 = coC f hmt k → s0 ≤ 100 → j_X11_reckon_209 K51 K φ 70 p1 (nI h) (nI kd) (nI f) (nI n) p7 p8 (nI t) (jN (10 ^ (n - t))) (nI no) (nI tw) (nI hmt) (nI k) (jN (w t k * 10 ^ (n - t))) (nI s0) (jN (w t k * 10 ^ (n - t))) (mJ M 70 25) 70 M := by
        intro s0 hs0 hs100
        refine nm_of ⟨isO_pt hS (by decide) rfl, st_of ?_⟩
        rw [h25, jN_I (by omega), jN_mul, jN_add, hs0, Nat.add_assoc, ← smN_s (fun c => w t c * 10 ^ (n - t) * coC f hmt c)]
        obtain ⟨M1, hM1⟩ : ∃ M1, M1 = wJ M 70 25 (jN (cs + smN (fun c => w t c * 10 ^ (n - t) * coC f hmt c) (k + 1))) := ⟨_, rfl⟩
        have f1 : JR M M1 := by rw [hM1]; exact JR.w (Or.inl rfl)
        have g25 : mJ M1 70 25 = jN (cs + smN (fun c => w t c * 10 ^ (n - t) * coC f hmt c) (k + 1)) := by rw [hM1]; exact mJ_s _ _ _ _
        have g26 : mJ M1 70 26 = jN (hs + smN (fun c => w t c * 10 ^ (n - t) * haC f hmt c) k) := by rw [hM1]; exact (mJ_n (by omega)).trans h26
        have hG1 : GR M1 79 (pfG w (mkB m (kd % 2) (t + 1)) t no tw (if t < n then k else 0)) := by rw [hM1]; exact hG.o (by omega)
        rw [← hM1]
        clear hM1
        have hS1 := f1.jf.S hS
        have go2 : ∀ y : Nat, y = w t k * 10 ^ (n - t) * haC f hmt k → j_X11_reckon_237 K51 K φ 70 p1 (nI h) (nI kd) (nI f) (nI n) p7 p8 (nI t) (jN (10 ^ (n - t))) (nI no) (nI tw) (nI hmt) (nI k) (jN y) (mJ M1 70 26) 70 M1 := by
          intro y hy
          refine nm_of ⟨isO_pt hS1 (by decide) rfl, st_of ?_⟩
          rw [g26, jN_add, hy, Nat.add_assoc, ← smN_s (fun c => w t c * 10 ^ (n - t) * haC f hmt c)]
          obtain ⟨M2, hM2⟩ : ∃ M2, M2 = wJ M1 70 26 (jN (hs + smN (fun c => w t c * 10 ^ (n - t) * haC f hmt c) (k + 1))) := ⟨_, rfl⟩
          have f2 : JR M1 M2 := by rw [hM2]; exact JR.w (Or.inr rfl)
          have i25 : mJ M2 70 25 = jN (cs + smN (fun c => w t c * 10 ^ (n - t) * coC f hmt c) (k + 1)) := by rw [hM2]; exact (mJ_n (by omega)).trans g25
          have i26 : mJ M2 70 26 = jN (hs + smN (fun c => w t c * 10 ^ (n - t) * haC f hmt c) (k + 1)) := by rw [hM2]; exact mJ_s _ _ _ _
          have hG2 : GR M2 79 (pfG w (mkB m (kd % 2) (t + 1)) t no tw (if t < n then k else 0)) := by rw [hM2]; exact hG1.o (by omega)
          rw [← hM2]
          clear hM2
          have f12 := f1.tr f2
          have hS2 := f2.jf.S hS1
          have hMM : Mdl M2 71 A := hM.cg fun k => by rw [f12.jf.I]
          have hm2 : nI (A (10 + 18 * h + 1)) ||| mI M2 70 27 = nI m := by rw [f12.jf.I]; exact hmm
          by_cases tn : t < n
          · rw [if_pos tn] at hG2
            refine iF_f (fun c => absurd ((nIle (by omega) (by omega)).mp c) (by omega)) ⟨isO_pt hS2 (by decide) rfl, m_goOn hS2 hMM hh hkd hm2 hG2 (by omega) (by omega) hb fun M3 f3 hG3 => nm_of ?_⟩
            rw [e1]
            have f13 := f12.tr (JR.g f3)
            refine ih (k + 1) M3 (by omega) (f3.S hS2) (hMM.cg fun k => by rw [f3.I]) (by rw [f3.I]; exact hm2) (by rw [if_pos tn]; exact hG3) ((f3.2.2 70 (by omega) 25).trans i25) ((f3.2.2 70 (by omega) 26).trans i26) fun M4 f4 a1 a2 a3 => hz M4 (f13.tr f4) a1 a2 a3
          · rw [if_neg tn] at hG2
            refine iF_t ((nIle (by omega) (by omega)).mpr (by omega)) (nm_of ?_)
            rw [e1]
            refine ih (k + 1) M2 (by omega) hS2 hMM hm2 (by rw [if_neg tn]; exact hG2) i25 i26 fun M4 f4 a1 a2 a3 => hz M4 (f12.tr f4) a1 a2 a3
        refine ⟨isO_pt hS1 (by decide) rfl, ?_⟩
        by_cases kf : k < f
        · refine iF_t ((nIlt (by omega) (by omega)).mpr kf) ?_
          rw [jN_I (by omega), jN_mul]
          refine go2 _ ?_
          unfold haC
          rw [if_neg (by omega)]
        · refine iF_f (fun c => kf ((nIlt (by omega) (by omega)).mp c)) (go2 0 ?_)
          unfold haC
          rw [if_pos (by omega), Nat.mul_zero]
      by_cases kf : k < f
      · refine iF_t ((nIlt (by omega) (by omega)).mpr kf) ?_
        rw [show (1 : Int32) + nI hmt = nI (1 + hmt) from nI_add 1 hmt]
        refine go _ ?_ (by omega)
        unfold coC
        rw [if_neg (by omega)]
      · refine iF_f (fun c => kf ((nIlt (by omega) (by omega)).mp c)) (go 3 ?_ (by omega))
        unfold coC
        rw [if_pos (by omega)]
def RK (M M2 : fM) : Prop := Frm scr M M2 ∧ ∀ k, k ≠ 25 → k ≠ 26 → mJ M2 70 k = mJ M 70 k
theorem RK.tr {M M1 M2 : fM} (h : RK M M1) (h2 : RK M1 M2) : RK M M2 := ⟨h.1.tr h2.1, fun k a b => (h2.2 k a b).trans (h.2 k a b)⟩
theorem RK.fn {M M2 : fM} (f : FN M M2) : RK M M2 := ⟨f.f, fun k _ _ => f.2.2 70 (by omega) k⟩
theorem RK.jr {M M2 : fM} (f : JR M M2) : RK M M2 := ⟨f.jf.f, fun k a b => f.2.2 70 k (by omega) (Or.inr ⟨a, b⟩)⟩
theorem RK.jg {M M2 : fM} (f : JG M M2) : RK M M2 := RK.jr (JR.g f)
theorem WW_ub {no tw : Nat → Nat} {mk : Nat → Bool} {z o n t : Nat} (hb : ∀ t, no t + tw t ≤ 10) (hzo : z + o ≤ 10) (ht : t ≤ n) (hn : n ≤ 14) (c : Nat) : WW no tw mk z o t c * 10 ^ (n - t) ≤ 1000000000000000 := by
  have q := Nat.mul_le_mul_right (10 ^ (n - t)) (WW_b (mk := mk) (z := z) (o := o) hb (t := t) (by omega) c)
  rw [Nat.mul_assoc, ← Nat.pow_add, show t + (n - t) = n by omega] at q
  have p14 : 10 ^ n ≤ 10 ^ 14 := Nat.pow_le_pow_right (by omega) hn
  have q2 : (z + o) * 10 ^ n ≤ 10 * 10 ^ 14 := Nat.mul_le_mul hzo p14
  have z14 : (10 : Nat) ^ 14 = 100000000000000 := by decide
  omega
theorem m_rk_l {L B p h kd m f : Nat} {A : Nat → Nat} {tx : Nat → Int32} {z o : Nat} {φ : fM → Prop} (hO : Okk B A) (hp : p < A 0) (hh : h < 4) (hkd : kd < 4) (hzo : z + o ≤ 10) (hf : f ≤ 30) : ∀ (j t : Nat) (M : fM), t + j = A (10 + 18 * h) + 1 → Str L M → Mdl M 71 A → TrM M (A 4) → mI M 73 = tx → nI (A (10 + 18 * h + 1)) ||| mI M 70 27 = nI m → (t ≤ A (10 + 18 * h) → GR M 79 (fun t' c => if t' ≤ t then WW (vN tx A p h kd) (vT tx A p h kd) (mkB m (kd % 2)) z o t' c else 0)) → mJ M 70 25 = jN (smN (fun t => smN (cR (A (10 + 18 * h)) f (hmV tx A p h kd) (WW (vN tx A p h kd) (vT tx A p h kd) (mkB m (kd % 2)) z o) t) 30) t) → mJ M 70 26 = jN (smN (fun t => smN (hR (A (10 + 18 * h)) f (hmV tx A p h kd) (WW (vN tx A p h kd) (vT tx A p h kd) (mkB m (kd % 2)) z o) t) 30) t) → (∀ M2, RK M M2 → Mdl M2 71 A → TrM M2 (A 4) → mJ M2 70 25 = jN (CO (A (10 + 18 * h)) (hmV tx A p h kd) (WW (vN tx A p h kd) (vT tx A p h kd) (mkB m (kd % 2)) z o) f) → mJ M2 70 26 = jN (HA (A (10 + 18 * h)) (hmV tx A p h kd) (WW (vN tx A p h kd) (vT tx A p h kd) (mkB m (kd % 2)) z o) f) → φ M2) → l_X11_reckon_51 φ (j + 1) 70 (nI p) (nI h) (nI kd) (nI f) (nI (A (10 + 18 * h))) (nI (vJ tx A p h kd)) (nI (vF tx A p h kd)) (nI t) M := by
  obtain ⟨hn1, hn, -⟩ := hO.2.1 h hh
  have o0 := hO.1.1
  have hb := vT_b tx A p h kd
  have hjb := vJ_b tx A p h kd
  have hfb := vF_b tx A p h kd
  generalize hW : WW (vN tx A p h kd) (vT tx A p h kd) (mkB m (kd % 2)) z o = W
  have hub : ∀ t c, t ≤ A (10 + 18 * h) → W t c * 10 ^ (A (10 + 18 * h) - t) ≤ 1000000000000000 := fun t c ht => by rw [← hW]; exact WW_ub hb hzo ht hn c
  intro j
  induction j with
  | zero =>
    intro t M ht hS hM hT h73 hmm hG h25 h26 hz
    obtain rfl : t = A (10 + 18 * h) + 1 := by omega
    refine iF_t ((nIlt (by omega) (by omega)).mpr (by omega)) (hz M ⟨Frm.rf, fun _ _ _ => rfl⟩ hM hT h25 h26)
  | succ j ih =>
    intro t M ht hS hM hT h73 hmm hG h25 h26 hz
    have htn : t ≤ A (10 + 18 * h) := by omega
    have hG := hG htn
    show b_X11_reckon_51 (l_X11_reckon_51 φ (j + 1)) φ 70 (nI p) (nI h) (nI kd) (nI f) (nI (A (10 + 18 * h))) (nI (vJ tx A p h kd)) (nI (vF tx A p h kd)) (nI t) M
    generalize hK : l_X11_reckon_51 φ (j + 1) = K at ih ⊢
    have e1 : nI t + (1 : Int32) = nI (t + 1) := nI_add _ 1
    refine iF_f (fun q => absurd ((nIlt (by omega) (by omega)).mp q) (by omega)) (m_tenTo (n := A (10 + 18 * h) - t) (nI_sub htn) (by omega) ?_)
    have lp : ∀ (M1 : fM) (no tw hmt : Nat), RK M M1 → (∀ r, r ≠ 76 → r ≠ 78 → ∀ k, mI M1 r k = mI M r k) → (∀ r, r ≠ 77 → ∀ k, mJ M1 r k = mJ M r k) → TrM M1 (A 4) → hmt = hmV tx A p h kd t → no + tw ≤ 10 → (t < A (10 + 18 * h) → no = vN tx A p h kd (t + 1) ∧ tw = vT tx A p h kd (t + 1)) → l_X11_reckon_153 K φ 31 70 (nI p) (nI h) (nI kd) (nI f) (nI (A (10 + 18 * h))) (nI (vJ tx A p h kd)) (nI (vF tx A p h kd)) (nI t) (jN (10 ^ (A (10 + 18 * h) - t))) (nI no) (nI tw) (nI hmt) (nI 0) M1 := by
      intro M1 no tw hmt f1 fi fj hT1 hhm hnt hnn
      have hS1 := f1.1.S hS
      have hM1 : Mdl M1 71 A := hM.cg fun k => fi 71 (by omega) (by omega) k
      have hhb : hmt ≤ 99 := by rw [hhm]; exact hmV_b _ _ _ _ _ _
      have e73 : mI M1 73 = tx := (funext fun k => fi 73 (by omega) (by omega) k : mI M1 73 = mI M 73).trans h73
      have e27 : mI M1 70 27 = mI M 70 27 := fi 70 (by omega) (by omega) 27
      refine m_rc_l (L := L) (m := m) (A := A) (w := W) (cs := smN (fun t => smN (cR (A (10 + 18 * h)) f (hmV tx A p h kd) W t) 30) t) (hs := smN (fun t => smN (hR (A (10 + 18 * h)) f (hmV tx A p h kd) W t) 30) t) hh hkd htn hn hnt hf hhb (fun c _ => Nat.lt_of_le_of_lt (hub t c htn) (by decide)) 30 0 M1 rfl hS1 hM1 (by rw [e27]; exact hmm) ?_ ?_ ?_ fun M2 f2 hG2 g25 g26 => ?_
      · rw [ite_self]
        exact fun t' c q1 q2 => (fj 79 (by omega) _).trans ((hG t' c q1 q2).trans (congrArg jN pfG_0.symm))
      · exact (fj 70 (by omega) 25).trans h25
      · exact (fj 70 (by omega) 26).trans h26
      · rw [e1]
        refine ih (t + 1) M2 (by omega) (f2.jf.S hS1) (hM1.cg fun k => by rw [f2.jf.I]) ((JF.f f2.jf).sT hT1) ((f2.jf.I 73).trans e73) (by rw [f2.jf.I, e27]; exact hmm) (fun htn2 => ?_) ?_ ?_ fun M3 f3 a1 a2 a3 a4 => hz M3 ((f1.tr (RK.jr f2)).tr f3) a1 a2 a3 a4
        · have tn : t < A (10 + 18 * h) := by omega
          obtain ⟨n1, n2⟩ := hnn tn
          rw [if_pos tn, n1, n2, ← hW] at hG2
          rw [← hW]
          exact pf_nx (by omega) hG2
        · rw [g25, smN_s, hhm]
          rfl
        · rw [g26, smN_s, hhm]
          rfl
    by_cases q : t = A (10 + 18 * h)
    · have hv : vJ tx A p h kd = hmV tx A p h kd t := by
        unfold hmV
        rw [if_pos q]
      refine iF_t (by rw [q]) (iF_t (by rw [q]) (iF_t (by rw [q]) ⟨31, ?_⟩))
      exact lp M 0 0 _ ⟨Frm.rf, fun _ _ _ => rfl⟩ (fun _ _ _ _ => rfl) (fun _ _ _ => rfl) hT hv (by omega) (fun c => absurd c (by omega))
    · have ne : ¬ (nI t = nI (A (10 + 18 * h))) := fun c => q (nI_inj (by omega) (by omega) c)
      have hv1 : hmV tx A p h kd t = if vR tx (A 4) A p h kd (t + 1) (htA A h (t + 1)) (htA A h (t + 1 - 1)) = true then vF tx A p h kd else 0 := by
        unfold hmV
        rw [if_neg q]
        rfl
      refine iF_f ne ⟨isO_pt hS (by decide) rfl, m_noneAt hS hM hO hT rfl rfl rfl e1 hp hh hkd (by omega) (by omega) fun M1 f1 _ => ?_⟩
      have hS1 := f1.S hS
      rw [h73]
      refine iF_f ne ⟨isO_pt hS1 (by decide) rfl, m_twiceAt hS1 (f1.M hM) hO (hT.fn f1) rfl rfl rfl e1 hp hh hkd (by omega) (by omega) fun M2 f2 => ?_⟩
      have f12 := f1.tr f2
      have hS2 := f12.S hS
      rw [f1.x, h73]
      refine iF_f ne ⟨isO_pt hS2 (by decide) rfl, m_tripsAt hS2 (f12.M hM) hO (hT.fn f12) rfl rfl rfl e1 (by omega) hh hkd (by omega) (by omega) fun M3 v f3 hv => ?_⟩
      have f := f12.tr f3
      rw [f12.x, h73] at hv
      subst hv
      cases ht2 : vR tx (A 4) A p h kd (t + 1) (htA A h (t + 1)) (htA A h (t + 1 - 1))
      · rw [ht2, if_neg (by decide)] at hv1
        exact iF_t (by decide) ⟨31, lp M3 _ _ 0 (RK.fn f) f.2.1 f.2.2 (hT.fn f) hv1.symm (hb (t + 1)) (fun _ => ⟨rfl, rfl⟩)⟩
      · rw [ht2, if_pos rfl] at hv1
        exact iF_f (by decide) ⟨31, lp M3 _ _ _ (RK.fn f) f.2.1 f.2.2 (hT.fn f) hv1.symm (hb (t + 1)) (fun _ => ⟨rfl, rfl⟩)⟩
theorem m_reckon {L B p h kd m f : Nat} {A : Nat → Nat} {M : fM} {b e : Int32} {φ : fM → Prop} (hS : Str L M) (hM : Mdl M 71 A) (hO : Okk B A) (hT : TrM M (A 4)) (hp : p < A 0) (hh : h < 4) (hkd : kd < 4) (hbf : b = nI f) (hf : f ≤ 30) (hmm : nI (A (10 + 18 * h + 1)) ||| e = nI m) (hz : ∀ M2, RK M M2 → Mdl M2 71 A → TrM M2 (A 4) → mJ M2 70 25 = jN (CO (A (10 + 18 * h)) (hmV (mI M 73) A p h kd) (WW (vN (mI M 73) A p h kd) (vT (mI M 73) A p h kd) (mkB m (kd % 2)) (10 - A (82 + 3 * p + 2)) (A (82 + 3 * p + 2))) f) → mJ M2 70 26 = jN (HA (A (10 + 18 * h)) (hmV (mI M 73) A p h kd) (WW (vN (mI M 73) A p h kd) (vT (mI M 73) A p h kd) (mkB m (kd % 2)) (10 - A (82 + 3 * p + 2)) (A (82 + 3 * p + 2))) f) → φ M2) : w_X11_reckon 70 (nI p) (nI h) (nI kd) b e M φ := by
  subst hbf
  obtain ⟨hn1, hn, -⟩ := hO.2.1 h hh
  have o0 := hO.1.1
  have hpb := (hO.2.2.1 p hp).2
  have ex : (10 : Int32) + ((18 : Int32) * nI h) = nI (10 + 18 * h) := by simp only [lit32, nI_muL, nI_add]
  unfold w_X11_reckon w_X11_stepsOf
  rw [ex, ix_nI (by omega)]
  refine ⟨isO_pt hS (by decide) rfl, isO_pt hS (by decide) rfl, dR_of (Str.pg hS rfl) ⟨inA_pt hS rfl (vp_nI (by omega) (by decide)), isO_pt hS (by decide) rfl, ?_⟩⟩
  rw [hM.1 _ (by omega) (by omega)]
  refine m_jarOf hS hM hO hT rfl rfl rfl (by omega) hh hkd fun M1 f1 => ?_
  have hS1 := f1.S hS
  refine ⟨isO_pt hS1 (by decide) rfl, m_fallOf hS1 (f1.M hM) hO (hT.fn f1) rfl rfl rfl (by omega) hh hkd fun M2 f2 => ?_⟩
  rw [f1.x]
  have f12 := f1.tr f2
  have hS2 := f12.S hS
  refine ⟨isO_pt hS2 (by decide) rfl, m_start (zf := 1) hS2 (f12.M hM) hO hp rfl rfl (by omega) fun M3 f3 hG3 => ?_⟩
  rw [if_neg (by omega)] at hG3
  have hS3 := f3.S hS2
  have r3 : RK M M3 := (RK.fn f12).tr (RK.jg f3)
  have hM3 : Mdl M3 71 A := (f12.M hM).cg fun k => by rw [f3.I]
  refine ⟨isO_pt hS3 (by decide) rfl, st_of (st_of (st_of ⟨A (10 + 18 * h) + 2, ?_⟩))⟩
  have f4 : Frm scr M3 (wI M3 70 27 e) := Frm.w70 (by omega)
  have r4 : RK M3 (wI M3 70 27 e) := ⟨f4, fun _ _ _ => rfl⟩
  have hM4 : Mdl (wI M3 70 27 e) 71 A := hM3.cg fun k => mI_n (by omega)
  have hG4 : ∀ no tw mk, GR (wI M3 70 27 e) 79 (fun t c => if t ≤ 0 then WW no tw mk (10 - A (82 + 3 * p + 2)) (A (82 + 3 * p + 2)) t c else 0) := hG3
  have e27 : mI (wI M3 70 27 e) 70 27 = e := mI_s rfl rfl
  have hS4 := f4.S hS3
  have hT4 : TrM (wI M3 70 27 e) (A 4) := f4.sT ((JG.f f3).sT (hT.fn f12))
  have h73 : mI (wI M3 70 27 e) 73 = mI M 73 := (f4.sm.m73).trans ((f3.I 73).trans f12.x)
  generalize wI M3 70 27 e = M4 at f4 r4 hM4 hG4 e27 hS4 hT4 h73 ⊢
  have f5 : JR M4 (wJ (wJ M4 70 25 0) 70 26 0) := (JR.w (Or.inl rfl)).tr (JR.w (Or.inr rfl))
  have g25 : mJ (wJ (wJ M4 70 25 0) 70 26 0) 70 25 = 0 := (mJ_n (by omega)).trans (mJ_s _ _ _ _)
  have g26 : mJ (wJ (wJ M4 70 25 0) 70 26 0) 70 26 = 0 := mJ_s _ _ _ _
  have hG5 : ∀ no tw mk, GR (wJ (wJ M4 70 25 0) 70 26 0) 79 (fun t c => if t ≤ 0 then WW no tw mk (10 - A (82 + 3 * p + 2)) (A (82 + 3 * p + 2)) t c else 0) := fun no tw mk => ((hG4 no tw mk).o (by omega)).o (by omega)
  generalize wJ (wJ M4 70 25 0) 70 26 0 = M5 at f5 g25 g26 hG5 ⊢
  refine m_rk_l (L := L) (m := m) (tx := mI M 73) hO hp hh hkd (by omega) hf (A (10 + 18 * h) + 1) 0 M5 (by omega) (f5.jf.S hS4) (hM4.cg fun k => by rw [f5.jf.I]) ((JF.f f5.jf).sT hT4) ((f5.jf.I 73).trans h73) (by rw [f5.jf.I, e27]; exact hmm) (fun _ => hG5 _ _ _) g25 g26 fun M6 f6 a1 a2 a3 a4 => hz M6 (((r3.tr r4).tr (RK.jr f5)).tr f6) a1 a2 a3 a4
