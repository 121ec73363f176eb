/-! ===== the weights, of the model ===== -/
/-- nothing but the model's weights is written -/
def JG (M M2 : fM) : Prop := M2.1 = M.1 ∧ M2.2.2 = M.2.2 ∧ ∀ q, q ≠ 79 → ∀ k, mJ M2 q k = mJ M q k
theorem JG.rf (M : fM) : JG M M := ⟨rfl, rfl, fun _ _ _ => rfl⟩
theorem JG.tr {M M1 M2 : fM} (h : JG M M1) (h2 : JG M1 M2) : JG M M2 := ⟨h2.1.trans h.1, h2.2.1.trans h.2.1, fun q hq k => (h2.2.2 q hq k).trans (h.2.2 q hq k)⟩
theorem JG.jf {M M2 : fM} (h : JG M M2) : JF M M2 := ⟨h.1, h.2.1, h.2.2 2 (by omega)⟩
theorem JG.f {P : Nat → Prop} {M M2 : fM} (h : JG M M2) : Frm P M M2 := h.jf.f
theorem JG.I {M M2 : fM} (h : JG M M2) (r : Nat) : mI M2 r = mI M r := h.jf.I r
theorem JG.S {L : Nat} {M M2 : fM} (h : JG M M2) (hS : Str L M) : Str L M2 := h.jf.S hS
theorem JG.w {M : fM} {k : Nat} {v : Int64} : JG M (wJ M 79 k v) := ⟨rfl, rfl, fun q hq j => mJ_n (by omega)⟩
theorem lg_le {a : Nat} (ha : a < 9223372036854775808) : lg_cmp (jN a) (0 : Int64) ≤ 0 ↔ a = 0 := by
  constructor
  · intro h
    rcases Nat.eq_zero_or_pos a with e | e
    · exact e
    · have q : lg_cmp (jN a) (iJ 0) = 1 := lg_gt (a := a) (b := 0) (by omega) (by omega) (by omega)
      rw [show (0 : Int64) = iJ 0 from rfl, q] at h
      exact absurd h (by decide)
  · rintro rfl
    rw [show lg_cmp (jN 0) (0 : Int64) = 0 from lg_eq _]
    decide
theorem cell_e (t c : Nat) : (32 : Int32) * nI t + nI c = nI (32 * t + c) := by simp only [lit32, nI_muL, nI_add]
theorem m_147 {L t c x tw : Nat} {v : Nat} {G : Nat → Nat → Nat} {M : fM} {a b d : Int32} {φ : fM → Prop} (hS : Str L M) (hG : GR M 79 G) (ha : a = nI tw) (hb : b = nI c) (hd : d = nI t) (ht : t < 15) (hc : c < 32) (htw : tw ≤ 10) {gv : Nat} (hgv : G t c = gv) (h : φ (wJ M 79 (32 * t + c) (jN (gv + x * tw)))) : j_X11_goOn_147 φ a (jN x) b d 79 M := by
  subst ha hb hd
  unfold j_X11_goOn_147 w_X11_cell
  simp only [cell_e]
  rw [ix_nI (by omega)]
  refine ⟨inA_pt hS rfl (vp_nI (by omega) (by decide)), ?_⟩
  rw [hG t c ht hc, hgv, jN_I (by omega), jN_mul, jN_add]
  exact nm_of ⟨by omega, inA_pt hS rfl (vp_nI (by omega) (by decide)), st_of h⟩
theorem m_goOn {L t k no tw kd h m : Nat} {A : Nat → Nat} {w : Nat → Nat → Nat} {M : fM} {φ : fM → Prop} (hS : Str L M) (hM : Mdl M 71 A) (hh : h < 4) (hkd : kd < 4) (hmm : nI (A (10 + 18 * h + 1)) ||| mI M 70 27 = nI m) (hG : GR M 79 (pfG w (mkB m (kd % 2) (t + 1)) t no tw k)) (ht : t < 14) (hk : k < 30) (hn : no + tw ≤ 10) (hz : ∀ M2, JG M M2 → GR M2 79 (pfG w (mkB m (kd % 2) (t + 1)) t no tw (k + 1)) → φ M2) : w_X11_goOn 70 (nI h) (nI kd) (nI t) (nI k) (nI no) (nI tw) M φ := by
  have e1 : nI t + (1 : Int32) = nI (t + 1) := nI_add _ 1
  have e2 : nI k + (1 : Int32) = nI (k + 1) := nI_add _ 1
  have e3 : nI k + (2 : Int32) = nI (k + 2) := nI_add _ 2
  have em : (10 : Int32) - nI no - nI tw = nI (10 - no - tw) := by
    rw [show (10 : Int32) - nI no = nI (10 - no) from nI_sub (a := 10) (by omega), nI_sub (by omega)]
  have ex : ((10 : Int32) + ((18 : Int32) * nI h)) + (1 : Int32) = nI (10 + 18 * h + 1) := by simp only [lit32, nI_muL, nI_add]
  have go : ∀ (s0 : Int32) (c0 c1 c2 : Nat), c0 < 32 → c1 < 32 → c2 < 32 → ((s0 = 0 ∧ c0 = k ∧ c1 = k + 1 ∧ c2 = k + 2 ∧ mkB m (kd % 2) (t + 1) = false) ∨ (s0 = 1 ∧ c0 = t + 1 ∧ c1 = t + 1 ∧ c2 = t + 1 ∧ mkB m (kd % 2) (t + 1) = true)) → j_X11_goOn_44 φ 70 (nI t) (nI k) (nI no) (nI tw) (jN (w t k)) s0 M := by
    intro s0 c0 c1 c2 hc0 hc1 hc2 hs
    generalize hbb : mkB m (kd % 2) (t + 1) = b at hG hz hs
    have eG : ∀ c, pfG w b t no tw k (t + 1) c = ptW (w t) b t no tw k c := fun c => by
      unfold pfG
      rw [if_neg (by omega), if_pos rfl]
    have st1 : j_X11_goOn_66 φ 70 (nI t) (nI k) (nI no) (nI tw) (jN (w t k)) s0 (nI c0) (nI (t + 1)) 79 M := by
      unfold j_X11_goOn_66 w_X11_cell
      simp only [cell_e]
      rw [ix_nI (by omega)]
      refine ⟨inA_pt hS rfl (vp_nI (by omega) (by decide)), ?_⟩
      rw [hG (t + 1) c0 (by omega) hc0, jN_I (by omega), jN_mul, jN_add]
      refine nm_of ⟨by omega, inA_pt hS rfl (vp_nI (by omega) (by decide)), st_of ?_⟩
      have f1 : JG M (wJ M 79 (32 * (t + 1) + c0) (jN (pfG w b t no tw k (t + 1) c0 + w t k * no))) := JG.w
      have hG1 := hG.w (t0 := t + 1) (c0 := c0) (v := pfG w b t no tw k (t + 1) c0 + w t k * no) hc0
      generalize wJ M 79 (32 * (t + 1) + c0) (jN (pfG w b t no tw k (t + 1) c0 + w t k * no)) = M1 at f1 hG1 ⊢
      have hS1 := f1.S hS
      refine ⟨isO_pt hS1 (by decide) rfl, dR_of (Str.pg hS1 rfl) ?_⟩
      have st2 : j_X11_goOn_101 φ 70 (nI t) (nI k) (nI no) (nI tw) (jN (w t k)) s0 (nI c1) (nI (t + 1)) 79 M1 := by
        unfold j_X11_goOn_101 w_X11_cell
        simp only [cell_e]
        rw [ix_nI (by omega)]
        refine ⟨inA_pt hS1 rfl (vp_nI (by omega) (by decide)), ?_⟩
        obtain ⟨v1, hv1⟩ : ∃ v1, v1 = (if t + 1 = t + 1 ∧ c1 = c0 then pfG w b t no tw k (t + 1) c0 + w t k * no else pfG w b t no tw k (t + 1) c1) := ⟨_, rfl⟩
        have g1 : mJ M1 79 (32 * (t + 1) + c1) = jN v1 := (hG1 (t + 1) c1 (by omega) hc1).trans (congrArg jN hv1.symm)
        rw [g1, em, jN_I (show 10 - no - tw < 2147483648 by omega), jN_mul, jN_add]
        refine nm_of ⟨by omega, inA_pt hS1 rfl (vp_nI (by omega) (by decide)), st_of ?_⟩
        have f2 : JG M1 (wJ M1 79 (32 * (t + 1) + c1) (jN (v1 + w t k * (10 - no - tw)))) := JG.w
        have hG2 := hG1.w (t0 := t + 1) (c0 := c1) (v := v1 + w t k * (10 - no - tw)) hc1
        generalize wJ M1 79 (32 * (t + 1) + c1) (jN (v1 + w t k * (10 - no - tw))) = M2 at f2 hG2 ⊢
        have hS2 := f2.S hS1
        have f12 := f1.tr f2
        obtain ⟨v2, hv2⟩ : ∃ v2, v2 = (if t + 1 = t + 1 ∧ c2 = c1 then v1 + w t k * (10 - no - tw) else if t + 1 = t + 1 ∧ c2 = c0 then pfG w b t no tw k (t + 1) c0 + w t k * no else pfG w b t no tw k (t + 1) c2) := ⟨_, rfl⟩
        have fin : ∀ (M3 : fM) (G3 : Nat → Nat → Nat), JG M M3 → GR M3 79 G3 → (∀ t' c, t' < 15 → c < 32 → G3 t' c = if t' = t + 1 ∧ c = c2 then v2 + w t k * tw else if t' = t + 1 ∧ c = c1 then v1 + w t k * (10 - no - tw) else if t' = t + 1 ∧ c = c0 then pfG w b t no tw k (t + 1) c0 + w t k * no else pfG w b t no tw k t' c) → φ M3 := by
          intro M3 G3 f3 hG3 h3
          refine hz M3 f3 (hG3.cg fun t' c q1 q2 => ?_)
          rw [h3 t' c q1 q2]
          by_cases q : t' = t + 1
          · subst q
            have eG1 : pfG w b t no tw (k + 1) (t + 1) c = ptW (w t) b t no tw (k + 1) c := by
              unfold pfG
              rw [if_neg (by omega), if_pos rfl]
            rw [eG1]
            rcases hs with ⟨-, h0, h1, h2, hb2⟩ | ⟨-, h0, h1, h2, hb2⟩
            · subst hb2
              rw [h1, h0] at hv1
              rw [h2, h1, h0] at hv2
              rw [h2, h1, h0, ptW_f]
              simp only [eG, true_and] at hv1 hv2 ⊢
              rw [if_neg (by omega)] at hv1
              rw [if_neg (by omega), if_neg (by omega)] at hv2
              by_cases c2 : c = k + 2
              · subst c2
                (repeat' split) <;> omega
              · by_cases c1 : c = k + 1
                · subst c1
                  (repeat' split) <;> omega
                · by_cases c0 : c = k
                  · subst c0
                    (repeat' split) <;> omega
                  · (repeat' split) <;> omega
            · subst hb2
              rw [h1, h0] at hv1
              rw [h2, h1, h0] at hv2
              rw [h2, h1, h0, ptW_t]
              simp only [eG, true_and] at hv1 hv2 ⊢
              rw [if_pos trivial] at hv1 hv2
              have z : w t k * 10 = w t k * no + w t k * (10 - no - tw) + w t k * tw := by
                rw [← Nat.mul_add, ← Nat.mul_add, show no + (10 - no - tw) + tw = 10 by omega]
              by_cases c0 : c = t + 1
              · subst c0
                (repeat' split) <;> omega
              · (repeat' split) <;> omega
          · rw [if_neg (fun z => q z.1), if_neg (fun z => q z.1), if_neg (fun z => q z.1)]
            unfold pfG
            rw [if_neg q, if_neg q]
        have eG2 : (if t + 1 = t + 1 ∧ c2 = c1 then v1 + w t k * (10 - no - tw) else (fun t' c => if t' = t + 1 ∧ c = c0 then pfG w b t no tw k (t + 1) c0 + w t k * no else pfG w b t no tw k t' c) (t + 1) c2) = v2 := hv2.symm
        by_cases z : tw = 0
        · subst z
          refine iF_t (by decide) (fin M2 _ f12 hG2 fun t' c q1 q2 => ?_)
          by_cases c3 : t' = t + 1 ∧ c = c2
          · rw [if_pos c3, Nat.mul_zero, Nat.add_zero, c3.1, c3.2]
            exact eG2
          · rw [if_neg c3]
        · have e147 : j_X11_goOn_147 φ (nI tw) (jN (w t k)) (nI c2) (nI (t + 1)) 79 M2 := by
            refine m_147 (v := 0) hS2 hG2 rfl rfl rfl (by omega) hc2 (by omega) eG2 ?_
            exact fin _ _ (f12.tr (JG.w)) (hG2.w (t0 := t + 1) (c0 := c2) (v := v2 + w t k * tw) hc2) fun t' c q1 q2 => rfl
          refine iF_f (fun q => z ((nIle (b := 0) (by omega) (by omega)).mp q |> Nat.le_zero.mp)) ⟨isO_pt hS2 (by decide) rfl, dR_of (Str.pg hS2 rfl) ?_⟩
          rw [e1, e3]
          rcases hs with ⟨rfl, -, -, rfl, -⟩ | ⟨rfl, -, -, rfl, -⟩
          · exact iF_t rfl e147
          · exact iF_f (by decide) e147
      rw [e1, e2]
      rcases hs with ⟨rfl, -, rfl, -, -⟩ | ⟨rfl, -, rfl, -, -⟩
      · exact iF_t rfl st2
      · exact iF_f (by decide) st2
    refine ⟨isO_pt hS (by decide) rfl, dR_of (Str.pg hS rfl) ?_⟩
    rw [e1]
    rcases hs with ⟨rfl, rfl, -, -, -⟩ | ⟨rfl, rfl, -, -, -⟩
    · exact iF_t rfl st1
    · exact iF_f (by decide) st1
  unfold w_X11_goOn w_X11_cell w_X11_marksOf w_X11_has
  simp only [cell_e]
  rw [ex, ix_nI (by omega), ix_nI (by omega), e1]
  refine ⟨isO_pt hS (by decide) rfl, dR_of (Str.pg hS rfl) ⟨inA_pt hS rfl (vp_nI (by omega) (by decide)), ?_⟩⟩
  have eW : pfG w (mkB m (kd % 2) (t + 1)) t no tw k t k = w t k := by
    unfold pfG
    rw [if_pos (Nat.le_refl _)]
  rw [hG t k (by omega) (by omega), eW]
  refine nm_of ⟨isO_pt hS (by decide) rfl, isO_pt hS (by decide) rfl, dR_of (Str.pg hS rfl) ⟨inA_pt hS rfl (vp_nI (by omega) (by decide)), isO_pt hS (by decide) rfl, ?_⟩⟩
  rw [hM.1 _ (by omega) (by omega), hmm]
  have no0 : mkB m (kd % 2) (t + 1) = false → j_X11_goOn_43 φ 70 (nI t) (nI k) (nI no) (nI tw) (jN (w t k)) M := fun q => go 0 k (k + 1) (k + 2) (by omega) (by omega) (by omega) (Or.inl ⟨rfl, rfl, rfl, rfl, q⟩)
  have e4 : (nI kd : Int32) % (2 : Int32) = nI (kd % 2) := nI_mod (b := 2) (by omega) (by omega)
  refine iF_s (fun q => iF_f (by decide) ?_) (fun q => iF_t (by decide) (no0 (decide_eq_false fun c => q ?_)))
  · have qb : bt m (t + 1) = 1 := by unfold bt; rw [show (nI 31 : Int32) = 31 from rfl, show (nI 1 : Int32) = 1 from rfl, q]; rfl
    rw [e4]
    by_cases z : kd % 2 = 1
    · exact iF_t (by rw [z]; rfl) (no0 (decide_eq_false fun c => absurd c.2 (by omega)))
    · exact iF_f (fun c => z (nI_inj (b := 1) (by omega) (by omega) c)) (go 1 (t + 1) (t + 1) (t + 1) (by omega) (by omega) (by omega) (Or.inr ⟨rfl, rfl, rfl, rfl, decide_eq_true ⟨qb, by omega⟩⟩))
  · have z1 := c.1
    unfold bt at z1
    exact Int32.toInt_inj.mp z1
theorem m_st_l {L : Nat} {p1 p2 p3 : Int32} {φ : fM → Prop} : ∀ (m i : Nat) (M : fM), i + m = 480 → Str L M → (∀ j, j < i → mJ M 79 j = jN 0) → (∀ M2 K, JG M M2 → (∀ j, j < 480 → mJ M2 79 j = jN 0) → b_X11_start_3 K φ 70 p1 p2 p3 (nI 480) M2) → l_X11_start_3 φ (m + 1) 70 p1 p2 p3 (nI i) M := by
  intro m
  induction m with
  | zero =>
    intro i M hi hS h79 hz
    obtain rfl : i = 480 := by omega
    exact hz M _ (JG.rf M) h79
  | succ m ih =>
    intro i M hi hS h79 hz
    show b_X11_start_3 (l_X11_start_3 φ (m + 1)) φ 70 p1 p2 p3 (nI i) M
    refine iF_f (fun q => absurd ((nIle (a := 480) (by omega) (by omega)).mp q) (by omega)) ⟨isO_pt hS (by decide) rfl, dR_of (Str.pg hS rfl) ⟨by omega, inA_pt hS rfl (vp_nI (by omega) (by decide)), st_of (nm_of ?_)⟩⟩
    rw [ix_nI (by omega), show nI i + (1 : Int32) = nI (i + 1) from nI_add _ 1]
    have f : JG M (wJ M 79 i (0 : Int64)) := JG.w
    refine ih (i + 1) _ (by omega) (f.S hS) (fun j hj => ?_) fun M2 K f2 h2 => hz M2 K (f.tr f2) h2
    by_cases z : j = i
    · subst z
      rw [mJ_s]
      rfl
    · rw [mJ_n (by omega)]
      exact h79 j (by omega)
theorem m_start {L B p zf : Nat} {A : Nat → Nat} {M : fM} {a b : Int32} {φ : fM → Prop} (hS : Str L M) (hM : Mdl M 71 A) (hO : Okk B A) (hp : p < A 0) (ha : a = nI p) (hb : b = nI zf) (hzf : zf ≤ 1) (hz : ∀ M2, JG M M2 → (∀ no tw mk, GR M2 79 (fun t c => if t ≤ 0 then WW no tw mk (if zf = 0 then 0 else 10 - A (82 + 3 * p + 2)) (A (82 + 3 * p + 2)) t c else 0)) → φ M2) : w_X11_start 70 a b (1 : Int32) M φ := by
  subst ha hb
  have o0 := hO.1.1
  have hpb := (hO.2.2.1 p hp).2
  refine ⟨481, m_st_l (L := L) 480 0 M rfl hS (fun j hj => absurd hj (by omega)) fun M1 K f1 h79 => ?_⟩
  have hS1 := f1.S hS
  have hM1 : Mdl M1 71 A := hM.cg fun k => by rw [f1.I]
  have ex : ((82 : Int32) + ((3 : Int32) * nI p)) + (2 : Int32) = nI (82 + 3 * p + 2) := by simp only [lit32, nI_muL, nI_add]
  have e10 : (10 : Int32) - nI (A (82 + 3 * p + 2)) = nI (10 - A (82 + 3 * p + 2)) := nI_sub (a := 10) hpb
  have hG1 : GR M1 79 (fun _ _ => 0) := fun t c h1 h2 => h79 _ (by omega)
  unfold b_X11_start_3
  rw [ex, ix_nI (by omega)]
  refine iF_t (by decide) ⟨isO_pt hS1 (by decide) rfl, dR_of (Str.pg hS1 rfl) ⟨inA_pt hS1 rfl (vp_nI (by omega) (by decide)), ?_⟩⟩
  rw [hM1.1 _ (by omega) (by omega)]
  refine nm_of ?_
  rw [e10, jN_I (by omega)]
  refine dR_of (Str.pg hS1 rfl) ?_
  have go : ∀ z, z = (if zf = 0 then 0 else 10 - A (82 + 3 * p + 2)) → j_X11_start_59 φ 70 (1 : Int32) (nI (A (82 + 3 * p + 2))) (jN z) (0 : Int32) 79 M1 := by
    intro z hzz
    refine ⟨by omega, inA_pt hS1 rfl (vp_lit (by decide)), st_of ?_⟩
    rw [show ix (0 : Int32) = 32 * 0 + 0 from rfl]
    have f2 : JG M1 (wJ M1 79 (32 * 0 + 0) (jN z)) := JG.w
    have hG2 := hG1.w (t0 := 0) (c0 := 0) (v := z) (by omega)
    generalize wJ M1 79 (32 * 0 + 0) (jN z) = M2 at f2 hG2 ⊢
    have f12 := f1.tr f2
    have hS2 := f12.S hS
    refine ⟨isO_pt hS2 (by decide) rfl, dR_of (Str.pg hS2 rfl) (iF_f (by decide) ⟨by omega, inA_pt hS2 rfl (vp_lit (by decide)), st_of ?_⟩)⟩
    rw [show ix (1 : Int32) = 32 * 0 + 1 from rfl, jN_I (by omega)]
    have hG3 := hG2.w (t0 := 0) (c0 := 1) (v := A (82 + 3 * p + 2)) (by omega)
    refine hz _ (f12.tr (JG.w)) fun no tw mk => hG3.cg fun t' c h1 h2 => ?_
    rw [← hzz]
    by_cases q : t' ≤ 0
    · have q0 : t' = 0 := by omega
      rw [if_pos q, q0]
      show (if c = 0 then z else if c = 1 then A (82 + 3 * p + 2) else 0) = _
      (repeat' split) <;> omega
    · rw [if_neg q, if_neg (by omega), if_neg (by omega)]
  by_cases q : zf = 0
  · rw [if_pos q] at go
    exact iF_t (by rw [q]; rfl) (go 0 rfl)
  · rw [if_neg q] at go
    exact iF_f (fun c => q (nI_inj (b := 0) (by omega) (by omega) c)) (go _ rfl)
theorem GR.fn {M M2 : fM} {G : Nat → Nat → Nat} (f : FN M M2) (h : GR M 79 G) : GR M2 79 G := fun t c h1 h2 => (f.2.2 79 (by omega) _).trans (h t c h1 h2)
theorem WW_lt {no tw : Nat → Nat} {mk : Nat → Bool} {z o t : Nat} (hb : ∀ t, no t + tw t ≤ 10) (hzo : z + o ≤ 10) (ht : t ≤ 14) (c : Nat) : WW no tw mk z o t c ≤ 1000000000000000 := by
  have q := WW_b (mk := mk) (z := z) (o := o) hb ht c
  have p14 : 10 ^ t ≤ 10 ^ 14 := Nat.pow_le_pow_right (by omega) ht
  have q2 : (z + o) * 10 ^ t ≤ 10 * 10 ^ 14 := Nat.mul_le_mul hzo p14
  have z14 : (10 : Nat) ^ 14 = 100000000000000 := by decide
  omega
theorem pf_nx {no tw : Nat → Nat} {m ld z o t : Nat} {M : fM} {r : Nat} (ht : t < 14) (h : GR M r (pfG (WW no tw (mkB m ld) z o) (mkB m ld (t + 1)) t (no (t + 1)) (tw (t + 1)) 30)) : GR M r (fun t' c => if t' ≤ t + 1 then WW no tw (mkB m ld) z o t' c else 0) := by
  refine h.cg fun t' c h1 h2 => ?_
  unfold pfG
  by_cases q : t' ≤ t
  · rw [if_pos (by omega), if_pos q]
  · rw [if_neg q]
    by_cases q1 : t' = t + 1
    · rw [if_pos (by omega), if_pos q1, q1, ptW_30 ht h2]
    · rw [if_neg (by omega), if_neg q1]
theorem m_all_l {L t kd h m : Nat} {A no tw : Nat → Nat} {z o : Nat} {p1 : Int32} {φ : fM → Prop} {K8 : Nat → Int32 → Int32 → Int32 → Int32 → fM → Prop} (hh : h < 4) (hkd : kd < 4) (ht : t < 14) (hb : ∀ t, no t + tw t ≤ 10) (hzo : z + o ≤ 10) : ∀ (j k : Nat) (M : fM), k + j = 30 → Str L M → Mdl M 71 A → nI (A (10 + 18 * h + 1)) ||| mI M 70 27 = nI m → GR M 79 (pfG (WW no tw (mkB m (kd % 2)) z o) (mkB m (kd % 2) (t + 1)) t (no (t + 1)) (tw (t + 1)) k) → (∀ M2, JG M M2 → GR M2 79 (fun t' c => if t' ≤ t + 1 then WW no tw (mkB m (kd % 2)) z o t' c else 0) → K8 70 p1 (nI h) (nI kd) (nI (t + 1)) M2) → l_X11_goAll_47 K8 φ (j + 1) 70 p1 (nI h) (nI kd) (nI t) (nI (no (t + 1))) (nI (tw (t + 1))) (nI k) M := by
  intro j
  induction j with
  | zero =>
    intro k M hk hS hM hmm hG hz
    obtain rfl : k = 30 := by omega
    refine iF_t (by decide) (nm_of ?_)
    rw [show nI t + (1 : Int32) = nI (t + 1) from nI_add _ 1]
    exact hz M (JG.rf M) (pf_nx ht hG)
  | succ j ih =>
    intro k M hk hS hM hmm hG hz
    show b_X11_goAll_47 K8 (l_X11_goAll_47 K8 φ (j + 1)) φ 70 p1 (nI h) (nI kd) (nI t) (nI (no (t + 1))) (nI (tw (t + 1))) (nI k) M
    generalize hK : l_X11_goAll_47 K8 φ (j + 1) = K at ih ⊢
    have e1 : nI k + (1 : Int32) = nI (k + 1) := nI_add _ 1
    have eW : pfG (WW no tw (mkB m (kd % 2)) z o) (mkB m (kd % 2) (t + 1)) t (no (t + 1)) (tw (t + 1)) k t k = WW no tw (mkB m (kd % 2)) z o t k := by
      unfold pfG
      rw [if_pos (Nat.le_refl _)]
    have hlt := WW_lt (mk := mkB m (kd % 2)) (z := z) (o := o) hb hzo (t := t) (by omega) k
    unfold b_X11_goAll_47 w_X11_cell
    simp only [cell_e]
    rw [ix_nI (by omega)]
    refine iF_f (fun q => absurd ((nIle (a := 30) (by omega) (by omega)).mp q) (by omega)) ⟨isO_pt hS (by decide) rfl, dR_of (Str.pg hS rfl) ⟨inA_pt hS rfl (vp_nI (by omega) (by decide)), ?_⟩⟩
    rw [hG t k (by omega) (by omega), eW]
    by_cases q : WW no tw (mkB m (kd % 2)) z o t k = 0
    · refine iF_t ((lg_le (by omega)).mpr q) (nm_of ?_)
      rw [e1]
      refine ih (k + 1) M (by omega) hS hM hmm (hG.cg fun t' c h1 h2 => ?_) hz
      unfold pfG
      generalize mkB m (kd % 2) (t + 1) = b
      cases b
      · rw [ptW_f, q, Nat.zero_mul, Nat.zero_mul, Nat.zero_mul, ite_self, ite_self, ite_self]
        rfl
      · rw [ptW_t, q, Nat.zero_mul, ite_self]
        rfl
    · refine iF_f (fun c => q ((lg_le (by omega)).mp c)) ⟨isO_pt hS (by decide) rfl, m_goOn hS hM hh hkd hmm hG ht (by omega) (hb (t + 1)) fun M2 f hG2 => nm_of ?_⟩
      rw [e1]
      exact ih (k + 1) M2 (by omega) (f.S hS) (hM.cg fun k => by rw [f.I]) (by rw [f.I]; exact hmm) hG2 fun M3 f3 h3 => hz M3 (f.tr f3) h3
theorem m_ga_l {L B p h kd m : Nat} {A : Nat → Nat} {tx : Nat → Int32} {z o : Nat} {φ : fM → Prop} (hO : Okk B A) (hp : p < A 0) (hh : h < 4) (hkd : kd < 4) (hzo : z + o ≤ 10) : ∀ (j t : Nat) (M : fM), t + j = A (10 + 18 * h) → Str L M → Mdl M 71 A → TrM M (A 4) → mI M 73 = tx → nI (A (10 + 18 * h + 1)) ||| mI M 70 27 = nI m → GR M 79 (fun t' c => if t' ≤ t then WW (vN tx A p h kd) (vT tx A p h kd) (mkB m (kd % 2)) z o t' c else 0) → (∀ M2, Frm scr M M2 → Mdl M2 71 A → TrM M2 (A 4) → GR M2 79 (fun t' c => if t' ≤ A (10 + 18 * h) then WW (vN tx A p h kd) (vT tx A p h kd) (mkB m (kd % 2)) z o t' c else 0) → φ M2) → l_X11_goAll_8 φ (j + 1) 70 (nI p) (nI h) (nI kd) (nI t) M := by
  obtain ⟨hn1, hn, -⟩ := hO.2.1 h hh
  have hb := vT_b tx A p h kd
  have ex : (10 : Int32) + ((18 : Int32) * nI h) = nI (10 + 18 * h) := by simp only [lit32, nI_muL, nI_add]
  intro j
  induction j with
  | zero =>
    intro t M ht hS hM hT h73 hmm hG hz
    obtain rfl : t = A (10 + 18 * h) := by omega
    show b_X11_goAll_8 _ φ 70 (nI p) (nI h) (nI kd) (nI (A (10 + 18 * h))) M
    unfold b_X11_goAll_8 w_X11_stepsOf
    rw [ex, ix_nI (by omega)]
    refine ⟨isO_pt hS (by decide) rfl, isO_pt hS (by decide) rfl, dR_of (Str.pg hS rfl) ⟨inA_pt hS rfl (vp_nI (by omega) (by decide)), ?_⟩⟩
    rw [hM.1 _ (by omega) (by omega)]
    exact iF_t ((nIle (by omega) (by omega)).mpr (Nat.le_refl _)) (hz M Frm.rf hM hT hG)
  | succ j ih =>
    intro t M ht hS hM hT h73 hmm hG hz
    show b_X11_goAll_8 (l_X11_goAll_8 φ (j + 1)) φ 70 (nI p) (nI h) (nI kd) (nI t) M
    generalize hK : l_X11_goAll_8 φ (j + 1) = K at ih ⊢
    have e1 : nI t + (1 : Int32) = nI (t + 1) := nI_add _ 1
    unfold b_X11_goAll_8 w_X11_stepsOf
    rw [ex, ix_nI (by omega), e1]
    refine ⟨isO_pt hS (by decide) rfl, isO_pt hS (by decide) rfl, dR_of (Str.pg hS rfl) ⟨inA_pt hS rfl (vp_nI (by omega) (by decide)), ?_⟩⟩
    rw [hM.1 _ (by omega) (by omega)]
    refine iF_f (fun q => absurd ((nIle (by omega) (by omega)).mp q) (by omega)) ⟨isO_pt hS (by decide) rfl, m_noneAt hS hM hO hT rfl rfl rfl rfl hp hh hkd (by omega) (by omega) fun M1 f1 _ => ?_⟩
    have hS1 := f1.S hS
    have hM1 := f1.M hM
    have hT1 := hT.fn f1
    rw [h73]
    refine ⟨isO_pt hS1 (by decide) rfl, m_twiceAt hS1 hM1 hO hT1 rfl rfl rfl rfl hp hh hkd (by omega) (by omega) fun M2 f2 => ⟨31, ?_⟩⟩
    rw [f1.x, h73]
    have f12 := f1.tr f2
    have hS2 := f2.S hS1
    have e27 : mI M2 70 27 = mI M 70 27 := f12.2.1 70 (by omega) (by omega) 27
    refine m_all_l (L := L) (m := m) (A := A) (no := vN tx A p h kd) (tw := vT tx A p h kd) (z := z) (o := o) hh hkd (by omega) hb hzo 30 0 M2 rfl hS2 (f12.M hM) (by rw [e27]; exact hmm) ((hG.fn f12).cg fun t' c _ _ => pfG_0) fun M3 f3 hG3 => ?_
    exact ih (t + 1) M3 (by omega) (f3.S hS2) ((f12.M hM).cg fun k => by rw [f3.I]) ((JG.f f3).sT (hT1.fn f2)) ((f3.I 73).trans (f12.x.trans h73)) (by rw [f3.I, e27]; exact hmm) hG3 fun M4 f4 hM4 hT4 hG4 => hz M4 ((f12.f.tr (JG.f f3)).tr f4) hM4 hT4 hG4
theorem Frm.w70 {P : Nat → Prop} {M : fM} {k : Nat} {v : Int32} (hk : 7 ≤ k) : Frm P M (wI M 70 k v) := ⟨rfl, fun _ => rfl, fun r hr j hj => mI_n (by omega)⟩
theorem m_goAll {L B p h kd : Nat} {A : Nat → Nat} {z o : Nat} {M : fM} {φ : fM → Prop} (hS : Str L M) (hM : Mdl M 71 A) (hO : Okk B A) (hT : TrM M (A 4)) (hp : p < A 0) (hh : h < 4) (hkd : kd < 4) (hzo : z + o ≤ 10) (hG : ∀ no tw mk, GR M 79 (fun t c => if t ≤ 0 then WW no tw mk z o t c else 0)) (hz : ∀ M2, Frm scr M M2 → Mdl M2 71 A → TrM M2 (A 4) → GR M2 79 (fun t' c => if t' ≤ A (10 + 18 * h) then WW (vN (mI M 73) A p h kd) (vT (mI M 73) A p h kd) (mkB (A (10 + 18 * h + 1)) (kd % 2)) z o t' c else 0) → φ M2) : w_X11_goAll 70 (nI p) (nI h) (nI kd) M φ := by
  refine ⟨isO_pt hS (by decide) rfl, st_of ⟨A (10 + 18 * h) + 1, ?_⟩⟩
  have f : Frm scr M (wI M 70 27 (0 : Int32)) := Frm.w70 (by omega)
  refine m_ga_l (L := L) (m := A (10 + 18 * h + 1)) (tx := mI M 73) hO hp hh hkd hzo (A (10 + 18 * h)) 0 _ (by omega) (f.S hS) (f.sc.cM hM) (f.sT hT) (f.sm.m73) ?_ (hG _ _ _) fun M2 f2 hM2 hT2 hG2 => hz M2 (f.tr f2) hM2 hT2 hG2
  rw [mI_s rfl rfl]
  exact Int32.or_zero
