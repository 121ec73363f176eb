/-! ===== COUNTED: what the model does ===== -/
def cntV (tx : Nat → Int32) (A : Nat → Nat) : Nat := if bt (A (10 + 18 * A 101 + 1)) (A 103) = 1 ∧ A 102 % 2 = 0 then A 103 else if A 2 % 10 < vN tx A (A 100) (A 101) (A 102) (A 103) then A 104 else if A 2 % 10 < vN tx A (A 100) (A 101) (A 102) (A 103) + vT tx A (A 100) (A 101) (A 102) (A 103) then A 104 + 2 else A 104 + 1
def cnA (tx : Nat → Int32) (A : Nat → Nat) : Nat → Nat := up (drA A) 104 (cntV tx A)
theorem OkW.up {A : Nat → Nat} {k x : Nat} (hk : 104 ≤ k ∧ k ≤ 107) (h : OkW A) : OkW (up A k x) := by
  unfold OkW
  rw [up_n (by omega), up_n (by omega), up_n (by omega), up_n (by omega), up_n (by omega), up_n (by omega), up_n (by have := h.2.1; omega)]
  exact h
theorem Okk.w {B k x : Nat} {A : Nat → Nat} (hk : 104 ≤ k ∧ k ≤ 107) (hO : Okk B A) : Okk B (up A k x) := by
  obtain ⟨o1, oH, oP, oW, oA, oG, oB⟩ := hO
  refine ⟨?_, oH.cg (fun j q1 q2 => up_n (by omega)), fun q hq => ?_, oW.up hk, oA.cg (by rw [up_n (by omega)]; exact Nat.le_refl _) (up_n (by omega)) (fun j q1 => up_n (by omega)), oG.cg (by rw [up_n (by omega)]; exact Nat.le_refl _) (up_n (by omega)) (fun j q1 q2 => up_n (by omega)) o1.2.2.2.2.2.2.1, oB.cg (fun j q => up_n (by omega))⟩
  · unfold OkS
    rw [up_n (by omega), up_n (by omega), up_n (by omega), up_n (by omega), up_n (by omega), up_n (by omega), up_n (by omega), up_n (by omega), up_n (by omega)]
    exact o1
  · have o0 := o1.1
    rw [up_n (by omega)] at hq
    rw [up_n (by omega), up_n (by omega), up_n (by omega)]
    exact oP q hq
theorem Okk.at {B x : Nat} {A : Nat → Nat} (hx : x ≤ A (10 + 18 * A 101)) (hO : Okk B A) : Okk B (up A 103 x) := by
  obtain ⟨o1, oH, oP, oW, oA, oG, oB⟩ := hO
  refine ⟨?_, oH.cg (fun j q1 q2 => up_n (by omega)), fun q hq => ?_, ?_, oA.cg (by rw [up_n (by omega)]; exact Nat.le_refl _) (up_n (by omega)) (fun j q1 => up_n (by omega)), oG.cg (by rw [up_n (by omega)]; exact Nat.le_refl _) (up_n (by omega)) (fun j q1 q2 => up_n (by omega)) o1.2.2.2.2.2.2.1, oB.cg (fun j q => up_n (by omega))⟩
  · unfold OkS
    rw [up_n (by omega), up_n (by omega), up_n (by omega), up_n (by omega), up_n (by omega), up_n (by omega), up_n (by omega), up_n (by omega), up_n (by omega)]
    exact o1
  · have o0 := o1.1
    rw [up_n (by omega)] at hq
    rw [up_n (by omega), up_n (by omega), up_n (by omega)]
    exact oP q hq
  · have w := oW.2.1
    unfold OkW
    rw [up_n (by omega), up_n (by omega), up_n (by omega), up_n (by omega), up_s, up_n (by omega), up_n (by omega)]
    exact ⟨oW.1, oW.2.1, fun e => ⟨(oW.2.2 e).1, (oW.2.2 e).2.1, hx⟩⟩
theorem m_cnt96 {L B c : Nat} {D : Nat → Nat} {M : fM} {inc : Int32} {φ : fM → Prop} (hS : Str L M) (hM : Mdl M 71 D) (hO : Okk B D) (h1 : D 108 = 1) (hi : nI (D 104) + inc = nI c) (hs1 : D 103 ≤ 14) (hz : ∀ M2, Frm mdr M M2 → Mdl M2 71 (up D 104 (if bt (D (10 + 18 * D 101 + 1)) (D 103) = 1 ∧ D 102 % 2 = 0 then D 103 else c)) → φ M2) : j_X11_counted_96 φ 70 (nI (D 101)) (nI (D 102)) inc (nI (D 104)) (104 : Int32) 71 M := by
  obtain ⟨m1, m4⟩ := id hM
  obtain ⟨⟨o0, o1, o2, o3, o4, o5, o6, o7, o8, o9⟩, oH, oP, oW, oA, oG, oB⟩ := id hO
  have w := oW.2.1
  have k4 := (oW.2.2 h1).2.1
  have cn : 0 + 0 = 0 := rfl; have cm : 0 + 0 = 0 := rfl; have cr : 0 + 0 = 0 := rfl; have ct : 0 + 0 = 0 := rfl; have ch : 0 + 0 = 0 := rfl; have p1 : 0 + 0 = 0 := rfl; have p2 : 0 + 0 = 0 := rfl; have p3 : 0 + 0 = 0 := rfl; have s4 : 0 + 0 = 0 := rfl; have s5 : 0 + 0 = 0 := rfl; have s6 : 0 + 0 = 0 := rfl; have s9 : 0 + 0 = 0 := rfl; have s11 : 0 + 0 = 0 := rfl; have s14 : 0 + 0 = 0 := rfl; have s15 : 0 + 0 = 0 := rfl; have s17 : 0 + 0 = 0 := rfl; have cb : 0 + 0 = 0 := rfl; have cg : 0 + 0 = 0 := rfl; have f5 : 0 + 0 = 0 := rfl; have f6 : 0 + 0 = 0 := rfl; have t1 : 0 + 0 = 0 := rfl; have t2 : 0 + 0 = 0 := rfl; have e1 : 0 + 0 = 0 := rfl; have e2 : 0 + 0 = 0 := rfl; have e3 : 0 + 0 = 0 := rfl
  refine nm_of ⟨by omega, inA_pt hS rfl (vp_lit (by decide)), st_of ?_⟩
  rw [hi, show ix (104 : Int32) = 104 from rfl]
  have hM1 : Mdl (wI M 71 104 (nI c)) 71 (up D 104 c) := Mdl.w (by omega) rfl hM
  have f1 : Frm mdr M (wI M 71 104 (nI c)) := by (refine ⟨rfl, fun _ => rfl, fun r hr k hk => ?_⟩; (try unfold clr at hr); (try unfold mdr at hr); (try unfold scr at hr); simp (disch := omega) only [lit32, Nat.add_sub_cancel, Nat.sub_zero, Nat.reduceSub, nI_add, nI_muL, nI_sub, ix_nI, mI_s, mI_n, mI_fs, mI_fn, mI_ci, mI_co, mI_si, mI_so, Nat.add_zero, up_n, up_s, cpA_i, cpA_o, shA_i, shA_o, fiA_i, fiA_o, imin_l, imin_r, nI_mod, nI_div, xr_e, cn, cm, cr, ct, ch, p1, p2, p3, s4, s5, s6, s9, s11, s14, s15, s17, cb, cg, m1, m4, f5, f6, t1, t2, e1, e2, e3]; first | done | fail)
  generalize wI M 71 104 (nI c) = M1 at hM1 f1 ⊢
  have hS1 := f1.S hS
  have n1 := hM1.1
  have r1 : mI M1 71 (10 + 18 * D 101 + 1) = nI (D (10 + 18 * D 101 + 1)) := by rw [n1 _ (by omega) (by omega), up_n (by omega)]
  have r3 : mI M1 71 103 = nI (D 103) := by rw [n1 _ (by omega) (by omega), up_n (by omega)]
  have ex : ((10 : Int32) + ((18 : Int32) * nI (D 101))) + (1 : Int32) = nI (10 + 18 * D 101 + 1) := by simp only [lit32, nI_muL, nI_add]
  unfold w_X11_marksOf w_X11_has
  rw [ex, ix_nI (by omega)]
  try rw [show ix (103 : Int32) = 103 from rfl]
  try rw [show ix (104 : Int32) = 104 from rfl]
  refine ⟨isO_pt hS1 (by decide) rfl, isO_pt hS1 (by decide) rfl, dR_of (Str.pg hS1 rfl) ⟨inA_pt hS1 rfl (vp_nI (by omega) (by decide)), isO_pt hS1 (by decide) rfl, dR_of (Str.pg hS1 rfl) ⟨inA_pt hS1 rfl (vp_lit (by decide)), ?_⟩⟩⟩
  rw [r1, r3]
  have done : ¬ (bt (D (10 + 18 * D 101 + 1)) (D 103) = 1 ∧ D 102 % 2 = 0) → φ M1 := fun q => by
    rw [if_neg q] at hz
    exact hz M1 f1 hM1
  have e2 : (nI (D 102) : Int32) % (2 : Int32) = nI (D 102 % 2) := nI_mod (b := 2) (by omega) (by omega)
  refine iF_s (fun q => ?_) (fun q => iF_t rfl (done fun z => q ?_))
  · have qb : bt (D (10 + 18 * D 101 + 1)) (D 103) = 1 := by unfold bt; rw [show (nI 31 : Int32) = 31 from rfl, show (nI 1 : Int32) = 1 from rfl, q]; rfl
    rw [e2]
    rcases (show D 102 % 2 = 0 ∨ D 102 % 2 = 1 by omega) with q2 | q2
    · rw [q2]
      refine iF_f (by decide) (iF_f (by decide) ⟨isO_pt hS1 (by decide) rfl, dR_of (Str.pg hS1 rfl) (dR_of (Str.pg hS1 rfl) ⟨inA_pt hS1 rfl (vp_lit (by decide)), nm_of ⟨by omega, inA_pt hS1 rfl (vp_lit (by decide)), st_of ?_⟩⟩)⟩)
      rw [r3]
      rw [if_pos ⟨qb, q2⟩] at hz
      refine hz _ (f1.tr (by (refine ⟨rfl, fun _ => rfl, fun r hr k hk => ?_⟩; (try unfold clr at hr); (try unfold mdr at hr); (try unfold scr at hr); simp (disch := omega) only [lit32, Nat.add_sub_cancel, Nat.sub_zero, Nat.reduceSub, nI_add, nI_muL, nI_sub, ix_nI, mI_s, mI_n, mI_fs, mI_fn, mI_ci, mI_co, mI_si, mI_so, Nat.add_zero, up_n, up_s, cpA_i, cpA_o, shA_i, shA_o, fiA_i, fiA_o, imin_l, imin_r, nI_mod, nI_div, xr_e, cn, cm, cr, ct, ch, p1, p2, p3, s4, s5, s6, s9, s11, s14, s15, s17, cb, cg, m1, m4, f5, f6, t1, t2, e1, e2, e3]; first | done | fail))) ?_
      have h2 : Mdl (wI M1 71 104 (nI (D 103))) 71 (up (up D 104 c) 104 (D 103)) := Mdl.w (by omega) rfl hM1
      rw [up_up] at h2
      exact h2
    · rw [q2]
      exact iF_f (by decide) (iF_t (by decide) (done fun z => absurd z.2 (by omega)))
  · have z1 := z.1
    unfold bt at z1
    exact Int32.toInt_inj.mp z1
theorem m_counted {L B : Nat} {A : Nat → Nat} {M : fM} {φ : fM → Prop} (hS : Str L M) (hM : Mdl M 71 A) (hO : Okk B A) (hT : TrM M (A 4)) (h1 : A 108 = 1) (hs1 : 1 ≤ A 103) (hz : ∀ M2, Frm mdr M M2 → Mdl M2 71 (cnA (mI M 73) A) → φ M2) : w_X11_counted 70 M φ := by
  obtain ⟨m1, m4⟩ := id hM
  have oW := hO.2.2.2.1
  have w := oW.2.1
  obtain ⟨w1, w2, w3⟩ := oW.2.2 h1
  have hn := (hO.2.1 _ w).2.1
  refine ⟨isO_pt hS (by decide) rfl, dR_of (Str.pg hS rfl) ⟨inA_pt hS rfl (vp_lit (by decide)), nm_of (dR_of (Str.pg hS rfl) ⟨inA_pt hS rfl (vp_lit (by decide)), nm_of (dR_of (Str.pg hS rfl) ⟨inA_pt hS rfl (vp_lit (by decide)), nm_of (dR_of (Str.pg hS rfl) ⟨inA_pt hS rfl (vp_lit (by decide)), ?_⟩)⟩)⟩)⟩⟩
  rw [show ix (100 : Int32) = 100 from rfl, show ix (101 : Int32) = 101 from rfl, show ix (102 : Int32) = 102 from rfl, show ix (103 : Int32) = 103 from rfl, show ix (104 : Int32) = 104 from rfl, m1 100 (by omega) (by omega), m1 101 (by omega) (by omega), m1 102 (by omega) (by omega), m1 103 (by omega) (by omega)]
  refine m_noneAt hS hM hO hT rfl rfl rfl rfl w1 w w2 hs1 (by omega) fun M1 f1 _ => ?_
  have hS1 := f1.S hS
  have hM1 := f1.M hM
  refine ⟨isO_pt hS1 (by decide) rfl, dR_of (Str.pg hS1 rfl) ⟨inA_pt hS1 rfl (vp_lit (by decide)), ?_⟩⟩
  rw [hM1.1 103 (by omega) (by omega)]
  refine m_twiceAt hS1 hM1 hO (hT.fn f1) rfl rfl rfl rfl w1 w w2 hs1 (by omega) fun M2 f2 => ?_
  rw [f1.x]
  have hS2 := f2.S hS1
  have hM2 := f2.M hM1
  have hb1 := vN_b (mI M 73) A (A 100) (A 101) (A 102) (A 103)
  have hb2 := vT_b (mI M 73) A (A 100) (A 101) (A 102) (A 103)
  unfold cnA cntV at hz
  generalize vN (mI M 73) A (A 100) (A 101) (A 102) (A 103) = a at hz hb1 hb2 ⊢
  generalize vT (mI M 73) A (A 100) (A 101) (A 102) (A 103) = b at hz hb2 ⊢
  refine ⟨isO_pt hS2 (by decide) rfl, m_draw hS2 hM2 hO fun M3 f3 hM3 => ?_⟩
  have hS3 := f3.S hS2
  have f := (f1.f.sm.tr f2.f.sm).tr f3
  have hd : A 2 % 10 < 10 := Nat.mod_lt _ (by omega)
  generalize A 2 % 10 = d at hz hd ⊢
  have hO3 := o_draw hO
  have l : ∀ k, k ≠ 2 → drA A k = A k := fun k hk => by unfold drA; exact up_n hk
  have hcn : ∀ (c : Nat) (inc : Int32), nI (A 104) + inc = nI c → (∀ M2, Frm mdr M M2 → Mdl M2 71 (up (drA A) 104 (if bt (A (10 + 18 * A 101 + 1)) (A 103) = 1 ∧ A 102 % 2 = 0 then A 103 else c)) → φ M2) → j_X11_counted_96 φ 70 (nI (A 101)) (nI (A 102)) inc (nI (A 104)) (104 : Int32) 71 M3 := by
    intro c inc hc h
    have q := m_cnt96 (c := c) (inc := inc) (φ := φ) hS3 hM3 hO3 (by rw [l 108 (by omega)]; exact h1) (by rw [l 104 (by omega)]; exact hc) (by rw [l 103 (by omega)]; omega)
    rw [l 101 (by omega), l 102 (by omega), l 103 (by omega), l 104 (by omega), l _ (by omega)] at q
    exact q fun M4 f4 hM4 => h M4 (f.tr f4) hM4
  refine ⟨isO_pt hS3 (by decide) rfl, dR_of (Str.pg hS3 rfl) ⟨inA_pt hS3 rfl (vp_lit (by decide)), ?_⟩⟩
  rw [hM3.1 104 (by omega) (by omega), l 104 (by omega)]
  have eab : nI a + nI b = nI (a + b) := nI_add a b
  rw [eab]
  rcases Nat.lt_or_ge d a with q | q
  · rw [if_pos q] at hz
    exact iF_f (fun c => absurd ((nIle (by omega) (by omega)).mp c) (by omega)) (hcn (A 104) 0 (nI_add _ 0) hz)
  · rw [if_neg (show ¬ d < a by omega)] at hz
    refine iF_t ((nIle (by omega) (by omega)).mpr q) ?_
    rcases Nat.lt_or_ge d (a + b) with q2 | q2
    · rw [if_pos q2] at hz
      exact iF_f (fun c => absurd ((nIle (by omega) (by omega)).mp c) (by omega)) (hcn (A 104 + 2) 2 (nI_add _ 2) hz)
    · rw [if_neg (show ¬ d < a + b by omega)] at hz
      exact iF_t ((nIle (by omega) (by omega)).mpr q2) (hcn (A 104 + 1) 1 (nI_add _ 1) hz)
