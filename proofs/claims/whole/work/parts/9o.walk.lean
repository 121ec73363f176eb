/-! ===== STEP and TOE, of the one ===== -/
theorem nvF_6 {A : Nat → Nat} {p h kd s a b s' a' b' v : Nat} (hv : v < 6) : nvF A p h kd s a b v = nvF A p h kd s' a' b' v := by
  have q : v = 0 ∨ v = 1 ∨ v = 2 ∨ v = 3 ∨ v = 4 ∨ v = 5 := by omega
  rcases q with rfl | rfl | rfl | rfl | rfl | rfl <;> rfl
def Tn (tx : Nat → Int32) (A : Nat → Nat) (M : fM) : Prop := TrT M tx (A 4) ∧ mI M 7 3 = nI (A (82 + 3 * A 100)) ∧ mI M 7 4 = nI (A (82 + 3 * A 100 + 1)) ∧ ∀ s x y v, v < 6 → mI M 8 v = nI (nvF A (A 100) (A 101) (A 102) s x y v)
theorem Tn.cg {tx : Nat → Int32} {A A2 : Nat → Nat} {M M2 : fM} (f : Frm clr M M2) (hp : mP M2 7 2 = mP M 7 2) (h7 : mI M2 7 = mI M 7) (h8 : mI M2 8 = mI M 8) (w : WC A A2) (q0 : A2 100 = A 100) (q1 : A2 101 = A 101) (q2 : A2 102 = A 102) (hp6 : A 100 < 6) (hh : A 101 < 4) (h : Tn tx A M) : Tn tx A2 M2 := by
  obtain ⟨a1, a2, a3, a4⟩ := h
  unfold Tn
  rw [q0, q1, q2, h7, h8, w 4 (by omega), w (82 + 3 * A 100) (by omega), w (82 + 3 * A 100 + 1) (by omega)]
  refine ⟨a1.cl f hp, a2, a3, fun s x y v hv => ?_⟩
  rw [nvF_c w hh]
  exact a4 s x y v hv
theorem Tn.w15 {tx : Nat → Int32} {A : Nat → Nat} {M : fM} {k x : Nat} {v : Int32} (hk : 3 ≤ k) (hp6 : A 100 < 6) (hh : A 101 < 4) (h : Tn tx A M) : Tn tx (up A (100 + k) x) (wI M 15 k v) := by
  have cn : 0 + 0 = 0 := rfl; have cm : 0 + 0 = 0 := rfl; have cr : 0 + 0 = 0 := rfl; have ct : 0 + 0 = 0 := rfl; have ch : 0 + 0 = 0 := rfl; have p1 : 0 + 0 = 0 := rfl; have p2 : 0 + 0 = 0 := rfl; have p3 : 0 + 0 = 0 := rfl; have s4 : 0 + 0 = 0 := rfl; have s5 : 0 + 0 = 0 := rfl; have s6 : 0 + 0 = 0 := rfl; have s9 : 0 + 0 = 0 := rfl; have s11 : 0 + 0 = 0 := rfl; have s14 : 0 + 0 = 0 := rfl; have s15 : 0 + 0 = 0 := rfl; have s17 : 0 + 0 = 0 := rfl; have cb : 0 + 0 = 0 := rfl; have cg : 0 + 0 = 0 := rfl; have m1 : 0 + 0 = 0 := rfl; have m4 : 0 + 0 = 0 := rfl; have f5 : 0 + 0 = 0 := rfl; have f6 : 0 + 0 = 0 := rfl; have t1 : 0 + 0 = 0 := rfl; have t2 : 0 + 0 = 0 := rfl; have e1 : 0 + 0 = 0 := rfl; have e2 : 0 + 0 = 0 := rfl; have e3 : 0 + 0 = 0 := rfl
  have f : Frm clr M (wI M 15 k v) := by (refine ⟨rfl, fun _ => rfl, fun r hr k hk => ?_⟩; (try unfold clr at hr); (try unfold mdr at hr); (try unfold scr at hr); simp (disch := omega) only [lit32, Nat.add_sub_cancel, Nat.sub_zero, Nat.reduceSub, nI_add, nI_muL, nI_sub, ix_nI, mI_s, mI_n, mI_fs, mI_fn, mI_ci, mI_co, mI_si, mI_so, Nat.add_zero, up_n, up_s, cpA_i, cpA_o, shA_i, shA_o, fiA_i, fiA_o, imin_l, imin_r, nI_mod, nI_div, xr_e, cn, cm, cr, ct, ch, p1, p2, p3, s4, s5, s6, s9, s11, s14, s15, s17, cb, cg, m1, m4, f5, f6, t1, t2, e1, e2, e3]; first | done | fail)
  exact h.cg f rfl (funext fun j => mI_n (by omega)) (funext fun j => mI_n (by omega)) ((WC.rf A).up (by omega)) (up_n (by omega)) (up_n (by omega)) (up_n (by omega)) hp6 hh
theorem Tn.f9 {tx : Nat → Int32} {A : Nat → Nat} {M M2 : fM} (f : F9 M M2) (h : Tn tx A M) : Tn tx A M2 := by
  obtain ⟨a1, a2, a3, a4⟩ := h
  exact ⟨a1.f9 f, (f.2 7 (by omega) 3).trans a2, (f.2 7 (by omega) 4).trans a3, fun s x y v hv => (f.2 8 (by omega) v).trans (a4 s x y v hv)⟩
theorem F9.C {A : Nat → Nat} {nx : Nat} {M M2 : fM} (f : F9 M M2) (h5 : A 5 ≤ 30) (h : Cls M 10 A nx) : Cls M2 10 A nx := h.cg (fun q hq k => f.2 q (by omega) k) h5
theorem c_turnToWay {L B nx : Nat} {A : Nat → Nat} {M : fM} {φ : fM → Prop} (hS : Str L M) (hC : Cls M 10 A nx) (hO : Okk B A) (hT : ∀ i, i < A 3 → TxR M 18 i) (h1 : A 108 = 1) (hz : ∀ M2, Frm scr M M2 → Tn (mI M 73) A M2 → φ M2) : w_X9_turnToWay 57 M φ := by
  obtain ⟨cn, cm, cr, ct, ch, p1, p2, p3, s4, s5, s6, s9, s11, s14, s15, s17, cb, cg⟩ := hC.f
  obtain ⟨e0, e1, e2, e3, e4, e5, e6, e7⟩ := way_on hC.2.2.2.1 h1
  have oW := hO.2.2.2.1
  have w := oW.2.1
  obtain ⟨w1, w2, w3⟩ := oW.2.2 h1
  obtain ⟨o0, o1, o2, o3, o4, o5, o6, o7, o8, o9⟩ := hO.1
  refine ⟨isO_pt hS (by decide) rfl, dR_of (Str.pg hS rfl) (dR_of (Str.pg hS rfl) (dR_of (Str.pg hS rfl) (dR_of (Str.pg hS rfl) ⟨isO_pt hS (by decide) rfl, isO_pt hS (by decide) rfl, c_textOf hS hC hO hT s15 o4 fun o ho => ?_⟩)))⟩
  refine ⟨isO_pt hS (by decide) rfl, dR_of (Str.pg hS rfl) ⟨isO_pt hS (by decide) rfl, dR_of (Str.pg hS rfl) ⟨inA_pt hS rfl (vp_lit (by decide)), dR_of (Str.pg hS rfl) ⟨isO_pt hS (by decide) rfl, dR_of (Str.pg hS rfl) ⟨inA_pt hS rfl (vp_lit (by decide)), dR_of (Str.pg hS rfl) ⟨isO_pt hS (by decide) rfl, dR_of (Str.pg hS rfl) ⟨inA_pt hS rfl (vp_lit (by decide)), isO_pt hS (by decide) rfl, ?_⟩⟩⟩⟩⟩⟩⟩
  exact c_turnTo hS hC hO e0 e1 e2 (by omega) w w2 fun M2 f q1 q2 q3 q4 => hz M2 f ⟨ho M2 f q1, q2, q3, q4⟩
theorem c_go241 {L B nx r : Nat} {D : Nat → Nat} {M : fM} {v : Int32} {φ : Int32 → fM → Prop} (hS : Str L M) (hC : Cls M 10 D nx) (hO : Okk B D) (h1 : D 108 = 1) (hs1 : 1 ≤ D 103) (hv : v = nI (D 103)) (hr : r = 20 + 2 * D 101) (hz : ∀ M2, Frm clr M M2 → Cls M2 10 (up D 104 (if bt (D (10 + 18 * D 101 + 1)) (D 103) = 1 ∧ D 102 % 2 = 0 then D 103 else D 104)) nx → φ v M2) : j_X9_goOn_241 φ 57 r v M := by
  subst hv hr
  obtain ⟨cn, cm, cr, ct, ch, p1, p2, p3, s4, s5, s6, s9, s11, s14, s15, s17, cb, cg⟩ := hC.f
  obtain ⟨e0, e1, e2, e3, e4, e5, e6, e7⟩ := way_on hC.2.2.2.1 h1
  have oW := hO.2.2.2.1
  have w := oW.2.1
  obtain ⟨w1, w2, w3⟩ := oW.2.2 h1
  have hn := (hO.2.1 _ w).2.1
  have o5 := hO.1.2.2.2.2.2.1
  have done : ¬ (bt (D (10 + 18 * D 101 + 1)) (D 103) = 1 ∧ D 102 % 2 = 0) → φ (nI (D 103)) M := fun q => by
    rw [if_neg q, up_id] at hz
    exact hz M Frm.rf hC
  refine ⟨isO_hs hS w, isO_hs hS w, iF_f (fun c => absurd ((nIlt (a := D 103) (b := 1) (by omega) (by omega)).mp c) (by omega)) ⟨isO_hs hS w, iF_f (fun c => ?_) (iF_f (by decide) ⟨isO_hs hS w, ?_⟩)⟩⟩
  · rw [cn _ w] at c
    exact absurd ((nIlt (by omega) (by omega)).mp c) (by omega)
  rw [cm _ w]
  refine iF_s (fun q => ?_) (fun q => iF_t rfl (done fun z => q ?_))
  · have qb : bt (D (10 + 18 * D 101 + 1)) (D 103) = 1 := by unfold bt; rw [show (nI 31 : Int32) = 31 from rfl, show (nI 1 : Int32) = 1 from rfl, q]; rfl
    refine iF_f (by decide) ⟨isO_pt hS (by decide) rfl, dR_of (Str.pg hS rfl) ⟨isO_pt hS (by decide) rfl, dR_of (Str.pg hS rfl) ⟨inA_pt hS rfl (vp_lit (by decide)), ?_⟩⟩⟩
    try rw [show ix (2 : Int32) = 2 from rfl]
    rw [e2]
    have go : D 102 % 2 = 0 → dR (mP M 57 0) fun y19 => isO M y19 5 ∧ dR (mP M y19 7) fun y24 => 6 ≤ y24 ∧ inA M y24 12 (4 : Int32) ∧ st (wI M y24 (ix (4 : Int32)) (nI (D 103))) fun M30 => φ (nI (D 103)) M30 := fun q2 => by
      refine dR_of (Str.pg hS rfl) ⟨isO_pt hS (by decide) rfl, dR_of (Str.pg hS rfl) ⟨by omega, inA_pt hS rfl (vp_lit (by decide)), st_of ?_⟩⟩
      rw [if_pos ⟨qb, q2⟩] at hz
      exact hz _ (by have m1 : 0 + 0 = 0 := rfl; have m4 : 0 + 0 = 0 := rfl; have f5 : 0 + 0 = 0 := rfl; have f6 : 0 + 0 = 0 := rfl; have t1 : 0 + 0 = 0 := rfl; have t2 : 0 + 0 = 0 := rfl; (refine ⟨rfl, fun _ => rfl, fun r hr k hk => ?_⟩; (try unfold clr at hr); (try unfold mdr at hr); (try unfold scr at hr); simp (disch := omega) only [lit32, Nat.add_sub_cancel, Nat.sub_zero, Nat.reduceSub, nI_add, nI_muL, nI_sub, ix_nI, mI_s, mI_n, mI_fs, mI_fn, mI_ci, mI_co, mI_si, mI_so, Nat.add_zero, up_n, up_s, cpA_i, cpA_o, shA_i, shA_o, fiA_i, fiA_o, imin_l, imin_r, nI_mod, nI_div, xr_e, cn, cm, cr, ct, ch, p1, p2, p3, s4, s5, s6, s9, s11, s14, s15, s17, cb, cg, m1, m4, f5, f6, t1, t2, e1, e2, e3]; first | done | fail)) (hC.w15 (k := 4) (by omega) rfl o5 h1)
    have hk4 : D 102 = 0 ∨ D 102 = 1 ∨ D 102 = 2 ∨ D 102 = 3 := by omega
    rcases hk4 with q3 | q3 | q3 | q3
    · rw [q3]
      exact iF_t (by decide) (go (by omega))
    · rw [q3]
      exact iF_f (by decide) (done fun z => absurd z.2 (by omega))
    · rw [q3]
      exact iF_t (by decide) (go (by omega))
    · rw [q3]
      exact iF_f (by decide) (done fun z => absurd z.2 (by omega))
  · have z1 := z.1
    unfold bt at z1
    exact Int32.toInt_inj.mp z1
theorem c_go181 {L B nx r : Nat} {tx : Nat → Int32} {D : Nat → Nat} {M : fM} {v : Int32} {φ : Int32 → fM → Prop} (hS : Str L M) (hC : Cls M 10 D nx) (hO : Okk B D) (h1 : D 108 = 1) (hs1 : 1 ≤ D 103) (hv : v = nI (D 103)) (hr : r = 20 + 2 * D 101) (hT : Tn tx D M) (t8 : ∀ v, v < 10 → mI M 8 v = nI (nvS D (D 100) (D 101) (D 102) (D 103) v)) (hz : ∀ M2, Frm clr M M2 → Cls M2 10 (cnA tx D) nx → φ v M2) : j_X9_goOn_181 φ 57 r v M := by
  have oW := hO.2.2.2.1
  have w := oW.2.1
  obtain ⟨w1, w2, w3⟩ := oW.2.2 h1
  have o0 := hO.1.1
  have o5 := hO.1.2.2.2.2.2.1
  have hn := (hO.2.1 _ w).2.1
  have hpb := hO.2.2.1 _ w1
  have hv9 : ∀ v, v < 10 → mI M 8 v = nI (nvS D (D 100) (D 101) (D 102) (D 103) v) ∧ nvS D (D 100) (D 101) (D 102) (D 103) v ≤ 9999 := fun v q => ⟨t8 v q, nvF_b hO (by omega) w w2 (by omega) (htA_b hO w (by omega)) (htA_b hO w (by omega)) v⟩
  refine ⟨isO_pt hS (by decide) rfl, dR_of (Str.pg hS rfl) ⟨isO_pt hS (by decide) rfl, c_noneNow hS hT.1 hv9 hT.2.1 (by omega) fun M1 f1 => ?_⟩⟩
  have hS1 := f1.S hS
  have hb1 := vN_b tx D (D 100) (D 101) (D 102) (D 103)
  have hb2 := vT_b tx D (D 100) (D 101) (D 102) (D 103)
  refine ⟨isO_pt hS1 (by decide) rfl, dR_of (Str.pg hS1 rfl) ⟨isO_pt hS1 (by decide) rfl, c_twiceNow (n := vN tx D (D 100) (D 101) (D 102) (D 103)) hS1 (hT.f9 f1).1 (fun v q => ⟨(f1.2 8 (by omega) v).trans (hv9 v q).1, (hv9 v q).2⟩) (hT.f9 f1).2.2.1 (by omega) rfl hb1 fun M2 f2 => ?_⟩⟩
  have hS2 := f2.S hS1
  have hC2 : Cls M2 10 D nx := f2.C o5 (f1.C o5 hC)
  show isO M2 57 9 ∧ w_X9_draw 57 M2 fun x66 M62 => iF (x66 < nI (vN tx D (D 100) (D 101) (D 102) (D 103))) (j_X9_goOn_241 φ 57 r v M62) (isO M62 57 9 ∧ dR (mP M62 57 0) fun y70 => isO M62 y70 5 ∧ dR (mP M62 y70 7) fun y75 => inA M62 y75 12 (4 : Int32) ∧ iF ((nI (vN tx D (D 100) (D 101) (D 102) (D 103)) + nI (vT tx D (D 100) (D 101) (D 102) (D 103))) ≤ x66) (j_X9_goOn_239 φ 57 r v (1 : Int32) (mI M62 y75 (ix (4 : Int32))) (4 : Int32) y75 M62) (j_X9_goOn_239 φ 57 r v (2 : Int32) (mI M62 y75 (ix (4 : Int32))) (4 : Int32) y75 M62))
  unfold cnA cntV at hz
  generalize vN tx D (D 100) (D 101) (D 102) (D 103) = a at hz hb1 hb2 ⊢
  generalize vT tx D (D 100) (D 101) (D 102) (D 103) = b at hz hb2 ⊢
  refine ⟨isO_pt hS2 (by decide) rfl, c_draw hS2 hC2 hO fun M3 f3 hC3 => ?_⟩
  have f := (f1.f.sc.tr f2.f.sc).tr f3
  have hS3 := f.S hS
  have hd : D 2 % 10 < 10 := Nat.mod_lt _ (by omega)
  generalize D 2 % 10 = d at hz hd ⊢
  have hO3 := o_draw hO
  have lD : ∀ k, k ≠ 2 → drA D k = D k := fun k hk => by unfold drA; exact up_n hk
  have e4 : mI M3 15 4 = nI (D 104) := (way_on hC3.2.2.2.1 h1).2.2.2.2.1
  have fin : ∀ (c : Nat) (M4 : fM), Frm clr M M4 → Cls M4 10 (up (drA D) 104 c) nx → (∀ M2, Frm clr M M2 → Cls M2 10 (up (drA D) 104 (if bt (D (10 + 18 * D 101 + 1)) (D 103) = 1 ∧ D 102 % 2 = 0 then D 103 else c)) nx → φ v M2) → j_X9_goOn_241 φ 57 r v M4 := by
    intro c M4 g1 g2 h
    have l : ∀ k, k ≠ 2 → k ≠ 104 → up (drA D) 104 c k = D k := fun k q1 q2 => (up_n q2).trans (lD k q1)
    have q := c_go241 (v := v) (r := r) (φ := φ) (g1.S hS) g2 (hO3.w (by omega)) h1 hs1 hv hr
    rw [l 101 (by omega) (by omega), l 102 (by omega) (by omega), l 103 (by omega) (by omega), l _ (by omega) (by omega), up_s, up_up] at q
    exact q fun M5 g3 g4 => h M5 (g1.tr g3) g4
  have inc : ∀ (c n : Nat) (m : Int32), m = nI n → D 104 + n = c → (∀ M2, Frm clr M M2 → Cls M2 10 (up (drA D) 104 (if bt (D (10 + 18 * D 101 + 1)) (D 103) = 1 ∧ D 102 % 2 = 0 then D 103 else c)) nx → φ v M2) → j_X9_goOn_239 φ 57 r v m (mI M3 15 4) (4 : Int32) 15 M3 := by
    intro c n m hm hc h
    subst hm hc
    refine nm_of ⟨by omega, inA_pt hS3 rfl (vp_lit (by decide)), st_of ?_⟩
    try rw [show ix (4 : Int32) = 4 from rfl]
    rw [e4, nI_add]
    refine fin (D 104 + n) _ (f.tr ?_) (hC3.w15 (k := 4) (by omega) rfl o5 h1) h
    have cn : 0 + 0 = 0 := rfl; have cm : 0 + 0 = 0 := rfl; have cr : 0 + 0 = 0 := rfl; have ct : 0 + 0 = 0 := rfl; have ch : 0 + 0 = 0 := rfl; have p1 : 0 + 0 = 0 := rfl; have p2 : 0 + 0 = 0 := rfl; have p3 : 0 + 0 = 0 := rfl; have s4 : 0 + 0 = 0 := rfl; have s5 : 0 + 0 = 0 := rfl; have s6 : 0 + 0 = 0 := rfl; have s9 : 0 + 0 = 0 := rfl; have s11 : 0 + 0 = 0 := rfl; have s14 : 0 + 0 = 0 := rfl; have s15 : 0 + 0 = 0 := rfl; have s17 : 0 + 0 = 0 := rfl; have cb : 0 + 0 = 0 := rfl; have cg : 0 + 0 = 0 := rfl; have m1 : 0 + 0 = 0 := rfl; have m4 : 0 + 0 = 0 := rfl; have f5 : 0 + 0 = 0 := rfl; have f6 : 0 + 0 = 0 := rfl; have t1 : 0 + 0 = 0 := rfl; have t2 : 0 + 0 = 0 := rfl; have e1 : 0 + 0 = 0 := rfl; have e2 : 0 + 0 = 0 := rfl; have e3 : 0 + 0 = 0 := rfl
    (refine ⟨rfl, fun _ => rfl, fun r hr k hk => ?_⟩; (try unfold clr at hr); (try unfold mdr at hr); (try unfold scr at hr); simp (disch := omega) only [lit32, Nat.add_sub_cancel, Nat.sub_zero, Nat.reduceSub, nI_add, nI_muL, nI_sub, ix_nI, mI_s, mI_n, mI_fs, mI_fn, mI_ci, mI_co, mI_si, mI_so, Nat.add_zero, up_n, up_s, cpA_i, cpA_o, shA_i, shA_o, fiA_i, fiA_o, imin_l, imin_r, nI_mod, nI_div, xr_e, cn, cm, cr, ct, ch, p1, p2, p3, s4, s5, s6, s9, s11, s14, s15, s17, cb, cg, m1, m4, f5, f6, t1, t2, e1, e2, e3]; first | done | fail)
  rcases Nat.lt_or_ge d a with q | q
  · rw [if_pos q] at hz
    exact iF_t ((nIlt (by omega) (by omega)).mpr q) (fin (D 104) M3 f (by rw [show up (drA D) 104 (D 104) = drA D from up_id (drA D) 104]; exact hC3) hz)
  · rw [if_neg (show ¬ d < a by omega)] at hz
    refine iF_f (fun c => absurd ((nIlt (by omega) (by omega)).mp c) (by omega)) ⟨isO_pt hS3 (by decide) rfl, dR_of (Str.pg hS3 rfl) ⟨isO_pt hS3 (by decide) rfl, dR_of (Str.pg hS3 rfl) ⟨inA_pt hS3 rfl (vp_lit (by decide)), ?_⟩⟩⟩
    rw [nI_add]
    rcases Nat.lt_or_ge d (a + b) with q2 | q2
    · rw [if_pos q2] at hz
      exact iF_f (fun c => absurd ((nIle (by omega) (by omega)).mp c) (by omega)) (inc (D 104 + 2) 2 2 rfl rfl hz)
    · rw [if_neg (show ¬ d < a + b by omega)] at hz
      exact iF_t ((nIle (by omega) (by omega)).mpr q2) (inc (D 104 + 1) 1 1 rfl rfl hz)
theorem c_go46 {L B nx n r : Nat} {tx : Nat → Int32} {A : Nat → Nat} {M : fM} {b s0 s1 : Int32} {φ : Int32 → fM → Prop} (hS : Str L M) (hC : Cls M 10 A nx) (hO : Okk B A) (h1 : A 108 = 1) (hr : r = 20 + 2 * A 101) (hs0 : s0 = nI n) (hs1 : s1 = nI (A 105)) (hT : Tn tx A M)
    (hd : A 103 = A (10 + 18 * A 101) → ∀ M2, Frm clr M M2 → Cls M2 10 (seA n A) nx → Tn tx (seA n A) M2 → iF (b = 0) (j_X9_goOn_94 φ 57 b r (0 : Int32) (nI (A 106)) (6 : Int32) 15 M2) (dR (mP M2 57 1) fun y214 => isO M2 y214 1 ∧ w_X1_jarNow y214 M2 fun x220 M216 => j_X9_goOn_94 φ 57 b r x220 (nI (A 106)) (6 : Int32) 15 M216))
    (hg : A 103 ≠ A (10 + 18 * A 101) → ∀ M2, Frm clr M M2 → Cls M2 10 (adA n A) nx → Tn tx (adA n A) M2 → (∀ v, v < 10 → mI M2 8 v = nI (nvS (adA n A) (A 100) (A 101) (A 102) (A 103 + 1) v)) → iF (b = 0) (j_X9_goOn_181 φ 57 r (nI (A 103 + 1)) M2) (isO M2 57 9 ∧ dR (mP M2 57 1) fun y146 => isO M2 y146 1 ∧ w_X1_tripsNow y146 M2 fun x152 M148 => iF (x152 = 0) (j_X9_goOn_181 φ 57 r (nI (A 103 + 1)) M148) (isO M148 57 9 ∧ dR (mP M148 57 0) fun y156 => isO M148 y156 5 ∧ dR (mP M148 y156 7) fun y161 => inA M148 y161 12 (6 : Int32) ∧ dR (mP M148 57 1) fun y166 => isO M148 y166 1 ∧ w_X1_fallNow y166 M148 fun x172 M168 => nm ((mI M148 y161 (ix (6 : Int32))) + x172) fun x173 => 6 ≤ y161 ∧ inA M168 y161 12 (6 : Int32) ∧ st (wI M168 y161 (ix (6 : Int32)) x173) fun M179 => isO M179 57 9 ∧ dR (mP M179 57 0) fun y184 => isO M179 y184 5 ∧ dR (mP M179 y184 7) fun y189 => inA M179 y189 12 (7 : Int32) ∧ nm ((mI M179 y189 (ix (7 : Int32))) + (1 : Int32)) fun x194 => 6 ≤ y189 ∧ inA M179 y189 12 (7 : Int32) ∧ st (wI M179 y189 (ix (7 : Int32)) x194) fun M200 => j_X9_goOn_181 φ 57 r (nI (A 103 + 1)) M200))) : j_X9_goOn_46 φ 57 b r s0 s1 (5 : Int32) 15 M := by
  subst hs0 hs1 hr
  have oW := hO.2.2.2.1
  have w := oW.2.1
  obtain ⟨w1, w2, w3⟩ := oW.2.2 h1
  have o0 := hO.1.1
  have o5 := hO.1.2.2.2.2.2.1
  have hn := (hO.2.1 _ w).2.1
  refine nm_of ⟨by omega, inA_pt hS rfl (vp_lit (by decide)), st_of ?_⟩
  try rw [show ix (5 : Int32) = 5 from rfl]
  rw [nI_add]
  have hC1 : Cls (wI M 15 5 (nI (A 105 + n))) 10 (seA n A) nx := hC.w15 (k := 5) (by omega) rfl o5 h1
  have hT1 : Tn tx (seA n A) (wI M 15 5 (nI (A 105 + n))) := hT.w15 (k := 5) (by omega) (by omega) w
  have f1 : Frm clr M (wI M 15 5 (nI (A 105 + n))) := by
    have cn : 0 + 0 = 0 := rfl; have cm : 0 + 0 = 0 := rfl; have cr : 0 + 0 = 0 := rfl; have ct : 0 + 0 = 0 := rfl; have ch : 0 + 0 = 0 := rfl; have p1 : 0 + 0 = 0 := rfl; have p2 : 0 + 0 = 0 := rfl; have p3 : 0 + 0 = 0 := rfl; have s4 : 0 + 0 = 0 := rfl; have s5 : 0 + 0 = 0 := rfl; have s6 : 0 + 0 = 0 := rfl; have s9 : 0 + 0 = 0 := rfl; have s11 : 0 + 0 = 0 := rfl; have s14 : 0 + 0 = 0 := rfl; have s15 : 0 + 0 = 0 := rfl; have s17 : 0 + 0 = 0 := rfl; have cb : 0 + 0 = 0 := rfl; have cg : 0 + 0 = 0 := rfl; have m1 : 0 + 0 = 0 := rfl; have m4 : 0 + 0 = 0 := rfl; have f5 : 0 + 0 = 0 := rfl; have f6 : 0 + 0 = 0 := rfl; have t1 : 0 + 0 = 0 := rfl; have t2 : 0 + 0 = 0 := rfl; have e1 : 0 + 0 = 0 := rfl; have e2 : 0 + 0 = 0 := rfl; have e3 : 0 + 0 = 0 := rfl
    (refine ⟨rfl, fun _ => rfl, fun r hr k hk => ?_⟩; (try unfold clr at hr); (try unfold mdr at hr); (try unfold scr at hr); simp (disch := omega) only [lit32, Nat.add_sub_cancel, Nat.sub_zero, Nat.reduceSub, nI_add, nI_muL, nI_sub, ix_nI, mI_s, mI_n, mI_fs, mI_fn, mI_ci, mI_co, mI_si, mI_so, Nat.add_zero, up_n, up_s, cpA_i, cpA_o, shA_i, shA_o, fiA_i, fiA_o, imin_l, imin_r, nI_mod, nI_div, xr_e, cn, cm, cr, ct, ch, p1, p2, p3, s4, s5, s6, s9, s11, s14, s15, s17, cb, cg, m1, m4, f5, f6, t1, t2, e1, e2, e3]; first | done | fail)
  generalize wI M 15 5 (nI (A 105 + n)) = M1 at hC1 hT1 f1 ⊢
  have hS1 := f1.S hS
  obtain ⟨e0, e1, e2, e3, e4, e5, e6, e7⟩ := way_on hC1.2.2.2.1 h1
  obtain ⟨cn, -⟩ := hC1.f
  refine ⟨isO_pt hS1 (by decide) rfl, dR_of (Str.pg hS1 rfl) ⟨isO_pt hS1 (by decide) rfl, dR_of (Str.pg hS1 rfl) ⟨inA_pt hS1 rfl (vp_lit (by decide)), ?_⟩⟩⟩
  try rw [show ix (3 : Int32) = 3 from rfl]
  rw [e3, show seA n A 103 = A 103 from rfl, show nI (A 103) + (1 : Int32) = nI (A 103 + 1) from nI_add _ 1]
  refine nm_of ⟨isO_hs hS1 w, ?_⟩
  rw [cn _ w, seA_l (by omega)]
  by_cases q : A 103 = A (10 + 18 * A 101)
  · refine iF_f (fun c => absurd ((nIle (by omega) (by omega)).mp c) (by omega)) (dR_of (Str.pg hS1 rfl) ⟨isO_pt hS1 (by decide) rfl, dR_of (Str.pg hS1 rfl) ⟨inA_pt hS1 rfl (vp_lit (by decide)), ?_⟩⟩)
    try rw [show ix (6 : Int32) = 6 from rfl]
    rw [e6]
    exact hd q M1 f1 hC1 hT1
  · refine iF_t ((nIle (by omega) (by omega)).mpr (by omega)) (dR_of (Str.pg hS1 rfl) ⟨isO_pt hS1 (by decide) rfl, dR_of (Str.pg hS1 rfl) ⟨by omega, inA_pt hS1 rfl (vp_lit (by decide)), st_of ?_⟩⟩)
    try rw [show ix (3 : Int32) = 3 from rfl]
    have hC2 : Cls (wI M1 15 3 (nI (A 103 + 1))) 10 (adA n A) nx := hC1.w15 (k := 3) (by omega) rfl o5 h1
    have hT2 : Tn tx (adA n A) (wI M1 15 3 (nI (A 103 + 1))) := hT1.w15 (k := 3) (by omega) (show A 100 < 6 by omega) w
    have f2 : Frm clr M1 (wI M1 15 3 (nI (A 103 + 1))) := by
      have cn : 0 + 0 = 0 := rfl; have cm : 0 + 0 = 0 := rfl; have cr : 0 + 0 = 0 := rfl; have ct : 0 + 0 = 0 := rfl; have ch : 0 + 0 = 0 := rfl; have p1 : 0 + 0 = 0 := rfl; have p2 : 0 + 0 = 0 := rfl; have p3 : 0 + 0 = 0 := rfl; have s4 : 0 + 0 = 0 := rfl; have s5 : 0 + 0 = 0 := rfl; have s6 : 0 + 0 = 0 := rfl; have s9 : 0 + 0 = 0 := rfl; have s11 : 0 + 0 = 0 := rfl; have s14 : 0 + 0 = 0 := rfl; have s15 : 0 + 0 = 0 := rfl; have s17 : 0 + 0 = 0 := rfl; have cb : 0 + 0 = 0 := rfl; have cg : 0 + 0 = 0 := rfl; have m1 : 0 + 0 = 0 := rfl; have m4 : 0 + 0 = 0 := rfl; have f5 : 0 + 0 = 0 := rfl; have f6 : 0 + 0 = 0 := rfl; have t1 : 0 + 0 = 0 := rfl; have t2 : 0 + 0 = 0 := rfl; have e1 : 0 + 0 = 0 := rfl; have e2 : 0 + 0 = 0 := rfl; have e3 : 0 + 0 = 0 := rfl
      (refine ⟨rfl, fun _ => rfl, fun r hr k hk => ?_⟩; (try unfold clr at hr); (try unfold mdr at hr); (try unfold scr at hr); simp (disch := omega) only [lit32, Nat.add_sub_cancel, Nat.sub_zero, Nat.reduceSub, nI_add, nI_muL, nI_sub, ix_nI, mI_s, mI_n, mI_fs, mI_fn, mI_ci, mI_co, mI_si, mI_so, Nat.add_zero, up_n, up_s, cpA_i, cpA_o, shA_i, shA_o, fiA_i, fiA_o, imin_l, imin_r, nI_mod, nI_div, xr_e, cn, cm, cr, ct, ch, p1, p2, p3, s4, s5, s6, s9, s11, s14, s15, s17, cb, cg, m1, m4, f5, f6, t1, t2, e1, e2, e3]; first | done | fail)
    generalize wI M1 15 3 (nI (A 103 + 1)) = M2 at hC2 hT2 f2 ⊢
    have f12 := f1.tr f2
    have hS2 := f12.S hS
    refine dR_of (Str.pg hS2 rfl) ⟨isO_pt hS2 (by decide) rfl, c_face (p := A 100) (h := A 101) (kd := A 102) (s := A 103 + 1) hS2 hC2 (o_ad hO h1 q) rfl w (by omega) (by omega) w2 hT2.2.2.2 fun M3 f3 q1 q2 q3 q4 => ?_⟩
    exact hg q M3 (f12.tr f3.sc) (f3.sC o5 hC2) ⟨hT2.1.cl f3.sc q1, q2.trans hT2.2.1, q3.trans hT2.2.2.1, fun s x y v hv => (q4 v (by omega)).trans (congrArg nI (nvF_6 hv))⟩ q4
theorem stA_103 {tx : Nat → Int32} {A : Nat → Nat} : stA tx A 103 = if A 103 = A (10 + 18 * A 101) then A 103 else A 103 + 1 := by
  unfold stA
  split
  · rw [dwA_l (by omega) (by omega) (by omega)]
    rfl
  · unfold cnA trA
    split <;> rfl
theorem toA_103 {tx : Nat → Int32} {A : Nat → Nat} : toA tx A 103 = if A 103 = A (10 + 18 * A 101) then A 103 else A 103 + 1 := by
  unfold toA
  split
  · rw [dwA_l (by omega) (by omega) (by omega)]
    rfl
  · rfl
theorem c_go106 {L B nx how : Nat} {A : Nat → Nat} {M : fM} {v : Int32} {φ : Int32 → fM → Prop} (hS : Str L M) (hC : Cls M 10 A nx) (hO : Okk B A) (h1 : A 108 = 1) (hv : v = nI how) (hz : ∀ M2, Frm clr M M2 → Cls M2 10 (dwA how A) nx → φ (nI (A (10 + 18 * A 101))) M2) : j_X9_goOn_106 φ (20 + 2 * A 101) v 57 M := by
  have w := hO.2.2.2.1.2.1
  refine ⟨isO_pt hS (by decide) rfl, c_down hS hC hO h1 hv fun M2 f hC2 => ⟨isO_hs (f.S hS) w, ?_⟩⟩
  obtain ⟨cn, -⟩ := hC2.f
  have q := cn _ w
  rw [dwA_l (by omega) (by omega) (by omega)] at q
  rw [q]
  exact hz M2 f hC2
theorem c_goStep {L B nx : Nat} {A : Nat → Nat} {M : fM} {φ : Int32 → fM → Prop} (hS : Str L M) (hC : Cls M 10 A nx) (hO : Okk B A) (hT : ∀ i, i < A 3 → TxR M 18 i) (h1 : A 108 = 1) (hz : ∀ M2, Frm clr M M2 → Cls M2 10 (stA (mI M 73) A) nx → φ (nI (stA (mI M 73) A 103)) M2) : w_X9_goOn 57 (1 : Int32) M φ := by
  obtain ⟨e0, e1, e2, e3, e4, e5, e6, e7⟩ := way_on hC.2.2.2.1 h1
  have oW := hO.2.2.2.1
  have w := oW.2.1
  obtain ⟨w1, w2, w3⟩ := oW.2.2 h1
  have o0 := hO.1.1
  have o5 := hO.1.2.2.2.2.2.1
  have hn := (hO.2.1 _ w).2.1
  refine ⟨isO_pt hS (by decide) rfl, dR_of (Str.pg hS rfl) (dR_of (Str.pg hS rfl) ⟨isO_pt hS (by decide) rfl, dR_of (Str.pg hS rfl) ⟨inA_pt hS rfl (vp_lit (by decide)), isO_pt hS (by decide) rfl, ?_⟩⟩)⟩
  try rw [show ix (1 : Int32) = 1 from rfl]
  rw [e1]
  refine c_hO10 hS w (gN_of rfl ⟨isO_pt hS (by decide) rfl, c_turnToWay hS hC hO hT h1 fun M1 f1 t1 => ?_⟩)
  have hS1 := f1.S hS
  have hC1 := f1.sC o5 hC
  have e5' := (way_on hC1.2.2.2.1 h1).2.2.2.2.2.1
  refine ⟨isO_pt hS1 (by decide) rfl, dR_of (Str.pg hS1 rfl) ⟨isO_pt hS1 (by decide) rfl, dR_of (Str.pg hS1 rfl) ⟨inA_pt hS1 rfl (vp_lit (by decide)), iF_f (by decide) ?_⟩⟩⟩
  try rw [show ix (5 : Int32) = 5 from rfl]
  rw [stA_103] at hz
  unfold stA at hz
  refine c_go46 (n := 1) hS1 hC1 hO h1 rfl rfl e5' t1 (fun q M2 f2 hC2 hT2 => ?_) (fun q M2 f2 hC2 hT2 t8 => ?_)
  · rw [if_pos q, if_pos q] at hz
    have f12 := f1.sc.tr f2
    have hS2 := f12.S hS
    refine iF_f (by decide) (dR_of (Str.pg hS2 rfl) ⟨isO_pt hS2 (by decide) rfl, c_jarNow hS2 hT2.1 (nv := nvF (seA 1 A) (A 100) (A 101) (A 102) 0 0 0) (fun v hv => ⟨hT2.2.2.2 0 0 0 v hv, nvF_b (o_se hO) (by omega) w w2 (by omega) (by omega) (by omega) v⟩) fun M3 f3 => ?_⟩)
    have hS3 := f3.S hS2
    show j_X9_goOn_94 φ 57 1 (20 + 2 * A 101) (nI (vJ (mI M 73) (seA 1 A) (A 100) (A 101) (A 102))) (nI (A 106)) (6 : Int32) 15 M3
    rw [vJ_c (show WC A (seA 1 A) from (WC.rf A).up (by omega)) w]
    refine nm_of ⟨by omega, inA_pt hS3 rfl (vp_lit (by decide)), st_of ?_⟩
    try rw [show ix (6 : Int32) = 6 from rfl]
    rw [nI_add]
    have f4 : Frm clr M3 (wI M3 15 6 (nI (A 106 + vJ (mI M 73) A (A 100) (A 101) (A 102)))) := by
      have cn : 0 + 0 = 0 := rfl; have cm : 0 + 0 = 0 := rfl; have cr : 0 + 0 = 0 := rfl; have ct : 0 + 0 = 0 := rfl; have ch : 0 + 0 = 0 := rfl; have p1 : 0 + 0 = 0 := rfl; have p2 : 0 + 0 = 0 := rfl; have p3 : 0 + 0 = 0 := rfl; have s4 : 0 + 0 = 0 := rfl; have s5 : 0 + 0 = 0 := rfl; have s6 : 0 + 0 = 0 := rfl; have s9 : 0 + 0 = 0 := rfl; have s11 : 0 + 0 = 0 := rfl; have s14 : 0 + 0 = 0 := rfl; have s15 : 0 + 0 = 0 := rfl; have s17 : 0 + 0 = 0 := rfl; have cb : 0 + 0 = 0 := rfl; have cg : 0 + 0 = 0 := rfl; have m1 : 0 + 0 = 0 := rfl; have m4 : 0 + 0 = 0 := rfl; have f5 : 0 + 0 = 0 := rfl; have f6 : 0 + 0 = 0 := rfl; have t1 : 0 + 0 = 0 := rfl; have t2 : 0 + 0 = 0 := rfl; have e1 : 0 + 0 = 0 := rfl; have e2 : 0 + 0 = 0 := rfl; have e3 : 0 + 0 = 0 := rfl
      (refine ⟨rfl, fun _ => rfl, fun r hr k hk => ?_⟩; (try unfold clr at hr); (try unfold mdr at hr); (try unfold scr at hr); simp (disch := omega) only [lit32, Nat.add_sub_cancel, Nat.sub_zero, Nat.reduceSub, nI_add, nI_muL, nI_sub, ix_nI, mI_s, mI_n, mI_fs, mI_fn, mI_ci, mI_co, mI_si, mI_so, Nat.add_zero, up_n, up_s, cpA_i, cpA_o, shA_i, shA_o, fiA_i, fiA_o, imin_l, imin_r, nI_mod, nI_div, xr_e, cn, cm, cr, ct, ch, p1, p2, p3, s4, s5, s6, s9, s11, s14, s15, s17, cb, cg, m1, m4, f5, f6, t1, t2, e1, e2, e3]; first | done | fail)
    have hC4 : Cls (wI M3 15 6 (nI (A 106 + vJ (mI M 73) A (A 100) (A 101) (A 102)))) 10 (up (seA 1 A) 106 (A 106 + vJ (mI M 73) A (A 100) (A 101) (A 102))) nx := (F9.C (A := seA 1 A) f3 o5 hC2).w15 (k := 6) (by omega) rfl o5 h1
    have f := (f12.tr f3.f.sc).tr f4
    refine iF_f (by decide) (c_go106 (A := up (seA 1 A) 106 (A 106 + vJ (mI M 73) A (A 100) (A 101) (A 102))) (f.S hS) hC4 ((o_se hO).w (by omega)) h1 rfl fun M5 f5 hC5 => ?_)
    rw [up_n (by omega), seA_l (by omega), show up (seA 1 A) 106 (A 106 + vJ (mI M 73) A (A 100) (A 101) (A 102)) 101 = A 101 from rfl, ← q]
    exact hz M5 (f.tr f5) hC5
  · rw [if_neg q, if_neg q] at hz
    have f12 := f1.sc.tr f2
    have hS2 := f12.S hS
    have hO2 : Okk B (adA 1 A) := o_ad hO h1 q
    obtain ⟨D, hD⟩ : ∃ D, D = adA 1 A := ⟨_, rfl⟩
    have d103 : D 103 = A 103 + 1 := by rw [hD]; rfl
    have d100 : D 100 = A 100 := by rw [hD]; rfl
    have d101 : D 101 = A 101 := by rw [hD]; rfl
    have d102 : D 102 = A 102 := by rw [hD]; rfl
    have d108 : D 108 = 1 := by rw [hD]; exact h1
    have d5 : D 5 ≤ 30 := by rw [hD]; exact o5
    rw [← hD, ← d100, ← d101, ← d102, ← d103] at t8
    rw [← hD] at hC2 hO2 hT2 hz
    rw [← d103] at hz ⊢
    rw [← d101]
    have dn := (hO2.2.2.2.1.2.2 d108).2.2
    have dw := hO2.2.2.2.1.2.1
    have dh := (hO2.2.1 _ dw).2.1
    rw [← d100] at w1
    rw [← d102] at w2
    clear hD
    have hv9 : ∀ v, v < 10 → mI M2 8 v = nI (nvS D (D 100) (D 101) (D 102) (D 103) v) ∧ nvS D (D 100) (D 101) (D 102) (D 103) v ≤ 9999 := fun v z => ⟨t8 v z, nvF_b hO2 (by omega) dw w2 (by omega) (htA_b hO2 dw (by omega)) (htA_b hO2 dw (by omega)) v⟩
    have cnt : ∀ (M4 : fM) (E : Nat → Nat), Frm clr M M4 → Cls M4 10 E nx → Okk B E → WC D E → E 100 = D 100 → E 101 = D 101 → E 102 = D 102 → E 103 = D 103 → E 108 = 1 → Tn (mI M 73) E M4 → mI M4 8 = mI M2 8 → (∀ M5, Frm clr M M5 → Cls M5 10 (cnA (mI M 73) E) nx → φ (nI (D 103)) M5) → j_X9_goOn_181 φ 57 (20 + 2 * D 101) (nI (D 103)) M4 := by
      intro M4 E g1 g2 g3 g4 g5 g6 g7 g8 g9 g10 g11 g12
      refine c_go181 (g1.S hS) g2 g3 g9 (by omega) (by rw [g8]) (by rw [g6]) g10 (fun v z => ?_) fun M5 g13 g14 => g12 M5 (g1.tr g13) g14
      rw [g11, g5, g6, g7, g8, nvS_c g4 dw (by omega)]
      exact t8 v z
    refine iF_f (by decide) ⟨isO_pt hS2 (by decide) rfl, dR_of (Str.pg hS2 rfl) ⟨isO_pt hS2 (by decide) rfl, c_tripsNow hS2 hT2.1 hv9 fun M3 x f3 ex => ?_⟩⟩
    have ex : x = iI (b01 (trV (mI M 73) D)) := ex
    have hS3 := f3.S hS2
    have hC3 := f3.C d5 hC2
    have hT3 := hT2.f9 f3
    have f123 := f12.tr f3.f.sc
    unfold trA at hz
    subst ex
    cases ht : trV (mI M 73) D
    · rw [ht, if_neg (by decide)] at hz
      exact iF_t (by decide) (cnt M3 D f123 hC3 hO2 (WC.rf D) rfl rfl rfl rfl d108 hT3 (funext fun j => f3.2 8 (by omega) j) hz)
    · rw [ht, if_pos rfl] at hz
      have e6' := (way_on hC3.2.2.2.1 d108).2.2.2.2.2.2.1
      refine iF_f (by decide) ⟨isO_pt hS3 (by decide) rfl, dR_of (Str.pg hS3 rfl) ⟨isO_pt hS3 (by decide) rfl, dR_of (Str.pg hS3 rfl) ⟨inA_pt hS3 rfl (vp_lit (by decide)), dR_of (Str.pg hS3 rfl) ⟨isO_pt hS3 (by decide) rfl, c_fallNow hS3 hT3.1 (nv := nvF D (D 100) (D 101) (D 102) 0 0 0) (fun v hv => ⟨hT3.2.2.2 0 0 0 v hv, nvF_b hO2 (by omega) dw w2 (by omega) (by omega) (by omega) v⟩) fun M4 f4 => ?_⟩⟩⟩⟩
      have hS4 := f4.S hS3
      have hC4 := f4.C d5 hC3
      have hT4 := hT3.f9 f4
      try rw [show ix (6 : Int32) = 6 from rfl]
      rw [e6']
      show nm (nI (D 106) + nI (vF (mI M 73) D (D 100) (D 101) (D 102))) _
      rw [nI_add]
      refine nm_of ⟨by omega, inA_pt hS4 rfl (vp_lit (by decide)), st_of ?_⟩
      have hC5 : Cls (wI M4 15 6 (nI (D 106 + vF (mI M 73) D (D 100) (D 101) (D 102)))) 10 (up D 106 (D 106 + vF (mI M 73) D (D 100) (D 101) (D 102))) nx := hC4.w15 (k := 6) (by omega) rfl d5 d108
      have hT5 : Tn (mI M 73) (up D 106 (D 106 + vF (mI M 73) D (D 100) (D 101) (D 102))) (wI M4 15 6 (nI (D 106 + vF (mI M 73) D (D 100) (D 101) (D 102)))) := hT4.w15 (k := 6) (by omega) (by omega) dw
      have fa : Frm clr M4 (wI M4 15 6 (nI (D 106 + vF (mI M 73) D (D 100) (D 101) (D 102)))) := by
        have cn : 0 + 0 = 0 := rfl; have cm : 0 + 0 = 0 := rfl; have cr : 0 + 0 = 0 := rfl; have ct : 0 + 0 = 0 := rfl; have ch : 0 + 0 = 0 := rfl; have p1 : 0 + 0 = 0 := rfl; have p2 : 0 + 0 = 0 := rfl; have p3 : 0 + 0 = 0 := rfl; have s4 : 0 + 0 = 0 := rfl; have s5 : 0 + 0 = 0 := rfl; have s6 : 0 + 0 = 0 := rfl; have s9 : 0 + 0 = 0 := rfl; have s11 : 0 + 0 = 0 := rfl; have s14 : 0 + 0 = 0 := rfl; have s15 : 0 + 0 = 0 := rfl; have s17 : 0 + 0 = 0 := rfl; have cb : 0 + 0 = 0 := rfl; have cg : 0 + 0 = 0 := rfl; have m1 : 0 + 0 = 0 := rfl; have m4 : 0 + 0 = 0 := rfl; have f5 : 0 + 0 = 0 := rfl; have f6 : 0 + 0 = 0 := rfl; have t1 : 0 + 0 = 0 := rfl; have t2 : 0 + 0 = 0 := rfl; have e1 : 0 + 0 = 0 := rfl; have e2 : 0 + 0 = 0 := rfl; have e3 : 0 + 0 = 0 := rfl
        (refine ⟨rfl, fun _ => rfl, fun r hr k hk => ?_⟩; (try unfold clr at hr); (try unfold mdr at hr); (try unfold scr at hr); simp (disch := omega) only [lit32, Nat.add_sub_cancel, Nat.sub_zero, Nat.reduceSub, nI_add, nI_muL, nI_sub, ix_nI, mI_s, mI_n, mI_fs, mI_fn, mI_ci, mI_co, mI_si, mI_so, Nat.add_zero, up_n, up_s, cpA_i, cpA_o, shA_i, shA_o, fiA_i, fiA_o, imin_l, imin_r, nI_mod, nI_div, xr_e, cn, cm, cr, ct, ch, p1, p2, p3, s4, s5, s6, s9, s11, s14, s15, s17, cb, cg, m1, m4, f5, f6, t1, t2, e1, e2, e3]; first | done | fail)
      have z5 : mI (wI M4 15 6 (nI (D 106 + vF (mI M 73) D (D 100) (D 101) (D 102)))) 8 = mI M2 8 := funext fun j => (mI_n (by omega)).trans ((f4.2 8 (by omega) j).trans (f3.2 8 (by omega) j))
      generalize wI M4 15 6 (nI (D 106 + vF (mI M 73) D (D 100) (D 101) (D 102))) = M5 at hC5 hT5 fa z5 ⊢
      have fb := (f123.tr f4.f.sc).tr fa
      have hS5 := fb.S hS
      have e7' := (way_on hC5.2.2.2.1 d108).2.2.2.2.2.2.2
      refine ⟨isO_pt hS5 (by decide) rfl, dR_of (Str.pg hS5 rfl) ⟨isO_pt hS5 (by decide) rfl, dR_of (Str.pg hS5 rfl) ⟨inA_pt hS5 rfl (vp_lit (by decide)), nm_of ⟨by omega, inA_pt hS5 rfl (vp_lit (by decide)), st_of ?_⟩⟩⟩⟩
      try rw [show ix (7 : Int32) = 7 from rfl]
      rw [e7', up_n (by omega), show nI (D 107) + (1 : Int32) = nI (D 107 + 1) from nI_add _ 1]
      refine cnt (wI M5 15 7 (nI (D 107 + 1))) (up (up D 106 (D 106 + vF (mI M 73) D (D 100) (D 101) (D 102))) 107 (D 107 + 1)) (fb.tr ?_) (hC5.w15 (k := 7) (by omega) rfl d5 d108) ((hO2.w (by omega)).w (by omega)) (((WC.rf D).up (by omega)).up (by omega)) rfl rfl rfl rfl d108 (hT5.w15 (k := 7) (by omega) (show D 100 < 6 by omega) dw) ?_ hz
      · have cn : 0 + 0 = 0 := rfl; have cm : 0 + 0 = 0 := rfl; have cr : 0 + 0 = 0 := rfl; have ct : 0 + 0 = 0 := rfl; have ch : 0 + 0 = 0 := rfl; have p1 : 0 + 0 = 0 := rfl; have p2 : 0 + 0 = 0 := rfl; have p3 : 0 + 0 = 0 := rfl; have s4 : 0 + 0 = 0 := rfl; have s5 : 0 + 0 = 0 := rfl; have s6 : 0 + 0 = 0 := rfl; have s9 : 0 + 0 = 0 := rfl; have s11 : 0 + 0 = 0 := rfl; have s14 : 0 + 0 = 0 := rfl; have s15 : 0 + 0 = 0 := rfl; have s17 : 0 + 0 = 0 := rfl; have cb : 0 + 0 = 0 := rfl; have cg : 0 + 0 = 0 := rfl; have m1 : 0 + 0 = 0 := rfl; have m4 : 0 + 0 = 0 := rfl; have f5 : 0 + 0 = 0 := rfl; have f6 : 0 + 0 = 0 := rfl; have t1 : 0 + 0 = 0 := rfl; have t2 : 0 + 0 = 0 := rfl; have e1 : 0 + 0 = 0 := rfl; have e2 : 0 + 0 = 0 := rfl; have e3 : 0 + 0 = 0 := rfl
        (refine ⟨rfl, fun _ => rfl, fun r hr k hk => ?_⟩; (try unfold clr at hr); (try unfold mdr at hr); (try unfold scr at hr); simp (disch := omega) only [lit32, Nat.add_sub_cancel, Nat.sub_zero, Nat.reduceSub, nI_add, nI_muL, nI_sub, ix_nI, mI_s, mI_n, mI_fs, mI_fn, mI_ci, mI_co, mI_si, mI_so, Nat.add_zero, up_n, up_s, cpA_i, cpA_o, shA_i, shA_o, fiA_i, fiA_o, imin_l, imin_r, nI_mod, nI_div, xr_e, cn, cm, cr, ct, ch, p1, p2, p3, s4, s5, s6, s9, s11, s14, s15, s17, cb, cg, m1, m4, f5, f6, t1, t2, e1, e2, e3]; first | done | fail)
      · rw [← z5]
        exact funext fun j => mI_n (by omega)
theorem c_goToe {L B nx : Nat} {A : Nat → Nat} {M : fM} {φ : Int32 → fM → Prop} (hS : Str L M) (hC : Cls M 10 A nx) (hO : Okk B A) (hT : ∀ i, i < A 3 → TxR M 18 i) (h1 : A 108 = 1) (hz : ∀ M2, Frm clr M M2 → Cls M2 10 (toA (mI M 73) A) nx → φ (nI (toA (mI M 73) A 103)) M2) : w_X9_goOn 57 (0 : Int32) M φ := by
  obtain ⟨e0, e1, e2, e3, e4, e5, e6, e7⟩ := way_on hC.2.2.2.1 h1
  have oW := hO.2.2.2.1
  have w := oW.2.1
  obtain ⟨w1, w2, w3⟩ := oW.2.2 h1
  have o5 := hO.1.2.2.2.2.2.1
  have hn := (hO.2.1 _ w).2.1
  refine ⟨isO_pt hS (by decide) rfl, dR_of (Str.pg hS rfl) (dR_of (Str.pg hS rfl) ⟨isO_pt hS (by decide) rfl, dR_of (Str.pg hS rfl) ⟨inA_pt hS rfl (vp_lit (by decide)), isO_pt hS (by decide) rfl, ?_⟩⟩)⟩
  try rw [show ix (1 : Int32) = 1 from rfl]
  rw [e1]
  refine c_hO10 hS w (gN_of rfl ⟨isO_pt hS (by decide) rfl, c_turnToWay hS hC hO hT h1 fun M1 f1 t1 => ?_⟩)
  have hS1 := f1.S hS
  have hC1 := f1.sC o5 hC
  have e5' := (way_on hC1.2.2.2.1 h1).2.2.2.2.2.1
  refine ⟨isO_pt hS1 (by decide) rfl, dR_of (Str.pg hS1 rfl) ⟨isO_pt hS1 (by decide) rfl, dR_of (Str.pg hS1 rfl) ⟨inA_pt hS1 rfl (vp_lit (by decide)), iF_t rfl ?_⟩⟩⟩
  try rw [show ix (5 : Int32) = 5 from rfl]
  rw [toA_103] at hz
  unfold toA at hz
  refine c_go46 (n := 3) hS1 hC1 hO h1 rfl rfl e5' t1 (fun q M2 f2 hC2 hT2 => ?_) (fun q M2 f2 hC2 hT2 t8 => ?_)
  · rw [if_pos q, if_pos q] at hz
    have f12 := f1.sc.tr f2
    have hS2 := f12.S hS
    refine iF_t rfl (nm_of ⟨by omega, inA_pt hS2 rfl (vp_lit (by decide)), st_of ?_⟩)
    try rw [show ix (6 : Int32) = 6 from rfl]
    rw [show nI (A 106) + (0 : Int32) = nI (A 106) from nI_add _ 0]
    have f4 : Frm clr M2 (wI M2 15 6 (nI (A 106))) := by
      have cn : 0 + 0 = 0 := rfl; have cm : 0 + 0 = 0 := rfl; have cr : 0 + 0 = 0 := rfl; have ct : 0 + 0 = 0 := rfl; have ch : 0 + 0 = 0 := rfl; have p1 : 0 + 0 = 0 := rfl; have p2 : 0 + 0 = 0 := rfl; have p3 : 0 + 0 = 0 := rfl; have s4 : 0 + 0 = 0 := rfl; have s5 : 0 + 0 = 0 := rfl; have s6 : 0 + 0 = 0 := rfl; have s9 : 0 + 0 = 0 := rfl; have s11 : 0 + 0 = 0 := rfl; have s14 : 0 + 0 = 0 := rfl; have s15 : 0 + 0 = 0 := rfl; have s17 : 0 + 0 = 0 := rfl; have cb : 0 + 0 = 0 := rfl; have cg : 0 + 0 = 0 := rfl; have m1 : 0 + 0 = 0 := rfl; have m4 : 0 + 0 = 0 := rfl; have f5 : 0 + 0 = 0 := rfl; have f6 : 0 + 0 = 0 := rfl; have t1 : 0 + 0 = 0 := rfl; have t2 : 0 + 0 = 0 := rfl; have e1 : 0 + 0 = 0 := rfl; have e2 : 0 + 0 = 0 := rfl; have e3 : 0 + 0 = 0 := rfl
      (refine ⟨rfl, fun _ => rfl, fun r hr k hk => ?_⟩; (try unfold clr at hr); (try unfold mdr at hr); (try unfold scr at hr); simp (disch := omega) only [lit32, Nat.add_sub_cancel, Nat.sub_zero, Nat.reduceSub, nI_add, nI_muL, nI_sub, ix_nI, mI_s, mI_n, mI_fs, mI_fn, mI_ci, mI_co, mI_si, mI_so, Nat.add_zero, up_n, up_s, cpA_i, cpA_o, shA_i, shA_o, fiA_i, fiA_o, imin_l, imin_r, nI_mod, nI_div, xr_e, cn, cm, cr, ct, ch, p1, p2, p3, s4, s5, s6, s9, s11, s14, s15, s17, cb, cg, m1, m4, f5, f6, t1, t2, e1, e2, e3]; first | done | fail)
    have hC4 : Cls (wI M2 15 6 (nI (A 106))) 10 (up (seA 3 A) 106 (A 106)) nx := hC2.w15 (k := 6) (by omega) rfl o5 h1
    rw [show up (seA 3 A) 106 (A 106) = seA 3 A from up_id (seA 3 A) 106] at hC4
    have f := f12.tr f4
    refine iF_t rfl (c_go106 (A := seA 3 A) (f.S hS) hC4 (o_se hO) h1 rfl fun M5 f5 hC5 => ?_)
    rw [seA_l (by omega), show seA 3 A 101 = A 101 from rfl, ← q]
    exact hz M5 (f.tr f5) hC5
  · rw [if_neg q, if_neg q] at hz
    have f12 := f1.sc.tr f2
    exact iF_t rfl (c_go181 (f12.S hS) hC2 (o_ad hO h1 q) h1 (Nat.le_add_left _ _) rfl rfl hT2 t8 fun M5 g1 g2 => hz M5 (f12.tr g1) g2)
