/-! ===== a TEXT played: what one CLAUSE does ===== -/
def KT (A : Nat → Nat) (a b : Int32) : Prop := ∃ h s, h ≤ 3 ∧ a = nI h ∧ b = nI s ∧ 1 ≤ s ∧ s ≤ A (10 + 18 * h) ∧ bt (A (10 + 18 * h + 1)) s = 1
def T_turn (a b : Int32) : (Nat → Int32) → (Nat → Nat) → Int32 → (Nat → Nat) → Prop := fun tx A v A2 => (KT A a b ∧ T_mark a b 0 tx A v A2) ∨ (¬ KT A a b ∧ T_mark a b 1 tx A v A2)
def dnT (T : (Nat → Int32) → (Nat → Nat) → Int32 → (Nat → Nat) → Prop) : (Nat → Int32) → (Nat → Nat) → Int32 → (Nat → Nat) → Prop := fun tx A d A2 => ∃ v, T tx A v A2 ∧ d = if v = -1 then 0 else 1
def T_done (s : Nat) (a b c : Int32) : (Nat → Int32) → (Nat → Nat) → Int32 → (Nat → Nat) → Prop :=
  if s = 5 then T_stair a b else if s = 6 then T_height c b a else if s = 7 then T_turn b a else if s = 8 then T_rail b a else if s = 9 then dnT (T_person a b c) else if s = 10 then dnT (T_begin a b 0) else if s = 11 then dnT (T_begin a b 1) else if s = 12 then dnT (T_begin a b 2) else if s = 13 then dnT T_step else if s = 14 then dnT T_toe else if s = 15 then dnT T_stop else if s = 16 then T_night1 else fun _ A v A2 => v = 1 ∧ A2 = A
theorem T_mark_01 {a b c : Int32} {tx : Nat → Int32} {A A2 : Nat → Nat} {v : Int32} (h : T_mark a b c tx A v A2) : v = 0 ∨ v = 1 := by
  rcases h with ⟨-, h, -⟩ | ⟨_, -, -, ⟨-, h, -⟩ | ⟨_, -, -, -, ⟨-, h, -⟩ | ⟨-, h, -⟩⟩⟩
  · exact Or.inl h
  · exact Or.inl h
  · exact Or.inl h
  · exact Or.inr h
theorem o_turn (B : Nat) (a b : Int32) : TOk B B (T_turn a b) := by
  intro t A v A2 hO h
  rcases h with ⟨-, h⟩ | ⟨-, h⟩
  · exact o_mark B a b 0 t A v A2 hO h
  · exact o_mark B a b 1 t A v A2 hO h
theorem o_dnT {B B2 : Nat} {T : (Nat → Int32) → (Nat → Nat) → Int32 → (Nat → Nat) → Prop} (h : TOk B B2 T) : TOk B B2 (dnT T) := by
  intro t A d A2 hO hd
  obtain ⟨v, hv, -⟩ := hd
  exact h t A v A2 hO hv
theorem c_dnT {L B : Nat} {w : fM → (Int32 → fM → Prop) → Prop} {T : (Nat → Int32) → (Nat → Nat) → Int32 → (Nat → Nat) → Prop} (h : CSp L B w T) : CSp L B (fun M φ => w M fun x M2 => iF (x = (-1 : Int32)) (φ (0 : Int32) M2) (φ (1 : Int32) M2)) (dnT T) := by
  intro M A nx φ hS hC hO hT hz
  refine h M A nx _ hS hC hO hT fun v A2 nx2 M2 t f c => ?_
  by_cases e : v = -1
  · exact iF_t e (hz 0 A2 nx2 M2 ⟨v, t, by rw [if_pos e]⟩ f c)
  · exact iF_f e (hz 1 A2 nx2 M2 ⟨v, t, by rw [if_neg e]⟩ f c)
theorem m_dnT {L B : Nat} {w : fM → (Int32 → fM → Prop) → Prop} {T : (Nat → Int32) → (Nat → Nat) → Int32 → (Nat → Nat) → Prop} (hn : ∀ tx A v A2, Okk B A → T tx A v A2 → v = -1 ∨ ∃ n, n < 2147483648 ∧ v = nI n) (h : MSp L B w T) : MSp L B (fun M φ => w M fun x M2 => iF (x < 0) (φ (0 : Int32) M2) (φ (1 : Int32) M2)) (dnT T) := by
  intro M A A2 d φ hS hM hO hT hd hz
  obtain ⟨v, hv, rfl⟩ := hd
  refine h M A A2 v _ hS hM hO hT hv fun M2 f c => ?_
  have q := hz M2 f c
  rcases hn _ A v A2 hO hv with e | ⟨n, hn, e⟩
  · rw [if_pos e] at q
    subst e
    exact iF_t (by decide) q
  · have e2 : v ≠ -1 := fun c => by
      have z : (nI n).toInt = (-1 : Int32).toInt := congrArg Int32.toInt (e.symm.trans c)
      rw [toInt_nI hn, show (-1 : Int32).toInt = -1 from rfl] at z
      omega
    rw [if_neg e2] at q
    refine iF_f (fun c => ?_) q
    rw [e, lt_toInt, toInt_nI hn, show (0 : Int32).toInt = 0 from rfl] at c
    omega
theorem person_n {B : Nat} {a b c : Int32} : ∀ tx A v A2, Okk B A → T_person a b c tx A v A2 → v = -1 ∨ ∃ n, n < 2147483648 ∧ v = nI n := by
  intro tx A v A2 hO h
  have o0 := hO.1.1
  rcases h with ⟨-, h, -⟩ | ⟨_, _, _, -, -, -, -, -, -, h, -⟩
  · exact Or.inl h
  · exact Or.inr ⟨_, by omega, h⟩
theorem begin_n {B : Nat} {a b c : Int32} : ∀ tx A v A2, Okk B A → T_begin a b c tx A v A2 → v = -1 ∨ ∃ n, n < 2147483648 ∧ v = nI n := by
  intro tx A v A2 hO h
  rcases h with ⟨-, h, -⟩ | ⟨p, h', k, -, -, -, -, -, -, h, -⟩
  · exact Or.inl h
  · refine Or.inr ⟨_, ?_, h⟩
    unfold bgA
    rw [up_s]
    split <;> omega
theorem step_n {B : Nat} : ∀ tx A v A2, Okk B A → T_step tx A v A2 → v = -1 ∨ ∃ n, n < 2147483648 ∧ v = nI n := by
  intro tx A v A2 hO h
  rcases h with ⟨-, h, -⟩ | ⟨e, h, -⟩
  · exact Or.inl h
  · refine Or.inr ⟨_, ?_, h⟩
    have q := (kpA_w hO).2.2.2.2.2.1
    have w := hO.2.2.2.1
    have w1 := (w.2.2 e).2.2
    have hn := (hO.2.1 _ w.2.1).2.1
    rw [stA_103]
    split <;> omega
theorem toe_n {B : Nat} : ∀ tx A v A2, Okk B A → T_toe tx A v A2 → v = -1 ∨ ∃ n, n < 2147483648 ∧ v = nI n := by
  intro tx A v A2 hO h
  rcases h with ⟨-, h, -⟩ | ⟨e, h, -⟩
  · exact Or.inl h
  · refine Or.inr ⟨_, ?_, h⟩
    have q := (kpA_w hO).2.2.2.2.2.1
    have w := hO.2.2.2.1
    have w1 := (w.2.2 e).2.2
    have hn := (hO.2.1 _ w.2.1).2.1
    rw [toA_103]
    split <;> omega
theorem stop_n {B : Nat} : ∀ tx A v A2, Okk B A → T_stop tx A v A2 → v = -1 ∨ ∃ n, n < 2147483648 ∧ v = nI n := by
  intro tx A v A2 hO h
  rcases h with ⟨-, h, -⟩ | ⟨-, -, h, -⟩ | ⟨-, -, h, -⟩
  · exact Or.inl h
  · exact Or.inr ⟨2, by omega, h⟩
  · exact Or.inr ⟨3, by omega, h⟩
theorem o_done (B s : Nat) (a b c : Int32) (hB : B + 1 ≤ 1000000) : TOk B (B + 1) (T_done s a b c) := by
  intro t A v A2 hO h
  have up1 : Okk B A2 ∧ A2 3 = A 3 → Okk (B + 1) A2 ∧ A2 3 = A 3 := fun q => ⟨q.1.mn (Nat.le_succ B) hB, q.2⟩
  unfold T_done at h
  split at h
  · exact up1 (o_stair B a b t A v A2 hO h)
  split at h
  · exact up1 (o_height B c b a t A v A2 hO h)
  split at h
  · exact up1 (o_turn B b a t A v A2 hO h)
  split at h
  · exact up1 (o_rail B b a t A v A2 hO h)
  split at h
  · exact up1 (o_dnT (o_person B a b c) t A v A2 hO h)
  split at h
  · exact up1 (o_dnT (o_beginT B a b 0) t A v A2 hO h)
  split at h
  · exact up1 (o_dnT (o_beginT B a b 1) t A v A2 hO h)
  split at h
  · exact up1 (o_dnT (o_beginT B a b 2) t A v A2 hO h)
  split at h
  · exact o_dnT (o_step B hB) t A v A2 hO h
  split at h
  · exact o_dnT (o_toe B hB) t A v A2 hO h
  split at h
  · exact o_dnT (o_stop B hB) t A v A2 hO h
  split at h
  · exact up1 (o_night1 B t A v A2 hO h)
  · obtain ⟨-, rfl⟩ := h
    exact up1 ⟨hO, rfl⟩
theorem m_turn (L B : Nat) (a b : Int32) : MSp L B (fun M φ => w_X11_isStep 70 a b M fun x60 M59 => iF (x60 = 0) (φ (0 : Int32) M59) (isO M59 70 11 ∧ w_X11_marksOf 70 a M59 fun x65 M61 => w_X11_has x65 b M61 fun x67 M66 => iF (x67 = 0) (j_X11_isPlayed_135 φ (1 : Int32) b a 70 M66) (j_X11_isPlayed_135 φ (0 : Int32) b a 70 M66))) (T_turn a b) := by
  intro M A A2 v φ hS hM hO hT hv hz
  obtain ⟨m1, m4⟩ := id hM
  have oH := hO.2.1
  have cn : 0 + 0 = 0 := rfl; have cm : 0 + 0 = 0 := rfl; have cr : 0 + 0 = 0 := rfl; have ct : 0 + 0 = 0 := rfl; have ch : 0 + 0 = 0 := rfl; have p1 : 0 + 0 = 0 := rfl; have p2 : 0 + 0 = 0 := rfl; have p3 : 0 + 0 = 0 := rfl; have s4 : 0 + 0 = 0 := rfl; have s5 : 0 + 0 = 0 := rfl; have s6 : 0 + 0 = 0 := rfl; have s9 : 0 + 0 = 0 := rfl; have s11 : 0 + 0 = 0 := rfl; have s14 : 0 + 0 = 0 := rfl; have s15 : 0 + 0 = 0 := rfl; have s17 : 0 + 0 = 0 := rfl; have cb : 0 + 0 = 0 := rfl; have cg : 0 + 0 = 0 := rfl; have f5 : 0 + 0 = 0 := rfl; have f6 : 0 + 0 = 0 := rfl; have t1 : 0 + 0 = 0 := rfl; have t2 : 0 + 0 = 0 := rfl; have e1 : 0 + 0 = 0 := rfl; have e2 : 0 + 0 = 0 := rfl; have e3 : 0 + 0 = 0 := rfl
  show w_X11_isStep 70 a b M _
  have no : (v = 0 ∧ A2 = A) → φ 0 M := fun q => by
    obtain ⟨rfl, rfl⟩ := q
    exact hz M Frm.rf hM
  have j : ∀ c : Int32, T_mark a b c (mI M 73) A v A2 → j_X11_isPlayed_135 φ c b a 70 M := fun c hc => by
    refine ⟨isO_pt hS (by decide) rfl, m_mark L B a b c M A A2 v _ hS hM hO hT hc fun M2 f2 hM2 => ?_⟩
    rcases T_mark_01 hc with e | e
    · subst e
      exact iF_t rfl (hz M2 f2 hM2)
    · subst e
      exact iF_f (by decide) (hz M2 f2 hM2)
  rcases Decidable.em (0 ≤ a.toInt ∧ a.toInt ≤ (3 : Nat)) with ha | ha
  · obtain ⟨h, hh, rfl⟩ := rgI ha.1 ha.2
    obtain ⟨h1, h2, h3, h4, h5⟩ := oH h (by omega)
    rcases Decidable.em (((1 : Nat) : Int) ≤ b.toInt ∧ b.toInt ≤ (A (10 + 18 * h) : Nat)) with hw | hw
    · obtain ⟨s, hs1, hs2, rfl⟩ := rgJ hw.1 hw.2
      unfold w_X11_isStep w_X11_isHouse w_X11_stepsOf w_X11_isIn
      repeat' (first | ((with_reducible refine c_fil_hh (L := L) ?_ ?_ ?_); (exact hS); omega) | ((with_reducible refine c_build (L := L) ?_ ?_ ?_); (exact hS); omega) | with_reducible refine nm_of ?_ | with_reducible refine st_of ?_ | ((with_reducible apply dR_of); first | exact Str.pg hS rfl | exact sp_hsx hS (by omega) | exact sp_hs hS (by omega) | exact sp_hh hS (by omega) | assumption | fail) | ((with_reducible refine And.intro ?_ ?_); first | exact isO_pt hS (by decide) rfl | exact inA_pt hS rfl (by (first | exact vp_lit (by decide) | (simp (disch := omega) only [lit32, Nat.add_sub_cancel, Nat.sub_zero, Nat.reduceSub, nI_add, nI_muL, nI_sub, ix_nI, mI_s, mI_n, mI_fs, mI_fn, mI_ci, mI_co, mI_si, mI_so, Nat.add_zero, up_n, up_s, cpA_i, cpA_o, shA_i, shA_o, fiA_i, fiA_o, imin_l, imin_r, nI_mod, nI_div, xr_e, cn, cm, cr, ct, ch, p1, p2, p3, s4, s5, s6, s9, s11, s14, s15, s17, cb, cg, m1, m4, f5, f6, t1, t2, e1, e2, e3]; first | done | exact vp_nI (by omega) (by decide)) | exact vp_nI (by omega) (by decide) | fail)) | omega | exact isO_hs hS (by omega) | exact inA_hh hS (by omega) (by (first | exact vp_lit (by decide) | (simp (disch := omega) only [lit32, Nat.add_sub_cancel, Nat.sub_zero, Nat.reduceSub, nI_add, nI_muL, nI_sub, ix_nI, mI_s, mI_n, mI_fs, mI_fn, mI_ci, mI_co, mI_si, mI_so, Nat.add_zero, up_n, up_s, cpA_i, cpA_o, shA_i, shA_o, fiA_i, fiA_o, imin_l, imin_r, nI_mod, nI_div, xr_e, cn, cm, cr, ct, ch, p1, p2, p3, s4, s5, s6, s9, s11, s14, s15, s17, cb, cg, m1, m4, f5, f6, t1, t2, e1, e2, e3]; first | done | exact vp_nI (by omega) (by decide)) | exact vp_nI (by omega) (by decide) | fail)) | exact isB1 | exact isB0 | assumption | fail) | ((with_reducible apply lenA_of); first | exact Str.sh hS _ _ rfl | exact ss_hh hS (by omega) | assumption | fail) | with_reducible refine gN_of rfl ?_ | with_reducible refine gN_no rfl ?_ | ((with_reducible refine iF_t ?_ ?_); focus ((try simp (disch := omega) only [lit32, Nat.add_sub_cancel, Nat.sub_zero, Nat.reduceSub, nI_add, nI_muL, nI_sub, ix_nI, mI_s, mI_n, mI_fs, mI_fn, mI_ci, mI_co, mI_si, mI_so, Nat.add_zero, up_n, up_s, cpA_i, cpA_o, shA_i, shA_o, fiA_i, fiA_o, imin_l, imin_r, nI_mod, nI_div, xr_e, cn, cm, cr, ct, ch, p1, p2, p3, s4, s5, s6, s9, s11, s14, s15, s17, cb, cg, m1, m4, f5, f6, t1, t2, e1, e2, e3, lt_toInt, le_toInt, eq_toInt, toInt_nI, tI_neg, bt_e, tI_sub, tI_subR, tI_subL]); first | done | omega)) | ((with_reducible refine iF_f ?_ ?_); focus ((try simp (disch := omega) only [lit32, Nat.add_sub_cancel, Nat.sub_zero, Nat.reduceSub, nI_add, nI_muL, nI_sub, ix_nI, mI_s, mI_n, mI_fs, mI_fn, mI_ci, mI_co, mI_si, mI_so, Nat.add_zero, up_n, up_s, cpA_i, cpA_o, shA_i, shA_o, fiA_i, fiA_o, imin_l, imin_r, nI_mod, nI_div, xr_e, cn, cm, cr, ct, ch, p1, p2, p3, s4, s5, s6, s9, s11, s14, s15, s17, cb, cg, m1, m4, f5, f6, t1, t2, e1, e2, e3, lt_toInt, le_toInt, eq_toInt, toInt_nI, tI_neg, bt_e, tI_sub, tI_subR, tI_subL]); first | done | omega)) | fail)
      unfold w_X11_marksOf
      repeat' (first | ((with_reducible refine c_fil_hh (L := L) ?_ ?_ ?_); (exact hS); omega) | ((with_reducible refine c_build (L := L) ?_ ?_ ?_); (exact hS); omega) | with_reducible refine nm_of ?_ | with_reducible refine st_of ?_ | ((with_reducible apply dR_of); first | exact Str.pg hS rfl | exact sp_hsx hS (by omega) | exact sp_hs hS (by omega) | exact sp_hh hS (by omega) | assumption | fail) | ((with_reducible refine And.intro ?_ ?_); first | exact isO_pt hS (by decide) rfl | exact inA_pt hS rfl (by (first | exact vp_lit (by decide) | (simp (disch := omega) only [lit32, Nat.add_sub_cancel, Nat.sub_zero, Nat.reduceSub, nI_add, nI_muL, nI_sub, ix_nI, mI_s, mI_n, mI_fs, mI_fn, mI_ci, mI_co, mI_si, mI_so, Nat.add_zero, up_n, up_s, cpA_i, cpA_o, shA_i, shA_o, fiA_i, fiA_o, imin_l, imin_r, nI_mod, nI_div, xr_e, cn, cm, cr, ct, ch, p1, p2, p3, s4, s5, s6, s9, s11, s14, s15, s17, cb, cg, m1, m4, f5, f6, t1, t2, e1, e2, e3]; first | done | exact vp_nI (by omega) (by decide)) | exact vp_nI (by omega) (by decide) | fail)) | omega | exact isO_hs hS (by omega) | exact inA_hh hS (by omega) (by (first | exact vp_lit (by decide) | (simp (disch := omega) only [lit32, Nat.add_sub_cancel, Nat.sub_zero, Nat.reduceSub, nI_add, nI_muL, nI_sub, ix_nI, mI_s, mI_n, mI_fs, mI_fn, mI_ci, mI_co, mI_si, mI_so, Nat.add_zero, up_n, up_s, cpA_i, cpA_o, shA_i, shA_o, fiA_i, fiA_o, imin_l, imin_r, nI_mod, nI_div, xr_e, cn, cm, cr, ct, ch, p1, p2, p3, s4, s5, s6, s9, s11, s14, s15, s17, cb, cg, m1, m4, f5, f6, t1, t2, e1, e2, e3]; first | done | exact vp_nI (by omega) (by decide)) | exact vp_nI (by omega) (by decide) | fail)) | exact isB1 | exact isB0 | assumption | fail) | ((with_reducible apply lenA_of); first | exact Str.sh hS _ _ rfl | exact ss_hh hS (by omega) | assumption | fail) | with_reducible refine gN_of rfl ?_ | with_reducible refine gN_no rfl ?_ | ((with_reducible refine iF_t ?_ ?_); focus ((try simp (disch := omega) only [lit32, Nat.add_sub_cancel, Nat.sub_zero, Nat.reduceSub, nI_add, nI_muL, nI_sub, ix_nI, mI_s, mI_n, mI_fs, mI_fn, mI_ci, mI_co, mI_si, mI_so, Nat.add_zero, up_n, up_s, cpA_i, cpA_o, shA_i, shA_o, fiA_i, fiA_o, imin_l, imin_r, nI_mod, nI_div, xr_e, cn, cm, cr, ct, ch, p1, p2, p3, s4, s5, s6, s9, s11, s14, s15, s17, cb, cg, m1, m4, f5, f6, t1, t2, e1, e2, e3, lt_toInt, le_toInt, eq_toInt, toInt_nI, tI_neg, bt_e, tI_sub, tI_subR, tI_subL]); first | done | omega)) | ((with_reducible refine iF_f ?_ ?_); focus ((try simp (disch := omega) only [lit32, Nat.add_sub_cancel, Nat.sub_zero, Nat.reduceSub, nI_add, nI_muL, nI_sub, ix_nI, mI_s, mI_n, mI_fs, mI_fn, mI_ci, mI_co, mI_si, mI_so, Nat.add_zero, up_n, up_s, cpA_i, cpA_o, shA_i, shA_o, fiA_i, fiA_o, imin_l, imin_r, nI_mod, nI_div, xr_e, cn, cm, cr, ct, ch, p1, p2, p3, s4, s5, s6, s9, s11, s14, s15, s17, cb, cg, m1, m4, f5, f6, t1, t2, e1, e2, e3, lt_toInt, le_toInt, eq_toInt, toInt_nI, tI_neg, bt_e, tI_sub, tI_subR, tI_subL]); first | done | omega)) | fail)
      (try (simp (disch := omega) only [lit32, Nat.add_sub_cancel, Nat.sub_zero, Nat.reduceSub, nI_add, nI_muL, nI_sub, ix_nI, mI_s, mI_n, mI_fs, mI_fn, mI_ci, mI_co, mI_si, mI_so, Nat.add_zero, up_n, up_s, cpA_i, cpA_o, shA_i, shA_o, fiA_i, fiA_o, imin_l, imin_r, nI_mod, nI_div, xr_e, cn, cm, cr, ct, ch, p1, p2, p3, s4, s5, s6, s9, s11, s14, s15, s17, cb, cg, m1, m4, f5, f6, t1, t2, e1, e2, e3]))
      unfold w_X11_has
      by_cases q : bt (A (10 + 18 * h + 1)) s = 1
      · have q2 : ((nI (A (10 + 18 * h + 1)) >>> (nI s &&& nI 31)) &&& nI 1) = nI 1 := Int32.toInt_inj.mp q
        refine iF_t q2 (iF_f (by decide) (j 0 ?_))
        rcases hv with ⟨-, hv⟩ | ⟨hk, -⟩
        · exact hv
        · exact absurd ⟨h, s, hh, rfl, rfl, hs1, hs2, q⟩ hk
      · have q2 : ¬ ((nI (A (10 + 18 * h + 1)) >>> (nI s &&& nI 31)) &&& nI 1) = nI 1 := fun c => q (congrArg Int32.toInt c)
        refine iF_f q2 (iF_t rfl (j 1 ?_))
        rcases hv with ⟨⟨h', s', g1, g2, g3, g4, g5, g6⟩, -⟩ | ⟨-, hv⟩
        · have e1 := nI_inj (by omega) (by omega) g2
          subst e1
          have e2 := nI_inj (by omega) (by omega) g3
          subst e2
          exact absurd g6 q
        · exact hv
    · have z : v = 0 ∧ A2 = A := by
        rcases hv with ⟨-, hv⟩ | ⟨-, hv⟩
        all_goals rcases hv with ⟨-, g1, g2⟩ | ⟨h', g0, e, ⟨-, g1, g2⟩ | ⟨s', g3, g4, g5, -⟩⟩
        all_goals first | exact ⟨g1, g2⟩ | (exfalso; have e1 := nI_inj (by omega) (by omega) e; subst e1; subst g5; rw [toInt_nI (by omega)] at hw; omega)
      unfold w_X11_isStep w_X11_isHouse w_X11_stepsOf w_X11_isIn
      repeat' (first | ((with_reducible refine c_fil_hh (L := L) ?_ ?_ ?_); (exact hS); omega) | ((with_reducible refine c_build (L := L) ?_ ?_ ?_); (exact hS); omega) | with_reducible refine nm_of ?_ | with_reducible refine st_of ?_ | ((with_reducible apply dR_of); first | exact Str.pg hS rfl | exact sp_hsx hS (by omega) | exact sp_hs hS (by omega) | exact sp_hh hS (by omega) | assumption | fail) | ((with_reducible refine And.intro ?_ ?_); first | exact isO_pt hS (by decide) rfl | exact inA_pt hS rfl (by (first | exact vp_lit (by decide) | (simp (disch := omega) only [lit32, Nat.add_sub_cancel, Nat.sub_zero, Nat.reduceSub, nI_add, nI_muL, nI_sub, ix_nI, mI_s, mI_n, mI_fs, mI_fn, mI_ci, mI_co, mI_si, mI_so, Nat.add_zero, up_n, up_s, cpA_i, cpA_o, shA_i, shA_o, fiA_i, fiA_o, imin_l, imin_r, nI_mod, nI_div, xr_e, cn, cm, cr, ct, ch, p1, p2, p3, s4, s5, s6, s9, s11, s14, s15, s17, cb, cg, m1, m4, f5, f6, t1, t2, e1, e2, e3]; first | done | exact vp_nI (by omega) (by decide)) | exact vp_nI (by omega) (by decide) | fail)) | omega | exact isO_hs hS (by omega) | exact inA_hh hS (by omega) (by (first | exact vp_lit (by decide) | (simp (disch := omega) only [lit32, Nat.add_sub_cancel, Nat.sub_zero, Nat.reduceSub, nI_add, nI_muL, nI_sub, ix_nI, mI_s, mI_n, mI_fs, mI_fn, mI_ci, mI_co, mI_si, mI_so, Nat.add_zero, up_n, up_s, cpA_i, cpA_o, shA_i, shA_o, fiA_i, fiA_o, imin_l, imin_r, nI_mod, nI_div, xr_e, cn, cm, cr, ct, ch, p1, p2, p3, s4, s5, s6, s9, s11, s14, s15, s17, cb, cg, m1, m4, f5, f6, t1, t2, e1, e2, e3]; first | done | exact vp_nI (by omega) (by decide)) | exact vp_nI (by omega) (by decide) | fail)) | exact isB1 | exact isB0 | assumption | fail) | ((with_reducible apply lenA_of); first | exact Str.sh hS _ _ rfl | exact ss_hh hS (by omega) | assumption | fail) | with_reducible refine gN_of rfl ?_ | with_reducible refine gN_no rfl ?_ | ((with_reducible refine iF_t ?_ ?_); focus ((try simp (disch := omega) only [lit32, Nat.add_sub_cancel, Nat.sub_zero, Nat.reduceSub, nI_add, nI_muL, nI_sub, ix_nI, mI_s, mI_n, mI_fs, mI_fn, mI_ci, mI_co, mI_si, mI_so, Nat.add_zero, up_n, up_s, cpA_i, cpA_o, shA_i, shA_o, fiA_i, fiA_o, imin_l, imin_r, nI_mod, nI_div, xr_e, cn, cm, cr, ct, ch, p1, p2, p3, s4, s5, s6, s9, s11, s14, s15, s17, cb, cg, m1, m4, f5, f6, t1, t2, e1, e2, e3, lt_toInt, le_toInt, eq_toInt, toInt_nI, tI_neg, bt_e, tI_sub, tI_subR, tI_subL]); first | done | omega)) | ((with_reducible refine iF_f ?_ ?_); focus ((try simp (disch := omega) only [lit32, Nat.add_sub_cancel, Nat.sub_zero, Nat.reduceSub, nI_add, nI_muL, nI_sub, ix_nI, mI_s, mI_n, mI_fs, mI_fn, mI_ci, mI_co, mI_si, mI_so, Nat.add_zero, up_n, up_s, cpA_i, cpA_o, shA_i, shA_o, fiA_i, fiA_o, imin_l, imin_r, nI_mod, nI_div, xr_e, cn, cm, cr, ct, ch, p1, p2, p3, s4, s5, s6, s9, s11, s14, s15, s17, cb, cg, m1, m4, f5, f6, t1, t2, e1, e2, e3, lt_toInt, le_toInt, eq_toInt, toInt_nI, tI_neg, bt_e, tI_sub, tI_subR, tI_subL]); first | done | omega)) | ((with_reducible refine iF_s (fun hc => ?_) (fun hc => ?_)) <;> (try simp (disch := omega) only [lit32, Nat.add_sub_cancel, Nat.sub_zero, Nat.reduceSub, nI_add, nI_muL, nI_sub, ix_nI, mI_s, mI_n, mI_fs, mI_fn, mI_ci, mI_co, mI_si, mI_so, Nat.add_zero, up_n, up_s, cpA_i, cpA_o, shA_i, shA_o, fiA_i, fiA_o, imin_l, imin_r, nI_mod, nI_div, xr_e, cn, cm, cr, ct, ch, p1, p2, p3, s4, s5, s6, s9, s11, s14, s15, s17, cb, cg, m1, m4, f5, f6, t1, t2, e1, e2, e3, lt_toInt, le_toInt, eq_toInt, toInt_nI, tI_neg, bt_e, tI_sub, tI_subR, tI_subL] at hc)) | fail)
      all_goals first | (exfalso; omega) | exact no z
  · have z : v = 0 ∧ A2 = A := by
      rcases hv with ⟨-, hv⟩ | ⟨-, hv⟩
      all_goals rcases hv with ⟨-, g1, g2⟩ | ⟨h', g0, e, -⟩
      all_goals first | exact ⟨g1, g2⟩ | (exfalso; subst e; rw [toInt_nI (by omega)] at ha; omega)
    unfold w_X11_isStep w_X11_isHouse w_X11_stepsOf w_X11_isIn
    repeat' (first | ((with_reducible refine c_fil_hh (L := L) ?_ ?_ ?_); (exact hS); omega) | ((with_reducible refine c_build (L := L) ?_ ?_ ?_); (exact hS); omega) | with_reducible refine nm_of ?_ | with_reducible refine st_of ?_ | ((with_reducible apply dR_of); first | exact Str.pg hS rfl | exact sp_hsx hS (by omega) | exact sp_hs hS (by omega) | exact sp_hh hS (by omega) | assumption | fail) | ((with_reducible refine And.intro ?_ ?_); first | exact isO_pt hS (by decide) rfl | exact inA_pt hS rfl (by (first | exact vp_lit (by decide) | (simp (disch := omega) only [lit32, Nat.add_sub_cancel, Nat.sub_zero, Nat.reduceSub, nI_add, nI_muL, nI_sub, ix_nI, mI_s, mI_n, mI_fs, mI_fn, mI_ci, mI_co, mI_si, mI_so, Nat.add_zero, up_n, up_s, cpA_i, cpA_o, shA_i, shA_o, fiA_i, fiA_o, imin_l, imin_r, nI_mod, nI_div, xr_e, cn, cm, cr, ct, ch, p1, p2, p3, s4, s5, s6, s9, s11, s14, s15, s17, cb, cg, m1, m4, f5, f6, t1, t2, e1, e2, e3]; first | done | exact vp_nI (by omega) (by decide)) | exact vp_nI (by omega) (by decide) | fail)) | omega | exact isO_hs hS (by omega) | exact inA_hh hS (by omega) (by (first | exact vp_lit (by decide) | (simp (disch := omega) only [lit32, Nat.add_sub_cancel, Nat.sub_zero, Nat.reduceSub, nI_add, nI_muL, nI_sub, ix_nI, mI_s, mI_n, mI_fs, mI_fn, mI_ci, mI_co, mI_si, mI_so, Nat.add_zero, up_n, up_s, cpA_i, cpA_o, shA_i, shA_o, fiA_i, fiA_o, imin_l, imin_r, nI_mod, nI_div, xr_e, cn, cm, cr, ct, ch, p1, p2, p3, s4, s5, s6, s9, s11, s14, s15, s17, cb, cg, m1, m4, f5, f6, t1, t2, e1, e2, e3]; first | done | exact vp_nI (by omega) (by decide)) | exact vp_nI (by omega) (by decide) | fail)) | exact isB1 | exact isB0 | assumption | fail) | ((with_reducible apply lenA_of); first | exact Str.sh hS _ _ rfl | exact ss_hh hS (by omega) | assumption | fail) | with_reducible refine gN_of rfl ?_ | with_reducible refine gN_no rfl ?_ | ((with_reducible refine iF_t ?_ ?_); focus ((try simp (disch := omega) only [lit32, Nat.add_sub_cancel, Nat.sub_zero, Nat.reduceSub, nI_add, nI_muL, nI_sub, ix_nI, mI_s, mI_n, mI_fs, mI_fn, mI_ci, mI_co, mI_si, mI_so, Nat.add_zero, up_n, up_s, cpA_i, cpA_o, shA_i, shA_o, fiA_i, fiA_o, imin_l, imin_r, nI_mod, nI_div, xr_e, cn, cm, cr, ct, ch, p1, p2, p3, s4, s5, s6, s9, s11, s14, s15, s17, cb, cg, m1, m4, f5, f6, t1, t2, e1, e2, e3, lt_toInt, le_toInt, eq_toInt, toInt_nI, tI_neg, bt_e, tI_sub, tI_subR, tI_subL]); first | done | omega)) | ((with_reducible refine iF_f ?_ ?_); focus ((try simp (disch := omega) only [lit32, Nat.add_sub_cancel, Nat.sub_zero, Nat.reduceSub, nI_add, nI_muL, nI_sub, ix_nI, mI_s, mI_n, mI_fs, mI_fn, mI_ci, mI_co, mI_si, mI_so, Nat.add_zero, up_n, up_s, cpA_i, cpA_o, shA_i, shA_o, fiA_i, fiA_o, imin_l, imin_r, nI_mod, nI_div, xr_e, cn, cm, cr, ct, ch, p1, p2, p3, s4, s5, s6, s9, s11, s14, s15, s17, cb, cg, m1, m4, f5, f6, t1, t2, e1, e2, e3, lt_toInt, le_toInt, eq_toInt, toInt_nI, tI_neg, bt_e, tI_sub, tI_subR, tI_subL]); first | done | omega)) | ((with_reducible refine iF_s (fun hc => ?_) (fun hc => ?_)) <;> (try simp (disch := omega) only [lit32, Nat.add_sub_cancel, Nat.sub_zero, Nat.reduceSub, nI_add, nI_muL, nI_sub, ix_nI, mI_s, mI_n, mI_fs, mI_fn, mI_ci, mI_co, mI_si, mI_so, Nat.add_zero, up_n, up_s, cpA_i, cpA_o, shA_i, shA_o, fiA_i, fiA_o, imin_l, imin_r, nI_mod, nI_div, xr_e, cn, cm, cr, ct, ch, p1, p2, p3, s4, s5, s6, s9, s11, s14, s15, s17, cb, cg, m1, m4, f5, f6, t1, t2, e1, e2, e3, lt_toInt, le_toInt, eq_toInt, toInt_nI, tI_neg, bt_e, tI_sub, tI_subR, tI_subL] at hc)) | fail)
    all_goals first | (exfalso; omega) | exact no z
theorem c_turn (L B : Nat) (a b : Int32) : CSp L B (fun M φ => w_X5_turnMark 10 a b M φ) (T_turn a b) := by
  intro M A nx φ hS hC hO hT hz
  obtain ⟨cn, cm, -⟩ := hC.f
  have oH := hO.2.1
  show w_X5_turnMark 10 a b M φ
  refine ⟨isO_pt hS (by decide) rfl, ?_⟩
  rcases Decidable.em (0 ≤ a.toInt ∧ a.toInt ≤ (3 : Nat)) with ha | ha
  · obtain ⟨h, hh, rfl⟩ := rgI ha.1 ha.2
    obtain ⟨h1, h2, h3, h4, h5⟩ := oH h (by omega)
    have h4' : h < 4 := by omega
    refine c_hO10 hS h4' (gN_of rfl ⟨isO_hs hS h4', ?_⟩)
    have j : ∀ c : Int32, (c.toInt = 0 ∨ c.toInt = 1) → (∀ v A2, T_mark (nI h) b c (mI M 73) A v A2 → T_turn (nI h) b (mI M 73) A v A2) → j_X5_turnMark_26 φ c b (nI h) 10 M := fun c hc hw => by
      refine ⟨isO_pt hS (by decide) rfl, c_mark L B (nI h) b c hc M A nx _ hS hC hO hT fun v A2 nx2 M2 t f2 hC2 => ?_⟩
      rcases T_mark_01 t with e | e
      · subst e
        exact iF_t rfl (hz 0 A2 nx2 M2 (hw 0 A2 t) f2 hC2)
      · subst e
        exact iF_f (by decide) (hz 1 A2 nx2 M2 (hw 1 A2 t) f2 hC2)
    have j0 : KT A (nI h) b → j_X5_turnMark_26 φ 0 b (nI h) 10 M := fun q => j 0 (Or.inl rfl) fun v A2 t => Or.inl ⟨q, t⟩
    have j1 : ¬ KT A (nI h) b → j_X5_turnMark_26 φ 1 b (nI h) 10 M := fun q => j 1 (Or.inr rfl) fun v A2 t => Or.inr ⟨q, t⟩
    have un : ¬ (((1 : Nat) : Int) ≤ b.toInt ∧ b.toInt ≤ (A (10 + 18 * h) : Nat)) → ¬ KT A (nI h) b := fun q k => by
      obtain ⟨h', s', g1, g2, g3, g4, g5, g6⟩ := k
      have e1 := nI_inj (by omega) (by omega) g2
      subst e1
      subst g3
      rw [toInt_nI (by omega)] at q
      omega
    refine ⟨isO_hs hS h4', ?_⟩
    rcases Decidable.em (((1 : Nat) : Int) ≤ b.toInt ∧ b.toInt ≤ (A (10 + 18 * h) : Nat)) with hw | hw
    · obtain ⟨s, hs1, hs2, rfl⟩ := rgJ hw.1 hw.2
      refine iF_f (fun c => absurd ((nIlt (a := s) (b := 1) (by omega) (by omega)).mp c) (by omega)) ⟨isO_hs hS h4', iF_f (fun c => ?_) (iF_f (by decide) ⟨isO_hs hS h4', ?_⟩)⟩
      · rw [cn _ h4'] at c
        exact absurd ((nIlt (by omega) (by omega)).mp c) (by omega)
      rw [cm _ h4']
      by_cases q : bt (A (10 + 18 * h + 1)) s = 1
      · exact iF_t (Int32.toInt_inj.mp q) (iF_f (by decide) (j0 ⟨h, s, hh, rfl, rfl, hs1, hs2, q⟩))
      · refine iF_f (fun c => q (congrArg Int32.toInt c)) (iF_t rfl (j1 fun k => ?_))
        obtain ⟨h', s', g1, g2, g3, g4, g5, g6⟩ := k
        have e1 := nI_inj (by omega) (by omega) g2
        subst e1
        have e2 := nI_inj (by omega) (by omega) g3
        subst e2
        exact q g6
    · have q := un hw
      refine iF_s (fun c => iF_t rfl (iF_t rfl (j1 q))) (fun c => ⟨isO_hs hS h4', iF_s (fun c2 => iF_t rfl (iF_t rfl (j1 q))) (fun c2 => ?_)⟩)
      exfalso
      rw [cn _ h4', lt_toInt, toInt_nI (by omega)] at c2
      rw [lt_toInt, show (1 : Int32).toInt = 1 from rfl] at c
      omega
  · have z : T_turn a b (mI M 73) A 0 A := by
      refine Or.inr ⟨fun k => ?_, Or.inl ⟨ha, rfl, rfl⟩⟩
      obtain ⟨h', s', g1, g2, -⟩ := k
      subst g2
      rw [toInt_nI (by omega)] at ha
      omega
    have cr : 0 + 0 = 0 := rfl; have ct : 0 + 0 = 0 := rfl; have ch : 0 + 0 = 0 := rfl; have p1 : 0 + 0 = 0 := rfl; have p2 : 0 + 0 = 0 := rfl; have p3 : 0 + 0 = 0 := rfl; have s4 : 0 + 0 = 0 := rfl; have s5 : 0 + 0 = 0 := rfl; have s6 : 0 + 0 = 0 := rfl; have s9 : 0 + 0 = 0 := rfl; have s11 : 0 + 0 = 0 := rfl; have s14 : 0 + 0 = 0 := rfl; have s15 : 0 + 0 = 0 := rfl; have s17 : 0 + 0 = 0 := rfl; have cb : 0 + 0 = 0 := rfl; have cg : 0 + 0 = 0 := rfl; have m1 : 0 + 0 = 0 := rfl; have m4 : 0 + 0 = 0 := rfl; have f5 : 0 + 0 = 0 := rfl; have f6 : 0 + 0 = 0 := rfl; have t1 : 0 + 0 = 0 := rfl; have t2 : 0 + 0 = 0 := rfl; have e1 : 0 + 0 = 0 := rfl; have e2 : 0 + 0 = 0 := rfl; have e3 : 0 + 0 = 0 := rfl
    unfold w_X5_houseOf
    repeat' (first | ((with_reducible refine c_fil_hh (L := L) ?_ ?_ ?_); (exact hS); omega) | ((with_reducible refine c_build (L := L) ?_ ?_ ?_); (exact hS); omega) | with_reducible refine nm_of ?_ | with_reducible refine st_of ?_ | ((with_reducible apply dR_of); first | exact Str.pg hS rfl | exact sp_hsx hS (by omega) | exact sp_hs hS (by omega) | exact sp_hh hS (by omega) | assumption | fail) | ((with_reducible refine And.intro ?_ ?_); first | exact isO_pt hS (by decide) rfl | exact inA_pt hS rfl (by (first | exact vp_lit (by decide) | (simp (disch := omega) only [lit32, Nat.add_sub_cancel, Nat.sub_zero, Nat.reduceSub, nI_add, nI_muL, nI_sub, ix_nI, mI_s, mI_n, mI_fs, mI_fn, mI_ci, mI_co, mI_si, mI_so, Nat.add_zero, up_n, up_s, cpA_i, cpA_o, shA_i, shA_o, fiA_i, fiA_o, imin_l, imin_r, nI_mod, nI_div, xr_e, cn, cm, cr, ct, ch, p1, p2, p3, s4, s5, s6, s9, s11, s14, s15, s17, cb, cg, m1, m4, f5, f6, t1, t2, e1, e2, e3]; first | done | exact vp_nI (by omega) (by decide)) | exact vp_nI (by omega) (by decide) | fail)) | omega | exact isO_hs hS (by omega) | exact inA_hh hS (by omega) (by (first | exact vp_lit (by decide) | (simp (disch := omega) only [lit32, Nat.add_sub_cancel, Nat.sub_zero, Nat.reduceSub, nI_add, nI_muL, nI_sub, ix_nI, mI_s, mI_n, mI_fs, mI_fn, mI_ci, mI_co, mI_si, mI_so, Nat.add_zero, up_n, up_s, cpA_i, cpA_o, shA_i, shA_o, fiA_i, fiA_o, imin_l, imin_r, nI_mod, nI_div, xr_e, cn, cm, cr, ct, ch, p1, p2, p3, s4, s5, s6, s9, s11, s14, s15, s17, cb, cg, m1, m4, f5, f6, t1, t2, e1, e2, e3]; first | done | exact vp_nI (by omega) (by decide)) | exact vp_nI (by omega) (by decide) | fail)) | exact isB1 | exact isB0 | assumption | fail) | ((with_reducible apply lenA_of); first | exact Str.sh hS _ _ rfl | exact ss_hh hS (by omega) | assumption | fail) | with_reducible refine gN_of rfl ?_ | with_reducible refine gN_no rfl ?_ | ((with_reducible refine iF_t ?_ ?_); focus ((try simp (disch := omega) only [lit32, Nat.add_sub_cancel, Nat.sub_zero, Nat.reduceSub, nI_add, nI_muL, nI_sub, ix_nI, mI_s, mI_n, mI_fs, mI_fn, mI_ci, mI_co, mI_si, mI_so, Nat.add_zero, up_n, up_s, cpA_i, cpA_o, shA_i, shA_o, fiA_i, fiA_o, imin_l, imin_r, nI_mod, nI_div, xr_e, cn, cm, cr, ct, ch, p1, p2, p3, s4, s5, s6, s9, s11, s14, s15, s17, cb, cg, m1, m4, f5, f6, t1, t2, e1, e2, e3, lt_toInt, le_toInt, eq_toInt, toInt_nI, tI_neg, bt_e, tI_sub, tI_subR, tI_subL]); first | done | omega)) | ((with_reducible refine iF_f ?_ ?_); focus ((try simp (disch := omega) only [lit32, Nat.add_sub_cancel, Nat.sub_zero, Nat.reduceSub, nI_add, nI_muL, nI_sub, ix_nI, mI_s, mI_n, mI_fs, mI_fn, mI_ci, mI_co, mI_si, mI_so, Nat.add_zero, up_n, up_s, cpA_i, cpA_o, shA_i, shA_o, fiA_i, fiA_o, imin_l, imin_r, nI_mod, nI_div, xr_e, cn, cm, cr, ct, ch, p1, p2, p3, s4, s5, s6, s9, s11, s14, s15, s17, cb, cg, m1, m4, f5, f6, t1, t2, e1, e2, e3, lt_toInt, le_toInt, eq_toInt, toInt_nI, tI_neg, bt_e, tI_sub, tI_subR, tI_subL]); first | done | omega)) | ((with_reducible refine iF_s (fun hc => ?_) (fun hc => ?_)) <;> (try simp (disch := omega) only [lit32, Nat.add_sub_cancel, Nat.sub_zero, Nat.reduceSub, nI_add, nI_muL, nI_sub, ix_nI, mI_s, mI_n, mI_fs, mI_fn, mI_ci, mI_co, mI_si, mI_so, Nat.add_zero, up_n, up_s, cpA_i, cpA_o, shA_i, shA_o, fiA_i, fiA_o, imin_l, imin_r, nI_mod, nI_div, xr_e, cn, cm, cr, ct, ch, p1, p2, p3, s4, s5, s6, s9, s11, s14, s15, s17, cb, cg, m1, m4, f5, f6, t1, t2, e1, e2, e3, lt_toInt, le_toInt, eq_toInt, toInt_nI, tI_neg, bt_e, tI_sub, tI_subR, tI_subL] at hc)) | fail)
    all_goals first | (exfalso; omega) | exact hz 0 A nx M z Frm.rf hC
