/-! ===== TEXT: words that the model spells; marks, comparisons, pushes ===== -/
theorem w3_c {a b c : Int32} {v : Int64} {M : fM} {φ : Int64 → fM → Prop} (h : w_X11_w3 a b c M fun y _ => y = v) (hz : φ v M) : w_X11_w3 a b c M φ := Eq.subst (motive := fun z => φ z M) (Eq.symm h) hz
theorem w4_c {a b c d : Int32} {v : Int64} {M : fM} {φ : Int64 → fM → Prop} (h : w_X11_w4 a b c d M fun y _ => y = v) (hz : φ v M) : w_X11_w4 a b c d M φ := Eq.subst (motive := fun z => φ z M) (Eq.symm h) hz
theorem w5_c {a b c d e : Int32} {v : Int64} {M : fM} {φ : Int64 → fM → Prop} (h : w_X11_w5 a b c d e M fun y _ => y = v) (hz : φ v M) : w_X11_w5 a b c d e M φ := Eq.subst (motive := fun z => φ z M) (Eq.symm h) hz
theorem w6_c {a b c d e f : Int32} {v : Int64} {M : fM} {φ : Int64 → fM → Prop} (h : w_X11_w6 a b c d e f M fun y _ => y = v) (hz : φ v M) : w_X11_w6 a b c d e f M φ := Eq.subst (motive := fun z => φ z M) (Eq.symm h) hz
theorem wd_0 {M : fM} {φ : Int64 → fM → Prop} (hz : φ (jN (pkW 0)) M) : w_X11_w4 (110 : Int32) (111 : Int32) (110 : Int32) (101 : Int32) M φ := w4_c (by show (_ : Int64) = _; decide +kernel) hz
theorem wd_1 {M : fM} {φ : Int64 → fM → Prop} (hz : φ (jN (pkW 1)) M) : w_X11_w5 (116 : Int32) (119 : Int32) (105 : Int32) (99 : Int32) (101 : Int32) M φ := w5_c (by show (_ : Int64) = _; decide +kernel) hz
theorem wd_2 {M : fM} {φ : Int64 → fM → Prop} (hz : φ (jN (pkW 2)) M) : w_X11_w5 (116 : Int32) (114 : Int32) (105 : Int32) (112 : Int32) (115 : Int32) M φ := w5_c (by show (_ : Int64) = _; decide +kernel) hz
theorem wd_3 {M : fM} {φ : Int64 → fM → Prop} (hz : φ (jN (pkW 3)) M) : w_X11_w3 (106 : Int32) (97 : Int32) (114 : Int32) M φ := w3_c (by show (_ : Int64) = _; decide +kernel) hz
theorem wd_4 {M : fM} {φ : Int64 → fM → Prop} (hz : φ (jN (pkW 4)) M) : w_X11_w4 (102 : Int32) (97 : Int32) (108 : Int32) (108 : Int32) M φ := w4_c (by show (_ : Int64) = _; decide +kernel) hz
theorem wd_5 {M : fM} {φ : Int64 → fM → Prop} (hz : φ (jN (pkW 5)) M) : w_X11_w5 (115 : Int32) (116 : Int32) (97 : Int32) (105 : Int32) (114 : Int32) M φ := w5_c (by show (_ : Int64) = _; decide +kernel) hz
theorem wd_6 {M : fM} {φ : Int64 → fM → Prop} (hz : φ (jN (pkW 6)) M) : w_X11_w4 (104 : Int32) (105 : Int32) (103 : Int32) (104 : Int32) M φ := w4_c (by show (_ : Int64) = _; decide +kernel) hz
theorem wd_7 {M : fM} {φ : Int64 → fM → Prop} (hz : φ (jN (pkW 7)) M) : w_X11_w4 (109 : Int32) (97 : Int32) (114 : Int32) (107 : Int32) M φ := w4_c (by show (_ : Int64) = _; decide +kernel) hz
theorem wd_8 {M : fM} {φ : Int64 → fM → Prop} (hz : φ (jN (pkW 8)) M) : w_X11_w4 (114 : Int32) (97 : Int32) (105 : Int32) (108 : Int32) M φ := w4_c (by show (_ : Int64) = _; decide +kernel) hz
theorem wd_9 {M : fM} {φ : Int64 → fM → Prop} (hz : φ (jN (pkW 9)) M) : w_X11_w3 (111 : Int32) (110 : Int32) (101 : Int32) M φ := w3_c (by show (_ : Int64) = _; decide +kernel) hz
theorem wd_10 {M : fM} {φ : Int64 → fM → Prop} (hz : φ (jN (pkW 10)) M) : w_X11_w5 (98 : Int32) (101 : Int32) (103 : Int32) (105 : Int32) (110 : Int32) M φ := w5_c (by show (_ : Int64) = _; decide +kernel) hz
theorem wd_11 {M : fM} {φ : Int64 → fM → Prop} (hz : φ (jN (pkW 11)) M) : w_X11_w4 (108 : Int32) (111 : Int32) (97 : Int32) (100 : Int32) M φ := w4_c (by show (_ : Int64) = _; decide +kernel) hz
theorem wd_12 {M : fM} {φ : Int64 → fM → Prop} (hz : φ (jN (pkW 12)) M) : w_X11_w5 (100 : Int32) (114 : Int32) (105 : Int32) (110 : Int32) (107 : Int32) M φ := w5_c (by show (_ : Int64) = _; decide +kernel) hz
theorem wd_13 {M : fM} {φ : Int64 → fM → Prop} (hz : φ (jN (pkW 13)) M) : w_X11_w4 (115 : Int32) (116 : Int32) (101 : Int32) (112 : Int32) M φ := w4_c (by show (_ : Int64) = _; decide +kernel) hz
theorem wd_14 {M : fM} {φ : Int64 → fM → Prop} (hz : φ (jN (pkW 14)) M) : w_X11_w3 (116 : Int32) (111 : Int32) (101 : Int32) M φ := w3_c (by show (_ : Int64) = _; decide +kernel) hz
theorem wd_15 {M : fM} {φ : Int64 → fM → Prop} (hz : φ (jN (pkW 15)) M) : w_X11_w4 (115 : Int32) (116 : Int32) (111 : Int32) (112 : Int32) M φ := w4_c (by show (_ : Int64) = _; decide +kernel) hz
theorem wd_16 {M : fM} {φ : Int64 → fM → Prop} (hz : φ (jN (pkW 16)) M) : w_X11_w5 (110 : Int32) (105 : Int32) (103 : Int32) (104 : Int32) (116 : Int32) M φ := w5_c (by show (_ : Int64) = _; decide +kernel) hz
theorem wd_17 {M : fM} {φ : Int64 → fM → Prop} (hz : φ (jN (pkW 17)) M) : w_X11_w4 (108 : Int32) (111 : Int32) (110 : Int32) (103 : Int32) M φ := w4_c (by show (_ : Int64) = _; decide +kernel) hz
theorem wd_22 {M : fM} {φ : Int64 → fM → Prop} (hz : φ (jN (pkW 22)) M) : w_X11_w3 (101 : Int32) (110 : Int32) (100 : Int32) M φ := w3_c (by show (_ : Int64) = _; decide +kernel) hz
theorem wd_23 {M : fM} {φ : Int64 → fM → Prop} (hz : φ (jN (pkW 23)) M) : w_X11_w3 (110 : Int32) (111 : Int32) (116 : Int32) M φ := w3_c (by show (_ : Int64) = _; decide +kernel) hz
theorem wd_25 {M : fM} {φ : Int64 → fM → Prop} (hz : φ (jN (pkW 25)) M) : w_X11_w3 (97 : Int32) (110 : Int32) (100 : Int32) M φ := w3_c (by show (_ : Int64) = _; decide +kernel) hz
theorem wd_26 {M : fM} {φ : Int64 → fM → Prop} (hz : φ (jN (pkW 26)) M) : w_X11_w3 (119 : Int32) (104 : Int32) (111 : Int32) M φ := w3_c (by show (_ : Int64) = _; decide +kernel) hz
theorem wd_27 {M : fM} {φ : Int64 → fM → Prop} (hz : φ (jN (pkW 27)) M) : w_X11_w5 (104 : Int32) (111 : Int32) (117 : Int32) (115 : Int32) (101 : Int32) M φ := w5_c (by show (_ : Int64) = _; decide +kernel) hz
theorem wd_28 {M : fM} {φ : Int64 → fM → Prop} (hz : φ (jN (pkW 28)) M) : w_X11_w5 (115 : Int32) (116 : Int32) (101 : Int32) (112 : Int32) (115 : Int32) M φ := w5_c (by show (_ : Int64) = _; decide +kernel) hz
theorem wd_29 {M : fM} {φ : Int64 → fM → Prop} (hz : φ (jN (pkW 29)) M) : w_X11_w5 (100 : Int32) (114 : Int32) (117 : Int32) (110 : Int32) (107 : Int32) M φ := w5_c (by show (_ : Int64) = _; decide +kernel) hz
theorem wd_30 {M : fM} {φ : Int64 → fM → Prop} (hz : φ (jN (pkW 30)) M) : w_X11_w6 (108 : Int32) (111 : Int32) (97 : Int32) (100 : Int32) (101 : Int32) (100 : Int32) M φ := w6_c (by show (_ : Int64) = _; decide +kernel) hz
theorem wd_31 {M : fM} {φ : Int64 → fM → Prop} (hz : φ (jN (pkW 31)) M) : w_X11_w6 (110 : Int32) (105 : Int32) (103 : Int32) (104 : Int32) (116 : Int32) (115 : Int32) M φ := w6_c (by show (_ : Int64) = _; decide +kernel) hz
theorem wd_32 {M : fM} {φ : Int64 → fM → Prop} (hz : φ (jN (pkW 32)) M) : w_X11_w3 (110 : Int32) (116 : Int32) (104 : Int32) M φ := w3_c (by show (_ : Int64) = _; decide +kernel) hz
theorem wd_33 {M : fM} {φ : Int64 → fM → Prop} (hz : φ (jN (pkW 33)) M) : w_X11_w6 (104 : Int32) (101 : Int32) (105 : Int32) (103 : Int32) (104 : Int32) (116 : Int32) M φ := w6_c (by show (_ : Int64) = _; decide +kernel) hz
theorem wd_34 {M : fM} {φ : Int64 → fM → Prop} (hz : φ (jN (pkW 34)) M) : w_X11_w4 (108 : Int32) (97 : Int32) (115 : Int32) (116 : Int32) M φ := w4_c (by show (_ : Int64) = _; decide +kernel) hz
theorem TS.c {M : fM} {tp : Nat → Nat} {tl i s : Nat} {c : Int32} (ts : TS M tp tl i) (a1 : 40 ≤ s) (a2 : s ≤ 54) (hc : nI (sgC s) = c) : mI M 70 9 = c ↔ TKk tp tl i = s := by
  rw [← hc]
  exact ts.s a1 a2
/-- the name of a TOKEN, as the model says it -/
def nmR (t : Nat) : Int32 := if nmN t < 99 then nI (nmN t) else -1
theorem nmR_n {t : Nat} (h : nmN t = 99) : nmR t = -1 := by
  unfold nmR
  rw [h]
  rfl
theorem m_nmOf {L tl i : Nat} {tp : Nat → Nat} {M : fM} {φ : Int32 → fM → Prop} (hS : Str L M) (ts : TS M tp tl i) (h : φ (nmR (TKk tp tl i)) M) : w_X11_nameOf 70 M φ := by
  have kb : TKk tp tl i ≤ 62 := tkK_b _ _ _
  refine ⟨isO_pt hS (by decide) rfl, ?_⟩
  by_cases h2 : mI M 70 9 = 2
  · refine iF_t h2 ?_
    refine wd_26 ?_
    by_cases z26 : TKk tp tl i = 26
    · rw [z26] at h
      exact iF_t ((m_wdN ts (by omega) h2).mpr z26) h
    refine iF_f (fun c => z26 ((m_wdN ts (by omega) h2).mp c)) ⟨isO_pt hS (by decide) rfl, ?_⟩
    refine wd_27 ?_
    by_cases z27 : TKk tp tl i = 27
    · rw [z27] at h
      exact iF_t ((m_wdN ts (by omega) h2).mpr z27) h
    refine iF_f (fun c => z27 ((m_wdN ts (by omega) h2).mp c)) ⟨isO_pt hS (by decide) rfl, ?_⟩
    refine wd_28 ?_
    by_cases z28 : TKk tp tl i = 28
    · rw [z28] at h
      exact iF_t ((m_wdN ts (by omega) h2).mpr z28) h
    refine iF_f (fun c => z28 ((m_wdN ts (by omega) h2).mp c)) ⟨isO_pt hS (by decide) rfl, ?_⟩
    refine wd_29 ?_
    by_cases z29 : TKk tp tl i = 29
    · rw [z29] at h
      exact iF_t ((m_wdN ts (by omega) h2).mpr z29) h
    refine iF_f (fun c => z29 ((m_wdN ts (by omega) h2).mp c)) ⟨isO_pt hS (by decide) rfl, ?_⟩
    refine wd_30 ?_
    by_cases z30 : TKk tp tl i = 30
    · rw [z30] at h
      exact iF_t ((m_wdN ts (by omega) h2).mpr z30) h
    refine iF_f (fun c => z30 ((m_wdN ts (by omega) h2).mp c)) ⟨isO_pt hS (by decide) rfl, ?_⟩
    refine wd_31 ?_
    by_cases z31 : TKk tp tl i = 31
    · rw [z31] at h
      exact iF_t ((m_wdN ts (by omega) h2).mpr z31) h
    refine iF_f (fun c => z31 ((m_wdN ts (by omega) h2).mp c)) ⟨isO_pt hS (by decide) rfl, ?_⟩
    refine wd_32 ?_
    by_cases z32 : TKk tp tl i = 32
    · rw [z32] at h
      exact iF_t ((m_wdN ts (by omega) h2).mpr z32) h
    refine iF_f (fun c => z32 ((m_wdN ts (by omega) h2).mp c)) ⟨isO_pt hS (by decide) rfl, ?_⟩
    refine wd_33 ?_
    by_cases z33 : TKk tp tl i = 33
    · rw [z33] at h
      exact iF_t ((m_wdN ts (by omega) h2).mpr z33) h
    refine iF_f (fun c => z33 ((m_wdN ts (by omega) h2).mp c)) ⟨isO_pt hS (by decide) rfl, ?_⟩
    refine wd_34 ?_
    by_cases z34 : TKk tp tl i = 34
    · rw [z34] at h
      exact iF_t ((m_wdN ts (by omega) h2).mpr z34) h
    refine iF_f (fun c => z34 ((m_wdN ts (by omega) h2).mp c)) ⟨isO_pt hS (by decide) rfl, ?_⟩
    refine wd_8 ?_
    by_cases z8 : TKk tp tl i = 8
    · rw [z8] at h
      exact iF_t ((m_wdN ts (by omega) h2).mpr z8) h
    refine iF_f (fun c => z8 ((m_wdN ts (by omega) h2).mp c)) ?_
    rcases nmN_c kb with e | e | e
    · omega
    · omega
    · rw [nmR_n e.2.2] at h
      exact h
  · refine iF_f h2 ?_
    have := ts.w.2 h2
    rcases nmN_c kb with e | e | e
    · omega
    · omega
    · rw [nmR_n e.2.2] at h
      exact h
/-- the topmost mark: 0, or one more than where it lies -/
def mkI : List Nat → Nat
  | [] => 0
  | o :: P => if 40 ≤ o then P.length + 1 else mkI P
theorem mkI_le : ∀ P : List Nat, mkI P ≤ P.length
  | [] => Nat.le_refl _
  | o :: P => by
    have := mkI_le P
    show (if 40 ≤ o then P.length + 1 else mkI P) ≤ P.length + 1
    split <;> omega
theorem mkI_0 {d : Nat} : ∀ {P : List Nat}, mkI P = 0 → mkK d P = d
  | [], _ => rfl
  | o :: P, h => by
    have h : (if 40 ≤ o then P.length + 1 else mkI P) = 0 := h
    show (if 40 ≤ o then o else mkK d P) = d
    by_cases e : 40 ≤ o
    · rw [if_pos e] at h
      omega
    · rw [if_neg e] at h ⊢
      exact mkI_0 h
theorem mkI_p {d : Nat} {M : fM} : ∀ {P : List Nat}, Pil M P → mkI P ≠ 0 → mI M 75 (mkI P - 1) = nI (mkK d P) ∧ 40 ≤ mkK d P ∧ mkK d P ≤ 43
  | [], _, h => absurd rfl h
  | o :: P, hp, h => by
    have h : (if 40 ≤ o then P.length + 1 else mkI P) ≠ 0 := h
    show mI M 75 ((if 40 ≤ o then P.length + 1 else mkI P) - 1) = nI (if 40 ≤ o then o else mkK d P) ∧ 40 ≤ (if 40 ≤ o then o else mkK d P) ∧ (if 40 ≤ o then o else mkK d P) ≤ 43
    by_cases e : 40 ≤ o
    · rw [if_pos e, if_pos e]
      exact ⟨hp.1, e, hp.2.1⟩
    · rw [if_neg e] at h
      rw [if_neg e, if_neg e]
      exact mkI_p hp.2.2 h
theorem mkI_k : ∀ {P : List Nat}, mkI P ≠ 0 → mkK 99 P ≠ 99 → ∀ E, ∃ R E2, stl 1 P E = (mkK 99 P :: R, E2) ∧ R.length = mkI P - 1
  | [], h, _, _ => absurd rfl h
  | o :: P, h, h9, E => by
    have h : (if 40 ≤ o then P.length + 1 else mkI P) ≠ 0 := h
    have h9 : (if 40 ≤ o then o else mkK 99 P) ≠ 99 := h9
    show ∃ R E2, (if 1 ≤ rk o then stl 1 P (E ++ [(o, 0)]) else (o :: P, E)) = ((if 40 ≤ o then o else mkK 99 P) :: R, E2) ∧ R.length = (if 40 ≤ o then P.length + 1 else mkI P) - 1
    by_cases e : 40 ≤ o
    · have r0 : rk o = 0 := if_pos e
      rw [if_pos e, if_pos e, if_neg (by omega)]
      exact ⟨P, E, rfl, rfl⟩
    · rw [if_neg e] at h h9
      have r1 : 1 ≤ rk o := by
        unfold rk
        rw [if_neg e]
        repeat' split
        all_goals omega
      rw [if_neg e, if_neg e, if_pos r1]
      exact mkI_k h h9 _
theorem nI_m1 {n : Nat} (h : n ≠ 0) : nI n - (1 : Int32) = nI (n - 1) := nI_sub (b := 1) (by omega)
theorem nI_s1 (n : Nat) : nI (n + 1) - (1 : Int32) = nI n := (nI_sub (b := 1) (by omega)).trans (congrArg nI (Nat.add_sub_cancel ..))
theorem nI_a1 (n : Nat) : nI n + (-1 : Int32) = nI n - 1 := (Int32.sub_eq_add_neg _ _).symm
theorem m_mark_l {L : Nat} {φ : Int32 → fM → Prop} {M : fM} (hS : Str L M) : ∀ (P : List Nat), Pil M P → P.length ≤ 150 → φ (nI (mkI P) - 1) M → l_X11_marker_7 φ (P.length + 1) 70 (nI P.length - 1) M
  | [], _, _, h => iF_t (by decide) h
  | o :: P, hp, hl, h => by
    have ih := m_mark_l (L := L) (φ := φ) hS P hp.2.2 (by have : P.length + 1 ≤ 150 := hl; omega)
    have hl : P.length + 1 ≤ 150 := hl
    show b_X11_marker_7 (l_X11_marker_7 φ (P.length + 1)) φ 70 (nI (P.length + 1) - 1) M
    generalize hK : l_X11_marker_7 φ (P.length + 1) = K at ih ⊢
    have h : φ (nI (if 40 ≤ o then P.length + 1 else mkI P) - 1) M := h
    rw [nI_s1]
    refine iF_f (fun c => absurd ((nIlt (b := 0) (by omega) (by omega)).mp c) (by omega)) ⟨isO_pt hS (by decide) rfl, dR_of (Str.pg hS rfl) ⟨inA_pt hS rfl (vp_nI (by omega) (by decide)), ?_⟩⟩
    rw [ix_nI (by omega), hp.1]
    have := hp.2.1
    by_cases e : 40 ≤ o
    · rw [if_pos e, nI_s1] at h
      exact iF_t ((nIle (a := 40) (by omega) (by omega)).mpr e) h
    · rw [if_neg e] at h
      refine iF_f (fun c => e ((nIle (a := 40) (by omega) (by omega)).mp c)) (nm_of ?_)
      rw [nI_a1]
      exact ih h
theorem m_mkr {L : Nat} {P : List Nat} {φ : Int32 → fM → Prop} {M : fM} (hS : Str L M) (h17 : mI M 70 17 = nI P.length) (hp : Pil M P) (hl : P.length ≤ 150) (h : φ (nI (mkI P) - 1) M) : w_X11_marker 70 M φ := by
  refine ⟨isO_pt hS (by decide) rfl, nm_of ⟨P.length + 1, ?_⟩⟩
  rw [h17]
  exact m_mark_l hS P hp hl h
theorem m_kind {L d : Nat} {P : List Nat} {a : Int32} {φ : Int32 → fM → Prop} {M : fM} (hS : Str L M) (h17 : mI M 70 17 = nI P.length) (hp : Pil M P) (hl : P.length ≤ 150) (hd : (a = 0 ∧ d = 40) ∨ (a = 1 ∧ d = 41)) (h : φ (nI (mkK d P)) M) : w_X11_kindOpen 70 a M φ := by
  refine ⟨isO_pt hS (by decide) rfl, m_mkr hS h17 hp hl ?_⟩
  by_cases e : mkI P = 0
  · rw [e]
    rw [mkI_0 e] at h
    refine iF_t (by decide) ?_
    rcases hd with ⟨e1, e2⟩ | ⟨e1, e2⟩
    · rw [e2] at h
      exact iF_t e1 h
    · rw [e2] at h
      exact iF_f (by rw [e1]; decide) h
  · have := mkI_le P
    rw [nI_m1 e]
    refine iF_f (fun c => absurd ((nIlt (b := 0) (by omega) (by omega)).mp c) (by omega)) ⟨isO_pt hS (by decide) rfl, dR_of (Str.pg hS rfl) ⟨inA_pt hS rfl (vp_nI (by omega) (by decide)), ?_⟩⟩
    rw [ix_nI (by omega), (mkI_p (d := d) hp e).1]
    exact h
theorem m_cmpd_l {L : Nat} {φ : Int32 → fM → Prop} {M : fM} (hS : Str L M) : ∀ (P : List Nat), Pil M P → P.length ≤ 150 → φ (if cmpd P = true then 1 else 0) M → l_X11_isCompared_7 φ (P.length + 1) 70 (nI P.length - 1) M
  | [], _, _, h => iF_t (by decide) (iF_t (by decide) h)
  | o :: P, hp, hl, h => by
    have ih := m_cmpd_l (L := L) (φ := φ) hS P hp.2.2 (by have : P.length + 1 ≤ 150 := hl; omega)
    have hl : P.length + 1 ≤ 150 := hl
    show b_X11_isCompared_7 (l_X11_isCompared_7 φ (P.length + 1)) φ 70 (nI (P.length + 1) - 1) M
    generalize hK : l_X11_isCompared_7 φ (P.length + 1) = K at ih ⊢
    have h : φ (if (if 4 < rk o then cmpd P else decide (rk o = 4)) = true then 1 else 0) M := h
    have r7 := rk_7 o
    have ho := hp.2.1
    rw [nI_s1]
    refine iF_f (fun c => absurd ((nIlt (b := 0) (by omega) (by omega)).mp c) (by omega)) ⟨isO_pt hS (by decide) rfl, dR_of (Str.pg hS rfl) ⟨inA_pt hS rfl (vp_nI (by omega) (by decide)), ?_⟩⟩
    rw [ix_nI (by omega), hp.1]
    refine m_rank ho ?_
    by_cases e : rk o ≤ 4
    · rw [if_neg (show ¬ 4 < rk o by omega)] at h
      refine iF_t ((nIle (b := 4) (by omega) (by omega)).mpr e) (iF_f (fun c => absurd ((nIlt (b := 0) (by omega) (by omega)).mp c) (by omega)) ⟨isO_pt hS (by decide) rfl, dR_of (Str.pg hS rfl) ⟨inA_pt hS rfl (vp_nI (by omega) (by decide)), ?_⟩⟩)
      rw [ix_nI (by omega), hp.1]
      refine m_rank ho ?_
      by_cases e4 : rk o = 4
      · rw [if_pos (decide_eq_true e4)] at h
        exact iF_t (by rw [e4]; rfl) h
      · rw [if_neg (fun c => e4 (of_decide_eq_true c))] at h
        exact iF_f (fun c => e4 (nI_inj (b := 4) (by omega) (by omega) c)) h
    · rw [if_pos (show 4 < rk o by omega)] at h
      refine iF_f (fun c => e ((nIle (b := 4) (by omega) (by omega)).mp c)) (nm_of ?_)
      rw [nI_a1]
      exact ih h
theorem m_cmpd {L : Nat} {P : List Nat} {φ : Int32 → fM → Prop} {M : fM} (hS : Str L M) (h17 : mI M 70 17 = nI P.length) (hp : Pil M P) (hl : P.length ≤ 150) (h : φ (if cmpd P = true then 1 else 0) M) : w_X11_isCompared 70 M φ := by
  refine ⟨isO_pt hS (by decide) rfl, nm_of ⟨P.length + 1, ?_⟩⟩
  rw [h17]
  exact m_cmpd_l hS P hp hl h
theorem m_push {L t0 o : Nat} {P : List Nat} {a : Int32} {φ : fM → Prop} {M : fM} (hS : Str L M) (h17 : mI M 70 17 = nI P.length) (hp : Pil M P) (hl : P.length < 150) (ha : a = nI o) (ho : o ≤ 43) (hz : ∀ M2, FrX (pT t0) M M2 → (∀ r k, ¬ (r = 70 ∧ k = 17) → r ≠ 75 → mI M2 r k = mI M r k) → mI M2 70 17 = nI (P.length + 1) → Pil M2 (o :: P) → φ M2) : w_X11_push 70 a M φ := by
  subst ha
  refine ⟨isO_pt hS (by decide) rfl, dR_of (Str.pg hS rfl) ⟨by omega, ?_⟩⟩
  rw [h17, ix_nI (by omega)]
  refine ⟨inA_pt hS rfl (vp_nI (by omega) (by decide)), st_of (nm_of (st_of ?_))⟩
  rw [show mI (wI M 75 P.length (nI o)) 70 17 = nI P.length from (mI_n (by omega)).trans h17, show nI P.length + (1 : Int32) = nI (P.length + 1) from nI_add _ 1]
  exact hz _ ((FrX.w (Or.inr (Or.inr rfl))).tr (FrX.w (Or.inl ⟨rfl, by omega⟩))) (fun r k h1 h2 => (mI_n (by omega)).trans (mI_n (by omega))) (mI_s rfl rfl) ⟨(mI_n (by omega)).trans (mI_s rfl rfl), ho, hp.cg fun k hk => (mI_n (by omega)).trans (mI_n (by omega))⟩
