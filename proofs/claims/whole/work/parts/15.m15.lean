def w_X7_init (p0 : Nat) (M : fM) (φ : fM → Prop) : Prop := nw M 12 (ix (300 : Int32)) fun q1 M3 => isO M3 p0 7 ∧ st (wP M3 p0 0 (some q1)) fun M8 => nw M8 12 (ix (301 : Int32)) fun q10 M12 => st (wP M12 p0 2 (some q10)) fun M14 => nw M14 12 (ix (301 : Int32)) fun q16 M18 => st (wP M18 p0 3 (some q16)) fun M20 => nw M20 12 (ix (301 : Int32)) fun q22 M24 => st (wP M24 p0 4 (some q22)) fun M26 => φ M26
set_option maxRecDepth 100000 in
theorem s_X7_init {g : GT} {d : Nat} (hd : 1 ≤ d) {p0 : Nat} {M : fM} {φ : fM → Prop} (h : w_X7_init p0 M φ) : FC g mtX7_init d [.ref p0] M 4 1203 (rV φ) := by
  obtain ⟨d, rfl⟩ : ∃ e, d = e + 1 := ⟨d - 1, by omega⟩
  unfold w_X7_init at h
  refine FC.intro (nL := 1) (by decide) rfl (Nat.le_of_ble_eq_true rfl) ?_
  show FW g mtX7_init (d + 1) 0 [(0, .ref p0)] [] M 4 1203 (rV φ)
  refine fw_aload_n (i := 0) 0 rfl (show decode _ _ = .ok (.aload_n 0, 1) by decide +kernel) ?_
  refine fw_objInit (idx := 3) (rest := []) (show decode _ _ = .ok (.invokespecial 3, 3) by decide +kernel) ⟨wd315, wd155, wd156⟩ (Nat.le_of_ble_eq_true rfl) ?_
  refine fw_aload_n (i := 0) 0 rfl (show decode _ _ = .ok (.aload_n 0, 1) by decide +kernel) ?_
  refine fw_sipush (v := (300 : Int32)) (show decode _ _ = .ok (.sipush 300, 3) by decide +kernel) (by decide) ?_
  refine fw_newa 12 (show decode _ _ = .ok (.newarray .int, 2) by decide +kernel) (by decide) (by decide) (by decide) (by decide) (by decide) wd179 ?_
  refine FW.room (bc' := 3) (bs' := 903) (by decide) (by decide) ?_
  refine FW.nmN (fun q1 eq2 => ?_)
  refine FW.nmM (fun M3 eM4 => ?_)
  have h_1 := h q1 M3 eq2 eM4
  obtain ⟨⟨hr6, n5, hs7⟩, h_2⟩ := h_1
  refine fw_putP (x := (some q1)) (kd := 7) (k := 0) (show decode _ _ = .ok (.putfield 9, 3) by decide +kernel) ⟨gf_X7_9, _, rfl, Or.inr ⟨rfl, rfl, rfl⟩⟩ hr6 hs7 rfl ?_
  refine FW.nmM (fun M8 eM9 => ?_)
  have h_3 := h_2 M8 eM9
  refine fw_aload_n (i := 0) 0 rfl (show decode _ _ = .ok (.aload_n 0, 1) by decide +kernel) ?_
  refine fw_sipush (v := (301 : Int32)) (show decode _ _ = .ok (.sipush 301, 3) by decide +kernel) (by decide) ?_
  refine fw_newa 12 (show decode _ _ = .ok (.newarray .int, 2) by decide +kernel) (by decide) (by decide) (by decide) (by decide) (by decide) wd179 ?_
  refine FW.room (bc' := 2) (bs' := 602) (by decide) (by decide) ?_
  refine FW.nmN (fun q10 eq11 => ?_)
  refine FW.nmM (fun M12 eM13 => ?_)
  have h_4 := h_3 q10 M12 eq11 eM13
  refine fw_putP (x := (some q10)) (kd := 7) (k := 2) (show decode _ _ = .ok (.putfield 15, 3) by decide +kernel) ⟨gf_X7_15, _, rfl, Or.inr ⟨rfl, rfl, rfl⟩⟩ hr6 (mSw_N eM13 (mSw_P eM9 hs7)) rfl ?_
  refine FW.nmM (fun M14 eM15 => ?_)
  have h_5 := h_4 M14 eM15
  refine fw_aload_n (i := 0) 0 rfl (show decode _ _ = .ok (.aload_n 0, 1) by decide +kernel) ?_
  refine fw_sipush (v := (301 : Int32)) (show decode _ _ = .ok (.sipush 301, 3) by decide +kernel) (by decide) ?_
  refine fw_newa 12 (show decode _ _ = .ok (.newarray .int, 2) by decide +kernel) (by decide) (by decide) (by decide) (by decide) (by decide) wd179 ?_
  refine FW.room (bc' := 1) (bs' := 301) (by decide) (by decide) ?_
  refine FW.nmN (fun q16 eq17 => ?_)
  refine FW.nmM (fun M18 eM19 => ?_)
  have h_6 := h_5 q16 M18 eq17 eM19
  refine fw_putP (x := (some q16)) (kd := 7) (k := 3) (show decode _ _ = .ok (.putfield 18, 3) by decide +kernel) ⟨gf_X7_18, _, rfl, Or.inr ⟨rfl, rfl, rfl⟩⟩ hr6 (mSw_N eM19 (mSw_P eM15 (mSw_N eM13 (mSw_P eM9 hs7)))) rfl ?_
  refine FW.nmM (fun M20 eM21 => ?_)
  have h_7 := h_6 M20 eM21
  refine fw_aload_n (i := 0) 0 rfl (show decode _ _ = .ok (.aload_n 0, 1) by decide +kernel) ?_
  refine fw_sipush (v := (301 : Int32)) (show decode _ _ = .ok (.sipush 301, 3) by decide +kernel) (by decide) ?_
  refine fw_newa 12 (show decode _ _ = .ok (.newarray .int, 2) by decide +kernel) (by decide) (by decide) (by decide) (by decide) (by decide) wd179 ?_
  refine FW.room (bc' := 0) (bs' := 0) (by decide) (by decide) ?_
  refine FW.nmN (fun q22 eq23 => ?_)
  refine FW.nmM (fun M24 eM25 => ?_)
  have h_8 := h_7 q22 M24 eq23 eM25
  refine fw_putP (x := (some q22)) (kd := 7) (k := 4) (show decode _ _ = .ok (.putfield 21, 3) by decide +kernel) ⟨gf_X7_21, _, rfl, Or.inr ⟨rfl, rfl, rfl⟩⟩ hr6 (mSw_N eM25 (mSw_P eM21 (mSw_N eM19 (mSw_P eM15 (mSw_N eM13 (mSw_P eM9 hs7)))))) rfl ?_
  refine FW.nmM (fun M26 eM27 => ?_)
  have h_9 := h_8 M26 eM27
  exact fw_ret (v := none) .return_ (show decode _ _ = .ok (.return_, 1) by decide +kernel) ⟨rfl, rfl⟩ ⟨rfl, h_9⟩
def w_X4_init (p0 : Nat) (p1 : Nat) (M : fM) (φ : fM → Prop) : Prop := isO M p0 4 ∧ st (wI M p0 0 (-1 : Int32)) fun M4 => st (wI M4 p0 1 (-1 : Int32)) fun M6 => nw M6 12 (ix (300 : Int32)) fun q8 M10 => st (wP M10 p0 3 (some q8)) fun M12 => nw M12 12 (ix (5 : Int32)) fun q14 M16 => st (wP M16 p0 4 (some q14)) fun M18 => nw M18 12 (ix (5 : Int32)) fun q20 M22 => st (wP M22 p0 5 (some q20)) fun M24 => nw M24 12 (ix (24 : Int32)) fun q26 M28 => st (wP M28 p0 6 (some q26)) fun M30 => nw M30 12 (ix (72 : Int32)) fun q32 M34 => st (wP M34 p0 7 (some q32)) fun M36 => st (wP M36 p0 2 (some p1)) fun M38 => φ M38
set_option maxRecDepth 100000 in
theorem s_X4_init {g : GT} {d : Nat} (hd : 1 ≤ d) {p0 : Nat} {p1 : Nat} {M : fM} {φ : fM → Prop} (h : w_X4_init p0 p1 M φ) : FC g mtX4_init d [.ref p0, .ref p1] M 5 406 (rV φ) := by
  obtain ⟨d, rfl⟩ : ∃ e, d = e + 1 := ⟨d - 1, by omega⟩
  unfold w_X4_init at h
  refine FC.intro (nL := 2) (by decide) rfl (Nat.le_of_ble_eq_true rfl) ?_
  show FW g mtX4_init (d + 1) 0 [(0, .ref p0), (1, .ref p1)] [] M 5 406 (rV φ)
  refine fw_aload_n (i := 0) 0 rfl (show decode _ _ = .ok (.aload_n 0, 1) by decide +kernel) ?_
  refine fw_objInit (idx := 3) (rest := []) (show decode _ _ = .ok (.invokespecial 3, 3) by decide +kernel) ⟨wd344, wd155, wd156⟩ (Nat.le_of_ble_eq_true rfl) ?_
  refine fw_aload_n (i := 0) 0 rfl (show decode _ _ = .ok (.aload_n 0, 1) by decide +kernel) ?_
  refine fw_iconst (v := (-1 : Int32)) (show decode _ _ = .ok (.iconst (-1), 1) by decide +kernel) (by decide) ?_
  obtain ⟨⟨hr2, n1, hs3⟩, h_1⟩ := h
  refine fw_putI (kd := 4) (k := 0) (show decode _ _ = .ok (.putfield 9, 3) by decide +kernel) ⟨gf_X4_9, _, rfl, Or.inl rfl⟩ hr2 hs3 rfl ?_
  refine FW.nmM (fun M4 eM5 => ?_)
  have h_2 := h_1 M4 eM5
  refine fw_aload_n (i := 0) 0 rfl (show decode _ _ = .ok (.aload_n 0, 1) by decide +kernel) ?_
  refine fw_iconst (v := (-1 : Int32)) (show decode _ _ = .ok (.iconst (-1), 1) by decide +kernel) (by decide) ?_
  refine fw_putI (kd := 4) (k := 1) (show decode _ _ = .ok (.putfield 15, 3) by decide +kernel) ⟨gf_X4_15, _, rfl, Or.inl rfl⟩ hr2 (mSw_I eM5 hs3) rfl ?_
  refine FW.nmM (fun M6 eM7 => ?_)
  have h_3 := h_2 M6 eM7
  refine fw_aload_n (i := 0) 0 rfl (show decode _ _ = .ok (.aload_n 0, 1) by decide +kernel) ?_
  refine fw_sipush (v := (300 : Int32)) (show decode _ _ = .ok (.sipush 300, 3) by decide +kernel) (by decide) ?_
  refine fw_newa 12 (show decode _ _ = .ok (.newarray .int, 2) by decide +kernel) (by decide) (by decide) (by decide) (by decide) (by decide) wd179 ?_
  refine FW.room (bc' := 4) (bs' := 106) (by decide) (by decide) ?_
  refine FW.nmN (fun q8 eq9 => ?_)
  refine FW.nmM (fun M10 eM11 => ?_)
  have h_4 := h_3 q8 M10 eq9 eM11
  refine fw_putP (x := (some q8)) (kd := 4) (k := 3) (show decode _ _ = .ok (.putfield 18, 3) by decide +kernel) ⟨gf_X4_18, _, rfl, Or.inr ⟨rfl, rfl, rfl⟩⟩ hr2 (mSw_N eM11 (mSw_I eM7 (mSw_I eM5 hs3))) rfl ?_
  refine FW.nmM (fun M12 eM13 => ?_)
  have h_5 := h_4 M12 eM13
  refine fw_aload_n (i := 0) 0 rfl (show decode _ _ = .ok (.aload_n 0, 1) by decide +kernel) ?_
  refine fw_iconst (v := (5 : Int32)) (show decode _ _ = .ok (.iconst 5, 1) by decide +kernel) (by decide) ?_
  refine fw_newa 12 (show decode _ _ = .ok (.newarray .int, 2) by decide +kernel) (by decide) (by decide) (by decide) (by decide) (by decide) wd179 ?_
  refine FW.room (bc' := 3) (bs' := 101) (by decide) (by decide) ?_
  refine FW.nmN (fun q14 eq15 => ?_)
  refine FW.nmM (fun M16 eM17 => ?_)
  have h_6 := h_5 q14 M16 eq15 eM17
  refine fw_putP (x := (some q14)) (kd := 4) (k := 4) (show decode _ _ = .ok (.putfield 22, 3) by decide +kernel) ⟨gf_X4_22, _, rfl, Or.inr ⟨rfl, rfl, rfl⟩⟩ hr2 (mSw_N eM17 (mSw_P eM13 (mSw_N eM11 (mSw_I eM7 (mSw_I eM5 hs3))))) rfl ?_
  refine FW.nmM (fun M18 eM19 => ?_)
  have h_7 := h_6 M18 eM19
  refine fw_aload_n (i := 0) 0 rfl (show decode _ _ = .ok (.aload_n 0, 1) by decide +kernel) ?_
  refine fw_iconst (v := (5 : Int32)) (show decode _ _ = .ok (.iconst 5, 1) by decide +kernel) (by decide) ?_
  refine fw_newa 12 (show decode _ _ = .ok (.newarray .int, 2) by decide +kernel) (by decide) (by decide) (by decide) (by decide) (by decide) wd179 ?_
  refine FW.room (bc' := 2) (bs' := 96) (by decide) (by decide) ?_
  refine FW.nmN (fun q20 eq21 => ?_)
  refine FW.nmM (fun M22 eM23 => ?_)
  have h_8 := h_7 q20 M22 eq21 eM23
  refine fw_putP (x := (some q20)) (kd := 4) (k := 5) (show decode _ _ = .ok (.putfield 25, 3) by decide +kernel) ⟨gf_X4_25, _, rfl, Or.inr ⟨rfl, rfl, rfl⟩⟩ hr2 (mSw_N eM23 (mSw_P eM19 (mSw_N eM17 (mSw_P eM13 (mSw_N eM11 (mSw_I eM7 (mSw_I eM5 hs3))))))) rfl ?_
  refine FW.nmM (fun M24 eM25 => ?_)
  have h_9 := h_8 M24 eM25
  refine fw_aload_n (i := 0) 0 rfl (show decode _ _ = .ok (.aload_n 0, 1) by decide +kernel) ?_
  refine fw_bipush (v := (24 : Int32)) (show decode _ _ = .ok (.bipush 24, 2) by decide +kernel) (by decide) ?_
  refine fw_newa 12 (show decode _ _ = .ok (.newarray .int, 2) by decide +kernel) (by decide) (by decide) (by decide) (by decide) (by decide) wd179 ?_
  refine FW.room (bc' := 1) (bs' := 72) (by decide) (by decide) ?_
  refine FW.nmN (fun q26 eq27 => ?_)
  refine FW.nmM (fun M28 eM29 => ?_)
  have h_10 := h_9 q26 M28 eq27 eM29
  refine fw_putP (x := (some q26)) (kd := 4) (k := 6) (show decode _ _ = .ok (.putfield 28, 3) by decide +kernel) ⟨gf_X4_28, _, rfl, Or.inr ⟨rfl, rfl, rfl⟩⟩ hr2 (mSw_N eM29 (mSw_P eM25 (mSw_N eM23 (mSw_P eM19 (mSw_N eM17 (mSw_P eM13 (mSw_N eM11 (mSw_I eM7 (mSw_I eM5 hs3))))))))) rfl ?_
  refine FW.nmM (fun M30 eM31 => ?_)
  have h_11 := h_10 M30 eM31
  refine fw_aload_n (i := 0) 0 rfl (show decode _ _ = .ok (.aload_n 0, 1) by decide +kernel) ?_
  refine fw_bipush (v := (72 : Int32)) (show decode _ _ = .ok (.bipush 72, 2) by decide +kernel) (by decide) ?_
  refine fw_newa 12 (show decode _ _ = .ok (.newarray .int, 2) by decide +kernel) (by decide) (by decide) (by decide) (by decide) (by decide) wd179 ?_
  refine FW.room (bc' := 0) (bs' := 0) (by decide) (by decide) ?_
  refine FW.nmN (fun q32 eq33 => ?_)
  refine FW.nmM (fun M34 eM35 => ?_)
  have h_12 := h_11 q32 M34 eq33 eM35
  refine fw_putP (x := (some q32)) (kd := 4) (k := 7) (show decode _ _ = .ok (.putfield 31, 3) by decide +kernel) ⟨gf_X4_31, _, rfl, Or.inr ⟨rfl, rfl, rfl⟩⟩ hr2 (mSw_N eM35 (mSw_P eM31 (mSw_N eM29 (mSw_P eM25 (mSw_N eM23 (mSw_P eM19 (mSw_N eM17 (mSw_P eM13 (mSw_N eM11 (mSw_I eM7 (mSw_I eM5 hs3))))))))))) rfl ?_
  refine FW.nmM (fun M36 eM37 => ?_)
  have h_13 := h_12 M36 eM37
  refine fw_aload_n (i := 0) 0 rfl (show decode _ _ = .ok (.aload_n 0, 1) by decide +kernel) ?_
  refine fw_aload_n (i := 1) 1 rfl (show decode _ _ = .ok (.aload_n 1, 1) by decide +kernel) ?_
  refine fw_putP (x := (some p1)) (kd := 4) (k := 2) (show decode _ _ = .ok (.putfield 34, 3) by decide +kernel) ⟨gf_X4_34, _, rfl, Or.inr ⟨rfl, rfl, rfl⟩⟩ hr2 (mSw_P eM37 (mSw_N eM35 (mSw_P eM31 (mSw_N eM29 (mSw_P eM25 (mSw_N eM23 (mSw_P eM19 (mSw_N eM17 (mSw_P eM13 (mSw_N eM11 (mSw_I eM7 (mSw_I eM5 hs3)))))))))))) rfl ?_
  refine FW.nmM (fun M38 eM39 => ?_)
  have h_14 := h_13 M38 eM39
  exact fw_ret (v := none) .return_ (show decode _ _ = .ok (.return_, 1) by decide +kernel) ⟨rfl, rfl⟩ ⟨rfl, h_14⟩
def w_X9_init (p0 : Nat) (p1 : Nat) (p2 : Nat) (M : fM) (φ : fM → Prop) : Prop := isO M p0 9 ∧ st (wP M p0 0 (some p1)) fun M4 => st (wP M4 p0 1 (some p2)) fun M6 => φ M6
set_option maxRecDepth 100000 in
theorem s_X9_init {g : GT} {d : Nat} (hd : 1 ≤ d) {p0 : Nat} {p1 : Nat} {p2 : Nat} {M : fM} {φ : fM → Prop} (h : w_X9_init p0 p1 p2 M φ) : FC g mtX9_init d [.ref p0, .ref p1, .ref p2] M 0 0 (rV φ) := by
  obtain ⟨d, rfl⟩ : ∃ e, d = e + 1 := ⟨d - 1, by omega⟩
  unfold w_X9_init at h
  refine FC.intro (nL := 3) (by decide) rfl (Nat.le_of_ble_eq_true rfl) ?_
  show FW g mtX9_init (d + 1) 0 [(0, .ref p0), (1, .ref p1), (2, .ref p2)] [] M 0 0 (rV φ)
  refine fw_aload_n (i := 0) 0 rfl (show decode _ _ = .ok (.aload_n 0, 1) by decide +kernel) ?_
  refine fw_objInit (idx := 3) (rest := []) (show decode _ _ = .ok (.invokespecial 3, 3) by decide +kernel) ⟨wd395, wd155, wd156⟩ (Nat.le_of_ble_eq_true rfl) ?_
  refine fw_aload_n (i := 0) 0 rfl (show decode _ _ = .ok (.aload_n 0, 1) by decide +kernel) ?_
  refine fw_aload_n (i := 1) 1 rfl (show decode _ _ = .ok (.aload_n 1, 1) by decide +kernel) ?_
  obtain ⟨⟨hr2, n1, hs3⟩, h_1⟩ := h
  refine fw_putP (x := (some p1)) (kd := 9) (k := 0) (show decode _ _ = .ok (.putfield 9, 3) by decide +kernel) ⟨gf_X9_9, _, rfl, Or.inr ⟨rfl, rfl, rfl⟩⟩ hr2 hs3 rfl ?_
  refine FW.nmM (fun M4 eM5 => ?_)
  have h_2 := h_1 M4 eM5
  refine fw_aload_n (i := 0) 0 rfl (show decode _ _ = .ok (.aload_n 0, 1) by decide +kernel) ?_
  refine fw_aload_n (i := 2) 2 rfl (show decode _ _ = .ok (.aload_n 2, 1) by decide +kernel) ?_
  refine fw_putP (x := (some p2)) (kd := 9) (k := 1) (show decode _ _ = .ok (.putfield 15, 3) by decide +kernel) ⟨gf_X9_15, _, rfl, Or.inr ⟨rfl, rfl, rfl⟩⟩ hr2 (mSw_P eM5 hs3) rfl ?_
  refine FW.nmM (fun M6 eM7 => ?_)
  have h_3 := h_2 M6 eM7
  exact fw_ret (v := none) .return_ (show decode _ _ = .ok (.return_, 1) by decide +kernel) ⟨rfl, rfl⟩ ⟨rfl, h_3⟩
def w_X3_init (p0 : Nat) (p1 : Nat) (p2 : Nat) (M : fM) (φ : fM → Prop) : Prop := nw M 12 (ix (15 : Int32)) fun q1 M3 => isO M3 p0 3 ∧ st (wP M3 p0 7 (some q1)) fun M8 => nw M8 12 (ix (15 : Int32)) fun q10 M12 => st (wP M12 p0 8 (some q10)) fun M14 => nw M14 12 (ix (15 : Int32)) fun q16 M18 => st (wP M18 p0 9 (some q16)) fun M20 => nw M20 13 (ix (480 : Int32)) fun q22 M24 => st (wP M24 p0 10 (some q22)) fun M26 => nw M26 13 (ix (10 : Int32)) fun q28 M30 => st (wP M30 p0 11 (some q28)) fun M32 => st (wP M32 p0 1 (some p1)) fun M34 => st (wP M34 p0 2 (some p2)) fun M36 => φ M36
set_option maxRecDepth 100000 in
theorem s_X3_init {g : GT} {d : Nat} (hd : 1 ≤ d) {p0 : Nat} {p1 : Nat} {p2 : Nat} {M : fM} {φ : fM → Prop} (h : w_X3_init p0 p1 p2 M φ) : FC g mtX3_init d [.ref p0, .ref p1, .ref p2] M 5 535 (rV φ) := by
  obtain ⟨d, rfl⟩ : ∃ e, d = e + 1 := ⟨d - 1, by omega⟩
  unfold w_X3_init at h
  refine FC.intro (nL := 3) (by decide) rfl (Nat.le_of_ble_eq_true rfl) ?_
  show FW g mtX3_init (d + 1) 0 [(0, .ref p0), (1, .ref p1), (2, .ref p2)] [] M 5 535 (rV φ)
  refine fw_aload_n (i := 0) 0 rfl (show decode _ _ = .ok (.aload_n 0, 1) by decide +kernel) ?_
  refine fw_objInit (idx := 3) (rest := []) (show decode _ _ = .ok (.invokespecial 3, 3) by decide +kernel) ⟨wd408, wd155, wd156⟩ (Nat.le_of_ble_eq_true rfl) ?_
  refine fw_aload_n (i := 0) 0 rfl (show decode _ _ = .ok (.aload_n 0, 1) by decide +kernel) ?_
  refine fw_bipush (v := (15 : Int32)) (show decode _ _ = .ok (.bipush 15, 2) by decide +kernel) (by decide) ?_
  refine fw_newa 12 (show decode _ _ = .ok (.newarray .int, 2) by decide +kernel) (by decide) (by decide) (by decide) (by decide) (by decide) wd179 ?_
  refine FW.room (bc' := 4) (bs' := 520) (by decide) (by decide) ?_
  refine FW.nmN (fun q1 eq2 => ?_)
  refine FW.nmM (fun M3 eM4 => ?_)
  have h_1 := h q1 M3 eq2 eM4
  obtain ⟨⟨hr6, n5, hs7⟩, h_2⟩ := h_1
  refine fw_putP (x := (some q1)) (kd := 3) (k := 7) (show decode _ _ = .ok (.putfield 9, 3) by decide +kernel) ⟨gf_X3_9, _, rfl, Or.inr ⟨rfl, rfl, rfl⟩⟩ hr6 hs7 rfl ?_
  refine FW.nmM (fun M8 eM9 => ?_)
  have h_3 := h_2 M8 eM9
  refine fw_aload_n (i := 0) 0 rfl (show decode _ _ = .ok (.aload_n 0, 1) by decide +kernel) ?_
  refine fw_bipush (v := (15 : Int32)) (show decode _ _ = .ok (.bipush 15, 2) by decide +kernel) (by decide) ?_
  refine fw_newa 12 (show decode _ _ = .ok (.newarray .int, 2) by decide +kernel) (by decide) (by decide) (by decide) (by decide) (by decide) wd179 ?_
  refine FW.room (bc' := 3) (bs' := 505) (by decide) (by decide) ?_
  refine FW.nmN (fun q10 eq11 => ?_)
  refine FW.nmM (fun M12 eM13 => ?_)
  have h_4 := h_3 q10 M12 eq11 eM13
  refine fw_putP (x := (some q10)) (kd := 3) (k := 8) (show decode _ _ = .ok (.putfield 15, 3) by decide +kernel) ⟨gf_X3_15, _, rfl, Or.inr ⟨rfl, rfl, rfl⟩⟩ hr6 (mSw_N eM13 (mSw_P eM9 hs7)) rfl ?_
  refine FW.nmM (fun M14 eM15 => ?_)
  have h_5 := h_4 M14 eM15
  refine fw_aload_n (i := 0) 0 rfl (show decode _ _ = .ok (.aload_n 0, 1) by decide +kernel) ?_
  refine fw_bipush (v := (15 : Int32)) (show decode _ _ = .ok (.bipush 15, 2) by decide +kernel) (by decide) ?_
  refine fw_newa 12 (show decode _ _ = .ok (.newarray .int, 2) by decide +kernel) (by decide) (by decide) (by decide) (by decide) (by decide) wd179 ?_
  refine FW.room (bc' := 2) (bs' := 490) (by decide) (by decide) ?_
  refine FW.nmN (fun q16 eq17 => ?_)
  refine FW.nmM (fun M18 eM19 => ?_)
  have h_6 := h_5 q16 M18 eq17 eM19
  refine fw_putP (x := (some q16)) (kd := 3) (k := 9) (show decode _ _ = .ok (.putfield 18, 3) by decide +kernel) ⟨gf_X3_18, _, rfl, Or.inr ⟨rfl, rfl, rfl⟩⟩ hr6 (mSw_N eM19 (mSw_P eM15 (mSw_N eM13 (mSw_P eM9 hs7)))) rfl ?_
  refine FW.nmM (fun M20 eM21 => ?_)
  have h_7 := h_6 M20 eM21
  refine fw_aload_n (i := 0) 0 rfl (show decode _ _ = .ok (.aload_n 0, 1) by decide +kernel) ?_
  refine fw_sipush (v := (480 : Int32)) (show decode _ _ = .ok (.sipush 480, 3) by decide +kernel) (by decide) ?_
  refine fw_newa 13 (show decode _ _ = .ok (.newarray .long, 2) by decide +kernel) (by decide) (by decide) (by decide) (by decide) (by decide) wd450 ?_
  refine FW.room (bc' := 1) (bs' := 10) (by decide) (by decide) ?_
  refine FW.nmN (fun q22 eq23 => ?_)
  refine FW.nmM (fun M24 eM25 => ?_)
  have h_8 := h_7 q22 M24 eq23 eM25
  refine fw_putP (x := (some q22)) (kd := 3) (k := 10) (show decode _ _ = .ok (.putfield 21, 3) by decide +kernel) ⟨gf_X3_21, _, rfl, Or.inr ⟨rfl, rfl, rfl⟩⟩ hr6 (mSw_N eM25 (mSw_P eM21 (mSw_N eM19 (mSw_P eM15 (mSw_N eM13 (mSw_P eM9 hs7)))))) rfl ?_
  refine FW.nmM (fun M26 eM27 => ?_)
  have h_9 := h_8 M26 eM27
  refine fw_aload_n (i := 0) 0 rfl (show decode _ _ = .ok (.aload_n 0, 1) by decide +kernel) ?_
  refine fw_bipush (v := (10 : Int32)) (show decode _ _ = .ok (.bipush 10, 2) by decide +kernel) (by decide) ?_
  refine fw_newa 13 (show decode _ _ = .ok (.newarray .long, 2) by decide +kernel) (by decide) (by decide) (by decide) (by decide) (by decide) wd450 ?_
  refine FW.room (bc' := 0) (bs' := 0) (by decide) (by decide) ?_
  refine FW.nmN (fun q28 eq29 => ?_)
  refine FW.nmM (fun M30 eM31 => ?_)
  have h_10 := h_9 q28 M30 eq29 eM31
  refine fw_putP (x := (some q28)) (kd := 3) (k := 11) (show decode _ _ = .ok (.putfield 25, 3) by decide +kernel) ⟨gf_X3_25, _, rfl, Or.inr ⟨rfl, rfl, rfl⟩⟩ hr6 (mSw_N eM31 (mSw_P eM27 (mSw_N eM25 (mSw_P eM21 (mSw_N eM19 (mSw_P eM15 (mSw_N eM13 (mSw_P eM9 hs7)))))))) rfl ?_
  refine FW.nmM (fun M32 eM33 => ?_)
  have h_11 := h_10 M32 eM33
  refine fw_aload_n (i := 0) 0 rfl (show decode _ _ = .ok (.aload_n 0, 1) by decide +kernel) ?_
  refine fw_aload_n (i := 1) 1 rfl (show decode _ _ = .ok (.aload_n 1, 1) by decide +kernel) ?_
  refine fw_putP (x := (some p1)) (kd := 3) (k := 1) (show decode _ _ = .ok (.putfield 28, 3) by decide +kernel) ⟨gf_X3_28, _, rfl, Or.inr ⟨rfl, rfl, rfl⟩⟩ hr6 (mSw_P eM33 (mSw_N eM31 (mSw_P eM27 (mSw_N eM25 (mSw_P eM21 (mSw_N eM19 (mSw_P eM15 (mSw_N eM13 (mSw_P eM9 hs7))))))))) rfl ?_
  refine FW.nmM (fun M34 eM35 => ?_)
  have h_12 := h_11 M34 eM35
  refine fw_aload_n (i := 0) 0 rfl (show decode _ _ = .ok (.aload_n 0, 1) by decide +kernel) ?_
  refine fw_aload_n (i := 2) 2 rfl (show decode _ _ = .ok (.aload_n 2, 1) by decide +kernel) ?_
  refine fw_putP (x := (some p2)) (kd := 3) (k := 2) (show decode _ _ = .ok (.putfield 32, 3) by decide +kernel) ⟨gf_X3_32, _, rfl, Or.inr ⟨rfl, rfl, rfl⟩⟩ hr6 (mSw_P eM35 (mSw_P eM33 (mSw_N eM31 (mSw_P eM27 (mSw_N eM25 (mSw_P eM21 (mSw_N eM19 (mSw_P eM15 (mSw_N eM13 (mSw_P eM9 hs7)))))))))) rfl ?_
  refine FW.nmM (fun M36 eM37 => ?_)
  have h_13 := h_12 M36 eM37
  exact fw_ret (v := none) .return_ (show decode _ _ = .ok (.return_, 1) by decide +kernel) ⟨rfl, rfl⟩ ⟨rfl, h_13⟩
def w_X6_init (p0 : Nat) (p1 : Nat) (p2 : Nat) (M : fM) (φ : fM → Prop) : Prop := nw M 12 (ix (4 : Int32)) fun q1 M3 => isO M3 p0 6 ∧ st (wP M3 p0 2 (some q1)) fun M8 => st (wP M8 p0 0 (some p1)) fun M10 => st (wP M10 p0 1 (some p2)) fun M12 => φ M12
set_option maxRecDepth 100000 in
theorem s_X6_init {g : GT} {d : Nat} (hd : 1 ≤ d) {p0 : Nat} {p1 : Nat} {p2 : Nat} {M : fM} {φ : fM → Prop} (h : w_X6_init p0 p1 p2 M φ) : FC g mtX6_init d [.ref p0, .ref p1, .ref p2] M 1 4 (rV φ) := by
  obtain ⟨d, rfl⟩ : ∃ e, d = e + 1 := ⟨d - 1, by omega⟩
  unfold w_X6_init at h
  refine FC.intro (nL := 3) (by decide) rfl (Nat.le_of_ble_eq_true rfl) ?_
  show FW g mtX6_init (d + 1) 0 [(0, .ref p0), (1, .ref p1), (2, .ref p2)] [] M 1 4 (rV φ)
  refine fw_aload_n (i := 0) 0 rfl (show decode _ _ = .ok (.aload_n 0, 1) by decide +kernel) ?_
  refine fw_objInit (idx := 3) (rest := []) (show decode _ _ = .ok (.invokespecial 3, 3) by decide +kernel) ⟨wd456, wd155, wd156⟩ (Nat.le_of_ble_eq_true rfl) ?_
  refine fw_aload_n (i := 0) 0 rfl (show decode _ _ = .ok (.aload_n 0, 1) by decide +kernel) ?_
  refine fw_iconst (v := (4 : Int32)) (show decode _ _ = .ok (.iconst 4, 1) by decide +kernel) (by decide) ?_
  refine fw_newa 12 (show decode _ _ = .ok (.newarray .int, 2) by decide +kernel) (by decide) (by decide) (by decide) (by decide) (by decide) wd179 ?_
  refine FW.room (bc' := 0) (bs' := 0) (by decide) (by decide) ?_
  refine FW.nmN (fun q1 eq2 => ?_)
  refine FW.nmM (fun M3 eM4 => ?_)
  have h_1 := h q1 M3 eq2 eM4
  obtain ⟨⟨hr6, n5, hs7⟩, h_2⟩ := h_1
  refine fw_putP (x := (some q1)) (kd := 6) (k := 2) (show decode _ _ = .ok (.putfield 9, 3) by decide +kernel) ⟨gf_X6_9, _, rfl, Or.inr ⟨rfl, rfl, rfl⟩⟩ hr6 hs7 rfl ?_
  refine FW.nmM (fun M8 eM9 => ?_)
  have h_3 := h_2 M8 eM9
  refine fw_aload_n (i := 0) 0 rfl (show decode _ _ = .ok (.aload_n 0, 1) by decide +kernel) ?_
  refine fw_aload_n (i := 1) 1 rfl (show decode _ _ = .ok (.aload_n 1, 1) by decide +kernel) ?_
  refine fw_putP (x := (some p1)) (kd := 6) (k := 0) (show decode _ _ = .ok (.putfield 15, 3) by decide +kernel) ⟨gf_X6_15, _, rfl, Or.inr ⟨rfl, rfl, rfl⟩⟩ hr6 (mSw_P eM9 hs7) rfl ?_
  refine FW.nmM (fun M10 eM11 => ?_)
  have h_4 := h_3 M10 eM11
  refine fw_aload_n (i := 0) 0 rfl (show decode _ _ = .ok (.aload_n 0, 1) by decide +kernel) ?_
  refine fw_aload_n (i := 2) 2 rfl (show decode _ _ = .ok (.aload_n 2, 1) by decide +kernel) ?_
  refine fw_putP (x := (some p2)) (kd := 6) (k := 1) (show decode _ _ = .ok (.putfield 19, 3) by decide +kernel) ⟨gf_X6_19, _, rfl, Or.inr ⟨rfl, rfl, rfl⟩⟩ hr6 (mSw_P eM11 (mSw_P eM9 hs7)) rfl ?_
  refine FW.nmM (fun M12 eM13 => ?_)
  have h_5 := h_4 M12 eM13
  exact fw_ret (v := none) .return_ (show decode _ _ = .ok (.return_, 1) by decide +kernel) ⟨rfl, rfl⟩ ⟨rfl, h_5⟩
def w_X2_init (p0 : Nat) (p1 : Nat) (p2 : Nat) (M : fM) (φ : fM → Prop) : Prop := nw M 12 (ix (160 : Int32)) fun q1 M3 => isO M3 p0 2 ∧ st (wP M3 p0 2 (some q1)) fun M8 => nw M8 12 (ix (160 : Int32)) fun q10 M12 => st (wP M12 p0 3 (some q10)) fun M14 => nw M14 12 (ix (10 : Int32)) fun q16 M18 => st (wP M18 p0 4 (some q16)) fun M20 => st (wP M20 p0 0 (some p1)) fun M22 => st (wP M22 p0 1 (some p2)) fun M24 => φ M24
set_option maxRecDepth 100000 in
theorem s_X2_init {g : GT} {d : Nat} (hd : 1 ≤ d) {p0 : Nat} {p1 : Nat} {p2 : Nat} {M : fM} {φ : fM → Prop} (h : w_X2_init p0 p1 p2 M φ) : FC g mtX2_init d [.ref p0, .ref p1, .ref p2] M 3 330 (rV φ) := by
  obtain ⟨d, rfl⟩ : ∃ e, d = e + 1 := ⟨d - 1, by omega⟩
  unfold w_X2_init at h
  refine FC.intro (nL := 3) (by decide) rfl (Nat.le_of_ble_eq_true rfl) ?_
  show FW g mtX2_init (d + 1) 0 [(0, .ref p0), (1, .ref p1), (2, .ref p2)] [] M 3 330 (rV φ)
  refine fw_aload_n (i := 0) 0 rfl (show decode _ _ = .ok (.aload_n 0, 1) by decide +kernel) ?_
  refine fw_objInit (idx := 3) (rest := []) (show decode _ _ = .ok (.invokespecial 3, 3) by decide +kernel) ⟨wd472, wd155, wd156⟩ (Nat.le_of_ble_eq_true rfl) ?_
  refine fw_aload_n (i := 0) 0 rfl (show decode _ _ = .ok (.aload_n 0, 1) by decide +kernel) ?_
  refine fw_sipush (v := (160 : Int32)) (show decode _ _ = .ok (.sipush 160, 3) by decide +kernel) (by decide) ?_
  refine fw_newa 12 (show decode _ _ = .ok (.newarray .int, 2) by decide +kernel) (by decide) (by decide) (by decide) (by decide) (by decide) wd179 ?_
  refine FW.room (bc' := 2) (bs' := 170) (by decide) (by decide) ?_
  refine FW.nmN (fun q1 eq2 => ?_)
  refine FW.nmM (fun M3 eM4 => ?_)
  have h_1 := h q1 M3 eq2 eM4
  obtain ⟨⟨hr6, n5, hs7⟩, h_2⟩ := h_1
  refine fw_putP (x := (some q1)) (kd := 2) (k := 2) (show decode _ _ = .ok (.putfield 11, 3) by decide +kernel) ⟨gf_X2_11, _, rfl, Or.inr ⟨rfl, rfl, rfl⟩⟩ hr6 hs7 rfl ?_
  refine FW.nmM (fun M8 eM9 => ?_)
  have h_3 := h_2 M8 eM9
  refine fw_aload_n (i := 0) 0 rfl (show decode _ _ = .ok (.aload_n 0, 1) by decide +kernel) ?_
  refine fw_sipush (v := (160 : Int32)) (show decode _ _ = .ok (.sipush 160, 3) by decide +kernel) (by decide) ?_
  refine fw_newa 12 (show decode _ _ = .ok (.newarray .int, 2) by decide +kernel) (by decide) (by decide) (by decide) (by decide) (by decide) wd179 ?_
  refine FW.room (bc' := 1) (bs' := 10) (by decide) (by decide) ?_
  refine FW.nmN (fun q10 eq11 => ?_)
  refine FW.nmM (fun M12 eM13 => ?_)
  have h_4 := h_3 q10 M12 eq11 eM13
  refine fw_putP (x := (some q10)) (kd := 2) (k := 3) (show decode _ _ = .ok (.putfield 15, 3) by decide +kernel) ⟨gf_X2_15, _, rfl, Or.inr ⟨rfl, rfl, rfl⟩⟩ hr6 (mSw_N eM13 (mSw_P eM9 hs7)) rfl ?_
  refine FW.nmM (fun M14 eM15 => ?_)
  have h_5 := h_4 M14 eM15
  refine fw_aload_n (i := 0) 0 rfl (show decode _ _ = .ok (.aload_n 0, 1) by decide +kernel) ?_
  refine fw_bipush (v := (10 : Int32)) (show decode _ _ = .ok (.bipush 10, 2) by decide +kernel) (by decide) ?_
  refine fw_newa 12 (show decode _ _ = .ok (.newarray .int, 2) by decide +kernel) (by decide) (by decide) (by decide) (by decide) (by decide) wd179 ?_
  refine FW.room (bc' := 0) (bs' := 0) (by decide) (by decide) ?_
  refine FW.nmN (fun q16 eq17 => ?_)
  refine FW.nmM (fun M18 eM19 => ?_)
  have h_6 := h_5 q16 M18 eq17 eM19
  refine fw_putP (x := (some q16)) (kd := 2) (k := 4) (show decode _ _ = .ok (.putfield 18, 3) by decide +kernel) ⟨gf_X2_18, _, rfl, Or.inr ⟨rfl, rfl, rfl⟩⟩ hr6 (mSw_N eM19 (mSw_P eM15 (mSw_N eM13 (mSw_P eM9 hs7)))) rfl ?_
  refine FW.nmM (fun M20 eM21 => ?_)
  have h_7 := h_6 M20 eM21
  refine fw_aload_n (i := 0) 0 rfl (show decode _ _ = .ok (.aload_n 0, 1) by decide +kernel) ?_
  refine fw_aload_n (i := 1) 1 rfl (show decode _ _ = .ok (.aload_n 1, 1) by decide +kernel) ?_
  refine fw_putP (x := (some p1)) (kd := 2) (k := 0) (show decode _ _ = .ok (.putfield 21, 3) by decide +kernel) ⟨gf_X2_21, _, rfl, Or.inr ⟨rfl, rfl, rfl⟩⟩ hr6 (mSw_P eM21 (mSw_N eM19 (mSw_P eM15 (mSw_N eM13 (mSw_P eM9 hs7))))) rfl ?_
  refine FW.nmM (fun M22 eM23 => ?_)
  have h_8 := h_7 M22 eM23
  refine fw_aload_n (i := 0) 0 rfl (show decode _ _ = .ok (.aload_n 0, 1) by decide +kernel) ?_
  refine fw_aload_n (i := 2) 2 rfl (show decode _ _ = .ok (.aload_n 2, 1) by decide +kernel) ?_
  refine fw_putP (x := (some p2)) (kd := 2) (k := 1) (show decode _ _ = .ok (.putfield 25, 3) by decide +kernel) ⟨gf_X2_25, _, rfl, Or.inr ⟨rfl, rfl, rfl⟩⟩ hr6 (mSw_P eM23 (mSw_P eM21 (mSw_N eM19 (mSw_P eM15 (mSw_N eM13 (mSw_P eM9 hs7)))))) rfl ?_
  refine FW.nmM (fun M24 eM25 => ?_)
  have h_9 := h_8 M24 eM25
  exact fw_ret (v := none) .return_ (show decode _ _ = .ok (.return_, 1) by decide +kernel) ⟨rfl, rfl⟩ ⟨rfl, h_9⟩
def w_X10_init (p0 : Nat) (M : fM) (φ : fM → Prop) : Prop := nw M 1 5 fun q1 M3 => w_X1_init q1 M3 fun M5 => nw M5 5 18 fun q6 M8 => w_X5_init q6 M8 fun M10 => isO M10 p0 10 ∧ st (wP M10 p0 0 (some q6)) fun M14 => nw M14 5 18 fun q16 M18 => w_X5_init q16 M18 fun M20 => isO M20 p0 10 ∧ st (wP M20 p0 1 (some q16)) fun M24 => nw M24 7 6 fun q26 M28 => w_X7_init q26 M28 fun M30 => isO M30 p0 10 ∧ st (wP M30 p0 2 (some q26)) fun M34 => nw M34 4 14 fun q36 M38 => dR (mP M38 p0 2) fun y40 => w_X4_init q36 y40 M38 fun M42 => isO M42 p0 10 ∧ st (wP M42 p0 3 (some q36)) fun M46 => nw M46 9 2 fun q48 M50 => dR (mP M50 p0 0) fun y52 => w_X9_init q48 y52 q1 M50 fun M54 => isO M54 p0 10 ∧ st (wP M54 p0 4 (some q48)) fun M58 => nw M58 3 13 fun q60 M62 => dR (mP M62 p0 0) fun y64 => w_X3_init q60 y64 q1 M62 fun M66 => isO M66 p0 10 ∧ st (wP M66 p0 5 (some q60)) fun M70 => nw M70 6 3 fun q72 M74 => dR (mP M74 p0 0) fun y76 => w_X6_init q72 y76 q1 M74 fun M78 => isO M78 p0 10 ∧ st (wP M78 p0 6 (some q72)) fun M82 => nw M82 2 5 fun q84 M86 => dR (mP M86 p0 0) fun y88 => w_X2_init q84 y88 q1 M86 fun M90 => isO M90 p0 10 ∧ st (wP M90 p0 7 (some q84)) fun M94 => φ M94
set_option maxRecDepth 100000 in
theorem s_X10_init {g : GT} {d : Nat} (hd : 4 ≤ d) {p0 : Nat} {M : fM} {φ : fM → Prop} (h : w_X10_init p0 M φ) : FC g mtX10_init d [.ref p0] M 63 7952 (rV φ) := by
  obtain ⟨d, rfl⟩ : ∃ e, d = e + 1 := ⟨d - 1, by omega⟩
  unfold w_X10_init at h
  refine FC.intro (nL := 2) (by decide) rfl (Nat.le_of_ble_eq_true rfl) ?_
  show FW g mtX10_init (d + 1) 0 [(0, .ref p0)] [] M 63 7952 (rV φ)
  refine fw_aload_n (i := 0) 0 rfl (show decode _ _ = .ok (.aload_n 0, 1) by decide +kernel) ?_
  refine fw_objInit (idx := 1) (rest := []) (show decode _ _ = .ok (.invokespecial 1, 3) by decide +kernel) ⟨wd154, wd155, wd156⟩ (Nat.le_of_ble_eq_true rfl) ?_
  refine fw_new (kd := 1) (len := 5) (show decode _ _ = .ok (.new 7, 3) by decide +kernel) cl_X10_7 (by decide) (by decide) ?_
  refine FW.room (bc' := 62) (bs' := 7947) (by decide) (by decide) ?_
  refine FW.nmN (fun q1 eq2 => ?_)
  refine FW.nmM (fun M3 eM4 => ?_)
  have h_1 := h q1 M3 eq2 eM4
  refine fw_dup (show decode _ _ = .ok (.dup, 1) by decide +kernel) rfl ?_
  refine fw_callIN (mt' := mtX1_init) (mc := 2) (ms := 310) (As := []) (rest := [.ref q1]) 0 "OneStepMore" (show decode _ _ = .ok (.invokespecial 9, 3) by decide +kernel) ni_X10_9 rfl (Nat.le_of_ble_eq_true rfl) (s_X1_init (d := d) (hd_le hd (by decide)) h_1) (by decide) (by decide) (kV (bc' := 60) (bs' := 7637) (by decide) (by decide) (fun M5 h_2 => ?_))
  refine fw_astore_n (i := 1) (ls' := [(1, .ref q1), (0, .ref p0)]) (show decode _ _ = .ok (.astore_n 1, 1) by decide +kernel) (by decide) rfl ?_
  refine fw_aload_n (i := 0) 1 rfl (show decode _ _ = .ok (.aload_n 0, 1) by decide +kernel) ?_
  refine fw_new (kd := 5) (len := 18) (show decode _ _ = .ok (.new 10, 3) by decide +kernel) cl_X10_10 (by decide) (by decide) ?_
  refine FW.room (bc' := 59) (bs' := 7619) (by decide) (by decide) ?_
  refine FW.nmN (fun q6 eq7 => ?_)
  refine FW.nmM (fun M8 eM9 => ?_)
  have h_3 := h_2 q6 M8 eq7 eM9
  refine fw_dup (show decode _ _ = .ok (.dup, 1) by decide +kernel) rfl ?_
  refine fw_callI (mt' := mtX5_init) (mc := 17) (ms := 2540) (As := []) (rest := [.ref q6, .ref p0]) 0 (show decode _ _ = .ok (.invokespecial 12, 3) by decide +kernel) ci_X10_12 rfl (Nat.le_of_ble_eq_true rfl) (s_X5_init (d := d) (hd_le hd (by decide)) h_3) (by decide) (by decide) (kV (bc' := 42) (bs' := 5079) (by decide) (by decide) (fun M10 h_4 => ?_))
  obtain ⟨⟨hr12, n11, hs13⟩, h_5⟩ := h_4
  refine fw_putP (x := (some q6)) (kd := 10) (k := 0) (show decode _ _ = .ok (.putfield 13, 3) by decide +kernel) ⟨gf_X10_13, _, rfl, Or.inr ⟨rfl, rfl, rfl⟩⟩ hr12 hs13 rfl ?_
  refine FW.nmM (fun M14 eM15 => ?_)
  have h_6 := h_5 M14 eM15
  refine fw_aload_n (i := 0) 1 rfl (show decode _ _ = .ok (.aload_n 0, 1) by decide +kernel) ?_
  refine fw_new (kd := 5) (len := 18) (show decode _ _ = .ok (.new 10, 3) by decide +kernel) cl_X10_10 (by decide) (by decide) ?_
  refine FW.room (bc' := 41) (bs' := 5061) (by decide) (by decide) ?_
  refine FW.nmN (fun q16 eq17 => ?_)
  refine FW.nmM (fun M18 eM19 => ?_)
  have h_7 := h_6 q16 M18 eq17 eM19
  refine fw_dup (show decode _ _ = .ok (.dup, 1) by decide +kernel) rfl ?_
  refine fw_callI (mt' := mtX5_init) (mc := 17) (ms := 2540) (As := []) (rest := [.ref q16, .ref p0]) 0 (show decode _ _ = .ok (.invokespecial 12, 3) by decide +kernel) ci_X10_12 rfl (Nat.le_of_ble_eq_true rfl) (s_X5_init (d := d) (hd_le hd (by decide)) h_7) (by decide) (by decide) (kV (bc' := 24) (bs' := 2521) (by decide) (by decide) (fun M20 h_8 => ?_))
  obtain ⟨⟨hr22, n21, hs23⟩, h_9⟩ := h_8
  refine fw_putP (x := (some q16)) (kd := 10) (k := 1) (show decode _ _ = .ok (.putfield 19, 3) by decide +kernel) ⟨gf_X10_19, _, rfl, Or.inr ⟨rfl, rfl, rfl⟩⟩ hr22 hs23 rfl ?_
  refine FW.nmM (fun M24 eM25 => ?_)
  have h_10 := h_9 M24 eM25
  refine fw_aload_n (i := 0) 1 rfl (show decode _ _ = .ok (.aload_n 0, 1) by decide +kernel) ?_
  refine fw_new (kd := 7) (len := 6) (show decode _ _ = .ok (.new 22, 3) by decide +kernel) cl_X10_22 (by decide) (by decide) ?_
  refine FW.room (bc' := 23) (bs' := 2515) (by decide) (by decide) ?_
  refine FW.nmN (fun q26 eq27 => ?_)
  refine FW.nmM (fun M28 eM29 => ?_)
  have h_11 := h_10 q26 M28 eq27 eM29
  refine fw_dup (show decode _ _ = .ok (.dup, 1) by decide +kernel) rfl ?_
  refine fw_callIN (mt' := mtX7_init) (mc := 4) (ms := 1203) (As := []) (rest := [.ref q26, .ref p0]) 0 "OneStepMore" (show decode _ _ = .ok (.invokespecial 24, 3) by decide +kernel) ni_X10_24 rfl (Nat.le_of_ble_eq_true rfl) (s_X7_init (d := d) (hd_le hd (by decide)) h_11) (by decide) (by decide) (kV (bc' := 19) (bs' := 1312) (by decide) (by decide) (fun M30 h_12 => ?_))
  obtain ⟨⟨hr32, n31, hs33⟩, h_13⟩ := h_12
  refine fw_putP (x := (some q26)) (kd := 10) (k := 2) (show decode _ _ = .ok (.putfield 25, 3) by decide +kernel) ⟨gf_X10_25, _, rfl, Or.inr ⟨rfl, rfl, rfl⟩⟩ hr32 hs33 rfl ?_
  refine FW.nmM (fun M34 eM35 => ?_)
  have h_14 := h_13 M34 eM35
  refine fw_aload_n (i := 0) 1 rfl (show decode _ _ = .ok (.aload_n 0, 1) by decide +kernel) ?_
  refine fw_new (kd := 4) (len := 14) (show decode _ _ = .ok (.new 29, 3) by decide +kernel) cl_X10_29 (by decide) (by decide) ?_
  refine FW.room (bc' := 18) (bs' := 1298) (by decide) (by decide) ?_
  refine FW.nmN (fun q36 eq37 => ?_)
  refine FW.nmM (fun M38 eM39 => ?_)
  have h_15 := h_14 q36 M38 eq37 eM39
  refine fw_dup (show decode _ _ = .ok (.dup, 1) by decide +kernel) rfl ?_
  refine fw_aload_n (i := 0) 1 rfl (show decode _ _ = .ok (.aload_n 0, 1) by decide +kernel) ?_
  refine fw_getP (kd := 10) (k := 2) (show decode _ _ = .ok (.getfield 25, 3) by decide +kernel) gf_X10_25 hr32 (mSw_N eM39 (mSw_P eM35 hs33)) rfl ?_
  have h_16 := dR_e h_15
  obtain ⟨y40, hy41, h_17⟩ := h_16
  refine fw_deref hy41 ?_
  refine fw_callI (mt' := mtX4_init) (mc := 5) (ms := 406) (As := [.ref y40]) (rest := [.ref q36, .ref p0]) 1 (show decode _ _ = .ok (.invokespecial 31, 3) by decide +kernel) ci_X10_31 rfl (Nat.le_of_ble_eq_true rfl) (s_X4_init (d := d) (hd_le hd (by decide)) h_17) (by decide) (by decide) (kV (bc' := 13) (bs' := 892) (by decide) (by decide) (fun M42 h_18 => ?_))
  obtain ⟨⟨hr44, n43, hs45⟩, h_19⟩ := h_18
  refine fw_putP (x := (some q36)) (kd := 10) (k := 3) (show decode _ _ = .ok (.putfield 34, 3) by decide +kernel) ⟨gf_X10_34, _, rfl, Or.inr ⟨rfl, rfl, rfl⟩⟩ hr44 hs45 rfl ?_
  refine FW.nmM (fun M46 eM47 => ?_)
  have h_20 := h_19 M46 eM47
  refine fw_aload_n (i := 0) 1 rfl (show decode _ _ = .ok (.aload_n 0, 1) by decide +kernel) ?_
  refine fw_new (kd := 9) (len := 2) (show decode _ _ = .ok (.new 38, 3) by decide +kernel) cl_X10_38 (by decide) (by decide) ?_
  refine FW.room (bc' := 12) (bs' := 890) (by decide) (by decide) ?_
  refine FW.nmN (fun q48 eq49 => ?_)
  refine FW.nmM (fun M50 eM51 => ?_)
  have h_21 := h_20 q48 M50 eq49 eM51
  refine fw_dup (show decode _ _ = .ok (.dup, 1) by decide +kernel) rfl ?_
  refine fw_aload_n (i := 0) 1 rfl (show decode _ _ = .ok (.aload_n 0, 1) by decide +kernel) ?_
  refine fw_getP (kd := 10) (k := 0) (show decode _ _ = .ok (.getfield 13, 3) by decide +kernel) gf_X10_13 hr44 (mSw_N eM51 (mSw_P eM47 hs45)) rfl ?_
  have h_22 := dR_e h_21
  obtain ⟨y52, hy53, h_23⟩ := h_22
  refine fw_deref hy53 ?_
  refine fw_aload_n (i := 1) 0 rfl (show decode _ _ = .ok (.aload_n 1, 1) by decide +kernel) ?_
  refine fw_callI (mt' := mtX9_init) (mc := 0) (ms := 0) (As := [.ref y52, .ref q1]) (rest := [.ref q48, .ref p0]) 2 (show decode _ _ = .ok (.invokespecial 40, 3) by decide +kernel) ci_X10_40 rfl (Nat.le_of_ble_eq_true rfl) (s_X9_init (d := d) (hd_le hd (by decide)) h_23) (by decide) (by decide) (kV (bc' := 12) (bs' := 890) (by decide) (by decide) (fun M54 h_24 => ?_))
  obtain ⟨⟨hr56, n55, hs57⟩, h_25⟩ := h_24
  refine fw_putP (x := (some q48)) (kd := 10) (k := 4) (show decode _ _ = .ok (.putfield 43, 3) by decide +kernel) ⟨gf_X10_43, _, rfl, Or.inr ⟨rfl, rfl, rfl⟩⟩ hr56 hs57 rfl ?_
  refine FW.nmM (fun M58 eM59 => ?_)
  have h_26 := h_25 M58 eM59
  refine fw_aload_n (i := 0) 1 rfl (show decode _ _ = .ok (.aload_n 0, 1) by decide +kernel) ?_
  refine fw_new (kd := 3) (len := 13) (show decode _ _ = .ok (.new 47, 3) by decide +kernel) cl_X10_47 (by decide) (by decide) ?_
  refine FW.room (bc' := 11) (bs' := 877) (by decide) (by decide) ?_
  refine FW.nmN (fun q60 eq61 => ?_)
  refine FW.nmM (fun M62 eM63 => ?_)
  have h_27 := h_26 q60 M62 eq61 eM63
  refine fw_dup (show decode _ _ = .ok (.dup, 1) by decide +kernel) rfl ?_
  refine fw_aload_n (i := 0) 1 rfl (show decode _ _ = .ok (.aload_n 0, 1) by decide +kernel) ?_
  refine fw_getP (kd := 10) (k := 0) (show decode _ _ = .ok (.getfield 13, 3) by decide +kernel) gf_X10_13 hr56 (mSw_N eM63 (mSw_P eM59 hs57)) rfl ?_
  have h_28 := dR_e h_27
  obtain ⟨y64, hy65, h_29⟩ := h_28
  refine fw_deref hy65 ?_
  refine fw_aload_n (i := 1) 0 rfl (show decode _ _ = .ok (.aload_n 1, 1) by decide +kernel) ?_
  refine fw_callI (mt' := mtX3_init) (mc := 5) (ms := 535) (As := [.ref y64, .ref q1]) (rest := [.ref q60, .ref p0]) 2 (show decode _ _ = .ok (.invokespecial 49, 3) by decide +kernel) ci_X10_49 rfl (Nat.le_of_ble_eq_true rfl) (s_X3_init (d := d) (hd_le hd (by decide)) h_29) (by decide) (by decide) (kV (bc' := 6) (bs' := 342) (by decide) (by decide) (fun M66 h_30 => ?_))
  obtain ⟨⟨hr68, n67, hs69⟩, h_31⟩ := h_30
  refine fw_putP (x := (some q60)) (kd := 10) (k := 5) (show decode _ _ = .ok (.putfield 50, 3) by decide +kernel) ⟨gf_X10_50, _, rfl, Or.inr ⟨rfl, rfl, rfl⟩⟩ hr68 hs69 rfl ?_
  refine FW.nmM (fun M70 eM71 => ?_)
  have h_32 := h_31 M70 eM71
  refine fw_aload_n (i := 0) 1 rfl (show decode _ _ = .ok (.aload_n 0, 1) by decide +kernel) ?_
  refine fw_new (kd := 6) (len := 3) (show decode _ _ = .ok (.new 54, 3) by decide +kernel) cl_X10_54 (by decide) (by decide) ?_
  refine FW.room (bc' := 5) (bs' := 339) (by decide) (by decide) ?_
  refine FW.nmN (fun q72 eq73 => ?_)
  refine FW.nmM (fun M74 eM75 => ?_)
  have h_33 := h_32 q72 M74 eq73 eM75
  refine fw_dup (show decode _ _ = .ok (.dup, 1) by decide +kernel) rfl ?_
  refine fw_aload_n (i := 0) 1 rfl (show decode _ _ = .ok (.aload_n 0, 1) by decide +kernel) ?_
  refine fw_getP (kd := 10) (k := 0) (show decode _ _ = .ok (.getfield 13, 3) by decide +kernel) gf_X10_13 hr68 (mSw_N eM75 (mSw_P eM71 hs69)) rfl ?_
  have h_34 := dR_e h_33
  obtain ⟨y76, hy77, h_35⟩ := h_34
  refine fw_deref hy77 ?_
  refine fw_aload_n (i := 1) 0 rfl (show decode _ _ = .ok (.aload_n 1, 1) by decide +kernel) ?_
  refine fw_callI (mt' := mtX6_init) (mc := 1) (ms := 4) (As := [.ref y76, .ref q1]) (rest := [.ref q72, .ref p0]) 2 (show decode _ _ = .ok (.invokespecial 56, 3) by decide +kernel) ci_X10_56 rfl (Nat.le_of_ble_eq_true rfl) (s_X6_init (d := d) (hd_le hd (by decide)) h_35) (by decide) (by decide) (kV (bc' := 4) (bs' := 335) (by decide) (by decide) (fun M78 h_36 => ?_))
  obtain ⟨⟨hr80, n79, hs81⟩, h_37⟩ := h_36
  refine fw_putP (x := (some q72)) (kd := 10) (k := 6) (show decode _ _ = .ok (.putfield 57, 3) by decide +kernel) ⟨gf_X10_57, _, rfl, Or.inr ⟨rfl, rfl, rfl⟩⟩ hr80 hs81 rfl ?_
  refine FW.nmM (fun M82 eM83 => ?_)
  have h_38 := h_37 M82 eM83
  refine fw_aload_n (i := 0) 1 rfl (show decode _ _ = .ok (.aload_n 0, 1) by decide +kernel) ?_
  refine fw_new (kd := 2) (len := 5) (show decode _ _ = .ok (.new 61, 3) by decide +kernel) cl_X10_61 (by decide) (by decide) ?_
  refine FW.room (bc' := 3) (bs' := 330) (by decide) (by decide) ?_
  refine FW.nmN (fun q84 eq85 => ?_)
  refine FW.nmM (fun M86 eM87 => ?_)
  have h_39 := h_38 q84 M86 eq85 eM87
  refine fw_dup (show decode _ _ = .ok (.dup, 1) by decide +kernel) rfl ?_
  refine fw_aload_n (i := 0) 1 rfl (show decode _ _ = .ok (.aload_n 0, 1) by decide +kernel) ?_
  refine fw_getP (kd := 10) (k := 0) (show decode _ _ = .ok (.getfield 13, 3) by decide +kernel) gf_X10_13 hr80 (mSw_N eM87 (mSw_P eM83 hs81)) rfl ?_
  have h_40 := dR_e h_39
  obtain ⟨y88, hy89, h_41⟩ := h_40
  refine fw_deref hy89 ?_
  refine fw_aload_n (i := 1) 0 rfl (show decode _ _ = .ok (.aload_n 1, 1) by decide +kernel) ?_
  refine fw_callI (mt' := mtX2_init) (mc := 3) (ms := 330) (As := [.ref y88, .ref q1]) (rest := [.ref q84, .ref p0]) 2 (show decode _ _ = .ok (.invokespecial 63, 3) by decide +kernel) ci_X10_63 rfl (Nat.le_of_ble_eq_true rfl) (s_X2_init (d := d) (hd_le hd (by decide)) h_41) (by decide) (by decide) (kV (bc' := 0) (bs' := 0) (by decide) (by decide) (fun M90 h_42 => ?_))
  obtain ⟨⟨hr92, n91, hs93⟩, h_43⟩ := h_42
  refine fw_putP (x := (some q84)) (kd := 10) (k := 7) (show decode _ _ = .ok (.putfield 64, 3) by decide +kernel) ⟨gf_X10_64, _, rfl, Or.inr ⟨rfl, rfl, rfl⟩⟩ hr92 hs93 rfl ?_
  refine FW.nmM (fun M94 eM95 => ?_)
  have h_44 := h_43 M94 eM95
  exact fw_ret (v := none) .return_ (show decode _ _ = .ok (.return_, 1) by decide +kernel) ⟨rfl, rfl⟩ ⟨rfl, h_44⟩
def w_X10_isSeed (p0 : Int32) (M : fM) (φ : Int32 → fM → Prop) : Prop := iF (p0 < 0) (φ (0 : Int32) M) (iF ((10000 : Int32) ≤ p0) (φ (0 : Int32) M) (φ (1 : Int32) M))
set_option maxRecDepth 100000 in
theorem s_X10_isSeed {g : GT} {d : Nat} (hd : 1 ≤ d) {p0 : Int32} {M : fM} {φ : Int32 → fM → Prop} (h : w_X10_isSeed p0 M φ) : FC g mtX10_isSeed d [.int p0] M 0 0 (rI φ) := by
  obtain ⟨d, rfl⟩ : ∃ e, d = e + 1 := ⟨d - 1, by omega⟩
  unfold w_X10_isSeed at h
  refine FC.intro (nL := 1) (by decide) rfl (Nat.le_of_ble_eq_true rfl) ?_
  show FW g mtX10_isSeed (d + 1) 0 [(0, .int p0)] [] M 0 0 (rI φ)
  refine fw_iload_n (i := 0) 0 rfl (show decode _ _ = .ok (.iload_n 0, 1) by decide +kernel) ?_
  refine fw_if_lt 15 (show decode _ _ = .ok (.ifCond .lt 14, 3) by decide +kernel) (by decide) (fun hc2 => ?_) (fun hc2 => ?_)
  · have h_1 := ipos hc2 h
    refine fw_iconst (v := (0 : Int32)) (show decode _ _ = .ok (.iconst 0, 1) by decide +kernel) (by decide) ?_
    exact fw_ret (v := some (.int (0 : Int32))) .ireturn (show decode _ _ = .ok (.ireturn, 1) by decide +kernel) ⟨rfl, Or.inr (Or.inl ⟨rfl, rfl⟩)⟩ ⟨_, rfl, h_1⟩
  · have h_2 := ineg hc2 h
    refine fw_iload_n (i := 0) 0 rfl (show decode _ _ = .ok (.iload_n 0, 1) by decide +kernel) ?_
    refine fw_sipush (v := (10000 : Int32)) (show decode _ _ = .ok (.sipush 10000, 3) by decide +kernel) (by decide) ?_
    refine fw_icmp_ge 15 (show decode _ _ = .ok (.if_icmp .ge 7, 3) by decide +kernel) (by decide) (fun hc1 => ?_) (fun hc1 => ?_)
    · have h_3 := ipos hc1 h_2
      refine fw_iconst (v := (0 : Int32)) (show decode _ _ = .ok (.iconst 0, 1) by decide +kernel) (by decide) ?_
      exact fw_ret (v := some (.int (0 : Int32))) .ireturn (show decode _ _ = .ok (.ireturn, 1) by decide +kernel) ⟨rfl, Or.inr (Or.inl ⟨rfl, rfl⟩)⟩ ⟨_, rfl, h_3⟩
    · have h_4 := ineg hc1 h_2
      refine fw_iconst (v := (1 : Int32)) (show decode _ _ = .ok (.iconst 1, 1) by decide +kernel) (by decide) ?_
      refine fw_goto 16 (show decode _ _ = .ok (.goto 4, 3) by decide +kernel) (by decide) ?_
      exact fw_ret (v := some (.int (1 : Int32))) .ireturn (show decode _ _ = .ok (.ireturn, 1) by decide +kernel) ⟨rfl, Or.inr (Or.inl ⟨rfl, rfl⟩)⟩ ⟨_, rfl, h_4⟩
def w_X3_ceiling (p0 : Int64) (p2 : Int64) (M : fM) (φ : Int64 → fM → Prop) : Prop := iF ((lg_cmp p2 (0 : Int64)) = 0) (φ (0 : Int64) M) (¬ p2 = 0 ∧ φ (((p0 + p2) - (1 : Int64)) / p2) M)
set_option maxRecDepth 100000 in
theorem s_X3_ceiling {g : GT} {d : Nat} (hd : 1 ≤ d) {p0 : Int64} {p2 : Int64} {M : fM} {φ : Int64 → fM → Prop} (h : w_X3_ceiling p0 p2 M φ) : FC g mtX3_ceiling d [.long p0, .long p2] M 0 0 (rJ φ) := by
  obtain ⟨d, rfl⟩ : ∃ e, d = e + 1 := ⟨d - 1, by omega⟩
  unfold w_X3_ceiling at h
  refine FC.intro (nL := 4) (by decide) rfl (Nat.le_of_ble_eq_true rfl) ?_
  show FW g mtX3_ceiling (d + 1) 0 [(0, .long p0), (2, .long p2)] [] M 0 0 (rJ φ)
  refine fw_lload_n (i := 2) 1 rfl (show decode _ _ = .ok (.lload_n 2, 1) by decide +kernel) ?_
  refine fw_lconst (v := (0 : Int64)) (show decode _ _ = .ok (.lconst 0, 1) by decide +kernel) (by decide) ?_
  refine fw_lcmp (show decode _ _ = .ok (.lcmp, 1) by decide +kernel) ?_
  refine fw_if_ne 10 (show decode _ _ = .ok (.ifCond .ne 7, 3) by decide +kernel) (by decide) (fun hc2 => ?_) (fun hc2 => ?_)
  · have h_1 := ineg hc2 h
    refine fw_lload_n (i := 0) 0 rfl (show decode _ _ = .ok (.lload_n 0, 1) by decide +kernel) ?_
    refine fw_lload_n (i := 2) 1 rfl (show decode _ _ = .ok (.lload_n 2, 1) by decide +kernel) ?_
    refine fw_ladd (show decode _ _ = .ok (.ladd, 1) by decide +kernel) ?_
    refine fw_lconst (v := (1 : Int64)) (show decode _ _ = .ok (.lconst 1, 1) by decide +kernel) (by decide) ?_
    refine fw_lsub (show decode _ _ = .ok (.lsub, 1) by decide +kernel) ?_
    refine fw_lload_n (i := 2) 1 rfl (show decode _ _ = .ok (.lload_n 2, 1) by decide +kernel) ?_
    obtain ⟨hne1, h_2⟩ := h_1
    refine fw_ldiv (show decode _ _ = .ok (.ldiv, 1) by decide +kernel) hne1 ?_
    exact fw_ret (v := some (.long (((p0 + p2) - (1 : Int64)) / p2))) .lreturn (show decode _ _ = .ok (.lreturn, 1) by decide +kernel) ⟨rfl, rfl⟩ ⟨_, rfl, h_2⟩
  · have h_3 := ipos hc2 h
    refine fw_lconst (v := (0 : Int64)) (show decode _ _ = .ok (.lconst 0, 1) by decide +kernel) (by decide) ?_
    refine fw_goto 17 (show decode _ _ = .ok (.goto 10, 3) by decide +kernel) (by decide) ?_
    exact fw_ret (v := some (.long (0 : Int64))) .lreturn (show decode _ _ = .ok (.lreturn, 1) by decide +kernel) ⟨rfl, rfl⟩ ⟨_, rfl, h_3⟩
def b_X3_lampNights_25 (K13 : Nat → Int32 → Int32 → Int64 → Int32 → fM → Prop) (K25 : Nat → Int32 → Int32 → Int64 → Int32 → Int32 → fM → Prop) (φ : Int32 → fM → Prop) (p0 : Nat) (p1 : Int32) (p2 : Int32) (p3 : Int64) (p5 : Int32) (p6 : Int32) (M : fM) : Prop := isO M p0 3 ∧ iF ((mI M p0 0) ≤ p6) (nm (p5 + (1 : Int32)) fun x4 => K13 p0 p1 p2 p3 x4 M) (w_X3_evenChance p0 p5 p6 M fun x7 M6 => isO M6 p0 3 ∧ dR (mP M6 p0 9) fun y11 => w_X10_cell y11 p5 M6 fun x14 M13 => nm (p3 + (x7 * (Int32.toInt64 x14))) fun x15 => nm (p6 + (1 : Int32)) fun x17 => K25 p0 p1 p2 x15 p5 x17 M13)
def l_X3_lampNights_25 (K13 : Nat → Int32 → Int32 → Int64 → Int32 → fM → Prop) (φ : Int32 → fM → Prop) : Nat → Nat → Int32 → Int32 → Int64 → Int32 → Int32 → fM → Prop
  | 0, _, _, _, _, _, _, _ => False
  | n + 1, p0, p1, p2, p3, p5, p6, M => b_X3_lampNights_25 K13 (l_X3_lampNights_25 K13 φ n) φ p0 p1 p2 p3 p5 p6 M
set_option maxRecDepth 100000 in
theorem sb_X3_lampNights_25 {g : GT} {d : Nat} (hd : 5 ≤ d + 1) {K13 : Nat → Int32 → Int32 → Int64 → Int32 → fM → Prop} {K25 : Nat → Int32 → Int32 → Int64 → Int32 → Int32 → fM → Prop} {φ : Int32 → fM → Prop} (hK13 : ∀ (p0 : Nat) (p1 : Int32) (p2 : Int32) (p3 : Int64) (p5 : Int32) (M : fM), K13 p0 p1 p2 p3 p5 M → FW g mtX3_lampNights (d + 1) 13 [(0, .ref p0), (1, .int p1), (2, .int p2), (3, .long p3), (5, .int p5)] [] M 0 0 (rI φ)) (hK25 : ∀ (p0 : Nat) (p1 : Int32) (p2 : Int32) (p3 : Int64) (p5 : Int32) (p6 : Int32) (M : fM), K25 p0 p1 p2 p3 p5 p6 M → FW g mtX3_lampNights (d + 1) 25 [(0, .ref p0), (1, .int p1), (2, .int p2), (3, .long p3), (5, .int p5), (6, .int p6)] [] M 0 0 (rI φ)) {p0 : Nat} {p1 : Int32} {p2 : Int32} {p3 : Int64} {p5 : Int32} {p6 : Int32} {M : fM} (h : b_X3_lampNights_25 K13 K25 φ p0 p1 p2 p3 p5 p6 M) : FW g mtX3_lampNights (d + 1) 25 [(0, .ref p0), (1, .int p1), (2, .int p2), (3, .long p3), (5, .int p5), (6, .int p6)] [] M 0 0 (rI φ) := by
  unfold b_X3_lampNights_25 at h
  refine fw_iload (i := 6) 5 rfl (show decode _ _ = .ok (.iload 6, 2) by decide +kernel) ?_
  refine fw_aload_n (i := 0) 0 rfl (show decode _ _ = .ok (.aload_n 0, 1) by decide +kernel) ?_
  obtain ⟨⟨hr2, n1, hs3⟩, h_1⟩ := h
  refine fw_getI (kd := 3) (k := 0) (show decode _ _ = .ok (.getfield 162, 3) by decide +kernel) gf_X3_162 hr2 hs3 (Or.inl rfl) ?_
  refine fw_icmp_ge 62 (show decode _ _ = .ok (.if_icmp .ge 31, 3) by decide +kernel) (by decide) (fun hc19 => ?_) (fun hc19 => ?_)
  · have h_2 := ipos hc19 h_1
    obtain ⟨x4, ex5⟩ : ∃ y : Int32, y = p5 + (1 : Int32) := ⟨_, rfl⟩
    have h_3 := h_2 x4 ex5
    refine fw_iinc (i := 5) (x := p5) (v := x4) (ls' := [(5, .int x4), (0, .ref p0), (1, .int p1), (2, .int p2), (3, .long p3), (6, .int p6)]) 4 rfl (show decode _ _ = .ok (.iinc 5 1, 3) by decide +kernel) (by rw [ex5]; rfl) (by decide) rfl ?_
    refine fw_goto 13 (show decode _ _ = .ok (.goto (-52), 3) by decide +kernel) (by decide) ?_
    refine FW.sub [1, 2, 3, 4, 0] (ls' := [(0, .ref p0), (1, .int p1), (2, .int p2), (3, .long p3), (5, .int x4)]) rfl ?_
    exact hK13 _ _ _ _ _ _ h_3
  · have h_4 := ineg hc19 h_1
    refine fw_lload_n (i := 3) 3 rfl (show decode _ _ = .ok (.lload_n 3, 1) by decide +kernel) ?_
    refine fw_aload_n (i := 0) 0 rfl (show decode _ _ = .ok (.aload_n 0, 1) by decide +kernel) ?_
    refine fw_iload (i := 5) 4 rfl (show decode _ _ = .ok (.iload 5, 2) by decide +kernel) ?_
    refine fw_iload (i := 6) 5 rfl (show decode _ _ = .ok (.iload 6, 2) by decide +kernel) ?_
    refine fw_callV (mt' := mtX3_evenChance) (mc := 0) (ms := 0) (As := [.int p5, .int p6]) (rest := [.long p3]) 2 3 n1 (show decode _ _ = .ok (.invokevirtual 148, 3) by decide +kernel) cv_X3_148 ⟨_, rfl, rfl⟩ hr2 hs3 rfl (Nat.le_of_ble_eq_true rfl) (s_X3_evenChance (d := d) (hd_le hd (by decide)) h_4) (by decide) (by decide) (kJ (bc' := 0) (bs' := 0) (by decide) (by decide) (fun x7 M6 h_5 => ?_))
    refine fw_aload_n (i := 0) 0 rfl (show decode _ _ = .ok (.aload_n 0, 1) by decide +kernel) ?_
    obtain ⟨⟨hr9, n8, hs10⟩, h_6⟩ := h_5
    refine fw_getP (kd := 3) (k := 9) (show decode _ _ = .ok (.getfield 18, 3) by decide +kernel) gf_X3_18 hr9 hs10 rfl ?_
    have h_7 := dR_e h_6
    obtain ⟨y11, hy12, h_8⟩ := h_7
    refine fw_deref hy12 ?_
    refine fw_iload (i := 5) 4 rfl (show decode _ _ = .ok (.iload 5, 2) by decide +kernel) ?_
    refine fw_callSN (mt' := mtX10_cell) (mc := 0) (ms := 0) (As := [.ref y11, .int p5]) (rest := [.long x7, .long p3]) 2 "OneStepMore" (show decode _ _ = .ok (.invokestatic 64, 3) by decide +kernel) ns_X3_64 rfl (Nat.le_of_ble_eq_true rfl) (s_X10_cell (d := d) (hd_le hd (by decide)) h_8) (by decide) (by decide) (kI (bc' := 0) (bs' := 0) (by decide) (by decide) (fun x14 M13 h_9 => ?_))
    refine fw_i2l (show decode _ _ = .ok (.i2l, 1) by decide +kernel) ?_
    refine fw_lmul (show decode _ _ = .ok (.lmul, 1) by decide +kernel) ?_
    refine fw_ladd (show decode _ _ = .ok (.ladd, 1) by decide +kernel) ?_
    refine fw_nmJ (fun x15 ex16 => ?_)
    have h_10 := h_9 x15 ex16
    refine fw_lstore_n (i := 3) (ls' := [(3, .long x15), (0, .ref p0), (1, .int p1), (2, .int p2), (5, .int p5), (6, .int p6)]) (show decode _ _ = .ok (.lstore_n 3, 1) by decide +kernel) (by decide) rfl ?_
    obtain ⟨x17, ex18⟩ : ∃ y : Int32, y = p6 + (1 : Int32) := ⟨_, rfl⟩
    have h_11 := h_10 x17 ex18
    refine fw_iinc (i := 6) (x := p6) (v := x17) (ls' := [(6, .int x17), (3, .long x15), (0, .ref p0), (1, .int p1), (2, .int p2), (5, .int p5)]) 5 rfl (show decode _ _ = .ok (.iinc 6 1, 3) by decide +kernel) (by rw [ex18]; rfl) (by decide) rfl ?_
    refine fw_goto 25 (show decode _ _ = .ok (.goto (-34), 3) by decide +kernel) (by decide) ?_
    refine FW.sub [2, 3, 4, 1, 5, 0] (ls' := [(0, .ref p0), (1, .int p1), (2, .int p2), (3, .long x15), (5, .int p5), (6, .int x17)]) rfl ?_
    exact hK25 _ _ _ _ _ _ _ h_11
theorem sl_X3_lampNights_25 {g : GT} {d : Nat} (hd : 5 ≤ d + 1) {K13 : Nat → Int32 → Int32 → Int64 → Int32 → fM → Prop} {φ : Int32 → fM → Prop} (hK13 : ∀ (p0 : Nat) (p1 : Int32) (p2 : Int32) (p3 : Int64) (p5 : Int32) (M : fM), K13 p0 p1 p2 p3 p5 M → FW g mtX3_lampNights (d + 1) 13 [(0, .ref p0), (1, .int p1), (2, .int p2), (3, .long p3), (5, .int p5)] [] M 0 0 (rI φ)) : ∀ (n : Nat) {p0 : Nat} {p1 : Int32} {p2 : Int32} {p3 : Int64} {p5 : Int32} {p6 : Int32} {M : fM}, l_X3_lampNights_25 K13 φ n p0 p1 p2 p3 p5 p6 M → FW g mtX3_lampNights (d + 1) 25 [(0, .ref p0), (1, .int p1), (2, .int p2), (3, .long p3), (5, .int p5), (6, .int p6)] [] M 0 0 (rI φ)
  | 0 => fun h => h.elim
  | n + 1 => fun h => sb_X3_lampNights_25 hd hK13 (fun _ _ _ _ _ _ _ h => sl_X3_lampNights_25 hd hK13 n h) h
def b_X3_lampNights_13 (K13 : Nat → Int32 → Int32 → Int64 → Int32 → fM → Prop) (φ : Int32 → fM → Prop) (p0 : Nat) (p1 : Int32) (p2 : Int32) (p3 : Int64) (p5 : Int32) (M : fM) : Prop := isO M p0 3 ∧ iF ((mI M p0 3) < p5) (iF ((lg_cmp p3 (0 : Int64)) ≤ 0) (φ (-1 : Int32) M) (iF (0 < p1) (w_X3_power ((mI M p0 3) + (1 : Int32)) M fun x24 M23 => w_X3_ceiling ((Int32.toInt64 p2) * x24) p3 M23 fun x26 M25 => w_X3_ceiling x26 (Int32.toInt64 p1) M25 fun x28 M27 => iF ((lg_cmp x28 (9999 : Int64)) ≤ 0) (φ (Int64.toInt32 x28) M27) (φ (-1 : Int32) M27)) (φ (-1 : Int32) M))) (∃ n, l_X3_lampNights_25 K13 φ n p0 p1 p2 p3 p5 (0 : Int32) M)
def l_X3_lampNights_13 (φ : Int32 → fM → Prop) : Nat → Nat → Int32 → Int32 → Int64 → Int32 → fM → Prop
  | 0, _, _, _, _, _, _ => False
  | n + 1, p0, p1, p2, p3, p5, M => b_X3_lampNights_13 (l_X3_lampNights_13 φ n) φ p0 p1 p2 p3 p5 M
set_option maxRecDepth 100000 in
theorem sb_X3_lampNights_13 {g : GT} {d : Nat} (hd : 5 ≤ d + 1) {K13 : Nat → Int32 → Int32 → Int64 → Int32 → fM → Prop} {φ : Int32 → fM → Prop} (hK13 : ∀ (p0 : Nat) (p1 : Int32) (p2 : Int32) (p3 : Int64) (p5 : Int32) (M : fM), K13 p0 p1 p2 p3 p5 M → FW g mtX3_lampNights (d + 1) 13 [(0, .ref p0), (1, .int p1), (2, .int p2), (3, .long p3), (5, .int p5)] [] M 0 0 (rI φ)) {p0 : Nat} {p1 : Int32} {p2 : Int32} {p3 : Int64} {p5 : Int32} {M : fM} (h : b_X3_lampNights_13 K13 φ p0 p1 p2 p3 p5 M) : FW g mtX3_lampNights (d + 1) 13 [(0, .ref p0), (1, .int p1), (2, .int p2), (3, .long p3), (5, .int p5)] [] M 0 0 (rI φ) := by
  unfold b_X3_lampNights_13 at h
  refine fw_iload (i := 5) 4 rfl (show decode _ _ = .ok (.iload 5, 2) by decide +kernel) ?_
  refine fw_aload_n (i := 0) 0 rfl (show decode _ _ = .ok (.aload_n 0, 1) by decide +kernel) ?_
  obtain ⟨⟨hr21, n20, hs22⟩, h_1⟩ := h
  refine fw_getI (kd := 3) (k := 3) (show decode _ _ = .ok (.getfield 52, 3) by decide +kernel) gf_X3_52 hr21 hs22 (Or.inl rfl) ?_
  refine fw_icmp_gt 68 (show decode _ _ = .ok (.if_icmp .gt 49, 3) by decide +kernel) (by decide) (fun hc32 => ?_) (fun hc32 => ?_)
  · have h_2 := ipos hc32 h_1
    refine fw_lload_n (i := 3) 3 rfl (show decode _ _ = .ok (.lload_n 3, 1) by decide +kernel) ?_
    refine fw_lconst (v := (0 : Int64)) (show decode _ _ = .ok (.lconst 0, 1) by decide +kernel) (by decide) ?_
    refine fw_lcmp (show decode _ _ = .ok (.lcmp, 1) by decide +kernel) ?_
    refine fw_if_le 78 (show decode _ _ = .ok (.ifCond .le 7, 3) by decide +kernel) (by decide) (fun hc31 => ?_) (fun hc31 => ?_)
    · have h_3 := ipos hc31 h_2
      refine fw_iconst (v := (-1 : Int32)) (show decode _ _ = .ok (.iconst (-1), 1) by decide +kernel) (by decide) ?_
      exact fw_ret (v := some (.int (-1 : Int32))) .ireturn (show decode _ _ = .ok (.ireturn, 1) by decide +kernel) ⟨rfl, Or.inl rfl⟩ ⟨_, rfl, h_3⟩
    · have h_4 := ineg hc31 h_2
      refine fw_iload_n (i := 1) 1 rfl (show decode _ _ = .ok (.iload_n 1, 1) by decide +kernel) ?_
      refine fw_if_gt 80 (show decode _ _ = .ok (.ifCond .gt 5, 3) by decide +kernel) (by decide) (fun hc30 => ?_) (fun hc30 => ?_)
      · have h_5 := ipos hc30 h_4
        refine fw_iload_n (i := 2) 2 rfl (show decode _ _ = .ok (.iload_n 2, 1) by decide +kernel) ?_
        refine fw_i2l (show decode _ _ = .ok (.i2l, 1) by decide +kernel) ?_
        refine fw_aload_n (i := 0) 0 rfl (show decode _ _ = .ok (.aload_n 0, 1) by decide +kernel) ?_
        refine fw_getI (kd := 3) (k := 3) (show decode _ _ = .ok (.getfield 52, 3) by decide +kernel) gf_X3_52 hr21 hs22 (Or.inl rfl) ?_
        refine fw_iconst (v := (1 : Int32)) (show decode _ _ = .ok (.iconst 1, 1) by decide +kernel) (by decide) ?_
        refine fw_iadd (show decode _ _ = .ok (.iadd, 1) by decide +kernel) ?_
        refine fw_callS (mt' := mtX3_power) (mc := 0) (ms := 0) (As := [.int ((mI M p0 3) + (1 : Int32))]) (rest := [.long (Int32.toInt64 p2)]) 1 (show decode _ _ = .ok (.invokestatic 136, 3) by decide +kernel) cs_X3_136 rfl (Nat.le_of_ble_eq_true rfl) (s_X3_power (d := d) (hd_le hd (by decide)) h_5) (by decide) (by decide) (kJ (bc' := 0) (bs' := 0) (by decide) (by decide) (fun x24 M23 h_6 => ?_))
        refine fw_lmul (show decode _ _ = .ok (.lmul, 1) by decide +kernel) ?_
        refine fw_lload_n (i := 3) 3 rfl (show decode _ _ = .ok (.lload_n 3, 1) by decide +kernel) ?_
        refine fw_callS (mt' := mtX3_ceiling) (mc := 0) (ms := 0) (As := [.long ((Int32.toInt64 p2) * x24), .long p3]) (rest := []) 2 (show decode _ _ = .ok (.invokestatic 178, 3) by decide +kernel) cs_X3_178 rfl (Nat.le_of_ble_eq_true rfl) (s_X3_ceiling (d := d) (hd_le hd (by decide)) h_6) (by decide) (by decide) (kJ (bc' := 0) (bs' := 0) (by decide) (by decide) (fun x26 M25 h_7 => ?_))
        refine fw_iload_n (i := 1) 1 rfl (show decode _ _ = .ok (.iload_n 1, 1) by decide +kernel) ?_
        refine fw_i2l (show decode _ _ = .ok (.i2l, 1) by decide +kernel) ?_
        refine fw_callS (mt' := mtX3_ceiling) (mc := 0) (ms := 0) (As := [.long x26, .long (Int32.toInt64 p1)]) (rest := []) 2 (show decode _ _ = .ok (.invokestatic 178, 3) by decide +kernel) cs_X3_178 rfl (Nat.le_of_ble_eq_true rfl) (s_X3_ceiling (d := d) (hd_le hd (by decide)) h_7) (by decide) (by decide) (kJ (bc' := 0) (bs' := 0) (by decide) (by decide) (fun x28 M27 h_8 => ?_))
        refine fw_lstore (i := 5) (ls' := [(5, .long x28), (0, .ref p0), (1, .int p1), (2, .int p2), (3, .long p3)]) (show decode _ _ = .ok (.lstore 5, 2) by decide +kernel) (by decide) rfl ?_
        refine fw_lload (i := 5) 0 rfl (show decode _ _ = .ok (.lload 5, 2) by decide +kernel) ?_
        refine fw_ldc2 (idx := 182) (v := (9999 : Int64)) (show decode _ _ = .ok (.ldc2_w 182, 3) by decide +kernel) wd1207 ?_
        refine fw_lcmp (show decode _ _ = .ok (.lcmp, 1) by decide +kernel) ?_
        refine fw_if_le 116 (show decode _ _ = .ok (.ifCond .le 7, 3) by decide +kernel) (by decide) (fun hc29 => ?_) (fun hc29 => ?_)
        · have h_9 := ipos hc29 h_8
          refine fw_lload (i := 5) 0 rfl (show decode _ _ = .ok (.lload 5, 2) by decide +kernel) ?_
          refine fw_l2i (show decode _ _ = .ok (.l2i, 1) by decide +kernel) ?_
          exact fw_ret (v := some (.int (Int64.toInt32 x28))) .ireturn (show decode _ _ = .ok (.ireturn, 1) by decide +kernel) ⟨rfl, Or.inl rfl⟩ ⟨_, rfl, h_9⟩
        · have h_10 := ineg hc29 h_8
          refine fw_iconst (v := (-1 : Int32)) (show decode _ _ = .ok (.iconst (-1), 1) by decide +kernel) (by decide) ?_
          refine fw_goto 119 (show decode _ _ = .ok (.goto 6, 3) by decide +kernel) (by decide) ?_
          exact fw_ret (v := some (.int (-1 : Int32))) .ireturn (show decode _ _ = .ok (.ireturn, 1) by decide +kernel) ⟨rfl, Or.inl rfl⟩ ⟨_, rfl, h_10⟩
      · have h_11 := ineg hc30 h_4
        refine fw_iconst (v := (-1 : Int32)) (show decode _ _ = .ok (.iconst (-1), 1) by decide +kernel) (by decide) ?_
        exact fw_ret (v := some (.int (-1 : Int32))) .ireturn (show decode _ _ = .ok (.ireturn, 1) by decide +kernel) ⟨rfl, Or.inl rfl⟩ ⟨_, rfl, h_11⟩
  · have h_12 := ineg hc32 h_1
    refine fw_iconst (v := (0 : Int32)) (show decode _ _ = .ok (.iconst 0, 1) by decide +kernel) (by decide) ?_
    refine fw_istore (i := 6) (ls' := [(6, .int (0 : Int32)), (0, .ref p0), (1, .int p1), (2, .int p2), (3, .long p3), (5, .int p5)]) (show decode _ _ = .ok (.istore 6, 2) by decide +kernel) (by decide) rfl ?_
    refine FW.sub [1, 2, 3, 4, 5, 0] (ls' := [(0, .ref p0), (1, .int p1), (2, .int p2), (3, .long p3), (5, .int p5), (6, .int (0 : Int32))]) rfl ?_
    obtain ⟨nn, h_13⟩ := h_12
    exact sl_X3_lampNights_25 hd hK13 nn h_13
theorem sl_X3_lampNights_13 {g : GT} {d : Nat} (hd : 5 ≤ d + 1) {φ : Int32 → fM → Prop} : ∀ (n : Nat) {p0 : Nat} {p1 : Int32} {p2 : Int32} {p3 : Int64} {p5 : Int32} {M : fM}, l_X3_lampNights_13 φ n p0 p1 p2 p3 p5 M → FW g mtX3_lampNights (d + 1) 13 [(0, .ref p0), (1, .int p1), (2, .int p2), (3, .long p3), (5, .int p5)] [] M 0 0 (rI φ)
  | 0 => fun h => h.elim
  | n + 1 => fun h => sb_X3_lampNights_13 hd (fun _ _ _ _ _ _ h => sl_X3_lampNights_13 hd n h) h
def w_X3_lampNights (p0 : Nat) (p1 : Int32) (p2 : Int32) (M : fM) (φ : Int32 → fM → Prop) : Prop := isO M p0 3 ∧ w_X3_spread p0 M fun M33 => isO M33 p0 3 ∧ w_X3_chooseFrom p0 M33 fun M37 => ∃ n, l_X3_lampNights_13 φ n p0 p1 p2 (0 : Int64) (0 : Int32) M37
set_option maxRecDepth 100000 in
theorem s_X3_lampNights {g : GT} {d : Nat} (hd : 5 ≤ d) {p0 : Nat} {p1 : Int32} {p2 : Int32} {M : fM} {φ : Int32 → fM → Prop} (h : w_X3_lampNights p0 p1 p2 M φ) : FC g mtX3_lampNights d [.ref p0, .int p1, .int p2] M 0 0 (rI φ) := by
  obtain ⟨d, rfl⟩ : ∃ e, d = e + 1 := ⟨d - 1, by omega⟩
  unfold w_X3_lampNights at h
  refine FC.intro (nL := 7) (by decide) rfl (Nat.le_of_ble_eq_true rfl) ?_
  show FW g mtX3_lampNights (d + 1) 0 [(0, .ref p0), (1, .int p1), (2, .int p2)] [] M 0 0 (rI φ)
  refine fw_aload_n (i := 0) 0 rfl (show decode _ _ = .ok (.aload_n 0, 1) by decide +kernel) ?_
  obtain ⟨⟨hr35, n34, hs36⟩, h_1⟩ := h
  refine fw_callV (mt' := mtX3_spread) (mc := 0) (ms := 0) (As := []) (rest := []) 0 3 n34 (show decode _ _ = .ok (.invokevirtual 145, 3) by decide +kernel) cv_X3_145 ⟨_, rfl, rfl⟩ hr35 hs36 rfl (Nat.le_of_ble_eq_true rfl) (s_X3_spread (d := d) (hd_le hd (by decide)) h_1) (by decide) (by decide) (kV (bc' := 0) (bs' := 0) (by decide) (by decide) (fun M33 h_2 => ?_))
  refine fw_aload_n (i := 0) 0 rfl (show decode _ _ = .ok (.aload_n 0, 1) by decide +kernel) ?_
  obtain ⟨⟨hr39, n38, hs40⟩, h_3⟩ := h_2
  refine fw_callV (mt' := mtX3_chooseFrom) (mc := 0) (ms := 0) (As := []) (rest := []) 0 3 n38 (show decode _ _ = .ok (.invokevirtual 169, 3) by decide +kernel) cv_X3_169 ⟨_, rfl, rfl⟩ hr39 hs40 rfl (Nat.le_of_ble_eq_true rfl) (s_X3_chooseFrom (d := d) (hd_le hd (by decide)) h_3) (by decide) (by decide) (kV (bc' := 0) (bs' := 0) (by decide) (by decide) (fun M37 h_4 => ?_))
  refine fw_lconst (v := (0 : Int64)) (show decode _ _ = .ok (.lconst 0, 1) by decide +kernel) (by decide) ?_
  refine fw_lstore_n (i := 3) (ls' := [(3, .long (0 : Int64)), (0, .ref p0), (1, .int p1), (2, .int p2)]) (show decode _ _ = .ok (.lstore_n 3, 1) by decide +kernel) (by decide) rfl ?_
  refine fw_iconst (v := (0 : Int32)) (show decode _ _ = .ok (.iconst 0, 1) by decide +kernel) (by decide) ?_
  refine fw_istore (i := 5) (ls' := [(5, .int (0 : Int32)), (3, .long (0 : Int64)), (0, .ref p0), (1, .int p1), (2, .int p2)]) (show decode _ _ = .ok (.istore 5, 2) by decide +kernel) (by decide) rfl ?_
  refine FW.sub [2, 3, 4, 1, 0] (ls' := [(0, .ref p0), (1, .int p1), (2, .int p2), (3, .long (0 : Int64)), (5, .int (0 : Int32))]) rfl ?_
  obtain ⟨nn, h_5⟩ := h_4
  exact sl_X3_lampNights_13 hd nn h_5
def w_X10_lamp (p0 : Nat) (p1 : Int32) (p2 : Int32) (p3 : Int32) (p4 : Int32) (M : fM) (φ : Int32 → fM → Prop) : Prop := iF (p3 < (1 : Int32)) (φ (-1 : Int32) M) (iF ((99 : Int32) < p3) (φ (-1 : Int32) M) (iF (p4 < (1 : Int32)) (φ (-1 : Int32) M) (iF ((999 : Int32) < p4) (φ (-1 : Int32) M) (isO M p0 10 ∧ dR (mP M p0 5) fun y4 => isO M y4 3 ∧ w_X3_look y4 p1 p2 (0 : Int32) M fun x10 M6 => iF (x10 = 0) (φ (-1 : Int32) M6) (isO M6 p0 10 ∧ dR (mP M6 p0 5) fun y14 => isO M6 y14 3 ∧ w_X3_lampNights y14 p3 p4 M6 fun x20 M16 => φ x20 M16)))))
set_option maxRecDepth 100000 in
theorem s_X10_lamp {g : GT} {d : Nat} (hd : 6 ≤ d) {p0 : Nat} {p1 : Int32} {p2 : Int32} {p3 : Int32} {p4 : Int32} {M : fM} {φ : Int32 → fM → Prop} (h : w_X10_lamp p0 p1 p2 p3 p4 M φ) : FC g mtX10_lamp d [.ref p0, .int p1, .int p2, .int p3, .int p4] M 0 0 (rI φ) := by
  obtain ⟨d, rfl⟩ : ∃ e, d = e + 1 := ⟨d - 1, by omega⟩
  unfold w_X10_lamp at h
  refine FC.intro (nL := 5) (by decide) rfl (Nat.le_of_ble_eq_true rfl) ?_
  show FW g mtX10_lamp (d + 1) 0 [(0, .ref p0), (1, .int p1), (2, .int p2), (3, .int p3), (4, .int p4)] [] M 0 0 (rI φ)
  refine fw_iload_n (i := 3) 3 rfl (show decode _ _ = .ok (.iload_n 3, 1) by decide +kernel) ?_
  refine fw_iconst (v := (1 : Int32)) (show decode _ _ = .ok (.iconst 1, 1) by decide +kernel) (by decide) ?_
  refine fw_icmp_lt 38 (show decode _ _ = .ok (.if_icmp .lt 36, 3) by decide +kernel) (by decide) (fun hc25 => ?_) (fun hc25 => ?_)
  · have h_1 := ipos hc25 h
    refine fw_iconst (v := (-1 : Int32)) (show decode _ _ = .ok (.iconst (-1), 1) by decide +kernel) (by decide) ?_
    exact fw_ret (v := some (.int (-1 : Int32))) .ireturn (show decode _ _ = .ok (.ireturn, 1) by decide +kernel) ⟨rfl, Or.inl rfl⟩ ⟨_, rfl, h_1⟩
  · have h_2 := ineg hc25 h
    refine fw_iload_n (i := 3) 3 rfl (show decode _ _ = .ok (.iload_n 3, 1) by decide +kernel) ?_
    refine fw_bipush (v := (99 : Int32)) (show decode _ _ = .ok (.bipush 99, 2) by decide +kernel) (by decide) ?_
    refine fw_icmp_gt 38 (show decode _ _ = .ok (.if_icmp .gt 30, 3) by decide +kernel) (by decide) (fun hc24 => ?_) (fun hc24 => ?_)
    · have h_3 := ipos hc24 h_2
      refine fw_iconst (v := (-1 : Int32)) (show decode _ _ = .ok (.iconst (-1), 1) by decide +kernel) (by decide) ?_
      exact fw_ret (v := some (.int (-1 : Int32))) .ireturn (show decode _ _ = .ok (.ireturn, 1) by decide +kernel) ⟨rfl, Or.inl rfl⟩ ⟨_, rfl, h_3⟩
    · have h_4 := ineg hc24 h_2
      refine fw_iload (i := 4) 4 rfl (show decode _ _ = .ok (.iload 4, 2) by decide +kernel) ?_
      refine fw_iconst (v := (1 : Int32)) (show decode _ _ = .ok (.iconst 1, 1) by decide +kernel) (by decide) ?_
      refine fw_icmp_lt 38 (show decode _ _ = .ok (.if_icmp .lt 24, 3) by decide +kernel) (by decide) (fun hc23 => ?_) (fun hc23 => ?_)
      · have h_5 := ipos hc23 h_4
        refine fw_iconst (v := (-1 : Int32)) (show decode _ _ = .ok (.iconst (-1), 1) by decide +kernel) (by decide) ?_
        exact fw_ret (v := some (.int (-1 : Int32))) .ireturn (show decode _ _ = .ok (.ireturn, 1) by decide +kernel) ⟨rfl, Or.inl rfl⟩ ⟨_, rfl, h_5⟩
      · have h_6 := ineg hc23 h_4
        refine fw_iload (i := 4) 4 rfl (show decode _ _ = .ok (.iload 4, 2) by decide +kernel) ?_
        refine fw_sipush (v := (999 : Int32)) (show decode _ _ = .ok (.sipush 999, 3) by decide +kernel) (by decide) ?_
        refine fw_icmp_gt 38 (show decode _ _ = .ok (.if_icmp .gt 16, 3) by decide +kernel) (by decide) (fun hc22 => ?_) (fun hc22 => ?_)
        · have h_7 := ipos hc22 h_6
          refine fw_iconst (v := (-1 : Int32)) (show decode _ _ = .ok (.iconst (-1), 1) by decide +kernel) (by decide) ?_
          exact fw_ret (v := some (.int (-1 : Int32))) .ireturn (show decode _ _ = .ok (.ireturn, 1) by decide +kernel) ⟨rfl, Or.inl rfl⟩ ⟨_, rfl, h_7⟩
        · have h_8 := ineg hc22 h_6
          refine fw_aload_n (i := 0) 0 rfl (show decode _ _ = .ok (.aload_n 0, 1) by decide +kernel) ?_
          obtain ⟨⟨hr2, n1, hs3⟩, h_9⟩ := h_8
          refine fw_getP (kd := 10) (k := 5) (show decode _ _ = .ok (.getfield 50, 3) by decide +kernel) gf_X10_50 hr2 hs3 rfl ?_
          have h_10 := dR_e h_9
          obtain ⟨y4, hy5, h_11⟩ := h_10
          refine fw_deref hy5 ?_
          refine fw_iload_n (i := 1) 1 rfl (show decode _ _ = .ok (.iload_n 1, 1) by decide +kernel) ?_
          refine fw_iload_n (i := 2) 2 rfl (show decode _ _ = .ok (.iload_n 2, 1) by decide +kernel) ?_
          refine fw_iconst (v := (0 : Int32)) (show decode _ _ = .ok (.iconst 0, 1) by decide +kernel) (by decide) ?_
          obtain ⟨⟨hr8, n7, hs9⟩, h_12⟩ := h_11
          refine fw_callV (mt' := mtX3_look) (mc := 0) (ms := 0) (As := [.int p1, .int p2, .int (0 : Int32)]) (rest := []) 3 3 n7 (show decode _ _ = .ok (.invokevirtual 203, 3) by decide +kernel) cv_X10_203 ⟨_, rfl, rfl⟩ hr8 hs9 rfl (Nat.le_of_ble_eq_true rfl) (s_X3_look (d := d) (hd_le hd (by decide)) h_12) (by decide) (by decide) (kI (bc' := 0) (bs' := 0) (by decide) (by decide) (fun x10 M6 h_13 => ?_))
          refine fw_if_ne 40 (show decode _ _ = .ok (.ifCond .ne 5, 3) by decide +kernel) (by decide) (fun hc21 => ?_) (fun hc21 => ?_)
          · have h_14 := ineg hc21 h_13
            refine fw_aload_n (i := 0) 0 rfl (show decode _ _ = .ok (.aload_n 0, 1) by decide +kernel) ?_
            obtain ⟨⟨hr12, n11, hs13⟩, h_15⟩ := h_14
            refine fw_getP (kd := 10) (k := 5) (show decode _ _ = .ok (.getfield 50, 3) by decide +kernel) gf_X10_50 hr12 hs13 rfl ?_
            have h_16 := dR_e h_15
            obtain ⟨y14, hy15, h_17⟩ := h_16
            refine fw_deref hy15 ?_
            refine fw_iload_n (i := 3) 3 rfl (show decode _ _ = .ok (.iload_n 3, 1) by decide +kernel) ?_
            refine fw_iload (i := 4) 4 rfl (show decode _ _ = .ok (.iload 4, 2) by decide +kernel) ?_
            obtain ⟨⟨hr18, n17, hs19⟩, h_18⟩ := h_17
            refine fw_callV (mt' := mtX3_lampNights) (mc := 0) (ms := 0) (As := [.int p3, .int p4]) (rest := []) 2 3 n17 (show decode _ _ = .ok (.invokevirtual 231, 3) by decide +kernel) cv_X10_231 ⟨_, rfl, rfl⟩ hr18 hs19 rfl (Nat.le_of_ble_eq_true rfl) (s_X3_lampNights (d := d) (hd_le hd (by decide)) h_18) (by decide) (by decide) (kI (bc' := 0) (bs' := 0) (by decide) (by decide) (fun x20 M16 h_19 => ?_))
            exact fw_ret (v := some (.int x20)) .ireturn (show decode _ _ = .ok (.ireturn, 1) by decide +kernel) ⟨rfl, Or.inl rfl⟩ ⟨_, rfl, h_19⟩
          · have h_20 := ipos hc21 h_13
            refine fw_iconst (v := (-1 : Int32)) (show decode _ _ = .ok (.iconst (-1), 1) by decide +kernel) (by decide) ?_
            exact fw_ret (v := some (.int (-1 : Int32))) .ireturn (show decode _ _ = .ok (.ireturn, 1) by decide +kernel) ⟨rfl, Or.inl rfl⟩ ⟨_, rfl, h_20⟩
def j_X6_allSeenBy_139 (K2 : Nat → Option Nat → Int32 → fM → Prop) (φ : Int32 → fM → Prop) (p0 : Nat) (p1 : Option Nat) (p2 : Int32) (s0 : Int32) (s1 : Int32) (M : fM) : Prop := iF (s1 = s0) (nm (p2 + (1 : Int32)) fun x1 => K2 p0 p1 x1 M) (φ (0 : Int32) M)
set_option maxRecDepth 100000 in
theorem sj_X6_allSeenBy_139 {g : GT} {d : Nat} (hd : 4 ≤ d + 1) {K2 : Nat → Option Nat → Int32 → fM → Prop} {φ : Int32 → fM → Prop} (hK2 : ∀ (p0 : Nat) (p1 : Option Nat) (p2 : Int32) (M : fM), K2 p0 p1 p2 M → FW g mtX6_allSeenBy (d + 1) 2 [(0, .ref p0), (1, fr p1), (2, .int p2)] [] M 0 0 (rI φ)) {p0 : Nat} {p1 : Option Nat} {p2 : Int32} {s0 : Int32} {s1 : Int32} {M : fM} (h : j_X6_allSeenBy_139 K2 φ p0 p1 p2 s0 s1 M) : FW g mtX6_allSeenBy (d + 1) 139 [(0, .ref p0), (1, fr p1), (2, .int p2)] [.int s0, .int s1] M 0 0 (rI φ) := by
  unfold j_X6_allSeenBy_139 at h
  refine fw_icmp_eq 144 (show decode _ _ = .ok (.if_icmp .eq 5, 3) by decide +kernel) (by decide) (fun hc3 => ?_) (fun hc3 => ?_)
  · have h_1 := ipos hc3 h
    obtain ⟨x1, ex2⟩ : ∃ y : Int32, y = p2 + (1 : Int32) := ⟨_, rfl⟩
    have h_2 := h_1 x1 ex2
    refine fw_iinc (i := 2) (x := p2) (v := x1) (ls' := [(2, .int x1), (0, .ref p0), (1, fr p1)]) 2 rfl (show decode _ _ = .ok (.iinc 2 1, 3) by decide +kernel) (by rw [ex2]; rfl) (by decide) (by cases p1 <;> rfl) ?_
    refine fw_goto 2 (show decode _ _ = .ok (.goto (-145), 3) by decide +kernel) (by decide) ?_
    refine FW.sub [1, 2, 0] (ls' := [(0, .ref p0), (1, fr p1), (2, .int x1)]) rfl ?_
    exact hK2 _ _ _ _ h_2
  · have h_3 := ineg hc3 h
    refine fw_iconst (v := (0 : Int32)) (show decode _ _ = .ok (.iconst 0, 1) by decide +kernel) (by decide) ?_
    exact fw_ret (v := some (.int (0 : Int32))) .ireturn (show decode _ _ = .ok (.ireturn, 1) by decide +kernel) ⟨rfl, Or.inr (Or.inl ⟨rfl, rfl⟩)⟩ ⟨_, rfl, h_3⟩
def b_X6_allSeenBy_2 (K2 : Nat → Option Nat → Int32 → fM → Prop) (φ : Int32 → fM → Prop) (p0 : Nat) (p1 : Option Nat) (p2 : Int32) (M : fM) : Prop := isO M p0 6 ∧ dR (mP M p0 0) fun y7 => isO M y7 5 ∧ iF ((mI M y7 17) ≤ p2) (φ (1 : Int32) M) (nm (p2 * (4 : Int32)) fun x12 => dR (mP M p0 0) fun y14 => isO M y14 5 ∧ dR (mP M y14 16) fun y19 => w_X10_cell y19 (x12 + (1 : Int32)) M fun x22 M21 => isO M21 p0 6 ∧ dR (mP M21 p0 0) fun y26 => isO M21 y26 5 ∧ dR (mP M21 y26 16) fun y31 => w_X10_cell y31 (x12 + (2 : Int32)) M21 fun x34 M33 => isO M33 p0 6 ∧ dR (mP M33 p0 0) fun y38 => isO M33 y38 5 ∧ w_X5_houseOf y38 x22 M33 fun o44 M40 => gN o44 (fun y45 => isO M40 y45 0 ∧ w_X0_hasStep y45 x34 M40 fun x51 M47 => iF (x51 = 0) (nm (p2 + (1 : Int32)) fun x52 => K2 p0 p1 x52 M47) (isO M47 p0 6 ∧ dR (mP M47 p0 1) fun y57 => dR (mP M47 p0 0) fun y59 => dR (mP M47 p0 0) fun y61 => isO M47 y61 5 ∧ dR (mP M47 y61 16) fun y66 => w_X10_cell y66 x12 M47 fun x69 M68 => isO M68 y57 1 ∧ w_X1_turnTo y57 y59 p1 x69 x22 (0 : Int32) M68 fun M70 => isO M70 p0 6 ∧ dR (mP M70 p0 1) fun y77 => isO M70 y77 1 ∧ w_X1_face y77 y45 x34 M70 fun M79 => isO M79 p0 6 ∧ dR (mP M79 p0 1) fun y86 => isO M79 y86 1 ∧ w_X1_tripsNow y86 M79 fun x92 M88 => isO M88 p0 6 ∧ dR (mP M88 p0 0) fun y96 => isO M88 y96 5 ∧ dR (mP M88 y96 16) fun y101 => w_X10_cell y101 (x12 + (3 : Int32)) M88 fun x104 M103 => iF (x104 = (1 : Int32)) (j_X6_allSeenBy_139 K2 φ p0 p1 p2 (1 : Int32) x92 M103) (j_X6_allSeenBy_139 K2 φ p0 p1 p2 (0 : Int32) x92 M103))) (nm (p2 + (1 : Int32)) fun x107 => K2 p0 p1 x107 M40))
def l_X6_allSeenBy_2 (φ : Int32 → fM → Prop) : Nat → Nat → Option Nat → Int32 → fM → Prop
  | 0, _, _, _, _ => False
  | n + 1, p0, p1, p2, M => b_X6_allSeenBy_2 (l_X6_allSeenBy_2 φ n) φ p0 p1 p2 M
set_option maxRecDepth 100000 in
theorem sb_X6_allSeenBy_2 {g : GT} {d : Nat} (hd : 4 ≤ d + 1) {K2 : Nat → Option Nat → Int32 → fM → Prop} {φ : Int32 → fM → Prop} (hK2 : ∀ (p0 : Nat) (p1 : Option Nat) (p2 : Int32) (M : fM), K2 p0 p1 p2 M → FW g mtX6_allSeenBy (d + 1) 2 [(0, .ref p0), (1, fr p1), (2, .int p2)] [] M 0 0 (rI φ)) {p0 : Nat} {p1 : Option Nat} {p2 : Int32} {M : fM} (h : b_X6_allSeenBy_2 K2 φ p0 p1 p2 M) : FW g mtX6_allSeenBy (d + 1) 2 [(0, .ref p0), (1, fr p1), (2, .int p2)] [] M 0 0 (rI φ) := by
  unfold b_X6_allSeenBy_2 at h
  refine fw_iload_n (i := 2) 2 rfl (show decode _ _ = .ok (.iload_n 2, 1) by decide +kernel) ?_
  refine fw_aload_n (i := 0) 0 rfl (show decode _ _ = .ok (.aload_n 0, 1) by decide +kernel) ?_
  obtain ⟨⟨hr5, n4, hs6⟩, h_1⟩ := h
  refine fw_getP (kd := 6) (k := 0) (show decode _ _ = .ok (.getfield 15, 3) by decide +kernel) gf_X6_15 hr5 hs6 rfl ?_
  have h_2 := dR_e h_1
  obtain ⟨y7, hy8, h_3⟩ := h_2
  refine fw_deref hy8 ?_
  obtain ⟨⟨hr10, n9, hs11⟩, h_4⟩ := h_3
  refine fw_getI (kd := 5) (k := 17) (show decode _ _ = .ok (.getfield 107, 3) by decide +kernel) gf_X6_107 hr10 hs11 (Or.inl rfl) ?_
  refine fw_icmp_ge 150 (show decode _ _ = .ok (.if_icmp .ge 140, 3) by decide +kernel) (by decide) (fun hc109 => ?_) (fun hc109 => ?_)
  · have h_5 := ipos hc109 h_4
    refine fw_iconst (v := (1 : Int32)) (show decode _ _ = .ok (.iconst 1, 1) by decide +kernel) (by decide) ?_
    exact fw_ret (v := some (.int (1 : Int32))) .ireturn (show decode _ _ = .ok (.ireturn, 1) by decide +kernel) ⟨rfl, Or.inr (Or.inl ⟨rfl, rfl⟩)⟩ ⟨_, rfl, h_5⟩
  · have h_6 := ineg hc109 h_4
    refine fw_iload_n (i := 2) 2 rfl (show decode _ _ = .ok (.iload_n 2, 1) by decide +kernel) ?_
    refine fw_iconst (v := (4 : Int32)) (show decode _ _ = .ok (.iconst 4, 1) by decide +kernel) (by decide) ?_
    refine fw_imul (show decode _ _ = .ok (.imul, 1) by decide +kernel) ?_
    refine fw_nmI (fun x12 ex13 => ?_)
    have h_7 := h_6 x12 ex13
    refine fw_istore_n (i := 3) (ls' := [(3, .int x12), (0, .ref p0), (1, fr p1), (2, .int p2)]) (show decode _ _ = .ok (.istore_n 3, 1) by decide +kernel) (by decide) rfl ?_
    refine fw_aload_n (i := 0) 1 rfl (show decode _ _ = .ok (.aload_n 0, 1) by decide +kernel) ?_
    refine fw_getP (kd := 6) (k := 0) (show decode _ _ = .ok (.getfield 15, 3) by decide +kernel) gf_X6_15 hr5 hs6 rfl ?_
    have h_8 := dR_e h_7
    obtain ⟨y14, hy15, h_9⟩ := h_8
    refine fw_deref hy15 ?_
    obtain ⟨⟨hr17, n16, hs18⟩, h_10⟩ := h_9
    refine fw_getP (kd := 5) (k := 16) (show decode _ _ = .ok (.getfield 110, 3) by decide +kernel) gf_X6_110 hr17 hs18 rfl ?_
    have h_11 := dR_e h_10
    obtain ⟨y19, hy20, h_12⟩ := h_11
    refine fw_deref hy20 ?_
    refine fw_iload_n (i := 3) 0 rfl (show decode _ _ = .ok (.iload_n 3, 1) by decide +kernel) ?_
    refine fw_iconst (v := (1 : Int32)) (show decode _ _ = .ok (.iconst 1, 1) by decide +kernel) (by decide) ?_
    refine fw_iadd (show decode _ _ = .ok (.iadd, 1) by decide +kernel) ?_
    refine fw_callSN (mt' := mtX10_cell) (mc := 0) (ms := 0) (As := [.ref y19, .int (x12 + (1 : Int32))]) (rest := []) 2 "OneStepMore" (show decode _ _ = .ok (.invokestatic 96, 3) by decide +kernel) ns_X6_96 rfl (Nat.le_of_ble_eq_true rfl) (s_X10_cell (d := d) (hd_le hd (by decide)) h_12) (by decide) (by decide) (kI (bc' := 0) (bs' := 0) (by decide) (by decide) (fun x22 M21 h_13 => ?_))
    refine fw_istore (i := 4) (ls' := [(4, .int x22), (3, .int x12), (0, .ref p0), (1, fr p1), (2, .int p2)]) (show decode _ _ = .ok (.istore 4, 2) by decide +kernel) (by decide) rfl ?_
    refine fw_aload_n (i := 0) 2 rfl (show decode _ _ = .ok (.aload_n 0, 1) by decide +kernel) ?_
    obtain ⟨⟨hr24, n23, hs25⟩, h_14⟩ := h_13
    refine fw_getP (kd := 6) (k := 0) (show decode _ _ = .ok (.getfield 15, 3) by decide +kernel) gf_X6_15 hr24 hs25 rfl ?_
    have h_15 := dR_e h_14
    obtain ⟨y26, hy27, h_16⟩ := h_15
    refine fw_deref hy27 ?_
    obtain ⟨⟨hr29, n28, hs30⟩, h_17⟩ := h_16
    refine fw_getP (kd := 5) (k := 16) (show decode _ _ = .ok (.getfield 110, 3) by decide +kernel) gf_X6_110 hr29 hs30 rfl ?_
    have h_18 := dR_e h_17
    obtain ⟨y31, hy32, h_19⟩ := h_18
    refine fw_deref hy32 ?_
    refine fw_iload_n (i := 3) 1 rfl (show decode _ _ = .ok (.iload_n 3, 1) by decide +kernel) ?_
    refine fw_iconst (v := (2 : Int32)) (show decode _ _ = .ok (.iconst 2, 1) by decide +kernel) (by decide) ?_
    refine fw_iadd (show decode _ _ = .ok (.iadd, 1) by decide +kernel) ?_
    refine fw_callSN (mt' := mtX10_cell) (mc := 0) (ms := 0) (As := [.ref y31, .int (x12 + (2 : Int32))]) (rest := []) 2 "OneStepMore" (show decode _ _ = .ok (.invokestatic 96, 3) by decide +kernel) ns_X6_96 rfl (Nat.le_of_ble_eq_true rfl) (s_X10_cell (d := d) (hd_le hd (by decide)) h_19) (by decide) (by decide) (kI (bc' := 0) (bs' := 0) (by decide) (by decide) (fun x34 M33 h_20 => ?_))
    refine fw_istore (i := 5) (ls' := [(5, .int x34), (4, .int x22), (3, .int x12), (0, .ref p0), (1, fr p1), (2, .int p2)]) (show decode _ _ = .ok (.istore 5, 2) by decide +kernel) (by decide) rfl ?_
    refine fw_aload_n (i := 0) 3 rfl (show decode _ _ = .ok (.aload_n 0, 1) by decide +kernel) ?_
    obtain ⟨⟨hr36, n35, hs37⟩, h_21⟩ := h_20
    refine fw_getP (kd := 6) (k := 0) (show decode _ _ = .ok (.getfield 15, 3) by decide +kernel) gf_X6_15 hr36 hs37 rfl ?_
    have h_22 := dR_e h_21
    obtain ⟨y38, hy39, h_23⟩ := h_22
    refine fw_deref hy39 ?_
    refine fw_iload (i := 4) 1 rfl (show decode _ _ = .ok (.iload 4, 2) by decide +kernel) ?_
    obtain ⟨⟨hr42, n41, hs43⟩, h_24⟩ := h_23
    refine fw_callV (mt' := mtX5_houseOf) (mc := 0) (ms := 0) (As := [.int x22]) (rest := []) 1 5 n41 (show decode _ _ = .ok (.invokevirtual 23, 3) by decide +kernel) cv_X6_23 ⟨_, rfl, rfl⟩ hr42 hs43 rfl (Nat.le_of_ble_eq_true rfl) (s_X5_houseOf (d := d) (hd_le hd (by decide)) h_24) (by decide) (by decide) (kP (bc' := 0) (bs' := 0) (by decide) (by decide) (fun o44 M40 h_25 => ?_))
    refine fw_astoreq (i := 6) (ls' := [(6, fr o44), (5, .int x34), (4, .int x22), (3, .int x12), (0, .ref p0), (1, fr p1), (2, .int p2)]) (show decode _ _ = .ok (.astore 6, 2) by decide +kernel) (by decide) rfl ?_
    refine fw_aloadq (i := 6) 0 rfl (show decode _ _ = .ok (.aload 6, 2) by decide +kernel) ?_
    refine fw_ifnull (x := o44) 144 (show decode _ _ = .ok (.ifnull 84, 3) by decide +kernel) (by decide) (fun hy46 => ?_) (fun y45 hy46 => ?_)
    · have h_26 := gN_n hy46 h_25
      subst hy46
      obtain ⟨x107, ex108⟩ : ∃ y : Int32, y = p2 + (1 : Int32) := ⟨_, rfl⟩
      have h_27 := h_26 x107 ex108
      refine fw_iinc (i := 2) (x := p2) (v := x107) (ls' := [(2, .int x107), (6, fr none), (5, .int x34), (4, .int x22), (3, .int x12), (0, .ref p0), (1, fr p1)]) 6 rfl (show decode _ _ = .ok (.iinc 2 1, 3) by decide +kernel) (by rw [ex108]; rfl) (by decide) (by cases p1 <;> rfl) ?_
      refine fw_goto 2 (show decode _ _ = .ok (.goto (-145), 3) by decide +kernel) (by decide) ?_
      refine FW.sub [5, 6, 0] (ls' := [(0, .ref p0), (1, fr p1), (2, .int x107)]) rfl ?_
      exact hK2 _ _ _ _ h_27
    · have h_28 := gN_s hy46 h_25
      subst hy46
      refine fw_aload (i := 6) 0 rfl (show decode _ _ = .ok (.aload 6, 2) by decide +kernel) ?_
      refine fw_iload (i := 5) 1 rfl (show decode _ _ = .ok (.iload 5, 2) by decide +kernel) ?_
      obtain ⟨⟨hr49, n48, hs50⟩, h_29⟩ := h_28
      refine fw_callV (mt' := mtX0_hasStep) (mc := 0) (ms := 0) (As := [.int x34]) (rest := []) 1 0 n48 (show decode _ _ = .ok (.invokevirtual 29, 3) by decide +kernel) cv_X6_29 ⟨_, rfl, rfl⟩ hr49 hs50 rfl (Nat.le_of_ble_eq_true rfl) (s_X0_hasStep (d := d) (hd_le hd (by decide)) h_29) (by decide) (by decide) (kI (bc' := 0) (bs' := 0) (by decide) (by decide) (fun x51 M47 h_30 => ?_))
      refine fw_if_eq 144 (show decode _ _ = .ok (.ifCond .eq 74, 3) by decide +kernel) (by decide) (fun hc106 => ?_) (fun hc106 => ?_)
      · have h_31 := ipos hc106 h_30
        obtain ⟨x52, ex53⟩ : ∃ y : Int32, y = p2 + (1 : Int32) := ⟨_, rfl⟩
        have h_32 := h_31 x52 ex53
        refine fw_iinc (i := 2) (x := p2) (v := x52) (ls' := [(2, .int x52), (6, .ref y45), (5, .int x34), (4, .int x22), (3, .int x12), (0, .ref p0), (1, fr p1)]) 6 rfl (show decode _ _ = .ok (.iinc 2 1, 3) by decide +kernel) (by rw [ex53]; rfl) (by decide) (by cases p1 <;> rfl) ?_
        refine fw_goto 2 (show decode _ _ = .ok (.goto (-145), 3) by decide +kernel) (by decide) ?_
        refine FW.sub [5, 6, 0] (ls' := [(0, .ref p0), (1, fr p1), (2, .int x52)]) rfl ?_
        exact hK2 _ _ _ _ h_32
      · have h_33 := ineg hc106 h_30
        refine fw_aload_n (i := 0) 4 rfl (show decode _ _ = .ok (.aload_n 0, 1) by decide +kernel) ?_
        obtain ⟨⟨hr55, n54, hs56⟩, h_34⟩ := h_33
        refine fw_getP (kd := 6) (k := 1) (show decode _ _ = .ok (.getfield 19, 3) by decide +kernel) gf_X6_19 hr55 hs56 rfl ?_
        have h_35 := dR_e h_34
        obtain ⟨y57, hy58, h_36⟩ := h_35
        refine fw_deref hy58 ?_
        refine fw_aload_n (i := 0) 4 rfl (show decode _ _ = .ok (.aload_n 0, 1) by decide +kernel) ?_
        refine fw_getP (kd := 6) (k := 0) (show decode _ _ = .ok (.getfield 15, 3) by decide +kernel) gf_X6_15 hr55 hs56 rfl ?_
        have h_37 := dR_e h_36
        obtain ⟨y59, hy60, h_38⟩ := h_37
        refine fw_deref hy60 ?_
        refine fw_aloadq_n (i := 1) 5 rfl (show decode _ _ = .ok (.aload_n 1, 1) by decide +kernel) ?_
        refine fw_aload_n (i := 0) 4 rfl (show decode _ _ = .ok (.aload_n 0, 1) by decide +kernel) ?_
        refine fw_getP (kd := 6) (k := 0) (show decode _ _ = .ok (.getfield 15, 3) by decide +kernel) gf_X6_15 hr55 hs56 rfl ?_
        have h_39 := dR_e h_38
        obtain ⟨y61, hy62, h_40⟩ := h_39
        refine fw_deref hy62 ?_
        obtain ⟨⟨hr64, n63, hs65⟩, h_41⟩ := h_40
        refine fw_getP (kd := 5) (k := 16) (show decode _ _ = .ok (.getfield 110, 3) by decide +kernel) gf_X6_110 hr64 hs65 rfl ?_
        have h_42 := dR_e h_41
        obtain ⟨y66, hy67, h_43⟩ := h_42
        refine fw_deref hy67 ?_
        refine fw_iload_n (i := 3) 3 rfl (show decode _ _ = .ok (.iload_n 3, 1) by decide +kernel) ?_
        refine fw_callSN (mt' := mtX10_cell) (mc := 0) (ms := 0) (As := [.ref y66, .int x12]) (rest := [fr p1, .ref y59, .ref y57]) 2 "OneStepMore" (show decode _ _ = .ok (.invokestatic 96, 3) by decide +kernel) ns_X6_96 rfl (by cases p1 <;> exact Nat.le_of_ble_eq_true rfl) (s_X10_cell (d := d) (hd_le hd (by decide)) h_43) (by decide) (by decide) (kI (bc' := 0) (bs' := 0) (by decide) (by decide) (fun x69 M68 h_44 => ?_))
        refine fw_iload (i := 4) 2 rfl (show decode _ _ = .ok (.iload 4, 2) by decide +kernel) ?_
        refine fw_iconst (v := (0 : Int32)) (show decode _ _ = .ok (.iconst 0, 1) by decide +kernel) (by decide) ?_
        obtain ⟨⟨hr72, n71, hs73⟩, h_45⟩ := h_44
        refine fw_callV (mt' := mtX1_turnTo) (mc := 0) (ms := 0) (As := [.ref y59, fr p1, .int x69, .int x22, .int (0 : Int32)]) (rest := []) 5 1 n71 (show decode _ _ = .ok (.invokevirtual 46, 3) by decide +kernel) cv_X6_46 ⟨_, rfl, rfl⟩ hr72 hs73 rfl (Nat.le_of_ble_eq_true rfl) (s_X1_turnTo (d := d) (hd_le hd (by decide)) h_45) (by decide) (by decide) (kV (bc' := 0) (bs' := 0) (by decide) (by decide) (fun M70 h_46 => ?_))
        refine fw_aload_n (i := 0) 4 rfl (show decode _ _ = .ok (.aload_n 0, 1) by decide +kernel) ?_
        obtain ⟨⟨hr75, n74, hs76⟩, h_47⟩ := h_46
        refine fw_getP (kd := 6) (k := 1) (show decode _ _ = .ok (.getfield 19, 3) by decide +kernel) gf_X6_19 hr75 hs76 rfl ?_
        have h_48 := dR_e h_47
        obtain ⟨y77, hy78, h_49⟩ := h_48
        refine fw_deref hy78 ?_
        refine fw_aload (i := 6) 0 rfl (show decode _ _ = .ok (.aload 6, 2) by decide +kernel) ?_
        refine fw_iload (i := 5) 1 rfl (show decode _ _ = .ok (.iload 5, 2) by decide +kernel) ?_
        obtain ⟨⟨hr81, n80, hs82⟩, h_50⟩ := h_49
        refine fw_callV (mt' := mtX1_face) (mc := 0) (ms := 0) (As := [.ref y45, .int x34]) (rest := []) 2 1 n80 (show decode _ _ = .ok (.invokevirtual 52, 3) by decide +kernel) cv_X6_52 ⟨_, rfl, rfl⟩ hr81 hs82 rfl (Nat.le_of_ble_eq_true rfl) (s_X1_face (d := d) (hd_le hd (by decide)) h_50) (by decide) (by decide) (kV (bc' := 0) (bs' := 0) (by decide) (by decide) (fun M79 h_51 => ?_))
        refine fw_aload_n (i := 0) 4 rfl (show decode _ _ = .ok (.aload_n 0, 1) by decide +kernel) ?_
        obtain ⟨⟨hr84, n83, hs85⟩, h_52⟩ := h_51
        refine fw_getP (kd := 6) (k := 1) (show decode _ _ = .ok (.getfield 19, 3) by decide +kernel) gf_X6_19 hr84 hs85 rfl ?_
        have h_53 := dR_e h_52
        obtain ⟨y86, hy87, h_54⟩ := h_53
        refine fw_deref hy87 ?_
        obtain ⟨⟨hr90, n89, hs91⟩, h_55⟩ := h_54
        refine fw_callV (mt' := mtX1_tripsNow) (mc := 0) (ms := 0) (As := []) (rest := []) 0 1 n89 (show decode _ _ = .ok (.invokevirtual 64, 3) by decide +kernel) cv_X6_64 ⟨_, rfl, rfl⟩ hr90 hs91 rfl (Nat.le_of_ble_eq_true rfl) (s_X1_tripsNow (d := d) (hd_le hd (by decide)) h_55) (by decide) (by decide) (kI (bc' := 0) (bs' := 0) (by decide) (by decide) (fun x92 M88 h_56 => ?_))
        refine fw_aload_n (i := 0) 4 rfl (show decode _ _ = .ok (.aload_n 0, 1) by decide +kernel) ?_
        obtain ⟨⟨hr94, n93, hs95⟩, h_57⟩ := h_56
        refine fw_getP (kd := 6) (k := 0) (show decode _ _ = .ok (.getfield 15, 3) by decide +kernel) gf_X6_15 hr94 hs95 rfl ?_
        have h_58 := dR_e h_57
        obtain ⟨y96, hy97, h_59⟩ := h_58
        refine fw_deref hy97 ?_
        obtain ⟨⟨hr99, n98, hs100⟩, h_60⟩ := h_59
        refine fw_getP (kd := 5) (k := 16) (show decode _ _ = .ok (.getfield 110, 3) by decide +kernel) gf_X6_110 hr99 hs100 rfl ?_
        have h_61 := dR_e h_60
        obtain ⟨y101, hy102, h_62⟩ := h_61
        refine fw_deref hy102 ?_
        refine fw_iload_n (i := 3) 3 rfl (show decode _ _ = .ok (.iload_n 3, 1) by decide +kernel) ?_
        refine fw_iconst (v := (3 : Int32)) (show decode _ _ = .ok (.iconst 3, 1) by decide +kernel) (by decide) ?_
        refine fw_iadd (show decode _ _ = .ok (.iadd, 1) by decide +kernel) ?_
        refine fw_callSN (mt' := mtX10_cell) (mc := 0) (ms := 0) (As := [.ref y101, .int (x12 + (3 : Int32))]) (rest := [.int x92]) 2 "OneStepMore" (show decode _ _ = .ok (.invokestatic 96, 3) by decide +kernel) ns_X6_96 rfl (Nat.le_of_ble_eq_true rfl) (s_X10_cell (d := d) (hd_le hd (by decide)) h_62) (by decide) (by decide) (kI (bc' := 0) (bs' := 0) (by decide) (by decide) (fun x104 M103 h_63 => ?_))
        refine fw_iconst (v := (1 : Int32)) (show decode _ _ = .ok (.iconst 1, 1) by decide +kernel) (by decide) ?_
        refine fw_icmp_ne 138 (show decode _ _ = .ok (.if_icmp .ne 7, 3) by decide +kernel) (by decide) (fun hc105 => ?_) (fun hc105 => ?_)
        · have h_64 := ineg hc105 h_63
          refine fw_iconst (v := (0 : Int32)) (show decode _ _ = .ok (.iconst 0, 1) by decide +kernel) (by decide) ?_
          refine FW.sub [4, 5, 6] (ls' := [(0, .ref p0), (1, fr p1), (2, .int p2)]) rfl ?_
          exact sj_X6_allSeenBy_139 hd hK2 h_64
        · have h_65 := ipos hc105 h_63
          refine fw_iconst (v := (1 : Int32)) (show decode _ _ = .ok (.iconst 1, 1) by decide +kernel) (by decide) ?_
          refine fw_goto 139 (show decode _ _ = .ok (.goto 4, 3) by decide +kernel) (by decide) ?_
          refine FW.sub [4, 5, 6] (ls' := [(0, .ref p0), (1, fr p1), (2, .int p2)]) rfl ?_
          exact sj_X6_allSeenBy_139 hd hK2 h_65
theorem sl_X6_allSeenBy_2 {g : GT} {d : Nat} (hd : 4 ≤ d + 1) {φ : Int32 → fM → Prop} : ∀ (n : Nat) {p0 : Nat} {p1 : Option Nat} {p2 : Int32} {M : fM}, l_X6_allSeenBy_2 φ n p0 p1 p2 M → FW g mtX6_allSeenBy (d + 1) 2 [(0, .ref p0), (1, fr p1), (2, .int p2)] [] M 0 0 (rI φ)
  | 0 => fun h => h.elim
  | n + 1 => fun h => sb_X6_allSeenBy_2 hd (fun _ _ _ _ h => sl_X6_allSeenBy_2 hd n h) h
def w_X6_allSeenBy (p0 : Nat) (p1 : Option Nat) (M : fM) (φ : Int32 → fM → Prop) : Prop := ∃ n, l_X6_allSeenBy_2 φ n p0 p1 (0 : Int32) M
set_option maxRecDepth 100000 in
theorem s_X6_allSeenBy {g : GT} {d : Nat} (hd : 4 ≤ d) {p0 : Nat} {p1 : Option Nat} {M : fM} {φ : Int32 → fM → Prop} (h : w_X6_allSeenBy p0 p1 M φ) : FC g mtX6_allSeenBy d [.ref p0, fr p1] M 0 0 (rI φ) := by
  obtain ⟨d, rfl⟩ : ∃ e, d = e + 1 := ⟨d - 1, by omega⟩
  unfold w_X6_allSeenBy at h
  refine FC.intro (nL := 7) (by decide) rfl (by cases p1 <;> exact Nat.le_of_ble_eq_true rfl) ?_
  rw [show lv_args 0 [.ref p0, fr p1] = [(0, .ref p0), (1, fr p1)] from by cases p1 <;> rfl]
  show FW g mtX6_allSeenBy (d + 1) 0 [(0, .ref p0), (1, fr p1)] [] M 0 0 (rI φ)
  refine fw_iconst (v := (0 : Int32)) (show decode _ _ = .ok (.iconst 0, 1) by decide +kernel) (by decide) ?_
  refine fw_istore_n (i := 2) (ls' := [(2, .int (0 : Int32)), (0, .ref p0), (1, fr p1)]) (show decode _ _ = .ok (.istore_n 2, 1) by decide +kernel) (by decide) (by cases p1 <;> rfl) ?_
  refine FW.sub [1, 2, 0] (ls' := [(0, .ref p0), (1, fr p1), (2, .int (0 : Int32))]) rfl ?_
  obtain ⟨nn, h_1⟩ := h
  exact sl_X6_allSeenBy_2 hd nn h_1
def b_X6_lawsOfSeen_4 (K4 : Nat → Int32 → Int32 → fM → Prop) (φ : Int32 → fM → Prop) (p0 : Nat) (p1 : Int32) (p2 : Int32) (M : fM) : Prop := isO M p0 6 ∧ dR (mP M p0 0) fun y4 => isO M y4 5 ∧ iF ((mI M y4 14) ≤ p2) (φ p1 M) (dR (mP M p0 0) fun y9 => isO M y9 5 ∧ w_X5_textOf y9 p2 M fun o15 M11 => isO M11 p0 6 ∧ w_X6_allSeenBy p0 o15 M11 fun x20 M16 => iF (x20 = 0) (nm (p1 ||| (0 : Int32)) fun x21 => nm (p2 + (1 : Int32)) fun x23 => K4 p0 x21 x23 M16) (nm (p1 ||| ((1 : Int32) <<< (p2 &&& 31))) fun x25 => nm (p2 + (1 : Int32)) fun x27 => K4 p0 x25 x27 M16))
def l_X6_lawsOfSeen_4 (φ : Int32 → fM → Prop) : Nat → Nat → Int32 → Int32 → fM → Prop
  | 0, _, _, _, _ => False
  | n + 1, p0, p1, p2, M => b_X6_lawsOfSeen_4 (l_X6_lawsOfSeen_4 φ n) φ p0 p1 p2 M
set_option maxRecDepth 100000 in
theorem sb_X6_lawsOfSeen_4 {g : GT} {d : Nat} (hd : 5 ≤ d + 1) {K4 : Nat → Int32 → Int32 → fM → Prop} {φ : Int32 → fM → Prop} (hK4 : ∀ (p0 : Nat) (p1 : Int32) (p2 : Int32) (M : fM), K4 p0 p1 p2 M → FW g mtX6_lawsOfSeen (d + 1) 4 [(0, .ref p0), (1, .int p1), (2, .int p2)] [] M 0 0 (rI φ)) {p0 : Nat} {p1 : Int32} {p2 : Int32} {M : fM} (h : b_X6_lawsOfSeen_4 K4 φ p0 p1 p2 M) : FW g mtX6_lawsOfSeen (d + 1) 4 [(0, .ref p0), (1, .int p1), (2, .int p2)] [] M 0 0 (rI φ) := by
  unfold b_X6_lawsOfSeen_4 at h
  refine fw_iload_n (i := 2) 2 rfl (show decode _ _ = .ok (.iload_n 2, 1) by decide +kernel) ?_
  refine fw_aload_n (i := 0) 0 rfl (show decode _ _ = .ok (.aload_n 0, 1) by decide +kernel) ?_
  obtain ⟨⟨hr2, n1, hs3⟩, h_1⟩ := h
  refine fw_getP (kd := 6) (k := 0) (show decode _ _ = .ok (.getfield 15, 3) by decide +kernel) gf_X6_15 hr2 hs3 rfl ?_
  have h_2 := dR_e h_1
  obtain ⟨y4, hy5, h_3⟩ := h_2
  refine fw_deref hy5 ?_
  obtain ⟨⟨hr7, n6, hs8⟩, h_4⟩ := h_3
  refine fw_getI (kd := 5) (k := 14) (show decode _ _ = .ok (.getfield 113, 3) by decide +kernel) gf_X6_113 hr7 hs8 (Or.inl rfl) ?_
  refine fw_icmp_ge 46 (show decode _ _ = .ok (.if_icmp .ge 34, 3) by decide +kernel) (by decide) (fun hc30 => ?_) (fun hc30 => ?_)
  · have h_5 := ipos hc30 h_4
    refine fw_iload_n (i := 1) 1 rfl (show decode _ _ = .ok (.iload_n 1, 1) by decide +kernel) ?_
    exact fw_ret (v := some (.int p1)) .ireturn (show decode _ _ = .ok (.ireturn, 1) by decide +kernel) ⟨rfl, Or.inl rfl⟩ ⟨_, rfl, h_5⟩
  · have h_6 := ineg hc30 h_4
    refine fw_iload_n (i := 1) 1 rfl (show decode _ _ = .ok (.iload_n 1, 1) by decide +kernel) ?_
    refine fw_aload_n (i := 0) 0 rfl (show decode _ _ = .ok (.aload_n 0, 1) by decide +kernel) ?_
    refine fw_aload_n (i := 0) 0 rfl (show decode _ _ = .ok (.aload_n 0, 1) by decide +kernel) ?_
    refine fw_getP (kd := 6) (k := 0) (show decode _ _ = .ok (.getfield 15, 3) by decide +kernel) gf_X6_15 hr2 hs3 rfl ?_
    have h_7 := dR_e h_6
    obtain ⟨y9, hy10, h_8⟩ := h_7
    refine fw_deref hy10 ?_
    refine fw_iload_n (i := 2) 2 rfl (show decode _ _ = .ok (.iload_n 2, 1) by decide +kernel) ?_
    obtain ⟨⟨hr13, n12, hs14⟩, h_9⟩ := h_8
    refine fw_callV (mt' := mtX5_textOf) (mc := 0) (ms := 0) (As := [.int p2]) (rest := [.ref p0, .int p1]) 1 5 n12 (show decode _ _ = .ok (.invokevirtual 42, 3) by decide +kernel) cv_X6_42 ⟨_, rfl, rfl⟩ hr13 hs14 rfl (Nat.le_of_ble_eq_true rfl) (s_X5_textOf (d := d) (hd_le hd (by decide)) h_9) (by decide) (by decide) (kP (bc' := 0) (bs' := 0) (by decide) (by decide) (fun o15 M11 h_10 => ?_))
    obtain ⟨⟨hr18, n17, hs19⟩, h_11⟩ := h_10
    refine fw_callV (mt' := mtX6_allSeenBy) (mc := 0) (ms := 0) (As := [fr o15]) (rest := [.int p1]) 1 6 n17 (show decode _ _ = .ok (.invokevirtual 116, 3) by decide +kernel) cv_X6_116 ⟨_, rfl, rfl⟩ hr18 hs19 rfl (Nat.le_of_ble_eq_true rfl) (s_X6_allSeenBy (d := d) (hd_le hd (by decide)) h_11) (by decide) (by decide) (kI (bc' := 0) (bs' := 0) (by decide) (by decide) (fun x20 M16 h_12 => ?_))
    refine fw_if_eq 37 (show decode _ _ = .ok (.ifCond .eq 9, 3) by decide +kernel) (by decide) (fun hc29 => ?_) (fun hc29 => ?_)
    · have h_13 := ipos hc29 h_12
      refine fw_iconst (v := (0 : Int32)) (show decode _ _ = .ok (.iconst 0, 1) by decide +kernel) (by decide) ?_
      refine fw_ior (show decode _ _ = .ok (.ior, 1) by decide +kernel) ?_
      refine fw_nmI (fun x21 ex22 => ?_)
      have h_14 := h_13 x21 ex22
      refine fw_istore_n (i := 1) (ls' := [(1, .int x21), (0, .ref p0), (2, .int p2)]) (show decode _ _ = .ok (.istore_n 1, 1) by decide +kernel) (by decide) rfl ?_
      obtain ⟨x23, ex24⟩ : ∃ y : Int32, y = p2 + (1 : Int32) := ⟨_, rfl⟩
      have h_15 := h_14 x23 ex24
      refine fw_iinc (i := 2) (x := p2) (v := x23) (ls' := [(2, .int x23), (1, .int x21), (0, .ref p0)]) 2 rfl (show decode _ _ = .ok (.iinc 2 1, 3) by decide +kernel) (by rw [ex24]; rfl) (by decide) rfl ?_
      refine fw_goto 4 (show decode _ _ = .ok (.goto (-39), 3) by decide +kernel) (by decide) ?_
      refine FW.sub [2, 1, 0] (ls' := [(0, .ref p0), (1, .int x21), (2, .int x23)]) rfl ?_
      exact hK4 _ _ _ _ h_15
    · have h_16 := ineg hc29 h_12
      refine fw_iconst (v := (1 : Int32)) (show decode _ _ = .ok (.iconst 1, 1) by decide +kernel) (by decide) ?_
      refine fw_iload_n (i := 2) 2 rfl (show decode _ _ = .ok (.iload_n 2, 1) by decide +kernel) ?_
      refine fw_ishl (show decode _ _ = .ok (.ishl, 1) by decide +kernel) ?_
      refine fw_goto 38 (show decode _ _ = .ok (.goto 4, 3) by decide +kernel) (by decide) ?_
      refine fw_ior (show decode _ _ = .ok (.ior, 1) by decide +kernel) ?_
      refine fw_nmI (fun x25 ex26 => ?_)
      have h_17 := h_16 x25 ex26
      refine fw_istore_n (i := 1) (ls' := [(1, .int x25), (0, .ref p0), (2, .int p2)]) (show decode _ _ = .ok (.istore_n 1, 1) by decide +kernel) (by decide) rfl ?_
      obtain ⟨x27, ex28⟩ : ∃ y : Int32, y = p2 + (1 : Int32) := ⟨_, rfl⟩
      have h_18 := h_17 x27 ex28
      refine fw_iinc (i := 2) (x := p2) (v := x27) (ls' := [(2, .int x27), (1, .int x25), (0, .ref p0)]) 2 rfl (show decode _ _ = .ok (.iinc 2 1, 3) by decide +kernel) (by rw [ex28]; rfl) (by decide) rfl ?_
      refine fw_goto 4 (show decode _ _ = .ok (.goto (-39), 3) by decide +kernel) (by decide) ?_
      refine FW.sub [2, 1, 0] (ls' := [(0, .ref p0), (1, .int x25), (2, .int x27)]) rfl ?_
      exact hK4 _ _ _ _ h_18
theorem sl_X6_lawsOfSeen_4 {g : GT} {d : Nat} (hd : 5 ≤ d + 1) {φ : Int32 → fM → Prop} : ∀ (n : Nat) {p0 : Nat} {p1 : Int32} {p2 : Int32} {M : fM}, l_X6_lawsOfSeen_4 φ n p0 p1 p2 M → FW g mtX6_lawsOfSeen (d + 1) 4 [(0, .ref p0), (1, .int p1), (2, .int p2)] [] M 0 0 (rI φ)
  | 0 => fun h => h.elim
  | n + 1 => fun h => sb_X6_lawsOfSeen_4 hd (fun _ _ _ _ h => sl_X6_lawsOfSeen_4 hd n h) h
def w_X6_lawsOfSeen (p0 : Nat) (M : fM) (φ : Int32 → fM → Prop) : Prop := ∃ n, l_X6_lawsOfSeen_4 φ n p0 (0 : Int32) (0 : Int32) M
set_option maxRecDepth 100000 in
theorem s_X6_lawsOfSeen {g : GT} {d : Nat} (hd : 5 ≤ d) {p0 : Nat} {M : fM} {φ : Int32 → fM → Prop} (h : w_X6_lawsOfSeen p0 M φ) : FC g mtX6_lawsOfSeen d [.ref p0] M 0 0 (rI φ) := by
  obtain ⟨d, rfl⟩ : ∃ e, d = e + 1 := ⟨d - 1, by omega⟩
  unfold w_X6_lawsOfSeen at h
  refine FC.intro (nL := 3) (by decide) rfl (Nat.le_of_ble_eq_true rfl) ?_
  show FW g mtX6_lawsOfSeen (d + 1) 0 [(0, .ref p0)] [] M 0 0 (rI φ)
  refine fw_iconst (v := (0 : Int32)) (show decode _ _ = .ok (.iconst 0, 1) by decide +kernel) (by decide) ?_
  refine fw_istore_n (i := 1) (ls' := [(1, .int (0 : Int32)), (0, .ref p0)]) (show decode _ _ = .ok (.istore_n 1, 1) by decide +kernel) (by decide) rfl ?_
  refine fw_iconst (v := (0 : Int32)) (show decode _ _ = .ok (.iconst 0, 1) by decide +kernel) (by decide) ?_
  refine fw_istore_n (i := 2) (ls' := [(2, .int (0 : Int32)), (1, .int (0 : Int32)), (0, .ref p0)]) (show decode _ _ = .ok (.istore_n 2, 1) by decide +kernel) (by decide) rfl ?_
  refine FW.sub [2, 1, 0] (ls' := [(0, .ref p0), (1, .int (0 : Int32)), (2, .int (0 : Int32))]) rfl ?_
  obtain ⟨nn, h_1⟩ := h
  exact sl_X6_lawsOfSeen_4 hd nn h_1
def w_X10_laws (p0 : Nat) (M : fM) (φ : Int32 → fM → Prop) : Prop := isO M p0 10 ∧ dR (mP M p0 6) fun y4 => isO M y4 6 ∧ w_X6_lawsOfSeen y4 M fun x10 M6 => φ x10 M6
set_option maxRecDepth 100000 in
theorem s_X10_laws {g : GT} {d : Nat} (hd : 6 ≤ d) {p0 : Nat} {M : fM} {φ : Int32 → fM → Prop} (h : w_X10_laws p0 M φ) : FC g mtX10_laws d [.ref p0] M 0 0 (rI φ) := by
  obtain ⟨d, rfl⟩ : ∃ e, d = e + 1 := ⟨d - 1, by omega⟩
  unfold w_X10_laws at h
  refine FC.intro (nL := 1) (by decide) rfl (Nat.le_of_ble_eq_true rfl) ?_
  show FW g mtX10_laws (d + 1) 0 [(0, .ref p0)] [] M 0 0 (rI φ)
  refine fw_aload_n (i := 0) 0 rfl (show decode _ _ = .ok (.aload_n 0, 1) by decide +kernel) ?_
  obtain ⟨⟨hr2, n1, hs3⟩, h_1⟩ := h
  refine fw_getP (kd := 10) (k := 6) (show decode _ _ = .ok (.getfield 57, 3) by decide +kernel) gf_X10_57 hr2 hs3 rfl ?_
  have h_2 := dR_e h_1
  obtain ⟨y4, hy5, h_3⟩ := h_2
  refine fw_deref hy5 ?_
  obtain ⟨⟨hr8, n7, hs9⟩, h_4⟩ := h_3
  refine fw_callV (mt' := mtX6_lawsOfSeen) (mc := 0) (ms := 0) (As := []) (rest := []) 0 6 n7 (show decode _ _ = .ok (.invokevirtual 265, 3) by decide +kernel) cv_X10_265 ⟨_, rfl, rfl⟩ hr8 hs9 rfl (Nat.le_of_ble_eq_true rfl) (s_X6_lawsOfSeen (d := d) (hd_le hd (by decide)) h_4) (by decide) (by decide) (kI (bc' := 0) (bs' := 0) (by decide) (by decide) (fun x10 M6 h_5 => ?_))
  exact fw_ret (v := some (.int x10)) .ireturn (show decode _ _ = .ok (.ireturn, 1) by decide +kernel) ⟨rfl, Or.inl rfl⟩ ⟨_, rfl, h_5⟩
