def w_X11_ofHouse (p0 : Nat) (p1 : Int32) (M : fM) (φ : Int32 → fM → Prop) : Prop := isO M p0 11 ∧ w_X11_worded p0 (28518 : Int64) p1 (0 : Int32) (3 : Int32) M fun x5 M1 => φ x5 M1
set_option maxRecDepth 100000 in
theorem s_X11_ofHouse {g : GT} {d : Nat} (hd : 6 ≤ d) {p0 : Nat} {p1 : Int32} {M : fM} {φ : Int32 → fM → Prop} (h : w_X11_ofHouse p0 p1 M φ) : FC g mtX11_ofHouse d [.ref p0, .int p1] M 0 0 (rI φ) := by
  obtain ⟨d, rfl⟩ : ∃ e, d = e + 1 := ⟨d - 1, by omega⟩
  unfold w_X11_ofHouse at h
  refine FC.intro (nL := 2) (by decide) rfl (Nat.le_of_ble_eq_true rfl) ?_
  show FW g mtX11_ofHouse (d + 1) 0 [(0, .ref p0), (1, .int p1)] [] M 0 0 (rI φ)
  refine fw_aload_n (i := 0) 0 rfl (show decode _ _ = .ok (.aload_n 0, 1) by decide +kernel) ?_
  refine fw_ldc2 (idx := 226) (v := (28518 : Int64)) (show decode _ _ = .ok (.ldc2_w 226, 3) by decide +kernel) wd1692 ?_
  refine fw_iload_n (i := 1) 1 rfl (show decode _ _ = .ok (.iload_n 1, 1) by decide +kernel) ?_
  refine fw_iconst (v := (0 : Int32)) (show decode _ _ = .ok (.iconst 0, 1) by decide +kernel) (by decide) ?_
  refine fw_iconst (v := (3 : Int32)) (show decode _ _ = .ok (.iconst 3, 1) by decide +kernel) (by decide) ?_
  obtain ⟨⟨hr3, n2, hs4⟩, h_1⟩ := h
  refine fw_callV (mt' := mtX11_worded) (mc := 0) (ms := 0) (As := [.long (28518 : Int64), .int p1, .int (0 : Int32), .int (3 : Int32)]) (rest := []) 4 11 n2 (show decode _ _ = .ok (.invokevirtual 228, 3) by decide +kernel) cv_X11_228 ⟨_, rfl, rfl⟩ hr3 hs4 rfl (Nat.le_of_ble_eq_true rfl) (s_X11_worded (d := d) (hd_le hd (by decide)) h_1) (by decide) (by decide) (kI (bc' := 0) (bs' := 0) (by decide) (by decide) (fun x5 M1 h_2 => ?_))
  exact fw_ret (v := some (.int x5)) .ireturn (show decode _ _ = .ok (.ireturn, 1) by decide +kernel) ⟨rfl, Or.inl rfl⟩ ⟨_, rfl, h_2⟩
def j_X11_highClause_29 (φ : Int32 → fM → Prop) (p0 : Nat) (p1 : Int32) (p2 : Int32) (M : fM) : Prop := iF (p2 = 0) (isO M p0 11 ∧ w_X11_ofHouse p0 (p1 + (3 : Int32)) M fun x5 M1 => φ x5 M1) (φ p2 M)
set_option maxRecDepth 100000 in
theorem sj_X11_highClause_29 {g : GT} {d : Nat} (hd : 7 ≤ d + 1) {φ : Int32 → fM → Prop} {p0 : Nat} {p1 : Int32} {p2 : Int32} {M : fM} (h : j_X11_highClause_29 φ p0 p1 p2 M) : FW g mtX11_highClause (d + 1) 29 [(0, .ref p0), (1, .int p1), (2, .int p2)] [] M 0 0 (rI φ) := by
  unfold j_X11_highClause_29 at h
  refine fw_iload_n (i := 2) 2 rfl (show decode _ _ = .ok (.iload_n 2, 1) by decide +kernel) ?_
  refine fw_if_eq 37 (show decode _ _ = .ok (.ifCond .eq 7, 3) by decide +kernel) (by decide) (fun hc6 => ?_) (fun hc6 => ?_)
  · have h_1 := ipos hc6 h
    refine fw_aload_n (i := 0) 0 rfl (show decode _ _ = .ok (.aload_n 0, 1) by decide +kernel) ?_
    refine fw_iload_n (i := 1) 1 rfl (show decode _ _ = .ok (.iload_n 1, 1) by decide +kernel) ?_
    refine fw_iconst (v := (3 : Int32)) (show decode _ _ = .ok (.iconst 3, 1) by decide +kernel) (by decide) ?_
    refine fw_iadd (show decode _ _ = .ok (.iadd, 1) by decide +kernel) ?_
    obtain ⟨⟨hr3, n2, hs4⟩, h_2⟩ := h_1
    refine fw_callV (mt' := mtX11_ofHouse) (mc := 0) (ms := 0) (As := [.int (p1 + (3 : Int32))]) (rest := []) 1 11 n2 (show decode _ _ = .ok (.invokevirtual 237, 3) by decide +kernel) cv_X11_237 ⟨_, rfl, rfl⟩ hr3 hs4 rfl (Nat.le_of_ble_eq_true rfl) (s_X11_ofHouse (d := d) (hd_le hd (by decide)) h_2) (by decide) (by decide) (kI (bc' := 0) (bs' := 0) (by decide) (by decide) (fun x5 M1 h_3 => ?_))
    exact fw_ret (v := some (.int x5)) .ireturn (show decode _ _ = .ok (.ireturn, 1) by decide +kernel) ⟨rfl, Or.inl rfl⟩ ⟨_, rfl, h_3⟩
  · have h_4 := ineg hc6 h
    refine fw_iload_n (i := 2) 2 rfl (show decode _ _ = .ok (.iload_n 2, 1) by decide +kernel) ?_
    refine fw_goto 44 (show decode _ _ = .ok (.goto 10, 3) by decide +kernel) (by decide) ?_
    exact fw_ret (v := some (.int p2)) .ireturn (show decode _ _ = .ok (.ireturn, 1) by decide +kernel) ⟨rfl, Or.inl rfl⟩ ⟨_, rfl, h_4⟩
def w_X11_highClause (p0 : Nat) (p1 : Int32) (M : fM) (φ : Int32 → fM → Prop) : Prop := isO M p0 11 ∧ w_X11_figure p0 (p1 + (1 : Int32)) (1 : Int32) (9 : Int32) M fun x11 M7 => iF (x11 = 0) (isO M7 p0 11 ∧ w_X11_worded p0 (24948 : Int64) (p1 + (2 : Int32)) (1 : Int32) (14 : Int32) M7 fun x16 M12 => j_X11_highClause_29 φ p0 p1 x16 M12) (j_X11_highClause_29 φ p0 p1 x11 M7)
set_option maxRecDepth 100000 in
theorem s_X11_highClause {g : GT} {d : Nat} (hd : 7 ≤ d) {p0 : Nat} {p1 : Int32} {M : fM} {φ : Int32 → fM → Prop} (h : w_X11_highClause p0 p1 M φ) : FC g mtX11_highClause d [.ref p0, .int p1] M 0 0 (rI φ) := by
  obtain ⟨d, rfl⟩ : ∃ e, d = e + 1 := ⟨d - 1, by omega⟩
  unfold w_X11_highClause at h
  refine FC.intro (nL := 3) (by decide) rfl (Nat.le_of_ble_eq_true rfl) ?_
  show FW g mtX11_highClause (d + 1) 0 [(0, .ref p0), (1, .int p1)] [] M 0 0 (rI φ)
  refine fw_aload_n (i := 0) 0 rfl (show decode _ _ = .ok (.aload_n 0, 1) by decide +kernel) ?_
  refine fw_iload_n (i := 1) 1 rfl (show decode _ _ = .ok (.iload_n 1, 1) by decide +kernel) ?_
  refine fw_iconst (v := (1 : Int32)) (show decode _ _ = .ok (.iconst 1, 1) by decide +kernel) (by decide) ?_
  refine fw_iadd (show decode _ _ = .ok (.iadd, 1) by decide +kernel) ?_
  refine fw_iconst (v := (1 : Int32)) (show decode _ _ = .ok (.iconst 1, 1) by decide +kernel) (by decide) ?_
  refine fw_bipush (v := (9 : Int32)) (show decode _ _ = .ok (.bipush 9, 2) by decide +kernel) (by decide) ?_
  obtain ⟨⟨hr9, n8, hs10⟩, h_1⟩ := h
  refine fw_callV (mt' := mtX11_figure) (mc := 0) (ms := 0) (As := [.int (p1 + (1 : Int32)), .int (1 : Int32), .int (9 : Int32)]) (rest := []) 3 11 n8 (show decode _ _ = .ok (.invokevirtual 222, 3) by decide +kernel) cv_X11_222 ⟨_, rfl, rfl⟩ hr9 hs10 rfl (Nat.le_of_ble_eq_true rfl) (s_X11_figure (d := d) (hd_le hd (by decide)) h_1) (by decide) (by decide) (kI (bc' := 0) (bs' := 0) (by decide) (by decide) (fun x11 M7 h_2 => ?_))
  refine fw_istore_n (i := 2) (ls' := [(2, .int x11), (0, .ref p0), (1, .int p1)]) (show decode _ _ = .ok (.istore_n 2, 1) by decide +kernel) (by decide) rfl ?_
  refine fw_iload_n (i := 2) 0 rfl (show decode _ _ = .ok (.iload_n 2, 1) by decide +kernel) ?_
  refine fw_if_ne 29 (show decode _ _ = .ok (.ifCond .ne 17, 3) by decide +kernel) (by decide) (fun hc17 => ?_) (fun hc17 => ?_)
  · have h_3 := ineg hc17 h_2
    refine FW.sub [1, 2, 0] (ls' := [(0, .ref p0), (1, .int p1), (2, .int x11)]) rfl ?_
    exact sj_X11_highClause_29 hd h_3
  · have h_4 := ipos hc17 h_2
    refine fw_aload_n (i := 0) 1 rfl (show decode _ _ = .ok (.aload_n 0, 1) by decide +kernel) ?_
    refine fw_ldc2 (idx := 235) (v := (24948 : Int64)) (show decode _ _ = .ok (.ldc2_w 235, 3) by decide +kernel) wd1683 ?_
    refine fw_iload_n (i := 1) 2 rfl (show decode _ _ = .ok (.iload_n 1, 1) by decide +kernel) ?_
    refine fw_iconst (v := (2 : Int32)) (show decode _ _ = .ok (.iconst 2, 1) by decide +kernel) (by decide) ?_
    refine fw_iadd (show decode _ _ = .ok (.iadd, 1) by decide +kernel) ?_
    refine fw_iconst (v := (1 : Int32)) (show decode _ _ = .ok (.iconst 1, 1) by decide +kernel) (by decide) ?_
    refine fw_bipush (v := (14 : Int32)) (show decode _ _ = .ok (.bipush 14, 2) by decide +kernel) (by decide) ?_
    obtain ⟨⟨hr14, n13, hs15⟩, h_5⟩ := h_4
    refine fw_callV (mt' := mtX11_worded) (mc := 0) (ms := 0) (As := [.long (24948 : Int64), .int (p1 + (2 : Int32)), .int (1 : Int32), .int (14 : Int32)]) (rest := []) 4 11 n13 (show decode _ _ = .ok (.invokevirtual 228, 3) by decide +kernel) cv_X11_228 ⟨_, rfl, rfl⟩ hr14 hs15 rfl (Nat.le_of_ble_eq_true rfl) (s_X11_worded (d := d) (hd_le hd (by decide)) h_5) (by decide) (by decide) (kI (bc' := 0) (bs' := 0) (by decide) (by decide) (fun x16 M12 h_6 => ?_))
    refine fw_istore_n (i := 2) (ls' := [(2, .int x16), (0, .ref p0), (1, .int p1)]) (show decode _ _ = .ok (.istore_n 2, 1) by decide +kernel) (by decide) rfl ?_
    refine FW.sub [1, 2, 0] (ls' := [(0, .ref p0), (1, .int p1), (2, .int x16)]) rfl ?_
    exact sj_X11_highClause_29 hd h_6
def j_X11_oneClause_39 (φ : Int32 → fM → Prop) (p0 : Nat) (p1 : Int32) (p2 : Int32) (M : fM) : Prop := iF (p2 = 0) (w_X11_w3 (108 : Int32) (97 : Int32) (110 : Int32) M fun x2 M1 => w_X11_w4 (100 : Int32) (105 : Int32) (110 : Int32) (103 : Int32) M1 fun x4 M3 => isO M3 p0 11 ∧ w_X11_worded p0 ((x2 <<< (Int32.toInt64 (32 : Int32) &&& 63)) ||| x4) (p1 + (3 : Int32)) (0 : Int32) (10 : Int32) M3 fun x9 M5 => φ x9 M5) (φ p2 M)
set_option maxRecDepth 100000 in
theorem sj_X11_oneClause_39 {g : GT} {d : Nat} (hd : 6 ≤ d + 1) {φ : Int32 → fM → Prop} {p0 : Nat} {p1 : Int32} {p2 : Int32} {M : fM} (h : j_X11_oneClause_39 φ p0 p1 p2 M) : FW g mtX11_oneClause (d + 1) 39 [(0, .ref p0), (1, .int p1), (2, .int p2)] [] M 0 0 (rI φ) := by
  unfold j_X11_oneClause_39 at h
  refine fw_iload_n (i := 2) 2 rfl (show decode _ _ = .ok (.iload_n 2, 1) by decide +kernel) ?_
  refine fw_if_eq 47 (show decode _ _ = .ok (.ifCond .eq 7, 3) by decide +kernel) (by decide) (fun hc10 => ?_) (fun hc10 => ?_)
  · have h_1 := ipos hc10 h
    refine fw_aload_n (i := 0) 0 rfl (show decode _ _ = .ok (.aload_n 0, 1) by decide +kernel) ?_
    refine fw_bipush (v := (108 : Int32)) (show decode _ _ = .ok (.bipush 108, 2) by decide +kernel) (by decide) ?_
    refine fw_bipush (v := (97 : Int32)) (show decode _ _ = .ok (.bipush 97, 2) by decide +kernel) (by decide) ?_
    refine fw_bipush (v := (110 : Int32)) (show decode _ _ = .ok (.bipush 110, 2) by decide +kernel) (by decide) ?_
    refine fw_callS (mt' := mtX11_w3) (mc := 0) (ms := 0) (As := [.int (108 : Int32), .int (97 : Int32), .int (110 : Int32)]) (rest := [.ref p0]) 3 (show decode _ _ = .ok (.invokestatic 124, 3) by decide +kernel) cs_X11_124 rfl (Nat.le_of_ble_eq_true rfl) (s_X11_w3 (d := d) (hd_le hd (by decide)) h_1) (by decide) (by decide) (kJ (bc' := 0) (bs' := 0) (by decide) (by decide) (fun x2 M1 h_2 => ?_))
    refine fw_bipush (v := (32 : Int32)) (show decode _ _ = .ok (.bipush 32, 2) by decide +kernel) (by decide) ?_
    refine fw_lshl (show decode _ _ = .ok (.lshl, 1) by decide +kernel) ?_
    refine fw_bipush (v := (100 : Int32)) (show decode _ _ = .ok (.bipush 100, 2) by decide +kernel) (by decide) ?_
    refine fw_bipush (v := (105 : Int32)) (show decode _ _ = .ok (.bipush 105, 2) by decide +kernel) (by decide) ?_
    refine fw_bipush (v := (110 : Int32)) (show decode _ _ = .ok (.bipush 110, 2) by decide +kernel) (by decide) ?_
    refine fw_bipush (v := (103 : Int32)) (show decode _ _ = .ok (.bipush 103, 2) by decide +kernel) (by decide) ?_
    refine fw_callS (mt' := mtX11_w4) (mc := 0) (ms := 0) (As := [.int (100 : Int32), .int (105 : Int32), .int (110 : Int32), .int (103 : Int32)]) (rest := [.long (x2 <<< (Int32.toInt64 (32 : Int32) &&& 63)), .ref p0]) 4 (show decode _ _ = .ok (.invokestatic 145, 3) by decide +kernel) cs_X11_145 rfl (Nat.le_of_ble_eq_true rfl) (s_X11_w4 (d := d) (hd_le hd (by decide)) h_2) (by decide) (by decide) (kJ (bc' := 0) (bs' := 0) (by decide) (by decide) (fun x4 M3 h_3 => ?_))
    refine fw_lor (show decode _ _ = .ok (.lor, 1) by decide +kernel) ?_
    refine fw_iload_n (i := 1) 1 rfl (show decode _ _ = .ok (.iload_n 1, 1) by decide +kernel) ?_
    refine fw_iconst (v := (3 : Int32)) (show decode _ _ = .ok (.iconst 3, 1) by decide +kernel) (by decide) ?_
    refine fw_iadd (show decode _ _ = .ok (.iadd, 1) by decide +kernel) ?_
    refine fw_iconst (v := (0 : Int32)) (show decode _ _ = .ok (.iconst 0, 1) by decide +kernel) (by decide) ?_
    refine fw_bipush (v := (10 : Int32)) (show decode _ _ = .ok (.bipush 10, 2) by decide +kernel) (by decide) ?_
    obtain ⟨⟨hr7, n6, hs8⟩, h_4⟩ := h_3
    refine fw_callV (mt' := mtX11_worded) (mc := 0) (ms := 0) (As := [.long ((x2 <<< (Int32.toInt64 (32 : Int32) &&& 63)) ||| x4), .int (p1 + (3 : Int32)), .int (0 : Int32), .int (10 : Int32)]) (rest := []) 4 11 n6 (show decode _ _ = .ok (.invokevirtual 228, 3) by decide +kernel) cv_X11_228 ⟨_, rfl, rfl⟩ hr7 hs8 rfl (Nat.le_of_ble_eq_true rfl) (s_X11_worded (d := d) (hd_le hd (by decide)) h_4) (by decide) (by decide) (kI (bc' := 0) (bs' := 0) (by decide) (by decide) (fun x9 M5 h_5 => ?_))
    exact fw_ret (v := some (.int x9)) .ireturn (show decode _ _ = .ok (.ireturn, 1) by decide +kernel) ⟨rfl, Or.inl rfl⟩ ⟨_, rfl, h_5⟩
  · have h_6 := ineg hc10 h
    refine fw_iload_n (i := 2) 2 rfl (show decode _ _ = .ok (.iload_n 2, 1) by decide +kernel) ?_
    refine fw_goto 81 (show decode _ _ = .ok (.goto 37, 3) by decide +kernel) (by decide) ?_
    exact fw_ret (v := some (.int p2)) .ireturn (show decode _ _ = .ok (.ireturn, 1) by decide +kernel) ⟨rfl, Or.inl rfl⟩ ⟨_, rfl, h_6⟩
def w_X11_oneClause (p0 : Nat) (p1 : Int32) (M : fM) (φ : Int32 → fM → Prop) : Prop := isO M p0 11 ∧ w_X11_figure p0 (p1 + (1 : Int32)) (0 : Int32) (10 : Int32) M fun x15 M11 => iF (x15 = 0) (w_X11_w5 (116 : Int32) (119 : Int32) (105 : Int32) (99 : Int32) (101 : Int32) M11 fun x17 M16 => isO M16 p0 11 ∧ w_X11_worded p0 x17 (p1 + (2 : Int32)) (0 : Int32) (10 : Int32) M16 fun x22 M18 => j_X11_oneClause_39 φ p0 p1 x22 M18) (j_X11_oneClause_39 φ p0 p1 x15 M11)
set_option maxRecDepth 100000 in
theorem s_X11_oneClause {g : GT} {d : Nat} (hd : 6 ≤ d) {p0 : Nat} {p1 : Int32} {M : fM} {φ : Int32 → fM → Prop} (h : w_X11_oneClause p0 p1 M φ) : FC g mtX11_oneClause d [.ref p0, .int p1] M 0 0 (rI φ) := by
  obtain ⟨d, rfl⟩ : ∃ e, d = e + 1 := ⟨d - 1, by omega⟩
  unfold w_X11_oneClause at h
  refine FC.intro (nL := 3) (by decide) rfl (Nat.le_of_ble_eq_true rfl) ?_
  show FW g mtX11_oneClause (d + 1) 0 [(0, .ref p0), (1, .int p1)] [] M 0 0 (rI φ)
  refine fw_aload_n (i := 0) 0 rfl (show decode _ _ = .ok (.aload_n 0, 1) by decide +kernel) ?_
  refine fw_iload_n (i := 1) 1 rfl (show decode _ _ = .ok (.iload_n 1, 1) by decide +kernel) ?_
  refine fw_iconst (v := (1 : Int32)) (show decode _ _ = .ok (.iconst 1, 1) by decide +kernel) (by decide) ?_
  refine fw_iadd (show decode _ _ = .ok (.iadd, 1) by decide +kernel) ?_
  refine fw_iconst (v := (0 : Int32)) (show decode _ _ = .ok (.iconst 0, 1) by decide +kernel) (by decide) ?_
  refine fw_bipush (v := (10 : Int32)) (show decode _ _ = .ok (.bipush 10, 2) by decide +kernel) (by decide) ?_
  obtain ⟨⟨hr13, n12, hs14⟩, h_1⟩ := h
  refine fw_callV (mt' := mtX11_figure) (mc := 0) (ms := 0) (As := [.int (p1 + (1 : Int32)), .int (0 : Int32), .int (10 : Int32)]) (rest := []) 3 11 n12 (show decode _ _ = .ok (.invokevirtual 222, 3) by decide +kernel) cv_X11_222 ⟨_, rfl, rfl⟩ hr13 hs14 rfl (Nat.le_of_ble_eq_true rfl) (s_X11_figure (d := d) (hd_le hd (by decide)) h_1) (by decide) (by decide) (kI (bc' := 0) (bs' := 0) (by decide) (by decide) (fun x15 M11 h_2 => ?_))
  refine fw_istore_n (i := 2) (ls' := [(2, .int x15), (0, .ref p0), (1, .int p1)]) (show decode _ _ = .ok (.istore_n 2, 1) by decide +kernel) (by decide) rfl ?_
  refine fw_iload_n (i := 2) 0 rfl (show decode _ _ = .ok (.iload_n 2, 1) by decide +kernel) ?_
  refine fw_if_ne 39 (show decode _ _ = .ok (.ifCond .ne 27, 3) by decide +kernel) (by decide) (fun hc23 => ?_) (fun hc23 => ?_)
  · have h_3 := ineg hc23 h_2
    refine FW.sub [1, 2, 0] (ls' := [(0, .ref p0), (1, .int p1), (2, .int x15)]) rfl ?_
    exact sj_X11_oneClause_39 hd h_3
  · have h_4 := ipos hc23 h_2
    refine fw_aload_n (i := 0) 1 rfl (show decode _ _ = .ok (.aload_n 0, 1) by decide +kernel) ?_
    refine fw_bipush (v := (116 : Int32)) (show decode _ _ = .ok (.bipush 116, 2) by decide +kernel) (by decide) ?_
    refine fw_bipush (v := (119 : Int32)) (show decode _ _ = .ok (.bipush 119, 2) by decide +kernel) (by decide) ?_
    refine fw_bipush (v := (105 : Int32)) (show decode _ _ = .ok (.bipush 105, 2) by decide +kernel) (by decide) ?_
    refine fw_bipush (v := (99 : Int32)) (show decode _ _ = .ok (.bipush 99, 2) by decide +kernel) (by decide) ?_
    refine fw_bipush (v := (101 : Int32)) (show decode _ _ = .ok (.bipush 101, 2) by decide +kernel) (by decide) ?_
    refine fw_callS (mt' := mtX11_w5) (mc := 0) (ms := 0) (As := [.int (116 : Int32), .int (119 : Int32), .int (105 : Int32), .int (99 : Int32), .int (101 : Int32)]) (rest := [.ref p0]) 5 (show decode _ _ = .ok (.invokestatic 128, 3) by decide +kernel) cs_X11_128 rfl (Nat.le_of_ble_eq_true rfl) (s_X11_w5 (d := d) (hd_le hd (by decide)) h_4) (by decide) (by decide) (kJ (bc' := 0) (bs' := 0) (by decide) (by decide) (fun x17 M16 h_5 => ?_))
    refine fw_iload_n (i := 1) 2 rfl (show decode _ _ = .ok (.iload_n 1, 1) by decide +kernel) ?_
    refine fw_iconst (v := (2 : Int32)) (show decode _ _ = .ok (.iconst 2, 1) by decide +kernel) (by decide) ?_
    refine fw_iadd (show decode _ _ = .ok (.iadd, 1) by decide +kernel) ?_
    refine fw_iconst (v := (0 : Int32)) (show decode _ _ = .ok (.iconst 0, 1) by decide +kernel) (by decide) ?_
    refine fw_bipush (v := (10 : Int32)) (show decode _ _ = .ok (.bipush 10, 2) by decide +kernel) (by decide) ?_
    obtain ⟨⟨hr20, n19, hs21⟩, h_6⟩ := h_5
    refine fw_callV (mt' := mtX11_worded) (mc := 0) (ms := 0) (As := [.long x17, .int (p1 + (2 : Int32)), .int (0 : Int32), .int (10 : Int32)]) (rest := []) 4 11 n19 (show decode _ _ = .ok (.invokevirtual 228, 3) by decide +kernel) cv_X11_228 ⟨_, rfl, rfl⟩ hr20 hs21 rfl (Nat.le_of_ble_eq_true rfl) (s_X11_worded (d := d) (hd_le hd (by decide)) h_6) (by decide) (by decide) (kI (bc' := 0) (bs' := 0) (by decide) (by decide) (fun x22 M18 h_7 => ?_))
    refine fw_istore_n (i := 2) (ls' := [(2, .int x22), (0, .ref p0), (1, .int p1)]) (show decode _ _ = .ok (.istore_n 2, 1) by decide +kernel) (by decide) rfl ?_
    refine FW.sub [1, 2, 0] (ls' := [(0, .ref p0), (1, .int p1), (2, .int x22)]) rfl ?_
    exact sj_X11_oneClause_39 hd h_7
def j_X11_pair_126 (φ : Int32 → fM → Prop) (p0 : Nat) (p2 : Int32) (M : fM) : Prop := isO M p0 11 ∧ w_X11_figure p0 (p2 + (1 : Int32)) (0 : Int32) (5 : Int32) M fun x5 M1 => iF (x5 = 0) (isO M1 p0 11 ∧ w_X11_worded p0 (24948 : Int64) (p2 + (2 : Int32)) (0 : Int32) (3 : Int32) M1 fun x10 M6 => φ x10 M6) (φ x5 M1)
set_option maxRecDepth 100000 in
theorem sj_X11_pair_126 {g : GT} {d : Nat} (hd : 7 ≤ d + 1) {φ : Int32 → fM → Prop} {p0 : Nat} {p2 : Int32} {M : fM} (h : j_X11_pair_126 φ p0 p2 M) : FW g mtX11_pair (d + 1) 126 [(0, .ref p0), (2, .int p2)] [] M 0 0 (rI φ) := by
  unfold j_X11_pair_126 at h
  refine fw_aload_n (i := 0) 0 rfl (show decode _ _ = .ok (.aload_n 0, 1) by decide +kernel) ?_
  refine fw_iload_n (i := 2) 1 rfl (show decode _ _ = .ok (.iload_n 2, 1) by decide +kernel) ?_
  refine fw_iconst (v := (1 : Int32)) (show decode _ _ = .ok (.iconst 1, 1) by decide +kernel) (by decide) ?_
  refine fw_iadd (show decode _ _ = .ok (.iadd, 1) by decide +kernel) ?_
  refine fw_iconst (v := (0 : Int32)) (show decode _ _ = .ok (.iconst 0, 1) by decide +kernel) (by decide) ?_
  refine fw_iconst (v := (5 : Int32)) (show decode _ _ = .ok (.iconst 5, 1) by decide +kernel) (by decide) ?_
  obtain ⟨⟨hr3, n2, hs4⟩, h_1⟩ := h
  refine fw_callV (mt' := mtX11_figure) (mc := 0) (ms := 0) (As := [.int (p2 + (1 : Int32)), .int (0 : Int32), .int (5 : Int32)]) (rest := []) 3 11 n2 (show decode _ _ = .ok (.invokevirtual 222, 3) by decide +kernel) cv_X11_222 ⟨_, rfl, rfl⟩ hr3 hs4 rfl (Nat.le_of_ble_eq_true rfl) (s_X11_figure (d := d) (hd_le hd (by decide)) h_1) (by decide) (by decide) (kI (bc' := 0) (bs' := 0) (by decide) (by decide) (fun x5 M1 h_2 => ?_))
  refine fw_istore_n (i := 3) (ls' := [(3, .int x5), (0, .ref p0), (2, .int p2)]) (show decode _ _ = .ok (.istore_n 3, 1) by decide +kernel) (by decide) rfl ?_
  refine fw_iload_n (i := 3) 0 rfl (show decode _ _ = .ok (.iload_n 3, 1) by decide +kernel) ?_
  refine fw_if_eq 144 (show decode _ _ = .ok (.ifCond .eq 7, 3) by decide +kernel) (by decide) (fun hc11 => ?_) (fun hc11 => ?_)
  · have h_3 := ipos hc11 h_2
    refine fw_aload_n (i := 0) 1 rfl (show decode _ _ = .ok (.aload_n 0, 1) by decide +kernel) ?_
    refine fw_ldc2 (idx := 235) (v := (24948 : Int64)) (show decode _ _ = .ok (.ldc2_w 235, 3) by decide +kernel) wd1683 ?_
    refine fw_iload_n (i := 2) 2 rfl (show decode _ _ = .ok (.iload_n 2, 1) by decide +kernel) ?_
    refine fw_iconst (v := (2 : Int32)) (show decode _ _ = .ok (.iconst 2, 1) by decide +kernel) (by decide) ?_
    refine fw_iadd (show decode _ _ = .ok (.iadd, 1) by decide +kernel) ?_
    refine fw_iconst (v := (0 : Int32)) (show decode _ _ = .ok (.iconst 0, 1) by decide +kernel) (by decide) ?_
    refine fw_iconst (v := (3 : Int32)) (show decode _ _ = .ok (.iconst 3, 1) by decide +kernel) (by decide) ?_
    obtain ⟨⟨hr8, n7, hs9⟩, h_4⟩ := h_3
    refine fw_callV (mt' := mtX11_worded) (mc := 0) (ms := 0) (As := [.long (24948 : Int64), .int (p2 + (2 : Int32)), .int (0 : Int32), .int (3 : Int32)]) (rest := []) 4 11 n7 (show decode _ _ = .ok (.invokevirtual 228, 3) by decide +kernel) cv_X11_228 ⟨_, rfl, rfl⟩ hr8 hs9 rfl (Nat.le_of_ble_eq_true rfl) (s_X11_worded (d := d) (hd_le hd (by decide)) h_4) (by decide) (by decide) (kI (bc' := 0) (bs' := 0) (by decide) (by decide) (fun x10 M6 h_5 => ?_))
    exact fw_ret (v := some (.int x10)) .ireturn (show decode _ _ = .ok (.ireturn, 1) by decide +kernel) ⟨rfl, Or.inl rfl⟩ ⟨_, rfl, h_5⟩
  · have h_6 := ineg hc11 h_2
    refine fw_iload_n (i := 3) 0 rfl (show decode _ _ = .ok (.iload_n 3, 1) by decide +kernel) ?_
    refine fw_goto 156 (show decode _ _ = .ok (.goto 15, 3) by decide +kernel) (by decide) ?_
    exact fw_ret (v := some (.int x5)) .ireturn (show decode _ _ = .ok (.ireturn, 1) by decide +kernel) ⟨rfl, Or.inl rfl⟩ ⟨_, rfl, h_6⟩
def w_X11_pair (p0 : Nat) (p1 : Int32) (p2 : Int32) (M : fM) (φ : Int32 → fM → Prop) : Prop := iF (p1 = (5 : Int32)) (isO M p0 11 ∧ w_X11_figure p0 (p2 + (1 : Int32)) (0 : Int32) (3 : Int32) M fun x16 M12 => iF (x16 = 0) (w_X11_w4 (108 : Int32) (111 : Int32) (110 : Int32) (103 : Int32) M12 fun x18 M17 => isO M17 p0 11 ∧ w_X11_worded p0 x18 (p2 + (2 : Int32)) (1 : Int32) (14 : Int32) M17 fun x23 M19 => φ x23 M19) (φ x16 M12)) (iF (p1 = (7 : Int32)) (isO M p0 11 ∧ w_X11_figure p0 (p2 + (1 : Int32)) (1 : Int32) (14 : Int32) M fun x30 M26 => iF (x30 = 0) (isO M26 p0 11 ∧ w_X11_ofHouse p0 (p2 + (2 : Int32)) M26 fun x35 M31 => φ x35 M31) (φ x30 M26)) (iF (p1 = (8 : Int32)) (isO M p0 11 ∧ w_X11_figure p0 (p2 + (1 : Int32)) (0 : Int32) (14 : Int32) M fun x42 M38 => iF (x42 = 0) (isO M38 p0 11 ∧ w_X11_ofHouse p0 (p2 + (2 : Int32)) M38 fun x47 M43 => φ x47 M43) (φ x42 M38)) (j_X11_pair_126 φ p0 p2 M)))
set_option maxRecDepth 100000 in
theorem s_X11_pair {g : GT} {d : Nat} (hd : 7 ≤ d) {p0 : Nat} {p1 : Int32} {p2 : Int32} {M : fM} {φ : Int32 → fM → Prop} (h : w_X11_pair p0 p1 p2 M φ) : FC g mtX11_pair d [.ref p0, .int p1, .int p2] M 0 0 (rI φ) := by
  obtain ⟨d, rfl⟩ : ∃ e, d = e + 1 := ⟨d - 1, by omega⟩
  unfold w_X11_pair at h
  refine FC.intro (nL := 4) (by decide) rfl (Nat.le_of_ble_eq_true rfl) ?_
  show FW g mtX11_pair (d + 1) 0 [(0, .ref p0), (1, .int p1), (2, .int p2)] [] M 0 0 (rI φ)
  refine fw_iload_n (i := 1) 1 rfl (show decode _ _ = .ok (.iload_n 1, 1) by decide +kernel) ?_
  by_cases hc25 : p1 = (5 : Int32)
  · have h_1 := ipos hc25 h
    refine fw_tin (off := 31) 32 (show decode _ _ = .ok (.tableswitch 125 5 8 #[31, 125, 71, 98], 31) by decide +kernel) (by rw [hc25]; decide) (by rw [hc25]; decide) (by rw [hc25]; rfl) (by decide) ?_
    refine fw_aload_n (i := 0) 0 rfl (show decode _ _ = .ok (.aload_n 0, 1) by decide +kernel) ?_
    refine fw_iload_n (i := 2) 2 rfl (show decode _ _ = .ok (.iload_n 2, 1) by decide +kernel) ?_
    refine fw_iconst (v := (1 : Int32)) (show decode _ _ = .ok (.iconst 1, 1) by decide +kernel) (by decide) ?_
    refine fw_iadd (show decode _ _ = .ok (.iadd, 1) by decide +kernel) ?_
    refine fw_iconst (v := (0 : Int32)) (show decode _ _ = .ok (.iconst 0, 1) by decide +kernel) (by decide) ?_
    refine fw_iconst (v := (3 : Int32)) (show decode _ _ = .ok (.iconst 3, 1) by decide +kernel) (by decide) ?_
    obtain ⟨⟨hr14, n13, hs15⟩, h_2⟩ := h_1
    refine fw_callV (mt' := mtX11_figure) (mc := 0) (ms := 0) (As := [.int (p2 + (1 : Int32)), .int (0 : Int32), .int (3 : Int32)]) (rest := []) 3 11 n13 (show decode _ _ = .ok (.invokevirtual 222, 3) by decide +kernel) cv_X11_222 ⟨_, rfl, rfl⟩ hr14 hs15 rfl (Nat.le_of_ble_eq_true rfl) (s_X11_figure (d := d) (hd_le hd (by decide)) h_2) (by decide) (by decide) (kI (bc' := 0) (bs' := 0) (by decide) (by decide) (fun x16 M12 h_3 => ?_))
    refine fw_istore_n (i := 3) (ls' := [(3, .int x16), (0, .ref p0), (1, .int p1), (2, .int p2)]) (show decode _ _ = .ok (.istore_n 3, 1) by decide +kernel) (by decide) rfl ?_
    refine fw_iload_n (i := 3) 0 rfl (show decode _ _ = .ok (.iload_n 3, 1) by decide +kernel) ?_
    refine fw_if_eq 50 (show decode _ _ = .ok (.ifCond .eq 7, 3) by decide +kernel) (by decide) (fun hc24 => ?_) (fun hc24 => ?_)
    · have h_4 := ipos hc24 h_3
      refine fw_aload_n (i := 0) 1 rfl (show decode _ _ = .ok (.aload_n 0, 1) by decide +kernel) ?_
      refine fw_bipush (v := (108 : Int32)) (show decode _ _ = .ok (.bipush 108, 2) by decide +kernel) (by decide) ?_
      refine fw_bipush (v := (111 : Int32)) (show decode _ _ = .ok (.bipush 111, 2) by decide +kernel) (by decide) ?_
      refine fw_bipush (v := (110 : Int32)) (show decode _ _ = .ok (.bipush 110, 2) by decide +kernel) (by decide) ?_
      refine fw_bipush (v := (103 : Int32)) (show decode _ _ = .ok (.bipush 103, 2) by decide +kernel) (by decide) ?_
      refine fw_callS (mt' := mtX11_w4) (mc := 0) (ms := 0) (As := [.int (108 : Int32), .int (111 : Int32), .int (110 : Int32), .int (103 : Int32)]) (rest := [.ref p0]) 4 (show decode _ _ = .ok (.invokestatic 145, 3) by decide +kernel) cs_X11_145 rfl (Nat.le_of_ble_eq_true rfl) (s_X11_w4 (d := d) (hd_le hd (by decide)) h_4) (by decide) (by decide) (kJ (bc' := 0) (bs' := 0) (by decide) (by decide) (fun x18 M17 h_5 => ?_))
      refine fw_iload_n (i := 2) 3 rfl (show decode _ _ = .ok (.iload_n 2, 1) by decide +kernel) ?_
      refine fw_iconst (v := (2 : Int32)) (show decode _ _ = .ok (.iconst 2, 1) by decide +kernel) (by decide) ?_
      refine fw_iadd (show decode _ _ = .ok (.iadd, 1) by decide +kernel) ?_
      refine fw_iconst (v := (1 : Int32)) (show decode _ _ = .ok (.iconst 1, 1) by decide +kernel) (by decide) ?_
      refine fw_bipush (v := (14 : Int32)) (show decode _ _ = .ok (.bipush 14, 2) by decide +kernel) (by decide) ?_
      obtain ⟨⟨hr21, n20, hs22⟩, h_6⟩ := h_5
      refine fw_callV (mt' := mtX11_worded) (mc := 0) (ms := 0) (As := [.long x18, .int (p2 + (2 : Int32)), .int (1 : Int32), .int (14 : Int32)]) (rest := []) 4 11 n20 (show decode _ _ = .ok (.invokevirtual 228, 3) by decide +kernel) cv_X11_228 ⟨_, rfl, rfl⟩ hr21 hs22 rfl (Nat.le_of_ble_eq_true rfl) (s_X11_worded (d := d) (hd_le hd (by decide)) h_6) (by decide) (by decide) (kI (bc' := 0) (bs' := 0) (by decide) (by decide) (fun x23 M19 h_7 => ?_))
      exact fw_ret (v := some (.int x23)) .ireturn (show decode _ _ = .ok (.ireturn, 1) by decide +kernel) ⟨rfl, Or.inl rfl⟩ ⟨_, rfl, h_7⟩
    · have h_8 := ineg hc24 h_3
      refine fw_iload_n (i := 3) 0 rfl (show decode _ _ = .ok (.iload_n 3, 1) by decide +kernel) ?_
      refine fw_goto 71 (show decode _ _ = .ok (.goto 24, 3) by decide +kernel) (by decide) ?_
      exact fw_ret (v := some (.int x16)) .ireturn (show decode _ _ = .ok (.ireturn, 1) by decide +kernel) ⟨rfl, Or.inl rfl⟩ ⟨_, rfl, h_8⟩
  have h_9 := ineg hc25 h
  by_cases hc37 : p1 = (7 : Int32)
  · have h_10 := ipos hc37 h_9
    refine fw_tin (off := 71) 72 (show decode _ _ = .ok (.tableswitch 125 5 8 #[31, 125, 71, 98], 31) by decide +kernel) (by rw [hc37]; decide) (by rw [hc37]; decide) (by rw [hc37]; rfl) (by decide) ?_
    refine fw_aload_n (i := 0) 0 rfl (show decode _ _ = .ok (.aload_n 0, 1) by decide +kernel) ?_
    refine fw_iload_n (i := 2) 2 rfl (show decode _ _ = .ok (.iload_n 2, 1) by decide +kernel) ?_
    refine fw_iconst (v := (1 : Int32)) (show decode _ _ = .ok (.iconst 1, 1) by decide +kernel) (by decide) ?_
    refine fw_iadd (show decode _ _ = .ok (.iadd, 1) by decide +kernel) ?_
    refine fw_iconst (v := (1 : Int32)) (show decode _ _ = .ok (.iconst 1, 1) by decide +kernel) (by decide) ?_
    refine fw_bipush (v := (14 : Int32)) (show decode _ _ = .ok (.bipush 14, 2) by decide +kernel) (by decide) ?_
    obtain ⟨⟨hr28, n27, hs29⟩, h_11⟩ := h_10
    refine fw_callV (mt' := mtX11_figure) (mc := 0) (ms := 0) (As := [.int (p2 + (1 : Int32)), .int (1 : Int32), .int (14 : Int32)]) (rest := []) 3 11 n27 (show decode _ _ = .ok (.invokevirtual 222, 3) by decide +kernel) cv_X11_222 ⟨_, rfl, rfl⟩ hr28 hs29 rfl (Nat.le_of_ble_eq_true rfl) (s_X11_figure (d := d) (hd_le hd (by decide)) h_11) (by decide) (by decide) (kI (bc' := 0) (bs' := 0) (by decide) (by decide) (fun x30 M26 h_12 => ?_))
    refine fw_istore_n (i := 3) (ls' := [(3, .int x30), (0, .ref p0), (1, .int p1), (2, .int p2)]) (show decode _ _ = .ok (.istore_n 3, 1) by decide +kernel) (by decide) rfl ?_
    refine fw_iload_n (i := 3) 0 rfl (show decode _ _ = .ok (.iload_n 3, 1) by decide +kernel) ?_
    refine fw_if_eq 91 (show decode _ _ = .ok (.ifCond .eq 7, 3) by decide +kernel) (by decide) (fun hc36 => ?_) (fun hc36 => ?_)
    · have h_13 := ipos hc36 h_12
      refine fw_aload_n (i := 0) 1 rfl (show decode _ _ = .ok (.aload_n 0, 1) by decide +kernel) ?_
      refine fw_iload_n (i := 2) 3 rfl (show decode _ _ = .ok (.iload_n 2, 1) by decide +kernel) ?_
      refine fw_iconst (v := (2 : Int32)) (show decode _ _ = .ok (.iconst 2, 1) by decide +kernel) (by decide) ?_
      refine fw_iadd (show decode _ _ = .ok (.iadd, 1) by decide +kernel) ?_
      obtain ⟨⟨hr33, n32, hs34⟩, h_14⟩ := h_13
      refine fw_callV (mt' := mtX11_ofHouse) (mc := 0) (ms := 0) (As := [.int (p2 + (2 : Int32))]) (rest := []) 1 11 n32 (show decode _ _ = .ok (.invokevirtual 237, 3) by decide +kernel) cv_X11_237 ⟨_, rfl, rfl⟩ hr33 hs34 rfl (Nat.le_of_ble_eq_true rfl) (s_X11_ofHouse (d := d) (hd_le hd (by decide)) h_14) (by decide) (by decide) (kI (bc' := 0) (bs' := 0) (by decide) (by decide) (fun x35 M31 h_15 => ?_))
      exact fw_ret (v := some (.int x35)) .ireturn (show decode _ _ = .ok (.ireturn, 1) by decide +kernel) ⟨rfl, Or.inl rfl⟩ ⟨_, rfl, h_15⟩
    · have h_16 := ineg hc36 h_12
      refine fw_iload_n (i := 3) 0 rfl (show decode _ _ = .ok (.iload_n 3, 1) by decide +kernel) ?_
      refine fw_goto 98 (show decode _ _ = .ok (.goto 10, 3) by decide +kernel) (by decide) ?_
      exact fw_ret (v := some (.int x30)) .ireturn (show decode _ _ = .ok (.ireturn, 1) by decide +kernel) ⟨rfl, Or.inl rfl⟩ ⟨_, rfl, h_16⟩
  have h_17 := ineg hc37 h_9
  by_cases hc49 : p1 = (8 : Int32)
  · have h_18 := ipos hc49 h_17
    refine fw_tin (off := 98) 99 (show decode _ _ = .ok (.tableswitch 125 5 8 #[31, 125, 71, 98], 31) by decide +kernel) (by rw [hc49]; decide) (by rw [hc49]; decide) (by rw [hc49]; rfl) (by decide) ?_
    refine fw_aload_n (i := 0) 0 rfl (show decode _ _ = .ok (.aload_n 0, 1) by decide +kernel) ?_
    refine fw_iload_n (i := 2) 2 rfl (show decode _ _ = .ok (.iload_n 2, 1) by decide +kernel) ?_
    refine fw_iconst (v := (1 : Int32)) (show decode _ _ = .ok (.iconst 1, 1) by decide +kernel) (by decide) ?_
    refine fw_iadd (show decode _ _ = .ok (.iadd, 1) by decide +kernel) ?_
    refine fw_iconst (v := (0 : Int32)) (show decode _ _ = .ok (.iconst 0, 1) by decide +kernel) (by decide) ?_
    refine fw_bipush (v := (14 : Int32)) (show decode _ _ = .ok (.bipush 14, 2) by decide +kernel) (by decide) ?_
    obtain ⟨⟨hr40, n39, hs41⟩, h_19⟩ := h_18
    refine fw_callV (mt' := mtX11_figure) (mc := 0) (ms := 0) (As := [.int (p2 + (1 : Int32)), .int (0 : Int32), .int (14 : Int32)]) (rest := []) 3 11 n39 (show decode _ _ = .ok (.invokevirtual 222, 3) by decide +kernel) cv_X11_222 ⟨_, rfl, rfl⟩ hr40 hs41 rfl (Nat.le_of_ble_eq_true rfl) (s_X11_figure (d := d) (hd_le hd (by decide)) h_19) (by decide) (by decide) (kI (bc' := 0) (bs' := 0) (by decide) (by decide) (fun x42 M38 h_20 => ?_))
    refine fw_istore_n (i := 3) (ls' := [(3, .int x42), (0, .ref p0), (1, .int p1), (2, .int p2)]) (show decode _ _ = .ok (.istore_n 3, 1) by decide +kernel) (by decide) rfl ?_
    refine fw_iload_n (i := 3) 0 rfl (show decode _ _ = .ok (.iload_n 3, 1) by decide +kernel) ?_
    refine fw_if_eq 118 (show decode _ _ = .ok (.ifCond .eq 7, 3) by decide +kernel) (by decide) (fun hc48 => ?_) (fun hc48 => ?_)
    · have h_21 := ipos hc48 h_20
      refine fw_aload_n (i := 0) 1 rfl (show decode _ _ = .ok (.aload_n 0, 1) by decide +kernel) ?_
      refine fw_iload_n (i := 2) 3 rfl (show decode _ _ = .ok (.iload_n 2, 1) by decide +kernel) ?_
      refine fw_iconst (v := (2 : Int32)) (show decode _ _ = .ok (.iconst 2, 1) by decide +kernel) (by decide) ?_
      refine fw_iadd (show decode _ _ = .ok (.iadd, 1) by decide +kernel) ?_
      obtain ⟨⟨hr45, n44, hs46⟩, h_22⟩ := h_21
      refine fw_callV (mt' := mtX11_ofHouse) (mc := 0) (ms := 0) (As := [.int (p2 + (2 : Int32))]) (rest := []) 1 11 n44 (show decode _ _ = .ok (.invokevirtual 237, 3) by decide +kernel) cv_X11_237 ⟨_, rfl, rfl⟩ hr45 hs46 rfl (Nat.le_of_ble_eq_true rfl) (s_X11_ofHouse (d := d) (hd_le hd (by decide)) h_22) (by decide) (by decide) (kI (bc' := 0) (bs' := 0) (by decide) (by decide) (fun x47 M43 h_23 => ?_))
      exact fw_ret (v := some (.int x47)) .ireturn (show decode _ _ = .ok (.ireturn, 1) by decide +kernel) ⟨rfl, Or.inl rfl⟩ ⟨_, rfl, h_23⟩
    · have h_24 := ineg hc48 h_20
      refine fw_iload_n (i := 3) 0 rfl (show decode _ _ = .ok (.iload_n 3, 1) by decide +kernel) ?_
      refine fw_goto 125 (show decode _ _ = .ok (.goto 10, 3) by decide +kernel) (by decide) ?_
      exact fw_ret (v := some (.int x42)) .ireturn (show decode _ _ = .ok (.ireturn, 1) by decide +kernel) ⟨rfl, Or.inl rfl⟩ ⟨_, rfl, h_24⟩
  have h_25 := ineg hc49 h_17
  by_cases ho50 : Int32.toInt p1 < 5 ∨ 8 < Int32.toInt p1
  · refine fw_tout 126 (show decode _ _ = .ok (.tableswitch 125 5 8 #[31, 125, 71, 98], 31) by decide +kernel) ho50 (by decide) ?_
    refine FW.sub [0, 2] (ls' := [(0, .ref p0), (2, .int p2)]) rfl ?_
    exact sj_X11_pair_126 hd h_25
  have e51 := tsx_5_8 (Int32.toInt p1) ho50
  rcases e51 with e51 | e51 | e51 | e51
  · exact absurd (Int32.toInt_inj.mp (Eq.trans e51 rfl)) hc25
  · refine fw_tin (off := 125) 126 (show decode _ _ = .ok (.tableswitch 125 5 8 #[31, 125, 71, 98], 31) by decide +kernel) (by rw [e51]; decide) (by rw [e51]; decide) (by rw [e51]; rfl) (by decide) ?_
    refine FW.sub [0, 2] (ls' := [(0, .ref p0), (2, .int p2)]) rfl ?_
    exact sj_X11_pair_126 hd h_25
  · exact absurd (Int32.toInt_inj.mp (Eq.trans e51 rfl)) hc37
  · exact absurd (Int32.toInt_inj.mp (Eq.trans e51 rfl)) hc49
def j_X11_body_119 (φ : Int32 → fM → Prop) (p0 : Nat) (p1 : Int32) (p2 : Int32) (M : fM) : Prop := isO M p0 11 ∧ w_X11_pair p0 p1 p2 M fun x5 M1 => φ x5 M1
set_option maxRecDepth 100000 in
theorem sj_X11_body_119 {g : GT} {d : Nat} (hd : 8 ≤ d + 1) {φ : Int32 → fM → Prop} {p0 : Nat} {p1 : Int32} {p2 : Int32} {M : fM} (h : j_X11_body_119 φ p0 p1 p2 M) : FW g mtX11_body (d + 1) 119 [(0, .ref p0), (1, .int p1), (2, .int p2)] [] M 0 0 (rI φ) := by
  unfold j_X11_body_119 at h
  refine fw_aload_n (i := 0) 0 rfl (show decode _ _ = .ok (.aload_n 0, 1) by decide +kernel) ?_
  refine fw_iload_n (i := 1) 1 rfl (show decode _ _ = .ok (.iload_n 1, 1) by decide +kernel) ?_
  refine fw_iload_n (i := 2) 2 rfl (show decode _ _ = .ok (.iload_n 2, 1) by decide +kernel) ?_
  obtain ⟨⟨hr3, n2, hs4⟩, h_1⟩ := h
  refine fw_callV (mt' := mtX11_pair) (mc := 0) (ms := 0) (As := [.int p1, .int p2]) (rest := []) 2 11 n2 (show decode _ _ = .ok (.invokevirtual 250, 3) by decide +kernel) cv_X11_250 ⟨_, rfl, rfl⟩ hr3 hs4 rfl (Nat.le_of_ble_eq_true rfl) (s_X11_pair (d := d) (hd_le hd (by decide)) h_1) (by decide) (by decide) (kI (bc' := 0) (bs' := 0) (by decide) (by decide) (fun x5 M1 h_2 => ?_))
  exact fw_ret (v := some (.int x5)) .ireturn (show decode _ _ = .ok (.ireturn, 1) by decide +kernel) ⟨rfl, Or.inl rfl⟩ ⟨_, rfl, h_2⟩
def w_X11_body (p0 : Nat) (p1 : Int32) (p2 : Int32) (M : fM) (φ : Int32 → fM → Prop) : Prop := iF ((4 : Int32) < p1) (iF (p1 = (6 : Int32)) (isO M p0 11 ∧ w_X11_highClause p0 p2 M fun x10 M6 => φ x10 M6) (iF (p1 = (9 : Int32)) (isO M p0 11 ∧ w_X11_oneClause p0 p2 M fun x16 M12 => φ x16 M12) (iF (p1 = (13 : Int32)) (isO M p0 11 ∧ w_X11_figure p0 (p2 + (1 : Int32)) (1 : Int32) (20 : Int32) M fun x22 M18 => φ x22 M18) (iF (p1 = (14 : Int32)) (isO M p0 11 ∧ w_X11_figure p0 (p2 + (1 : Int32)) (1 : Int32) (20 : Int32) M fun x28 M24 => φ x28 M24) (iF (p1 = (15 : Int32)) (φ (0 : Int32) M) (iF (p1 = (16 : Int32)) (isO M p0 11 ∧ w_X11_figure p0 (p2 + (1 : Int32)) (1 : Int32) (99 : Int32) M fun x35 M31 => φ x35 M31) (j_X11_body_119 φ p0 p1 p2 M))))))) (isO M p0 11 ∧ w_X11_lawClause p0 p1 p2 M fun x43 M39 => φ x43 M39)
set_option maxRecDepth 100000 in
theorem s_X11_body {g : GT} {d : Nat} (hd : 8 ≤ d) {p0 : Nat} {p1 : Int32} {p2 : Int32} {M : fM} {φ : Int32 → fM → Prop} (h : w_X11_body p0 p1 p2 M φ) : FC g mtX11_body d [.ref p0, .int p1, .int p2] M 0 0 (rI φ) := by
  obtain ⟨d, rfl⟩ : ∃ e, d = e + 1 := ⟨d - 1, by omega⟩
  unfold w_X11_body at h
  refine FC.intro (nL := 3) (by decide) rfl (Nat.le_of_ble_eq_true rfl) ?_
  show FW g mtX11_body (d + 1) 0 [(0, .ref p0), (1, .int p1), (2, .int p2)] [] M 0 0 (rI φ)
  refine fw_iload_n (i := 1) 1 rfl (show decode _ _ = .ok (.iload_n 1, 1) by decide +kernel) ?_
  refine fw_iconst (v := (4 : Int32)) (show decode _ _ = .ok (.iconst 4, 1) by decide +kernel) (by decide) ?_
  refine fw_icmp_gt 12 (show decode _ _ = .ok (.if_icmp .gt 10, 3) by decide +kernel) (by decide) (fun hc44 => ?_) (fun hc44 => ?_)
  · have h_1 := ipos hc44 h
    refine fw_iload_n (i := 1) 1 rfl (show decode _ _ = .ok (.iload_n 1, 1) by decide +kernel) ?_
    by_cases hc11 : p1 = (6 : Int32)
    · have h_2 := ipos hc11 h_1
      refine fw_tin (off := 59) 72 (show decode _ _ = .ok (.tableswitch 106 6 16 #[59, 106, 106, 65, 106, 106, 106, 71, 82, 93, 95], 59) by decide +kernel) (by rw [hc11]; decide) (by rw [hc11]; decide) (by rw [hc11]; rfl) (by decide) ?_
      refine fw_aload_n (i := 0) 0 rfl (show decode _ _ = .ok (.aload_n 0, 1) by decide +kernel) ?_
      refine fw_iload_n (i := 2) 2 rfl (show decode _ _ = .ok (.iload_n 2, 1) by decide +kernel) ?_
      obtain ⟨⟨hr8, n7, hs9⟩, h_3⟩ := h_2
      refine fw_callV (mt' := mtX11_highClause) (mc := 0) (ms := 0) (As := [.int p2]) (rest := []) 1 11 n7 (show decode _ _ = .ok (.invokevirtual 244, 3) by decide +kernel) cv_X11_244 ⟨_, rfl, rfl⟩ hr8 hs9 rfl (Nat.le_of_ble_eq_true rfl) (s_X11_highClause (d := d) (hd_le hd (by decide)) h_3) (by decide) (by decide) (kI (bc' := 0) (bs' := 0) (by decide) (by decide) (fun x10 M6 h_4 => ?_))
      exact fw_ret (v := some (.int x10)) .ireturn (show decode _ _ = .ok (.ireturn, 1) by decide +kernel) ⟨rfl, Or.inl rfl⟩ ⟨_, rfl, h_4⟩
    have h_5 := ineg hc11 h_1
    by_cases hc17 : p1 = (9 : Int32)
    · have h_6 := ipos hc17 h_5
      refine fw_tin (off := 65) 78 (show decode _ _ = .ok (.tableswitch 106 6 16 #[59, 106, 106, 65, 106, 106, 106, 71, 82, 93, 95], 59) by decide +kernel) (by rw [hc17]; decide) (by rw [hc17]; decide) (by rw [hc17]; rfl) (by decide) ?_
      refine fw_aload_n (i := 0) 0 rfl (show decode _ _ = .ok (.aload_n 0, 1) by decide +kernel) ?_
      refine fw_iload_n (i := 2) 2 rfl (show decode _ _ = .ok (.iload_n 2, 1) by decide +kernel) ?_
      obtain ⟨⟨hr14, n13, hs15⟩, h_7⟩ := h_6
      refine fw_callV (mt' := mtX11_oneClause) (mc := 0) (ms := 0) (As := [.int p2]) (rest := []) 1 11 n13 (show decode _ _ = .ok (.invokevirtual 247, 3) by decide +kernel) cv_X11_247 ⟨_, rfl, rfl⟩ hr14 hs15 rfl (Nat.le_of_ble_eq_true rfl) (s_X11_oneClause (d := d) (hd_le hd (by decide)) h_7) (by decide) (by decide) (kI (bc' := 0) (bs' := 0) (by decide) (by decide) (fun x16 M12 h_8 => ?_))
      exact fw_ret (v := some (.int x16)) .ireturn (show decode _ _ = .ok (.ireturn, 1) by decide +kernel) ⟨rfl, Or.inl rfl⟩ ⟨_, rfl, h_8⟩
    have h_9 := ineg hc17 h_5
    by_cases hc23 : p1 = (13 : Int32)
    · have h_10 := ipos hc23 h_9
      refine fw_tin (off := 71) 84 (show decode _ _ = .ok (.tableswitch 106 6 16 #[59, 106, 106, 65, 106, 106, 106, 71, 82, 93, 95], 59) by decide +kernel) (by rw [hc23]; decide) (by rw [hc23]; decide) (by rw [hc23]; rfl) (by decide) ?_
      refine fw_aload_n (i := 0) 0 rfl (show decode _ _ = .ok (.aload_n 0, 1) by decide +kernel) ?_
      refine fw_iload_n (i := 2) 2 rfl (show decode _ _ = .ok (.iload_n 2, 1) by decide +kernel) ?_
      refine fw_iconst (v := (1 : Int32)) (show decode _ _ = .ok (.iconst 1, 1) by decide +kernel) (by decide) ?_
      refine fw_iadd (show decode _ _ = .ok (.iadd, 1) by decide +kernel) ?_
      refine fw_iconst (v := (1 : Int32)) (show decode _ _ = .ok (.iconst 1, 1) by decide +kernel) (by decide) ?_
      refine fw_bipush (v := (20 : Int32)) (show decode _ _ = .ok (.bipush 20, 2) by decide +kernel) (by decide) ?_
      obtain ⟨⟨hr20, n19, hs21⟩, h_11⟩ := h_10
      refine fw_callV (mt' := mtX11_figure) (mc := 0) (ms := 0) (As := [.int (p2 + (1 : Int32)), .int (1 : Int32), .int (20 : Int32)]) (rest := []) 3 11 n19 (show decode _ _ = .ok (.invokevirtual 222, 3) by decide +kernel) cv_X11_222 ⟨_, rfl, rfl⟩ hr20 hs21 rfl (Nat.le_of_ble_eq_true rfl) (s_X11_figure (d := d) (hd_le hd (by decide)) h_11) (by decide) (by decide) (kI (bc' := 0) (bs' := 0) (by decide) (by decide) (fun x22 M18 h_12 => ?_))
      exact fw_ret (v := some (.int x22)) .ireturn (show decode _ _ = .ok (.ireturn, 1) by decide +kernel) ⟨rfl, Or.inl rfl⟩ ⟨_, rfl, h_12⟩
    have h_13 := ineg hc23 h_9
    by_cases hc29 : p1 = (14 : Int32)
    · have h_14 := ipos hc29 h_13
      refine fw_tin (off := 82) 95 (show decode _ _ = .ok (.tableswitch 106 6 16 #[59, 106, 106, 65, 106, 106, 106, 71, 82, 93, 95], 59) by decide +kernel) (by rw [hc29]; decide) (by rw [hc29]; decide) (by rw [hc29]; rfl) (by decide) ?_
      refine fw_aload_n (i := 0) 0 rfl (show decode _ _ = .ok (.aload_n 0, 1) by decide +kernel) ?_
      refine fw_iload_n (i := 2) 2 rfl (show decode _ _ = .ok (.iload_n 2, 1) by decide +kernel) ?_
      refine fw_iconst (v := (1 : Int32)) (show decode _ _ = .ok (.iconst 1, 1) by decide +kernel) (by decide) ?_
      refine fw_iadd (show decode _ _ = .ok (.iadd, 1) by decide +kernel) ?_
      refine fw_iconst (v := (1 : Int32)) (show decode _ _ = .ok (.iconst 1, 1) by decide +kernel) (by decide) ?_
      refine fw_bipush (v := (20 : Int32)) (show decode _ _ = .ok (.bipush 20, 2) by decide +kernel) (by decide) ?_
      obtain ⟨⟨hr26, n25, hs27⟩, h_15⟩ := h_14
      refine fw_callV (mt' := mtX11_figure) (mc := 0) (ms := 0) (As := [.int (p2 + (1 : Int32)), .int (1 : Int32), .int (20 : Int32)]) (rest := []) 3 11 n25 (show decode _ _ = .ok (.invokevirtual 222, 3) by decide +kernel) cv_X11_222 ⟨_, rfl, rfl⟩ hr26 hs27 rfl (Nat.le_of_ble_eq_true rfl) (s_X11_figure (d := d) (hd_le hd (by decide)) h_15) (by decide) (by decide) (kI (bc' := 0) (bs' := 0) (by decide) (by decide) (fun x28 M24 h_16 => ?_))
      exact fw_ret (v := some (.int x28)) .ireturn (show decode _ _ = .ok (.ireturn, 1) by decide +kernel) ⟨rfl, Or.inl rfl⟩ ⟨_, rfl, h_16⟩
    have h_17 := ineg hc29 h_13
    by_cases hc30 : p1 = (15 : Int32)
    · have h_18 := ipos hc30 h_17
      refine fw_tin (off := 93) 106 (show decode _ _ = .ok (.tableswitch 106 6 16 #[59, 106, 106, 65, 106, 106, 106, 71, 82, 93, 95], 59) by decide +kernel) (by rw [hc30]; decide) (by rw [hc30]; decide) (by rw [hc30]; rfl) (by decide) ?_
      refine fw_iconst (v := (0 : Int32)) (show decode _ _ = .ok (.iconst 0, 1) by decide +kernel) (by decide) ?_
      exact fw_ret (v := some (.int (0 : Int32))) .ireturn (show decode _ _ = .ok (.ireturn, 1) by decide +kernel) ⟨rfl, Or.inl rfl⟩ ⟨_, rfl, h_18⟩
    have h_19 := ineg hc30 h_17
    by_cases hc36 : p1 = (16 : Int32)
    · have h_20 := ipos hc36 h_19
      refine fw_tin (off := 95) 108 (show decode _ _ = .ok (.tableswitch 106 6 16 #[59, 106, 106, 65, 106, 106, 106, 71, 82, 93, 95], 59) by decide +kernel) (by rw [hc36]; decide) (by rw [hc36]; decide) (by rw [hc36]; rfl) (by decide) ?_
      refine fw_aload_n (i := 0) 0 rfl (show decode _ _ = .ok (.aload_n 0, 1) by decide +kernel) ?_
      refine fw_iload_n (i := 2) 2 rfl (show decode _ _ = .ok (.iload_n 2, 1) by decide +kernel) ?_
      refine fw_iconst (v := (1 : Int32)) (show decode _ _ = .ok (.iconst 1, 1) by decide +kernel) (by decide) ?_
      refine fw_iadd (show decode _ _ = .ok (.iadd, 1) by decide +kernel) ?_
      refine fw_iconst (v := (1 : Int32)) (show decode _ _ = .ok (.iconst 1, 1) by decide +kernel) (by decide) ?_
      refine fw_bipush (v := (99 : Int32)) (show decode _ _ = .ok (.bipush 99, 2) by decide +kernel) (by decide) ?_
      obtain ⟨⟨hr33, n32, hs34⟩, h_21⟩ := h_20
      refine fw_callV (mt' := mtX11_figure) (mc := 0) (ms := 0) (As := [.int (p2 + (1 : Int32)), .int (1 : Int32), .int (99 : Int32)]) (rest := []) 3 11 n32 (show decode _ _ = .ok (.invokevirtual 222, 3) by decide +kernel) cv_X11_222 ⟨_, rfl, rfl⟩ hr33 hs34 rfl (Nat.le_of_ble_eq_true rfl) (s_X11_figure (d := d) (hd_le hd (by decide)) h_21) (by decide) (by decide) (kI (bc' := 0) (bs' := 0) (by decide) (by decide) (fun x35 M31 h_22 => ?_))
      exact fw_ret (v := some (.int x35)) .ireturn (show decode _ _ = .ok (.ireturn, 1) by decide +kernel) ⟨rfl, Or.inl rfl⟩ ⟨_, rfl, h_22⟩
    have h_23 := ineg hc36 h_19
    by_cases ho37 : Int32.toInt p1 < 6 ∨ 16 < Int32.toInt p1
    · refine fw_tout 119 (show decode _ _ = .ok (.tableswitch 106 6 16 #[59, 106, 106, 65, 106, 106, 106, 71, 82, 93, 95], 59) by decide +kernel) ho37 (by decide) ?_
      refine FW.sub [0, 1, 2] (ls' := [(0, .ref p0), (1, .int p1), (2, .int p2)]) rfl ?_
      exact sj_X11_body_119 hd h_23
    have e38 := tsx_6_16 (Int32.toInt p1) ho37
    rcases e38 with e38 | e38 | e38 | e38 | e38 | e38 | e38 | e38 | e38 | e38 | e38
    · exact absurd (Int32.toInt_inj.mp (Eq.trans e38 rfl)) hc11
    · refine fw_tin (off := 106) 119 (show decode _ _ = .ok (.tableswitch 106 6 16 #[59, 106, 106, 65, 106, 106, 106, 71, 82, 93, 95], 59) by decide +kernel) (by rw [e38]; decide) (by rw [e38]; decide) (by rw [e38]; rfl) (by decide) ?_
      refine FW.sub [0, 1, 2] (ls' := [(0, .ref p0), (1, .int p1), (2, .int p2)]) rfl ?_
      exact sj_X11_body_119 hd h_23
    · refine fw_tin (off := 106) 119 (show decode _ _ = .ok (.tableswitch 106 6 16 #[59, 106, 106, 65, 106, 106, 106, 71, 82, 93, 95], 59) by decide +kernel) (by rw [e38]; decide) (by rw [e38]; decide) (by rw [e38]; rfl) (by decide) ?_
      refine FW.sub [0, 1, 2] (ls' := [(0, .ref p0), (1, .int p1), (2, .int p2)]) rfl ?_
      exact sj_X11_body_119 hd h_23
    · exact absurd (Int32.toInt_inj.mp (Eq.trans e38 rfl)) hc17
    · refine fw_tin (off := 106) 119 (show decode _ _ = .ok (.tableswitch 106 6 16 #[59, 106, 106, 65, 106, 106, 106, 71, 82, 93, 95], 59) by decide +kernel) (by rw [e38]; decide) (by rw [e38]; decide) (by rw [e38]; rfl) (by decide) ?_
      refine FW.sub [0, 1, 2] (ls' := [(0, .ref p0), (1, .int p1), (2, .int p2)]) rfl ?_
      exact sj_X11_body_119 hd h_23
    · refine fw_tin (off := 106) 119 (show decode _ _ = .ok (.tableswitch 106 6 16 #[59, 106, 106, 65, 106, 106, 106, 71, 82, 93, 95], 59) by decide +kernel) (by rw [e38]; decide) (by rw [e38]; decide) (by rw [e38]; rfl) (by decide) ?_
      refine FW.sub [0, 1, 2] (ls' := [(0, .ref p0), (1, .int p1), (2, .int p2)]) rfl ?_
      exact sj_X11_body_119 hd h_23
    · refine fw_tin (off := 106) 119 (show decode _ _ = .ok (.tableswitch 106 6 16 #[59, 106, 106, 65, 106, 106, 106, 71, 82, 93, 95], 59) by decide +kernel) (by rw [e38]; decide) (by rw [e38]; decide) (by rw [e38]; rfl) (by decide) ?_
      refine FW.sub [0, 1, 2] (ls' := [(0, .ref p0), (1, .int p1), (2, .int p2)]) rfl ?_
      exact sj_X11_body_119 hd h_23
    · exact absurd (Int32.toInt_inj.mp (Eq.trans e38 rfl)) hc23
    · exact absurd (Int32.toInt_inj.mp (Eq.trans e38 rfl)) hc29
    · exact absurd (Int32.toInt_inj.mp (Eq.trans e38 rfl)) hc30
    · exact absurd (Int32.toInt_inj.mp (Eq.trans e38 rfl)) hc36
  · have h_24 := ineg hc44 h
    refine fw_aload_n (i := 0) 0 rfl (show decode _ _ = .ok (.aload_n 0, 1) by decide +kernel) ?_
    refine fw_iload_n (i := 1) 1 rfl (show decode _ _ = .ok (.iload_n 1, 1) by decide +kernel) ?_
    refine fw_iload_n (i := 2) 2 rfl (show decode _ _ = .ok (.iload_n 2, 1) by decide +kernel) ?_
    obtain ⟨⟨hr41, n40, hs42⟩, h_25⟩ := h_24
    refine fw_callV (mt' := mtX11_lawClause) (mc := 0) (ms := 0) (As := [.int p1, .int p2]) (rest := []) 2 11 n40 (show decode _ _ = .ok (.invokevirtual 240, 3) by decide +kernel) cv_X11_240 ⟨_, rfl, rfl⟩ hr41 hs42 rfl (Nat.le_of_ble_eq_true rfl) (s_X11_lawClause (d := d) (hd_le hd (by decide)) h_25) (by decide) (by decide) (kI (bc' := 0) (bs' := 0) (by decide) (by decide) (fun x43 M39 h_26 => ?_))
    exact fw_ret (v := some (.int x43)) .ireturn (show decode _ _ = .ok (.ireturn, 1) by decide +kernel) ⟨rfl, Or.inl rfl⟩ ⟨_, rfl, h_26⟩
def w_X11_shown (p0 : Nat) (M : fM) (φ : Int32 → fM → Prop) : Prop := isO M p0 11 ∧ dR (mP M p0 0) fun y4 => inA M y4 12 (8 : Int32) ∧ iF ((40 : Int32) ≤ (mI M y4 (ix (8 : Int32)))) (φ (40 : Int32) M) (dR (mP M p0 0) fun y9 => inA M y9 12 (8 : Int32) ∧ φ (mI M y9 (ix (8 : Int32))) M)
set_option maxRecDepth 100000 in
theorem s_X11_shown {g : GT} {d : Nat} (hd : 1 ≤ d) {p0 : Nat} {M : fM} {φ : Int32 → fM → Prop} (h : w_X11_shown p0 M φ) : FC g mtX11_shown d [.ref p0] M 0 0 (rI φ) := by
  obtain ⟨d, rfl⟩ : ∃ e, d = e + 1 := ⟨d - 1, by omega⟩
  unfold w_X11_shown at h
  refine FC.intro (nL := 1) (by decide) rfl (Nat.le_of_ble_eq_true rfl) ?_
  show FW g mtX11_shown (d + 1) 0 [(0, .ref p0)] [] M 0 0 (rI φ)
  refine fw_aload_n (i := 0) 0 rfl (show decode _ _ = .ok (.aload_n 0, 1) by decide +kernel) ?_
  obtain ⟨⟨hr2, n1, hs3⟩, h_1⟩ := h
  refine fw_getP (kd := 11) (k := 0) (show decode _ _ = .ok (.getfield 7, 3) by decide +kernel) gf_X11_7 hr2 hs3 rfl ?_
  have h_2 := dR_e h_1
  obtain ⟨y4, hy5, h_3⟩ := h_2
  refine fw_deref hy5 ?_
  refine fw_bipush (v := (8 : Int32)) (show decode _ _ = .ok (.bipush 8, 2) by decide +kernel) (by decide) ?_
  obtain ⟨⟨n6, hs7, hi8⟩, h_4⟩ := h_3
  refine fw_iald (show decode _ _ = .ok (.iaload, 1) by decide +kernel) hs7 hi8 ?_
  refine fw_bipush (v := (40 : Int32)) (show decode _ _ = .ok (.bipush 40, 2) by decide +kernel) (by decide) ?_
  refine fw_icmp_ge 22 (show decode _ _ = .ok (.if_icmp .ge 13, 3) by decide +kernel) (by decide) (fun hc14 => ?_) (fun hc14 => ?_)
  · have h_5 := ipos hc14 h_4
    refine fw_bipush (v := (40 : Int32)) (show decode _ _ = .ok (.bipush 40, 2) by decide +kernel) (by decide) ?_
    exact fw_ret (v := some (.int (40 : Int32))) .ireturn (show decode _ _ = .ok (.ireturn, 1) by decide +kernel) ⟨rfl, Or.inl rfl⟩ ⟨_, rfl, h_5⟩
  · have h_6 := ineg hc14 h_4
    refine fw_aload_n (i := 0) 0 rfl (show decode _ _ = .ok (.aload_n 0, 1) by decide +kernel) ?_
    refine fw_getP (kd := 11) (k := 0) (show decode _ _ = .ok (.getfield 7, 3) by decide +kernel) gf_X11_7 hr2 hs3 rfl ?_
    have h_7 := dR_e h_6
    obtain ⟨y9, hy10, h_8⟩ := h_7
    refine fw_deref hy10 ?_
    refine fw_bipush (v := (8 : Int32)) (show decode _ _ = .ok (.bipush 8, 2) by decide +kernel) (by decide) ?_
    obtain ⟨⟨n11, hs12, hi13⟩, h_9⟩ := h_8
    refine fw_iald (show decode _ _ = .ok (.iaload, 1) by decide +kernel) hs12 hi13 ?_
    refine fw_goto 24 (show decode _ _ = .ok (.goto 5, 3) by decide +kernel) (by decide) ?_
    exact fw_ret (v := some (.int (mI M y9 (ix (8 : Int32))))) .ireturn (show decode _ _ = .ok (.ireturn, 1) by decide +kernel) ⟨rfl, Or.inl rfl⟩ ⟨_, rfl, h_9⟩
def w_X11_bookAt (p0 : Nat) (p1 : Int32) (p2 : Int32) (M : fM) (φ : Int32 → fM → Prop) : Prop := isO M p0 11 ∧ dR (mP M p0 0) fun y4 => dR (mP M p0 0) fun y6 => inA M y6 12 (8 : Int32) ∧ w_X11_shown p0 M fun x12 M11 => inA M11 y4 12 (((517 : Int32) + ((8 : Int32) * ((((mI M y6 (ix (8 : Int32))) - x12) + p1) % (256 : Int32)))) + p2) ∧ φ (mI M11 y4 (ix (((517 : Int32) + ((8 : Int32) * ((((mI M y6 (ix (8 : Int32))) - x12) + p1) % (256 : Int32)))) + p2))) M11
set_option maxRecDepth 100000 in
theorem s_X11_bookAt {g : GT} {d : Nat} (hd : 2 ≤ d) {p0 : Nat} {p1 : Int32} {p2 : Int32} {M : fM} {φ : Int32 → fM → Prop} (h : w_X11_bookAt p0 p1 p2 M φ) : FC g mtX11_bookAt d [.ref p0, .int p1, .int p2] M 0 0 (rI φ) := by
  obtain ⟨d, rfl⟩ : ∃ e, d = e + 1 := ⟨d - 1, by omega⟩
  unfold w_X11_bookAt at h
  refine FC.intro (nL := 3) (by decide) rfl (Nat.le_of_ble_eq_true rfl) ?_
  show FW g mtX11_bookAt (d + 1) 0 [(0, .ref p0), (1, .int p1), (2, .int p2)] [] M 0 0 (rI φ)
  refine fw_aload_n (i := 0) 0 rfl (show decode _ _ = .ok (.aload_n 0, 1) by decide +kernel) ?_
  obtain ⟨⟨hr2, n1, hs3⟩, h_1⟩ := h
  refine fw_getP (kd := 11) (k := 0) (show decode _ _ = .ok (.getfield 7, 3) by decide +kernel) gf_X11_7 hr2 hs3 rfl ?_
  have h_2 := dR_e h_1
  obtain ⟨y4, hy5, h_3⟩ := h_2
  refine fw_deref hy5 ?_
  refine fw_sipush (v := (517 : Int32)) (show decode _ _ = .ok (.sipush 517, 3) by decide +kernel) (by decide) ?_
  refine fw_bipush (v := (8 : Int32)) (show decode _ _ = .ok (.bipush 8, 2) by decide +kernel) (by decide) ?_
  refine fw_aload_n (i := 0) 0 rfl (show decode _ _ = .ok (.aload_n 0, 1) by decide +kernel) ?_
  refine fw_getP (kd := 11) (k := 0) (show decode _ _ = .ok (.getfield 7, 3) by decide +kernel) gf_X11_7 hr2 hs3 rfl ?_
  have h_4 := dR_e h_3
  obtain ⟨y6, hy7, h_5⟩ := h_4
  refine fw_deref hy7 ?_
  refine fw_bipush (v := (8 : Int32)) (show decode _ _ = .ok (.bipush 8, 2) by decide +kernel) (by decide) ?_
  obtain ⟨⟨n8, hs9, hi10⟩, h_6⟩ := h_5
  refine fw_iald (show decode _ _ = .ok (.iaload, 1) by decide +kernel) hs9 hi10 ?_
  refine fw_aload_n (i := 0) 0 rfl (show decode _ _ = .ok (.aload_n 0, 1) by decide +kernel) ?_
  refine fw_callV (mt' := mtX11_shown) (mc := 0) (ms := 0) (As := []) (rest := [.int (mI M y6 (ix (8 : Int32))), .int (8 : Int32), .int (517 : Int32), .ref y4]) 0 11 n1 (show decode _ _ = .ok (.invokevirtual 402, 3) by decide +kernel) cv_X11_402 ⟨_, rfl, rfl⟩ hr2 hs3 rfl (Nat.le_of_ble_eq_true rfl) (s_X11_shown (d := d) (hd_le hd (by decide)) h_6) (by decide) (by decide) (kI (bc' := 0) (bs' := 0) (by decide) (by decide) (fun x12 M11 h_7 => ?_))
  refine fw_isub (show decode _ _ = .ok (.isub, 1) by decide +kernel) ?_
  refine fw_iload_n (i := 1) 1 rfl (show decode _ _ = .ok (.iload_n 1, 1) by decide +kernel) ?_
  refine fw_iadd (show decode _ _ = .ok (.iadd, 1) by decide +kernel) ?_
  refine fw_sipush (v := (256 : Int32)) (show decode _ _ = .ok (.sipush 256, 3) by decide +kernel) (by decide) ?_
  refine fw_irem (show decode _ _ = .ok (.irem, 1) by decide +kernel) (by decide) ?_
  refine fw_imul (show decode _ _ = .ok (.imul, 1) by decide +kernel) ?_
  refine fw_iadd (show decode _ _ = .ok (.iadd, 1) by decide +kernel) ?_
  refine fw_iload_n (i := 2) 2 rfl (show decode _ _ = .ok (.iload_n 2, 1) by decide +kernel) ?_
  refine fw_iadd (show decode _ _ = .ok (.iadd, 1) by decide +kernel) ?_
  obtain ⟨⟨n13, hs14, hi15⟩, h_8⟩ := h_7
  refine fw_iald (show decode _ _ = .ok (.iaload, 1) by decide +kernel) hs14 hi15 ?_
  exact fw_ret (v := some (.int (mI M11 y4 (ix (((517 : Int32) + ((8 : Int32) * ((((mI M y6 (ix (8 : Int32))) - x12) + p1) % (256 : Int32)))) + p2))))) .ireturn (show decode _ _ = .ok (.ireturn, 1) by decide +kernel) ⟨rfl, Or.inl rfl⟩ ⟨_, rfl, h_8⟩
def w_X11_book (p0 : Nat) (p1 : Int32) (p2 : Int32) (M : fM) (φ : Int32 → fM → Prop) : Prop := iF (p1 = (-1 : Int32)) (isO M p0 11 ∧ w_X11_shown p0 M fun x21 M17 => φ x21 M17) (isO M p0 11 ∧ w_X11_shown p0 M fun x5 M1 => w_X11_isIn p1 (0 : Int32) (x5 - (1 : Int32)) M1 fun x7 M6 => iF (x7 = 0) (φ (-2 : Int32) M6) (w_X11_isIn p2 (0 : Int32) (7 : Int32) M6 fun x9 M8 => iF (x9 = 0) (φ (-2 : Int32) M8) (isO M8 p0 11 ∧ w_X11_bookAt p0 p1 p2 M8 fun x14 M10 => φ x14 M10)))
set_option maxRecDepth 100000 in
theorem s_X11_book {g : GT} {d : Nat} (hd : 3 ≤ d) {p0 : Nat} {p1 : Int32} {p2 : Int32} {M : fM} {φ : Int32 → fM → Prop} (h : w_X11_book p0 p1 p2 M φ) : FC g mtX11_book d [.ref p0, .int p1, .int p2] M 0 0 (rI φ) := by
  obtain ⟨d, rfl⟩ : ∃ e, d = e + 1 := ⟨d - 1, by omega⟩
  unfold w_X11_book at h
  refine FC.intro (nL := 3) (by decide) rfl (Nat.le_of_ble_eq_true rfl) ?_
  show FW g mtX11_book (d + 1) 0 [(0, .ref p0), (1, .int p1), (2, .int p2)] [] M 0 0 (rI φ)
  refine fw_iload_n (i := 1) 1 rfl (show decode _ _ = .ok (.iload_n 1, 1) by decide +kernel) ?_
  refine fw_iconst (v := (-1 : Int32)) (show decode _ _ = .ok (.iconst (-1), 1) by decide +kernel) (by decide) ?_
  refine fw_icmp_ne 10 (show decode _ _ = .ok (.if_icmp .ne 8, 3) by decide +kernel) (by decide) (fun hc22 => ?_) (fun hc22 => ?_)
  · have h_1 := ineg hc22 h
    refine fw_iload_n (i := 1) 1 rfl (show decode _ _ = .ok (.iload_n 1, 1) by decide +kernel) ?_
    refine fw_iconst (v := (0 : Int32)) (show decode _ _ = .ok (.iconst 0, 1) by decide +kernel) (by decide) ?_
    refine fw_aload_n (i := 0) 0 rfl (show decode _ _ = .ok (.aload_n 0, 1) by decide +kernel) ?_
    obtain ⟨⟨hr3, n2, hs4⟩, h_2⟩ := h_1
    refine fw_callV (mt' := mtX11_shown) (mc := 0) (ms := 0) (As := []) (rest := [.int (0 : Int32), .int p1]) 0 11 n2 (show decode _ _ = .ok (.invokevirtual 402, 3) by decide +kernel) cv_X11_402 ⟨_, rfl, rfl⟩ hr3 hs4 rfl (Nat.le_of_ble_eq_true rfl) (s_X11_shown (d := d) (hd_le hd (by decide)) h_2) (by decide) (by decide) (kI (bc' := 0) (bs' := 0) (by decide) (by decide) (fun x5 M1 h_3 => ?_))
    refine fw_iconst (v := (1 : Int32)) (show decode _ _ = .ok (.iconst 1, 1) by decide +kernel) (by decide) ?_
    refine fw_isub (show decode _ _ = .ok (.isub, 1) by decide +kernel) ?_
    refine fw_callS (mt' := mtX11_isIn) (mc := 0) (ms := 0) (As := [.int p1, .int (0 : Int32), .int (x5 - (1 : Int32))]) (rest := []) 3 (show decode _ _ = .ok (.invokestatic 66, 3) by decide +kernel) cs_X11_66 rfl (Nat.le_of_ble_eq_true rfl) (s_X11_isIn (d := d) (hd_le hd (by decide)) h_3) (by decide) (by decide) (kI (bc' := 0) (bs' := 0) (by decide) (by decide) (fun x7 M6 h_4 => ?_))
    refine fw_if_eq 43 (show decode _ _ = .ok (.ifCond .eq 22, 3) by decide +kernel) (by decide) (fun hc16 => ?_) (fun hc16 => ?_)
    · have h_5 := ipos hc16 h_4
      refine fw_bipush (v := (-2 : Int32)) (show decode _ _ = .ok (.bipush (-2), 2) by decide +kernel) (by decide) ?_
      exact fw_ret (v := some (.int (-2 : Int32))) .ireturn (show decode _ _ = .ok (.ireturn, 1) by decide +kernel) ⟨rfl, Or.inl rfl⟩ ⟨_, rfl, h_5⟩
    · have h_6 := ineg hc16 h_4
      refine fw_iload_n (i := 2) 2 rfl (show decode _ _ = .ok (.iload_n 2, 1) by decide +kernel) ?_
      refine fw_iconst (v := (0 : Int32)) (show decode _ _ = .ok (.iconst 0, 1) by decide +kernel) (by decide) ?_
      refine fw_bipush (v := (7 : Int32)) (show decode _ _ = .ok (.bipush 7, 2) by decide +kernel) (by decide) ?_
      refine fw_callS (mt' := mtX11_isIn) (mc := 0) (ms := 0) (As := [.int p2, .int (0 : Int32), .int (7 : Int32)]) (rest := []) 3 (show decode _ _ = .ok (.invokestatic 66, 3) by decide +kernel) cs_X11_66 rfl (Nat.le_of_ble_eq_true rfl) (s_X11_isIn (d := d) (hd_le hd (by decide)) h_6) (by decide) (by decide) (kI (bc' := 0) (bs' := 0) (by decide) (by decide) (fun x9 M8 h_7 => ?_))
      refine fw_if_eq 43 (show decode _ _ = .ok (.ifCond .eq 12, 3) by decide +kernel) (by decide) (fun hc15 => ?_) (fun hc15 => ?_)
      · have h_8 := ipos hc15 h_7
        refine fw_bipush (v := (-2 : Int32)) (show decode _ _ = .ok (.bipush (-2), 2) by decide +kernel) (by decide) ?_
        exact fw_ret (v := some (.int (-2 : Int32))) .ireturn (show decode _ _ = .ok (.ireturn, 1) by decide +kernel) ⟨rfl, Or.inl rfl⟩ ⟨_, rfl, h_8⟩
      · have h_9 := ineg hc15 h_7
        refine fw_aload_n (i := 0) 0 rfl (show decode _ _ = .ok (.aload_n 0, 1) by decide +kernel) ?_
        refine fw_iload_n (i := 1) 1 rfl (show decode _ _ = .ok (.iload_n 1, 1) by decide +kernel) ?_
        refine fw_iload_n (i := 2) 2 rfl (show decode _ _ = .ok (.iload_n 2, 1) by decide +kernel) ?_
        obtain ⟨⟨hr12, n11, hs13⟩, h_10⟩ := h_9
        refine fw_callV (mt' := mtX11_bookAt) (mc := 0) (ms := 0) (As := [.int p1, .int p2]) (rest := []) 2 11 n11 (show decode _ _ = .ok (.invokevirtual 405, 3) by decide +kernel) cv_X11_405 ⟨_, rfl, rfl⟩ hr12 hs13 rfl (Nat.le_of_ble_eq_true rfl) (s_X11_bookAt (d := d) (hd_le hd (by decide)) h_10) (by decide) (by decide) (kI (bc' := 0) (bs' := 0) (by decide) (by decide) (fun x14 M10 h_11 => ?_))
        refine fw_goto 45 (show decode _ _ = .ok (.goto 5, 3) by decide +kernel) (by decide) ?_
        exact fw_ret (v := some (.int x14)) .ireturn (show decode _ _ = .ok (.ireturn, 1) by decide +kernel) ⟨rfl, Or.inl rfl⟩ ⟨_, rfl, h_11⟩
  · have h_12 := ipos hc22 h
    refine fw_aload_n (i := 0) 0 rfl (show decode _ _ = .ok (.aload_n 0, 1) by decide +kernel) ?_
    obtain ⟨⟨hr19, n18, hs20⟩, h_13⟩ := h_12
    refine fw_callV (mt' := mtX11_shown) (mc := 0) (ms := 0) (As := []) (rest := []) 0 11 n18 (show decode _ _ = .ok (.invokevirtual 402, 3) by decide +kernel) cv_X11_402 ⟨_, rfl, rfl⟩ hr19 hs20 rfl (Nat.le_of_ble_eq_true rfl) (s_X11_shown (d := d) (hd_le hd (by decide)) h_13) (by decide) (by decide) (kI (bc' := 0) (bs' := 0) (by decide) (by decide) (fun x21 M17 h_14 => ?_))
    exact fw_ret (v := some (.int x21)) .ireturn (show decode _ _ = .ok (.ireturn, 1) by decide +kernel) ⟨rfl, Or.inl rfl⟩ ⟨_, rfl, h_14⟩
def b_X11_build_36 (K36 : Nat → Int32 → Int32 → fM → Prop) (φ : fM → Prop) (p0 : Nat) (p3 : Int32) (p4 : Int32) (M : fM) : Prop := iF ((15 : Int32) ≤ p4) (φ M) (isO M p0 11 ∧ dR (mP M p0 0) fun y4 => 6 ≤ y4 ∧ inA M y4 12 ((p3 + (3 : Int32)) + p4) ∧ st (wI M y4 (ix ((p3 + (3 : Int32)) + p4)) (5 : Int32)) fun M10 => nm (p4 + (1 : Int32)) fun x12 => K36 p0 p3 x12 M10)
def l_X11_build_36 (φ : fM → Prop) : Nat → Nat → Int32 → Int32 → fM → Prop
  | 0, _, _, _, _ => False
  | n + 1, p0, p3, p4, M => b_X11_build_36 (l_X11_build_36 φ n) φ p0 p3 p4 M
set_option maxRecDepth 100000 in
theorem sb_X11_build_36 {g : GT} {d : Nat} (hd : 1 ≤ d + 1) {K36 : Nat → Int32 → Int32 → fM → Prop} {φ : fM → Prop} (hK36 : ∀ (p0 : Nat) (p3 : Int32) (p4 : Int32) (M : fM), K36 p0 p3 p4 M → FW g mtX11_build (d + 1) 36 [(0, .ref p0), (3, .int p3), (4, .int p4)] [] M 0 0 (rV φ)) {p0 : Nat} {p3 : Int32} {p4 : Int32} {M : fM} (h : b_X11_build_36 K36 φ p0 p3 p4 M) : FW g mtX11_build (d + 1) 36 [(0, .ref p0), (3, .int p3), (4, .int p4)] [] M 0 0 (rV φ) := by
  unfold b_X11_build_36 at h
  refine fw_iload (i := 4) 2 rfl (show decode _ _ = .ok (.iload 4, 2) by decide +kernel) ?_
  refine fw_bipush (v := (15 : Int32)) (show decode _ _ = .ok (.bipush 15, 2) by decide +kernel) (by decide) ?_
  refine fw_icmp_ge 61 (show decode _ _ = .ok (.if_icmp .ge 21, 3) by decide +kernel) (by decide) (fun hc14 => ?_) (fun hc14 => ?_)
  · have h_1 := ipos hc14 h
    exact fw_ret (v := none) .return_ (show decode _ _ = .ok (.return_, 1) by decide +kernel) ⟨rfl, rfl⟩ ⟨rfl, h_1⟩
  · have h_2 := ineg hc14 h
    refine fw_aload_n (i := 0) 0 rfl (show decode _ _ = .ok (.aload_n 0, 1) by decide +kernel) ?_
    obtain ⟨⟨hr2, n1, hs3⟩, h_3⟩ := h_2
    refine fw_getP (kd := 11) (k := 0) (show decode _ _ = .ok (.getfield 7, 3) by decide +kernel) gf_X11_7 hr2 hs3 rfl ?_
    have h_4 := dR_e h_3
    obtain ⟨y4, hy5, h_5⟩ := h_4
    refine fw_deref hy5 ?_
    refine fw_iload_n (i := 3) 1 rfl (show decode _ _ = .ok (.iload_n 3, 1) by decide +kernel) ?_
    refine fw_iconst (v := (3 : Int32)) (show decode _ _ = .ok (.iconst 3, 1) by decide +kernel) (by decide) ?_
    refine fw_iadd (show decode _ _ = .ok (.iadd, 1) by decide +kernel) ?_
    refine fw_iload (i := 4) 2 rfl (show decode _ _ = .ok (.iload 4, 2) by decide +kernel) ?_
    refine fw_iadd (show decode _ _ = .ok (.iadd, 1) by decide +kernel) ?_
    refine fw_iconst (v := (5 : Int32)) (show decode _ _ = .ok (.iconst 5, 1) by decide +kernel) (by decide) ?_
    obtain ⟨hr9, ⟨n6, hs7, hi8⟩, h_6⟩ := h_5
    refine fw_iast (show decode _ _ = .ok (.iastore, 1) by decide +kernel) hr9 hs7 hi8 ?_
    refine FW.nmM (fun M10 eM11 => ?_)
    have h_7 := h_6 M10 eM11
    obtain ⟨x12, ex13⟩ : ∃ y : Int32, y = p4 + (1 : Int32) := ⟨_, rfl⟩
    have h_8 := h_7 x12 ex13
    refine fw_iinc (i := 4) (x := p4) (v := x12) (ls' := [(4, .int x12), (0, .ref p0), (3, .int p3)]) 2 rfl (show decode _ _ = .ok (.iinc 4 1, 3) by decide +kernel) (by rw [ex13]; rfl) (by decide) rfl ?_
    refine fw_goto 36 (show decode _ _ = .ok (.goto (-22), 3) by decide +kernel) (by decide) ?_
    refine FW.sub [1, 2, 0] (ls' := [(0, .ref p0), (3, .int p3), (4, .int x12)]) rfl ?_
    exact hK36 _ _ _ _ h_8
theorem sl_X11_build_36 {g : GT} {d : Nat} (hd : 1 ≤ d + 1) {φ : fM → Prop} : ∀ (n : Nat) {p0 : Nat} {p3 : Int32} {p4 : Int32} {M : fM}, l_X11_build_36 φ n p0 p3 p4 M → FW g mtX11_build (d + 1) 36 [(0, .ref p0), (3, .int p3), (4, .int p4)] [] M 0 0 (rV φ)
  | 0 => fun h => h.elim
  | n + 1 => fun h => sb_X11_build_36 hd (fun _ _ _ _ h => sl_X11_build_36 hd n h) h
def w_X11_build (p0 : Nat) (p1 : Int32) (p2 : Int32) (M : fM) (φ : fM → Prop) : Prop := nm ((10 : Int32) + ((18 : Int32) * p1)) fun x15 => isO M p0 11 ∧ dR (mP M p0 0) fun y20 => 6 ≤ y20 ∧ inA M y20 12 x15 ∧ st (wI M y20 (ix x15) p2) fun M26 => dR (mP M26 p0 0) fun y28 => 6 ≤ y28 ∧ inA M26 y28 12 (x15 + (1 : Int32)) ∧ st (wI M26 y28 (ix (x15 + (1 : Int32))) (0 : Int32)) fun M34 => dR (mP M34 p0 0) fun y36 => 6 ≤ y36 ∧ inA M34 y36 12 (x15 + (2 : Int32)) ∧ st (wI M34 y36 (ix (x15 + (2 : Int32))) (0 : Int32)) fun M42 => ∃ n, l_X11_build_36 φ n p0 x15 (0 : Int32) M42
set_option maxRecDepth 100000 in
theorem s_X11_build {g : GT} {d : Nat} (hd : 1 ≤ d) {p0 : Nat} {p1 : Int32} {p2 : Int32} {M : fM} {φ : fM → Prop} (h : w_X11_build p0 p1 p2 M φ) : FC g mtX11_build d [.ref p0, .int p1, .int p2] M 0 0 (rV φ) := by
  obtain ⟨d, rfl⟩ : ∃ e, d = e + 1 := ⟨d - 1, by omega⟩
  unfold w_X11_build at h
  refine FC.intro (nL := 5) (by decide) rfl (Nat.le_of_ble_eq_true rfl) ?_
  show FW g mtX11_build (d + 1) 0 [(0, .ref p0), (1, .int p1), (2, .int p2)] [] M 0 0 (rV φ)
  refine fw_bipush (v := (10 : Int32)) (show decode _ _ = .ok (.bipush 10, 2) by decide +kernel) (by decide) ?_
  refine fw_bipush (v := (18 : Int32)) (show decode _ _ = .ok (.bipush 18, 2) by decide +kernel) (by decide) ?_
  refine fw_iload_n (i := 1) 1 rfl (show decode _ _ = .ok (.iload_n 1, 1) by decide +kernel) ?_
  refine fw_imul (show decode _ _ = .ok (.imul, 1) by decide +kernel) ?_
  refine fw_iadd (show decode _ _ = .ok (.iadd, 1) by decide +kernel) ?_
  refine fw_nmI (fun x15 ex16 => ?_)
  have h_1 := h x15 ex16
  refine fw_istore_n (i := 3) (ls' := [(3, .int x15), (0, .ref p0), (1, .int p1), (2, .int p2)]) (show decode _ _ = .ok (.istore_n 3, 1) by decide +kernel) (by decide) rfl ?_
  refine fw_aload_n (i := 0) 1 rfl (show decode _ _ = .ok (.aload_n 0, 1) by decide +kernel) ?_
  obtain ⟨⟨hr18, n17, hs19⟩, h_2⟩ := h_1
  refine fw_getP (kd := 11) (k := 0) (show decode _ _ = .ok (.getfield 7, 3) by decide +kernel) gf_X11_7 hr18 hs19 rfl ?_
  have h_3 := dR_e h_2
  obtain ⟨y20, hy21, h_4⟩ := h_3
  refine fw_deref hy21 ?_
  refine fw_iload_n (i := 3) 0 rfl (show decode _ _ = .ok (.iload_n 3, 1) by decide +kernel) ?_
  refine fw_iload_n (i := 2) 3 rfl (show decode _ _ = .ok (.iload_n 2, 1) by decide +kernel) ?_
  obtain ⟨hr25, ⟨n22, hs23, hi24⟩, h_5⟩ := h_4
  refine fw_iast (show decode _ _ = .ok (.iastore, 1) by decide +kernel) hr25 hs23 hi24 ?_
  refine FW.nmM (fun M26 eM27 => ?_)
  have h_6 := h_5 M26 eM27
  refine fw_aload_n (i := 0) 1 rfl (show decode _ _ = .ok (.aload_n 0, 1) by decide +kernel) ?_
  refine fw_getP (kd := 11) (k := 0) (show decode _ _ = .ok (.getfield 7, 3) by decide +kernel) gf_X11_7 hr18 (mSw_I eM27 hs19) rfl ?_
  have h_7 := dR_e h_6
  obtain ⟨y28, hy29, h_8⟩ := h_7
  refine fw_deref hy29 ?_
  refine fw_iload_n (i := 3) 0 rfl (show decode _ _ = .ok (.iload_n 3, 1) by decide +kernel) ?_
  refine fw_iconst (v := (1 : Int32)) (show decode _ _ = .ok (.iconst 1, 1) by decide +kernel) (by decide) ?_
  refine fw_iadd (show decode _ _ = .ok (.iadd, 1) by decide +kernel) ?_
  refine fw_iconst (v := (0 : Int32)) (show decode _ _ = .ok (.iconst 0, 1) by decide +kernel) (by decide) ?_
  obtain ⟨hr33, ⟨n30, hs31, hi32⟩, h_9⟩ := h_8
  refine fw_iast (show decode _ _ = .ok (.iastore, 1) by decide +kernel) hr33 hs31 hi32 ?_
  refine FW.nmM (fun M34 eM35 => ?_)
  have h_10 := h_9 M34 eM35
  refine fw_aload_n (i := 0) 1 rfl (show decode _ _ = .ok (.aload_n 0, 1) by decide +kernel) ?_
  refine fw_getP (kd := 11) (k := 0) (show decode _ _ = .ok (.getfield 7, 3) by decide +kernel) gf_X11_7 hr18 (mSw_I eM35 (mSw_I eM27 hs19)) rfl ?_
  have h_11 := dR_e h_10
  obtain ⟨y36, hy37, h_12⟩ := h_11
  refine fw_deref hy37 ?_
  refine fw_iload_n (i := 3) 0 rfl (show decode _ _ = .ok (.iload_n 3, 1) by decide +kernel) ?_
  refine fw_iconst (v := (2 : Int32)) (show decode _ _ = .ok (.iconst 2, 1) by decide +kernel) (by decide) ?_
  refine fw_iadd (show decode _ _ = .ok (.iadd, 1) by decide +kernel) ?_
  refine fw_iconst (v := (0 : Int32)) (show decode _ _ = .ok (.iconst 0, 1) by decide +kernel) (by decide) ?_
  obtain ⟨hr41, ⟨n38, hs39, hi40⟩, h_13⟩ := h_12
  refine fw_iast (show decode _ _ = .ok (.iastore, 1) by decide +kernel) hr41 hs39 hi40 ?_
  refine FW.nmM (fun M42 eM43 => ?_)
  have h_14 := h_13 M42 eM43
  refine fw_iconst (v := (0 : Int32)) (show decode _ _ = .ok (.iconst 0, 1) by decide +kernel) (by decide) ?_
  refine fw_istore (i := 4) (ls' := [(4, .int (0 : Int32)), (3, .int x15), (0, .ref p0), (1, .int p1), (2, .int p2)]) (show decode _ _ = .ok (.istore 4, 2) by decide +kernel) (by decide) rfl ?_
  refine FW.sub [2, 1, 0] (ls' := [(0, .ref p0), (3, .int x15), (4, .int (0 : Int32))]) rfl ?_
  obtain ⟨nn, h_15⟩ := h_14
  exact sl_X11_build_36 hd nn h_15
def w_X11_by (p0 : Nat) (p1 : Int32) (M : fM) (φ : Int32 → fM → Prop) : Prop := isO M p0 11 ∧ dR (mP M p0 0) fun y4 => inA M y4 12 (3 : Int32) ∧ w_X11_isIn p1 (-1 : Int32) ((mI M y4 (ix (3 : Int32))) - (1 : Int32)) M fun x10 M9 => iF (x10 = 0) (φ (0 : Int32) M9) (isO M9 p0 11 ∧ dR (mP M9 p0 0) fun y14 => 6 ≤ y14 ∧ inA M9 y14 12 (4 : Int32) ∧ st (wI M9 y14 (ix (4 : Int32)) p1) fun M20 => φ (1 : Int32) M20)
set_option maxRecDepth 100000 in
theorem s_X11_by {g : GT} {d : Nat} (hd : 2 ≤ d) {p0 : Nat} {p1 : Int32} {M : fM} {φ : Int32 → fM → Prop} (h : w_X11_by p0 p1 M φ) : FC g mtX11_by d [.ref p0, .int p1] M 0 0 (rI φ) := by
  obtain ⟨d, rfl⟩ : ∃ e, d = e + 1 := ⟨d - 1, by omega⟩
  unfold w_X11_by at h
  refine FC.intro (nL := 2) (by decide) rfl (Nat.le_of_ble_eq_true rfl) ?_
  show FW g mtX11_by (d + 1) 0 [(0, .ref p0), (1, .int p1)] [] M 0 0 (rI φ)
  refine fw_iload_n (i := 1) 1 rfl (show decode _ _ = .ok (.iload_n 1, 1) by decide +kernel) ?_
  refine fw_iconst (v := (-1 : Int32)) (show decode _ _ = .ok (.iconst (-1), 1) by decide +kernel) (by decide) ?_
  refine fw_aload_n (i := 0) 0 rfl (show decode _ _ = .ok (.aload_n 0, 1) by decide +kernel) ?_
  obtain ⟨⟨hr2, n1, hs3⟩, h_1⟩ := h
  refine fw_getP (kd := 11) (k := 0) (show decode _ _ = .ok (.getfield 7, 3) by decide +kernel) gf_X11_7 hr2 hs3 rfl ?_
  have h_2 := dR_e h_1
  obtain ⟨y4, hy5, h_3⟩ := h_2
  refine fw_deref hy5 ?_
  refine fw_iconst (v := (3 : Int32)) (show decode _ _ = .ok (.iconst 3, 1) by decide +kernel) (by decide) ?_
  obtain ⟨⟨n6, hs7, hi8⟩, h_4⟩ := h_3
  refine fw_iald (show decode _ _ = .ok (.iaload, 1) by decide +kernel) hs7 hi8 ?_
  refine fw_iconst (v := (1 : Int32)) (show decode _ _ = .ok (.iconst 1, 1) by decide +kernel) (by decide) ?_
  refine fw_isub (show decode _ _ = .ok (.isub, 1) by decide +kernel) ?_
  refine fw_callS (mt' := mtX11_isIn) (mc := 0) (ms := 0) (As := [.int p1, .int (-1 : Int32), .int ((mI M y4 (ix (3 : Int32))) - (1 : Int32))]) (rest := []) 3 (show decode _ _ = .ok (.invokestatic 66, 3) by decide +kernel) cs_X11_66 rfl (Nat.le_of_ble_eq_true rfl) (s_X11_isIn (d := d) (hd_le hd (by decide)) h_4) (by decide) (by decide) (kI (bc' := 0) (bs' := 0) (by decide) (by decide) (fun x10 M9 h_5 => ?_))
  refine fw_if_ne 18 (show decode _ _ = .ok (.ifCond .ne 5, 3) by decide +kernel) (by decide) (fun hc22 => ?_) (fun hc22 => ?_)
  · have h_6 := ineg hc22 h_5
    refine fw_aload_n (i := 0) 0 rfl (show decode _ _ = .ok (.aload_n 0, 1) by decide +kernel) ?_
    obtain ⟨⟨hr12, n11, hs13⟩, h_7⟩ := h_6
    refine fw_getP (kd := 11) (k := 0) (show decode _ _ = .ok (.getfield 7, 3) by decide +kernel) gf_X11_7 hr12 hs13 rfl ?_
    have h_8 := dR_e h_7
    obtain ⟨y14, hy15, h_9⟩ := h_8
    refine fw_deref hy15 ?_
    refine fw_iconst (v := (4 : Int32)) (show decode _ _ = .ok (.iconst 4, 1) by decide +kernel) (by decide) ?_
    refine fw_iload_n (i := 1) 1 rfl (show decode _ _ = .ok (.iload_n 1, 1) by decide +kernel) ?_
    obtain ⟨hr19, ⟨n16, hs17, hi18⟩, h_10⟩ := h_9
    refine fw_iast (show decode _ _ = .ok (.iastore, 1) by decide +kernel) hr19 hs17 hi18 ?_
    refine FW.nmM (fun M20 eM21 => ?_)
    have h_11 := h_10 M20 eM21
    refine fw_iconst (v := (1 : Int32)) (show decode _ _ = .ok (.iconst 1, 1) by decide +kernel) (by decide) ?_
    exact fw_ret (v := some (.int (1 : Int32))) .ireturn (show decode _ _ = .ok (.ireturn, 1) by decide +kernel) ⟨rfl, Or.inr (Or.inl ⟨rfl, rfl⟩)⟩ ⟨_, rfl, h_11⟩
  · have h_12 := ipos hc22 h_5
    refine fw_iconst (v := (0 : Int32)) (show decode _ _ = .ok (.iconst 0, 1) by decide +kernel) (by decide) ?_
    exact fw_ret (v := some (.int (0 : Int32))) .ireturn (show decode _ _ = .ok (.ireturn, 1) by decide +kernel) ⟨rfl, Or.inr (Or.inl ⟨rfl, rfl⟩)⟩ ⟨_, rfl, h_12⟩
def w_X11_sortOf (p0 : Nat) (M : fM) (φ : Int32 → fM → Prop) : Prop := w_X11_w4 (110 : Int32) (111 : Int32) (110 : Int32) (101 : Int32) M fun x2 M1 => isO M1 p0 11 ∧ w_X11_isWord p0 x2 M1 fun x7 M3 => iF (x7 = 0) (w_X11_w5 (116 : Int32) (119 : Int32) (105 : Int32) (99 : Int32) (101 : Int32) M3 fun x9 M8 => isO M8 p0 11 ∧ w_X11_isWord p0 x9 M8 fun x14 M10 => iF (x14 = 0) (w_X11_w5 (116 : Int32) (114 : Int32) (105 : Int32) (112 : Int32) (115 : Int32) M10 fun x16 M15 => isO M15 p0 11 ∧ w_X11_isWord p0 x16 M15 fun x21 M17 => iF (x21 = 0) (w_X11_w3 (106 : Int32) (97 : Int32) (114 : Int32) M17 fun x23 M22 => isO M22 p0 11 ∧ w_X11_isWord p0 x23 M22 fun x28 M24 => iF (x28 = 0) (w_X11_w4 (102 : Int32) (97 : Int32) (108 : Int32) (108 : Int32) M24 fun x30 M29 => isO M29 p0 11 ∧ w_X11_isWord p0 x30 M29 fun x35 M31 => iF (x35 = 0) (w_X11_w5 (115 : Int32) (116 : Int32) (97 : Int32) (105 : Int32) (114 : Int32) M31 fun x37 M36 => isO M36 p0 11 ∧ w_X11_isWord p0 x37 M36 fun x42 M38 => iF (x42 = 0) (w_X11_w4 (104 : Int32) (105 : Int32) (103 : Int32) (104 : Int32) M38 fun x44 M43 => isO M43 p0 11 ∧ w_X11_isWord p0 x44 M43 fun x49 M45 => iF (x49 = 0) (w_X11_w4 (109 : Int32) (97 : Int32) (114 : Int32) (107 : Int32) M45 fun x51 M50 => isO M50 p0 11 ∧ w_X11_isWord p0 x51 M50 fun x56 M52 => iF (x56 = 0) (w_X11_w4 (114 : Int32) (97 : Int32) (105 : Int32) (108 : Int32) M52 fun x58 M57 => isO M57 p0 11 ∧ w_X11_isWord p0 x58 M57 fun x63 M59 => iF (x63 = 0) (w_X11_w3 (111 : Int32) (110 : Int32) (101 : Int32) M59 fun x65 M64 => isO M64 p0 11 ∧ w_X11_isWord p0 x65 M64 fun x70 M66 => iF (x70 = 0) (w_X11_w5 (98 : Int32) (101 : Int32) (103 : Int32) (105 : Int32) (110 : Int32) M66 fun x72 M71 => isO M71 p0 11 ∧ w_X11_isWord p0 x72 M71 fun x77 M73 => iF (x77 = 0) (w_X11_w4 (108 : Int32) (111 : Int32) (97 : Int32) (100 : Int32) M73 fun x79 M78 => isO M78 p0 11 ∧ w_X11_isWord p0 x79 M78 fun x84 M80 => iF (x84 = 0) (w_X11_w5 (100 : Int32) (114 : Int32) (105 : Int32) (110 : Int32) (107 : Int32) M80 fun x86 M85 => isO M85 p0 11 ∧ w_X11_isWord p0 x86 M85 fun x91 M87 => iF (x91 = 0) (w_X11_w4 (115 : Int32) (116 : Int32) (101 : Int32) (112 : Int32) M87 fun x93 M92 => isO M92 p0 11 ∧ w_X11_isWord p0 x93 M92 fun x98 M94 => iF (x98 = 0) (w_X11_w3 (116 : Int32) (111 : Int32) (101 : Int32) M94 fun x100 M99 => isO M99 p0 11 ∧ w_X11_isWord p0 x100 M99 fun x105 M101 => iF (x105 = 0) (w_X11_w4 (115 : Int32) (116 : Int32) (111 : Int32) (112 : Int32) M101 fun x107 M106 => isO M106 p0 11 ∧ w_X11_isWord p0 x107 M106 fun x112 M108 => iF (x112 = 0) (w_X11_w5 (110 : Int32) (105 : Int32) (103 : Int32) (104 : Int32) (116 : Int32) M108 fun x114 M113 => isO M113 p0 11 ∧ w_X11_isWord p0 x114 M113 fun x119 M115 => iF (x119 = 0) (φ (-1 : Int32) M115) (φ (16 : Int32) M115)) (φ (15 : Int32) M108)) (φ (14 : Int32) M101)) (φ (13 : Int32) M94)) (φ (12 : Int32) M87)) (φ (11 : Int32) M80)) (φ (10 : Int32) M73)) (φ (9 : Int32) M66)) (φ (8 : Int32) M59)) (φ (7 : Int32) M52)) (φ (6 : Int32) M45)) (φ (5 : Int32) M38)) (φ (4 : Int32) M31)) (φ (3 : Int32) M24)) (φ (2 : Int32) M17)) (φ (1 : Int32) M10)) (φ (0 : Int32) M3)
set_option maxRecDepth 100000 in
theorem s_X11_sortOf {g : GT} {d : Nat} (hd : 3 ≤ d) {p0 : Nat} {M : fM} {φ : Int32 → fM → Prop} (h : w_X11_sortOf p0 M φ) : FC g mtX11_sortOf d [.ref p0] M 0 0 (rI φ) := by
  obtain ⟨d, rfl⟩ : ∃ e, d = e + 1 := ⟨d - 1, by omega⟩
  unfold w_X11_sortOf at h
  refine FC.intro (nL := 1) (by decide) rfl (Nat.le_of_ble_eq_true rfl) ?_
  show FW g mtX11_sortOf (d + 1) 0 [(0, .ref p0)] [] M 0 0 (rI φ)
  refine fw_aload_n (i := 0) 0 rfl (show decode _ _ = .ok (.aload_n 0, 1) by decide +kernel) ?_
  refine fw_bipush (v := (110 : Int32)) (show decode _ _ = .ok (.bipush 110, 2) by decide +kernel) (by decide) ?_
  refine fw_bipush (v := (111 : Int32)) (show decode _ _ = .ok (.bipush 111, 2) by decide +kernel) (by decide) ?_
  refine fw_bipush (v := (110 : Int32)) (show decode _ _ = .ok (.bipush 110, 2) by decide +kernel) (by decide) ?_
  refine fw_bipush (v := (101 : Int32)) (show decode _ _ = .ok (.bipush 101, 2) by decide +kernel) (by decide) ?_
  refine fw_callS (mt' := mtX11_w4) (mc := 0) (ms := 0) (As := [.int (110 : Int32), .int (111 : Int32), .int (110 : Int32), .int (101 : Int32)]) (rest := [.ref p0]) 4 (show decode _ _ = .ok (.invokestatic 145, 3) by decide +kernel) cs_X11_145 rfl (Nat.le_of_ble_eq_true rfl) (s_X11_w4 (d := d) (hd_le hd (by decide)) h) (by decide) (by decide) (kJ (bc' := 0) (bs' := 0) (by decide) (by decide) (fun x2 M1 h_1 => ?_))
  obtain ⟨⟨hr5, n4, hs6⟩, h_2⟩ := h_1
  refine fw_callV (mt' := mtX11_isWord) (mc := 0) (ms := 0) (As := [.long x2]) (rest := []) 1 11 n4 (show decode _ _ = .ok (.invokevirtual 196, 3) by decide +kernel) cv_X11_196 ⟨_, rfl, rfl⟩ hr5 hs6 rfl (Nat.le_of_ble_eq_true rfl) (s_X11_isWord (d := d) (hd_le hd (by decide)) h_2) (by decide) (by decide) (kI (bc' := 0) (bs' := 0) (by decide) (by decide) (fun x7 M3 h_3 => ?_))
  refine fw_if_eq 20 (show decode _ _ = .ok (.ifCond .eq 5, 3) by decide +kernel) (by decide) (fun hc136 => ?_) (fun hc136 => ?_)
  · have h_4 := ipos hc136 h_3
    refine fw_aload_n (i := 0) 0 rfl (show decode _ _ = .ok (.aload_n 0, 1) by decide +kernel) ?_
    refine fw_bipush (v := (116 : Int32)) (show decode _ _ = .ok (.bipush 116, 2) by decide +kernel) (by decide) ?_
    refine fw_bipush (v := (119 : Int32)) (show decode _ _ = .ok (.bipush 119, 2) by decide +kernel) (by decide) ?_
    refine fw_bipush (v := (105 : Int32)) (show decode _ _ = .ok (.bipush 105, 2) by decide +kernel) (by decide) ?_
    refine fw_bipush (v := (99 : Int32)) (show decode _ _ = .ok (.bipush 99, 2) by decide +kernel) (by decide) ?_
    refine fw_bipush (v := (101 : Int32)) (show decode _ _ = .ok (.bipush 101, 2) by decide +kernel) (by decide) ?_
    refine fw_callS (mt' := mtX11_w5) (mc := 0) (ms := 0) (As := [.int (116 : Int32), .int (119 : Int32), .int (105 : Int32), .int (99 : Int32), .int (101 : Int32)]) (rest := [.ref p0]) 5 (show decode _ _ = .ok (.invokestatic 128, 3) by decide +kernel) cs_X11_128 rfl (Nat.le_of_ble_eq_true rfl) (s_X11_w5 (d := d) (hd_le hd (by decide)) h_4) (by decide) (by decide) (kJ (bc' := 0) (bs' := 0) (by decide) (by decide) (fun x9 M8 h_5 => ?_))
    obtain ⟨⟨hr12, n11, hs13⟩, h_6⟩ := h_5
    refine fw_callV (mt' := mtX11_isWord) (mc := 0) (ms := 0) (As := [.long x9]) (rest := []) 1 11 n11 (show decode _ _ = .ok (.invokevirtual 196, 3) by decide +kernel) cv_X11_196 ⟨_, rfl, rfl⟩ hr12 hs13 rfl (Nat.le_of_ble_eq_true rfl) (s_X11_isWord (d := d) (hd_le hd (by decide)) h_6) (by decide) (by decide) (kI (bc' := 0) (bs' := 0) (by decide) (by decide) (fun x14 M10 h_7 => ?_))
    refine fw_if_eq 42 (show decode _ _ = .ok (.ifCond .eq 5, 3) by decide +kernel) (by decide) (fun hc135 => ?_) (fun hc135 => ?_)
    · have h_8 := ipos hc135 h_7
      refine fw_aload_n (i := 0) 0 rfl (show decode _ _ = .ok (.aload_n 0, 1) by decide +kernel) ?_
      refine fw_bipush (v := (116 : Int32)) (show decode _ _ = .ok (.bipush 116, 2) by decide +kernel) (by decide) ?_
      refine fw_bipush (v := (114 : Int32)) (show decode _ _ = .ok (.bipush 114, 2) by decide +kernel) (by decide) ?_
      refine fw_bipush (v := (105 : Int32)) (show decode _ _ = .ok (.bipush 105, 2) by decide +kernel) (by decide) ?_
      refine fw_bipush (v := (112 : Int32)) (show decode _ _ = .ok (.bipush 112, 2) by decide +kernel) (by decide) ?_
      refine fw_bipush (v := (115 : Int32)) (show decode _ _ = .ok (.bipush 115, 2) by decide +kernel) (by decide) ?_
      refine fw_callS (mt' := mtX11_w5) (mc := 0) (ms := 0) (As := [.int (116 : Int32), .int (114 : Int32), .int (105 : Int32), .int (112 : Int32), .int (115 : Int32)]) (rest := [.ref p0]) 5 (show decode _ _ = .ok (.invokestatic 128, 3) by decide +kernel) cs_X11_128 rfl (Nat.le_of_ble_eq_true rfl) (s_X11_w5 (d := d) (hd_le hd (by decide)) h_8) (by decide) (by decide) (kJ (bc' := 0) (bs' := 0) (by decide) (by decide) (fun x16 M15 h_9 => ?_))
      obtain ⟨⟨hr19, n18, hs20⟩, h_10⟩ := h_9
      refine fw_callV (mt' := mtX11_isWord) (mc := 0) (ms := 0) (As := [.long x16]) (rest := []) 1 11 n18 (show decode _ _ = .ok (.invokevirtual 196, 3) by decide +kernel) cv_X11_196 ⟨_, rfl, rfl⟩ hr19 hs20 rfl (Nat.le_of_ble_eq_true rfl) (s_X11_isWord (d := d) (hd_le hd (by decide)) h_10) (by decide) (by decide) (kI (bc' := 0) (bs' := 0) (by decide) (by decide) (fun x21 M17 h_11 => ?_))
      refine fw_if_eq 64 (show decode _ _ = .ok (.ifCond .eq 5, 3) by decide +kernel) (by decide) (fun hc134 => ?_) (fun hc134 => ?_)
      · have h_12 := ipos hc134 h_11
        refine fw_aload_n (i := 0) 0 rfl (show decode _ _ = .ok (.aload_n 0, 1) by decide +kernel) ?_
        refine fw_bipush (v := (106 : Int32)) (show decode _ _ = .ok (.bipush 106, 2) by decide +kernel) (by decide) ?_
        refine fw_bipush (v := (97 : Int32)) (show decode _ _ = .ok (.bipush 97, 2) by decide +kernel) (by decide) ?_
        refine fw_bipush (v := (114 : Int32)) (show decode _ _ = .ok (.bipush 114, 2) by decide +kernel) (by decide) ?_
        refine fw_callS (mt' := mtX11_w3) (mc := 0) (ms := 0) (As := [.int (106 : Int32), .int (97 : Int32), .int (114 : Int32)]) (rest := [.ref p0]) 3 (show decode _ _ = .ok (.invokestatic 124, 3) by decide +kernel) cs_X11_124 rfl (Nat.le_of_ble_eq_true rfl) (s_X11_w3 (d := d) (hd_le hd (by decide)) h_12) (by decide) (by decide) (kJ (bc' := 0) (bs' := 0) (by decide) (by decide) (fun x23 M22 h_13 => ?_))
        obtain ⟨⟨hr26, n25, hs27⟩, h_14⟩ := h_13
        refine fw_callV (mt' := mtX11_isWord) (mc := 0) (ms := 0) (As := [.long x23]) (rest := []) 1 11 n25 (show decode _ _ = .ok (.invokevirtual 196, 3) by decide +kernel) cv_X11_196 ⟨_, rfl, rfl⟩ hr26 hs27 rfl (Nat.le_of_ble_eq_true rfl) (s_X11_isWord (d := d) (hd_le hd (by decide)) h_14) (by decide) (by decide) (kI (bc' := 0) (bs' := 0) (by decide) (by decide) (fun x28 M24 h_15 => ?_))
        refine fw_if_eq 82 (show decode _ _ = .ok (.ifCond .eq 5, 3) by decide +kernel) (by decide) (fun hc133 => ?_) (fun hc133 => ?_)
        · have h_16 := ipos hc133 h_15
          refine fw_aload_n (i := 0) 0 rfl (show decode _ _ = .ok (.aload_n 0, 1) by decide +kernel) ?_
          refine fw_bipush (v := (102 : Int32)) (show decode _ _ = .ok (.bipush 102, 2) by decide +kernel) (by decide) ?_
          refine fw_bipush (v := (97 : Int32)) (show decode _ _ = .ok (.bipush 97, 2) by decide +kernel) (by decide) ?_
          refine fw_bipush (v := (108 : Int32)) (show decode _ _ = .ok (.bipush 108, 2) by decide +kernel) (by decide) ?_
          refine fw_bipush (v := (108 : Int32)) (show decode _ _ = .ok (.bipush 108, 2) by decide +kernel) (by decide) ?_
          refine fw_callS (mt' := mtX11_w4) (mc := 0) (ms := 0) (As := [.int (102 : Int32), .int (97 : Int32), .int (108 : Int32), .int (108 : Int32)]) (rest := [.ref p0]) 4 (show decode _ _ = .ok (.invokestatic 145, 3) by decide +kernel) cs_X11_145 rfl (Nat.le_of_ble_eq_true rfl) (s_X11_w4 (d := d) (hd_le hd (by decide)) h_16) (by decide) (by decide) (kJ (bc' := 0) (bs' := 0) (by decide) (by decide) (fun x30 M29 h_17 => ?_))
          obtain ⟨⟨hr33, n32, hs34⟩, h_18⟩ := h_17
          refine fw_callV (mt' := mtX11_isWord) (mc := 0) (ms := 0) (As := [.long x30]) (rest := []) 1 11 n32 (show decode _ _ = .ok (.invokevirtual 196, 3) by decide +kernel) cv_X11_196 ⟨_, rfl, rfl⟩ hr33 hs34 rfl (Nat.le_of_ble_eq_true rfl) (s_X11_isWord (d := d) (hd_le hd (by decide)) h_18) (by decide) (by decide) (kI (bc' := 0) (bs' := 0) (by decide) (by decide) (fun x35 M31 h_19 => ?_))
          refine fw_if_eq 102 (show decode _ _ = .ok (.ifCond .eq 5, 3) by decide +kernel) (by decide) (fun hc132 => ?_) (fun hc132 => ?_)
          · have h_20 := ipos hc132 h_19
            refine fw_aload_n (i := 0) 0 rfl (show decode _ _ = .ok (.aload_n 0, 1) by decide +kernel) ?_
            refine fw_bipush (v := (115 : Int32)) (show decode _ _ = .ok (.bipush 115, 2) by decide +kernel) (by decide) ?_
            refine fw_bipush (v := (116 : Int32)) (show decode _ _ = .ok (.bipush 116, 2) by decide +kernel) (by decide) ?_
            refine fw_bipush (v := (97 : Int32)) (show decode _ _ = .ok (.bipush 97, 2) by decide +kernel) (by decide) ?_
            refine fw_bipush (v := (105 : Int32)) (show decode _ _ = .ok (.bipush 105, 2) by decide +kernel) (by decide) ?_
            refine fw_bipush (v := (114 : Int32)) (show decode _ _ = .ok (.bipush 114, 2) by decide +kernel) (by decide) ?_
            refine fw_callS (mt' := mtX11_w5) (mc := 0) (ms := 0) (As := [.int (115 : Int32), .int (116 : Int32), .int (97 : Int32), .int (105 : Int32), .int (114 : Int32)]) (rest := [.ref p0]) 5 (show decode _ _ = .ok (.invokestatic 128, 3) by decide +kernel) cs_X11_128 rfl (Nat.le_of_ble_eq_true rfl) (s_X11_w5 (d := d) (hd_le hd (by decide)) h_20) (by decide) (by decide) (kJ (bc' := 0) (bs' := 0) (by decide) (by decide) (fun x37 M36 h_21 => ?_))
            obtain ⟨⟨hr40, n39, hs41⟩, h_22⟩ := h_21
            refine fw_callV (mt' := mtX11_isWord) (mc := 0) (ms := 0) (As := [.long x37]) (rest := []) 1 11 n39 (show decode _ _ = .ok (.invokevirtual 196, 3) by decide +kernel) cv_X11_196 ⟨_, rfl, rfl⟩ hr40 hs41 rfl (Nat.le_of_ble_eq_true rfl) (s_X11_isWord (d := d) (hd_le hd (by decide)) h_22) (by decide) (by decide) (kI (bc' := 0) (bs' := 0) (by decide) (by decide) (fun x42 M38 h_23 => ?_))
            refine fw_if_eq 124 (show decode _ _ = .ok (.ifCond .eq 5, 3) by decide +kernel) (by decide) (fun hc131 => ?_) (fun hc131 => ?_)
            · have h_24 := ipos hc131 h_23
              refine fw_aload_n (i := 0) 0 rfl (show decode _ _ = .ok (.aload_n 0, 1) by decide +kernel) ?_
              refine fw_bipush (v := (104 : Int32)) (show decode _ _ = .ok (.bipush 104, 2) by decide +kernel) (by decide) ?_
              refine fw_bipush (v := (105 : Int32)) (show decode _ _ = .ok (.bipush 105, 2) by decide +kernel) (by decide) ?_
              refine fw_bipush (v := (103 : Int32)) (show decode _ _ = .ok (.bipush 103, 2) by decide +kernel) (by decide) ?_
              refine fw_bipush (v := (104 : Int32)) (show decode _ _ = .ok (.bipush 104, 2) by decide +kernel) (by decide) ?_
              refine fw_callS (mt' := mtX11_w4) (mc := 0) (ms := 0) (As := [.int (104 : Int32), .int (105 : Int32), .int (103 : Int32), .int (104 : Int32)]) (rest := [.ref p0]) 4 (show decode _ _ = .ok (.invokestatic 145, 3) by decide +kernel) cs_X11_145 rfl (Nat.le_of_ble_eq_true rfl) (s_X11_w4 (d := d) (hd_le hd (by decide)) h_24) (by decide) (by decide) (kJ (bc' := 0) (bs' := 0) (by decide) (by decide) (fun x44 M43 h_25 => ?_))
              obtain ⟨⟨hr47, n46, hs48⟩, h_26⟩ := h_25
              refine fw_callV (mt' := mtX11_isWord) (mc := 0) (ms := 0) (As := [.long x44]) (rest := []) 1 11 n46 (show decode _ _ = .ok (.invokevirtual 196, 3) by decide +kernel) cv_X11_196 ⟨_, rfl, rfl⟩ hr47 hs48 rfl (Nat.le_of_ble_eq_true rfl) (s_X11_isWord (d := d) (hd_le hd (by decide)) h_26) (by decide) (by decide) (kI (bc' := 0) (bs' := 0) (by decide) (by decide) (fun x49 M45 h_27 => ?_))
              refine fw_if_eq 145 (show decode _ _ = .ok (.ifCond .eq 6, 3) by decide +kernel) (by decide) (fun hc130 => ?_) (fun hc130 => ?_)
              · have h_28 := ipos hc130 h_27
                refine fw_aload_n (i := 0) 0 rfl (show decode _ _ = .ok (.aload_n 0, 1) by decide +kernel) ?_
                refine fw_bipush (v := (109 : Int32)) (show decode _ _ = .ok (.bipush 109, 2) by decide +kernel) (by decide) ?_
                refine fw_bipush (v := (97 : Int32)) (show decode _ _ = .ok (.bipush 97, 2) by decide +kernel) (by decide) ?_
                refine fw_bipush (v := (114 : Int32)) (show decode _ _ = .ok (.bipush 114, 2) by decide +kernel) (by decide) ?_
                refine fw_bipush (v := (107 : Int32)) (show decode _ _ = .ok (.bipush 107, 2) by decide +kernel) (by decide) ?_
                refine fw_callS (mt' := mtX11_w4) (mc := 0) (ms := 0) (As := [.int (109 : Int32), .int (97 : Int32), .int (114 : Int32), .int (107 : Int32)]) (rest := [.ref p0]) 4 (show decode _ _ = .ok (.invokestatic 145, 3) by decide +kernel) cs_X11_145 rfl (Nat.le_of_ble_eq_true rfl) (s_X11_w4 (d := d) (hd_le hd (by decide)) h_28) (by decide) (by decide) (kJ (bc' := 0) (bs' := 0) (by decide) (by decide) (fun x51 M50 h_29 => ?_))
                obtain ⟨⟨hr54, n53, hs55⟩, h_30⟩ := h_29
                refine fw_callV (mt' := mtX11_isWord) (mc := 0) (ms := 0) (As := [.long x51]) (rest := []) 1 11 n53 (show decode _ _ = .ok (.invokevirtual 196, 3) by decide +kernel) cv_X11_196 ⟨_, rfl, rfl⟩ hr54 hs55 rfl (Nat.le_of_ble_eq_true rfl) (s_X11_isWord (d := d) (hd_le hd (by decide)) h_30) (by decide) (by decide) (kI (bc' := 0) (bs' := 0) (by decide) (by decide) (fun x56 M52 h_31 => ?_))
                refine fw_if_eq 166 (show decode _ _ = .ok (.ifCond .eq 6, 3) by decide +kernel) (by decide) (fun hc129 => ?_) (fun hc129 => ?_)
                · have h_32 := ipos hc129 h_31
                  refine fw_aload_n (i := 0) 0 rfl (show decode _ _ = .ok (.aload_n 0, 1) by decide +kernel) ?_
                  refine fw_bipush (v := (114 : Int32)) (show decode _ _ = .ok (.bipush 114, 2) by decide +kernel) (by decide) ?_
                  refine fw_bipush (v := (97 : Int32)) (show decode _ _ = .ok (.bipush 97, 2) by decide +kernel) (by decide) ?_
                  refine fw_bipush (v := (105 : Int32)) (show decode _ _ = .ok (.bipush 105, 2) by decide +kernel) (by decide) ?_
                  refine fw_bipush (v := (108 : Int32)) (show decode _ _ = .ok (.bipush 108, 2) by decide +kernel) (by decide) ?_
                  refine fw_callS (mt' := mtX11_w4) (mc := 0) (ms := 0) (As := [.int (114 : Int32), .int (97 : Int32), .int (105 : Int32), .int (108 : Int32)]) (rest := [.ref p0]) 4 (show decode _ _ = .ok (.invokestatic 145, 3) by decide +kernel) cs_X11_145 rfl (Nat.le_of_ble_eq_true rfl) (s_X11_w4 (d := d) (hd_le hd (by decide)) h_32) (by decide) (by decide) (kJ (bc' := 0) (bs' := 0) (by decide) (by decide) (fun x58 M57 h_33 => ?_))
                  obtain ⟨⟨hr61, n60, hs62⟩, h_34⟩ := h_33
                  refine fw_callV (mt' := mtX11_isWord) (mc := 0) (ms := 0) (As := [.long x58]) (rest := []) 1 11 n60 (show decode _ _ = .ok (.invokevirtual 196, 3) by decide +kernel) cv_X11_196 ⟨_, rfl, rfl⟩ hr61 hs62 rfl (Nat.le_of_ble_eq_true rfl) (s_X11_isWord (d := d) (hd_le hd (by decide)) h_34) (by decide) (by decide) (kI (bc' := 0) (bs' := 0) (by decide) (by decide) (fun x63 M59 h_35 => ?_))
                  refine fw_if_eq 187 (show decode _ _ = .ok (.ifCond .eq 6, 3) by decide +kernel) (by decide) (fun hc128 => ?_) (fun hc128 => ?_)
                  · have h_36 := ipos hc128 h_35
                    refine fw_aload_n (i := 0) 0 rfl (show decode _ _ = .ok (.aload_n 0, 1) by decide +kernel) ?_
                    refine fw_bipush (v := (111 : Int32)) (show decode _ _ = .ok (.bipush 111, 2) by decide +kernel) (by decide) ?_
                    refine fw_bipush (v := (110 : Int32)) (show decode _ _ = .ok (.bipush 110, 2) by decide +kernel) (by decide) ?_
                    refine fw_bipush (v := (101 : Int32)) (show decode _ _ = .ok (.bipush 101, 2) by decide +kernel) (by decide) ?_
                    refine fw_callS (mt' := mtX11_w3) (mc := 0) (ms := 0) (As := [.int (111 : Int32), .int (110 : Int32), .int (101 : Int32)]) (rest := [.ref p0]) 3 (show decode _ _ = .ok (.invokestatic 124, 3) by decide +kernel) cs_X11_124 rfl (Nat.le_of_ble_eq_true rfl) (s_X11_w3 (d := d) (hd_le hd (by decide)) h_36) (by decide) (by decide) (kJ (bc' := 0) (bs' := 0) (by decide) (by decide) (fun x65 M64 h_37 => ?_))
                    obtain ⟨⟨hr68, n67, hs69⟩, h_38⟩ := h_37
                    refine fw_callV (mt' := mtX11_isWord) (mc := 0) (ms := 0) (As := [.long x65]) (rest := []) 1 11 n67 (show decode _ _ = .ok (.invokevirtual 196, 3) by decide +kernel) cv_X11_196 ⟨_, rfl, rfl⟩ hr68 hs69 rfl (Nat.le_of_ble_eq_true rfl) (s_X11_isWord (d := d) (hd_le hd (by decide)) h_38) (by decide) (by decide) (kI (bc' := 0) (bs' := 0) (by decide) (by decide) (fun x70 M66 h_39 => ?_))
                    refine fw_if_eq 206 (show decode _ _ = .ok (.ifCond .eq 6, 3) by decide +kernel) (by decide) (fun hc127 => ?_) (fun hc127 => ?_)
                    · have h_40 := ipos hc127 h_39
                      refine fw_aload_n (i := 0) 0 rfl (show decode _ _ = .ok (.aload_n 0, 1) by decide +kernel) ?_
                      refine fw_bipush (v := (98 : Int32)) (show decode _ _ = .ok (.bipush 98, 2) by decide +kernel) (by decide) ?_
                      refine fw_bipush (v := (101 : Int32)) (show decode _ _ = .ok (.bipush 101, 2) by decide +kernel) (by decide) ?_
                      refine fw_bipush (v := (103 : Int32)) (show decode _ _ = .ok (.bipush 103, 2) by decide +kernel) (by decide) ?_
                      refine fw_bipush (v := (105 : Int32)) (show decode _ _ = .ok (.bipush 105, 2) by decide +kernel) (by decide) ?_
                      refine fw_bipush (v := (110 : Int32)) (show decode _ _ = .ok (.bipush 110, 2) by decide +kernel) (by decide) ?_
                      refine fw_callS (mt' := mtX11_w5) (mc := 0) (ms := 0) (As := [.int (98 : Int32), .int (101 : Int32), .int (103 : Int32), .int (105 : Int32), .int (110 : Int32)]) (rest := [.ref p0]) 5 (show decode _ _ = .ok (.invokestatic 128, 3) by decide +kernel) cs_X11_128 rfl (Nat.le_of_ble_eq_true rfl) (s_X11_w5 (d := d) (hd_le hd (by decide)) h_40) (by decide) (by decide) (kJ (bc' := 0) (bs' := 0) (by decide) (by decide) (fun x72 M71 h_41 => ?_))
                      obtain ⟨⟨hr75, n74, hs76⟩, h_42⟩ := h_41
                      refine fw_callV (mt' := mtX11_isWord) (mc := 0) (ms := 0) (As := [.long x72]) (rest := []) 1 11 n74 (show decode _ _ = .ok (.invokevirtual 196, 3) by decide +kernel) cv_X11_196 ⟨_, rfl, rfl⟩ hr75 hs76 rfl (Nat.le_of_ble_eq_true rfl) (s_X11_isWord (d := d) (hd_le hd (by decide)) h_42) (by decide) (by decide) (kI (bc' := 0) (bs' := 0) (by decide) (by decide) (fun x77 M73 h_43 => ?_))
                      refine fw_if_eq 229 (show decode _ _ = .ok (.ifCond .eq 6, 3) by decide +kernel) (by decide) (fun hc126 => ?_) (fun hc126 => ?_)
                      · have h_44 := ipos hc126 h_43
                        refine fw_aload_n (i := 0) 0 rfl (show decode _ _ = .ok (.aload_n 0, 1) by decide +kernel) ?_
                        refine fw_bipush (v := (108 : Int32)) (show decode _ _ = .ok (.bipush 108, 2) by decide +kernel) (by decide) ?_
                        refine fw_bipush (v := (111 : Int32)) (show decode _ _ = .ok (.bipush 111, 2) by decide +kernel) (by decide) ?_
                        refine fw_bipush (v := (97 : Int32)) (show decode _ _ = .ok (.bipush 97, 2) by decide +kernel) (by decide) ?_
                        refine fw_bipush (v := (100 : Int32)) (show decode _ _ = .ok (.bipush 100, 2) by decide +kernel) (by decide) ?_
                        refine fw_callS (mt' := mtX11_w4) (mc := 0) (ms := 0) (As := [.int (108 : Int32), .int (111 : Int32), .int (97 : Int32), .int (100 : Int32)]) (rest := [.ref p0]) 4 (show decode _ _ = .ok (.invokestatic 145, 3) by decide +kernel) cs_X11_145 rfl (Nat.le_of_ble_eq_true rfl) (s_X11_w4 (d := d) (hd_le hd (by decide)) h_44) (by decide) (by decide) (kJ (bc' := 0) (bs' := 0) (by decide) (by decide) (fun x79 M78 h_45 => ?_))
                        obtain ⟨⟨hr82, n81, hs83⟩, h_46⟩ := h_45
                        refine fw_callV (mt' := mtX11_isWord) (mc := 0) (ms := 0) (As := [.long x79]) (rest := []) 1 11 n81 (show decode _ _ = .ok (.invokevirtual 196, 3) by decide +kernel) cv_X11_196 ⟨_, rfl, rfl⟩ hr82 hs83 rfl (Nat.le_of_ble_eq_true rfl) (s_X11_isWord (d := d) (hd_le hd (by decide)) h_46) (by decide) (by decide) (kI (bc' := 0) (bs' := 0) (by decide) (by decide) (fun x84 M80 h_47 => ?_))
                        refine fw_if_eq 250 (show decode _ _ = .ok (.ifCond .eq 6, 3) by decide +kernel) (by decide) (fun hc125 => ?_) (fun hc125 => ?_)
                        · have h_48 := ipos hc125 h_47
                          refine fw_aload_n (i := 0) 0 rfl (show decode _ _ = .ok (.aload_n 0, 1) by decide +kernel) ?_
                          refine fw_bipush (v := (100 : Int32)) (show decode _ _ = .ok (.bipush 100, 2) by decide +kernel) (by decide) ?_
                          refine fw_bipush (v := (114 : Int32)) (show decode _ _ = .ok (.bipush 114, 2) by decide +kernel) (by decide) ?_
                          refine fw_bipush (v := (105 : Int32)) (show decode _ _ = .ok (.bipush 105, 2) by decide +kernel) (by decide) ?_
                          refine fw_bipush (v := (110 : Int32)) (show decode _ _ = .ok (.bipush 110, 2) by decide +kernel) (by decide) ?_
                          refine fw_bipush (v := (107 : Int32)) (show decode _ _ = .ok (.bipush 107, 2) by decide +kernel) (by decide) ?_
                          refine fw_callS (mt' := mtX11_w5) (mc := 0) (ms := 0) (As := [.int (100 : Int32), .int (114 : Int32), .int (105 : Int32), .int (110 : Int32), .int (107 : Int32)]) (rest := [.ref p0]) 5 (show decode _ _ = .ok (.invokestatic 128, 3) by decide +kernel) cs_X11_128 rfl (Nat.le_of_ble_eq_true rfl) (s_X11_w5 (d := d) (hd_le hd (by decide)) h_48) (by decide) (by decide) (kJ (bc' := 0) (bs' := 0) (by decide) (by decide) (fun x86 M85 h_49 => ?_))
                          obtain ⟨⟨hr89, n88, hs90⟩, h_50⟩ := h_49
                          refine fw_callV (mt' := mtX11_isWord) (mc := 0) (ms := 0) (As := [.long x86]) (rest := []) 1 11 n88 (show decode _ _ = .ok (.invokevirtual 196, 3) by decide +kernel) cv_X11_196 ⟨_, rfl, rfl⟩ hr89 hs90 rfl (Nat.le_of_ble_eq_true rfl) (s_X11_isWord (d := d) (hd_le hd (by decide)) h_50) (by decide) (by decide) (kI (bc' := 0) (bs' := 0) (by decide) (by decide) (fun x91 M87 h_51 => ?_))
                          refine fw_if_eq 273 (show decode _ _ = .ok (.ifCond .eq 6, 3) by decide +kernel) (by decide) (fun hc124 => ?_) (fun hc124 => ?_)
                          · have h_52 := ipos hc124 h_51
                            refine fw_aload_n (i := 0) 0 rfl (show decode _ _ = .ok (.aload_n 0, 1) by decide +kernel) ?_
                            refine fw_bipush (v := (115 : Int32)) (show decode _ _ = .ok (.bipush 115, 2) by decide +kernel) (by decide) ?_
                            refine fw_bipush (v := (116 : Int32)) (show decode _ _ = .ok (.bipush 116, 2) by decide +kernel) (by decide) ?_
                            refine fw_bipush (v := (101 : Int32)) (show decode _ _ = .ok (.bipush 101, 2) by decide +kernel) (by decide) ?_
                            refine fw_bipush (v := (112 : Int32)) (show decode _ _ = .ok (.bipush 112, 2) by decide +kernel) (by decide) ?_
                            refine fw_callS (mt' := mtX11_w4) (mc := 0) (ms := 0) (As := [.int (115 : Int32), .int (116 : Int32), .int (101 : Int32), .int (112 : Int32)]) (rest := [.ref p0]) 4 (show decode _ _ = .ok (.invokestatic 145, 3) by decide +kernel) cs_X11_145 rfl (Nat.le_of_ble_eq_true rfl) (s_X11_w4 (d := d) (hd_le hd (by decide)) h_52) (by decide) (by decide) (kJ (bc' := 0) (bs' := 0) (by decide) (by decide) (fun x93 M92 h_53 => ?_))
                            obtain ⟨⟨hr96, n95, hs97⟩, h_54⟩ := h_53
                            refine fw_callV (mt' := mtX11_isWord) (mc := 0) (ms := 0) (As := [.long x93]) (rest := []) 1 11 n95 (show decode _ _ = .ok (.invokevirtual 196, 3) by decide +kernel) cv_X11_196 ⟨_, rfl, rfl⟩ hr96 hs97 rfl (Nat.le_of_ble_eq_true rfl) (s_X11_isWord (d := d) (hd_le hd (by decide)) h_54) (by decide) (by decide) (kI (bc' := 0) (bs' := 0) (by decide) (by decide) (fun x98 M94 h_55 => ?_))
                            refine fw_if_eq 294 (show decode _ _ = .ok (.ifCond .eq 6, 3) by decide +kernel) (by decide) (fun hc123 => ?_) (fun hc123 => ?_)
                            · have h_56 := ipos hc123 h_55
                              refine fw_aload_n (i := 0) 0 rfl (show decode _ _ = .ok (.aload_n 0, 1) by decide +kernel) ?_
                              refine fw_bipush (v := (116 : Int32)) (show decode _ _ = .ok (.bipush 116, 2) by decide +kernel) (by decide) ?_
                              refine fw_bipush (v := (111 : Int32)) (show decode _ _ = .ok (.bipush 111, 2) by decide +kernel) (by decide) ?_
                              refine fw_bipush (v := (101 : Int32)) (show decode _ _ = .ok (.bipush 101, 2) by decide +kernel) (by decide) ?_
                              refine fw_callS (mt' := mtX11_w3) (mc := 0) (ms := 0) (As := [.int (116 : Int32), .int (111 : Int32), .int (101 : Int32)]) (rest := [.ref p0]) 3 (show decode _ _ = .ok (.invokestatic 124, 3) by decide +kernel) cs_X11_124 rfl (Nat.le_of_ble_eq_true rfl) (s_X11_w3 (d := d) (hd_le hd (by decide)) h_56) (by decide) (by decide) (kJ (bc' := 0) (bs' := 0) (by decide) (by decide) (fun x100 M99 h_57 => ?_))
                              obtain ⟨⟨hr103, n102, hs104⟩, h_58⟩ := h_57
                              refine fw_callV (mt' := mtX11_isWord) (mc := 0) (ms := 0) (As := [.long x100]) (rest := []) 1 11 n102 (show decode _ _ = .ok (.invokevirtual 196, 3) by decide +kernel) cv_X11_196 ⟨_, rfl, rfl⟩ hr103 hs104 rfl (Nat.le_of_ble_eq_true rfl) (s_X11_isWord (d := d) (hd_le hd (by decide)) h_58) (by decide) (by decide) (kI (bc' := 0) (bs' := 0) (by decide) (by decide) (fun x105 M101 h_59 => ?_))
                              refine fw_if_eq 313 (show decode _ _ = .ok (.ifCond .eq 6, 3) by decide +kernel) (by decide) (fun hc122 => ?_) (fun hc122 => ?_)
                              · have h_60 := ipos hc122 h_59
                                refine fw_aload_n (i := 0) 0 rfl (show decode _ _ = .ok (.aload_n 0, 1) by decide +kernel) ?_
                                refine fw_bipush (v := (115 : Int32)) (show decode _ _ = .ok (.bipush 115, 2) by decide +kernel) (by decide) ?_
                                refine fw_bipush (v := (116 : Int32)) (show decode _ _ = .ok (.bipush 116, 2) by decide +kernel) (by decide) ?_
                                refine fw_bipush (v := (111 : Int32)) (show decode _ _ = .ok (.bipush 111, 2) by decide +kernel) (by decide) ?_
                                refine fw_bipush (v := (112 : Int32)) (show decode _ _ = .ok (.bipush 112, 2) by decide +kernel) (by decide) ?_
                                refine fw_callS (mt' := mtX11_w4) (mc := 0) (ms := 0) (As := [.int (115 : Int32), .int (116 : Int32), .int (111 : Int32), .int (112 : Int32)]) (rest := [.ref p0]) 4 (show decode _ _ = .ok (.invokestatic 145, 3) by decide +kernel) cs_X11_145 rfl (Nat.le_of_ble_eq_true rfl) (s_X11_w4 (d := d) (hd_le hd (by decide)) h_60) (by decide) (by decide) (kJ (bc' := 0) (bs' := 0) (by decide) (by decide) (fun x107 M106 h_61 => ?_))
                                obtain ⟨⟨hr110, n109, hs111⟩, h_62⟩ := h_61
                                refine fw_callV (mt' := mtX11_isWord) (mc := 0) (ms := 0) (As := [.long x107]) (rest := []) 1 11 n109 (show decode _ _ = .ok (.invokevirtual 196, 3) by decide +kernel) cv_X11_196 ⟨_, rfl, rfl⟩ hr110 hs111 rfl (Nat.le_of_ble_eq_true rfl) (s_X11_isWord (d := d) (hd_le hd (by decide)) h_62) (by decide) (by decide) (kI (bc' := 0) (bs' := 0) (by decide) (by decide) (fun x112 M108 h_63 => ?_))
                                refine fw_if_eq 336 (show decode _ _ = .ok (.ifCond .eq 8, 3) by decide +kernel) (by decide) (fun hc121 => ?_) (fun hc121 => ?_)
                                · have h_64 := ipos hc121 h_63
                                  refine fw_aload_n (i := 0) 0 rfl (show decode _ _ = .ok (.aload_n 0, 1) by decide +kernel) ?_
                                  refine fw_bipush (v := (110 : Int32)) (show decode _ _ = .ok (.bipush 110, 2) by decide +kernel) (by decide) ?_
                                  refine fw_bipush (v := (105 : Int32)) (show decode _ _ = .ok (.bipush 105, 2) by decide +kernel) (by decide) ?_
                                  refine fw_bipush (v := (103 : Int32)) (show decode _ _ = .ok (.bipush 103, 2) by decide +kernel) (by decide) ?_
                                  refine fw_bipush (v := (104 : Int32)) (show decode _ _ = .ok (.bipush 104, 2) by decide +kernel) (by decide) ?_
                                  refine fw_bipush (v := (116 : Int32)) (show decode _ _ = .ok (.bipush 116, 2) by decide +kernel) (by decide) ?_
                                  refine fw_callS (mt' := mtX11_w5) (mc := 0) (ms := 0) (As := [.int (110 : Int32), .int (105 : Int32), .int (103 : Int32), .int (104 : Int32), .int (116 : Int32)]) (rest := [.ref p0]) 5 (show decode _ _ = .ok (.invokestatic 128, 3) by decide +kernel) cs_X11_128 rfl (Nat.le_of_ble_eq_true rfl) (s_X11_w5 (d := d) (hd_le hd (by decide)) h_64) (by decide) (by decide) (kJ (bc' := 0) (bs' := 0) (by decide) (by decide) (fun x114 M113 h_65 => ?_))
                                  obtain ⟨⟨hr117, n116, hs118⟩, h_66⟩ := h_65
                                  refine fw_callV (mt' := mtX11_isWord) (mc := 0) (ms := 0) (As := [.long x114]) (rest := []) 1 11 n116 (show decode _ _ = .ok (.invokevirtual 196, 3) by decide +kernel) cv_X11_196 ⟨_, rfl, rfl⟩ hr117 hs118 rfl (Nat.le_of_ble_eq_true rfl) (s_X11_isWord (d := d) (hd_le hd (by decide)) h_66) (by decide) (by decide) (kI (bc' := 0) (bs' := 0) (by decide) (by decide) (fun x119 M115 h_67 => ?_))
                                  refine fw_if_eq 361 (show decode _ _ = .ok (.ifCond .eq 8, 3) by decide +kernel) (by decide) (fun hc120 => ?_) (fun hc120 => ?_)
                                  · have h_68 := ipos hc120 h_67
                                    refine fw_iconst (v := (-1 : Int32)) (show decode _ _ = .ok (.iconst (-1), 1) by decide +kernel) (by decide) ?_
                                    exact fw_ret (v := some (.int (-1 : Int32))) .ireturn (show decode _ _ = .ok (.ireturn, 1) by decide +kernel) ⟨rfl, Or.inl rfl⟩ ⟨_, rfl, h_68⟩
                                  · have h_69 := ineg hc120 h_67
                                    refine fw_bipush (v := (16 : Int32)) (show decode _ _ = .ok (.bipush 16, 2) by decide +kernel) (by decide) ?_
                                    refine fw_goto 362 (show decode _ _ = .ok (.goto 4, 3) by decide +kernel) (by decide) ?_
                                    exact fw_ret (v := some (.int (16 : Int32))) .ireturn (show decode _ _ = .ok (.ireturn, 1) by decide +kernel) ⟨rfl, Or.inl rfl⟩ ⟨_, rfl, h_69⟩
                                · have h_70 := ineg hc121 h_63
                                  refine fw_bipush (v := (15 : Int32)) (show decode _ _ = .ok (.bipush 15, 2) by decide +kernel) (by decide) ?_
                                  refine fw_goto 362 (show decode _ _ = .ok (.goto 29, 3) by decide +kernel) (by decide) ?_
                                  exact fw_ret (v := some (.int (15 : Int32))) .ireturn (show decode _ _ = .ok (.ireturn, 1) by decide +kernel) ⟨rfl, Or.inl rfl⟩ ⟨_, rfl, h_70⟩
                              · have h_71 := ineg hc122 h_59
                                refine fw_bipush (v := (14 : Int32)) (show decode _ _ = .ok (.bipush 14, 2) by decide +kernel) (by decide) ?_
                                exact fw_ret (v := some (.int (14 : Int32))) .ireturn (show decode _ _ = .ok (.ireturn, 1) by decide +kernel) ⟨rfl, Or.inl rfl⟩ ⟨_, rfl, h_71⟩
                            · have h_72 := ineg hc123 h_55
                              refine fw_bipush (v := (13 : Int32)) (show decode _ _ = .ok (.bipush 13, 2) by decide +kernel) (by decide) ?_
                              exact fw_ret (v := some (.int (13 : Int32))) .ireturn (show decode _ _ = .ok (.ireturn, 1) by decide +kernel) ⟨rfl, Or.inl rfl⟩ ⟨_, rfl, h_72⟩
                          · have h_73 := ineg hc124 h_51
                            refine fw_bipush (v := (12 : Int32)) (show decode _ _ = .ok (.bipush 12, 2) by decide +kernel) (by decide) ?_
                            exact fw_ret (v := some (.int (12 : Int32))) .ireturn (show decode _ _ = .ok (.ireturn, 1) by decide +kernel) ⟨rfl, Or.inl rfl⟩ ⟨_, rfl, h_73⟩
                        · have h_74 := ineg hc125 h_47
                          refine fw_bipush (v := (11 : Int32)) (show decode _ _ = .ok (.bipush 11, 2) by decide +kernel) (by decide) ?_
                          exact fw_ret (v := some (.int (11 : Int32))) .ireturn (show decode _ _ = .ok (.ireturn, 1) by decide +kernel) ⟨rfl, Or.inl rfl⟩ ⟨_, rfl, h_74⟩
                      · have h_75 := ineg hc126 h_43
                        refine fw_bipush (v := (10 : Int32)) (show decode _ _ = .ok (.bipush 10, 2) by decide +kernel) (by decide) ?_
                        exact fw_ret (v := some (.int (10 : Int32))) .ireturn (show decode _ _ = .ok (.ireturn, 1) by decide +kernel) ⟨rfl, Or.inl rfl⟩ ⟨_, rfl, h_75⟩
                    · have h_76 := ineg hc127 h_39
                      refine fw_bipush (v := (9 : Int32)) (show decode _ _ = .ok (.bipush 9, 2) by decide +kernel) (by decide) ?_
                      exact fw_ret (v := some (.int (9 : Int32))) .ireturn (show decode _ _ = .ok (.ireturn, 1) by decide +kernel) ⟨rfl, Or.inl rfl⟩ ⟨_, rfl, h_76⟩
                  · have h_77 := ineg hc128 h_35
                    refine fw_bipush (v := (8 : Int32)) (show decode _ _ = .ok (.bipush 8, 2) by decide +kernel) (by decide) ?_
                    exact fw_ret (v := some (.int (8 : Int32))) .ireturn (show decode _ _ = .ok (.ireturn, 1) by decide +kernel) ⟨rfl, Or.inl rfl⟩ ⟨_, rfl, h_77⟩
                · have h_78 := ineg hc129 h_31
                  refine fw_bipush (v := (7 : Int32)) (show decode _ _ = .ok (.bipush 7, 2) by decide +kernel) (by decide) ?_
                  exact fw_ret (v := some (.int (7 : Int32))) .ireturn (show decode _ _ = .ok (.ireturn, 1) by decide +kernel) ⟨rfl, Or.inl rfl⟩ ⟨_, rfl, h_78⟩
              · have h_79 := ineg hc130 h_27
                refine fw_bipush (v := (6 : Int32)) (show decode _ _ = .ok (.bipush 6, 2) by decide +kernel) (by decide) ?_
                exact fw_ret (v := some (.int (6 : Int32))) .ireturn (show decode _ _ = .ok (.ireturn, 1) by decide +kernel) ⟨rfl, Or.inl rfl⟩ ⟨_, rfl, h_79⟩
            · have h_80 := ineg hc131 h_23
              refine fw_iconst (v := (5 : Int32)) (show decode _ _ = .ok (.iconst 5, 1) by decide +kernel) (by decide) ?_
              exact fw_ret (v := some (.int (5 : Int32))) .ireturn (show decode _ _ = .ok (.ireturn, 1) by decide +kernel) ⟨rfl, Or.inl rfl⟩ ⟨_, rfl, h_80⟩
          · have h_81 := ineg hc132 h_19
            refine fw_iconst (v := (4 : Int32)) (show decode _ _ = .ok (.iconst 4, 1) by decide +kernel) (by decide) ?_
            exact fw_ret (v := some (.int (4 : Int32))) .ireturn (show decode _ _ = .ok (.ireturn, 1) by decide +kernel) ⟨rfl, Or.inl rfl⟩ ⟨_, rfl, h_81⟩
        · have h_82 := ineg hc133 h_15
          refine fw_iconst (v := (3 : Int32)) (show decode _ _ = .ok (.iconst 3, 1) by decide +kernel) (by decide) ?_
          exact fw_ret (v := some (.int (3 : Int32))) .ireturn (show decode _ _ = .ok (.ireturn, 1) by decide +kernel) ⟨rfl, Or.inl rfl⟩ ⟨_, rfl, h_82⟩
      · have h_83 := ineg hc134 h_11
        refine fw_iconst (v := (2 : Int32)) (show decode _ _ = .ok (.iconst 2, 1) by decide +kernel) (by decide) ?_
        exact fw_ret (v := some (.int (2 : Int32))) .ireturn (show decode _ _ = .ok (.ireturn, 1) by decide +kernel) ⟨rfl, Or.inl rfl⟩ ⟨_, rfl, h_83⟩
    · have h_84 := ineg hc135 h_7
      refine fw_iconst (v := (1 : Int32)) (show decode _ _ = .ok (.iconst 1, 1) by decide +kernel) (by decide) ?_
      exact fw_ret (v := some (.int (1 : Int32))) .ireturn (show decode _ _ = .ok (.ireturn, 1) by decide +kernel) ⟨rfl, Or.inl rfl⟩ ⟨_, rfl, h_84⟩
  · have h_85 := ineg hc136 h_3
    refine fw_iconst (v := (0 : Int32)) (show decode _ _ = .ok (.iconst 0, 1) by decide +kernel) (by decide) ?_
    exact fw_ret (v := some (.int (0 : Int32))) .ireturn (show decode _ _ = .ok (.ireturn, 1) by decide +kernel) ⟨rfl, Or.inl rfl⟩ ⟨_, rfl, h_85⟩
