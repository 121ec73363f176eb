def w_X11_tripsAt (p0 : Nat) (p1 : Int32) (p2 : Int32) (p3 : Int32) (p4 : Int32) (M : fM) (φ : Int32 → fM → Prop) : Prop := isO M p0 11 ∧ dR (mP M p0 0) fun y4 => inA M y4 12 (4 : Int32) ∧ w_X11_heightOf p0 p2 p4 M fun x10 M9 => isO M9 p0 11 ∧ w_X11_heightOf p0 p2 (p4 - (1 : Int32)) M9 fun x15 M11 => isO M11 p0 11 ∧ w_X11_tripsBy p0 (mI M y4 (ix (4 : Int32))) p1 p2 p3 p4 x10 x15 M11 fun x20 M16 => isB x20 ∧ φ x20 M16
set_option maxRecDepth 100000 in
theorem s_X11_tripsAt {g : GT} {d : Nat} (hd : 5 ≤ d) {p0 : Nat} {p1 : Int32} {p2 : Int32} {p3 : Int32} {p4 : Int32} {M : fM} {φ : Int32 → fM → Prop} (h : w_X11_tripsAt p0 p1 p2 p3 p4 M φ) : FC g mtX11_tripsAt d [.ref p0, .int p1, .int p2, .int p3, .int p4] M 0 0 (rI φ) := by
  obtain ⟨d, rfl⟩ : ∃ e, d = e + 1 := ⟨d - 1, by omega⟩
  unfold w_X11_tripsAt at h
  refine FC.intro (nL := 5) (by decide) rfl (Nat.le_of_ble_eq_true rfl) ?_
  show FW g mtX11_tripsAt (d + 1) 0 [(0, .ref p0), (1, .int p1), (2, .int p2), (3, .int p3), (4, .int p4)] [] M 0 0 (rI φ)
  refine fw_aload_n (i := 0) 0 rfl (show decode _ _ = .ok (.aload_n 0, 1) by decide +kernel) ?_
  refine fw_aload_n (i := 0) 0 rfl (show decode _ _ = .ok (.aload_n 0, 1) by decide +kernel) ?_
  obtain ⟨⟨hr2, n1, hs3⟩, h_1⟩ := h
  refine fw_getP (kd := 11) (k := 0) (show decode _ _ = .ok (.getfield 7, 3) by decide +kernel) gf_X11_7 hr2 hs3 rfl ?_
  have h_2 := dR_e h_1
  obtain ⟨y4, hy5, h_3⟩ := h_2
  refine fw_deref hy5 ?_
  refine fw_iconst (v := (4 : Int32)) (show decode _ _ = .ok (.iconst 4, 1) by decide +kernel) (by decide) ?_
  obtain ⟨⟨n6, hs7, hi8⟩, h_4⟩ := h_3
  refine fw_iald (show decode _ _ = .ok (.iaload, 1) by decide +kernel) hs7 hi8 ?_
  refine fw_iload_n (i := 1) 1 rfl (show decode _ _ = .ok (.iload_n 1, 1) by decide +kernel) ?_
  refine fw_iload_n (i := 2) 2 rfl (show decode _ _ = .ok (.iload_n 2, 1) by decide +kernel) ?_
  refine fw_iload_n (i := 3) 3 rfl (show decode _ _ = .ok (.iload_n 3, 1) by decide +kernel) ?_
  refine fw_iload (i := 4) 4 rfl (show decode _ _ = .ok (.iload 4, 2) by decide +kernel) ?_
  refine fw_aload_n (i := 0) 0 rfl (show decode _ _ = .ok (.aload_n 0, 1) by decide +kernel) ?_
  refine fw_iload_n (i := 2) 2 rfl (show decode _ _ = .ok (.iload_n 2, 1) by decide +kernel) ?_
  refine fw_iload (i := 4) 4 rfl (show decode _ _ = .ok (.iload 4, 2) by decide +kernel) ?_
  refine fw_callV (mt' := mtX11_heightOf) (mc := 0) (ms := 0) (As := [.int p2, .int p4]) (rest := [.int p4, .int p3, .int p2, .int p1, .int (mI M y4 (ix (4 : Int32))), .ref p0]) 2 11 n1 (show decode _ _ = .ok (.invokevirtual 300, 3) by decide +kernel) cv_X11_300 ⟨_, rfl, rfl⟩ hr2 hs3 rfl (Nat.le_of_ble_eq_true rfl) (s_X11_heightOf (d := d) (hd_le hd (by decide)) h_4) (by decide) (by decide) (kI (bc' := 0) (bs' := 0) (by decide) (by decide) (fun x10 M9 h_5 => ?_))
  refine fw_aload_n (i := 0) 0 rfl (show decode _ _ = .ok (.aload_n 0, 1) by decide +kernel) ?_
  refine fw_iload_n (i := 2) 2 rfl (show decode _ _ = .ok (.iload_n 2, 1) by decide +kernel) ?_
  refine fw_iload (i := 4) 4 rfl (show decode _ _ = .ok (.iload 4, 2) by decide +kernel) ?_
  refine fw_iconst (v := (1 : Int32)) (show decode _ _ = .ok (.iconst 1, 1) by decide +kernel) (by decide) ?_
  refine fw_isub (show decode _ _ = .ok (.isub, 1) by decide +kernel) ?_
  obtain ⟨⟨hr13, n12, hs14⟩, h_6⟩ := h_5
  refine fw_callV (mt' := mtX11_heightOf) (mc := 0) (ms := 0) (As := [.int p2, .int (p4 - (1 : Int32))]) (rest := [.int x10, .int p4, .int p3, .int p2, .int p1, .int (mI M y4 (ix (4 : Int32))), .ref p0]) 2 11 n12 (show decode _ _ = .ok (.invokevirtual 300, 3) by decide +kernel) cv_X11_300 ⟨_, rfl, rfl⟩ hr13 hs14 rfl (Nat.le_of_ble_eq_true rfl) (s_X11_heightOf (d := d) (hd_le hd (by decide)) h_6) (by decide) (by decide) (kI (bc' := 0) (bs' := 0) (by decide) (by decide) (fun x15 M11 h_7 => ?_))
  obtain ⟨⟨hr18, n17, hs19⟩, h_8⟩ := h_7
  refine fw_callV (mt' := mtX11_tripsBy) (mc := 0) (ms := 0) (As := [.int (mI M y4 (ix (4 : Int32))), .int p1, .int p2, .int p3, .int p4, .int x10, .int x15]) (rest := []) 7 11 n17 (show decode _ _ = .ok (.invokevirtual 318, 3) by decide +kernel) cv_X11_318 ⟨_, rfl, rfl⟩ hr18 hs19 rfl (Nat.le_of_ble_eq_true rfl) (s_X11_tripsBy (d := d) (hd_le hd (by decide)) h_8) (by decide) (by decide) (kI (bc' := 0) (bs' := 0) (by decide) (by decide) (fun x20 M16 h_9 => ?_))
  obtain ⟨hbb, h_10⟩ := h_9
  exact fw_ret (v := some (.int x20)) .ireturn (show decode _ _ = .ok (.ireturn, 1) by decide +kernel) ⟨rfl, Or.inr (Or.inl ⟨rfl, hbb⟩)⟩ ⟨_, rfl, h_10⟩
def w_X11_fallOf (p0 : Nat) (p1 : Int32) (p2 : Int32) (p3 : Int32) (M : fM) (φ : Int32 → fM → Prop) : Prop := isO M p0 11 ∧ w_X11_name p0 p1 p2 p3 M fun M1 => isO M1 p0 11 ∧ w_X11_sumBy p0 (4 : Int32) (9 : Int32) (99 : Int32) M1 fun x9 M5 => φ x9 M5
set_option maxRecDepth 100000 in
theorem s_X11_fallOf {g : GT} {d : Nat} (hd : 5 ≤ d) {p0 : Nat} {p1 : Int32} {p2 : Int32} {p3 : Int32} {M : fM} {φ : Int32 → fM → Prop} (h : w_X11_fallOf p0 p1 p2 p3 M φ) : FC g mtX11_fallOf d [.ref p0, .int p1, .int p2, .int p3] M 0 0 (rI φ) := by
  obtain ⟨d, rfl⟩ : ∃ e, d = e + 1 := ⟨d - 1, by omega⟩
  unfold w_X11_fallOf at h
  refine FC.intro (nL := 4) (by decide) rfl (Nat.le_of_ble_eq_true rfl) ?_
  show FW g mtX11_fallOf (d + 1) 0 [(0, .ref p0), (1, .int p1), (2, .int p2), (3, .int p3)] [] M 0 0 (rI φ)
  refine fw_aload_n (i := 0) 0 rfl (show decode _ _ = .ok (.aload_n 0, 1) by decide +kernel) ?_
  refine fw_iload_n (i := 1) 1 rfl (show decode _ _ = .ok (.iload_n 1, 1) by decide +kernel) ?_
  refine fw_iload_n (i := 2) 2 rfl (show decode _ _ = .ok (.iload_n 2, 1) by decide +kernel) ?_
  refine fw_iload_n (i := 3) 3 rfl (show decode _ _ = .ok (.iload_n 3, 1) by decide +kernel) ?_
  obtain ⟨⟨hr3, n2, hs4⟩, h_1⟩ := h
  refine fw_callV (mt' := mtX11_name) (mc := 0) (ms := 0) (As := [.int p1, .int p2, .int p3]) (rest := []) 3 11 n2 (show decode _ _ = .ok (.invokevirtual 296, 3) by decide +kernel) cv_X11_296 ⟨_, rfl, rfl⟩ hr3 hs4 rfl (Nat.le_of_ble_eq_true rfl) (s_X11_name (d := d) (hd_le hd (by decide)) h_1) (by decide) (by decide) (kV (bc' := 0) (bs' := 0) (by decide) (by decide) (fun M1 h_2 => ?_))
  refine fw_aload_n (i := 0) 0 rfl (show decode _ _ = .ok (.aload_n 0, 1) by decide +kernel) ?_
  refine fw_iconst (v := (4 : Int32)) (show decode _ _ = .ok (.iconst 4, 1) by decide +kernel) (by decide) ?_
  refine fw_bipush (v := (9 : Int32)) (show decode _ _ = .ok (.bipush 9, 2) by decide +kernel) (by decide) ?_
  refine fw_bipush (v := (99 : Int32)) (show decode _ _ = .ok (.bipush 99, 2) by decide +kernel) (by decide) ?_
  obtain ⟨⟨hr7, n6, hs8⟩, h_3⟩ := h_2
  refine fw_callV (mt' := mtX11_sumBy) (mc := 0) (ms := 0) (As := [.int (4 : Int32), .int (9 : Int32), .int (99 : Int32)]) (rest := []) 3 11 n6 (show decode _ _ = .ok (.invokevirtual 311, 3) by decide +kernel) cv_X11_311 ⟨_, rfl, rfl⟩ hr7 hs8 rfl (Nat.le_of_ble_eq_true rfl) (s_X11_sumBy (d := d) (hd_le hd (by decide)) h_3) (by decide) (by decide) (kI (bc' := 0) (bs' := 0) (by decide) (by decide) (fun x9 M5 h_4 => ?_))
  exact fw_ret (v := some (.int x9)) .ireturn (show decode _ _ = .ok (.ireturn, 1) by decide +kernel) ⟨rfl, Or.inl rfl⟩ ⟨_, rfl, h_4⟩
def w_X11_nameAt (p0 : Nat) (p1 : Int32) (p2 : Int32) (p3 : Int32) (p4 : Int32) (M : fM) (φ : fM → Prop) : Prop := isO M p0 11 ∧ w_X11_name p0 p1 p2 p3 M fun M1 => isO M1 p0 11 ∧ w_X11_heightOf p0 p2 p4 M1 fun x9 M5 => isO M5 p0 11 ∧ w_X11_heightOf p0 p2 (p4 - (1 : Int32)) M5 fun x14 M10 => isO M10 p0 11 ∧ w_X11_nameStep p0 p2 p3 p4 x9 x14 M10 fun M15 => φ M15
set_option maxRecDepth 100000 in
theorem s_X11_nameAt {g : GT} {d : Nat} (hd : 3 ≤ d) {p0 : Nat} {p1 : Int32} {p2 : Int32} {p3 : Int32} {p4 : Int32} {M : fM} {φ : fM → Prop} (h : w_X11_nameAt p0 p1 p2 p3 p4 M φ) : FC g mtX11_nameAt d [.ref p0, .int p1, .int p2, .int p3, .int p4] M 0 0 (rV φ) := by
  obtain ⟨d, rfl⟩ : ∃ e, d = e + 1 := ⟨d - 1, by omega⟩
  unfold w_X11_nameAt at h
  refine FC.intro (nL := 5) (by decide) rfl (Nat.le_of_ble_eq_true rfl) ?_
  show FW g mtX11_nameAt (d + 1) 0 [(0, .ref p0), (1, .int p1), (2, .int p2), (3, .int p3), (4, .int p4)] [] M 0 0 (rV φ)
  refine fw_aload_n (i := 0) 0 rfl (show decode _ _ = .ok (.aload_n 0, 1) by decide +kernel) ?_
  refine fw_iload_n (i := 1) 1 rfl (show decode _ _ = .ok (.iload_n 1, 1) by decide +kernel) ?_
  refine fw_iload_n (i := 2) 2 rfl (show decode _ _ = .ok (.iload_n 2, 1) by decide +kernel) ?_
  refine fw_iload_n (i := 3) 3 rfl (show decode _ _ = .ok (.iload_n 3, 1) by decide +kernel) ?_
  obtain ⟨⟨hr3, n2, hs4⟩, h_1⟩ := h
  refine fw_callV (mt' := mtX11_name) (mc := 0) (ms := 0) (As := [.int p1, .int p2, .int p3]) (rest := []) 3 11 n2 (show decode _ _ = .ok (.invokevirtual 296, 3) by decide +kernel) cv_X11_296 ⟨_, rfl, rfl⟩ hr3 hs4 rfl (Nat.le_of_ble_eq_true rfl) (s_X11_name (d := d) (hd_le hd (by decide)) h_1) (by decide) (by decide) (kV (bc' := 0) (bs' := 0) (by decide) (by decide) (fun M1 h_2 => ?_))
  refine fw_aload_n (i := 0) 0 rfl (show decode _ _ = .ok (.aload_n 0, 1) by decide +kernel) ?_
  refine fw_iload_n (i := 2) 2 rfl (show decode _ _ = .ok (.iload_n 2, 1) by decide +kernel) ?_
  refine fw_iload_n (i := 3) 3 rfl (show decode _ _ = .ok (.iload_n 3, 1) by decide +kernel) ?_
  refine fw_iload (i := 4) 4 rfl (show decode _ _ = .ok (.iload 4, 2) by decide +kernel) ?_
  refine fw_aload_n (i := 0) 0 rfl (show decode _ _ = .ok (.aload_n 0, 1) by decide +kernel) ?_
  refine fw_iload_n (i := 2) 2 rfl (show decode _ _ = .ok (.iload_n 2, 1) by decide +kernel) ?_
  refine fw_iload (i := 4) 4 rfl (show decode _ _ = .ok (.iload 4, 2) by decide +kernel) ?_
  obtain ⟨⟨hr7, n6, hs8⟩, h_3⟩ := h_2
  refine fw_callV (mt' := mtX11_heightOf) (mc := 0) (ms := 0) (As := [.int p2, .int p4]) (rest := [.int p4, .int p3, .int p2, .ref p0]) 2 11 n6 (show decode _ _ = .ok (.invokevirtual 300, 3) by decide +kernel) cv_X11_300 ⟨_, rfl, rfl⟩ hr7 hs8 rfl (Nat.le_of_ble_eq_true rfl) (s_X11_heightOf (d := d) (hd_le hd (by decide)) h_3) (by decide) (by decide) (kI (bc' := 0) (bs' := 0) (by decide) (by decide) (fun x9 M5 h_4 => ?_))
  refine fw_aload_n (i := 0) 0 rfl (show decode _ _ = .ok (.aload_n 0, 1) by decide +kernel) ?_
  refine fw_iload_n (i := 2) 2 rfl (show decode _ _ = .ok (.iload_n 2, 1) by decide +kernel) ?_
  refine fw_iload (i := 4) 4 rfl (show decode _ _ = .ok (.iload 4, 2) by decide +kernel) ?_
  refine fw_iconst (v := (1 : Int32)) (show decode _ _ = .ok (.iconst 1, 1) by decide +kernel) (by decide) ?_
  refine fw_isub (show decode _ _ = .ok (.isub, 1) by decide +kernel) ?_
  obtain ⟨⟨hr12, n11, hs13⟩, h_5⟩ := h_4
  refine fw_callV (mt' := mtX11_heightOf) (mc := 0) (ms := 0) (As := [.int p2, .int (p4 - (1 : Int32))]) (rest := [.int x9, .int p4, .int p3, .int p2, .ref p0]) 2 11 n11 (show decode _ _ = .ok (.invokevirtual 300, 3) by decide +kernel) cv_X11_300 ⟨_, rfl, rfl⟩ hr12 hs13 rfl (Nat.le_of_ble_eq_true rfl) (s_X11_heightOf (d := d) (hd_le hd (by decide)) h_5) (by decide) (by decide) (kI (bc' := 0) (bs' := 0) (by decide) (by decide) (fun x14 M10 h_6 => ?_))
  obtain ⟨⟨hr17, n16, hs18⟩, h_7⟩ := h_6
  refine fw_callV (mt' := mtX11_nameStep) (mc := 0) (ms := 0) (As := [.int p2, .int p3, .int p4, .int x9, .int x14]) (rest := []) 5 11 n16 (show decode _ _ = .ok (.invokevirtual 303, 3) by decide +kernel) cv_X11_303 ⟨_, rfl, rfl⟩ hr17 hs18 rfl (Nat.le_of_ble_eq_true rfl) (s_X11_nameStep (d := d) (hd_le hd (by decide)) h_7) (by decide) (by decide) (kV (bc' := 0) (bs' := 0) (by decide) (by decide) (fun M15 h_8 => ?_))
  exact fw_ret (v := none) .return_ (show decode _ _ = .ok (.return_, 1) by decide +kernel) ⟨rfl, rfl⟩ ⟨rfl, h_8⟩
def w_X11_noneAt (p0 : Nat) (p1 : Int32) (p2 : Int32) (p3 : Int32) (p4 : Int32) (M : fM) (φ : Int32 → fM → Prop) : Prop := isO M p0 11 ∧ w_X11_nameAt p0 p1 p2 p3 p4 M fun M1 => isO M1 p0 11 ∧ dR (mP M1 p0 0) fun y8 => inA M1 y8 12 ((82 : Int32) + ((3 : Int32) * p1)) ∧ w_X11_sumBy p0 (0 : Int32) (mI M1 y8 (ix ((82 : Int32) + ((3 : Int32) * p1)))) (10 : Int32) M1 fun x14 M13 => φ x14 M13
set_option maxRecDepth 100000 in
theorem s_X11_noneAt {g : GT} {d : Nat} (hd : 5 ≤ d) {p0 : Nat} {p1 : Int32} {p2 : Int32} {p3 : Int32} {p4 : Int32} {M : fM} {φ : Int32 → fM → Prop} (h : w_X11_noneAt p0 p1 p2 p3 p4 M φ) : FC g mtX11_noneAt d [.ref p0, .int p1, .int p2, .int p3, .int p4] M 0 0 (rI φ) := by
  obtain ⟨d, rfl⟩ : ∃ e, d = e + 1 := ⟨d - 1, by omega⟩
  unfold w_X11_noneAt at h
  refine FC.intro (nL := 5) (by decide) rfl (Nat.le_of_ble_eq_true rfl) ?_
  show FW g mtX11_noneAt (d + 1) 0 [(0, .ref p0), (1, .int p1), (2, .int p2), (3, .int p3), (4, .int p4)] [] M 0 0 (rI φ)
  refine fw_aload_n (i := 0) 0 rfl (show decode _ _ = .ok (.aload_n 0, 1) by decide +kernel) ?_
  refine fw_iload_n (i := 1) 1 rfl (show decode _ _ = .ok (.iload_n 1, 1) by decide +kernel) ?_
  refine fw_iload_n (i := 2) 2 rfl (show decode _ _ = .ok (.iload_n 2, 1) by decide +kernel) ?_
  refine fw_iload_n (i := 3) 3 rfl (show decode _ _ = .ok (.iload_n 3, 1) by decide +kernel) ?_
  refine fw_iload (i := 4) 4 rfl (show decode _ _ = .ok (.iload 4, 2) by decide +kernel) ?_
  obtain ⟨⟨hr3, n2, hs4⟩, h_1⟩ := h
  refine fw_callV (mt' := mtX11_nameAt) (mc := 0) (ms := 0) (As := [.int p1, .int p2, .int p3, .int p4]) (rest := []) 4 11 n2 (show decode _ _ = .ok (.invokevirtual 307, 3) by decide +kernel) cv_X11_307 ⟨_, rfl, rfl⟩ hr3 hs4 rfl (Nat.le_of_ble_eq_true rfl) (s_X11_nameAt (d := d) (hd_le hd (by decide)) h_1) (by decide) (by decide) (kV (bc' := 0) (bs' := 0) (by decide) (by decide) (fun M1 h_2 => ?_))
  refine fw_aload_n (i := 0) 0 rfl (show decode _ _ = .ok (.aload_n 0, 1) by decide +kernel) ?_
  refine fw_iconst (v := (0 : Int32)) (show decode _ _ = .ok (.iconst 0, 1) by decide +kernel) (by decide) ?_
  refine fw_aload_n (i := 0) 0 rfl (show decode _ _ = .ok (.aload_n 0, 1) by decide +kernel) ?_
  obtain ⟨⟨hr6, n5, hs7⟩, h_3⟩ := h_2
  refine fw_getP (kd := 11) (k := 0) (show decode _ _ = .ok (.getfield 7, 3) by decide +kernel) gf_X11_7 hr6 hs7 rfl ?_
  have h_4 := dR_e h_3
  obtain ⟨y8, hy9, h_5⟩ := h_4
  refine fw_deref hy9 ?_
  refine fw_bipush (v := (82 : Int32)) (show decode _ _ = .ok (.bipush 82, 2) by decide +kernel) (by decide) ?_
  refine fw_iconst (v := (3 : Int32)) (show decode _ _ = .ok (.iconst 3, 1) by decide +kernel) (by decide) ?_
  refine fw_iload_n (i := 1) 1 rfl (show decode _ _ = .ok (.iload_n 1, 1) by decide +kernel) ?_
  refine fw_imul (show decode _ _ = .ok (.imul, 1) by decide +kernel) ?_
  refine fw_iadd (show decode _ _ = .ok (.iadd, 1) by decide +kernel) ?_
  obtain ⟨⟨n10, hs11, hi12⟩, h_6⟩ := h_5
  refine fw_iald (show decode _ _ = .ok (.iaload, 1) by decide +kernel) hs11 hi12 ?_
  refine fw_bipush (v := (10 : Int32)) (show decode _ _ = .ok (.bipush 10, 2) by decide +kernel) (by decide) ?_
  refine fw_callV (mt' := mtX11_sumBy) (mc := 0) (ms := 0) (As := [.int (0 : Int32), .int (mI M1 y8 (ix ((82 : Int32) + ((3 : Int32) * p1)))), .int (10 : Int32)]) (rest := []) 3 11 n5 (show decode _ _ = .ok (.invokevirtual 311, 3) by decide +kernel) cv_X11_311 ⟨_, rfl, rfl⟩ hr6 hs7 rfl (Nat.le_of_ble_eq_true rfl) (s_X11_sumBy (d := d) (hd_le hd (by decide)) h_6) (by decide) (by decide) (kI (bc' := 0) (bs' := 0) (by decide) (by decide) (fun x14 M13 h_7 => ?_))
  exact fw_ret (v := some (.int x14)) .ireturn (show decode _ _ = .ok (.ireturn, 1) by decide +kernel) ⟨rfl, Or.inl rfl⟩ ⟨_, rfl, h_7⟩
def w_X11_twiceAt (p0 : Nat) (p1 : Int32) (p2 : Int32) (p3 : Int32) (p4 : Int32) (M : fM) (φ : Int32 → fM → Prop) : Prop := isO M p0 11 ∧ w_X11_noneAt p0 p1 p2 p3 p4 M fun x5 M1 => isO M1 p0 11 ∧ dR (mP M1 p0 0) fun y9 => inA M1 y9 12 (((82 : Int32) + ((3 : Int32) * p1)) + (1 : Int32)) ∧ w_X11_sumBy p0 (1 : Int32) (mI M1 y9 (ix (((82 : Int32) + ((3 : Int32) * p1)) + (1 : Int32)))) ((10 : Int32) - x5) M1 fun x15 M14 => φ x15 M14
set_option maxRecDepth 100000 in
theorem s_X11_twiceAt {g : GT} {d : Nat} (hd : 6 ≤ d) {p0 : Nat} {p1 : Int32} {p2 : Int32} {p3 : Int32} {p4 : Int32} {M : fM} {φ : Int32 → fM → Prop} (h : w_X11_twiceAt p0 p1 p2 p3 p4 M φ) : FC g mtX11_twiceAt d [.ref p0, .int p1, .int p2, .int p3, .int p4] M 0 0 (rI φ) := by
  obtain ⟨d, rfl⟩ : ∃ e, d = e + 1 := ⟨d - 1, by omega⟩
  unfold w_X11_twiceAt at h
  refine FC.intro (nL := 6) (by decide) rfl (Nat.le_of_ble_eq_true rfl) ?_
  show FW g mtX11_twiceAt (d + 1) 0 [(0, .ref p0), (1, .int p1), (2, .int p2), (3, .int p3), (4, .int p4)] [] M 0 0 (rI φ)
  refine fw_aload_n (i := 0) 0 rfl (show decode _ _ = .ok (.aload_n 0, 1) by decide +kernel) ?_
  refine fw_iload_n (i := 1) 1 rfl (show decode _ _ = .ok (.iload_n 1, 1) by decide +kernel) ?_
  refine fw_iload_n (i := 2) 2 rfl (show decode _ _ = .ok (.iload_n 2, 1) by decide +kernel) ?_
  refine fw_iload_n (i := 3) 3 rfl (show decode _ _ = .ok (.iload_n 3, 1) by decide +kernel) ?_
  refine fw_iload (i := 4) 4 rfl (show decode _ _ = .ok (.iload 4, 2) by decide +kernel) ?_
  obtain ⟨⟨hr3, n2, hs4⟩, h_1⟩ := h
  refine fw_callV (mt' := mtX11_noneAt) (mc := 0) (ms := 0) (As := [.int p1, .int p2, .int p3, .int p4]) (rest := []) 4 11 n2 (show decode _ _ = .ok (.invokevirtual 314, 3) by decide +kernel) cv_X11_314 ⟨_, rfl, rfl⟩ hr3 hs4 rfl (Nat.le_of_ble_eq_true rfl) (s_X11_noneAt (d := d) (hd_le hd (by decide)) h_1) (by decide) (by decide) (kI (bc' := 0) (bs' := 0) (by decide) (by decide) (fun x5 M1 h_2 => ?_))
  refine fw_istore (i := 5) (ls' := [(5, .int x5), (0, .ref p0), (1, .int p1), (2, .int p2), (3, .int p3), (4, .int p4)]) (show decode _ _ = .ok (.istore 5, 2) by decide +kernel) (by decide) rfl ?_
  refine fw_aload_n (i := 0) 1 rfl (show decode _ _ = .ok (.aload_n 0, 1) by decide +kernel) ?_
  refine fw_iconst (v := (1 : Int32)) (show decode _ _ = .ok (.iconst 1, 1) by decide +kernel) (by decide) ?_
  refine fw_aload_n (i := 0) 1 rfl (show decode _ _ = .ok (.aload_n 0, 1) by decide +kernel) ?_
  obtain ⟨⟨hr7, n6, hs8⟩, h_3⟩ := h_2
  refine fw_getP (kd := 11) (k := 0) (show decode _ _ = .ok (.getfield 7, 3) by decide +kernel) gf_X11_7 hr7 hs8 rfl ?_
  have h_4 := dR_e h_3
  obtain ⟨y9, hy10, h_5⟩ := h_4
  refine fw_deref hy10 ?_
  refine fw_bipush (v := (82 : Int32)) (show decode _ _ = .ok (.bipush 82, 2) by decide +kernel) (by decide) ?_
  refine fw_iconst (v := (3 : Int32)) (show decode _ _ = .ok (.iconst 3, 1) by decide +kernel) (by decide) ?_
  refine fw_iload_n (i := 1) 2 rfl (show decode _ _ = .ok (.iload_n 1, 1) by decide +kernel) ?_
  refine fw_imul (show decode _ _ = .ok (.imul, 1) by decide +kernel) ?_
  refine fw_iadd (show decode _ _ = .ok (.iadd, 1) by decide +kernel) ?_
  refine fw_iconst (v := (1 : Int32)) (show decode _ _ = .ok (.iconst 1, 1) by decide +kernel) (by decide) ?_
  refine fw_iadd (show decode _ _ = .ok (.iadd, 1) by decide +kernel) ?_
  obtain ⟨⟨n11, hs12, hi13⟩, h_6⟩ := h_5
  refine fw_iald (show decode _ _ = .ok (.iaload, 1) by decide +kernel) hs12 hi13 ?_
  refine fw_bipush (v := (10 : Int32)) (show decode _ _ = .ok (.bipush 10, 2) by decide +kernel) (by decide) ?_
  refine fw_iload (i := 5) 0 rfl (show decode _ _ = .ok (.iload 5, 2) by decide +kernel) ?_
  refine fw_isub (show decode _ _ = .ok (.isub, 1) by decide +kernel) ?_
  refine fw_callV (mt' := mtX11_sumBy) (mc := 0) (ms := 0) (As := [.int (1 : Int32), .int (mI M1 y9 (ix (((82 : Int32) + ((3 : Int32) * p1)) + (1 : Int32)))), .int ((10 : Int32) - x5)]) (rest := []) 3 11 n6 (show decode _ _ = .ok (.invokevirtual 311, 3) by decide +kernel) cv_X11_311 ⟨_, rfl, rfl⟩ hr7 hs8 rfl (Nat.le_of_ble_eq_true rfl) (s_X11_sumBy (d := d) (hd_le hd (by decide)) h_6) (by decide) (by decide) (kI (bc' := 0) (bs' := 0) (by decide) (by decide) (fun x15 M14 h_7 => ?_))
  exact fw_ret (v := some (.int x15)) .ireturn (show decode _ _ = .ok (.ireturn, 1) by decide +kernel) ⟨rfl, Or.inl rfl⟩ ⟨_, rfl, h_7⟩
def w_X11_drawn (p0 : Nat) (M : fM) (φ : Int32 → fM → Prop) : Prop := isO M p0 11 ∧ dR (mP M p0 0) fun y4 => inA M y4 12 (2 : Int32) ∧ nm ((mI M y4 (ix (2 : Int32))) % (10 : Int32)) fun x9 => w_X11_anew p0 M fun M11 => φ x9 M11
set_option maxRecDepth 100000 in
theorem s_X11_drawn {g : GT} {d : Nat} (hd : 2 ≤ d) {p0 : Nat} {M : fM} {φ : Int32 → fM → Prop} (h : w_X11_drawn p0 M φ) : FC g mtX11_drawn d [.ref p0] M 0 0 (rI φ) := by
  obtain ⟨d, rfl⟩ : ∃ e, d = e + 1 := ⟨d - 1, by omega⟩
  unfold w_X11_drawn at h
  refine FC.intro (nL := 2) (by decide) rfl (Nat.le_of_ble_eq_true rfl) ?_
  show FW g mtX11_drawn (d + 1) 0 [(0, .ref p0)] [] M 0 0 (rI φ)
  refine fw_aload_n (i := 0) 0 rfl (show decode _ _ = .ok (.aload_n 0, 1) by decide +kernel) ?_
  obtain ⟨⟨hr2, n1, hs3⟩, h_1⟩ := h
  refine fw_getP (kd := 11) (k := 0) (show decode _ _ = .ok (.getfield 7, 3) by decide +kernel) gf_X11_7 hr2 hs3 rfl ?_
  have h_2 := dR_e h_1
  obtain ⟨y4, hy5, h_3⟩ := h_2
  refine fw_deref hy5 ?_
  refine fw_iconst (v := (2 : Int32)) (show decode _ _ = .ok (.iconst 2, 1) by decide +kernel) (by decide) ?_
  obtain ⟨⟨n6, hs7, hi8⟩, h_4⟩ := h_3
  refine fw_iald (show decode _ _ = .ok (.iaload, 1) by decide +kernel) hs7 hi8 ?_
  refine fw_bipush (v := (10 : Int32)) (show decode _ _ = .ok (.bipush 10, 2) by decide +kernel) (by decide) ?_
  refine fw_irem (show decode _ _ = .ok (.irem, 1) by decide +kernel) (by decide) ?_
  refine fw_nmI (fun x9 ex10 => ?_)
  have h_5 := h_4 x9 ex10
  refine fw_istore_n (i := 1) (ls' := [(1, .int x9), (0, .ref p0)]) (show decode _ _ = .ok (.istore_n 1, 1) by decide +kernel) (by decide) rfl ?_
  refine fw_aload_n (i := 0) 1 rfl (show decode _ _ = .ok (.aload_n 0, 1) by decide +kernel) ?_
  refine fw_callV (mt' := mtX11_anew) (mc := 0) (ms := 0) (As := []) (rest := []) 0 11 n1 (show decode _ _ = .ok (.invokevirtual 341, 3) by decide +kernel) cv_X11_341 ⟨_, rfl, rfl⟩ hr2 hs3 rfl (Nat.le_of_ble_eq_true rfl) (s_X11_anew (d := d) (hd_le hd (by decide)) h_5) (by decide) (by decide) (kV (bc' := 0) (bs' := 0) (by decide) (by decide) (fun M11 h_6 => ?_))
  refine fw_iload_n (i := 1) 0 rfl (show decode _ _ = .ok (.iload_n 1, 1) by decide +kernel) ?_
  exact fw_ret (v := some (.int x9)) .ireturn (show decode _ _ = .ok (.ireturn, 1) by decide +kernel) ⟨rfl, Or.inl rfl⟩ ⟨_, rfl, h_6⟩
def w_X11_marksOf (p0 : Nat) (p1 : Int32) (M : fM) (φ : Int32 → fM → Prop) : Prop := isO M p0 11 ∧ dR (mP M p0 0) fun y4 => inA M y4 12 (((10 : Int32) + ((18 : Int32) * p1)) + (1 : Int32)) ∧ φ (mI M y4 (ix (((10 : Int32) + ((18 : Int32) * p1)) + (1 : Int32)))) M
set_option maxRecDepth 100000 in
theorem s_X11_marksOf {g : GT} {d : Nat} (hd : 1 ≤ d) {p0 : Nat} {p1 : Int32} {M : fM} {φ : Int32 → fM → Prop} (h : w_X11_marksOf p0 p1 M φ) : FC g mtX11_marksOf d [.ref p0, .int p1] M 0 0 (rI φ) := by
  obtain ⟨d, rfl⟩ : ∃ e, d = e + 1 := ⟨d - 1, by omega⟩
  unfold w_X11_marksOf at h
  refine FC.intro (nL := 2) (by decide) rfl (Nat.le_of_ble_eq_true rfl) ?_
  show FW g mtX11_marksOf (d + 1) 0 [(0, .ref p0), (1, .int p1)] [] M 0 0 (rI φ)
  refine fw_aload_n (i := 0) 0 rfl (show decode _ _ = .ok (.aload_n 0, 1) by decide +kernel) ?_
  obtain ⟨⟨hr2, n1, hs3⟩, h_1⟩ := h
  refine fw_getP (kd := 11) (k := 0) (show decode _ _ = .ok (.getfield 7, 3) by decide +kernel) gf_X11_7 hr2 hs3 rfl ?_
  have h_2 := dR_e h_1
  obtain ⟨y4, hy5, h_3⟩ := h_2
  refine fw_deref hy5 ?_
  refine fw_bipush (v := (10 : Int32)) (show decode _ _ = .ok (.bipush 10, 2) by decide +kernel) (by decide) ?_
  refine fw_bipush (v := (18 : Int32)) (show decode _ _ = .ok (.bipush 18, 2) by decide +kernel) (by decide) ?_
  refine fw_iload_n (i := 1) 1 rfl (show decode _ _ = .ok (.iload_n 1, 1) by decide +kernel) ?_
  refine fw_imul (show decode _ _ = .ok (.imul, 1) by decide +kernel) ?_
  refine fw_iadd (show decode _ _ = .ok (.iadd, 1) by decide +kernel) ?_
  refine fw_iconst (v := (1 : Int32)) (show decode _ _ = .ok (.iconst 1, 1) by decide +kernel) (by decide) ?_
  refine fw_iadd (show decode _ _ = .ok (.iadd, 1) by decide +kernel) ?_
  obtain ⟨⟨n6, hs7, hi8⟩, h_4⟩ := h_3
  refine fw_iald (show decode _ _ = .ok (.iaload, 1) by decide +kernel) hs7 hi8 ?_
  exact fw_ret (v := some (.int (mI M y4 (ix (((10 : Int32) + ((18 : Int32) * p1)) + (1 : Int32)))))) .ireturn (show decode _ _ = .ok (.ireturn, 1) by decide +kernel) ⟨rfl, Or.inl rfl⟩ ⟨_, rfl, h_4⟩
def w_X11_has (p0 : Int32) (p1 : Int32) (M : fM) (φ : Int32 → fM → Prop) : Prop := iF (((p0 >>> (p1 &&& 31)) &&& (1 : Int32)) = (1 : Int32)) (φ (1 : Int32) M) (φ (0 : Int32) M)
set_option maxRecDepth 100000 in
theorem s_X11_has {g : GT} {d : Nat} (hd : 1 ≤ d) {p0 : Int32} {p1 : Int32} {M : fM} {φ : Int32 → fM → Prop} (h : w_X11_has p0 p1 M φ) : FC g mtX11_has d [.int p0, .int p1] M 0 0 (rI φ) := by
  obtain ⟨d, rfl⟩ : ∃ e, d = e + 1 := ⟨d - 1, by omega⟩
  unfold w_X11_has at h
  refine FC.intro (nL := 2) (by decide) rfl (Nat.le_of_ble_eq_true rfl) ?_
  show FW g mtX11_has (d + 1) 0 [(0, .int p0), (1, .int p1)] [] M 0 0 (rI φ)
  refine fw_iload_n (i := 0) 0 rfl (show decode _ _ = .ok (.iload_n 0, 1) by decide +kernel) ?_
  refine fw_iload_n (i := 1) 1 rfl (show decode _ _ = .ok (.iload_n 1, 1) by decide +kernel) ?_
  refine fw_ishr (show decode _ _ = .ok (.ishr, 1) by decide +kernel) ?_
  refine fw_iconst (v := (1 : Int32)) (show decode _ _ = .ok (.iconst 1, 1) by decide +kernel) (by decide) ?_
  refine fw_iand (show decode _ _ = .ok (.iand, 1) by decide +kernel) ?_
  refine fw_iconst (v := (1 : Int32)) (show decode _ _ = .ok (.iconst 1, 1) by decide +kernel) (by decide) ?_
  refine fw_icmp_ne 13 (show decode _ _ = .ok (.if_icmp .ne 7, 3) by decide +kernel) (by decide) (fun hc1 => ?_) (fun hc1 => ?_)
  · have h_1 := ineg hc1 h
    refine fw_iconst (v := (0 : Int32)) (show decode _ _ = .ok (.iconst 0, 1) by decide +kernel) (by decide) ?_
    exact fw_ret (v := some (.int (0 : Int32))) .ireturn (show decode _ _ = .ok (.ireturn, 1) by decide +kernel) ⟨rfl, Or.inr (Or.inl ⟨rfl, rfl⟩)⟩ ⟨_, rfl, h_1⟩
  · have h_2 := ipos hc1 h
    refine fw_iconst (v := (1 : Int32)) (show decode _ _ = .ok (.iconst 1, 1) by decide +kernel) (by decide) ?_
    refine fw_goto 14 (show decode _ _ = .ok (.goto 4, 3) by decide +kernel) (by decide) ?_
    exact fw_ret (v := some (.int (1 : Int32))) .ireturn (show decode _ _ = .ok (.ireturn, 1) by decide +kernel) ⟨rfl, Or.inr (Or.inl ⟨rfl, rfl⟩)⟩ ⟨_, rfl, h_2⟩
def j_X11_counted_96 (φ : fM → Prop) (p0 : Nat) (p2 : Int32) (p3 : Int32) (s0 : Int32) (s1 : Int32) (s2 : Int32) (s3 : Nat) (M : fM) : Prop := nm (s1 + s0) fun x1 => 6 ≤ s3 ∧ inA M s3 12 s2 ∧ st (wI M s3 (ix s2) x1) fun M7 => isO M7 p0 11 ∧ w_X11_marksOf p0 p2 M7 fun x13 M9 => isO M9 p0 11 ∧ dR (mP M9 p0 0) fun y17 => inA M9 y17 12 (103 : Int32) ∧ w_X11_has x13 (mI M9 y17 (ix (103 : Int32))) M9 fun x23 M22 => iF (x23 = 0) (φ M22) (iF ((p3 % (2 : Int32)) = (1 : Int32)) (φ M22) (isO M22 p0 11 ∧ dR (mP M22 p0 0) fun y27 => dR (mP M22 p0 0) fun y29 => inA M22 y29 12 (103 : Int32) ∧ nm (mI M22 y29 (ix (103 : Int32))) fun x34 => 6 ≤ y27 ∧ inA M22 y27 12 (104 : Int32) ∧ st (wI M22 y27 (ix (104 : Int32)) x34) fun M40 => φ M40))
set_option maxRecDepth 100000 in
theorem sj_X11_counted_96 {g : GT} {d : Nat} (hd : 7 ≤ d + 1) {φ : fM → Prop} {p0 : Nat} {p2 : Int32} {p3 : Int32} {s0 : Int32} {s1 : Int32} {s2 : Int32} {s3 : Nat} {M : fM} (h : j_X11_counted_96 φ p0 p2 p3 s0 s1 s2 s3 M) : FW g mtX11_counted (d + 1) 96 [(0, .ref p0), (2, .int p2), (3, .int p3)] [.int s0, .int s1, .int s2, .ref s3] M 0 0 (rV φ) := by
  unfold j_X11_counted_96 at h
  refine fw_iadd (show decode _ _ = .ok (.iadd, 1) by decide +kernel) ?_
  refine fw_nmI (fun x1 ex2 => ?_)
  have h_1 := h x1 ex2
  obtain ⟨hr6, ⟨n3, hs4, hi5⟩, h_2⟩ := h_1
  refine fw_iast (show decode _ _ = .ok (.iastore, 1) by decide +kernel) hr6 hs4 hi5 ?_
  refine FW.nmM (fun M7 eM8 => ?_)
  have h_3 := h_2 M7 eM8
  refine fw_aload_n (i := 0) 0 rfl (show decode _ _ = .ok (.aload_n 0, 1) by decide +kernel) ?_
  refine fw_iload_n (i := 2) 1 rfl (show decode _ _ = .ok (.iload_n 2, 1) by decide +kernel) ?_
  obtain ⟨⟨hr11, n10, hs12⟩, h_4⟩ := h_3
  refine fw_callV (mt' := mtX11_marksOf) (mc := 0) (ms := 0) (As := [.int p2]) (rest := []) 1 11 n10 (show decode _ _ = .ok (.invokevirtual 85, 3) by decide +kernel) cv_X11_85 ⟨_, rfl, rfl⟩ hr11 hs12 rfl (Nat.le_of_ble_eq_true rfl) (s_X11_marksOf (d := d) (hd_le hd (by decide)) h_4) (by decide) (by decide) (kI (bc' := 0) (bs' := 0) (by decide) (by decide) (fun x13 M9 h_5 => ?_))
  refine fw_aload_n (i := 0) 0 rfl (show decode _ _ = .ok (.aload_n 0, 1) by decide +kernel) ?_
  obtain ⟨⟨hr15, n14, hs16⟩, h_6⟩ := h_5
  refine fw_getP (kd := 11) (k := 0) (show decode _ _ = .ok (.getfield 7, 3) by decide +kernel) gf_X11_7 hr15 hs16 rfl ?_
  have h_7 := dR_e h_6
  obtain ⟨y17, hy18, h_8⟩ := h_7
  refine fw_deref hy18 ?_
  refine fw_bipush (v := (103 : Int32)) (show decode _ _ = .ok (.bipush 103, 2) by decide +kernel) (by decide) ?_
  obtain ⟨⟨n19, hs20, hi21⟩, h_9⟩ := h_8
  refine fw_iald (show decode _ _ = .ok (.iaload, 1) by decide +kernel) hs20 hi21 ?_
  refine fw_callS (mt' := mtX11_has) (mc := 0) (ms := 0) (As := [.int x13, .int (mI M9 y17 (ix (103 : Int32)))]) (rest := []) 2 (show decode _ _ = .ok (.invokestatic 88, 3) by decide +kernel) cs_X11_88 rfl (Nat.le_of_ble_eq_true rfl) (s_X11_has (d := d) (hd_le hd (by decide)) h_9) (by decide) (by decide) (kI (bc' := 0) (bs' := 0) (by decide) (by decide) (fun x23 M22 h_10 => ?_))
  refine fw_if_eq 137 (show decode _ _ = .ok (.ifCond .eq 24, 3) by decide +kernel) (by decide) (fun hc43 => ?_) (fun hc43 => ?_)
  · have h_11 := ipos hc43 h_10
    exact fw_ret (v := none) .return_ (show decode _ _ = .ok (.return_, 1) by decide +kernel) ⟨rfl, rfl⟩ ⟨rfl, h_11⟩
  · have h_12 := ineg hc43 h_10
    refine fw_iload_n (i := 3) 2 rfl (show decode _ _ = .ok (.iload_n 3, 1) by decide +kernel) ?_
    refine fw_iconst (v := (2 : Int32)) (show decode _ _ = .ok (.iconst 2, 1) by decide +kernel) (by decide) ?_
    refine fw_irem (show decode _ _ = .ok (.irem, 1) by decide +kernel) (by decide) ?_
    refine fw_iconst (v := (1 : Int32)) (show decode _ _ = .ok (.iconst 1, 1) by decide +kernel) (by decide) ?_
    refine fw_icmp_eq 137 (show decode _ _ = .ok (.if_icmp .eq 17, 3) by decide +kernel) (by decide) (fun hc42 => ?_) (fun hc42 => ?_)
    · have h_13 := ipos hc42 h_12
      exact fw_ret (v := none) .return_ (show decode _ _ = .ok (.return_, 1) by decide +kernel) ⟨rfl, rfl⟩ ⟨rfl, h_13⟩
    · have h_14 := ineg hc42 h_12
      refine fw_aload_n (i := 0) 0 rfl (show decode _ _ = .ok (.aload_n 0, 1) by decide +kernel) ?_
      obtain ⟨⟨hr25, n24, hs26⟩, h_15⟩ := h_14
      refine fw_getP (kd := 11) (k := 0) (show decode _ _ = .ok (.getfield 7, 3) by decide +kernel) gf_X11_7 hr25 hs26 rfl ?_
      have h_16 := dR_e h_15
      obtain ⟨y27, hy28, h_17⟩ := h_16
      refine fw_deref hy28 ?_
      refine fw_bipush (v := (104 : Int32)) (show decode _ _ = .ok (.bipush 104, 2) by decide +kernel) (by decide) ?_
      refine fw_aload_n (i := 0) 0 rfl (show decode _ _ = .ok (.aload_n 0, 1) by decide +kernel) ?_
      refine fw_getP (kd := 11) (k := 0) (show decode _ _ = .ok (.getfield 7, 3) by decide +kernel) gf_X11_7 hr25 hs26 rfl ?_
      have h_18 := dR_e h_17
      obtain ⟨y29, hy30, h_19⟩ := h_18
      refine fw_deref hy30 ?_
      refine fw_bipush (v := (103 : Int32)) (show decode _ _ = .ok (.bipush 103, 2) by decide +kernel) (by decide) ?_
      obtain ⟨⟨n31, hs32, hi33⟩, h_20⟩ := h_19
      refine fw_iald (show decode _ _ = .ok (.iaload, 1) by decide +kernel) hs32 hi33 ?_
      refine fw_nmI (fun x34 ex35 => ?_)
      have h_21 := h_20 x34 ex35
      obtain ⟨hr39, ⟨n36, hs37, hi38⟩, h_22⟩ := h_21
      refine fw_iast (show decode _ _ = .ok (.iastore, 1) by decide +kernel) hr39 hs37 hi38 ?_
      refine FW.nmM (fun M40 eM41 => ?_)
      have h_23 := h_22 M40 eM41
      exact fw_ret (v := none) .return_ (show decode _ _ = .ok (.return_, 1) by decide +kernel) ⟨rfl, rfl⟩ ⟨rfl, h_23⟩
def w_X11_counted (p0 : Nat) (M : fM) (φ : fM → Prop) : Prop := isO M p0 11 ∧ dR (mP M p0 0) fun y47 => inA M y47 12 (100 : Int32) ∧ nm (mI M y47 (ix (100 : Int32))) fun x52 => dR (mP M p0 0) fun y54 => inA M y54 12 (101 : Int32) ∧ nm (mI M y54 (ix (101 : Int32))) fun x59 => dR (mP M p0 0) fun y61 => inA M y61 12 (102 : Int32) ∧ nm (mI M y61 (ix (102 : Int32))) fun x66 => dR (mP M p0 0) fun y68 => inA M y68 12 (103 : Int32) ∧ w_X11_noneAt p0 x52 x59 x66 (mI M y68 (ix (103 : Int32))) M fun x74 M73 => isO M73 p0 11 ∧ dR (mP M73 p0 0) fun y78 => inA M73 y78 12 (103 : Int32) ∧ w_X11_twiceAt p0 x52 x59 x66 (mI M73 y78 (ix (103 : Int32))) M73 fun x84 M83 => isO M83 p0 11 ∧ w_X11_drawn p0 M83 fun x89 M85 => isO M85 p0 11 ∧ dR (mP M85 p0 0) fun y93 => inA M85 y93 12 (104 : Int32) ∧ iF (x74 ≤ x89) (iF ((x74 + x84) ≤ x89) (j_X11_counted_96 φ p0 x59 x66 (1 : Int32) (mI M85 y93 (ix (104 : Int32))) (104 : Int32) y93 M85) (j_X11_counted_96 φ p0 x59 x66 (2 : Int32) (mI M85 y93 (ix (104 : Int32))) (104 : Int32) y93 M85)) (j_X11_counted_96 φ p0 x59 x66 (0 : Int32) (mI M85 y93 (ix (104 : Int32))) (104 : Int32) y93 M85)
set_option maxRecDepth 100000 in
theorem s_X11_counted {g : GT} {d : Nat} (hd : 7 ≤ d) {p0 : Nat} {M : fM} {φ : fM → Prop} (h : w_X11_counted p0 M φ) : FC g mtX11_counted d [.ref p0] M 0 0 (rV φ) := by
  obtain ⟨d, rfl⟩ : ∃ e, d = e + 1 := ⟨d - 1, by omega⟩
  unfold w_X11_counted at h
  refine FC.intro (nL := 7) (by decide) rfl (Nat.le_of_ble_eq_true rfl) ?_
  show FW g mtX11_counted (d + 1) 0 [(0, .ref p0)] [] M 0 0 (rV φ)
  refine fw_aload_n (i := 0) 0 rfl (show decode _ _ = .ok (.aload_n 0, 1) by decide +kernel) ?_
  obtain ⟨⟨hr45, n44, hs46⟩, h_1⟩ := h
  refine fw_getP (kd := 11) (k := 0) (show decode _ _ = .ok (.getfield 7, 3) by decide +kernel) gf_X11_7 hr45 hs46 rfl ?_
  have h_2 := dR_e h_1
  obtain ⟨y47, hy48, h_3⟩ := h_2
  refine fw_deref hy48 ?_
  refine fw_bipush (v := (100 : Int32)) (show decode _ _ = .ok (.bipush 100, 2) by decide +kernel) (by decide) ?_
  obtain ⟨⟨n49, hs50, hi51⟩, h_4⟩ := h_3
  refine fw_iald (show decode _ _ = .ok (.iaload, 1) by decide +kernel) hs50 hi51 ?_
  refine fw_nmI (fun x52 ex53 => ?_)
  have h_5 := h_4 x52 ex53
  refine fw_istore_n (i := 1) (ls' := [(1, .int x52), (0, .ref p0)]) (show decode _ _ = .ok (.istore_n 1, 1) by decide +kernel) (by decide) rfl ?_
  refine fw_aload_n (i := 0) 1 rfl (show decode _ _ = .ok (.aload_n 0, 1) by decide +kernel) ?_
  refine fw_getP (kd := 11) (k := 0) (show decode _ _ = .ok (.getfield 7, 3) by decide +kernel) gf_X11_7 hr45 hs46 rfl ?_
  have h_6 := dR_e h_5
  obtain ⟨y54, hy55, h_7⟩ := h_6
  refine fw_deref hy55 ?_
  refine fw_bipush (v := (101 : Int32)) (show decode _ _ = .ok (.bipush 101, 2) by decide +kernel) (by decide) ?_
  obtain ⟨⟨n56, hs57, hi58⟩, h_8⟩ := h_7
  refine fw_iald (show decode _ _ = .ok (.iaload, 1) by decide +kernel) hs57 hi58 ?_
  refine fw_nmI (fun x59 ex60 => ?_)
  have h_9 := h_8 x59 ex60
  refine fw_istore_n (i := 2) (ls' := [(2, .int x59), (1, .int x52), (0, .ref p0)]) (show decode _ _ = .ok (.istore_n 2, 1) by decide +kernel) (by decide) rfl ?_
  refine fw_aload_n (i := 0) 2 rfl (show decode _ _ = .ok (.aload_n 0, 1) by decide +kernel) ?_
  refine fw_getP (kd := 11) (k := 0) (show decode _ _ = .ok (.getfield 7, 3) by decide +kernel) gf_X11_7 hr45 hs46 rfl ?_
  have h_10 := dR_e h_9
  obtain ⟨y61, hy62, h_11⟩ := h_10
  refine fw_deref hy62 ?_
  refine fw_bipush (v := (102 : Int32)) (show decode _ _ = .ok (.bipush 102, 2) by decide +kernel) (by decide) ?_
  obtain ⟨⟨n63, hs64, hi65⟩, h_12⟩ := h_11
  refine fw_iald (show decode _ _ = .ok (.iaload, 1) by decide +kernel) hs64 hi65 ?_
  refine fw_nmI (fun x66 ex67 => ?_)
  have h_13 := h_12 x66 ex67
  refine fw_istore_n (i := 3) (ls' := [(3, .int x66), (2, .int x59), (1, .int x52), (0, .ref p0)]) (show decode _ _ = .ok (.istore_n 3, 1) by decide +kernel) (by decide) rfl ?_
  refine fw_aload_n (i := 0) 3 rfl (show decode _ _ = .ok (.aload_n 0, 1) by decide +kernel) ?_
  refine fw_iload_n (i := 1) 2 rfl (show decode _ _ = .ok (.iload_n 1, 1) by decide +kernel) ?_
  refine fw_iload_n (i := 2) 1 rfl (show decode _ _ = .ok (.iload_n 2, 1) by decide +kernel) ?_
  refine fw_iload_n (i := 3) 0 rfl (show decode _ _ = .ok (.iload_n 3, 1) by decide +kernel) ?_
  refine fw_aload_n (i := 0) 3 rfl (show decode _ _ = .ok (.aload_n 0, 1) by decide +kernel) ?_
  refine fw_getP (kd := 11) (k := 0) (show decode _ _ = .ok (.getfield 7, 3) by decide +kernel) gf_X11_7 hr45 hs46 rfl ?_
  have h_14 := dR_e h_13
  obtain ⟨y68, hy69, h_15⟩ := h_14
  refine fw_deref hy69 ?_
  refine fw_bipush (v := (103 : Int32)) (show decode _ _ = .ok (.bipush 103, 2) by decide +kernel) (by decide) ?_
  obtain ⟨⟨n70, hs71, hi72⟩, h_16⟩ := h_15
  refine fw_iald (show decode _ _ = .ok (.iaload, 1) by decide +kernel) hs71 hi72 ?_
  refine fw_callV (mt' := mtX11_noneAt) (mc := 0) (ms := 0) (As := [.int x52, .int x59, .int x66, .int (mI M y68 (ix (103 : Int32)))]) (rest := []) 4 11 n44 (show decode _ _ = .ok (.invokevirtual 314, 3) by decide +kernel) cv_X11_314 ⟨_, rfl, rfl⟩ hr45 hs46 rfl (Nat.le_of_ble_eq_true rfl) (s_X11_noneAt (d := d) (hd_le hd (by decide)) h_16) (by decide) (by decide) (kI (bc' := 0) (bs' := 0) (by decide) (by decide) (fun x74 M73 h_17 => ?_))
  refine fw_istore (i := 4) (ls' := [(4, .int x74), (3, .int x66), (2, .int x59), (1, .int x52), (0, .ref p0)]) (show decode _ _ = .ok (.istore 4, 2) by decide +kernel) (by decide) rfl ?_
  refine fw_aload_n (i := 0) 4 rfl (show decode _ _ = .ok (.aload_n 0, 1) by decide +kernel) ?_
  refine fw_iload_n (i := 1) 3 rfl (show decode _ _ = .ok (.iload_n 1, 1) by decide +kernel) ?_
  refine fw_iload_n (i := 2) 2 rfl (show decode _ _ = .ok (.iload_n 2, 1) by decide +kernel) ?_
  refine fw_iload_n (i := 3) 1 rfl (show decode _ _ = .ok (.iload_n 3, 1) by decide +kernel) ?_
  refine fw_aload_n (i := 0) 4 rfl (show decode _ _ = .ok (.aload_n 0, 1) by decide +kernel) ?_
  obtain ⟨⟨hr76, n75, hs77⟩, h_18⟩ := h_17
  refine fw_getP (kd := 11) (k := 0) (show decode _ _ = .ok (.getfield 7, 3) by decide +kernel) gf_X11_7 hr76 hs77 rfl ?_
  have h_19 := dR_e h_18
  obtain ⟨y78, hy79, h_20⟩ := h_19
  refine fw_deref hy79 ?_
  refine fw_bipush (v := (103 : Int32)) (show decode _ _ = .ok (.bipush 103, 2) by decide +kernel) (by decide) ?_
  obtain ⟨⟨n80, hs81, hi82⟩, h_21⟩ := h_20
  refine fw_iald (show decode _ _ = .ok (.iaload, 1) by decide +kernel) hs81 hi82 ?_
  refine fw_callV (mt' := mtX11_twiceAt) (mc := 0) (ms := 0) (As := [.int x52, .int x59, .int x66, .int (mI M73 y78 (ix (103 : Int32)))]) (rest := []) 4 11 n75 (show decode _ _ = .ok (.invokevirtual 328, 3) by decide +kernel) cv_X11_328 ⟨_, rfl, rfl⟩ hr76 hs77 rfl (Nat.le_of_ble_eq_true rfl) (s_X11_twiceAt (d := d) (hd_le hd (by decide)) h_21) (by decide) (by decide) (kI (bc' := 0) (bs' := 0) (by decide) (by decide) (fun x84 M83 h_22 => ?_))
  refine fw_istore (i := 5) (ls' := [(5, .int x84), (4, .int x74), (3, .int x66), (2, .int x59), (1, .int x52), (0, .ref p0)]) (show decode _ _ = .ok (.istore 5, 2) by decide +kernel) (by decide) rfl ?_
  refine fw_aload_n (i := 0) 5 rfl (show decode _ _ = .ok (.aload_n 0, 1) by decide +kernel) ?_
  obtain ⟨⟨hr87, n86, hs88⟩, h_23⟩ := h_22
  refine fw_callV (mt' := mtX11_drawn) (mc := 0) (ms := 0) (As := []) (rest := []) 0 11 n86 (show decode _ _ = .ok (.invokevirtual 344, 3) by decide +kernel) cv_X11_344 ⟨_, rfl, rfl⟩ hr87 hs88 rfl (Nat.le_of_ble_eq_true rfl) (s_X11_drawn (d := d) (hd_le hd (by decide)) h_23) (by decide) (by decide) (kI (bc' := 0) (bs' := 0) (by decide) (by decide) (fun x89 M85 h_24 => ?_))
  refine fw_istore (i := 6) (ls' := [(6, .int x89), (5, .int x84), (4, .int x74), (3, .int x66), (2, .int x59), (1, .int x52), (0, .ref p0)]) (show decode _ _ = .ok (.istore 6, 2) by decide +kernel) (by decide) rfl ?_
  refine fw_aload_n (i := 0) 6 rfl (show decode _ _ = .ok (.aload_n 0, 1) by decide +kernel) ?_
  obtain ⟨⟨hr91, n90, hs92⟩, h_25⟩ := h_24
  refine fw_getP (kd := 11) (k := 0) (show decode _ _ = .ok (.getfield 7, 3) by decide +kernel) gf_X11_7 hr91 hs92 rfl ?_
  have h_26 := dR_e h_25
  obtain ⟨y93, hy94, h_27⟩ := h_26
  refine fw_deref hy94 ?_
  refine fw_bipush (v := (104 : Int32)) (show decode _ _ = .ok (.bipush 104, 2) by decide +kernel) (by decide) ?_
  refine fw_dup2_11 (show decode _ _ = .ok (.dup2, 1) by decide +kernel) rfl rfl ?_
  obtain ⟨⟨n95, hs96, hi97⟩, h_28⟩ := h_27
  refine fw_iald (show decode _ _ = .ok (.iaload, 1) by decide +kernel) hs96 hi97 ?_
  refine fw_iload (i := 6) 0 rfl (show decode _ _ = .ok (.iload 6, 2) by decide +kernel) ?_
  refine fw_iload (i := 4) 2 rfl (show decode _ _ = .ok (.iload 4, 2) by decide +kernel) ?_
  refine fw_icmp_ge 81 (show decode _ _ = .ok (.if_icmp .ge 7, 3) by decide +kernel) (by decide) (fun hc99 => ?_) (fun hc99 => ?_)
  · have h_29 := ipos hc99 h_28
    refine fw_iload (i := 6) 0 rfl (show decode _ _ = .ok (.iload 6, 2) by decide +kernel) ?_
    refine fw_iload (i := 4) 2 rfl (show decode _ _ = .ok (.iload 4, 2) by decide +kernel) ?_
    refine fw_iload (i := 5) 1 rfl (show decode _ _ = .ok (.iload 5, 2) by decide +kernel) ?_
    refine fw_iadd (show decode _ _ = .ok (.iadd, 1) by decide +kernel) ?_
    refine fw_icmp_ge 95 (show decode _ _ = .ok (.if_icmp .ge 7, 3) by decide +kernel) (by decide) (fun hc98 => ?_) (fun hc98 => ?_)
    · have h_30 := ipos hc98 h_29
      refine fw_iconst (v := (1 : Int32)) (show decode _ _ = .ok (.iconst 1, 1) by decide +kernel) (by decide) ?_
      refine FW.sub [6, 4, 3] (ls' := [(0, .ref p0), (2, .int x59), (3, .int x66)]) rfl ?_
      exact sj_X11_counted_96 hd h_30
    · have h_31 := ineg hc98 h_29
      refine fw_iconst (v := (2 : Int32)) (show decode _ _ = .ok (.iconst 2, 1) by decide +kernel) (by decide) ?_
      refine fw_goto 96 (show decode _ _ = .ok (.goto 4, 3) by decide +kernel) (by decide) ?_
      refine FW.sub [6, 4, 3] (ls' := [(0, .ref p0), (2, .int x59), (3, .int x66)]) rfl ?_
      exact sj_X11_counted_96 hd h_31
  · have h_32 := ineg hc99 h_28
    refine fw_iconst (v := (0 : Int32)) (show decode _ _ = .ok (.iconst 0, 1) by decide +kernel) (by decide) ?_
    refine fw_goto 96 (show decode _ _ = .ok (.goto 18, 3) by decide +kernel) (by decide) ?_
    refine FW.sub [6, 4, 3] (ls' := [(0, .ref p0), (2, .int x59), (3, .int x66)]) rfl ?_
    exact sj_X11_counted_96 hd h_32
def j_X11_stepNow_129 (φ : fM → Prop) (p0 : Nat) (M : fM) : Prop := isO M p0 11 ∧ w_X11_counted p0 M fun M1 => φ M1
set_option maxRecDepth 100000 in
theorem sj_X11_stepNow_129 {g : GT} {d : Nat} (hd : 8 ≤ d + 1) {φ : fM → Prop} {p0 : Nat} {M : fM} (h : j_X11_stepNow_129 φ p0 M) : FW g mtX11_stepNow (d + 1) 129 [(0, .ref p0)] [] M 0 0 (rV φ) := by
  unfold j_X11_stepNow_129 at h
  refine fw_aload_n (i := 0) 0 rfl (show decode _ _ = .ok (.aload_n 0, 1) by decide +kernel) ?_
  obtain ⟨⟨hr3, n2, hs4⟩, h_1⟩ := h
  refine fw_callV (mt' := mtX11_counted) (mc := 0) (ms := 0) (As := []) (rest := []) 0 11 n2 (show decode _ _ = .ok (.invokevirtual 350, 3) by decide +kernel) cv_X11_350 ⟨_, rfl, rfl⟩ hr3 hs4 rfl (Nat.le_of_ble_eq_true rfl) (s_X11_counted (d := d) (hd_le hd (by decide)) h_1) (by decide) (by decide) (kV (bc' := 0) (bs' := 0) (by decide) (by decide) (fun M1 h_2 => ?_))
  exact fw_ret (v := none) .return_ (show decode _ _ = .ok (.return_, 1) by decide +kernel) ⟨rfl, rfl⟩ ⟨rfl, h_2⟩
def w_X11_stepNow (p0 : Nat) (M : fM) (φ : fM → Prop) : Prop := isO M p0 11 ∧ dR (mP M p0 0) fun y8 => inA M y8 12 (100 : Int32) ∧ nm (mI M y8 (ix (100 : Int32))) fun x13 => dR (mP M p0 0) fun y15 => inA M y15 12 (101 : Int32) ∧ nm (mI M y15 (ix (101 : Int32))) fun x20 => dR (mP M p0 0) fun y22 => inA M y22 12 (102 : Int32) ∧ nm (mI M y22 (ix (102 : Int32))) fun x27 => dR (mP M p0 0) fun y29 => inA M y29 12 (105 : Int32) ∧ nm ((mI M y29 (ix (105 : Int32))) + (1 : Int32)) fun x34 => 6 ≤ y29 ∧ inA M y29 12 (105 : Int32) ∧ st (wI M y29 (ix (105 : Int32)) x34) fun M40 => dR (mP M40 p0 0) fun y42 => inA M40 y42 12 (103 : Int32) ∧ w_X11_stepsOf p0 x20 M40 fun x48 M47 => iF ((mI M40 y42 (ix (103 : Int32))) = x48) (isO M47 p0 11 ∧ dR (mP M47 p0 0) fun y110 => inA M47 y110 12 (106 : Int32) ∧ w_X11_jarOf p0 x13 x20 x27 M47 fun x116 M115 => nm ((mI M47 y110 (ix (106 : Int32))) + x116) fun x117 => 6 ≤ y110 ∧ inA M115 y110 12 (106 : Int32) ∧ st (wI M115 y110 (ix (106 : Int32)) x117) fun M123 => isO M123 p0 11 ∧ w_X11_down p0 (1 : Int32) M123 fun M125 => φ M125) (isO M47 p0 11 ∧ dR (mP M47 p0 0) fun y52 => inA M47 y52 12 (103 : Int32) ∧ nm ((mI M47 y52 (ix (103 : Int32))) + (1 : Int32)) fun x57 => 6 ≤ y52 ∧ inA M47 y52 12 (103 : Int32) ∧ st (wI M47 y52 (ix (103 : Int32)) x57) fun M63 => dR (mP M63 p0 0) fun y65 => inA M63 y65 12 (103 : Int32) ∧ w_X11_tripsAt p0 x13 x20 x27 (mI M63 y65 (ix (103 : Int32))) M63 fun x71 M70 => iF (x71 = 0) (j_X11_stepNow_129 φ p0 M70) (isO M70 p0 11 ∧ dR (mP M70 p0 0) fun y75 => inA M70 y75 12 (106 : Int32) ∧ w_X11_fallOf p0 x13 x20 x27 M70 fun x81 M80 => nm ((mI M70 y75 (ix (106 : Int32))) + x81) fun x82 => 6 ≤ y75 ∧ inA M80 y75 12 (106 : Int32) ∧ st (wI M80 y75 (ix (106 : Int32)) x82) fun M88 => isO M88 p0 11 ∧ dR (mP M88 p0 0) fun y93 => inA M88 y93 12 (107 : Int32) ∧ nm ((mI M88 y93 (ix (107 : Int32))) + (1 : Int32)) fun x98 => 6 ≤ y93 ∧ inA M88 y93 12 (107 : Int32) ∧ st (wI M88 y93 (ix (107 : Int32)) x98) fun M104 => j_X11_stepNow_129 φ p0 M104))
set_option maxRecDepth 100000 in
theorem s_X11_stepNow {g : GT} {d : Nat} (hd : 8 ≤ d) {p0 : Nat} {M : fM} {φ : fM → Prop} (h : w_X11_stepNow p0 M φ) : FC g mtX11_stepNow d [.ref p0] M 0 0 (rV φ) := by
  obtain ⟨d, rfl⟩ : ∃ e, d = e + 1 := ⟨d - 1, by omega⟩
  unfold w_X11_stepNow at h
  refine FC.intro (nL := 4) (by decide) rfl (Nat.le_of_ble_eq_true rfl) ?_
  show FW g mtX11_stepNow (d + 1) 0 [(0, .ref p0)] [] M 0 0 (rV φ)
  refine fw_aload_n (i := 0) 0 rfl (show decode _ _ = .ok (.aload_n 0, 1) by decide +kernel) ?_
  obtain ⟨⟨hr6, n5, hs7⟩, h_1⟩ := h
  refine fw_getP (kd := 11) (k := 0) (show decode _ _ = .ok (.getfield 7, 3) by decide +kernel) gf_X11_7 hr6 hs7 rfl ?_
  have h_2 := dR_e h_1
  obtain ⟨y8, hy9, h_3⟩ := h_2
  refine fw_deref hy9 ?_
  refine fw_bipush (v := (100 : Int32)) (show decode _ _ = .ok (.bipush 100, 2) by decide +kernel) (by decide) ?_
  obtain ⟨⟨n10, hs11, hi12⟩, h_4⟩ := h_3
  refine fw_iald (show decode _ _ = .ok (.iaload, 1) by decide +kernel) hs11 hi12 ?_
  refine fw_nmI (fun x13 ex14 => ?_)
  have h_5 := h_4 x13 ex14
  refine fw_istore_n (i := 1) (ls' := [(1, .int x13), (0, .ref p0)]) (show decode _ _ = .ok (.istore_n 1, 1) by decide +kernel) (by decide) rfl ?_
  refine fw_aload_n (i := 0) 1 rfl (show decode _ _ = .ok (.aload_n 0, 1) by decide +kernel) ?_
  refine fw_getP (kd := 11) (k := 0) (show decode _ _ = .ok (.getfield 7, 3) by decide +kernel) gf_X11_7 hr6 hs7 rfl ?_
  have h_6 := dR_e h_5
  obtain ⟨y15, hy16, h_7⟩ := h_6
  refine fw_deref hy16 ?_
  refine fw_bipush (v := (101 : Int32)) (show decode _ _ = .ok (.bipush 101, 2) by decide +kernel) (by decide) ?_
  obtain ⟨⟨n17, hs18, hi19⟩, h_8⟩ := h_7
  refine fw_iald (show decode _ _ = .ok (.iaload, 1) by decide +kernel) hs18 hi19 ?_
  refine fw_nmI (fun x20 ex21 => ?_)
  have h_9 := h_8 x20 ex21
  refine fw_istore_n (i := 2) (ls' := [(2, .int x20), (1, .int x13), (0, .ref p0)]) (show decode _ _ = .ok (.istore_n 2, 1) by decide +kernel) (by decide) rfl ?_
  refine fw_aload_n (i := 0) 2 rfl (show decode _ _ = .ok (.aload_n 0, 1) by decide +kernel) ?_
  refine fw_getP (kd := 11) (k := 0) (show decode _ _ = .ok (.getfield 7, 3) by decide +kernel) gf_X11_7 hr6 hs7 rfl ?_
  have h_10 := dR_e h_9
  obtain ⟨y22, hy23, h_11⟩ := h_10
  refine fw_deref hy23 ?_
  refine fw_bipush (v := (102 : Int32)) (show decode _ _ = .ok (.bipush 102, 2) by decide +kernel) (by decide) ?_
  obtain ⟨⟨n24, hs25, hi26⟩, h_12⟩ := h_11
  refine fw_iald (show decode _ _ = .ok (.iaload, 1) by decide +kernel) hs25 hi26 ?_
  refine fw_nmI (fun x27 ex28 => ?_)
  have h_13 := h_12 x27 ex28
  refine fw_istore_n (i := 3) (ls' := [(3, .int x27), (2, .int x20), (1, .int x13), (0, .ref p0)]) (show decode _ _ = .ok (.istore_n 3, 1) by decide +kernel) (by decide) rfl ?_
  refine fw_aload_n (i := 0) 3 rfl (show decode _ _ = .ok (.aload_n 0, 1) by decide +kernel) ?_
  refine fw_getP (kd := 11) (k := 0) (show decode _ _ = .ok (.getfield 7, 3) by decide +kernel) gf_X11_7 hr6 hs7 rfl ?_
  have h_14 := dR_e h_13
  obtain ⟨y29, hy30, h_15⟩ := h_14
  refine fw_deref hy30 ?_
  refine fw_bipush (v := (105 : Int32)) (show decode _ _ = .ok (.bipush 105, 2) by decide +kernel) (by decide) ?_
  refine fw_dup2_11 (show decode _ _ = .ok (.dup2, 1) by decide +kernel) rfl rfl ?_
  obtain ⟨⟨n31, hs32, hi33⟩, h_16⟩ := h_15
  refine fw_iald (show decode _ _ = .ok (.iaload, 1) by decide +kernel) hs32 hi33 ?_
  refine fw_iconst (v := (1 : Int32)) (show decode _ _ = .ok (.iconst 1, 1) by decide +kernel) (by decide) ?_
  refine fw_iadd (show decode _ _ = .ok (.iadd, 1) by decide +kernel) ?_
  refine fw_nmI (fun x34 ex35 => ?_)
  have h_17 := h_16 x34 ex35
  obtain ⟨hr39, ⟨n36, hs37, hi38⟩, h_18⟩ := h_17
  refine fw_iast (show decode _ _ = .ok (.iastore, 1) by decide +kernel) hr39 hs37 hi38 ?_
  refine FW.nmM (fun M40 eM41 => ?_)
  have h_19 := h_18 M40 eM41
  refine fw_aload_n (i := 0) 3 rfl (show decode _ _ = .ok (.aload_n 0, 1) by decide +kernel) ?_
  refine fw_getP (kd := 11) (k := 0) (show decode _ _ = .ok (.getfield 7, 3) by decide +kernel) gf_X11_7 hr6 (mSw_I eM41 hs7) rfl ?_
  have h_20 := dR_e h_19
  obtain ⟨y42, hy43, h_21⟩ := h_20
  refine fw_deref hy43 ?_
  refine fw_bipush (v := (103 : Int32)) (show decode _ _ = .ok (.bipush 103, 2) by decide +kernel) (by decide) ?_
  obtain ⟨⟨n44, hs45, hi46⟩, h_22⟩ := h_21
  refine fw_iald (show decode _ _ = .ok (.iaload, 1) by decide +kernel) hs45 hi46 ?_
  refine fw_aload_n (i := 0) 3 rfl (show decode _ _ = .ok (.aload_n 0, 1) by decide +kernel) ?_
  refine fw_iload_n (i := 2) 1 rfl (show decode _ _ = .ok (.iload_n 2, 1) by decide +kernel) ?_
  refine fw_callV (mt' := mtX11_stepsOf) (mc := 0) (ms := 0) (As := [.int x20]) (rest := [.int (mI M40 y42 (ix (103 : Int32)))]) 1 11 n5 (show decode _ _ = .ok (.invokevirtual 74, 3) by decide +kernel) cv_X11_74 ⟨_, rfl, rfl⟩ hr6 (mSw_I eM41 hs7) rfl (Nat.le_of_ble_eq_true rfl) (s_X11_stepsOf (d := d) (hd_le hd (by decide)) h_22) (by decide) (by decide) (kI (bc' := 0) (bs' := 0) (by decide) (by decide) (fun x48 M47 h_23 => ?_))
  refine fw_icmp_ne 73 (show decode _ _ = .ok (.if_icmp .ne 26, 3) by decide +kernel) (by decide) (fun hc129 => ?_) (fun hc129 => ?_)
  · have h_24 := ineg hc129 h_23
    refine fw_aload_n (i := 0) 3 rfl (show decode _ _ = .ok (.aload_n 0, 1) by decide +kernel) ?_
    obtain ⟨⟨hr50, n49, hs51⟩, h_25⟩ := h_24
    refine fw_getP (kd := 11) (k := 0) (show decode _ _ = .ok (.getfield 7, 3) by decide +kernel) gf_X11_7 hr50 hs51 rfl ?_
    have h_26 := dR_e h_25
    obtain ⟨y52, hy53, h_27⟩ := h_26
    refine fw_deref hy53 ?_
    refine fw_bipush (v := (103 : Int32)) (show decode _ _ = .ok (.bipush 103, 2) by decide +kernel) (by decide) ?_
    refine fw_dup2_11 (show decode _ _ = .ok (.dup2, 1) by decide +kernel) rfl rfl ?_
    obtain ⟨⟨n54, hs55, hi56⟩, h_28⟩ := h_27
    refine fw_iald (show decode _ _ = .ok (.iaload, 1) by decide +kernel) hs55 hi56 ?_
    refine fw_iconst (v := (1 : Int32)) (show decode _ _ = .ok (.iconst 1, 1) by decide +kernel) (by decide) ?_
    refine fw_iadd (show decode _ _ = .ok (.iadd, 1) by decide +kernel) ?_
    refine fw_nmI (fun x57 ex58 => ?_)
    have h_29 := h_28 x57 ex58
    obtain ⟨hr62, ⟨n59, hs60, hi61⟩, h_30⟩ := h_29
    refine fw_iast (show decode _ _ = .ok (.iastore, 1) by decide +kernel) hr62 hs60 hi61 ?_
    refine FW.nmM (fun M63 eM64 => ?_)
    have h_31 := h_30 M63 eM64
    refine fw_aload_n (i := 0) 3 rfl (show decode _ _ = .ok (.aload_n 0, 1) by decide +kernel) ?_
    refine fw_iload_n (i := 1) 2 rfl (show decode _ _ = .ok (.iload_n 1, 1) by decide +kernel) ?_
    refine fw_iload_n (i := 2) 1 rfl (show decode _ _ = .ok (.iload_n 2, 1) by decide +kernel) ?_
    refine fw_iload_n (i := 3) 0 rfl (show decode _ _ = .ok (.iload_n 3, 1) by decide +kernel) ?_
    refine fw_aload_n (i := 0) 3 rfl (show decode _ _ = .ok (.aload_n 0, 1) by decide +kernel) ?_
    refine fw_getP (kd := 11) (k := 0) (show decode _ _ = .ok (.getfield 7, 3) by decide +kernel) gf_X11_7 hr50 (mSw_I eM64 hs51) rfl ?_
    have h_32 := dR_e h_31
    obtain ⟨y65, hy66, h_33⟩ := h_32
    refine fw_deref hy66 ?_
    refine fw_bipush (v := (103 : Int32)) (show decode _ _ = .ok (.bipush 103, 2) by decide +kernel) (by decide) ?_
    obtain ⟨⟨n67, hs68, hi69⟩, h_34⟩ := h_33
    refine fw_iald (show decode _ _ = .ok (.iaload, 1) by decide +kernel) hs68 hi69 ?_
    refine fw_callV (mt' := mtX11_tripsAt) (mc := 0) (ms := 0) (As := [.int x13, .int x20, .int x27, .int (mI M63 y65 (ix (103 : Int32)))]) (rest := []) 4 11 n49 (show decode _ _ = .ok (.invokevirtual 331, 3) by decide +kernel) cv_X11_331 ⟨_, rfl, rfl⟩ hr50 (mSw_I eM64 hs51) rfl (Nat.le_of_ble_eq_true rfl) (s_X11_tripsAt (d := d) (hd_le hd (by decide)) h_34) (by decide) (by decide) (kI (bc' := 0) (bs' := 0) (by decide) (by decide) (fun x71 M70 h_35 => ?_))
    refine fw_if_eq 129 (show decode _ _ = .ok (.ifCond .eq 31, 3) by decide +kernel) (by decide) (fun hc106 => ?_) (fun hc106 => ?_)
    · have h_36 := ipos hc106 h_35
      refine FW.sub [3] (ls' := [(0, .ref p0)]) rfl ?_
      exact sj_X11_stepNow_129 hd h_36
    · have h_37 := ineg hc106 h_35
      refine fw_aload_n (i := 0) 3 rfl (show decode _ _ = .ok (.aload_n 0, 1) by decide +kernel) ?_
      obtain ⟨⟨hr73, n72, hs74⟩, h_38⟩ := h_37
      refine fw_getP (kd := 11) (k := 0) (show decode _ _ = .ok (.getfield 7, 3) by decide +kernel) gf_X11_7 hr73 hs74 rfl ?_
      have h_39 := dR_e h_38
      obtain ⟨y75, hy76, h_40⟩ := h_39
      refine fw_deref hy76 ?_
      refine fw_bipush (v := (106 : Int32)) (show decode _ _ = .ok (.bipush 106, 2) by decide +kernel) (by decide) ?_
      refine fw_dup2_11 (show decode _ _ = .ok (.dup2, 1) by decide +kernel) rfl rfl ?_
      obtain ⟨⟨n77, hs78, hi79⟩, h_41⟩ := h_40
      refine fw_iald (show decode _ _ = .ok (.iaload, 1) by decide +kernel) hs78 hi79 ?_
      refine fw_aload_n (i := 0) 3 rfl (show decode _ _ = .ok (.aload_n 0, 1) by decide +kernel) ?_
      refine fw_iload_n (i := 1) 2 rfl (show decode _ _ = .ok (.iload_n 1, 1) by decide +kernel) ?_
      refine fw_iload_n (i := 2) 1 rfl (show decode _ _ = .ok (.iload_n 2, 1) by decide +kernel) ?_
      refine fw_iload_n (i := 3) 0 rfl (show decode _ _ = .ok (.iload_n 3, 1) by decide +kernel) ?_
      refine fw_callV (mt' := mtX11_fallOf) (mc := 0) (ms := 0) (As := [.int x13, .int x20, .int x27]) (rest := [.int (mI M70 y75 (ix (106 : Int32))), .int (106 : Int32), .ref y75]) 3 11 n72 (show decode _ _ = .ok (.invokevirtual 338, 3) by decide +kernel) cv_X11_338 ⟨_, rfl, rfl⟩ hr73 hs74 rfl (Nat.le_of_ble_eq_true rfl) (s_X11_fallOf (d := d) (hd_le hd (by decide)) h_41) (by decide) (by decide) (kI (bc' := 0) (bs' := 0) (by decide) (by decide) (fun x81 M80 h_42 => ?_))
      refine fw_iadd (show decode _ _ = .ok (.iadd, 1) by decide +kernel) ?_
      refine fw_nmI (fun x82 ex83 => ?_)
      have h_43 := h_42 x82 ex83
      obtain ⟨hr87, ⟨n84, hs85, hi86⟩, h_44⟩ := h_43
      refine fw_iast (show decode _ _ = .ok (.iastore, 1) by decide +kernel) hr87 hs85 hi86 ?_
      refine FW.nmM (fun M88 eM89 => ?_)
      have h_45 := h_44 M88 eM89
      refine fw_aload_n (i := 0) 3 rfl (show decode _ _ = .ok (.aload_n 0, 1) by decide +kernel) ?_
      obtain ⟨⟨hr91, n90, hs92⟩, h_46⟩ := h_45
      refine fw_getP (kd := 11) (k := 0) (show decode _ _ = .ok (.getfield 7, 3) by decide +kernel) gf_X11_7 hr91 hs92 rfl ?_
      have h_47 := dR_e h_46
      obtain ⟨y93, hy94, h_48⟩ := h_47
      refine fw_deref hy94 ?_
      refine fw_bipush (v := (107 : Int32)) (show decode _ _ = .ok (.bipush 107, 2) by decide +kernel) (by decide) ?_
      refine fw_dup2_11 (show decode _ _ = .ok (.dup2, 1) by decide +kernel) rfl rfl ?_
      obtain ⟨⟨n95, hs96, hi97⟩, h_49⟩ := h_48
      refine fw_iald (show decode _ _ = .ok (.iaload, 1) by decide +kernel) hs96 hi97 ?_
      refine fw_iconst (v := (1 : Int32)) (show decode _ _ = .ok (.iconst 1, 1) by decide +kernel) (by decide) ?_
      refine fw_iadd (show decode _ _ = .ok (.iadd, 1) by decide +kernel) ?_
      refine fw_nmI (fun x98 ex99 => ?_)
      have h_50 := h_49 x98 ex99
      obtain ⟨hr103, ⟨n100, hs101, hi102⟩, h_51⟩ := h_50
      refine fw_iast (show decode _ _ = .ok (.iastore, 1) by decide +kernel) hr103 hs101 hi102 ?_
      refine FW.nmM (fun M104 eM105 => ?_)
      have h_52 := h_51 M104 eM105
      refine FW.sub [3] (ls' := [(0, .ref p0)]) rfl ?_
      exact sj_X11_stepNow_129 hd h_52
  · have h_53 := ipos hc129 h_23
    refine fw_aload_n (i := 0) 3 rfl (show decode _ _ = .ok (.aload_n 0, 1) by decide +kernel) ?_
    obtain ⟨⟨hr108, n107, hs109⟩, h_54⟩ := h_53
    refine fw_getP (kd := 11) (k := 0) (show decode _ _ = .ok (.getfield 7, 3) by decide +kernel) gf_X11_7 hr108 hs109 rfl ?_
    have h_55 := dR_e h_54
    obtain ⟨y110, hy111, h_56⟩ := h_55
    refine fw_deref hy111 ?_
    refine fw_bipush (v := (106 : Int32)) (show decode _ _ = .ok (.bipush 106, 2) by decide +kernel) (by decide) ?_
    refine fw_dup2_11 (show decode _ _ = .ok (.dup2, 1) by decide +kernel) rfl rfl ?_
    obtain ⟨⟨n112, hs113, hi114⟩, h_57⟩ := h_56
    refine fw_iald (show decode _ _ = .ok (.iaload, 1) by decide +kernel) hs113 hi114 ?_
    refine fw_aload_n (i := 0) 3 rfl (show decode _ _ = .ok (.aload_n 0, 1) by decide +kernel) ?_
    refine fw_iload_n (i := 1) 2 rfl (show decode _ _ = .ok (.iload_n 1, 1) by decide +kernel) ?_
    refine fw_iload_n (i := 2) 1 rfl (show decode _ _ = .ok (.iload_n 2, 1) by decide +kernel) ?_
    refine fw_iload_n (i := 3) 0 rfl (show decode _ _ = .ok (.iload_n 3, 1) by decide +kernel) ?_
    refine fw_callV (mt' := mtX11_jarOf) (mc := 0) (ms := 0) (As := [.int x13, .int x20, .int x27]) (rest := [.int (mI M47 y110 (ix (106 : Int32))), .int (106 : Int32), .ref y110]) 3 11 n107 (show decode _ _ = .ok (.invokevirtual 335, 3) by decide +kernel) cv_X11_335 ⟨_, rfl, rfl⟩ hr108 hs109 rfl (Nat.le_of_ble_eq_true rfl) (s_X11_jarOf (d := d) (hd_le hd (by decide)) h_57) (by decide) (by decide) (kI (bc' := 0) (bs' := 0) (by decide) (by decide) (fun x116 M115 h_58 => ?_))
    refine fw_iadd (show decode _ _ = .ok (.iadd, 1) by decide +kernel) ?_
    refine fw_nmI (fun x117 ex118 => ?_)
    have h_59 := h_58 x117 ex118
    obtain ⟨hr122, ⟨n119, hs120, hi121⟩, h_60⟩ := h_59
    refine fw_iast (show decode _ _ = .ok (.iastore, 1) by decide +kernel) hr122 hs120 hi121 ?_
    refine FW.nmM (fun M123 eM124 => ?_)
    have h_61 := h_60 M123 eM124
    refine fw_aload_n (i := 0) 3 rfl (show decode _ _ = .ok (.aload_n 0, 1) by decide +kernel) ?_
    refine fw_iconst (v := (1 : Int32)) (show decode _ _ = .ok (.iconst 1, 1) by decide +kernel) (by decide) ?_
    obtain ⟨⟨hr127, n126, hs128⟩, h_62⟩ := h_61
    refine fw_callV (mt' := mtX11_down) (mc := 0) (ms := 0) (As := [.int (1 : Int32)]) (rest := []) 1 11 n126 (show decode _ _ = .ok (.invokevirtual 347, 3) by decide +kernel) cv_X11_347 ⟨_, rfl, rfl⟩ hr127 hs128 rfl (Nat.le_of_ble_eq_true rfl) (s_X11_down (d := d) (hd_le hd (by decide)) h_62) (by decide) (by decide) (kV (bc' := 0) (bs' := 0) (by decide) (by decide) (fun M125 h_63 => ?_))
    exact fw_ret (v := none) .return_ (show decode _ _ = .ok (.return_, 1) by decide +kernel) ⟨rfl, rfl⟩ ⟨rfl, h_63⟩
def w_X11_step (p0 : Nat) (M : fM) (φ : Int32 → fM → Prop) : Prop := isO M p0 11 ∧ dR (mP M p0 0) fun y4 => inA M y4 12 (108 : Int32) ∧ iF ((mI M y4 (ix (108 : Int32))) = 0) (φ (-1 : Int32) M) (w_X11_keep p0 M fun M9 => isO M9 p0 11 ∧ w_X11_stepNow p0 M9 fun M10 => isO M10 p0 11 ∧ dR (mP M10 p0 0) fun y17 => inA M10 y17 12 (103 : Int32) ∧ φ (mI M10 y17 (ix (103 : Int32))) M10)
set_option maxRecDepth 100000 in
theorem s_X11_step {g : GT} {d : Nat} (hd : 9 ≤ d) {p0 : Nat} {M : fM} {φ : Int32 → fM → Prop} (h : w_X11_step p0 M φ) : FC g mtX11_step d [.ref p0] M 0 0 (rI φ) := by
  obtain ⟨d, rfl⟩ : ∃ e, d = e + 1 := ⟨d - 1, by omega⟩
  unfold w_X11_step at h
  refine FC.intro (nL := 1) (by decide) rfl (Nat.le_of_ble_eq_true rfl) ?_
  show FW g mtX11_step (d + 1) 0 [(0, .ref p0)] [] M 0 0 (rI φ)
  refine fw_aload_n (i := 0) 0 rfl (show decode _ _ = .ok (.aload_n 0, 1) by decide +kernel) ?_
  obtain ⟨⟨hr2, n1, hs3⟩, h_1⟩ := h
  refine fw_getP (kd := 11) (k := 0) (show decode _ _ = .ok (.getfield 7, 3) by decide +kernel) gf_X11_7 hr2 hs3 rfl ?_
  have h_2 := dR_e h_1
  obtain ⟨y4, hy5, h_3⟩ := h_2
  refine fw_deref hy5 ?_
  refine fw_bipush (v := (108 : Int32)) (show decode _ _ = .ok (.bipush 108, 2) by decide +kernel) (by decide) ?_
  obtain ⟨⟨n6, hs7, hi8⟩, h_4⟩ := h_3
  refine fw_iald (show decode _ _ = .ok (.iaload, 1) by decide +kernel) hs7 hi8 ?_
  refine fw_if_ne 12 (show decode _ _ = .ok (.ifCond .ne 5, 3) by decide +kernel) (by decide) (fun hc22 => ?_) (fun hc22 => ?_)
  · have h_5 := ineg hc22 h_4
    refine fw_aload_n (i := 0) 0 rfl (show decode _ _ = .ok (.aload_n 0, 1) by decide +kernel) ?_
    refine fw_callV (mt' := mtX11_keep) (mc := 0) (ms := 0) (As := []) (rest := []) 0 11 n1 (show decode _ _ = .ok (.invokevirtual 353, 3) by decide +kernel) cv_X11_353 ⟨_, rfl, rfl⟩ hr2 hs3 rfl (Nat.le_of_ble_eq_true rfl) (s_X11_keep (d := d) (hd_le hd (by decide)) h_5) (by decide) (by decide) (kV (bc' := 0) (bs' := 0) (by decide) (by decide) (fun M9 h_6 => ?_))
    refine fw_aload_n (i := 0) 0 rfl (show decode _ _ = .ok (.aload_n 0, 1) by decide +kernel) ?_
    obtain ⟨⟨hr12, n11, hs13⟩, h_7⟩ := h_6
    refine fw_callV (mt' := mtX11_stepNow) (mc := 0) (ms := 0) (As := []) (rest := []) 0 11 n11 (show decode _ _ = .ok (.invokevirtual 359, 3) by decide +kernel) cv_X11_359 ⟨_, rfl, rfl⟩ hr12 hs13 rfl (Nat.le_of_ble_eq_true rfl) (s_X11_stepNow (d := d) (hd_le hd (by decide)) h_7) (by decide) (by decide) (kV (bc' := 0) (bs' := 0) (by decide) (by decide) (fun M10 h_8 => ?_))
    refine fw_aload_n (i := 0) 0 rfl (show decode _ _ = .ok (.aload_n 0, 1) by decide +kernel) ?_
    obtain ⟨⟨hr15, n14, hs16⟩, h_9⟩ := h_8
    refine fw_getP (kd := 11) (k := 0) (show decode _ _ = .ok (.getfield 7, 3) by decide +kernel) gf_X11_7 hr15 hs16 rfl ?_
    have h_10 := dR_e h_9
    obtain ⟨y17, hy18, h_11⟩ := h_10
    refine fw_deref hy18 ?_
    refine fw_bipush (v := (103 : Int32)) (show decode _ _ = .ok (.bipush 103, 2) by decide +kernel) (by decide) ?_
    obtain ⟨⟨n19, hs20, hi21⟩, h_12⟩ := h_11
    refine fw_iald (show decode _ _ = .ok (.iaload, 1) by decide +kernel) hs20 hi21 ?_
    exact fw_ret (v := some (.int (mI M10 y17 (ix (103 : Int32))))) .ireturn (show decode _ _ = .ok (.ireturn, 1) by decide +kernel) ⟨rfl, Or.inl rfl⟩ ⟨_, rfl, h_12⟩
  · have h_13 := ipos hc22 h_4
    refine fw_iconst (v := (-1 : Int32)) (show decode _ _ = .ok (.iconst (-1), 1) by decide +kernel) (by decide) ?_
    exact fw_ret (v := some (.int (-1 : Int32))) .ireturn (show decode _ _ = .ok (.ireturn, 1) by decide +kernel) ⟨rfl, Or.inl rfl⟩ ⟨_, rfl, h_13⟩
def w_X11_toeNow (p0 : Nat) (M : fM) (φ : fM → Prop) : Prop := isO M p0 11 ∧ dR (mP M p0 0) fun y4 => inA M y4 12 (105 : Int32) ∧ nm ((mI M y4 (ix (105 : Int32))) + (3 : Int32)) fun x9 => 6 ≤ y4 ∧ inA M y4 12 (105 : Int32) ∧ st (wI M y4 (ix (105 : Int32)) x9) fun M15 => dR (mP M15 p0 0) fun y17 => inA M15 y17 12 (103 : Int32) ∧ dR (mP M15 p0 0) fun y22 => inA M15 y22 12 (101 : Int32) ∧ w_X11_stepsOf p0 (mI M15 y22 (ix (101 : Int32))) M15 fun x28 M27 => iF ((mI M15 y17 (ix (103 : Int32))) = x28) (isO M27 p0 11 ∧ w_X11_down p0 (0 : Int32) M27 fun M46 => φ M46) (isO M27 p0 11 ∧ dR (mP M27 p0 0) fun y32 => inA M27 y32 12 (103 : Int32) ∧ nm ((mI M27 y32 (ix (103 : Int32))) + (1 : Int32)) fun x37 => 6 ≤ y32 ∧ inA M27 y32 12 (103 : Int32) ∧ st (wI M27 y32 (ix (103 : Int32)) x37) fun M43 => w_X11_counted p0 M43 fun M45 => φ M45)
set_option maxRecDepth 100000 in
theorem s_X11_toeNow {g : GT} {d : Nat} (hd : 8 ≤ d) {p0 : Nat} {M : fM} {φ : fM → Prop} (h : w_X11_toeNow p0 M φ) : FC g mtX11_toeNow d [.ref p0] M 0 0 (rV φ) := by
  obtain ⟨d, rfl⟩ : ∃ e, d = e + 1 := ⟨d - 1, by omega⟩
  unfold w_X11_toeNow at h
  refine FC.intro (nL := 1) (by decide) rfl (Nat.le_of_ble_eq_true rfl) ?_
  show FW g mtX11_toeNow (d + 1) 0 [(0, .ref p0)] [] M 0 0 (rV φ)
  refine fw_aload_n (i := 0) 0 rfl (show decode _ _ = .ok (.aload_n 0, 1) by decide +kernel) ?_
  obtain ⟨⟨hr2, n1, hs3⟩, h_1⟩ := h
  refine fw_getP (kd := 11) (k := 0) (show decode _ _ = .ok (.getfield 7, 3) by decide +kernel) gf_X11_7 hr2 hs3 rfl ?_
  have h_2 := dR_e h_1
  obtain ⟨y4, hy5, h_3⟩ := h_2
  refine fw_deref hy5 ?_
  refine fw_bipush (v := (105 : Int32)) (show decode _ _ = .ok (.bipush 105, 2) by decide +kernel) (by decide) ?_
  refine fw_dup2_11 (show decode _ _ = .ok (.dup2, 1) by decide +kernel) rfl rfl ?_
  obtain ⟨⟨n6, hs7, hi8⟩, h_4⟩ := h_3
  refine fw_iald (show decode _ _ = .ok (.iaload, 1) by decide +kernel) hs7 hi8 ?_
  refine fw_iconst (v := (3 : Int32)) (show decode _ _ = .ok (.iconst 3, 1) by decide +kernel) (by decide) ?_
  refine fw_iadd (show decode _ _ = .ok (.iadd, 1) by decide +kernel) ?_
  refine fw_nmI (fun x9 ex10 => ?_)
  have h_5 := h_4 x9 ex10
  obtain ⟨hr14, ⟨n11, hs12, hi13⟩, h_6⟩ := h_5
  refine fw_iast (show decode _ _ = .ok (.iastore, 1) by decide +kernel) hr14 hs12 hi13 ?_
  refine FW.nmM (fun M15 eM16 => ?_)
  have h_7 := h_6 M15 eM16
  refine fw_aload_n (i := 0) 0 rfl (show decode _ _ = .ok (.aload_n 0, 1) by decide +kernel) ?_
  refine fw_getP (kd := 11) (k := 0) (show decode _ _ = .ok (.getfield 7, 3) by decide +kernel) gf_X11_7 hr2 (mSw_I eM16 hs3) rfl ?_
  have h_8 := dR_e h_7
  obtain ⟨y17, hy18, h_9⟩ := h_8
  refine fw_deref hy18 ?_
  refine fw_bipush (v := (103 : Int32)) (show decode _ _ = .ok (.bipush 103, 2) by decide +kernel) (by decide) ?_
  obtain ⟨⟨n19, hs20, hi21⟩, h_10⟩ := h_9
  refine fw_iald (show decode _ _ = .ok (.iaload, 1) by decide +kernel) hs20 hi21 ?_
  refine fw_aload_n (i := 0) 0 rfl (show decode _ _ = .ok (.aload_n 0, 1) by decide +kernel) ?_
  refine fw_aload_n (i := 0) 0 rfl (show decode _ _ = .ok (.aload_n 0, 1) by decide +kernel) ?_
  refine fw_getP (kd := 11) (k := 0) (show decode _ _ = .ok (.getfield 7, 3) by decide +kernel) gf_X11_7 hr2 (mSw_I eM16 hs3) rfl ?_
  have h_11 := dR_e h_10
  obtain ⟨y22, hy23, h_12⟩ := h_11
  refine fw_deref hy23 ?_
  refine fw_bipush (v := (101 : Int32)) (show decode _ _ = .ok (.bipush 101, 2) by decide +kernel) (by decide) ?_
  obtain ⟨⟨n24, hs25, hi26⟩, h_13⟩ := h_12
  refine fw_iald (show decode _ _ = .ok (.iaload, 1) by decide +kernel) hs25 hi26 ?_
  refine fw_callV (mt' := mtX11_stepsOf) (mc := 0) (ms := 0) (As := [.int (mI M15 y22 (ix (101 : Int32)))]) (rest := [.int (mI M15 y17 (ix (103 : Int32)))]) 1 11 n1 (show decode _ _ = .ok (.invokevirtual 74, 3) by decide +kernel) cv_X11_74 ⟨_, rfl, rfl⟩ hr2 (mSw_I eM16 hs3) rfl (Nat.le_of_ble_eq_true rfl) (s_X11_stepsOf (d := d) (hd_le hd (by decide)) h_13) (by decide) (by decide) (kI (bc' := 0) (bs' := 0) (by decide) (by decide) (fun x28 M27 h_14 => ?_))
  refine fw_icmp_ne 38 (show decode _ _ = .ok (.if_icmp .ne 9, 3) by decide +kernel) (by decide) (fun hc50 => ?_) (fun hc50 => ?_)
  · have h_15 := ineg hc50 h_14
    refine fw_aload_n (i := 0) 0 rfl (show decode _ _ = .ok (.aload_n 0, 1) by decide +kernel) ?_
    obtain ⟨⟨hr30, n29, hs31⟩, h_16⟩ := h_15
    refine fw_getP (kd := 11) (k := 0) (show decode _ _ = .ok (.getfield 7, 3) by decide +kernel) gf_X11_7 hr30 hs31 rfl ?_
    have h_17 := dR_e h_16
    obtain ⟨y32, hy33, h_18⟩ := h_17
    refine fw_deref hy33 ?_
    refine fw_bipush (v := (103 : Int32)) (show decode _ _ = .ok (.bipush 103, 2) by decide +kernel) (by decide) ?_
    refine fw_dup2_11 (show decode _ _ = .ok (.dup2, 1) by decide +kernel) rfl rfl ?_
    obtain ⟨⟨n34, hs35, hi36⟩, h_19⟩ := h_18
    refine fw_iald (show decode _ _ = .ok (.iaload, 1) by decide +kernel) hs35 hi36 ?_
    refine fw_iconst (v := (1 : Int32)) (show decode _ _ = .ok (.iconst 1, 1) by decide +kernel) (by decide) ?_
    refine fw_iadd (show decode _ _ = .ok (.iadd, 1) by decide +kernel) ?_
    refine fw_nmI (fun x37 ex38 => ?_)
    have h_20 := h_19 x37 ex38
    obtain ⟨hr42, ⟨n39, hs40, hi41⟩, h_21⟩ := h_20
    refine fw_iast (show decode _ _ = .ok (.iastore, 1) by decide +kernel) hr42 hs40 hi41 ?_
    refine FW.nmM (fun M43 eM44 => ?_)
    have h_22 := h_21 M43 eM44
    refine fw_aload_n (i := 0) 0 rfl (show decode _ _ = .ok (.aload_n 0, 1) by decide +kernel) ?_
    refine fw_callV (mt' := mtX11_counted) (mc := 0) (ms := 0) (As := []) (rest := []) 0 11 n29 (show decode _ _ = .ok (.invokevirtual 350, 3) by decide +kernel) cv_X11_350 ⟨_, rfl, rfl⟩ hr30 (mSw_I eM44 hs31) rfl (Nat.le_of_ble_eq_true rfl) (s_X11_counted (d := d) (hd_le hd (by decide)) h_22) (by decide) (by decide) (kV (bc' := 0) (bs' := 0) (by decide) (by decide) (fun M45 h_23 => ?_))
    exact fw_ret (v := none) .return_ (show decode _ _ = .ok (.return_, 1) by decide +kernel) ⟨rfl, rfl⟩ ⟨rfl, h_23⟩
  · have h_24 := ipos hc50 h_14
    refine fw_aload_n (i := 0) 0 rfl (show decode _ _ = .ok (.aload_n 0, 1) by decide +kernel) ?_
    refine fw_iconst (v := (0 : Int32)) (show decode _ _ = .ok (.iconst 0, 1) by decide +kernel) (by decide) ?_
    obtain ⟨⟨hr48, n47, hs49⟩, h_25⟩ := h_24
    refine fw_callV (mt' := mtX11_down) (mc := 0) (ms := 0) (As := [.int (0 : Int32)]) (rest := []) 1 11 n47 (show decode _ _ = .ok (.invokevirtual 347, 3) by decide +kernel) cv_X11_347 ⟨_, rfl, rfl⟩ hr48 hs49 rfl (Nat.le_of_ble_eq_true rfl) (s_X11_down (d := d) (hd_le hd (by decide)) h_25) (by decide) (by decide) (kV (bc' := 0) (bs' := 0) (by decide) (by decide) (fun M46 h_26 => ?_))
    exact fw_ret (v := none) .return_ (show decode _ _ = .ok (.return_, 1) by decide +kernel) ⟨rfl, rfl⟩ ⟨rfl, h_26⟩
def w_X11_toe (p0 : Nat) (M : fM) (φ : Int32 → fM → Prop) : Prop := isO M p0 11 ∧ dR (mP M p0 0) fun y4 => inA M y4 12 (108 : Int32) ∧ iF ((mI M y4 (ix (108 : Int32))) = 0) (φ (-1 : Int32) M) (w_X11_keep p0 M fun M9 => isO M9 p0 11 ∧ w_X11_toeNow p0 M9 fun M10 => isO M10 p0 11 ∧ dR (mP M10 p0 0) fun y17 => inA M10 y17 12 (103 : Int32) ∧ φ (mI M10 y17 (ix (103 : Int32))) M10)
set_option maxRecDepth 100000 in
theorem s_X11_toe {g : GT} {d : Nat} (hd : 9 ≤ d) {p0 : Nat} {M : fM} {φ : Int32 → fM → Prop} (h : w_X11_toe p0 M φ) : FC g mtX11_toe d [.ref p0] M 0 0 (rI φ) := by
  obtain ⟨d, rfl⟩ : ∃ e, d = e + 1 := ⟨d - 1, by omega⟩
  unfold w_X11_toe at h
  refine FC.intro (nL := 1) (by decide) rfl (Nat.le_of_ble_eq_true rfl) ?_
  show FW g mtX11_toe (d + 1) 0 [(0, .ref p0)] [] M 0 0 (rI φ)
  refine fw_aload_n (i := 0) 0 rfl (show decode _ _ = .ok (.aload_n 0, 1) by decide +kernel) ?_
  obtain ⟨⟨hr2, n1, hs3⟩, h_1⟩ := h
  refine fw_getP (kd := 11) (k := 0) (show decode _ _ = .ok (.getfield 7, 3) by decide +kernel) gf_X11_7 hr2 hs3 rfl ?_
  have h_2 := dR_e h_1
  obtain ⟨y4, hy5, h_3⟩ := h_2
  refine fw_deref hy5 ?_
  refine fw_bipush (v := (108 : Int32)) (show decode _ _ = .ok (.bipush 108, 2) by decide +kernel) (by decide) ?_
  obtain ⟨⟨n6, hs7, hi8⟩, h_4⟩ := h_3
  refine fw_iald (show decode _ _ = .ok (.iaload, 1) by decide +kernel) hs7 hi8 ?_
  refine fw_if_ne 12 (show decode _ _ = .ok (.ifCond .ne 5, 3) by decide +kernel) (by decide) (fun hc22 => ?_) (fun hc22 => ?_)
  · have h_5 := ineg hc22 h_4
    refine fw_aload_n (i := 0) 0 rfl (show decode _ _ = .ok (.aload_n 0, 1) by decide +kernel) ?_
    refine fw_callV (mt' := mtX11_keep) (mc := 0) (ms := 0) (As := []) (rest := []) 0 11 n1 (show decode _ _ = .ok (.invokevirtual 353, 3) by decide +kernel) cv_X11_353 ⟨_, rfl, rfl⟩ hr2 hs3 rfl (Nat.le_of_ble_eq_true rfl) (s_X11_keep (d := d) (hd_le hd (by decide)) h_5) (by decide) (by decide) (kV (bc' := 0) (bs' := 0) (by decide) (by decide) (fun M9 h_6 => ?_))
    refine fw_aload_n (i := 0) 0 rfl (show decode _ _ = .ok (.aload_n 0, 1) by decide +kernel) ?_
    obtain ⟨⟨hr12, n11, hs13⟩, h_7⟩ := h_6
    refine fw_callV (mt' := mtX11_toeNow) (mc := 0) (ms := 0) (As := []) (rest := []) 0 11 n11 (show decode _ _ = .ok (.invokevirtual 362, 3) by decide +kernel) cv_X11_362 ⟨_, rfl, rfl⟩ hr12 hs13 rfl (Nat.le_of_ble_eq_true rfl) (s_X11_toeNow (d := d) (hd_le hd (by decide)) h_7) (by decide) (by decide) (kV (bc' := 0) (bs' := 0) (by decide) (by decide) (fun M10 h_8 => ?_))
    refine fw_aload_n (i := 0) 0 rfl (show decode _ _ = .ok (.aload_n 0, 1) by decide +kernel) ?_
    obtain ⟨⟨hr15, n14, hs16⟩, h_9⟩ := h_8
    refine fw_getP (kd := 11) (k := 0) (show decode _ _ = .ok (.getfield 7, 3) by decide +kernel) gf_X11_7 hr15 hs16 rfl ?_
    have h_10 := dR_e h_9
    obtain ⟨y17, hy18, h_11⟩ := h_10
    refine fw_deref hy18 ?_
    refine fw_bipush (v := (103 : Int32)) (show decode _ _ = .ok (.bipush 103, 2) by decide +kernel) (by decide) ?_
    obtain ⟨⟨n19, hs20, hi21⟩, h_12⟩ := h_11
    refine fw_iald (show decode _ _ = .ok (.iaload, 1) by decide +kernel) hs20 hi21 ?_
    exact fw_ret (v := some (.int (mI M10 y17 (ix (103 : Int32))))) .ireturn (show decode _ _ = .ok (.ireturn, 1) by decide +kernel) ⟨rfl, Or.inl rfl⟩ ⟨_, rfl, h_12⟩
  · have h_13 := ipos hc22 h_4
    refine fw_iconst (v := (-1 : Int32)) (show decode _ _ = .ok (.iconst (-1), 1) by decide +kernel) (by decide) ?_
    exact fw_ret (v := some (.int (-1 : Int32))) .ireturn (show decode _ _ = .ok (.ireturn, 1) by decide +kernel) ⟨rfl, Or.inl rfl⟩ ⟨_, rfl, h_13⟩
def w_X11_nightNow (p0 : Nat) (M : fM) (φ : Int32 → fM → Prop) : Prop := isO M p0 11 ∧ dR (mP M p0 0) fun y4 => inA M y4 12 (1 : Int32) ∧ iF ((mI M y4 (ix (1 : Int32))) = (999 : Int32)) (φ (0 : Int32) M) (w_X11_keep p0 M fun M9 => isO M9 p0 11 ∧ dR (mP M9 p0 0) fun y13 => inA M9 y13 12 (1 : Int32) ∧ nm ((mI M9 y13 (ix (1 : Int32))) + (1 : Int32)) fun x18 => 6 ≤ y13 ∧ inA M9 y13 12 (1 : Int32) ∧ st (wI M9 y13 (ix (1 : Int32)) x18) fun M24 => φ (1 : Int32) M24)
set_option maxRecDepth 100000 in
theorem s_X11_nightNow {g : GT} {d : Nat} (hd : 2 ≤ d) {p0 : Nat} {M : fM} {φ : Int32 → fM → Prop} (h : w_X11_nightNow p0 M φ) : FC g mtX11_nightNow d [.ref p0] M 0 0 (rI φ) := by
  obtain ⟨d, rfl⟩ : ∃ e, d = e + 1 := ⟨d - 1, by omega⟩
  unfold w_X11_nightNow at h
  refine FC.intro (nL := 1) (by decide) rfl (Nat.le_of_ble_eq_true rfl) ?_
  show FW g mtX11_nightNow (d + 1) 0 [(0, .ref p0)] [] M 0 0 (rI φ)
  refine fw_aload_n (i := 0) 0 rfl (show decode _ _ = .ok (.aload_n 0, 1) by decide +kernel) ?_
  obtain ⟨⟨hr2, n1, hs3⟩, h_1⟩ := h
  refine fw_getP (kd := 11) (k := 0) (show decode _ _ = .ok (.getfield 7, 3) by decide +kernel) gf_X11_7 hr2 hs3 rfl ?_
  have h_2 := dR_e h_1
  obtain ⟨y4, hy5, h_3⟩ := h_2
  refine fw_deref hy5 ?_
  refine fw_iconst (v := (1 : Int32)) (show decode _ _ = .ok (.iconst 1, 1) by decide +kernel) (by decide) ?_
  obtain ⟨⟨n6, hs7, hi8⟩, h_4⟩ := h_3
  refine fw_iald (show decode _ _ = .ok (.iaload, 1) by decide +kernel) hs7 hi8 ?_
  refine fw_sipush (v := (999 : Int32)) (show decode _ _ = .ok (.sipush 999, 3) by decide +kernel) (by decide) ?_
  refine fw_icmp_ne 14 (show decode _ _ = .ok (.if_icmp .ne 5, 3) by decide +kernel) (by decide) (fun hc26 => ?_) (fun hc26 => ?_)
  · have h_5 := ineg hc26 h_4
    refine fw_aload_n (i := 0) 0 rfl (show decode _ _ = .ok (.aload_n 0, 1) by decide +kernel) ?_
    refine fw_callV (mt' := mtX11_keep) (mc := 0) (ms := 0) (As := []) (rest := []) 0 11 n1 (show decode _ _ = .ok (.invokevirtual 353, 3) by decide +kernel) cv_X11_353 ⟨_, rfl, rfl⟩ hr2 hs3 rfl (Nat.le_of_ble_eq_true rfl) (s_X11_keep (d := d) (hd_le hd (by decide)) h_5) (by decide) (by decide) (kV (bc' := 0) (bs' := 0) (by decide) (by decide) (fun M9 h_6 => ?_))
    refine fw_aload_n (i := 0) 0 rfl (show decode _ _ = .ok (.aload_n 0, 1) by decide +kernel) ?_
    obtain ⟨⟨hr11, n10, hs12⟩, h_7⟩ := h_6
    refine fw_getP (kd := 11) (k := 0) (show decode _ _ = .ok (.getfield 7, 3) by decide +kernel) gf_X11_7 hr11 hs12 rfl ?_
    have h_8 := dR_e h_7
    obtain ⟨y13, hy14, h_9⟩ := h_8
    refine fw_deref hy14 ?_
    refine fw_iconst (v := (1 : Int32)) (show decode _ _ = .ok (.iconst 1, 1) by decide +kernel) (by decide) ?_
    refine fw_dup2_11 (show decode _ _ = .ok (.dup2, 1) by decide +kernel) rfl rfl ?_
    obtain ⟨⟨n15, hs16, hi17⟩, h_10⟩ := h_9
    refine fw_iald (show decode _ _ = .ok (.iaload, 1) by decide +kernel) hs16 hi17 ?_
    refine fw_iconst (v := (1 : Int32)) (show decode _ _ = .ok (.iconst 1, 1) by decide +kernel) (by decide) ?_
    refine fw_iadd (show decode _ _ = .ok (.iadd, 1) by decide +kernel) ?_
    refine fw_nmI (fun x18 ex19 => ?_)
    have h_11 := h_10 x18 ex19
    obtain ⟨hr23, ⟨n20, hs21, hi22⟩, h_12⟩ := h_11
    refine fw_iast (show decode _ _ = .ok (.iastore, 1) by decide +kernel) hr23 hs21 hi22 ?_
    refine FW.nmM (fun M24 eM25 => ?_)
    have h_13 := h_12 M24 eM25
    refine fw_iconst (v := (1 : Int32)) (show decode _ _ = .ok (.iconst 1, 1) by decide +kernel) (by decide) ?_
    exact fw_ret (v := some (.int (1 : Int32))) .ireturn (show decode _ _ = .ok (.ireturn, 1) by decide +kernel) ⟨rfl, Or.inr (Or.inl ⟨rfl, rfl⟩)⟩ ⟨_, rfl, h_13⟩
  · have h_14 := ipos hc26 h_4
    refine fw_iconst (v := (0 : Int32)) (show decode _ _ = .ok (.iconst 0, 1) by decide +kernel) (by decide) ?_
    exact fw_ret (v := some (.int (0 : Int32))) .ireturn (show decode _ _ = .ok (.ireturn, 1) by decide +kernel) ⟨rfl, Or.inr (Or.inl ⟨rfl, rfl⟩)⟩ ⟨_, rfl, h_14⟩
def j_X11_areDone_53 (K2 : Nat → Int32 → Int32 → Int32 → fM → Prop) (φ : Int32 → fM → Prop) (p0 : Nat) (p1 : Int32) (p2 : Int32) (p3 : Int32) (s0 : Int32) (M : fM) : Prop := iF (s0 = 0) (φ (0 : Int32) M) (nm (p3 + (1 : Int32)) fun x1 => K2 p0 p1 p2 x1 M)
set_option maxRecDepth 100000 in
theorem sj_X11_areDone_53 {g : GT} {d : Nat} (hd : 10 ≤ d + 1) {K2 : Nat → Int32 → Int32 → Int32 → fM → Prop} {φ : Int32 → fM → Prop} (hK2 : ∀ (p0 : Nat) (p1 : Int32) (p2 : Int32) (p3 : Int32) (M : fM), K2 p0 p1 p2 p3 M → FW g mtX11_areDone (d + 1) 2 [(0, .ref p0), (1, .int p1), (2, .int p2), (3, .int p3)] [] M 0 0 (rI φ)) {p0 : Nat} {p1 : Int32} {p2 : Int32} {p3 : Int32} {s0 : Int32} {M : fM} (h : j_X11_areDone_53 K2 φ p0 p1 p2 p3 s0 M) : FW g mtX11_areDone (d + 1) 53 [(0, .ref p0), (1, .int p1), (2, .int p2), (3, .int p3)] [.int s0] M 0 0 (rI φ) := by
  unfold j_X11_areDone_53 at h
  refine fw_istore (i := 4) (ls' := [(4, .int s0), (0, .ref p0), (1, .int p1), (2, .int p2), (3, .int p3)]) (show decode _ _ = .ok (.istore 4, 2) by decide +kernel) (by decide) rfl ?_
  refine fw_iload (i := 4) 0 rfl (show decode _ _ = .ok (.iload 4, 2) by decide +kernel) ?_
  refine fw_if_ne 62 (show decode _ _ = .ok (.ifCond .ne 5, 3) by decide +kernel) (by decide) (fun hc3 => ?_) (fun hc3 => ?_)
  · have h_1 := ineg hc3 h
    obtain ⟨x1, ex2⟩ : ∃ y : Int32, y = p3 + (1 : Int32) := ⟨_, rfl⟩
    have h_2 := h_1 x1 ex2
    refine fw_iinc (i := 3) (x := p3) (v := x1) (ls' := [(3, .int x1), (4, .int s0), (0, .ref p0), (1, .int p1), (2, .int p2)]) 4 rfl (show decode _ _ = .ok (.iinc 3 1, 3) by decide +kernel) (by rw [ex2]; rfl) (by decide) rfl ?_
    refine fw_goto 2 (show decode _ _ = .ok (.goto (-63), 3) by decide +kernel) (by decide) ?_
    refine FW.sub [2, 3, 4, 0] (ls' := [(0, .ref p0), (1, .int p1), (2, .int p2), (3, .int x1)]) rfl ?_
    exact hK2 _ _ _ _ _ h_2
  · have h_3 := ipos hc3 h
    refine fw_iconst (v := (0 : Int32)) (show decode _ _ = .ok (.iconst 0, 1) by decide +kernel) (by decide) ?_
    exact fw_ret (v := some (.int (0 : Int32))) .ireturn (show decode _ _ = .ok (.ireturn, 1) by decide +kernel) ⟨rfl, Or.inr (Or.inl ⟨rfl, rfl⟩)⟩ ⟨_, rfl, h_3⟩
def b_X11_areDone_2 (K2 : Nat → Int32 → Int32 → Int32 → fM → Prop) (φ : Int32 → fM → Prop) (p0 : Nat) (p1 : Int32) (p2 : Int32) (p3 : Int32) (M : fM) : Prop := iF (p2 ≤ p3) (φ (1 : Int32) M) (iF (p1 = (13 : Int32)) (isO M p0 11 ∧ w_X11_step p0 M fun x20 M16 => iF (x20 < 0) (j_X11_areDone_53 K2 φ p0 p1 p2 p3 (0 : Int32) M16) (j_X11_areDone_53 K2 φ p0 p1 p2 p3 (1 : Int32) M16)) (iF (p1 = (14 : Int32)) (isO M p0 11 ∧ w_X11_toe p0 M fun x13 M9 => iF (x13 < 0) (j_X11_areDone_53 K2 φ p0 p1 p2 p3 (0 : Int32) M9) (j_X11_areDone_53 K2 φ p0 p1 p2 p3 (1 : Int32) M9)) (isO M p0 11 ∧ w_X11_nightNow p0 M fun x8 M4 => j_X11_areDone_53 K2 φ p0 p1 p2 p3 x8 M4)))
def l_X11_areDone_2 (φ : Int32 → fM → Prop) : Nat → Nat → Int32 → Int32 → Int32 → fM → Prop
  | 0, _, _, _, _, _ => False
  | n + 1, p0, p1, p2, p3, M => b_X11_areDone_2 (l_X11_areDone_2 φ n) φ p0 p1 p2 p3 M
set_option maxRecDepth 100000 in
theorem sb_X11_areDone_2 {g : GT} {d : Nat} (hd : 10 ≤ d + 1) {K2 : Nat → Int32 → Int32 → Int32 → fM → Prop} {φ : Int32 → fM → Prop} (hK2 : ∀ (p0 : Nat) (p1 : Int32) (p2 : Int32) (p3 : Int32) (M : fM), K2 p0 p1 p2 p3 M → FW g mtX11_areDone (d + 1) 2 [(0, .ref p0), (1, .int p1), (2, .int p2), (3, .int p3)] [] M 0 0 (rI φ)) {p0 : Nat} {p1 : Int32} {p2 : Int32} {p3 : Int32} {M : fM} (h : b_X11_areDone_2 K2 φ p0 p1 p2 p3 M) : FW g mtX11_areDone (d + 1) 2 [(0, .ref p0), (1, .int p1), (2, .int p2), (3, .int p3)] [] M 0 0 (rI φ) := by
  unfold b_X11_areDone_2 at h
  refine fw_iload_n (i := 3) 3 rfl (show decode _ _ = .ok (.iload_n 3, 1) by decide +kernel) ?_
  refine fw_iload_n (i := 2) 2 rfl (show decode _ _ = .ok (.iload_n 2, 1) by decide +kernel) ?_
  refine fw_icmp_ge 68 (show decode _ _ = .ok (.if_icmp .ge 64, 3) by decide +kernel) (by decide) (fun hc23 => ?_) (fun hc23 => ?_)
  · have h_1 := ipos hc23 h
    refine fw_iconst (v := (1 : Int32)) (show decode _ _ = .ok (.iconst 1, 1) by decide +kernel) (by decide) ?_
    exact fw_ret (v := some (.int (1 : Int32))) .ireturn (show decode _ _ = .ok (.ireturn, 1) by decide +kernel) ⟨rfl, Or.inr (Or.inl ⟨rfl, rfl⟩)⟩ ⟨_, rfl, h_1⟩
  · have h_2 := ineg hc23 h
    refine fw_iload_n (i := 1) 1 rfl (show decode _ _ = .ok (.iload_n 1, 1) by decide +kernel) ?_
    refine fw_bipush (v := (13 : Int32)) (show decode _ _ = .ok (.bipush 13, 2) by decide +kernel) (by decide) ?_
    refine fw_icmp_ne 28 (show decode _ _ = .ok (.if_icmp .ne 18, 3) by decide +kernel) (by decide) (fun hc22 => ?_) (fun hc22 => ?_)
    · have h_3 := ineg hc22 h_2
      refine fw_iload_n (i := 1) 1 rfl (show decode _ _ = .ok (.iload_n 1, 1) by decide +kernel) ?_
      refine fw_bipush (v := (14 : Int32)) (show decode _ _ = .ok (.bipush 14, 2) by decide +kernel) (by decide) ?_
      refine fw_icmp_ne 49 (show decode _ _ = .ok (.if_icmp .ne 18, 3) by decide +kernel) (by decide) (fun hc15 => ?_) (fun hc15 => ?_)
      · have h_4 := ineg hc15 h_3
        refine fw_aload_n (i := 0) 0 rfl (show decode _ _ = .ok (.aload_n 0, 1) by decide +kernel) ?_
        obtain ⟨⟨hr6, n5, hs7⟩, h_5⟩ := h_4
        refine fw_callV (mt' := mtX11_nightNow) (mc := 0) (ms := 0) (As := []) (rest := []) 0 11 n5 (show decode _ _ = .ok (.invokevirtual 365, 3) by decide +kernel) cv_X11_365 ⟨_, rfl, rfl⟩ hr6 hs7 rfl (Nat.le_of_ble_eq_true rfl) (s_X11_nightNow (d := d) (hd_le hd (by decide)) h_5) (by decide) (by decide) (kI (bc' := 0) (bs' := 0) (by decide) (by decide) (fun x8 M4 h_6 => ?_))
        refine FW.sub [0, 1, 2, 3] (ls' := [(0, .ref p0), (1, .int p1), (2, .int p2), (3, .int p3)]) rfl ?_
        exact sj_X11_areDone_53 hd hK2 h_6
      · have h_7 := ipos hc15 h_3
        refine fw_aload_n (i := 0) 0 rfl (show decode _ _ = .ok (.aload_n 0, 1) by decide +kernel) ?_
        obtain ⟨⟨hr11, n10, hs12⟩, h_8⟩ := h_7
        refine fw_callV (mt' := mtX11_toe) (mc := 0) (ms := 0) (As := []) (rest := []) 0 11 n10 (show decode _ _ = .ok (.invokevirtual 371, 3) by decide +kernel) cv_X11_371 ⟨_, rfl, rfl⟩ hr11 hs12 rfl (Nat.le_of_ble_eq_true rfl) (s_X11_toe (d := d) (hd_le hd (by decide)) h_8) (by decide) (by decide) (kI (bc' := 0) (bs' := 0) (by decide) (by decide) (fun x13 M9 h_9 => ?_))
        refine fw_if_lt 45 (show decode _ _ = .ok (.ifCond .lt 7, 3) by decide +kernel) (by decide) (fun hc14 => ?_) (fun hc14 => ?_)
        · have h_10 := ipos hc14 h_9
          refine fw_iconst (v := (0 : Int32)) (show decode _ _ = .ok (.iconst 0, 1) by decide +kernel) (by decide) ?_
          refine fw_goto 53 (show decode _ _ = .ok (.goto 7, 3) by decide +kernel) (by decide) ?_
          refine FW.sub [0, 1, 2, 3] (ls' := [(0, .ref p0), (1, .int p1), (2, .int p2), (3, .int p3)]) rfl ?_
          exact sj_X11_areDone_53 hd hK2 h_10
        · have h_11 := ineg hc14 h_9
          refine fw_iconst (v := (1 : Int32)) (show decode _ _ = .ok (.iconst 1, 1) by decide +kernel) (by decide) ?_
          refine fw_goto 53 (show decode _ _ = .ok (.goto 11, 3) by decide +kernel) (by decide) ?_
          refine FW.sub [0, 1, 2, 3] (ls' := [(0, .ref p0), (1, .int p1), (2, .int p2), (3, .int p3)]) rfl ?_
          exact sj_X11_areDone_53 hd hK2 h_11
    · have h_12 := ipos hc22 h_2
      refine fw_aload_n (i := 0) 0 rfl (show decode _ _ = .ok (.aload_n 0, 1) by decide +kernel) ?_
      obtain ⟨⟨hr18, n17, hs19⟩, h_13⟩ := h_12
      refine fw_callV (mt' := mtX11_step) (mc := 0) (ms := 0) (As := []) (rest := []) 0 11 n17 (show decode _ _ = .ok (.invokevirtual 368, 3) by decide +kernel) cv_X11_368 ⟨_, rfl, rfl⟩ hr18 hs19 rfl (Nat.le_of_ble_eq_true rfl) (s_X11_step (d := d) (hd_le hd (by decide)) h_13) (by decide) (by decide) (kI (bc' := 0) (bs' := 0) (by decide) (by decide) (fun x20 M16 h_14 => ?_))
      refine fw_if_lt 24 (show decode _ _ = .ok (.ifCond .lt 7, 3) by decide +kernel) (by decide) (fun hc21 => ?_) (fun hc21 => ?_)
      · have h_15 := ipos hc21 h_14
        refine fw_iconst (v := (0 : Int32)) (show decode _ _ = .ok (.iconst 0, 1) by decide +kernel) (by decide) ?_
        refine fw_goto 53 (show decode _ _ = .ok (.goto 28, 3) by decide +kernel) (by decide) ?_
        refine FW.sub [0, 1, 2, 3] (ls' := [(0, .ref p0), (1, .int p1), (2, .int p2), (3, .int p3)]) rfl ?_
        exact sj_X11_areDone_53 hd hK2 h_15
      · have h_16 := ineg hc21 h_14
        refine fw_iconst (v := (1 : Int32)) (show decode _ _ = .ok (.iconst 1, 1) by decide +kernel) (by decide) ?_
        refine fw_goto 53 (show decode _ _ = .ok (.goto 32, 3) by decide +kernel) (by decide) ?_
        refine FW.sub [0, 1, 2, 3] (ls' := [(0, .ref p0), (1, .int p1), (2, .int p2), (3, .int p3)]) rfl ?_
        exact sj_X11_areDone_53 hd hK2 h_16
theorem sl_X11_areDone_2 {g : GT} {d : Nat} (hd : 10 ≤ d + 1) {φ : Int32 → fM → Prop} : ∀ (n : Nat) {p0 : Nat} {p1 : Int32} {p2 : Int32} {p3 : Int32} {M : fM}, l_X11_areDone_2 φ n p0 p1 p2 p3 M → FW g mtX11_areDone (d + 1) 2 [(0, .ref p0), (1, .int p1), (2, .int p2), (3, .int p3)] [] M 0 0 (rI φ)
  | 0 => fun h => h.elim
  | n + 1 => fun h => sb_X11_areDone_2 hd (fun _ _ _ _ _ h => sl_X11_areDone_2 hd n h) h
def w_X11_areDone (p0 : Nat) (p1 : Int32) (p2 : Int32) (M : fM) (φ : Int32 → fM → Prop) : Prop := ∃ n, l_X11_areDone_2 φ n p0 p1 p2 (0 : Int32) M
set_option maxRecDepth 100000 in
theorem s_X11_areDone {g : GT} {d : Nat} (hd : 10 ≤ d) {p0 : Nat} {p1 : Int32} {p2 : Int32} {M : fM} {φ : Int32 → fM → Prop} (h : w_X11_areDone p0 p1 p2 M φ) : FC g mtX11_areDone d [.ref p0, .int p1, .int p2] M 0 0 (rI φ) := by
  obtain ⟨d, rfl⟩ : ∃ e, d = e + 1 := ⟨d - 1, by omega⟩
  unfold w_X11_areDone at h
  refine FC.intro (nL := 5) (by decide) rfl (Nat.le_of_ble_eq_true rfl) ?_
  show FW g mtX11_areDone (d + 1) 0 [(0, .ref p0), (1, .int p1), (2, .int p2)] [] M 0 0 (rI φ)
  refine fw_iconst (v := (0 : Int32)) (show decode _ _ = .ok (.iconst 0, 1) by decide +kernel) (by decide) ?_
  refine fw_istore_n (i := 3) (ls' := [(3, .int (0 : Int32)), (0, .ref p0), (1, .int p1), (2, .int p2)]) (show decode _ _ = .ok (.istore_n 3, 1) by decide +kernel) (by decide) rfl ?_
  refine FW.sub [1, 2, 3, 0] (ls' := [(0, .ref p0), (1, .int p1), (2, .int p2), (3, .int (0 : Int32))]) rfl ?_
  obtain ⟨nn, h_1⟩ := h
  exact sl_X11_areDone_2 hd nn h_1
def b_X11_common_6 (K6 : Int64 → Int64 → fM → Prop) (φ : Int64 → fM → Prop) (p4 : Int64) (p6 : Int64) (M : fM) : Prop := iF ((lg_cmp p6 (0 : Int64)) = 0) (φ p4 M) (¬ p6 = 0 ∧ nm (p4 % p6) fun x2 => K6 p6 x2 M)
def l_X11_common_6 (φ : Int64 → fM → Prop) : Nat → Int64 → Int64 → fM → Prop
  | 0, _, _, _ => False
  | n + 1, p4, p6, M => b_X11_common_6 (l_X11_common_6 φ n) φ p4 p6 M
set_option maxRecDepth 100000 in
theorem sb_X11_common_6 {g : GT} {d : Nat} (hd : 1 ≤ d + 1) {K6 : Int64 → Int64 → fM → Prop} {φ : Int64 → fM → Prop} (hK6 : ∀ (p4 : Int64) (p6 : Int64) (M : fM), K6 p4 p6 M → FW g mtX11_common (d + 1) 6 [(4, .long p4), (6, .long p6)] [] M 0 0 (rJ φ)) {p4 : Int64} {p6 : Int64} {M : fM} (h : b_X11_common_6 K6 φ p4 p6 M) : FW g mtX11_common (d + 1) 6 [(4, .long p4), (6, .long p6)] [] M 0 0 (rJ φ) := by
  unfold b_X11_common_6 at h
  refine fw_lload (i := 6) 1 rfl (show decode _ _ = .ok (.lload 6, 2) by decide +kernel) ?_
  refine fw_lconst (v := (0 : Int64)) (show decode _ _ = .ok (.lconst 0, 1) by decide +kernel) (by decide) ?_
  refine fw_lcmp (show decode _ _ = .ok (.lcmp, 1) by decide +kernel) ?_
  refine fw_if_eq 31 (show decode _ _ = .ok (.ifCond .eq 21, 3) by decide +kernel) (by decide) (fun hc4 => ?_) (fun hc4 => ?_)
  · have h_1 := ipos hc4 h
    refine fw_lload (i := 4) 0 rfl (show decode _ _ = .ok (.lload 4, 2) by decide +kernel) ?_
    exact fw_ret (v := some (.long p4)) .lreturn (show decode _ _ = .ok (.lreturn, 1) by decide +kernel) ⟨rfl, rfl⟩ ⟨_, rfl, h_1⟩
  · have h_2 := ineg hc4 h
    refine fw_lload (i := 4) 0 rfl (show decode _ _ = .ok (.lload 4, 2) by decide +kernel) ?_
    refine fw_lload (i := 6) 1 rfl (show decode _ _ = .ok (.lload 6, 2) by decide +kernel) ?_
    obtain ⟨hne1, h_3⟩ := h_2
    refine fw_lrem (show decode _ _ = .ok (.lrem, 1) by decide +kernel) hne1 ?_
    refine fw_nmJ (fun x2 ex3 => ?_)
    have h_4 := h_3 x2 ex3
    refine fw_lstore (i := 8) (ls' := [(8, .long x2), (4, .long p4), (6, .long p6)]) (show decode _ _ = .ok (.lstore 8, 2) by decide +kernel) (by decide) rfl ?_
    refine fw_lload (i := 6) 2 rfl (show decode _ _ = .ok (.lload 6, 2) by decide +kernel) ?_
    refine fw_lstore (i := 4) (ls' := [(4, .long p6), (8, .long x2), (6, .long p6)]) (show decode _ _ = .ok (.lstore 4, 2) by decide +kernel) (by decide) rfl ?_
    refine fw_lload (i := 8) 1 rfl (show decode _ _ = .ok (.lload 8, 2) by decide +kernel) ?_
    refine fw_lstore (i := 6) (ls' := [(6, .long x2), (4, .long p6), (8, .long x2)]) (show decode _ _ = .ok (.lstore 6, 2) by decide +kernel) (by decide) rfl ?_
    refine fw_goto 6 (show decode _ _ = .ok (.goto (-22), 3) by decide +kernel) (by decide) ?_
    refine FW.sub [1, 0] (ls' := [(4, .long p6), (6, .long x2)]) rfl ?_
    exact hK6 _ _ _ h_4
theorem sl_X11_common_6 {g : GT} {d : Nat} (hd : 1 ≤ d + 1) {φ : Int64 → fM → Prop} : ∀ (n : Nat) {p4 : Int64} {p6 : Int64} {M : fM}, l_X11_common_6 φ n p4 p6 M → FW g mtX11_common (d + 1) 6 [(4, .long p4), (6, .long p6)] [] M 0 0 (rJ φ)
  | 0 => fun h => h.elim
  | n + 1 => fun h => sb_X11_common_6 hd (fun _ _ _ h => sl_X11_common_6 hd n h) h
def w_X11_common (p0 : Int64) (p2 : Int64) (M : fM) (φ : Int64 → fM → Prop) : Prop := ∃ n, l_X11_common_6 φ n p0 p2 M
set_option maxRecDepth 100000 in
theorem s_X11_common {g : GT} {d : Nat} (hd : 1 ≤ d) {p0 : Int64} {p2 : Int64} {M : fM} {φ : Int64 → fM → Prop} (h : w_X11_common p0 p2 M φ) : FC g mtX11_common d [.long p0, .long p2] M 0 0 (rJ φ) := by
  obtain ⟨d, rfl⟩ : ∃ e, d = e + 1 := ⟨d - 1, by omega⟩
  unfold w_X11_common at h
  refine FC.intro (nL := 10) (by decide) rfl (Nat.le_of_ble_eq_true rfl) ?_
  show FW g mtX11_common (d + 1) 0 [(0, .long p0), (2, .long p2)] [] M 0 0 (rJ φ)
  refine fw_lload_n (i := 0) 0 rfl (show decode _ _ = .ok (.lload_n 0, 1) by decide +kernel) ?_
  refine fw_lstore (i := 4) (ls' := [(4, .long p0), (0, .long p0), (2, .long p2)]) (show decode _ _ = .ok (.lstore 4, 2) by decide +kernel) (by decide) rfl ?_
  refine fw_lload_n (i := 2) 2 rfl (show decode _ _ = .ok (.lload_n 2, 1) by decide +kernel) ?_
  refine fw_lstore (i := 6) (ls' := [(6, .long p2), (4, .long p0), (0, .long p0), (2, .long p2)]) (show decode _ _ = .ok (.lstore 6, 2) by decide +kernel) (by decide) rfl ?_
  refine FW.sub [1, 0] (ls' := [(4, .long p0), (6, .long p2)]) rfl ?_
  obtain ⟨nn, h_1⟩ := h
  exact sl_X11_common_6 hd nn h_1
def j_X11_part_10 (φ : Int64 → fM → Prop) (p0 : Int64) (p2 : Int64) (s0 : Int64) (M : fM) : Prop := w_X11_common p0 p2 M fun x2 M1 => ¬ x2 = 0 ∧ φ (s0 / x2) M1
set_option maxRecDepth 100000 in
theorem sj_X11_part_10 {g : GT} {d : Nat} (hd : 2 ≤ d + 1) {φ : Int64 → fM → Prop} {p0 : Int64} {p2 : Int64} {s0 : Int64} {M : fM} (h : j_X11_part_10 φ p0 p2 s0 M) : FW g mtX11_part (d + 1) 10 [(0, .long p0), (2, .long p2)] [.long s0] M 0 0 (rJ φ) := by
  unfold j_X11_part_10 at h
  refine fw_lload_n (i := 0) 0 rfl (show decode _ _ = .ok (.lload_n 0, 1) by decide +kernel) ?_
  refine fw_lload_n (i := 2) 1 rfl (show decode _ _ = .ok (.lload_n 2, 1) by decide +kernel) ?_
  refine fw_callS (mt' := mtX11_common) (mc := 0) (ms := 0) (As := [.long p0, .long p2]) (rest := [.long s0]) 2 (show decode _ _ = .ok (.invokestatic 62, 3) by decide +kernel) cs_X11_62 rfl (Nat.le_of_ble_eq_true rfl) (s_X11_common (d := d) (hd_le hd (by decide)) h) (by decide) (by decide) (kJ (bc' := 0) (bs' := 0) (by decide) (by decide) (fun x2 M1 h_1 => ?_))
  obtain ⟨hne3, h_2⟩ := h_1
  refine fw_ldiv (show decode _ _ = .ok (.ldiv, 1) by decide +kernel) hne3 ?_
  exact fw_ret (v := some (.long (s0 / x2))) .lreturn (show decode _ _ = .ok (.lreturn, 1) by decide +kernel) ⟨rfl, rfl⟩ ⟨_, rfl, h_2⟩
def w_X11_part (p0 : Int64) (p2 : Int64) (p4 : Int32) (M : fM) (φ : Int64 → fM → Prop) : Prop := iF (p4 = 0) (j_X11_part_10 φ p0 p2 p0 M) (j_X11_part_10 φ p0 p2 p2 M)
set_option maxRecDepth 100000 in
theorem s_X11_part {g : GT} {d : Nat} (hd : 2 ≤ d) {p0 : Int64} {p2 : Int64} {p4 : Int32} {M : fM} {φ : Int64 → fM → Prop} (h : w_X11_part p0 p2 p4 M φ) : FC g mtX11_part d [.long p0, .long p2, .int p4] M 0 0 (rJ φ) := by
  obtain ⟨d, rfl⟩ : ∃ e, d = e + 1 := ⟨d - 1, by omega⟩
  unfold w_X11_part at h
  refine FC.intro (nL := 5) (by decide) rfl (Nat.le_of_ble_eq_true rfl) ?_
  show FW g mtX11_part (d + 1) 0 [(0, .long p0), (2, .long p2), (4, .int p4)] [] M 0 0 (rJ φ)
  refine fw_iload (i := 4) 2 rfl (show decode _ _ = .ok (.iload 4, 2) by decide +kernel) ?_
  refine fw_if_eq 9 (show decode _ _ = .ok (.ifCond .eq 7, 3) by decide +kernel) (by decide) (fun hc4 => ?_) (fun hc4 => ?_)
  · have h_1 := ipos hc4 h
    refine fw_lload_n (i := 0) 0 rfl (show decode _ _ = .ok (.lload_n 0, 1) by decide +kernel) ?_
    refine FW.sub [0, 1] (ls' := [(0, .long p0), (2, .long p2)]) rfl ?_
    exact sj_X11_part_10 hd h_1
  · have h_2 := ineg hc4 h
    refine fw_lload_n (i := 2) 1 rfl (show decode _ _ = .ok (.lload_n 2, 1) by decide +kernel) ?_
    refine fw_goto 10 (show decode _ _ = .ok (.goto 4, 3) by decide +kernel) (by decide) ?_
    refine FW.sub [0, 1] (ls' := [(0, .long p0), (2, .long p2)]) rfl ?_
    exact sj_X11_part_10 hd h_2
def w_X11_average (p0 : Nat) (p1 : Int32) (p2 : Int32) (p3 : Int32) (M : fM) (φ : Int32 → fM → Prop) : Prop := w_X11_isIn p1 (1 : Int32) (9 : Int32) M fun x2 M1 => iF (x2 = 0) (φ (-1 : Int32) M1) (w_X11_isIn p2 (1 : Int32) (10 : Int32) M1 fun x4 M3 => iF (x4 = 0) (φ (-1 : Int32) M3) (w_X11_part ((10 : Int64) * (Int32.toInt64 p1)) (Int32.toInt64 p2) p3 M3 fun x6 M5 => φ (Int64.toInt32 x6) M5))
set_option maxRecDepth 100000 in
theorem s_X11_average {g : GT} {d : Nat} (hd : 3 ≤ d) {p0 : Nat} {p1 : Int32} {p2 : Int32} {p3 : Int32} {M : fM} {φ : Int32 → fM → Prop} (h : w_X11_average p0 p1 p2 p3 M φ) : FC g mtX11_average d [.ref p0, .int p1, .int p2, .int p3] M 0 0 (rI φ) := by
  obtain ⟨d, rfl⟩ : ∃ e, d = e + 1 := ⟨d - 1, by omega⟩
  unfold w_X11_average at h
  refine FC.intro (nL := 4) (by decide) rfl (Nat.le_of_ble_eq_true rfl) ?_
  show FW g mtX11_average (d + 1) 0 [(0, .ref p0), (1, .int p1), (2, .int p2), (3, .int p3)] [] M 0 0 (rI φ)
  refine fw_iload_n (i := 1) 1 rfl (show decode _ _ = .ok (.iload_n 1, 1) by decide +kernel) ?_
  refine fw_iconst (v := (1 : Int32)) (show decode _ _ = .ok (.iconst 1, 1) by decide +kernel) (by decide) ?_
  refine fw_bipush (v := (9 : Int32)) (show decode _ _ = .ok (.bipush 9, 2) by decide +kernel) (by decide) ?_
  refine fw_callS (mt' := mtX11_isIn) (mc := 0) (ms := 0) (As := [.int p1, .int (1 : Int32), .int (9 : Int32)]) (rest := []) 3 (show decode _ _ = .ok (.invokestatic 66, 3) by decide +kernel) cs_X11_66 rfl (Nat.le_of_ble_eq_true rfl) (s_X11_isIn (d := d) (hd_le hd (by decide)) h) (by decide) (by decide) (kI (bc' := 0) (bs' := 0) (by decide) (by decide) (fun x2 M1 h_1 => ?_))
  refine fw_if_eq 36 (show decode _ _ = .ok (.ifCond .eq 29, 3) by decide +kernel) (by decide) (fun hc8 => ?_) (fun hc8 => ?_)
  · have h_2 := ipos hc8 h_1
    refine fw_iconst (v := (-1 : Int32)) (show decode _ _ = .ok (.iconst (-1), 1) by decide +kernel) (by decide) ?_
    exact fw_ret (v := some (.int (-1 : Int32))) .ireturn (show decode _ _ = .ok (.ireturn, 1) by decide +kernel) ⟨rfl, Or.inl rfl⟩ ⟨_, rfl, h_2⟩
  · have h_3 := ineg hc8 h_1
    refine fw_iload_n (i := 2) 2 rfl (show decode _ _ = .ok (.iload_n 2, 1) by decide +kernel) ?_
    refine fw_iconst (v := (1 : Int32)) (show decode _ _ = .ok (.iconst 1, 1) by decide +kernel) (by decide) ?_
    refine fw_bipush (v := (10 : Int32)) (show decode _ _ = .ok (.bipush 10, 2) by decide +kernel) (by decide) ?_
    refine fw_callS (mt' := mtX11_isIn) (mc := 0) (ms := 0) (As := [.int p2, .int (1 : Int32), .int (10 : Int32)]) (rest := []) 3 (show decode _ _ = .ok (.invokestatic 66, 3) by decide +kernel) cs_X11_66 rfl (Nat.le_of_ble_eq_true rfl) (s_X11_isIn (d := d) (hd_le hd (by decide)) h_3) (by decide) (by decide) (kI (bc' := 0) (bs' := 0) (by decide) (by decide) (fun x4 M3 h_4 => ?_))
    refine fw_if_eq 36 (show decode _ _ = .ok (.ifCond .eq 19, 3) by decide +kernel) (by decide) (fun hc7 => ?_) (fun hc7 => ?_)
    · have h_5 := ipos hc7 h_4
      refine fw_iconst (v := (-1 : Int32)) (show decode _ _ = .ok (.iconst (-1), 1) by decide +kernel) (by decide) ?_
      exact fw_ret (v := some (.int (-1 : Int32))) .ireturn (show decode _ _ = .ok (.ireturn, 1) by decide +kernel) ⟨rfl, Or.inl rfl⟩ ⟨_, rfl, h_5⟩
    · have h_6 := ineg hc7 h_4
      refine fw_ldc2 (idx := 60) (v := (10 : Int64)) (show decode _ _ = .ok (.ldc2_w 60, 3) by decide +kernel) wd1916 ?_
      refine fw_iload_n (i := 1) 1 rfl (show decode _ _ = .ok (.iload_n 1, 1) by decide +kernel) ?_
      refine fw_i2l (show decode _ _ = .ok (.i2l, 1) by decide +kernel) ?_
      refine fw_lmul (show decode _ _ = .ok (.lmul, 1) by decide +kernel) ?_
      refine fw_iload_n (i := 2) 2 rfl (show decode _ _ = .ok (.iload_n 2, 1) by decide +kernel) ?_
      refine fw_i2l (show decode _ _ = .ok (.i2l, 1) by decide +kernel) ?_
      refine fw_iload_n (i := 3) 3 rfl (show decode _ _ = .ok (.iload_n 3, 1) by decide +kernel) ?_
      refine fw_callS (mt' := mtX11_part) (mc := 0) (ms := 0) (As := [.long ((10 : Int64) * (Int32.toInt64 p1)), .long (Int32.toInt64 p2), .int p3]) (rest := []) 3 (show decode _ _ = .ok (.invokestatic 437, 3) by decide +kernel) cs_X11_437 rfl (Nat.le_of_ble_eq_true rfl) (s_X11_part (d := d) (hd_le hd (by decide)) h_6) (by decide) (by decide) (kJ (bc' := 0) (bs' := 0) (by decide) (by decide) (fun x6 M5 h_7 => ?_))
      refine fw_l2i (show decode _ _ = .ok (.l2i, 1) by decide +kernel) ?_
      refine fw_goto 37 (show decode _ _ = .ok (.goto 4, 3) by decide +kernel) (by decide) ?_
      exact fw_ret (v := some (.int (Int64.toInt32 x6))) .ireturn (show decode _ _ = .ok (.ireturn, 1) by decide +kernel) ⟨rfl, Or.inl rfl⟩ ⟨_, rfl, h_7⟩
def b_X11_copy_2 (K2 : Nat → Nat → Int32 → fM → Prop) (φ : fM → Prop) (p0 : Nat) (p1 : Nat) (p2 : Int32) (M : fM) : Prop := iF ((2565 : Int32) ≤ p2) (φ M) (inA M p0 12 p2 ∧ nm (mI M p0 (ix p2)) fun x4 => 6 ≤ p1 ∧ inA M p1 12 p2 ∧ st (wI M p1 (ix p2) x4) fun M10 => nm (p2 + (1 : Int32)) fun x12 => K2 p0 p1 x12 M10)
def l_X11_copy_2 (φ : fM → Prop) : Nat → Nat → Nat → Int32 → fM → Prop
  | 0, _, _, _, _ => False
  | n + 1, p0, p1, p2, M => b_X11_copy_2 (l_X11_copy_2 φ n) φ p0 p1 p2 M
set_option maxRecDepth 100000 in
theorem sb_X11_copy_2 {g : GT} {d : Nat} (hd : 1 ≤ d + 1) {K2 : Nat → Nat → Int32 → fM → Prop} {φ : fM → Prop} (hK2 : ∀ (p0 : Nat) (p1 : Nat) (p2 : Int32) (M : fM), K2 p0 p1 p2 M → FW g mtX11_copy (d + 1) 2 [(0, .ref p0), (1, .ref p1), (2, .int p2)] [] M 0 0 (rV φ)) {p0 : Nat} {p1 : Nat} {p2 : Int32} {M : fM} (h : b_X11_copy_2 K2 φ p0 p1 p2 M) : FW g mtX11_copy (d + 1) 2 [(0, .ref p0), (1, .ref p1), (2, .int p2)] [] M 0 0 (rV φ) := by
  unfold b_X11_copy_2 at h
  refine fw_iload_n (i := 2) 2 rfl (show decode _ _ = .ok (.iload_n 2, 1) by decide +kernel) ?_
  refine fw_sipush (v := (2565 : Int32)) (show decode _ _ = .ok (.sipush 2565, 3) by decide +kernel) (by decide) ?_
  refine fw_icmp_ge 21 (show decode _ _ = .ok (.if_icmp .ge 15, 3) by decide +kernel) (by decide) (fun hc14 => ?_) (fun hc14 => ?_)
  · have h_1 := ipos hc14 h
    exact fw_ret (v := none) .return_ (show decode _ _ = .ok (.return_, 1) by decide +kernel) ⟨rfl, rfl⟩ ⟨rfl, h_1⟩
  · have h_2 := ineg hc14 h
    refine fw_aload_n (i := 1) 1 rfl (show decode _ _ = .ok (.aload_n 1, 1) by decide +kernel) ?_
    refine fw_iload_n (i := 2) 2 rfl (show decode _ _ = .ok (.iload_n 2, 1) by decide +kernel) ?_
    refine fw_aload_n (i := 0) 0 rfl (show decode _ _ = .ok (.aload_n 0, 1) by decide +kernel) ?_
    refine fw_iload_n (i := 2) 2 rfl (show decode _ _ = .ok (.iload_n 2, 1) by decide +kernel) ?_
    obtain ⟨⟨n1, hs2, hi3⟩, h_3⟩ := h_2
    refine fw_iald (show decode _ _ = .ok (.iaload, 1) by decide +kernel) hs2 hi3 ?_
    refine fw_nmI (fun x4 ex5 => ?_)
    have h_4 := h_3 x4 ex5
    obtain ⟨hr9, ⟨n6, hs7, hi8⟩, h_5⟩ := h_4
    refine fw_iast (show decode _ _ = .ok (.iastore, 1) by decide +kernel) hr9 hs7 hi8 ?_
    refine FW.nmM (fun M10 eM11 => ?_)
    have h_6 := h_5 M10 eM11
    obtain ⟨x12, ex13⟩ : ∃ y : Int32, y = p2 + (1 : Int32) := ⟨_, rfl⟩
    have h_7 := h_6 x12 ex13
    refine fw_iinc (i := 2) (x := p2) (v := x12) (ls' := [(2, .int x12), (0, .ref p0), (1, .ref p1)]) 2 rfl (show decode _ _ = .ok (.iinc 2 1, 3) by decide +kernel) (by rw [ex13]; rfl) (by decide) rfl ?_
    refine fw_goto 2 (show decode _ _ = .ok (.goto (-16), 3) by decide +kernel) (by decide) ?_
    refine FW.sub [1, 2, 0] (ls' := [(0, .ref p0), (1, .ref p1), (2, .int x12)]) rfl ?_
    exact hK2 _ _ _ _ h_7
theorem sl_X11_copy_2 {g : GT} {d : Nat} (hd : 1 ≤ d + 1) {φ : fM → Prop} : ∀ (n : Nat) {p0 : Nat} {p1 : Nat} {p2 : Int32} {M : fM}, l_X11_copy_2 φ n p0 p1 p2 M → FW g mtX11_copy (d + 1) 2 [(0, .ref p0), (1, .ref p1), (2, .int p2)] [] M 0 0 (rV φ)
  | 0 => fun h => h.elim
  | n + 1 => fun h => sb_X11_copy_2 hd (fun _ _ _ _ h => sl_X11_copy_2 hd n h) h
def w_X11_copy (p0 : Nat) (p1 : Nat) (M : fM) (φ : fM → Prop) : Prop := ∃ n, l_X11_copy_2 φ n p0 p1 (0 : Int32) M
set_option maxRecDepth 100000 in
theorem s_X11_copy {g : GT} {d : Nat} (hd : 1 ≤ d) {p0 : Nat} {p1 : Nat} {M : fM} {φ : fM → Prop} (h : w_X11_copy p0 p1 M φ) : FC g mtX11_copy d [.ref p0, .ref p1] M 0 0 (rV φ) := by
  obtain ⟨d, rfl⟩ : ∃ e, d = e + 1 := ⟨d - 1, by omega⟩
  unfold w_X11_copy at h
  refine FC.intro (nL := 3) (by decide) rfl (Nat.le_of_ble_eq_true rfl) ?_
  show FW g mtX11_copy (d + 1) 0 [(0, .ref p0), (1, .ref p1)] [] M 0 0 (rV φ)
  refine fw_iconst (v := (0 : Int32)) (show decode _ _ = .ok (.iconst 0, 1) by decide +kernel) (by decide) ?_
  refine fw_istore_n (i := 2) (ls' := [(2, .int (0 : Int32)), (0, .ref p0), (1, .ref p1)]) (show decode _ _ = .ok (.istore_n 2, 1) by decide +kernel) (by decide) rfl ?_
  refine FW.sub [1, 2, 0] (ls' := [(0, .ref p0), (1, .ref p1), (2, .int (0 : Int32))]) rfl ?_
  obtain ⟨nn, h_1⟩ := h
  exact sl_X11_copy_2 hd nn h_1
def w_X11_back (p0 : Nat) (M : fM) (φ : Int32 → fM → Prop) : Prop := isO M p0 11 ∧ dR (mP M p0 1) fun y4 => dR (mP M p0 0) fun y6 => w_X11_copy y4 y6 M fun M8 => isO M8 p0 11 ∧ dR (mP M8 p0 0) fun y12 => inA M8 y12 12 (1 : Int32) ∧ φ (mI M8 y12 (ix (1 : Int32))) M8
set_option maxRecDepth 100000 in
theorem s_X11_back {g : GT} {d : Nat} (hd : 2 ≤ d) {p0 : Nat} {M : fM} {φ : Int32 → fM → Prop} (h : w_X11_back p0 M φ) : FC g mtX11_back d [.ref p0] M 0 0 (rI φ) := by
  obtain ⟨d, rfl⟩ : ∃ e, d = e + 1 := ⟨d - 1, by omega⟩
  unfold w_X11_back at h
  refine FC.intro (nL := 1) (by decide) rfl (Nat.le_of_ble_eq_true rfl) ?_
  show FW g mtX11_back (d + 1) 0 [(0, .ref p0)] [] M 0 0 (rI φ)
  refine fw_aload_n (i := 0) 0 rfl (show decode _ _ = .ok (.aload_n 0, 1) by decide +kernel) ?_
  obtain ⟨⟨hr2, n1, hs3⟩, h_1⟩ := h
  refine fw_getP (kd := 11) (k := 1) (show decode _ _ = .ok (.getfield 13, 3) by decide +kernel) gf_X11_13 hr2 hs3 rfl ?_
  have h_2 := dR_e h_1
  obtain ⟨y4, hy5, h_3⟩ := h_2
  refine fw_deref hy5 ?_
  refine fw_aload_n (i := 0) 0 rfl (show decode _ _ = .ok (.aload_n 0, 1) by decide +kernel) ?_
  refine fw_getP (kd := 11) (k := 0) (show decode _ _ = .ok (.getfield 7, 3) by decide +kernel) gf_X11_7 hr2 hs3 rfl ?_
  have h_4 := dR_e h_3
  obtain ⟨y6, hy7, h_5⟩ := h_4
  refine fw_deref hy7 ?_
  refine fw_callS (mt' := mtX11_copy) (mc := 0) (ms := 0) (As := [.ref y4, .ref y6]) (rest := []) 2 (show decode _ _ = .ok (.invokestatic 56, 3) by decide +kernel) cs_X11_56 rfl (Nat.le_of_ble_eq_true rfl) (s_X11_copy (d := d) (hd_le hd (by decide)) h_5) (by decide) (by decide) (kV (bc' := 0) (bs' := 0) (by decide) (by decide) (fun M8 h_6 => ?_))
  refine fw_aload_n (i := 0) 0 rfl (show decode _ _ = .ok (.aload_n 0, 1) by decide +kernel) ?_
  obtain ⟨⟨hr10, n9, hs11⟩, h_7⟩ := h_6
  refine fw_getP (kd := 11) (k := 0) (show decode _ _ = .ok (.getfield 7, 3) by decide +kernel) gf_X11_7 hr10 hs11 rfl ?_
  have h_8 := dR_e h_7
  obtain ⟨y12, hy13, h_9⟩ := h_8
  refine fw_deref hy13 ?_
  refine fw_iconst (v := (1 : Int32)) (show decode _ _ = .ok (.iconst 1, 1) by decide +kernel) (by decide) ?_
  obtain ⟨⟨n14, hs15, hi16⟩, h_10⟩ := h_9
  refine fw_iald (show decode _ _ = .ok (.iaload, 1) by decide +kernel) hs15 hi16 ?_
  exact fw_ret (v := some (.int (mI M8 y12 (ix (1 : Int32))))) .ireturn (show decode _ _ = .ok (.ireturn, 1) by decide +kernel) ⟨rfl, Or.inl rfl⟩ ⟨_, rfl, h_10⟩
def w_X11_isPerson (p0 : Nat) (p1 : Int32) (M : fM) (φ : Int32 → fM → Prop) : Prop := isO M p0 11 ∧ dR (mP M p0 0) fun y4 => inA M y4 12 (0 : Int32) ∧ w_X11_isIn p1 (0 : Int32) ((mI M y4 (ix (0 : Int32))) - (1 : Int32)) M fun x10 M9 => isB x10 ∧ φ x10 M9
set_option maxRecDepth 100000 in
theorem s_X11_isPerson {g : GT} {d : Nat} (hd : 2 ≤ d) {p0 : Nat} {p1 : Int32} {M : fM} {φ : Int32 → fM → Prop} (h : w_X11_isPerson p0 p1 M φ) : FC g mtX11_isPerson d [.ref p0, .int p1] M 0 0 (rI φ) := by
  obtain ⟨d, rfl⟩ : ∃ e, d = e + 1 := ⟨d - 1, by omega⟩
  unfold w_X11_isPerson at h
  refine FC.intro (nL := 2) (by decide) rfl (Nat.le_of_ble_eq_true rfl) ?_
  show FW g mtX11_isPerson (d + 1) 0 [(0, .ref p0), (1, .int p1)] [] M 0 0 (rI φ)
  refine fw_iload_n (i := 1) 1 rfl (show decode _ _ = .ok (.iload_n 1, 1) by decide +kernel) ?_
  refine fw_iconst (v := (0 : Int32)) (show decode _ _ = .ok (.iconst 0, 1) by decide +kernel) (by decide) ?_
  refine fw_aload_n (i := 0) 0 rfl (show decode _ _ = .ok (.aload_n 0, 1) by decide +kernel) ?_
  obtain ⟨⟨hr2, n1, hs3⟩, h_1⟩ := h
  refine fw_getP (kd := 11) (k := 0) (show decode _ _ = .ok (.getfield 7, 3) by decide +kernel) gf_X11_7 hr2 hs3 rfl ?_
  have h_2 := dR_e h_1
  obtain ⟨y4, hy5, h_3⟩ := h_2
  refine fw_deref hy5 ?_
  refine fw_iconst (v := (0 : Int32)) (show decode _ _ = .ok (.iconst 0, 1) by decide +kernel) (by decide) ?_
  obtain ⟨⟨n6, hs7, hi8⟩, h_4⟩ := h_3
  refine fw_iald (show decode _ _ = .ok (.iaload, 1) by decide +kernel) hs7 hi8 ?_
  refine fw_iconst (v := (1 : Int32)) (show decode _ _ = .ok (.iconst 1, 1) by decide +kernel) (by decide) ?_
  refine fw_isub (show decode _ _ = .ok (.isub, 1) by decide +kernel) ?_
  refine fw_callS (mt' := mtX11_isIn) (mc := 0) (ms := 0) (As := [.int p1, .int (0 : Int32), .int ((mI M y4 (ix (0 : Int32))) - (1 : Int32))]) (rest := []) 3 (show decode _ _ = .ok (.invokestatic 66, 3) by decide +kernel) cs_X11_66 rfl (Nat.le_of_ble_eq_true rfl) (s_X11_isIn (d := d) (hd_le hd (by decide)) h_4) (by decide) (by decide) (kI (bc' := 0) (bs' := 0) (by decide) (by decide) (fun x10 M9 h_5 => ?_))
  obtain ⟨hbb, h_6⟩ := h_5
  exact fw_ret (v := some (.int x10)) .ireturn (show decode _ _ = .ok (.ireturn, 1) by decide +kernel) ⟨rfl, Or.inr (Or.inl ⟨rfl, hbb⟩)⟩ ⟨_, rfl, h_6⟩
def w_X11_isMind (p0 : Nat) (p1 : Int32) (p2 : Int32) (p3 : Int32) (M : fM) (φ : Int32 → fM → Prop) : Prop := isO M p0 11 ∧ w_X11_isPerson p0 p1 M fun x5 M1 => iF (x5 = 0) (φ (0 : Int32) M1) (w_X11_isHouse p2 M1 fun x7 M6 => iF (x7 = 0) (φ (0 : Int32) M6) (w_X11_isIn p3 (0 : Int32) (3 : Int32) M6 fun x9 M8 => iF (x9 = 0) (φ (0 : Int32) M8) (φ (1 : Int32) M8)))
set_option maxRecDepth 100000 in
theorem s_X11_isMind {g : GT} {d : Nat} (hd : 3 ≤ d) {p0 : Nat} {p1 : Int32} {p2 : Int32} {p3 : Int32} {M : fM} {φ : Int32 → fM → Prop} (h : w_X11_isMind p0 p1 p2 p3 M φ) : FC g mtX11_isMind d [.ref p0, .int p1, .int p2, .int p3] M 0 0 (rI φ) := by
  obtain ⟨d, rfl⟩ : ∃ e, d = e + 1 := ⟨d - 1, by omega⟩
  unfold w_X11_isMind at h
  refine FC.intro (nL := 4) (by decide) rfl (Nat.le_of_ble_eq_true rfl) ?_
  show FW g mtX11_isMind (d + 1) 0 [(0, .ref p0), (1, .int p1), (2, .int p2), (3, .int p3)] [] M 0 0 (rI φ)
  refine fw_aload_n (i := 0) 0 rfl (show decode _ _ = .ok (.aload_n 0, 1) by decide +kernel) ?_
  refine fw_iload_n (i := 1) 1 rfl (show decode _ _ = .ok (.iload_n 1, 1) by decide +kernel) ?_
  obtain ⟨⟨hr3, n2, hs4⟩, h_1⟩ := h
  refine fw_callV (mt' := mtX11_isPerson) (mc := 0) (ms := 0) (As := [.int p1]) (rest := []) 1 11 n2 (show decode _ _ = .ok (.invokevirtual 322, 3) by decide +kernel) cv_X11_322 ⟨_, rfl, rfl⟩ hr3 hs4 rfl (Nat.le_of_ble_eq_true rfl) (s_X11_isPerson (d := d) (hd_le hd (by decide)) h_1) (by decide) (by decide) (kI (bc' := 0) (bs' := 0) (by decide) (by decide) (fun x5 M1 h_2 => ?_))
  refine fw_if_eq 28 (show decode _ _ = .ok (.ifCond .eq 23, 3) by decide +kernel) (by decide) (fun hc12 => ?_) (fun hc12 => ?_)
  · have h_3 := ipos hc12 h_2
    refine fw_iconst (v := (0 : Int32)) (show decode _ _ = .ok (.iconst 0, 1) by decide +kernel) (by decide) ?_
    exact fw_ret (v := some (.int (0 : Int32))) .ireturn (show decode _ _ = .ok (.ireturn, 1) by decide +kernel) ⟨rfl, Or.inr (Or.inl ⟨rfl, rfl⟩)⟩ ⟨_, rfl, h_3⟩
  · have h_4 := ineg hc12 h_2
    refine fw_iload_n (i := 2) 2 rfl (show decode _ _ = .ok (.iload_n 2, 1) by decide +kernel) ?_
    refine fw_callS (mt' := mtX11_isHouse) (mc := 0) (ms := 0) (As := [.int p2]) (rest := []) 1 (show decode _ _ = .ok (.invokestatic 70, 3) by decide +kernel) cs_X11_70 rfl (Nat.le_of_ble_eq_true rfl) (s_X11_isHouse (d := d) (hd_le hd (by decide)) h_4) (by decide) (by decide) (kI (bc' := 0) (bs' := 0) (by decide) (by decide) (fun x7 M6 h_5 => ?_))
    refine fw_if_eq 28 (show decode _ _ = .ok (.ifCond .eq 16, 3) by decide +kernel) (by decide) (fun hc11 => ?_) (fun hc11 => ?_)
    · have h_6 := ipos hc11 h_5
      refine fw_iconst (v := (0 : Int32)) (show decode _ _ = .ok (.iconst 0, 1) by decide +kernel) (by decide) ?_
      exact fw_ret (v := some (.int (0 : Int32))) .ireturn (show decode _ _ = .ok (.ireturn, 1) by decide +kernel) ⟨rfl, Or.inr (Or.inl ⟨rfl, rfl⟩)⟩ ⟨_, rfl, h_6⟩
    · have h_7 := ineg hc11 h_5
      refine fw_iload_n (i := 3) 3 rfl (show decode _ _ = .ok (.iload_n 3, 1) by decide +kernel) ?_
      refine fw_iconst (v := (0 : Int32)) (show decode _ _ = .ok (.iconst 0, 1) by decide +kernel) (by decide) ?_
      refine fw_iconst (v := (3 : Int32)) (show decode _ _ = .ok (.iconst 3, 1) by decide +kernel) (by decide) ?_
      refine fw_callS (mt' := mtX11_isIn) (mc := 0) (ms := 0) (As := [.int p3, .int (0 : Int32), .int (3 : Int32)]) (rest := []) 3 (show decode _ _ = .ok (.invokestatic 66, 3) by decide +kernel) cs_X11_66 rfl (Nat.le_of_ble_eq_true rfl) (s_X11_isIn (d := d) (hd_le hd (by decide)) h_7) (by decide) (by decide) (kI (bc' := 0) (bs' := 0) (by decide) (by decide) (fun x9 M8 h_8 => ?_))
      refine fw_if_eq 28 (show decode _ _ = .ok (.ifCond .eq 7, 3) by decide +kernel) (by decide) (fun hc10 => ?_) (fun hc10 => ?_)
      · have h_9 := ipos hc10 h_8
        refine fw_iconst (v := (0 : Int32)) (show decode _ _ = .ok (.iconst 0, 1) by decide +kernel) (by decide) ?_
        exact fw_ret (v := some (.int (0 : Int32))) .ireturn (show decode _ _ = .ok (.ireturn, 1) by decide +kernel) ⟨rfl, Or.inr (Or.inl ⟨rfl, rfl⟩)⟩ ⟨_, rfl, h_9⟩
      · have h_10 := ineg hc10 h_8
        refine fw_iconst (v := (1 : Int32)) (show decode _ _ = .ok (.iconst 1, 1) by decide +kernel) (by decide) ?_
        refine fw_goto 29 (show decode _ _ = .ok (.goto 4, 3) by decide +kernel) (by decide) ?_
        exact fw_ret (v := some (.int (1 : Int32))) .ireturn (show decode _ _ = .ok (.ireturn, 1) by decide +kernel) ⟨rfl, Or.inr (Or.inl ⟨rfl, rfl⟩)⟩ ⟨_, rfl, h_10⟩
