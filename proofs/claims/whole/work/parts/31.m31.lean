def j_X11_stair_41 (φ : Int32 → fM → Prop) (p0 : Nat) (p1 : Int32) (p2 : Int32) (M : fM) : Prop := isO M p0 11 ∧ w_X11_build p0 p1 p2 M fun M1 => isO M1 p0 11 ∧ w_X11_told p0 p1 M1 fun x9 M5 => isB x9 ∧ φ x9 M5
set_option maxRecDepth 100000 in
theorem sj_X11_stair_41 {g : GT} {d : Nat} (hd : 3 ≤ d + 1) {φ : Int32 → fM → Prop} {p0 : Nat} {p1 : Int32} {p2 : Int32} {M : fM} (h : j_X11_stair_41 φ p0 p1 p2 M) : FW g mtX11_stair (d + 1) 41 [(0, .ref p0), (1, .int p1), (2, .int p2)] [] M 0 0 (rI φ) := by
  unfold j_X11_stair_41 at h
  refine fw_aload_n (i := 0) 0 rfl (show decode _ _ = .ok (.aload_n 0, 1) by decide +kernel) ?_
  refine fw_iload_n (i := 1) 1 rfl (show decode _ _ = .ok (.iload_n 1, 1) by decide +kernel) ?_
  refine fw_iload_n (i := 2) 2 rfl (show decode _ _ = .ok (.iload_n 2, 1) by decide +kernel) ?_
  obtain ⟨⟨hr3, n2, hs4⟩, h_1⟩ := h
  refine fw_callV (mt' := mtX11_build) (mc := 0) (ms := 0) (As := [.int p1, .int p2]) (rest := []) 2 11 n2 (show decode _ _ = .ok (.invokevirtual 52, 3) by decide +kernel) cv_X11_52 ⟨_, rfl, rfl⟩ hr3 hs4 rfl (Nat.le_of_ble_eq_true rfl) (s_X11_build (d := d) (hd_le hd (by decide)) h_1) (by decide) (by decide) (kV (bc' := 0) (bs' := 0) (by decide) (by decide) (fun M1 h_2 => ?_))
  refine fw_aload_n (i := 0) 0 rfl (show decode _ _ = .ok (.aload_n 0, 1) by decide +kernel) ?_
  refine fw_iload_n (i := 1) 1 rfl (show decode _ _ = .ok (.iload_n 1, 1) by decide +kernel) ?_
  obtain ⟨⟨hr7, n6, hs8⟩, h_3⟩ := h_2
  refine fw_callV (mt' := mtX11_told) (mc := 0) (ms := 0) (As := [.int p1]) (rest := []) 1 11 n6 (show decode _ _ = .ok (.invokevirtual 78, 3) by decide +kernel) cv_X11_78 ⟨_, rfl, rfl⟩ hr7 hs8 rfl (Nat.le_of_ble_eq_true rfl) (s_X11_told (d := d) (hd_le hd (by decide)) h_3) (by decide) (by decide) (kI (bc' := 0) (bs' := 0) (by decide) (by decide) (fun x9 M5 h_4 => ?_))
  obtain ⟨hbb, h_5⟩ := h_4
  exact fw_ret (v := some (.int x9)) .ireturn (show decode _ _ = .ok (.ireturn, 1) by decide +kernel) ⟨rfl, Or.inr (Or.inl ⟨rfl, hbb⟩)⟩ ⟨_, rfl, h_5⟩
def w_X11_stair (p0 : Nat) (p1 : Int32) (p2 : Int32) (M : fM) (φ : Int32 → fM → Prop) : Prop := w_X11_isHouse p1 M fun x11 M10 => iF (x11 = 0) (φ (0 : Int32) M10) (w_X11_isIn p2 (1 : Int32) (14 : Int32) M10 fun x13 M12 => iF (x13 = 0) (φ (0 : Int32) M12) (isO M12 p0 11 ∧ dR (mP M12 p0 0) fun y17 => inA M12 y17 12 (108 : Int32) ∧ iF ((mI M12 y17 (ix (108 : Int32))) = (1 : Int32)) (dR (mP M12 p0 0) fun y22 => inA M12 y22 12 (101 : Int32) ∧ iF ((mI M12 y22 (ix (101 : Int32))) = p1) (φ (0 : Int32) M12) (j_X11_stair_41 φ p0 p1 p2 M12)) (j_X11_stair_41 φ p0 p1 p2 M12)))
set_option maxRecDepth 100000 in
theorem s_X11_stair {g : GT} {d : Nat} (hd : 3 ≤ d) {p0 : Nat} {p1 : Int32} {p2 : Int32} {M : fM} {φ : Int32 → fM → Prop} (h : w_X11_stair p0 p1 p2 M φ) : FC g mtX11_stair d [.ref p0, .int p1, .int p2] M 0 0 (rI φ) := by
  obtain ⟨d, rfl⟩ : ∃ e, d = e + 1 := ⟨d - 1, by omega⟩
  unfold w_X11_stair at h
  refine FC.intro (nL := 3) (by decide) rfl (Nat.le_of_ble_eq_true rfl) ?_
  show FW g mtX11_stair (d + 1) 0 [(0, .ref p0), (1, .int p1), (2, .int p2)] [] M 0 0 (rI φ)
  refine fw_iload_n (i := 1) 1 rfl (show decode _ _ = .ok (.iload_n 1, 1) by decide +kernel) ?_
  refine fw_callS (mt' := mtX11_isHouse) (mc := 0) (ms := 0) (As := [.int p1]) (rest := []) 1 (show decode _ _ = .ok (.invokestatic 70, 3) by decide +kernel) cs_X11_70 rfl (Nat.le_of_ble_eq_true rfl) (s_X11_isHouse (d := d) (hd_le hd (by decide)) h) (by decide) (by decide) (kI (bc' := 0) (bs' := 0) (by decide) (by decide) (fun x11 M10 h_1 => ?_))
  refine fw_if_eq 39 (show decode _ _ = .ok (.ifCond .eq 35, 3) by decide +kernel) (by decide) (fun hc30 => ?_) (fun hc30 => ?_)
  · have h_2 := ipos hc30 h_1
    refine fw_iconst (v := (0 : Int32)) (show decode _ _ = .ok (.iconst 0, 1) by decide +kernel) (by decide) ?_
    exact fw_ret (v := some (.int (0 : Int32))) .ireturn (show decode _ _ = .ok (.ireturn, 1) by decide +kernel) ⟨rfl, Or.inr (Or.inl ⟨rfl, rfl⟩)⟩ ⟨_, rfl, h_2⟩
  · have h_3 := ineg hc30 h_1
    refine fw_iload_n (i := 2) 2 rfl (show decode _ _ = .ok (.iload_n 2, 1) by decide +kernel) ?_
    refine fw_iconst (v := (1 : Int32)) (show decode _ _ = .ok (.iconst 1, 1) by decide +kernel) (by decide) ?_
    refine fw_bipush (v := (14 : Int32)) (show decode _ _ = .ok (.bipush 14, 2) by decide +kernel) (by decide) ?_
    refine fw_callS (mt' := mtX11_isIn) (mc := 0) (ms := 0) (As := [.int p2, .int (1 : Int32), .int (14 : Int32)]) (rest := []) 3 (show decode _ _ = .ok (.invokestatic 66, 3) by decide +kernel) cs_X11_66 rfl (Nat.le_of_ble_eq_true rfl) (s_X11_isIn (d := d) (hd_le hd (by decide)) h_3) (by decide) (by decide) (kI (bc' := 0) (bs' := 0) (by decide) (by decide) (fun x13 M12 h_4 => ?_))
    refine fw_if_eq 39 (show decode _ _ = .ok (.ifCond .eq 25, 3) by decide +kernel) (by decide) (fun hc29 => ?_) (fun hc29 => ?_)
    · have h_5 := ipos hc29 h_4
      refine fw_iconst (v := (0 : Int32)) (show decode _ _ = .ok (.iconst 0, 1) by decide +kernel) (by decide) ?_
      exact fw_ret (v := some (.int (0 : Int32))) .ireturn (show decode _ _ = .ok (.ireturn, 1) by decide +kernel) ⟨rfl, Or.inr (Or.inl ⟨rfl, rfl⟩)⟩ ⟨_, rfl, h_5⟩
    · have h_6 := ineg hc29 h_4
      refine fw_aload_n (i := 0) 0 rfl (show decode _ _ = .ok (.aload_n 0, 1) by decide +kernel) ?_
      obtain ⟨⟨hr15, n14, hs16⟩, h_7⟩ := h_6
      refine fw_getP (kd := 11) (k := 0) (show decode _ _ = .ok (.getfield 7, 3) by decide +kernel) gf_X11_7 hr15 hs16 rfl ?_
      have h_8 := dR_e h_7
      obtain ⟨y17, hy18, h_9⟩ := h_8
      refine fw_deref hy18 ?_
      refine fw_bipush (v := (108 : Int32)) (show decode _ _ = .ok (.bipush 108, 2) by decide +kernel) (by decide) ?_
      obtain ⟨⟨n19, hs20, hi21⟩, h_10⟩ := h_9
      refine fw_iald (show decode _ _ = .ok (.iaload, 1) by decide +kernel) hs20 hi21 ?_
      refine fw_iconst (v := (1 : Int32)) (show decode _ _ = .ok (.iconst 1, 1) by decide +kernel) (by decide) ?_
      refine fw_icmp_ne 41 (show decode _ _ = .ok (.if_icmp .ne 16, 3) by decide +kernel) (by decide) (fun hc28 => ?_) (fun hc28 => ?_)
      · have h_11 := ineg hc28 h_10
        refine FW.sub [0, 1, 2] (ls' := [(0, .ref p0), (1, .int p1), (2, .int p2)]) rfl ?_
        exact sj_X11_stair_41 hd h_11
      · have h_12 := ipos hc28 h_10
        refine fw_aload_n (i := 0) 0 rfl (show decode _ _ = .ok (.aload_n 0, 1) by decide +kernel) ?_
        refine fw_getP (kd := 11) (k := 0) (show decode _ _ = .ok (.getfield 7, 3) by decide +kernel) gf_X11_7 hr15 hs16 rfl ?_
        have h_13 := dR_e h_12
        obtain ⟨y22, hy23, h_14⟩ := h_13
        refine fw_deref hy23 ?_
        refine fw_bipush (v := (101 : Int32)) (show decode _ _ = .ok (.bipush 101, 2) by decide +kernel) (by decide) ?_
        obtain ⟨⟨n24, hs25, hi26⟩, h_15⟩ := h_14
        refine fw_iald (show decode _ _ = .ok (.iaload, 1) by decide +kernel) hs25 hi26 ?_
        refine fw_iload_n (i := 1) 1 rfl (show decode _ _ = .ok (.iload_n 1, 1) by decide +kernel) ?_
        refine fw_icmp_ne 41 (show decode _ _ = .ok (.if_icmp .ne 5, 3) by decide +kernel) (by decide) (fun hc27 => ?_) (fun hc27 => ?_)
        · have h_16 := ineg hc27 h_15
          refine FW.sub [0, 1, 2] (ls' := [(0, .ref p0), (1, .int p1), (2, .int p2)]) rfl ?_
          exact sj_X11_stair_41 hd h_16
        · have h_17 := ipos hc27 h_15
          refine fw_iconst (v := (0 : Int32)) (show decode _ _ = .ok (.iconst 0, 1) by decide +kernel) (by decide) ?_
          exact fw_ret (v := some (.int (0 : Int32))) .ireturn (show decode _ _ = .ok (.ireturn, 1) by decide +kernel) ⟨rfl, Or.inr (Or.inl ⟨rfl, rfl⟩)⟩ ⟨_, rfl, h_17⟩
def w_X11_mark (p0 : Nat) (p1 : Int32) (p2 : Int32) (p3 : Int32) (M : fM) (φ : Int32 → fM → Prop) : Prop := isO M p0 11 ∧ w_X11_isStep p0 p1 p2 M fun x5 M1 => iF (x5 = 0) (φ (0 : Int32) M1) (isO M1 p0 11 ∧ w_X11_marksOf p0 p1 M1 fun x10 M6 => w_X11_has x10 p2 M6 fun x12 M11 => iF (x12 = p3) (φ (0 : Int32) M11) (isO M11 p0 11 ∧ dR (mP M11 p0 0) fun y16 => nm (((10 : Int32) + ((18 : Int32) * p1)) + (1 : Int32)) fun x18 => inA M11 y16 12 x18 ∧ nm ((mI M11 y16 (ix x18)) ^^^ ((1 : Int32) <<< (p2 &&& 31))) fun x23 => 6 ≤ y16 ∧ inA M11 y16 12 x18 ∧ st (wI M11 y16 (ix x18) x23) fun M29 => w_X11_told p0 p1 M29 fun x32 M31 => isB x32 ∧ φ x32 M31))
set_option maxRecDepth 100000 in
theorem s_X11_mark {g : GT} {d : Nat} (hd : 4 ≤ d) {p0 : Nat} {p1 : Int32} {p2 : Int32} {p3 : Int32} {M : fM} {φ : Int32 → fM → Prop} (h : w_X11_mark p0 p1 p2 p3 M φ) : FC g mtX11_mark d [.ref p0, .int p1, .int p2, .int p3] M 0 0 (rI φ) := by
  obtain ⟨d, rfl⟩ : ∃ e, d = e + 1 := ⟨d - 1, by omega⟩
  unfold w_X11_mark at h
  refine FC.intro (nL := 4) (by decide) rfl (Nat.le_of_ble_eq_true rfl) ?_
  show FW g mtX11_mark (d + 1) 0 [(0, .ref p0), (1, .int p1), (2, .int p2), (3, .int p3)] [] M 0 0 (rI φ)
  refine fw_aload_n (i := 0) 0 rfl (show decode _ _ = .ok (.aload_n 0, 1) by decide +kernel) ?_
  refine fw_iload_n (i := 1) 1 rfl (show decode _ _ = .ok (.iload_n 1, 1) by decide +kernel) ?_
  refine fw_iload_n (i := 2) 2 rfl (show decode _ _ = .ok (.iload_n 2, 1) by decide +kernel) ?_
  obtain ⟨⟨hr3, n2, hs4⟩, h_1⟩ := h
  refine fw_callV (mt' := mtX11_isStep) (mc := 0) (ms := 0) (As := [.int p1, .int p2]) (rest := []) 2 11 n2 (show decode _ _ = .ok (.invokevirtual 81, 3) by decide +kernel) cv_X11_81 ⟨_, rfl, rfl⟩ hr3 hs4 rfl (Nat.le_of_ble_eq_true rfl) (s_X11_isStep (d := d) (hd_le hd (by decide)) h_1) (by decide) (by decide) (kI (bc' := 0) (bs' := 0) (by decide) (by decide) (fun x5 M1 h_2 => ?_))
  refine fw_if_eq 22 (show decode _ _ = .ok (.ifCond .eq 16, 3) by decide +kernel) (by decide) (fun hc34 => ?_) (fun hc34 => ?_)
  · have h_3 := ipos hc34 h_2
    refine fw_iconst (v := (0 : Int32)) (show decode _ _ = .ok (.iconst 0, 1) by decide +kernel) (by decide) ?_
    exact fw_ret (v := some (.int (0 : Int32))) .ireturn (show decode _ _ = .ok (.ireturn, 1) by decide +kernel) ⟨rfl, Or.inr (Or.inl ⟨rfl, rfl⟩)⟩ ⟨_, rfl, h_3⟩
  · have h_4 := ineg hc34 h_2
    refine fw_aload_n (i := 0) 0 rfl (show decode _ _ = .ok (.aload_n 0, 1) by decide +kernel) ?_
    refine fw_iload_n (i := 1) 1 rfl (show decode _ _ = .ok (.iload_n 1, 1) by decide +kernel) ?_
    obtain ⟨⟨hr8, n7, hs9⟩, h_5⟩ := h_4
    refine fw_callV (mt' := mtX11_marksOf) (mc := 0) (ms := 0) (As := [.int p1]) (rest := []) 1 11 n7 (show decode _ _ = .ok (.invokevirtual 85, 3) by decide +kernel) cv_X11_85 ⟨_, rfl, rfl⟩ hr8 hs9 rfl (Nat.le_of_ble_eq_true rfl) (s_X11_marksOf (d := d) (hd_le hd (by decide)) h_5) (by decide) (by decide) (kI (bc' := 0) (bs' := 0) (by decide) (by decide) (fun x10 M6 h_6 => ?_))
    refine fw_iload_n (i := 2) 2 rfl (show decode _ _ = .ok (.iload_n 2, 1) by decide +kernel) ?_
    refine fw_callS (mt' := mtX11_has) (mc := 0) (ms := 0) (As := [.int x10, .int p2]) (rest := []) 2 (show decode _ _ = .ok (.invokestatic 88, 3) by decide +kernel) cs_X11_88 rfl (Nat.le_of_ble_eq_true rfl) (s_X11_has (d := d) (hd_le hd (by decide)) h_6) (by decide) (by decide) (kI (bc' := 0) (bs' := 0) (by decide) (by decide) (fun x12 M11 h_7 => ?_))
    refine fw_iload_n (i := 3) 3 rfl (show decode _ _ = .ok (.iload_n 3, 1) by decide +kernel) ?_
    refine fw_icmp_ne 24 (show decode _ _ = .ok (.if_icmp .ne 5, 3) by decide +kernel) (by decide) (fun hc33 => ?_) (fun hc33 => ?_)
    · have h_8 := ineg hc33 h_7
      refine fw_aload_n (i := 0) 0 rfl (show decode _ _ = .ok (.aload_n 0, 1) by decide +kernel) ?_
      obtain ⟨⟨hr14, n13, hs15⟩, h_9⟩ := h_8
      refine fw_getP (kd := 11) (k := 0) (show decode _ _ = .ok (.getfield 7, 3) by decide +kernel) gf_X11_7 hr14 hs15 rfl ?_
      have h_10 := dR_e h_9
      obtain ⟨y16, hy17, h_11⟩ := h_10
      refine fw_deref hy17 ?_
      refine fw_bipush (v := (10 : Int32)) (show decode _ _ = .ok (.bipush 10, 2) by decide +kernel) (by decide) ?_
      refine fw_bipush (v := (18 : Int32)) (show decode _ _ = .ok (.bipush 18, 2) by decide +kernel) (by decide) ?_
      refine fw_iload_n (i := 1) 1 rfl (show decode _ _ = .ok (.iload_n 1, 1) by decide +kernel) ?_
      refine fw_imul (show decode _ _ = .ok (.imul, 1) by decide +kernel) ?_
      refine fw_iadd (show decode _ _ = .ok (.iadd, 1) by decide +kernel) ?_
      refine fw_iconst (v := (1 : Int32)) (show decode _ _ = .ok (.iconst 1, 1) by decide +kernel) (by decide) ?_
      refine fw_iadd (show decode _ _ = .ok (.iadd, 1) by decide +kernel) ?_
      refine fw_nmI (fun x18 ex19 => ?_)
      have h_12 := h_11 x18 ex19
      refine fw_dup2_11 (show decode _ _ = .ok (.dup2, 1) by decide +kernel) rfl rfl ?_
      obtain ⟨⟨n20, hs21, hi22⟩, h_13⟩ := h_12
      refine fw_iald (show decode _ _ = .ok (.iaload, 1) by decide +kernel) hs21 hi22 ?_
      refine fw_iconst (v := (1 : Int32)) (show decode _ _ = .ok (.iconst 1, 1) by decide +kernel) (by decide) ?_
      refine fw_iload_n (i := 2) 2 rfl (show decode _ _ = .ok (.iload_n 2, 1) by decide +kernel) ?_
      refine fw_ishl (show decode _ _ = .ok (.ishl, 1) by decide +kernel) ?_
      refine fw_ixor (show decode _ _ = .ok (.ixor, 1) by decide +kernel) ?_
      refine fw_nmI (fun x23 ex24 => ?_)
      have h_14 := h_13 x23 ex24
      obtain ⟨hr28, ⟨n25, hs26, hi27⟩, h_15⟩ := h_14
      refine fw_iast (show decode _ _ = .ok (.iastore, 1) by decide +kernel) hr28 hs26 hi27 ?_
      refine FW.nmM (fun M29 eM30 => ?_)
      have h_16 := h_15 M29 eM30
      refine fw_aload_n (i := 0) 0 rfl (show decode _ _ = .ok (.aload_n 0, 1) by decide +kernel) ?_
      refine fw_iload_n (i := 1) 1 rfl (show decode _ _ = .ok (.iload_n 1, 1) by decide +kernel) ?_
      refine fw_callV (mt' := mtX11_told) (mc := 0) (ms := 0) (As := [.int p1]) (rest := []) 1 11 n13 (show decode _ _ = .ok (.invokevirtual 78, 3) by decide +kernel) cv_X11_78 ⟨_, rfl, rfl⟩ hr14 (mSw_I eM30 hs15) rfl (Nat.le_of_ble_eq_true rfl) (s_X11_told (d := d) (hd_le hd (by decide)) h_16) (by decide) (by decide) (kI (bc' := 0) (bs' := 0) (by decide) (by decide) (fun x32 M31 h_17 => ?_))
      obtain ⟨hbb, h_18⟩ := h_17
      exact fw_ret (v := some (.int x32)) .ireturn (show decode _ _ = .ok (.ireturn, 1) by decide +kernel) ⟨rfl, Or.inr (Or.inl ⟨rfl, hbb⟩)⟩ ⟨_, rfl, h_18⟩
    · have h_19 := ipos hc33 h_7
      refine fw_iconst (v := (0 : Int32)) (show decode _ _ = .ok (.iconst 0, 1) by decide +kernel) (by decide) ?_
      exact fw_ret (v := some (.int (0 : Int32))) .ireturn (show decode _ _ = .ok (.ireturn, 1) by decide +kernel) ⟨rfl, Or.inr (Or.inl ⟨rfl, rfl⟩)⟩ ⟨_, rfl, h_19⟩
def w_X11_rail (p0 : Nat) (p1 : Int32) (p2 : Int32) (M : fM) (φ : Int32 → fM → Prop) : Prop := w_X11_isHouse p1 M fun x2 M1 => iF (x2 = 0) (φ (0 : Int32) M1) (isO M1 p0 11 ∧ w_X11_stepsOf p0 p1 M1 fun x7 M3 => w_X11_isIn p2 (0 : Int32) x7 M3 fun x9 M8 => iF (x9 = 0) (φ (0 : Int32) M8) (isO M8 p0 11 ∧ dR (mP M8 p0 0) fun y13 => 6 ≤ y13 ∧ inA M8 y13 12 (((10 : Int32) + ((18 : Int32) * p1)) + (2 : Int32)) ∧ st (wI M8 y13 (ix (((10 : Int32) + ((18 : Int32) * p1)) + (2 : Int32))) p2) fun M19 => w_X11_told p0 p1 M19 fun x22 M21 => isB x22 ∧ φ x22 M21))
set_option maxRecDepth 100000 in
theorem s_X11_rail {g : GT} {d : Nat} (hd : 3 ≤ d) {p0 : Nat} {p1 : Int32} {p2 : Int32} {M : fM} {φ : Int32 → fM → Prop} (h : w_X11_rail p0 p1 p2 M φ) : FC g mtX11_rail d [.ref p0, .int p1, .int p2] M 0 0 (rI φ) := by
  obtain ⟨d, rfl⟩ : ∃ e, d = e + 1 := ⟨d - 1, by omega⟩
  unfold w_X11_rail at h
  refine FC.intro (nL := 3) (by decide) rfl (Nat.le_of_ble_eq_true rfl) ?_
  show FW g mtX11_rail (d + 1) 0 [(0, .ref p0), (1, .int p1), (2, .int p2)] [] M 0 0 (rI φ)
  refine fw_iload_n (i := 1) 1 rfl (show decode _ _ = .ok (.iload_n 1, 1) by decide +kernel) ?_
  refine fw_callS (mt' := mtX11_isHouse) (mc := 0) (ms := 0) (As := [.int p1]) (rest := []) 1 (show decode _ _ = .ok (.invokestatic 70, 3) by decide +kernel) cs_X11_70 rfl (Nat.le_of_ble_eq_true rfl) (s_X11_isHouse (d := d) (hd_le hd (by decide)) h) (by decide) (by decide) (kI (bc' := 0) (bs' := 0) (by decide) (by decide) (fun x2 M1 h_1 => ?_))
  refine fw_if_eq 20 (show decode _ _ = .ok (.ifCond .eq 16, 3) by decide +kernel) (by decide) (fun hc24 => ?_) (fun hc24 => ?_)
  · have h_2 := ipos hc24 h_1
    refine fw_iconst (v := (0 : Int32)) (show decode _ _ = .ok (.iconst 0, 1) by decide +kernel) (by decide) ?_
    exact fw_ret (v := some (.int (0 : Int32))) .ireturn (show decode _ _ = .ok (.ireturn, 1) by decide +kernel) ⟨rfl, Or.inr (Or.inl ⟨rfl, rfl⟩)⟩ ⟨_, rfl, h_2⟩
  · have h_3 := ineg hc24 h_1
    refine fw_iload_n (i := 2) 2 rfl (show decode _ _ = .ok (.iload_n 2, 1) by decide +kernel) ?_
    refine fw_iconst (v := (0 : Int32)) (show decode _ _ = .ok (.iconst 0, 1) by decide +kernel) (by decide) ?_
    refine fw_aload_n (i := 0) 0 rfl (show decode _ _ = .ok (.aload_n 0, 1) by decide +kernel) ?_
    refine fw_iload_n (i := 1) 1 rfl (show decode _ _ = .ok (.iload_n 1, 1) by decide +kernel) ?_
    obtain ⟨⟨hr5, n4, hs6⟩, h_4⟩ := h_3
    refine fw_callV (mt' := mtX11_stepsOf) (mc := 0) (ms := 0) (As := [.int p1]) (rest := [.int (0 : Int32), .int p2]) 1 11 n4 (show decode _ _ = .ok (.invokevirtual 74, 3) by decide +kernel) cv_X11_74 ⟨_, rfl, rfl⟩ hr5 hs6 rfl (Nat.le_of_ble_eq_true rfl) (s_X11_stepsOf (d := d) (hd_le hd (by decide)) h_4) (by decide) (by decide) (kI (bc' := 0) (bs' := 0) (by decide) (by decide) (fun x7 M3 h_5 => ?_))
    refine fw_callS (mt' := mtX11_isIn) (mc := 0) (ms := 0) (As := [.int p2, .int (0 : Int32), .int x7]) (rest := []) 3 (show decode _ _ = .ok (.invokestatic 66, 3) by decide +kernel) cs_X11_66 rfl (Nat.le_of_ble_eq_true rfl) (s_X11_isIn (d := d) (hd_le hd (by decide)) h_5) (by decide) (by decide) (kI (bc' := 0) (bs' := 0) (by decide) (by decide) (fun x9 M8 h_6 => ?_))
    refine fw_if_ne 22 (show decode _ _ = .ok (.ifCond .ne 5, 3) by decide +kernel) (by decide) (fun hc23 => ?_) (fun hc23 => ?_)
    · have h_7 := ineg hc23 h_6
      refine fw_aload_n (i := 0) 0 rfl (show decode _ _ = .ok (.aload_n 0, 1) by decide +kernel) ?_
      obtain ⟨⟨hr11, n10, hs12⟩, h_8⟩ := h_7
      refine fw_getP (kd := 11) (k := 0) (show decode _ _ = .ok (.getfield 7, 3) by decide +kernel) gf_X11_7 hr11 hs12 rfl ?_
      have h_9 := dR_e h_8
      obtain ⟨y13, hy14, h_10⟩ := h_9
      refine fw_deref hy14 ?_
      refine fw_bipush (v := (10 : Int32)) (show decode _ _ = .ok (.bipush 10, 2) by decide +kernel) (by decide) ?_
      refine fw_bipush (v := (18 : Int32)) (show decode _ _ = .ok (.bipush 18, 2) by decide +kernel) (by decide) ?_
      refine fw_iload_n (i := 1) 1 rfl (show decode _ _ = .ok (.iload_n 1, 1) by decide +kernel) ?_
      refine fw_imul (show decode _ _ = .ok (.imul, 1) by decide +kernel) ?_
      refine fw_iadd (show decode _ _ = .ok (.iadd, 1) by decide +kernel) ?_
      refine fw_iconst (v := (2 : Int32)) (show decode _ _ = .ok (.iconst 2, 1) by decide +kernel) (by decide) ?_
      refine fw_iadd (show decode _ _ = .ok (.iadd, 1) by decide +kernel) ?_
      refine fw_iload_n (i := 2) 2 rfl (show decode _ _ = .ok (.iload_n 2, 1) by decide +kernel) ?_
      obtain ⟨hr18, ⟨n15, hs16, hi17⟩, h_11⟩ := h_10
      refine fw_iast (show decode _ _ = .ok (.iastore, 1) by decide +kernel) hr18 hs16 hi17 ?_
      refine FW.nmM (fun M19 eM20 => ?_)
      have h_12 := h_11 M19 eM20
      refine fw_aload_n (i := 0) 0 rfl (show decode _ _ = .ok (.aload_n 0, 1) by decide +kernel) ?_
      refine fw_iload_n (i := 1) 1 rfl (show decode _ _ = .ok (.iload_n 1, 1) by decide +kernel) ?_
      refine fw_callV (mt' := mtX11_told) (mc := 0) (ms := 0) (As := [.int p1]) (rest := []) 1 11 n10 (show decode _ _ = .ok (.invokevirtual 78, 3) by decide +kernel) cv_X11_78 ⟨_, rfl, rfl⟩ hr11 (mSw_I eM20 hs12) rfl (Nat.le_of_ble_eq_true rfl) (s_X11_told (d := d) (hd_le hd (by decide)) h_12) (by decide) (by decide) (kI (bc' := 0) (bs' := 0) (by decide) (by decide) (fun x22 M21 h_13 => ?_))
      obtain ⟨hbb, h_14⟩ := h_13
      exact fw_ret (v := some (.int x22)) .ireturn (show decode _ _ = .ok (.ireturn, 1) by decide +kernel) ⟨rfl, Or.inr (Or.inl ⟨rfl, hbb⟩)⟩ ⟨_, rfl, h_14⟩
    · have h_15 := ipos hc23 h_6
      refine fw_iconst (v := (0 : Int32)) (show decode _ _ = .ok (.iconst 0, 1) by decide +kernel) (by decide) ?_
      exact fw_ret (v := some (.int (0 : Int32))) .ireturn (show decode _ _ = .ok (.ireturn, 1) by decide +kernel) ⟨rfl, Or.inr (Or.inl ⟨rfl, rfl⟩)⟩ ⟨_, rfl, h_15⟩
def w_X11_person (p0 : Nat) (p1 : Int32) (p2 : Int32) (p3 : Int32) (M : fM) (φ : Int32 → fM → Prop) : Prop := w_X11_isIn p1 (0 : Int32) (10 : Int32) M fun x2 M1 => iF (x2 = 0) (φ (-1 : Int32) M1) (w_X11_isIn p2 (0 : Int32) ((10 : Int32) - p1) M1 fun x4 M3 => iF (x4 = 0) (φ (-1 : Int32) M3) (w_X11_isIn p3 (0 : Int32) (10 : Int32) M3 fun x6 M5 => iF (x6 = 0) (φ (-1 : Int32) M5) (isO M5 p0 11 ∧ dR (mP M5 p0 0) fun y10 => inA M5 y10 12 (0 : Int32) ∧ iF ((mI M5 y10 (ix (0 : Int32))) = (6 : Int32)) (φ (-1 : Int32) M5) (dR (mP M5 p0 0) fun y15 => inA M5 y15 12 (0 : Int32) ∧ nm ((82 : Int32) + ((3 : Int32) * (mI M5 y15 (ix (0 : Int32))))) fun x20 => dR (mP M5 p0 0) fun y22 => 6 ≤ y22 ∧ inA M5 y22 12 x20 ∧ st (wI M5 y22 (ix x20) p1) fun M28 => dR (mP M28 p0 0) fun y30 => 6 ≤ y30 ∧ inA M28 y30 12 (x20 + (1 : Int32)) ∧ st (wI M28 y30 (ix (x20 + (1 : Int32))) p2) fun M36 => dR (mP M36 p0 0) fun y38 => 6 ≤ y38 ∧ inA M36 y38 12 (x20 + (2 : Int32)) ∧ st (wI M36 y38 (ix (x20 + (2 : Int32))) p3) fun M44 => dR (mP M44 p0 0) fun y46 => inA M44 y46 12 (0 : Int32) ∧ nm ((mI M44 y46 (ix (0 : Int32))) + (1 : Int32)) fun x51 => 6 ≤ y46 ∧ inA M44 y46 12 (0 : Int32) ∧ st (wI M44 y46 (ix (0 : Int32)) x51) fun M57 => dR (mP M57 p0 0) fun y59 => inA M57 y59 12 (0 : Int32) ∧ φ ((mI M57 y59 (ix (0 : Int32))) - (1 : Int32)) M57))))
set_option maxRecDepth 100000 in
theorem s_X11_person {g : GT} {d : Nat} (hd : 2 ≤ d) {p0 : Nat} {p1 : Int32} {p2 : Int32} {p3 : Int32} {M : fM} {φ : Int32 → fM → Prop} (h : w_X11_person p0 p1 p2 p3 M φ) : FC g mtX11_person d [.ref p0, .int p1, .int p2, .int p3] M 0 0 (rI φ) := by
  obtain ⟨d, rfl⟩ : ∃ e, d = e + 1 := ⟨d - 1, by omega⟩
  unfold w_X11_person at h
  refine FC.intro (nL := 5) (by decide) rfl (Nat.le_of_ble_eq_true rfl) ?_
  show FW g mtX11_person (d + 1) 0 [(0, .ref p0), (1, .int p1), (2, .int p2), (3, .int p3)] [] M 0 0 (rI φ)
  refine fw_iload_n (i := 1) 1 rfl (show decode _ _ = .ok (.iload_n 1, 1) by decide +kernel) ?_
  refine fw_iconst (v := (0 : Int32)) (show decode _ _ = .ok (.iconst 0, 1) by decide +kernel) (by decide) ?_
  refine fw_bipush (v := (10 : Int32)) (show decode _ _ = .ok (.bipush 10, 2) by decide +kernel) (by decide) ?_
  refine fw_callS (mt' := mtX11_isIn) (mc := 0) (ms := 0) (As := [.int p1, .int (0 : Int32), .int (10 : Int32)]) (rest := []) 3 (show decode _ _ = .ok (.invokestatic 66, 3) by decide +kernel) cs_X11_66 rfl (Nat.le_of_ble_eq_true rfl) (s_X11_isIn (d := d) (hd_le hd (by decide)) h) (by decide) (by decide) (kI (bc' := 0) (bs' := 0) (by decide) (by decide) (fun x2 M1 h_1 => ?_))
  refine fw_if_eq 43 (show decode _ _ = .ok (.ifCond .eq 36, 3) by decide +kernel) (by decide) (fun hc67 => ?_) (fun hc67 => ?_)
  · have h_2 := ipos hc67 h_1
    refine fw_iconst (v := (-1 : Int32)) (show decode _ _ = .ok (.iconst (-1), 1) by decide +kernel) (by decide) ?_
    exact fw_ret (v := some (.int (-1 : Int32))) .ireturn (show decode _ _ = .ok (.ireturn, 1) by decide +kernel) ⟨rfl, Or.inl rfl⟩ ⟨_, rfl, h_2⟩
  · have h_3 := ineg hc67 h_1
    refine fw_iload_n (i := 2) 2 rfl (show decode _ _ = .ok (.iload_n 2, 1) by decide +kernel) ?_
    refine fw_iconst (v := (0 : Int32)) (show decode _ _ = .ok (.iconst 0, 1) by decide +kernel) (by decide) ?_
    refine fw_bipush (v := (10 : Int32)) (show decode _ _ = .ok (.bipush 10, 2) by decide +kernel) (by decide) ?_
    refine fw_iload_n (i := 1) 1 rfl (show decode _ _ = .ok (.iload_n 1, 1) by decide +kernel) ?_
    refine fw_isub (show decode _ _ = .ok (.isub, 1) by decide +kernel) ?_
    refine fw_callS (mt' := mtX11_isIn) (mc := 0) (ms := 0) (As := [.int p2, .int (0 : Int32), .int ((10 : Int32) - p1)]) (rest := []) 3 (show decode _ _ = .ok (.invokestatic 66, 3) by decide +kernel) cs_X11_66 rfl (Nat.le_of_ble_eq_true rfl) (s_X11_isIn (d := d) (hd_le hd (by decide)) h_3) (by decide) (by decide) (kI (bc' := 0) (bs' := 0) (by decide) (by decide) (fun x4 M3 h_4 => ?_))
    refine fw_if_eq 43 (show decode _ _ = .ok (.ifCond .eq 24, 3) by decide +kernel) (by decide) (fun hc66 => ?_) (fun hc66 => ?_)
    · have h_5 := ipos hc66 h_4
      refine fw_iconst (v := (-1 : Int32)) (show decode _ _ = .ok (.iconst (-1), 1) by decide +kernel) (by decide) ?_
      exact fw_ret (v := some (.int (-1 : Int32))) .ireturn (show decode _ _ = .ok (.ireturn, 1) by decide +kernel) ⟨rfl, Or.inl rfl⟩ ⟨_, rfl, h_5⟩
    · have h_6 := ineg hc66 h_4
      refine fw_iload_n (i := 3) 3 rfl (show decode _ _ = .ok (.iload_n 3, 1) by decide +kernel) ?_
      refine fw_iconst (v := (0 : Int32)) (show decode _ _ = .ok (.iconst 0, 1) by decide +kernel) (by decide) ?_
      refine fw_bipush (v := (10 : Int32)) (show decode _ _ = .ok (.bipush 10, 2) by decide +kernel) (by decide) ?_
      refine fw_callS (mt' := mtX11_isIn) (mc := 0) (ms := 0) (As := [.int p3, .int (0 : Int32), .int (10 : Int32)]) (rest := []) 3 (show decode _ _ = .ok (.invokestatic 66, 3) by decide +kernel) cs_X11_66 rfl (Nat.le_of_ble_eq_true rfl) (s_X11_isIn (d := d) (hd_le hd (by decide)) h_6) (by decide) (by decide) (kI (bc' := 0) (bs' := 0) (by decide) (by decide) (fun x6 M5 h_7 => ?_))
      refine fw_if_eq 43 (show decode _ _ = .ok (.ifCond .eq 14, 3) by decide +kernel) (by decide) (fun hc65 => ?_) (fun hc65 => ?_)
      · have h_8 := ipos hc65 h_7
        refine fw_iconst (v := (-1 : Int32)) (show decode _ _ = .ok (.iconst (-1), 1) by decide +kernel) (by decide) ?_
        exact fw_ret (v := some (.int (-1 : Int32))) .ireturn (show decode _ _ = .ok (.ireturn, 1) by decide +kernel) ⟨rfl, Or.inl rfl⟩ ⟨_, rfl, h_8⟩
      · have h_9 := ineg hc65 h_7
        refine fw_aload_n (i := 0) 0 rfl (show decode _ _ = .ok (.aload_n 0, 1) by decide +kernel) ?_
        obtain ⟨⟨hr8, n7, hs9⟩, h_10⟩ := h_9
        refine fw_getP (kd := 11) (k := 0) (show decode _ _ = .ok (.getfield 7, 3) by decide +kernel) gf_X11_7 hr8 hs9 rfl ?_
        have h_11 := dR_e h_10
        obtain ⟨y10, hy11, h_12⟩ := h_11
        refine fw_deref hy11 ?_
        refine fw_iconst (v := (0 : Int32)) (show decode _ _ = .ok (.iconst 0, 1) by decide +kernel) (by decide) ?_
        obtain ⟨⟨n12, hs13, hi14⟩, h_13⟩ := h_12
        refine fw_iald (show decode _ _ = .ok (.iaload, 1) by decide +kernel) hs13 hi14 ?_
        refine fw_bipush (v := (6 : Int32)) (show decode _ _ = .ok (.bipush 6, 2) by decide +kernel) (by decide) ?_
        refine fw_icmp_ne 45 (show decode _ _ = .ok (.if_icmp .ne 5, 3) by decide +kernel) (by decide) (fun hc64 => ?_) (fun hc64 => ?_)
        · have h_14 := ineg hc64 h_13
          refine fw_bipush (v := (82 : Int32)) (show decode _ _ = .ok (.bipush 82, 2) by decide +kernel) (by decide) ?_
          refine fw_iconst (v := (3 : Int32)) (show decode _ _ = .ok (.iconst 3, 1) by decide +kernel) (by decide) ?_
          refine fw_aload_n (i := 0) 0 rfl (show decode _ _ = .ok (.aload_n 0, 1) by decide +kernel) ?_
          refine fw_getP (kd := 11) (k := 0) (show decode _ _ = .ok (.getfield 7, 3) by decide +kernel) gf_X11_7 hr8 hs9 rfl ?_
          have h_15 := dR_e h_14
          obtain ⟨y15, hy16, h_16⟩ := h_15
          refine fw_deref hy16 ?_
          refine fw_iconst (v := (0 : Int32)) (show decode _ _ = .ok (.iconst 0, 1) by decide +kernel) (by decide) ?_
          obtain ⟨⟨n17, hs18, hi19⟩, h_17⟩ := h_16
          refine fw_iald (show decode _ _ = .ok (.iaload, 1) by decide +kernel) hs18 hi19 ?_
          refine fw_imul (show decode _ _ = .ok (.imul, 1) by decide +kernel) ?_
          refine fw_iadd (show decode _ _ = .ok (.iadd, 1) by decide +kernel) ?_
          refine fw_nmI (fun x20 ex21 => ?_)
          have h_18 := h_17 x20 ex21
          refine fw_istore (i := 4) (ls' := [(4, .int x20), (0, .ref p0), (1, .int p1), (2, .int p2), (3, .int p3)]) (show decode _ _ = .ok (.istore 4, 2) by decide +kernel) (by decide) rfl ?_
          refine fw_aload_n (i := 0) 1 rfl (show decode _ _ = .ok (.aload_n 0, 1) by decide +kernel) ?_
          refine fw_getP (kd := 11) (k := 0) (show decode _ _ = .ok (.getfield 7, 3) by decide +kernel) gf_X11_7 hr8 hs9 rfl ?_
          have h_19 := dR_e h_18
          obtain ⟨y22, hy23, h_20⟩ := h_19
          refine fw_deref hy23 ?_
          refine fw_iload (i := 4) 0 rfl (show decode _ _ = .ok (.iload 4, 2) by decide +kernel) ?_
          refine fw_iload_n (i := 1) 2 rfl (show decode _ _ = .ok (.iload_n 1, 1) by decide +kernel) ?_
          obtain ⟨hr27, ⟨n24, hs25, hi26⟩, h_21⟩ := h_20
          refine fw_iast (show decode _ _ = .ok (.iastore, 1) by decide +kernel) hr27 hs25 hi26 ?_
          refine FW.nmM (fun M28 eM29 => ?_)
          have h_22 := h_21 M28 eM29
          refine fw_aload_n (i := 0) 1 rfl (show decode _ _ = .ok (.aload_n 0, 1) by decide +kernel) ?_
          refine fw_getP (kd := 11) (k := 0) (show decode _ _ = .ok (.getfield 7, 3) by decide +kernel) gf_X11_7 hr8 (mSw_I eM29 hs9) rfl ?_
          have h_23 := dR_e h_22
          obtain ⟨y30, hy31, h_24⟩ := h_23
          refine fw_deref hy31 ?_
          refine fw_iload (i := 4) 0 rfl (show decode _ _ = .ok (.iload 4, 2) by decide +kernel) ?_
          refine fw_iconst (v := (1 : Int32)) (show decode _ _ = .ok (.iconst 1, 1) by decide +kernel) (by decide) ?_
          refine fw_iadd (show decode _ _ = .ok (.iadd, 1) by decide +kernel) ?_
          refine fw_iload_n (i := 2) 3 rfl (show decode _ _ = .ok (.iload_n 2, 1) by decide +kernel) ?_
          obtain ⟨hr35, ⟨n32, hs33, hi34⟩, h_25⟩ := h_24
          refine fw_iast (show decode _ _ = .ok (.iastore, 1) by decide +kernel) hr35 hs33 hi34 ?_
          refine FW.nmM (fun M36 eM37 => ?_)
          have h_26 := h_25 M36 eM37
          refine fw_aload_n (i := 0) 1 rfl (show decode _ _ = .ok (.aload_n 0, 1) by decide +kernel) ?_
          refine fw_getP (kd := 11) (k := 0) (show decode _ _ = .ok (.getfield 7, 3) by decide +kernel) gf_X11_7 hr8 (mSw_I eM37 (mSw_I eM29 hs9)) rfl ?_
          have h_27 := dR_e h_26
          obtain ⟨y38, hy39, h_28⟩ := h_27
          refine fw_deref hy39 ?_
          refine fw_iload (i := 4) 0 rfl (show decode _ _ = .ok (.iload 4, 2) by decide +kernel) ?_
          refine fw_iconst (v := (2 : Int32)) (show decode _ _ = .ok (.iconst 2, 1) by decide +kernel) (by decide) ?_
          refine fw_iadd (show decode _ _ = .ok (.iadd, 1) by decide +kernel) ?_
          refine fw_iload_n (i := 3) 4 rfl (show decode _ _ = .ok (.iload_n 3, 1) by decide +kernel) ?_
          obtain ⟨hr43, ⟨n40, hs41, hi42⟩, h_29⟩ := h_28
          refine fw_iast (show decode _ _ = .ok (.iastore, 1) by decide +kernel) hr43 hs41 hi42 ?_
          refine FW.nmM (fun M44 eM45 => ?_)
          have h_30 := h_29 M44 eM45
          refine fw_aload_n (i := 0) 1 rfl (show decode _ _ = .ok (.aload_n 0, 1) by decide +kernel) ?_
          refine fw_getP (kd := 11) (k := 0) (show decode _ _ = .ok (.getfield 7, 3) by decide +kernel) gf_X11_7 hr8 (mSw_I eM45 (mSw_I eM37 (mSw_I eM29 hs9))) rfl ?_
          have h_31 := dR_e h_30
          obtain ⟨y46, hy47, h_32⟩ := h_31
          refine fw_deref hy47 ?_
          refine fw_iconst (v := (0 : Int32)) (show decode _ _ = .ok (.iconst 0, 1) by decide +kernel) (by decide) ?_
          refine fw_dup2_11 (show decode _ _ = .ok (.dup2, 1) by decide +kernel) rfl rfl ?_
          obtain ⟨⟨n48, hs49, hi50⟩, h_33⟩ := h_32
          refine fw_iald (show decode _ _ = .ok (.iaload, 1) by decide +kernel) hs49 hi50 ?_
          refine fw_iconst (v := (1 : Int32)) (show decode _ _ = .ok (.iconst 1, 1) by decide +kernel) (by decide) ?_
          refine fw_iadd (show decode _ _ = .ok (.iadd, 1) by decide +kernel) ?_
          refine fw_nmI (fun x51 ex52 => ?_)
          have h_34 := h_33 x51 ex52
          obtain ⟨hr56, ⟨n53, hs54, hi55⟩, h_35⟩ := h_34
          refine fw_iast (show decode _ _ = .ok (.iastore, 1) by decide +kernel) hr56 hs54 hi55 ?_
          refine FW.nmM (fun M57 eM58 => ?_)
          have h_36 := h_35 M57 eM58
          refine fw_aload_n (i := 0) 1 rfl (show decode _ _ = .ok (.aload_n 0, 1) by decide +kernel) ?_
          refine fw_getP (kd := 11) (k := 0) (show decode _ _ = .ok (.getfield 7, 3) by decide +kernel) gf_X11_7 hr8 (mSw_I eM58 (mSw_I eM45 (mSw_I eM37 (mSw_I eM29 hs9)))) rfl ?_
          have h_37 := dR_e h_36
          obtain ⟨y59, hy60, h_38⟩ := h_37
          refine fw_deref hy60 ?_
          refine fw_iconst (v := (0 : Int32)) (show decode _ _ = .ok (.iconst 0, 1) by decide +kernel) (by decide) ?_
          obtain ⟨⟨n61, hs62, hi63⟩, h_39⟩ := h_38
          refine fw_iald (show decode _ _ = .ok (.iaload, 1) by decide +kernel) hs62 hi63 ?_
          refine fw_iconst (v := (1 : Int32)) (show decode _ _ = .ok (.iconst 1, 1) by decide +kernel) (by decide) ?_
          refine fw_isub (show decode _ _ = .ok (.isub, 1) by decide +kernel) ?_
          exact fw_ret (v := some (.int ((mI M57 y59 (ix (0 : Int32))) - (1 : Int32)))) .ireturn (show decode _ _ = .ok (.ireturn, 1) by decide +kernel) ⟨rfl, Or.inl rfl⟩ ⟨_, rfl, h_39⟩
        · have h_40 := ipos hc64 h_13
          refine fw_iconst (v := (-1 : Int32)) (show decode _ _ = .ok (.iconst (-1), 1) by decide +kernel) (by decide) ?_
          exact fw_ret (v := some (.int (-1 : Int32))) .ireturn (show decode _ _ = .ok (.ireturn, 1) by decide +kernel) ⟨rfl, Or.inl rfl⟩ ⟨_, rfl, h_40⟩
def j_X11_stop_92 (φ : Int32 → fM → Prop) (p1 : Int32) (s0 : Int32) (s1 : Nat) (M : fM) : Prop := isO M s1 11 ∧ w_X11_down s1 s0 M fun M1 => iF (p1 = 0) (φ (3 : Int32) M1) (φ (2 : Int32) M1)
set_option maxRecDepth 100000 in
theorem sj_X11_stop_92 {g : GT} {d : Nat} (hd : 6 ≤ d + 1) {φ : Int32 → fM → Prop} {p1 : Int32} {s0 : Int32} {s1 : Nat} {M : fM} (h : j_X11_stop_92 φ p1 s0 s1 M) : FW g mtX11_stop (d + 1) 92 [(1, .int p1)] [.int s0, .ref s1] M 0 0 (rI φ) := by
  unfold j_X11_stop_92 at h
  obtain ⟨⟨hr3, n2, hs4⟩, h_1⟩ := h
  refine fw_callV (mt' := mtX11_down) (mc := 0) (ms := 0) (As := [.int s0]) (rest := []) 1 11 n2 (show decode _ _ = .ok (.invokevirtual 347, 3) by decide +kernel) cv_X11_347 ⟨_, rfl, rfl⟩ hr3 hs4 rfl (Nat.le_of_ble_eq_true rfl) (s_X11_down (d := d) (hd_le hd (by decide)) h_1) (by decide) (by decide) (kV (bc' := 0) (bs' := 0) (by decide) (by decide) (fun M1 h_2 => ?_))
  refine fw_iload_n (i := 1) 0 rfl (show decode _ _ = .ok (.iload_n 1, 1) by decide +kernel) ?_
  refine fw_if_eq 103 (show decode _ _ = .ok (.ifCond .eq 7, 3) by decide +kernel) (by decide) (fun hc5 => ?_) (fun hc5 => ?_)
  · have h_3 := ipos hc5 h_2
    refine fw_iconst (v := (3 : Int32)) (show decode _ _ = .ok (.iconst 3, 1) by decide +kernel) (by decide) ?_
    exact fw_ret (v := some (.int (3 : Int32))) .ireturn (show decode _ _ = .ok (.ireturn, 1) by decide +kernel) ⟨rfl, Or.inl rfl⟩ ⟨_, rfl, h_3⟩
  · have h_4 := ineg hc5 h_2
    refine fw_iconst (v := (2 : Int32)) (show decode _ _ = .ok (.iconst 2, 1) by decide +kernel) (by decide) ?_
    refine fw_goto 104 (show decode _ _ = .ok (.goto 4, 3) by decide +kernel) (by decide) ?_
    exact fw_ret (v := some (.int (2 : Int32))) .ireturn (show decode _ _ = .ok (.ireturn, 1) by decide +kernel) ⟨rfl, Or.inl rfl⟩ ⟨_, rfl, h_4⟩
def j_X11_stop_82 (φ : Int32 → fM → Prop) (p0 : Nat) (p1 : Int32) (M : fM) : Prop := iF (p1 = 0) (j_X11_stop_92 φ p1 (3 : Int32) p0 M) (j_X11_stop_92 φ p1 (2 : Int32) p0 M)
set_option maxRecDepth 100000 in
theorem sj_X11_stop_82 {g : GT} {d : Nat} (hd : 6 ≤ d + 1) {φ : Int32 → fM → Prop} {p0 : Nat} {p1 : Int32} {M : fM} (h : j_X11_stop_82 φ p0 p1 M) : FW g mtX11_stop (d + 1) 82 [(0, .ref p0), (1, .int p1)] [] M 0 0 (rI φ) := by
  unfold j_X11_stop_82 at h
  refine fw_aload_n (i := 0) 0 rfl (show decode _ _ = .ok (.aload_n 0, 1) by decide +kernel) ?_
  refine fw_iload_n (i := 1) 1 rfl (show decode _ _ = .ok (.iload_n 1, 1) by decide +kernel) ?_
  refine fw_if_eq 91 (show decode _ _ = .ok (.ifCond .eq 7, 3) by decide +kernel) (by decide) (fun hc6 => ?_) (fun hc6 => ?_)
  · have h_1 := ipos hc6 h
    refine fw_iconst (v := (3 : Int32)) (show decode _ _ = .ok (.iconst 3, 1) by decide +kernel) (by decide) ?_
    refine FW.sub [1] (ls' := [(1, .int p1)]) rfl ?_
    exact sj_X11_stop_92 hd h_1
  · have h_2 := ineg hc6 h
    refine fw_iconst (v := (2 : Int32)) (show decode _ _ = .ok (.iconst 2, 1) by decide +kernel) (by decide) ?_
    refine fw_goto 92 (show decode _ _ = .ok (.goto 4, 3) by decide +kernel) (by decide) ?_
    refine FW.sub [1] (ls' := [(1, .int p1)]) rfl ?_
    exact sj_X11_stop_92 hd h_2
def j_X11_stop_42 (φ : Int32 → fM → Prop) (p0 : Nat) (s0 : Int32) (M : fM) : Prop := iF (s0 = 0) (isO M p0 11 ∧ dR (mP M p0 0) fun y10 => inA M y10 12 (106 : Int32) ∧ dR (mP M p0 0) fun y15 => inA M y15 12 (100 : Int32) ∧ dR (mP M p0 0) fun y20 => inA M y20 12 (101 : Int32) ∧ dR (mP M p0 0) fun y25 => inA M y25 12 (102 : Int32) ∧ w_X11_fallOf p0 (mI M y15 (ix (100 : Int32))) (mI M y20 (ix (101 : Int32))) (mI M y25 (ix (102 : Int32))) M fun x31 M30 => nm ((mI M y10 (ix (106 : Int32))) + x31) fun x32 => 6 ≤ y10 ∧ inA M30 y10 12 (106 : Int32) ∧ st (wI M30 y10 (ix (106 : Int32)) x32) fun M38 => j_X11_stop_82 φ p0 s0 M38) (j_X11_stop_82 φ p0 s0 M)
set_option maxRecDepth 100000 in
theorem sj_X11_stop_42 {g : GT} {d : Nat} (hd : 6 ≤ d + 1) {φ : Int32 → fM → Prop} {p0 : Nat} {s0 : Int32} {M : fM} (h : j_X11_stop_42 φ p0 s0 M) : FW g mtX11_stop (d + 1) 42 [(0, .ref p0)] [.int s0] M 0 0 (rI φ) := by
  unfold j_X11_stop_42 at h
  refine fw_istore_n (i := 1) (ls' := [(1, .int s0), (0, .ref p0)]) (show decode _ _ = .ok (.istore_n 1, 1) by decide +kernel) (by decide) rfl ?_
  refine fw_iload_n (i := 1) 0 rfl (show decode _ _ = .ok (.iload_n 1, 1) by decide +kernel) ?_
  refine fw_if_ne 82 (show decode _ _ = .ok (.ifCond .ne 38, 3) by decide +kernel) (by decide) (fun hc40 => ?_) (fun hc40 => ?_)
  · have h_1 := ineg hc40 h
    refine FW.sub [1, 0] (ls' := [(0, .ref p0), (1, .int s0)]) rfl ?_
    exact sj_X11_stop_82 hd h_1
  · have h_2 := ipos hc40 h
    refine fw_aload_n (i := 0) 1 rfl (show decode _ _ = .ok (.aload_n 0, 1) by decide +kernel) ?_
    obtain ⟨⟨hr8, n7, hs9⟩, h_3⟩ := h_2
    refine fw_getP (kd := 11) (k := 0) (show decode _ _ = .ok (.getfield 7, 3) by decide +kernel) gf_X11_7 hr8 hs9 rfl ?_
    have h_4 := dR_e h_3
    obtain ⟨y10, hy11, h_5⟩ := h_4
    refine fw_deref hy11 ?_
    refine fw_bipush (v := (106 : Int32)) (show decode _ _ = .ok (.bipush 106, 2) by decide +kernel) (by decide) ?_
    refine fw_dup2_11 (show decode _ _ = .ok (.dup2, 1) by decide +kernel) rfl rfl ?_
    obtain ⟨⟨n12, hs13, hi14⟩, h_6⟩ := h_5
    refine fw_iald (show decode _ _ = .ok (.iaload, 1) by decide +kernel) hs13 hi14 ?_
    refine fw_aload_n (i := 0) 1 rfl (show decode _ _ = .ok (.aload_n 0, 1) by decide +kernel) ?_
    refine fw_aload_n (i := 0) 1 rfl (show decode _ _ = .ok (.aload_n 0, 1) by decide +kernel) ?_
    refine fw_getP (kd := 11) (k := 0) (show decode _ _ = .ok (.getfield 7, 3) by decide +kernel) gf_X11_7 hr8 hs9 rfl ?_
    have h_7 := dR_e h_6
    obtain ⟨y15, hy16, h_8⟩ := h_7
    refine fw_deref hy16 ?_
    refine fw_bipush (v := (100 : Int32)) (show decode _ _ = .ok (.bipush 100, 2) by decide +kernel) (by decide) ?_
    obtain ⟨⟨n17, hs18, hi19⟩, h_9⟩ := h_8
    refine fw_iald (show decode _ _ = .ok (.iaload, 1) by decide +kernel) hs18 hi19 ?_
    refine fw_aload_n (i := 0) 1 rfl (show decode _ _ = .ok (.aload_n 0, 1) by decide +kernel) ?_
    refine fw_getP (kd := 11) (k := 0) (show decode _ _ = .ok (.getfield 7, 3) by decide +kernel) gf_X11_7 hr8 hs9 rfl ?_
    have h_10 := dR_e h_9
    obtain ⟨y20, hy21, h_11⟩ := h_10
    refine fw_deref hy21 ?_
    refine fw_bipush (v := (101 : Int32)) (show decode _ _ = .ok (.bipush 101, 2) by decide +kernel) (by decide) ?_
    obtain ⟨⟨n22, hs23, hi24⟩, h_12⟩ := h_11
    refine fw_iald (show decode _ _ = .ok (.iaload, 1) by decide +kernel) hs23 hi24 ?_
    refine fw_aload_n (i := 0) 1 rfl (show decode _ _ = .ok (.aload_n 0, 1) by decide +kernel) ?_
    refine fw_getP (kd := 11) (k := 0) (show decode _ _ = .ok (.getfield 7, 3) by decide +kernel) gf_X11_7 hr8 hs9 rfl ?_
    have h_13 := dR_e h_12
    obtain ⟨y25, hy26, h_14⟩ := h_13
    refine fw_deref hy26 ?_
    refine fw_bipush (v := (102 : Int32)) (show decode _ _ = .ok (.bipush 102, 2) by decide +kernel) (by decide) ?_
    obtain ⟨⟨n27, hs28, hi29⟩, h_15⟩ := h_14
    refine fw_iald (show decode _ _ = .ok (.iaload, 1) by decide +kernel) hs28 hi29 ?_
    refine fw_callV (mt' := mtX11_fallOf) (mc := 0) (ms := 0) (As := [.int (mI M y15 (ix (100 : Int32))), .int (mI M y20 (ix (101 : Int32))), .int (mI M y25 (ix (102 : Int32)))]) (rest := [.int (mI M y10 (ix (106 : Int32))), .int (106 : Int32), .ref y10]) 3 11 n7 (show decode _ _ = .ok (.invokevirtual 338, 3) by decide +kernel) cv_X11_338 ⟨_, rfl, rfl⟩ hr8 hs9 rfl (Nat.le_of_ble_eq_true rfl) (s_X11_fallOf (d := d) (hd_le hd (by decide)) h_15) (by decide) (by decide) (kI (bc' := 0) (bs' := 0) (by decide) (by decide) (fun x31 M30 h_16 => ?_))
    refine fw_iadd (show decode _ _ = .ok (.iadd, 1) by decide +kernel) ?_
    refine fw_nmI (fun x32 ex33 => ?_)
    have h_17 := h_16 x32 ex33
    obtain ⟨hr37, ⟨n34, hs35, hi36⟩, h_18⟩ := h_17
    refine fw_iast (show decode _ _ = .ok (.iastore, 1) by decide +kernel) hr37 hs35 hi36 ?_
    refine FW.nmM (fun M38 eM39 => ?_)
    have h_19 := h_18 M38 eM39
    refine FW.sub [1, 0] (ls' := [(0, .ref p0), (1, .int s0)]) rfl ?_
    exact sj_X11_stop_82 hd h_19
def w_X11_stop (p0 : Nat) (M : fM) (φ : Int32 → fM → Prop) : Prop := isO M p0 11 ∧ dR (mP M p0 0) fun y44 => inA M y44 12 (108 : Int32) ∧ iF ((mI M y44 (ix (108 : Int32))) = 0) (φ (-1 : Int32) M) (w_X11_keep p0 M fun M49 => isO M49 p0 11 ∧ dR (mP M49 p0 0) fun y53 => inA M49 y53 12 (103 : Int32) ∧ dR (mP M49 p0 0) fun y58 => inA M49 y58 12 (101 : Int32) ∧ w_X11_stepsOf p0 (mI M49 y58 (ix (101 : Int32))) M49 fun x64 M63 => iF ((mI M49 y53 (ix (103 : Int32))) = x64) (j_X11_stop_42 φ p0 (1 : Int32) M63) (j_X11_stop_42 φ p0 (0 : Int32) M63))
set_option maxRecDepth 100000 in
theorem s_X11_stop {g : GT} {d : Nat} (hd : 6 ≤ d) {p0 : Nat} {M : fM} {φ : Int32 → fM → Prop} (h : w_X11_stop p0 M φ) : FC g mtX11_stop d [.ref p0] M 0 0 (rI φ) := by
  obtain ⟨d, rfl⟩ : ∃ e, d = e + 1 := ⟨d - 1, by omega⟩
  unfold w_X11_stop at h
  refine FC.intro (nL := 2) (by decide) rfl (Nat.le_of_ble_eq_true rfl) ?_
  show FW g mtX11_stop (d + 1) 0 [(0, .ref p0)] [] M 0 0 (rI φ)
  refine fw_aload_n (i := 0) 0 rfl (show decode _ _ = .ok (.aload_n 0, 1) by decide +kernel) ?_
  obtain ⟨⟨hr42, n41, hs43⟩, h_1⟩ := h
  refine fw_getP (kd := 11) (k := 0) (show decode _ _ = .ok (.getfield 7, 3) by decide +kernel) gf_X11_7 hr42 hs43 rfl ?_
  have h_2 := dR_e h_1
  obtain ⟨y44, hy45, h_3⟩ := h_2
  refine fw_deref hy45 ?_
  refine fw_bipush (v := (108 : Int32)) (show decode _ _ = .ok (.bipush 108, 2) by decide +kernel) (by decide) ?_
  obtain ⟨⟨n46, hs47, hi48⟩, h_4⟩ := h_3
  refine fw_iald (show decode _ _ = .ok (.iaload, 1) by decide +kernel) hs47 hi48 ?_
  refine fw_if_ne 12 (show decode _ _ = .ok (.ifCond .ne 5, 3) by decide +kernel) (by decide) (fun hc66 => ?_) (fun hc66 => ?_)
  · have h_5 := ineg hc66 h_4
    refine fw_aload_n (i := 0) 0 rfl (show decode _ _ = .ok (.aload_n 0, 1) by decide +kernel) ?_
    refine fw_callV (mt' := mtX11_keep) (mc := 0) (ms := 0) (As := []) (rest := []) 0 11 n41 (show decode _ _ = .ok (.invokevirtual 353, 3) by decide +kernel) cv_X11_353 ⟨_, rfl, rfl⟩ hr42 hs43 rfl (Nat.le_of_ble_eq_true rfl) (s_X11_keep (d := d) (hd_le hd (by decide)) h_5) (by decide) (by decide) (kV (bc' := 0) (bs' := 0) (by decide) (by decide) (fun M49 h_6 => ?_))
    refine fw_aload_n (i := 0) 0 rfl (show decode _ _ = .ok (.aload_n 0, 1) by decide +kernel) ?_
    obtain ⟨⟨hr51, n50, hs52⟩, h_7⟩ := h_6
    refine fw_getP (kd := 11) (k := 0) (show decode _ _ = .ok (.getfield 7, 3) by decide +kernel) gf_X11_7 hr51 hs52 rfl ?_
    have h_8 := dR_e h_7
    obtain ⟨y53, hy54, h_9⟩ := h_8
    refine fw_deref hy54 ?_
    refine fw_bipush (v := (103 : Int32)) (show decode _ _ = .ok (.bipush 103, 2) by decide +kernel) (by decide) ?_
    obtain ⟨⟨n55, hs56, hi57⟩, h_10⟩ := h_9
    refine fw_iald (show decode _ _ = .ok (.iaload, 1) by decide +kernel) hs56 hi57 ?_
    refine fw_aload_n (i := 0) 0 rfl (show decode _ _ = .ok (.aload_n 0, 1) by decide +kernel) ?_
    refine fw_aload_n (i := 0) 0 rfl (show decode _ _ = .ok (.aload_n 0, 1) by decide +kernel) ?_
    refine fw_getP (kd := 11) (k := 0) (show decode _ _ = .ok (.getfield 7, 3) by decide +kernel) gf_X11_7 hr51 hs52 rfl ?_
    have h_11 := dR_e h_10
    obtain ⟨y58, hy59, h_12⟩ := h_11
    refine fw_deref hy59 ?_
    refine fw_bipush (v := (101 : Int32)) (show decode _ _ = .ok (.bipush 101, 2) by decide +kernel) (by decide) ?_
    obtain ⟨⟨n60, hs61, hi62⟩, h_13⟩ := h_12
    refine fw_iald (show decode _ _ = .ok (.iaload, 1) by decide +kernel) hs61 hi62 ?_
    refine fw_callV (mt' := mtX11_stepsOf) (mc := 0) (ms := 0) (As := [.int (mI M49 y58 (ix (101 : Int32)))]) (rest := [.int (mI M49 y53 (ix (103 : Int32)))]) 1 11 n50 (show decode _ _ = .ok (.invokevirtual 74, 3) by decide +kernel) cv_X11_74 ⟨_, rfl, rfl⟩ hr51 hs52 rfl (Nat.le_of_ble_eq_true rfl) (s_X11_stepsOf (d := d) (hd_le hd (by decide)) h_13) (by decide) (by decide) (kI (bc' := 0) (bs' := 0) (by decide) (by decide) (fun x64 M63 h_14 => ?_))
    refine fw_icmp_ne 41 (show decode _ _ = .ok (.if_icmp .ne 7, 3) by decide +kernel) (by decide) (fun hc65 => ?_) (fun hc65 => ?_)
    · have h_15 := ineg hc65 h_14
      refine fw_iconst (v := (0 : Int32)) (show decode _ _ = .ok (.iconst 0, 1) by decide +kernel) (by decide) ?_
      refine FW.sub [0] (ls' := [(0, .ref p0)]) rfl ?_
      exact sj_X11_stop_42 hd h_15
    · have h_16 := ipos hc65 h_14
      refine fw_iconst (v := (1 : Int32)) (show decode _ _ = .ok (.iconst 1, 1) by decide +kernel) (by decide) ?_
      refine fw_goto 42 (show decode _ _ = .ok (.goto 4, 3) by decide +kernel) (by decide) ?_
      refine FW.sub [0] (ls' := [(0, .ref p0)]) rfl ?_
      exact sj_X11_stop_42 hd h_16
  · have h_17 := ipos hc66 h_4
    refine fw_iconst (v := (-1 : Int32)) (show decode _ _ = .ok (.iconst (-1), 1) by decide +kernel) (by decide) ?_
    exact fw_ret (v := some (.int (-1 : Int32))) .ireturn (show decode _ _ = .ok (.ireturn, 1) by decide +kernel) ⟨rfl, Or.inl rfl⟩ ⟨_, rfl, h_17⟩
def j_X11_isPlayed_238 (φ : Int32 → fM → Prop) (p0 : Nat) (p1 : Int32) (p2 : Int32) (M : fM) : Prop := isO M p0 11 ∧ dR (mP M p0 2) fun y4 => inA M y4 12 p1 ∧ iF ((mI M y4 (ix p1)) ≤ (4 : Int32)) (φ (1 : Int32) M) (dR (mP M p0 2) fun y9 => inA M y9 12 p1 ∧ w_X11_areDone p0 (mI M y9 (ix p1)) p2 M fun x15 M14 => iF (x15 = 0) (φ (0 : Int32) M14) (φ (1 : Int32) M14))
set_option maxRecDepth 100000 in
theorem sj_X11_isPlayed_238 {g : GT} {d : Nat} (hd : 11 ≤ d + 1) {φ : Int32 → fM → Prop} {p0 : Nat} {p1 : Int32} {p2 : Int32} {M : fM} (h : j_X11_isPlayed_238 φ p0 p1 p2 M) : FW g mtX11_isPlayed (d + 1) 238 [(0, .ref p0), (1, .int p1), (2, .int p2)] [] M 0 0 (rI φ) := by
  unfold j_X11_isPlayed_238 at h
  refine fw_aload_n (i := 0) 0 rfl (show decode _ _ = .ok (.aload_n 0, 1) by decide +kernel) ?_
  obtain ⟨⟨hr2, n1, hs3⟩, h_1⟩ := h
  refine fw_getP (kd := 11) (k := 2) (show decode _ _ = .ok (.getfield 16, 3) by decide +kernel) gf_X11_16 hr2 hs3 rfl ?_
  have h_2 := dR_e h_1
  obtain ⟨y4, hy5, h_3⟩ := h_2
  refine fw_deref hy5 ?_
  refine fw_iload_n (i := 1) 1 rfl (show decode _ _ = .ok (.iload_n 1, 1) by decide +kernel) ?_
  obtain ⟨⟨n6, hs7, hi8⟩, h_4⟩ := h_3
  refine fw_iald (show decode _ _ = .ok (.iaload, 1) by decide +kernel) hs7 hi8 ?_
  refine fw_iconst (v := (4 : Int32)) (show decode _ _ = .ok (.iconst 4, 1) by decide +kernel) (by decide) ?_
  refine fw_icmp_le 262 (show decode _ _ = .ok (.if_icmp .le 17, 3) by decide +kernel) (by decide) (fun hc17 => ?_) (fun hc17 => ?_)
  · have h_5 := ipos hc17 h_4
    refine fw_iconst (v := (1 : Int32)) (show decode _ _ = .ok (.iconst 1, 1) by decide +kernel) (by decide) ?_
    refine fw_goto 267 (show decode _ _ = .ok (.goto 4, 3) by decide +kernel) (by decide) ?_
    exact fw_ret (v := some (.int (1 : Int32))) .ireturn (show decode _ _ = .ok (.ireturn, 1) by decide +kernel) ⟨rfl, Or.inr (Or.inl ⟨rfl, rfl⟩)⟩ ⟨_, rfl, h_5⟩
  · have h_6 := ineg hc17 h_4
    refine fw_aload_n (i := 0) 0 rfl (show decode _ _ = .ok (.aload_n 0, 1) by decide +kernel) ?_
    refine fw_aload_n (i := 0) 0 rfl (show decode _ _ = .ok (.aload_n 0, 1) by decide +kernel) ?_
    refine fw_getP (kd := 11) (k := 2) (show decode _ _ = .ok (.getfield 16, 3) by decide +kernel) gf_X11_16 hr2 hs3 rfl ?_
    have h_7 := dR_e h_6
    obtain ⟨y9, hy10, h_8⟩ := h_7
    refine fw_deref hy10 ?_
    refine fw_iload_n (i := 1) 1 rfl (show decode _ _ = .ok (.iload_n 1, 1) by decide +kernel) ?_
    obtain ⟨⟨n11, hs12, hi13⟩, h_9⟩ := h_8
    refine fw_iald (show decode _ _ = .ok (.iaload, 1) by decide +kernel) hs12 hi13 ?_
    refine fw_iload_n (i := 2) 2 rfl (show decode _ _ = .ok (.iload_n 2, 1) by decide +kernel) ?_
    refine fw_callV (mt' := mtX11_areDone) (mc := 0) (ms := 0) (As := [.int (mI M y9 (ix p1)), .int p2]) (rest := []) 2 11 n1 (show decode _ _ = .ok (.invokevirtual 396, 3) by decide +kernel) cv_X11_396 ⟨_, rfl, rfl⟩ hr2 hs3 rfl (Nat.le_of_ble_eq_true rfl) (s_X11_areDone (d := d) (hd_le hd (by decide)) h_9) (by decide) (by decide) (kI (bc' := 0) (bs' := 0) (by decide) (by decide) (fun x15 M14 h_10 => ?_))
    refine fw_if_eq 266 (show decode _ _ = .ok (.ifCond .eq 7, 3) by decide +kernel) (by decide) (fun hc16 => ?_) (fun hc16 => ?_)
    · have h_11 := ipos hc16 h_10
      refine fw_iconst (v := (0 : Int32)) (show decode _ _ = .ok (.iconst 0, 1) by decide +kernel) (by decide) ?_
      exact fw_ret (v := some (.int (0 : Int32))) .ireturn (show decode _ _ = .ok (.ireturn, 1) by decide +kernel) ⟨rfl, Or.inr (Or.inl ⟨rfl, rfl⟩)⟩ ⟨_, rfl, h_11⟩
    · have h_12 := ineg hc16 h_10
      refine fw_iconst (v := (1 : Int32)) (show decode _ _ = .ok (.iconst 1, 1) by decide +kernel) (by decide) ?_
      refine fw_goto 267 (show decode _ _ = .ok (.goto 4, 3) by decide +kernel) (by decide) ?_
      exact fw_ret (v := some (.int (1 : Int32))) .ireturn (show decode _ _ = .ok (.ireturn, 1) by decide +kernel) ⟨rfl, Or.inr (Or.inl ⟨rfl, rfl⟩)⟩ ⟨_, rfl, h_12⟩
def j_X11_isPlayed_135 (φ : Int32 → fM → Prop) (s0 : Int32) (s1 : Int32) (s2 : Int32) (s3 : Nat) (M : fM) : Prop := isO M s3 11 ∧ w_X11_mark s3 s2 s1 s0 M fun x22 M18 => iF (x22 = 0) (φ (0 : Int32) M18) (φ (1 : Int32) M18)
set_option maxRecDepth 100000 in
theorem sj_X11_isPlayed_135 {g : GT} {d : Nat} (hd : 11 ≤ d + 1) {φ : Int32 → fM → Prop} {s0 : Int32} {s1 : Int32} {s2 : Int32} {s3 : Nat} {M : fM} (h : j_X11_isPlayed_135 φ s0 s1 s2 s3 M) : FW g mtX11_isPlayed (d + 1) 135 [] [.int s0, .int s1, .int s2, .ref s3] M 0 0 (rI φ) := by
  unfold j_X11_isPlayed_135 at h
  obtain ⟨⟨hr20, n19, hs21⟩, h_1⟩ := h
  refine fw_callV (mt' := mtX11_mark) (mc := 0) (ms := 0) (As := [.int s2, .int s1, .int s0]) (rest := []) 3 11 n19 (show decode _ _ = .ok (.invokevirtual 380, 3) by decide +kernel) cv_X11_380 ⟨_, rfl, rfl⟩ hr20 hs21 rfl (Nat.le_of_ble_eq_true rfl) (s_X11_mark (d := d) (hd_le hd (by decide)) h_1) (by decide) (by decide) (kI (bc' := 0) (bs' := 0) (by decide) (by decide) (fun x22 M18 h_2 => ?_))
  refine fw_if_eq 145 (show decode _ _ = .ok (.ifCond .eq 7, 3) by decide +kernel) (by decide) (fun hc23 => ?_) (fun hc23 => ?_)
  · have h_3 := ipos hc23 h_2
    refine fw_iconst (v := (0 : Int32)) (show decode _ _ = .ok (.iconst 0, 1) by decide +kernel) (by decide) ?_
    exact fw_ret (v := some (.int (0 : Int32))) .ireturn (show decode _ _ = .ok (.ireturn, 1) by decide +kernel) ⟨rfl, Or.inr (Or.inl ⟨rfl, rfl⟩)⟩ ⟨_, rfl, h_3⟩
  · have h_4 := ineg hc23 h_2
    refine fw_iconst (v := (1 : Int32)) (show decode _ _ = .ok (.iconst 1, 1) by decide +kernel) (by decide) ?_
    refine fw_goto 146 (show decode _ _ = .ok (.goto 4, 3) by decide +kernel) (by decide) ?_
    exact fw_ret (v := some (.int (1 : Int32))) .ireturn (show decode _ _ = .ok (.ireturn, 1) by decide +kernel) ⟨rfl, Or.inr (Or.inl ⟨rfl, rfl⟩)⟩ ⟨_, rfl, h_4⟩
def w_X11_isPlayed (p0 : Nat) (p1 : Int32) (M : fM) (φ : Int32 → fM → Prop) : Prop := isO M p0 11 ∧ dR (mP M p0 2) fun y27 => inA M y27 12 (p1 + (1 : Int32)) ∧ nm (mI M y27 (ix (p1 + (1 : Int32)))) fun x32 => dR (mP M p0 2) fun y34 => inA M y34 12 (p1 + (2 : Int32)) ∧ nm (mI M y34 (ix (p1 + (2 : Int32)))) fun x39 => dR (mP M p0 2) fun y41 => inA M y41 12 p1 ∧ nm (mI M y41 (ix p1)) fun x46 => iF (x46 = (5 : Int32)) (w_X11_stair p0 x32 x39 M fun x49 M48 => isB x49 ∧ φ x49 M48) (iF (x46 = (6 : Int32)) (dR (mP M p0 2) fun y51 => inA M y51 12 (p1 + (3 : Int32)) ∧ w_X11_height p0 (mI M y51 (ix (p1 + (3 : Int32)))) x39 x32 M fun x57 M56 => isB x57 ∧ φ x57 M56) (iF (x46 = (7 : Int32)) (w_X11_isStep p0 x39 x32 M fun x60 M59 => iF (x60 = 0) (φ (0 : Int32) M59) (isO M59 p0 11 ∧ w_X11_marksOf p0 x39 M59 fun x65 M61 => w_X11_has x65 x32 M61 fun x67 M66 => iF (x67 = 0) (j_X11_isPlayed_135 φ (1 : Int32) x32 x39 p0 M66) (j_X11_isPlayed_135 φ (0 : Int32) x32 x39 p0 M66))) (iF (x46 = (8 : Int32)) (w_X11_rail p0 x39 x32 M fun x72 M71 => isB x72 ∧ φ x72 M71) (iF (x46 = (9 : Int32)) (dR (mP M p0 2) fun y74 => inA M y74 12 (p1 + (3 : Int32)) ∧ w_X11_person p0 x32 x39 (mI M y74 (ix (p1 + (3 : Int32)))) M fun x80 M79 => iF (x80 < 0) (φ (0 : Int32) M79) (φ (1 : Int32) M79)) (iF (x46 = (10 : Int32)) (w_X11_begin p0 x32 x39 (0 : Int32) M fun x84 M83 => iF (x84 < 0) (φ (0 : Int32) M83) (φ (1 : Int32) M83)) (iF (x46 = (11 : Int32)) (w_X11_begin p0 x32 x39 (1 : Int32) M fun x88 M87 => iF (x88 < 0) (φ (0 : Int32) M87) (φ (1 : Int32) M87)) (iF (x46 = (12 : Int32)) (w_X11_begin p0 x32 x39 (2 : Int32) M fun x92 M91 => iF (x92 < 0) (φ (0 : Int32) M91) (φ (1 : Int32) M91)) (iF (x46 = (15 : Int32)) (w_X11_stop p0 M fun x96 M95 => iF (x96 < 0) (φ (0 : Int32) M95) (φ (1 : Int32) M95)) (j_X11_isPlayed_238 φ p0 p1 x32 M)))))))))
set_option maxRecDepth 100000 in
theorem s_X11_isPlayed {g : GT} {d : Nat} (hd : 11 ≤ d) {p0 : Nat} {p1 : Int32} {M : fM} {φ : Int32 → fM → Prop} (h : w_X11_isPlayed p0 p1 M φ) : FC g mtX11_isPlayed d [.ref p0, .int p1] M 0 0 (rI φ) := by
  obtain ⟨d, rfl⟩ : ∃ e, d = e + 1 := ⟨d - 1, by omega⟩
  unfold w_X11_isPlayed at h
  refine FC.intro (nL := 4) (by decide) rfl (Nat.le_of_ble_eq_true rfl) ?_
  show FW g mtX11_isPlayed (d + 1) 0 [(0, .ref p0), (1, .int p1)] [] M 0 0 (rI φ)
  refine fw_aload_n (i := 0) 0 rfl (show decode _ _ = .ok (.aload_n 0, 1) by decide +kernel) ?_
  obtain ⟨⟨hr25, n24, hs26⟩, h_1⟩ := h
  refine fw_getP (kd := 11) (k := 2) (show decode _ _ = .ok (.getfield 16, 3) by decide +kernel) gf_X11_16 hr25 hs26 rfl ?_
  have h_2 := dR_e h_1
  obtain ⟨y27, hy28, h_3⟩ := h_2
  refine fw_deref hy28 ?_
  refine fw_iload_n (i := 1) 1 rfl (show decode _ _ = .ok (.iload_n 1, 1) by decide +kernel) ?_
  refine fw_iconst (v := (1 : Int32)) (show decode _ _ = .ok (.iconst 1, 1) by decide +kernel) (by decide) ?_
  refine fw_iadd (show decode _ _ = .ok (.iadd, 1) by decide +kernel) ?_
  obtain ⟨⟨n29, hs30, hi31⟩, h_4⟩ := h_3
  refine fw_iald (show decode _ _ = .ok (.iaload, 1) by decide +kernel) hs30 hi31 ?_
  refine fw_nmI (fun x32 ex33 => ?_)
  have h_5 := h_4 x32 ex33
  refine fw_istore_n (i := 2) (ls' := [(2, .int x32), (0, .ref p0), (1, .int p1)]) (show decode _ _ = .ok (.istore_n 2, 1) by decide +kernel) (by decide) rfl ?_
  refine fw_aload_n (i := 0) 1 rfl (show decode _ _ = .ok (.aload_n 0, 1) by decide +kernel) ?_
  refine fw_getP (kd := 11) (k := 2) (show decode _ _ = .ok (.getfield 16, 3) by decide +kernel) gf_X11_16 hr25 hs26 rfl ?_
  have h_6 := dR_e h_5
  obtain ⟨y34, hy35, h_7⟩ := h_6
  refine fw_deref hy35 ?_
  refine fw_iload_n (i := 1) 2 rfl (show decode _ _ = .ok (.iload_n 1, 1) by decide +kernel) ?_
  refine fw_iconst (v := (2 : Int32)) (show decode _ _ = .ok (.iconst 2, 1) by decide +kernel) (by decide) ?_
  refine fw_iadd (show decode _ _ = .ok (.iadd, 1) by decide +kernel) ?_
  obtain ⟨⟨n36, hs37, hi38⟩, h_8⟩ := h_7
  refine fw_iald (show decode _ _ = .ok (.iaload, 1) by decide +kernel) hs37 hi38 ?_
  refine fw_nmI (fun x39 ex40 => ?_)
  have h_9 := h_8 x39 ex40
  refine fw_istore_n (i := 3) (ls' := [(3, .int x39), (2, .int x32), (0, .ref p0), (1, .int p1)]) (show decode _ _ = .ok (.istore_n 3, 1) by decide +kernel) (by decide) rfl ?_
  refine fw_aload_n (i := 0) 2 rfl (show decode _ _ = .ok (.aload_n 0, 1) by decide +kernel) ?_
  refine fw_getP (kd := 11) (k := 2) (show decode _ _ = .ok (.getfield 16, 3) by decide +kernel) gf_X11_16 hr25 hs26 rfl ?_
  have h_10 := dR_e h_9
  obtain ⟨y41, hy42, h_11⟩ := h_10
  refine fw_deref hy42 ?_
  refine fw_iload_n (i := 1) 3 rfl (show decode _ _ = .ok (.iload_n 1, 1) by decide +kernel) ?_
  obtain ⟨⟨n43, hs44, hi45⟩, h_12⟩ := h_11
  refine fw_iald (show decode _ _ = .ok (.iaload, 1) by decide +kernel) hs44 hi45 ?_
  refine fw_nmI (fun x46 ex47 => ?_)
  have h_13 := h_12 x46 ex47
  by_cases hc50 : x46 = (5 : Int32)
  · have h_14 := ipos hc50 h_13
    refine fw_tin (off := 60) 84 (show decode _ _ = .ok (.tableswitch 214 5 15 #[60, 67, 82, 123, 130, 153, 169, 185, 214, 214, 201], 60) by decide +kernel) (by rw [hc50]; decide) (by rw [hc50]; decide) (by rw [hc50]; rfl) (by decide) ?_
    refine fw_aload_n (i := 0) 2 rfl (show decode _ _ = .ok (.aload_n 0, 1) by decide +kernel) ?_
    refine fw_iload_n (i := 2) 1 rfl (show decode _ _ = .ok (.iload_n 2, 1) by decide +kernel) ?_
    refine fw_iload_n (i := 3) 0 rfl (show decode _ _ = .ok (.iload_n 3, 1) by decide +kernel) ?_
    refine fw_callV (mt' := mtX11_stair) (mc := 0) (ms := 0) (As := [.int x32, .int x39]) (rest := []) 2 11 n24 (show decode _ _ = .ok (.invokevirtual 374, 3) by decide +kernel) cv_X11_374 ⟨_, rfl, rfl⟩ hr25 hs26 rfl (Nat.le_of_ble_eq_true rfl) (s_X11_stair (d := d) (hd_le hd (by decide)) h_14) (by decide) (by decide) (kI (bc' := 0) (bs' := 0) (by decide) (by decide) (fun x49 M48 h_15 => ?_))
    obtain ⟨hbb, h_16⟩ := h_15
    exact fw_ret (v := some (.int x49)) .ireturn (show decode _ _ = .ok (.ireturn, 1) by decide +kernel) ⟨rfl, Or.inr (Or.inl ⟨rfl, hbb⟩)⟩ ⟨_, rfl, h_16⟩
  have h_17 := ineg hc50 h_13
  by_cases hc58 : x46 = (6 : Int32)
  · have h_18 := ipos hc58 h_17
    refine fw_tin (off := 67) 91 (show decode _ _ = .ok (.tableswitch 214 5 15 #[60, 67, 82, 123, 130, 153, 169, 185, 214, 214, 201], 60) by decide +kernel) (by rw [hc58]; decide) (by rw [hc58]; decide) (by rw [hc58]; rfl) (by decide) ?_
    refine fw_aload_n (i := 0) 2 rfl (show decode _ _ = .ok (.aload_n 0, 1) by decide +kernel) ?_
    refine fw_aload_n (i := 0) 2 rfl (show decode _ _ = .ok (.aload_n 0, 1) by decide +kernel) ?_
    refine fw_getP (kd := 11) (k := 2) (show decode _ _ = .ok (.getfield 16, 3) by decide +kernel) gf_X11_16 hr25 hs26 rfl ?_
    have h_19 := dR_e h_18
    obtain ⟨y51, hy52, h_20⟩ := h_19
    refine fw_deref hy52 ?_
    refine fw_iload_n (i := 1) 3 rfl (show decode _ _ = .ok (.iload_n 1, 1) by decide +kernel) ?_
    refine fw_iconst (v := (3 : Int32)) (show decode _ _ = .ok (.iconst 3, 1) by decide +kernel) (by decide) ?_
    refine fw_iadd (show decode _ _ = .ok (.iadd, 1) by decide +kernel) ?_
    obtain ⟨⟨n53, hs54, hi55⟩, h_21⟩ := h_20
    refine fw_iald (show decode _ _ = .ok (.iaload, 1) by decide +kernel) hs54 hi55 ?_
    refine fw_iload_n (i := 3) 0 rfl (show decode _ _ = .ok (.iload_n 3, 1) by decide +kernel) ?_
    refine fw_iload_n (i := 2) 1 rfl (show decode _ _ = .ok (.iload_n 2, 1) by decide +kernel) ?_
    refine fw_callV (mt' := mtX11_height) (mc := 0) (ms := 0) (As := [.int (mI M y51 (ix (p1 + (3 : Int32)))), .int x39, .int x32]) (rest := []) 3 11 n24 (show decode _ _ = .ok (.invokevirtual 377, 3) by decide +kernel) cv_X11_377 ⟨_, rfl, rfl⟩ hr25 hs26 rfl (Nat.le_of_ble_eq_true rfl) (s_X11_height (d := d) (hd_le hd (by decide)) h_21) (by decide) (by decide) (kI (bc' := 0) (bs' := 0) (by decide) (by decide) (fun x57 M56 h_22 => ?_))
    obtain ⟨hbb, h_23⟩ := h_22
    exact fw_ret (v := some (.int x57)) .ireturn (show decode _ _ = .ok (.ireturn, 1) by decide +kernel) ⟨rfl, Or.inr (Or.inl ⟨rfl, hbb⟩)⟩ ⟨_, rfl, h_23⟩
  have h_24 := ineg hc58 h_17
  by_cases hc70 : x46 = (7 : Int32)
  · have h_25 := ipos hc70 h_24
    refine fw_tin (off := 82) 106 (show decode _ _ = .ok (.tableswitch 214 5 15 #[60, 67, 82, 123, 130, 153, 169, 185, 214, 214, 201], 60) by decide +kernel) (by rw [hc70]; decide) (by rw [hc70]; decide) (by rw [hc70]; rfl) (by decide) ?_
    refine fw_aload_n (i := 0) 2 rfl (show decode _ _ = .ok (.aload_n 0, 1) by decide +kernel) ?_
    refine fw_iload_n (i := 3) 0 rfl (show decode _ _ = .ok (.iload_n 3, 1) by decide +kernel) ?_
    refine fw_iload_n (i := 2) 1 rfl (show decode _ _ = .ok (.iload_n 2, 1) by decide +kernel) ?_
    refine fw_callV (mt' := mtX11_isStep) (mc := 0) (ms := 0) (As := [.int x39, .int x32]) (rest := []) 2 11 n24 (show decode _ _ = .ok (.invokevirtual 81, 3) by decide +kernel) cv_X11_81 ⟨_, rfl, rfl⟩ hr25 hs26 rfl (Nat.le_of_ble_eq_true rfl) (s_X11_isStep (d := d) (hd_le hd (by decide)) h_25) (by decide) (by decide) (kI (bc' := 0) (bs' := 0) (by decide) (by decide) (fun x60 M59 h_26 => ?_))
    refine fw_if_eq 145 (show decode _ _ = .ok (.ifCond .eq 33, 3) by decide +kernel) (by decide) (fun hc69 => ?_) (fun hc69 => ?_)
    · have h_27 := ipos hc69 h_26
      refine fw_iconst (v := (0 : Int32)) (show decode _ _ = .ok (.iconst 0, 1) by decide +kernel) (by decide) ?_
      exact fw_ret (v := some (.int (0 : Int32))) .ireturn (show decode _ _ = .ok (.ireturn, 1) by decide +kernel) ⟨rfl, Or.inr (Or.inl ⟨rfl, rfl⟩)⟩ ⟨_, rfl, h_27⟩
    · have h_28 := ineg hc69 h_26
      refine fw_aload_n (i := 0) 2 rfl (show decode _ _ = .ok (.aload_n 0, 1) by decide +kernel) ?_
      refine fw_iload_n (i := 3) 0 rfl (show decode _ _ = .ok (.iload_n 3, 1) by decide +kernel) ?_
      refine fw_iload_n (i := 2) 1 rfl (show decode _ _ = .ok (.iload_n 2, 1) by decide +kernel) ?_
      refine fw_aload_n (i := 0) 2 rfl (show decode _ _ = .ok (.aload_n 0, 1) by decide +kernel) ?_
      refine fw_iload_n (i := 3) 0 rfl (show decode _ _ = .ok (.iload_n 3, 1) by decide +kernel) ?_
      obtain ⟨⟨hr63, n62, hs64⟩, h_29⟩ := h_28
      refine fw_callV (mt' := mtX11_marksOf) (mc := 0) (ms := 0) (As := [.int x39]) (rest := [.int x32, .int x39, .ref p0]) 1 11 n62 (show decode _ _ = .ok (.invokevirtual 85, 3) by decide +kernel) cv_X11_85 ⟨_, rfl, rfl⟩ hr63 hs64 rfl (Nat.le_of_ble_eq_true rfl) (s_X11_marksOf (d := d) (hd_le hd (by decide)) h_29) (by decide) (by decide) (kI (bc' := 0) (bs' := 0) (by decide) (by decide) (fun x65 M61 h_30 => ?_))
      refine fw_iload_n (i := 2) 1 rfl (show decode _ _ = .ok (.iload_n 2, 1) by decide +kernel) ?_
      refine fw_callS (mt' := mtX11_has) (mc := 0) (ms := 0) (As := [.int x65, .int x32]) (rest := [.int x32, .int x39, .ref p0]) 2 (show decode _ _ = .ok (.invokestatic 88, 3) by decide +kernel) cs_X11_88 rfl (Nat.le_of_ble_eq_true rfl) (s_X11_has (d := d) (hd_le hd (by decide)) h_30) (by decide) (by decide) (kI (bc' := 0) (bs' := 0) (by decide) (by decide) (fun x67 M66 h_31 => ?_))
      refine fw_if_ne 134 (show decode _ _ = .ok (.ifCond .ne 7, 3) by decide +kernel) (by decide) (fun hc68 => ?_) (fun hc68 => ?_)
      · have h_32 := ineg hc68 h_31
        refine fw_iconst (v := (0 : Int32)) (show decode _ _ = .ok (.iconst 0, 1) by decide +kernel) (by decide) ?_
        refine FW.sub [] (ls' := []) rfl ?_
        exact sj_X11_isPlayed_135 hd h_32
      · have h_33 := ipos hc68 h_31
        refine fw_iconst (v := (1 : Int32)) (show decode _ _ = .ok (.iconst 1, 1) by decide +kernel) (by decide) ?_
        refine fw_goto 135 (show decode _ _ = .ok (.goto 4, 3) by decide +kernel) (by decide) ?_
        refine FW.sub [] (ls' := []) rfl ?_
        exact sj_X11_isPlayed_135 hd h_33
  have h_34 := ineg hc70 h_24
  by_cases hc73 : x46 = (8 : Int32)
  · have h_35 := ipos hc73 h_34
    refine fw_tin (off := 123) 147 (show decode _ _ = .ok (.tableswitch 214 5 15 #[60, 67, 82, 123, 130, 153, 169, 185, 214, 214, 201], 60) by decide +kernel) (by rw [hc73]; decide) (by rw [hc73]; decide) (by rw [hc73]; rfl) (by decide) ?_
    refine fw_aload_n (i := 0) 2 rfl (show decode _ _ = .ok (.aload_n 0, 1) by decide +kernel) ?_
    refine fw_iload_n (i := 3) 0 rfl (show decode _ _ = .ok (.iload_n 3, 1) by decide +kernel) ?_
    refine fw_iload_n (i := 2) 1 rfl (show decode _ _ = .ok (.iload_n 2, 1) by decide +kernel) ?_
    refine fw_callV (mt' := mtX11_rail) (mc := 0) (ms := 0) (As := [.int x39, .int x32]) (rest := []) 2 11 n24 (show decode _ _ = .ok (.invokevirtual 384, 3) by decide +kernel) cv_X11_384 ⟨_, rfl, rfl⟩ hr25 hs26 rfl (Nat.le_of_ble_eq_true rfl) (s_X11_rail (d := d) (hd_le hd (by decide)) h_35) (by decide) (by decide) (kI (bc' := 0) (bs' := 0) (by decide) (by decide) (fun x72 M71 h_36 => ?_))
    obtain ⟨hbb, h_37⟩ := h_36
    exact fw_ret (v := some (.int x72)) .ireturn (show decode _ _ = .ok (.ireturn, 1) by decide +kernel) ⟨rfl, Or.inr (Or.inl ⟨rfl, hbb⟩)⟩ ⟨_, rfl, h_37⟩
  have h_38 := ineg hc73 h_34
  by_cases hc82 : x46 = (9 : Int32)
  · have h_39 := ipos hc82 h_38
    refine fw_tin (off := 130) 154 (show decode _ _ = .ok (.tableswitch 214 5 15 #[60, 67, 82, 123, 130, 153, 169, 185, 214, 214, 201], 60) by decide +kernel) (by rw [hc82]; decide) (by rw [hc82]; decide) (by rw [hc82]; rfl) (by decide) ?_
    refine fw_aload_n (i := 0) 2 rfl (show decode _ _ = .ok (.aload_n 0, 1) by decide +kernel) ?_
    refine fw_iload_n (i := 2) 1 rfl (show decode _ _ = .ok (.iload_n 2, 1) by decide +kernel) ?_
    refine fw_iload_n (i := 3) 0 rfl (show decode _ _ = .ok (.iload_n 3, 1) by decide +kernel) ?_
    refine fw_aload_n (i := 0) 2 rfl (show decode _ _ = .ok (.aload_n 0, 1) by decide +kernel) ?_
    refine fw_getP (kd := 11) (k := 2) (show decode _ _ = .ok (.getfield 16, 3) by decide +kernel) gf_X11_16 hr25 hs26 rfl ?_
    have h_40 := dR_e h_39
    obtain ⟨y74, hy75, h_41⟩ := h_40
    refine fw_deref hy75 ?_
    refine fw_iload_n (i := 1) 3 rfl (show decode _ _ = .ok (.iload_n 1, 1) by decide +kernel) ?_
    refine fw_iconst (v := (3 : Int32)) (show decode _ _ = .ok (.iconst 3, 1) by decide +kernel) (by decide) ?_
    refine fw_iadd (show decode _ _ = .ok (.iadd, 1) by decide +kernel) ?_
    obtain ⟨⟨n76, hs77, hi78⟩, h_42⟩ := h_41
    refine fw_iald (show decode _ _ = .ok (.iaload, 1) by decide +kernel) hs77 hi78 ?_
    refine fw_callV (mt' := mtX11_person) (mc := 0) (ms := 0) (As := [.int x32, .int x39, .int (mI M y74 (ix (p1 + (3 : Int32))))]) (rest := []) 3 11 n24 (show decode _ _ = .ok (.invokevirtual 387, 3) by decide +kernel) cv_X11_387 ⟨_, rfl, rfl⟩ hr25 hs26 rfl (Nat.le_of_ble_eq_true rfl) (s_X11_person (d := d) (hd_le hd (by decide)) h_42) (by decide) (by decide) (kI (bc' := 0) (bs' := 0) (by decide) (by decide) (fun x80 M79 h_43 => ?_))
    refine fw_if_lt 175 (show decode _ _ = .ok (.ifCond .lt 7, 3) by decide +kernel) (by decide) (fun hc81 => ?_) (fun hc81 => ?_)
    · have h_44 := ipos hc81 h_43
      refine fw_iconst (v := (0 : Int32)) (show decode _ _ = .ok (.iconst 0, 1) by decide +kernel) (by decide) ?_
      exact fw_ret (v := some (.int (0 : Int32))) .ireturn (show decode _ _ = .ok (.ireturn, 1) by decide +kernel) ⟨rfl, Or.inr (Or.inl ⟨rfl, rfl⟩)⟩ ⟨_, rfl, h_44⟩
    · have h_45 := ineg hc81 h_43
      refine fw_iconst (v := (1 : Int32)) (show decode _ _ = .ok (.iconst 1, 1) by decide +kernel) (by decide) ?_
      refine fw_goto 176 (show decode _ _ = .ok (.goto 4, 3) by decide +kernel) (by decide) ?_
      exact fw_ret (v := some (.int (1 : Int32))) .ireturn (show decode _ _ = .ok (.ireturn, 1) by decide +kernel) ⟨rfl, Or.inr (Or.inl ⟨rfl, rfl⟩)⟩ ⟨_, rfl, h_45⟩
  have h_46 := ineg hc82 h_38
  by_cases hc86 : x46 = (10 : Int32)
  · have h_47 := ipos hc86 h_46
    refine fw_tin (off := 153) 177 (show decode _ _ = .ok (.tableswitch 214 5 15 #[60, 67, 82, 123, 130, 153, 169, 185, 214, 214, 201], 60) by decide +kernel) (by rw [hc86]; decide) (by rw [hc86]; decide) (by rw [hc86]; rfl) (by decide) ?_
    refine fw_aload_n (i := 0) 2 rfl (show decode _ _ = .ok (.aload_n 0, 1) by decide +kernel) ?_
    refine fw_iload_n (i := 2) 1 rfl (show decode _ _ = .ok (.iload_n 2, 1) by decide +kernel) ?_
    refine fw_iload_n (i := 3) 0 rfl (show decode _ _ = .ok (.iload_n 3, 1) by decide +kernel) ?_
    refine fw_iconst (v := (0 : Int32)) (show decode _ _ = .ok (.iconst 0, 1) by decide +kernel) (by decide) ?_
    refine fw_callV (mt' := mtX11_begin) (mc := 0) (ms := 0) (As := [.int x32, .int x39, .int (0 : Int32)]) (rest := []) 3 11 n24 (show decode _ _ = .ok (.invokevirtual 390, 3) by decide +kernel) cv_X11_390 ⟨_, rfl, rfl⟩ hr25 hs26 rfl (Nat.le_of_ble_eq_true rfl) (s_X11_begin (d := d) (hd_le hd (by decide)) h_47) (by decide) (by decide) (kI (bc' := 0) (bs' := 0) (by decide) (by decide) (fun x84 M83 h_48 => ?_))
    refine fw_if_lt 191 (show decode _ _ = .ok (.ifCond .lt 7, 3) by decide +kernel) (by decide) (fun hc85 => ?_) (fun hc85 => ?_)
    · have h_49 := ipos hc85 h_48
      refine fw_iconst (v := (0 : Int32)) (show decode _ _ = .ok (.iconst 0, 1) by decide +kernel) (by decide) ?_
      exact fw_ret (v := some (.int (0 : Int32))) .ireturn (show decode _ _ = .ok (.ireturn, 1) by decide +kernel) ⟨rfl, Or.inr (Or.inl ⟨rfl, rfl⟩)⟩ ⟨_, rfl, h_49⟩
    · have h_50 := ineg hc85 h_48
      refine fw_iconst (v := (1 : Int32)) (show decode _ _ = .ok (.iconst 1, 1) by decide +kernel) (by decide) ?_
      refine fw_goto 192 (show decode _ _ = .ok (.goto 4, 3) by decide +kernel) (by decide) ?_
      exact fw_ret (v := some (.int (1 : Int32))) .ireturn (show decode _ _ = .ok (.ireturn, 1) by decide +kernel) ⟨rfl, Or.inr (Or.inl ⟨rfl, rfl⟩)⟩ ⟨_, rfl, h_50⟩
  have h_51 := ineg hc86 h_46
  by_cases hc90 : x46 = (11 : Int32)
  · have h_52 := ipos hc90 h_51
    refine fw_tin (off := 169) 193 (show decode _ _ = .ok (.tableswitch 214 5 15 #[60, 67, 82, 123, 130, 153, 169, 185, 214, 214, 201], 60) by decide +kernel) (by rw [hc90]; decide) (by rw [hc90]; decide) (by rw [hc90]; rfl) (by decide) ?_
    refine fw_aload_n (i := 0) 2 rfl (show decode _ _ = .ok (.aload_n 0, 1) by decide +kernel) ?_
    refine fw_iload_n (i := 2) 1 rfl (show decode _ _ = .ok (.iload_n 2, 1) by decide +kernel) ?_
    refine fw_iload_n (i := 3) 0 rfl (show decode _ _ = .ok (.iload_n 3, 1) by decide +kernel) ?_
    refine fw_iconst (v := (1 : Int32)) (show decode _ _ = .ok (.iconst 1, 1) by decide +kernel) (by decide) ?_
    refine fw_callV (mt' := mtX11_begin) (mc := 0) (ms := 0) (As := [.int x32, .int x39, .int (1 : Int32)]) (rest := []) 3 11 n24 (show decode _ _ = .ok (.invokevirtual 390, 3) by decide +kernel) cv_X11_390 ⟨_, rfl, rfl⟩ hr25 hs26 rfl (Nat.le_of_ble_eq_true rfl) (s_X11_begin (d := d) (hd_le hd (by decide)) h_52) (by decide) (by decide) (kI (bc' := 0) (bs' := 0) (by decide) (by decide) (fun x88 M87 h_53 => ?_))
    refine fw_if_lt 207 (show decode _ _ = .ok (.ifCond .lt 7, 3) by decide +kernel) (by decide) (fun hc89 => ?_) (fun hc89 => ?_)
    · have h_54 := ipos hc89 h_53
      refine fw_iconst (v := (0 : Int32)) (show decode _ _ = .ok (.iconst 0, 1) by decide +kernel) (by decide) ?_
      exact fw_ret (v := some (.int (0 : Int32))) .ireturn (show decode _ _ = .ok (.ireturn, 1) by decide +kernel) ⟨rfl, Or.inr (Or.inl ⟨rfl, rfl⟩)⟩ ⟨_, rfl, h_54⟩
    · have h_55 := ineg hc89 h_53
      refine fw_iconst (v := (1 : Int32)) (show decode _ _ = .ok (.iconst 1, 1) by decide +kernel) (by decide) ?_
      refine fw_goto 208 (show decode _ _ = .ok (.goto 4, 3) by decide +kernel) (by decide) ?_
      exact fw_ret (v := some (.int (1 : Int32))) .ireturn (show decode _ _ = .ok (.ireturn, 1) by decide +kernel) ⟨rfl, Or.inr (Or.inl ⟨rfl, rfl⟩)⟩ ⟨_, rfl, h_55⟩
  have h_56 := ineg hc90 h_51
  by_cases hc94 : x46 = (12 : Int32)
  · have h_57 := ipos hc94 h_56
    refine fw_tin (off := 185) 209 (show decode _ _ = .ok (.tableswitch 214 5 15 #[60, 67, 82, 123, 130, 153, 169, 185, 214, 214, 201], 60) by decide +kernel) (by rw [hc94]; decide) (by rw [hc94]; decide) (by rw [hc94]; rfl) (by decide) ?_
    refine fw_aload_n (i := 0) 2 rfl (show decode _ _ = .ok (.aload_n 0, 1) by decide +kernel) ?_
    refine fw_iload_n (i := 2) 1 rfl (show decode _ _ = .ok (.iload_n 2, 1) by decide +kernel) ?_
    refine fw_iload_n (i := 3) 0 rfl (show decode _ _ = .ok (.iload_n 3, 1) by decide +kernel) ?_
    refine fw_iconst (v := (2 : Int32)) (show decode _ _ = .ok (.iconst 2, 1) by decide +kernel) (by decide) ?_
    refine fw_callV (mt' := mtX11_begin) (mc := 0) (ms := 0) (As := [.int x32, .int x39, .int (2 : Int32)]) (rest := []) 3 11 n24 (show decode _ _ = .ok (.invokevirtual 390, 3) by decide +kernel) cv_X11_390 ⟨_, rfl, rfl⟩ hr25 hs26 rfl (Nat.le_of_ble_eq_true rfl) (s_X11_begin (d := d) (hd_le hd (by decide)) h_57) (by decide) (by decide) (kI (bc' := 0) (bs' := 0) (by decide) (by decide) (fun x92 M91 h_58 => ?_))
    refine fw_if_lt 223 (show decode _ _ = .ok (.ifCond .lt 7, 3) by decide +kernel) (by decide) (fun hc93 => ?_) (fun hc93 => ?_)
    · have h_59 := ipos hc93 h_58
      refine fw_iconst (v := (0 : Int32)) (show decode _ _ = .ok (.iconst 0, 1) by decide +kernel) (by decide) ?_
      exact fw_ret (v := some (.int (0 : Int32))) .ireturn (show decode _ _ = .ok (.ireturn, 1) by decide +kernel) ⟨rfl, Or.inr (Or.inl ⟨rfl, rfl⟩)⟩ ⟨_, rfl, h_59⟩
    · have h_60 := ineg hc93 h_58
      refine fw_iconst (v := (1 : Int32)) (show decode _ _ = .ok (.iconst 1, 1) by decide +kernel) (by decide) ?_
      refine fw_goto 224 (show decode _ _ = .ok (.goto 4, 3) by decide +kernel) (by decide) ?_
      exact fw_ret (v := some (.int (1 : Int32))) .ireturn (show decode _ _ = .ok (.ireturn, 1) by decide +kernel) ⟨rfl, Or.inr (Or.inl ⟨rfl, rfl⟩)⟩ ⟨_, rfl, h_60⟩
  have h_61 := ineg hc94 h_56
  by_cases hc98 : x46 = (15 : Int32)
  · have h_62 := ipos hc98 h_61
    refine fw_tin (off := 201) 225 (show decode _ _ = .ok (.tableswitch 214 5 15 #[60, 67, 82, 123, 130, 153, 169, 185, 214, 214, 201], 60) by decide +kernel) (by rw [hc98]; decide) (by rw [hc98]; decide) (by rw [hc98]; rfl) (by decide) ?_
    refine fw_aload_n (i := 0) 2 rfl (show decode _ _ = .ok (.aload_n 0, 1) by decide +kernel) ?_
    refine fw_callV (mt' := mtX11_stop) (mc := 0) (ms := 0) (As := []) (rest := []) 0 11 n24 (show decode _ _ = .ok (.invokevirtual 393, 3) by decide +kernel) cv_X11_393 ⟨_, rfl, rfl⟩ hr25 hs26 rfl (Nat.le_of_ble_eq_true rfl) (s_X11_stop (d := d) (hd_le hd (by decide)) h_62) (by decide) (by decide) (kI (bc' := 0) (bs' := 0) (by decide) (by decide) (fun x96 M95 h_63 => ?_))
    refine fw_if_lt 236 (show decode _ _ = .ok (.ifCond .lt 7, 3) by decide +kernel) (by decide) (fun hc97 => ?_) (fun hc97 => ?_)
    · have h_64 := ipos hc97 h_63
      refine fw_iconst (v := (0 : Int32)) (show decode _ _ = .ok (.iconst 0, 1) by decide +kernel) (by decide) ?_
      exact fw_ret (v := some (.int (0 : Int32))) .ireturn (show decode _ _ = .ok (.ireturn, 1) by decide +kernel) ⟨rfl, Or.inr (Or.inl ⟨rfl, rfl⟩)⟩ ⟨_, rfl, h_64⟩
    · have h_65 := ineg hc97 h_63
      refine fw_iconst (v := (1 : Int32)) (show decode _ _ = .ok (.iconst 1, 1) by decide +kernel) (by decide) ?_
      refine fw_goto 237 (show decode _ _ = .ok (.goto 4, 3) by decide +kernel) (by decide) ?_
      exact fw_ret (v := some (.int (1 : Int32))) .ireturn (show decode _ _ = .ok (.ireturn, 1) by decide +kernel) ⟨rfl, Or.inr (Or.inl ⟨rfl, rfl⟩)⟩ ⟨_, rfl, h_65⟩
  have h_66 := ineg hc98 h_61
  by_cases ho99 : Int32.toInt x46 < 5 ∨ 15 < Int32.toInt x46
  · refine fw_tout 238 (show decode _ _ = .ok (.tableswitch 214 5 15 #[60, 67, 82, 123, 130, 153, 169, 185, 214, 214, 201], 60) by decide +kernel) ho99 (by decide) ?_
    refine FW.sub [2, 3, 1] (ls' := [(0, .ref p0), (1, .int p1), (2, .int x32)]) rfl ?_
    exact sj_X11_isPlayed_238 hd h_66
  have e100 := tsx_5_15 (Int32.toInt x46) ho99
  rcases e100 with e100 | e100 | e100 | e100 | e100 | e100 | e100 | e100 | e100 | e100 | e100
  · exact absurd (Int32.toInt_inj.mp (Eq.trans e100 rfl)) hc50
  · exact absurd (Int32.toInt_inj.mp (Eq.trans e100 rfl)) hc58
  · exact absurd (Int32.toInt_inj.mp (Eq.trans e100 rfl)) hc70
  · exact absurd (Int32.toInt_inj.mp (Eq.trans e100 rfl)) hc73
  · exact absurd (Int32.toInt_inj.mp (Eq.trans e100 rfl)) hc82
  · exact absurd (Int32.toInt_inj.mp (Eq.trans e100 rfl)) hc86
  · exact absurd (Int32.toInt_inj.mp (Eq.trans e100 rfl)) hc90
  · exact absurd (Int32.toInt_inj.mp (Eq.trans e100 rfl)) hc94
  · refine fw_tin (off := 214) 238 (show decode _ _ = .ok (.tableswitch 214 5 15 #[60, 67, 82, 123, 130, 153, 169, 185, 214, 214, 201], 60) by decide +kernel) (by rw [e100]; decide) (by rw [e100]; decide) (by rw [e100]; rfl) (by decide) ?_
    refine FW.sub [2, 3, 1] (ls' := [(0, .ref p0), (1, .int p1), (2, .int x32)]) rfl ?_
    exact sj_X11_isPlayed_238 hd h_66
  · refine fw_tin (off := 214) 238 (show decode _ _ = .ok (.tableswitch 214 5 15 #[60, 67, 82, 123, 130, 153, 169, 185, 214, 214, 201], 60) by decide +kernel) (by rw [e100]; decide) (by rw [e100]; decide) (by rw [e100]; rfl) (by decide) ?_
    refine FW.sub [2, 3, 1] (ls' := [(0, .ref p0), (1, .int p1), (2, .int x32)]) rfl ?_
    exact sj_X11_isPlayed_238 hd h_66
  · exact absurd (Int32.toInt_inj.mp (Eq.trans e100 rfl)) hc98
def j_X11_isSeenBy_102 (K2 : Nat → Int32 → Int32 → fM → Prop) (φ : Int32 → fM → Prop) (p0 : Nat) (p1 : Int32) (p2 : Int32) (s0 : Int32) (s1 : Int32) (M : fM) : Prop := iF (s1 = s0) (nm (p2 + (1 : Int32)) fun x1 => K2 p0 p1 x1 M) (φ (0 : Int32) M)
set_option maxRecDepth 100000 in
theorem sj_X11_isSeenBy_102 {g : GT} {d : Nat} (hd : 5 ≤ d + 1) {K2 : Nat → Int32 → Int32 → fM → Prop} {φ : Int32 → fM → Prop} (hK2 : ∀ (p0 : Nat) (p1 : Int32) (p2 : Int32) (M : fM), K2 p0 p1 p2 M → FW g mtX11_isSeenBy (d + 1) 2 [(0, .ref p0), (1, .int p1), (2, .int p2)] [] M 0 0 (rI φ)) {p0 : Nat} {p1 : Int32} {p2 : Int32} {s0 : Int32} {s1 : Int32} {M : fM} (h : j_X11_isSeenBy_102 K2 φ p0 p1 p2 s0 s1 M) : FW g mtX11_isSeenBy (d + 1) 102 [(0, .ref p0), (1, .int p1), (2, .int p2)] [.int s0, .int s1] M 0 0 (rI φ) := by
  unfold j_X11_isSeenBy_102 at h
  refine fw_icmp_eq 107 (show decode _ _ = .ok (.if_icmp .eq 5, 3) by decide +kernel) (by decide) (fun hc3 => ?_) (fun hc3 => ?_)
  · have h_1 := ipos hc3 h
    obtain ⟨x1, ex2⟩ : ∃ y : Int32, y = p2 + (1 : Int32) := ⟨_, rfl⟩
    have h_2 := h_1 x1 ex2
    refine fw_iinc (i := 2) (x := p2) (v := x1) (ls' := [(2, .int x1), (0, .ref p0), (1, .int p1)]) 2 rfl (show decode _ _ = .ok (.iinc 2 1, 3) by decide +kernel) (by rw [ex2]; rfl) (by decide) rfl ?_
    refine fw_goto 2 (show decode _ _ = .ok (.goto (-108), 3) by decide +kernel) (by decide) ?_
    refine FW.sub [1, 2, 0] (ls' := [(0, .ref p0), (1, .int p1), (2, .int x1)]) rfl ?_
    exact hK2 _ _ _ _ h_2
  · have h_3 := ineg hc3 h
    refine fw_iconst (v := (0 : Int32)) (show decode _ _ = .ok (.iconst 0, 1) by decide +kernel) (by decide) ?_
    exact fw_ret (v := some (.int (0 : Int32))) .ireturn (show decode _ _ = .ok (.ireturn, 1) by decide +kernel) ⟨rfl, Or.inr (Or.inl ⟨rfl, rfl⟩)⟩ ⟨_, rfl, h_3⟩
def b_X11_isSeenBy_2 (K2 : Nat → Int32 → Int32 → fM → Prop) (φ : Int32 → fM → Prop) (p0 : Nat) (p1 : Int32) (p2 : Int32) (M : fM) : Prop := isO M p0 11 ∧ dR (mP M p0 0) fun y7 => inA M y7 12 (6 : Int32) ∧ iF ((mI M y7 (ix (6 : Int32))) ≤ p2) (φ (1 : Int32) M) (nm ((109 : Int32) + ((4 : Int32) * p2)) fun x12 => dR (mP M p0 0) fun y14 => inA M y14 12 (x12 + (1 : Int32)) ∧ nm (mI M y14 (ix (x12 + (1 : Int32)))) fun x19 => dR (mP M p0 0) fun y21 => inA M y21 12 (x12 + (2 : Int32)) ∧ nm (mI M y21 (ix (x12 + (2 : Int32)))) fun x26 => w_X11_stepsOf p0 x19 M fun x29 M28 => iF (x29 < x26) (nm (p2 + (1 : Int32)) fun x30 => K2 p0 p1 x30 M28) (isO M28 p0 11 ∧ dR (mP M28 p0 0) fun y35 => inA M28 y35 12 x12 ∧ w_X11_heightOf p0 x19 x26 M28 fun x41 M40 => isO M40 p0 11 ∧ w_X11_heightOf p0 x19 (x26 - (1 : Int32)) M40 fun x46 M42 => isO M42 p0 11 ∧ w_X11_tripsBy p0 p1 (mI M28 y35 (ix x12)) x19 (0 : Int32) x26 x41 x46 M42 fun x51 M47 => isO M47 p0 11 ∧ dR (mP M47 p0 0) fun y55 => inA M47 y55 12 (x12 + (3 : Int32)) ∧ iF ((mI M47 y55 (ix (x12 + (3 : Int32)))) = (1 : Int32)) (j_X11_isSeenBy_102 K2 φ p0 p1 p2 (1 : Int32) x51 M47) (j_X11_isSeenBy_102 K2 φ p0 p1 p2 (0 : Int32) x51 M47)))
def l_X11_isSeenBy_2 (φ : Int32 → fM → Prop) : Nat → Nat → Int32 → Int32 → fM → Prop
  | 0, _, _, _, _ => False
  | n + 1, p0, p1, p2, M => b_X11_isSeenBy_2 (l_X11_isSeenBy_2 φ n) φ p0 p1 p2 M
set_option maxRecDepth 100000 in
theorem sb_X11_isSeenBy_2 {g : GT} {d : Nat} (hd : 5 ≤ d + 1) {K2 : Nat → Int32 → Int32 → fM → Prop} {φ : Int32 → fM → Prop} (hK2 : ∀ (p0 : Nat) (p1 : Int32) (p2 : Int32) (M : fM), K2 p0 p1 p2 M → FW g mtX11_isSeenBy (d + 1) 2 [(0, .ref p0), (1, .int p1), (2, .int p2)] [] M 0 0 (rI φ)) {p0 : Nat} {p1 : Int32} {p2 : Int32} {M : fM} (h : b_X11_isSeenBy_2 K2 φ p0 p1 p2 M) : FW g mtX11_isSeenBy (d + 1) 2 [(0, .ref p0), (1, .int p1), (2, .int p2)] [] M 0 0 (rI φ) := by
  unfold b_X11_isSeenBy_2 at h
  refine fw_iload_n (i := 2) 2 rfl (show decode _ _ = .ok (.iload_n 2, 1) by decide +kernel) ?_
  refine fw_aload_n (i := 0) 0 rfl (show decode _ _ = .ok (.aload_n 0, 1) by decide +kernel) ?_
  obtain ⟨⟨hr5, n4, hs6⟩, h_1⟩ := h
  refine fw_getP (kd := 11) (k := 0) (show decode _ _ = .ok (.getfield 7, 3) by decide +kernel) gf_X11_7 hr5 hs6 rfl ?_
  have h_2 := dR_e h_1
  obtain ⟨y7, hy8, h_3⟩ := h_2
  refine fw_deref hy8 ?_
  refine fw_bipush (v := (6 : Int32)) (show decode _ _ = .ok (.bipush 6, 2) by decide +kernel) (by decide) ?_
  obtain ⟨⟨n9, hs10, hi11⟩, h_4⟩ := h_3
  refine fw_iald (show decode _ _ = .ok (.iaload, 1) by decide +kernel) hs10 hi11 ?_
  refine fw_icmp_ge 113 (show decode _ _ = .ok (.if_icmp .ge 103, 3) by decide +kernel) (by decide) (fun hc62 => ?_) (fun hc62 => ?_)
  · have h_5 := ipos hc62 h_4
    refine fw_iconst (v := (1 : Int32)) (show decode _ _ = .ok (.iconst 1, 1) by decide +kernel) (by decide) ?_
    exact fw_ret (v := some (.int (1 : Int32))) .ireturn (show decode _ _ = .ok (.ireturn, 1) by decide +kernel) ⟨rfl, Or.inr (Or.inl ⟨rfl, rfl⟩)⟩ ⟨_, rfl, h_5⟩
  · have h_6 := ineg hc62 h_4
    refine fw_bipush (v := (109 : Int32)) (show decode _ _ = .ok (.bipush 109, 2) by decide +kernel) (by decide) ?_
    refine fw_iconst (v := (4 : Int32)) (show decode _ _ = .ok (.iconst 4, 1) by decide +kernel) (by decide) ?_
    refine fw_iload_n (i := 2) 2 rfl (show decode _ _ = .ok (.iload_n 2, 1) by decide +kernel) ?_
    refine fw_imul (show decode _ _ = .ok (.imul, 1) by decide +kernel) ?_
    refine fw_iadd (show decode _ _ = .ok (.iadd, 1) by decide +kernel) ?_
    refine fw_nmI (fun x12 ex13 => ?_)
    have h_7 := h_6 x12 ex13
    refine fw_istore_n (i := 3) (ls' := [(3, .int x12), (0, .ref p0), (1, .int p1), (2, .int p2)]) (show decode _ _ = .ok (.istore_n 3, 1) by decide +kernel) (by decide) rfl ?_
    refine fw_aload_n (i := 0) 1 rfl (show decode _ _ = .ok (.aload_n 0, 1) by decide +kernel) ?_
    refine fw_getP (kd := 11) (k := 0) (show decode _ _ = .ok (.getfield 7, 3) by decide +kernel) gf_X11_7 hr5 hs6 rfl ?_
    have h_8 := dR_e h_7
    obtain ⟨y14, hy15, h_9⟩ := h_8
    refine fw_deref hy15 ?_
    refine fw_iload_n (i := 3) 0 rfl (show decode _ _ = .ok (.iload_n 3, 1) by decide +kernel) ?_
    refine fw_iconst (v := (1 : Int32)) (show decode _ _ = .ok (.iconst 1, 1) by decide +kernel) (by decide) ?_
    refine fw_iadd (show decode _ _ = .ok (.iadd, 1) by decide +kernel) ?_
    obtain ⟨⟨n16, hs17, hi18⟩, h_10⟩ := h_9
    refine fw_iald (show decode _ _ = .ok (.iaload, 1) by decide +kernel) hs17 hi18 ?_
    refine fw_nmI (fun x19 ex20 => ?_)
    have h_11 := h_10 x19 ex20
    refine fw_istore (i := 4) (ls' := [(4, .int x19), (3, .int x12), (0, .ref p0), (1, .int p1), (2, .int p2)]) (show decode _ _ = .ok (.istore 4, 2) by decide +kernel) (by decide) rfl ?_
    refine fw_aload_n (i := 0) 2 rfl (show decode _ _ = .ok (.aload_n 0, 1) by decide +kernel) ?_
    refine fw_getP (kd := 11) (k := 0) (show decode _ _ = .ok (.getfield 7, 3) by decide +kernel) gf_X11_7 hr5 hs6 rfl ?_
    have h_12 := dR_e h_11
    obtain ⟨y21, hy22, h_13⟩ := h_12
    refine fw_deref hy22 ?_
    refine fw_iload_n (i := 3) 1 rfl (show decode _ _ = .ok (.iload_n 3, 1) by decide +kernel) ?_
    refine fw_iconst (v := (2 : Int32)) (show decode _ _ = .ok (.iconst 2, 1) by decide +kernel) (by decide) ?_
    refine fw_iadd (show decode _ _ = .ok (.iadd, 1) by decide +kernel) ?_
    obtain ⟨⟨n23, hs24, hi25⟩, h_14⟩ := h_13
    refine fw_iald (show decode _ _ = .ok (.iaload, 1) by decide +kernel) hs24 hi25 ?_
    refine fw_nmI (fun x26 ex27 => ?_)
    have h_15 := h_14 x26 ex27
    refine fw_istore (i := 5) (ls' := [(5, .int x26), (4, .int x19), (3, .int x12), (0, .ref p0), (1, .int p1), (2, .int p2)]) (show decode _ _ = .ok (.istore 5, 2) by decide +kernel) (by decide) rfl ?_
    refine fw_iload (i := 5) 0 rfl (show decode _ _ = .ok (.iload 5, 2) by decide +kernel) ?_
    refine fw_aload_n (i := 0) 3 rfl (show decode _ _ = .ok (.aload_n 0, 1) by decide +kernel) ?_
    refine fw_iload (i := 4) 1 rfl (show decode _ _ = .ok (.iload 4, 2) by decide +kernel) ?_
    refine fw_callV (mt' := mtX11_stepsOf) (mc := 0) (ms := 0) (As := [.int x19]) (rest := [.int x26]) 1 11 n4 (show decode _ _ = .ok (.invokevirtual 74, 3) by decide +kernel) cv_X11_74 ⟨_, rfl, rfl⟩ hr5 hs6 rfl (Nat.le_of_ble_eq_true rfl) (s_X11_stepsOf (d := d) (hd_le hd (by decide)) h_15) (by decide) (by decide) (kI (bc' := 0) (bs' := 0) (by decide) (by decide) (fun x29 M28 h_16 => ?_))
    refine fw_icmp_gt 107 (show decode _ _ = .ok (.if_icmp .gt 59, 3) by decide +kernel) (by decide) (fun hc61 => ?_) (fun hc61 => ?_)
    · have h_17 := ipos hc61 h_16
      obtain ⟨x30, ex31⟩ : ∃ y : Int32, y = p2 + (1 : Int32) := ⟨_, rfl⟩
      have h_18 := h_17 x30 ex31
      refine fw_iinc (i := 2) (x := p2) (v := x30) (ls' := [(2, .int x30), (5, .int x26), (4, .int x19), (3, .int x12), (0, .ref p0), (1, .int p1)]) 5 rfl (show decode _ _ = .ok (.iinc 2 1, 3) by decide +kernel) (by rw [ex31]; rfl) (by decide) rfl ?_
      refine fw_goto 2 (show decode _ _ = .ok (.goto (-108), 3) by decide +kernel) (by decide) ?_
      refine FW.sub [4, 5, 0] (ls' := [(0, .ref p0), (1, .int p1), (2, .int x30)]) rfl ?_
      exact hK2 _ _ _ _ h_18
    · have h_19 := ineg hc61 h_16
      refine fw_aload_n (i := 0) 3 rfl (show decode _ _ = .ok (.aload_n 0, 1) by decide +kernel) ?_
      refine fw_iload_n (i := 1) 4 rfl (show decode _ _ = .ok (.iload_n 1, 1) by decide +kernel) ?_
      refine fw_aload_n (i := 0) 3 rfl (show decode _ _ = .ok (.aload_n 0, 1) by decide +kernel) ?_
      obtain ⟨⟨hr33, n32, hs34⟩, h_20⟩ := h_19
      refine fw_getP (kd := 11) (k := 0) (show decode _ _ = .ok (.getfield 7, 3) by decide +kernel) gf_X11_7 hr33 hs34 rfl ?_
      have h_21 := dR_e h_20
      obtain ⟨y35, hy36, h_22⟩ := h_21
      refine fw_deref hy36 ?_
      refine fw_iload_n (i := 3) 2 rfl (show decode _ _ = .ok (.iload_n 3, 1) by decide +kernel) ?_
      obtain ⟨⟨n37, hs38, hi39⟩, h_23⟩ := h_22
      refine fw_iald (show decode _ _ = .ok (.iaload, 1) by decide +kernel) hs38 hi39 ?_
      refine fw_iload (i := 4) 1 rfl (show decode _ _ = .ok (.iload 4, 2) by decide +kernel) ?_
      refine fw_iconst (v := (0 : Int32)) (show decode _ _ = .ok (.iconst 0, 1) by decide +kernel) (by decide) ?_
      refine fw_iload (i := 5) 0 rfl (show decode _ _ = .ok (.iload 5, 2) by decide +kernel) ?_
      refine fw_aload_n (i := 0) 3 rfl (show decode _ _ = .ok (.aload_n 0, 1) by decide +kernel) ?_
      refine fw_iload (i := 4) 1 rfl (show decode _ _ = .ok (.iload 4, 2) by decide +kernel) ?_
      refine fw_iload (i := 5) 0 rfl (show decode _ _ = .ok (.iload 5, 2) by decide +kernel) ?_
      refine fw_callV (mt' := mtX11_heightOf) (mc := 0) (ms := 0) (As := [.int x19, .int x26]) (rest := [.int x26, .int (0 : Int32), .int x19, .int (mI M28 y35 (ix x12)), .int p1, .ref p0]) 2 11 n32 (show decode _ _ = .ok (.invokevirtual 300, 3) by decide +kernel) cv_X11_300 ⟨_, rfl, rfl⟩ hr33 hs34 rfl (Nat.le_of_ble_eq_true rfl) (s_X11_heightOf (d := d) (hd_le hd (by decide)) h_23) (by decide) (by decide) (kI (bc' := 0) (bs' := 0) (by decide) (by decide) (fun x41 M40 h_24 => ?_))
      refine fw_aload_n (i := 0) 3 rfl (show decode _ _ = .ok (.aload_n 0, 1) by decide +kernel) ?_
      refine fw_iload (i := 4) 1 rfl (show decode _ _ = .ok (.iload 4, 2) by decide +kernel) ?_
      refine fw_iload (i := 5) 0 rfl (show decode _ _ = .ok (.iload 5, 2) by decide +kernel) ?_
      refine fw_iconst (v := (1 : Int32)) (show decode _ _ = .ok (.iconst 1, 1) by decide +kernel) (by decide) ?_
      refine fw_isub (show decode _ _ = .ok (.isub, 1) by decide +kernel) ?_
      obtain ⟨⟨hr44, n43, hs45⟩, h_25⟩ := h_24
      refine fw_callV (mt' := mtX11_heightOf) (mc := 0) (ms := 0) (As := [.int x19, .int (x26 - (1 : Int32))]) (rest := [.int x41, .int x26, .int (0 : Int32), .int x19, .int (mI M28 y35 (ix x12)), .int p1, .ref p0]) 2 11 n43 (show decode _ _ = .ok (.invokevirtual 300, 3) by decide +kernel) cv_X11_300 ⟨_, rfl, rfl⟩ hr44 hs45 rfl (Nat.le_of_ble_eq_true rfl) (s_X11_heightOf (d := d) (hd_le hd (by decide)) h_25) (by decide) (by decide) (kI (bc' := 0) (bs' := 0) (by decide) (by decide) (fun x46 M42 h_26 => ?_))
      obtain ⟨⟨hr49, n48, hs50⟩, h_27⟩ := h_26
      refine fw_callV (mt' := mtX11_tripsBy) (mc := 0) (ms := 0) (As := [.int p1, .int (mI M28 y35 (ix x12)), .int x19, .int (0 : Int32), .int x26, .int x41, .int x46]) (rest := []) 7 11 n48 (show decode _ _ = .ok (.invokevirtual 318, 3) by decide +kernel) cv_X11_318 ⟨_, rfl, rfl⟩ hr49 hs50 rfl (Nat.le_of_ble_eq_true rfl) (s_X11_tripsBy (d := d) (hd_le hd (by decide)) h_27) (by decide) (by decide) (kI (bc' := 0) (bs' := 0) (by decide) (by decide) (fun x51 M47 h_28 => ?_))
      refine fw_aload_n (i := 0) 3 rfl (show decode _ _ = .ok (.aload_n 0, 1) by decide +kernel) ?_
      obtain ⟨⟨hr53, n52, hs54⟩, h_29⟩ := h_28
      refine fw_getP (kd := 11) (k := 0) (show decode _ _ = .ok (.getfield 7, 3) by decide +kernel) gf_X11_7 hr53 hs54 rfl ?_
      have h_30 := dR_e h_29
      obtain ⟨y55, hy56, h_31⟩ := h_30
      refine fw_deref hy56 ?_
      refine fw_iload_n (i := 3) 2 rfl (show decode _ _ = .ok (.iload_n 3, 1) by decide +kernel) ?_
      refine fw_iconst (v := (3 : Int32)) (show decode _ _ = .ok (.iconst 3, 1) by decide +kernel) (by decide) ?_
      refine fw_iadd (show decode _ _ = .ok (.iadd, 1) by decide +kernel) ?_
      obtain ⟨⟨n57, hs58, hi59⟩, h_32⟩ := h_31
      refine fw_iald (show decode _ _ = .ok (.iaload, 1) by decide +kernel) hs58 hi59 ?_
      refine fw_iconst (v := (1 : Int32)) (show decode _ _ = .ok (.iconst 1, 1) by decide +kernel) (by decide) ?_
      refine fw_icmp_ne 101 (show decode _ _ = .ok (.if_icmp .ne 7, 3) by decide +kernel) (by decide) (fun hc60 => ?_) (fun hc60 => ?_)
      · have h_33 := ineg hc60 h_32
        refine fw_iconst (v := (0 : Int32)) (show decode _ _ = .ok (.iconst 0, 1) by decide +kernel) (by decide) ?_
        refine FW.sub [3, 4, 5] (ls' := [(0, .ref p0), (1, .int p1), (2, .int p2)]) rfl ?_
        exact sj_X11_isSeenBy_102 hd hK2 h_33
      · have h_34 := ipos hc60 h_32
        refine fw_iconst (v := (1 : Int32)) (show decode _ _ = .ok (.iconst 1, 1) by decide +kernel) (by decide) ?_
        refine fw_goto 102 (show decode _ _ = .ok (.goto 4, 3) by decide +kernel) (by decide) ?_
        refine FW.sub [3, 4, 5] (ls' := [(0, .ref p0), (1, .int p1), (2, .int p2)]) rfl ?_
        exact sj_X11_isSeenBy_102 hd hK2 h_34
theorem sl_X11_isSeenBy_2 {g : GT} {d : Nat} (hd : 5 ≤ d + 1) {φ : Int32 → fM → Prop} : ∀ (n : Nat) {p0 : Nat} {p1 : Int32} {p2 : Int32} {M : fM}, l_X11_isSeenBy_2 φ n p0 p1 p2 M → FW g mtX11_isSeenBy (d + 1) 2 [(0, .ref p0), (1, .int p1), (2, .int p2)] [] M 0 0 (rI φ)
  | 0 => fun h => h.elim
  | n + 1 => fun h => sb_X11_isSeenBy_2 hd (fun _ _ _ _ h => sl_X11_isSeenBy_2 hd n h) h
def w_X11_isSeenBy (p0 : Nat) (p1 : Int32) (M : fM) (φ : Int32 → fM → Prop) : Prop := ∃ n, l_X11_isSeenBy_2 φ n p0 p1 (0 : Int32) M
set_option maxRecDepth 100000 in
theorem s_X11_isSeenBy {g : GT} {d : Nat} (hd : 5 ≤ d) {p0 : Nat} {p1 : Int32} {M : fM} {φ : Int32 → fM → Prop} (h : w_X11_isSeenBy p0 p1 M φ) : FC g mtX11_isSeenBy d [.ref p0, .int p1] M 0 0 (rI φ) := by
  obtain ⟨d, rfl⟩ : ∃ e, d = e + 1 := ⟨d - 1, by omega⟩
  unfold w_X11_isSeenBy at h
  refine FC.intro (nL := 6) (by decide) rfl (Nat.le_of_ble_eq_true rfl) ?_
  show FW g mtX11_isSeenBy (d + 1) 0 [(0, .ref p0), (1, .int p1)] [] M 0 0 (rI φ)
  refine fw_iconst (v := (0 : Int32)) (show decode _ _ = .ok (.iconst 0, 1) by decide +kernel) (by decide) ?_
  refine fw_istore_n (i := 2) (ls' := [(2, .int (0 : Int32)), (0, .ref p0), (1, .int p1)]) (show decode _ _ = .ok (.istore_n 2, 1) by decide +kernel) (by decide) rfl ?_
  refine FW.sub [1, 2, 0] (ls' := [(0, .ref p0), (1, .int p1), (2, .int (0 : Int32))]) rfl ?_
  obtain ⟨nn, h_1⟩ := h
  exact sl_X11_isSeenBy_2 hd nn h_1
def w_X11_jarred (p0 : Nat) (p1 : Int32) (p2 : Int32) (p3 : Int32) (p4 : Int32) (M : fM) (φ : Int64 → fM → Prop) : Prop := isO M p0 11 ∧ w_X11_start p0 p1 p4 (1 : Int32) M fun M1 => isO M1 p0 11 ∧ w_X11_goAll p0 p1 p2 (0 : Int32) M1 fun M5 => isO M5 p0 11 ∧ dR (mP M5 p0 24) fun y12 => w_X11_stepsOf p0 p2 M5 fun x15 M14 => w_X11_cell x15 p3 M14 fun x17 M16 => inA M16 y12 13 x17 ∧ isO M16 p0 11 ∧ w_X11_stepsOf p0 p2 M16 fun x25 M21 => w_X11_tenTo ((14 : Int32) - x25) M21 fun x27 M26 => φ ((mJ M16 y12 (ix x17)) * x27) M26
set_option maxRecDepth 100000 in
theorem s_X11_jarred {g : GT} {d : Nat} (hd : 8 ≤ d) {p0 : Nat} {p1 : Int32} {p2 : Int32} {p3 : Int32} {p4 : Int32} {M : fM} {φ : Int64 → fM → Prop} (h : w_X11_jarred p0 p1 p2 p3 p4 M φ) : FC g mtX11_jarred d [.ref p0, .int p1, .int p2, .int p3, .int p4] M 0 0 (rJ φ) := by
  obtain ⟨d, rfl⟩ : ∃ e, d = e + 1 := ⟨d - 1, by omega⟩
  unfold w_X11_jarred at h
  refine FC.intro (nL := 5) (by decide) rfl (Nat.le_of_ble_eq_true rfl) ?_
  show FW g mtX11_jarred (d + 1) 0 [(0, .ref p0), (1, .int p1), (2, .int p2), (3, .int p3), (4, .int p4)] [] M 0 0 (rJ φ)
  refine fw_aload_n (i := 0) 0 rfl (show decode _ _ = .ok (.aload_n 0, 1) by decide +kernel) ?_
  refine fw_iload_n (i := 1) 1 rfl (show decode _ _ = .ok (.iload_n 1, 1) by decide +kernel) ?_
  refine fw_iload (i := 4) 4 rfl (show decode _ _ = .ok (.iload 4, 2) by decide +kernel) ?_
  refine fw_iconst (v := (1 : Int32)) (show decode _ _ = .ok (.iconst 1, 1) by decide +kernel) (by decide) ?_
  obtain ⟨⟨hr3, n2, hs4⟩, h_1⟩ := h
  refine fw_callV (mt' := mtX11_start) (mc := 0) (ms := 0) (As := [.int p1, .int p4, .int (1 : Int32)]) (rest := []) 3 11 n2 (show decode _ _ = .ok (.invokevirtual 418, 3) by decide +kernel) cv_X11_418 ⟨_, rfl, rfl⟩ hr3 hs4 rfl (Nat.le_of_ble_eq_true rfl) (s_X11_start (d := d) (hd_le hd (by decide)) h_1) (by decide) (by decide) (kV (bc' := 0) (bs' := 0) (by decide) (by decide) (fun M1 h_2 => ?_))
  refine fw_aload_n (i := 0) 0 rfl (show decode _ _ = .ok (.aload_n 0, 1) by decide +kernel) ?_
  refine fw_iload_n (i := 1) 1 rfl (show decode _ _ = .ok (.iload_n 1, 1) by decide +kernel) ?_
  refine fw_iload_n (i := 2) 2 rfl (show decode _ _ = .ok (.iload_n 2, 1) by decide +kernel) ?_
  refine fw_iconst (v := (0 : Int32)) (show decode _ _ = .ok (.iconst 0, 1) by decide +kernel) (by decide) ?_
  obtain ⟨⟨hr7, n6, hs8⟩, h_3⟩ := h_2
  refine fw_callV (mt' := mtX11_goAll) (mc := 0) (ms := 0) (As := [.int p1, .int p2, .int (0 : Int32)]) (rest := []) 3 11 n6 (show decode _ _ = .ok (.invokevirtual 434, 3) by decide +kernel) cv_X11_434 ⟨_, rfl, rfl⟩ hr7 hs8 rfl (Nat.le_of_ble_eq_true rfl) (s_X11_goAll (d := d) (hd_le hd (by decide)) h_3) (by decide) (by decide) (kV (bc' := 0) (bs' := 0) (by decide) (by decide) (fun M5 h_4 => ?_))
  refine fw_aload_n (i := 0) 0 rfl (show decode _ _ = .ok (.aload_n 0, 1) by decide +kernel) ?_
  obtain ⟨⟨hr10, n9, hs11⟩, h_5⟩ := h_4
  refine fw_getP (kd := 11) (k := 24) (show decode _ _ = .ok (.getfield 43, 3) by decide +kernel) gf_X11_43 hr10 hs11 rfl ?_
  have h_6 := dR_e h_5
  obtain ⟨y12, hy13, h_7⟩ := h_6
  refine fw_deref hy13 ?_
  refine fw_aload_n (i := 0) 0 rfl (show decode _ _ = .ok (.aload_n 0, 1) by decide +kernel) ?_
  refine fw_iload_n (i := 2) 2 rfl (show decode _ _ = .ok (.iload_n 2, 1) by decide +kernel) ?_
  refine fw_callV (mt' := mtX11_stepsOf) (mc := 0) (ms := 0) (As := [.int p2]) (rest := [.ref y12]) 1 11 n9 (show decode _ _ = .ok (.invokevirtual 74, 3) by decide +kernel) cv_X11_74 ⟨_, rfl, rfl⟩ hr10 hs11 rfl (Nat.le_of_ble_eq_true rfl) (s_X11_stepsOf (d := d) (hd_le hd (by decide)) h_7) (by decide) (by decide) (kI (bc' := 0) (bs' := 0) (by decide) (by decide) (fun x15 M14 h_8 => ?_))
  refine fw_iload_n (i := 3) 3 rfl (show decode _ _ = .ok (.iload_n 3, 1) by decide +kernel) ?_
  refine fw_callS (mt' := mtX11_cell) (mc := 0) (ms := 0) (As := [.int x15, .int p3]) (rest := [.ref y12]) 2 (show decode _ _ = .ok (.invokestatic 408, 3) by decide +kernel) cs_X11_408 rfl (Nat.le_of_ble_eq_true rfl) (s_X11_cell (d := d) (hd_le hd (by decide)) h_8) (by decide) (by decide) (kI (bc' := 0) (bs' := 0) (by decide) (by decide) (fun x17 M16 h_9 => ?_))
  obtain ⟨⟨n18, hs19, hi20⟩, h_10⟩ := h_9
  refine fw_lald (show decode _ _ = .ok (.laload, 1) by decide +kernel) hs19 hi20 ?_
  refine fw_bipush (v := (14 : Int32)) (show decode _ _ = .ok (.bipush 14, 2) by decide +kernel) (by decide) ?_
  refine fw_aload_n (i := 0) 0 rfl (show decode _ _ = .ok (.aload_n 0, 1) by decide +kernel) ?_
  refine fw_iload_n (i := 2) 2 rfl (show decode _ _ = .ok (.iload_n 2, 1) by decide +kernel) ?_
  obtain ⟨⟨hr23, n22, hs24⟩, h_11⟩ := h_10
  refine fw_callV (mt' := mtX11_stepsOf) (mc := 0) (ms := 0) (As := [.int p2]) (rest := [.int (14 : Int32), .long (mJ M16 y12 (ix x17))]) 1 11 n22 (show decode _ _ = .ok (.invokevirtual 74, 3) by decide +kernel) cv_X11_74 ⟨_, rfl, rfl⟩ hr23 hs24 rfl (Nat.le_of_ble_eq_true rfl) (s_X11_stepsOf (d := d) (hd_le hd (by decide)) h_11) (by decide) (by decide) (kI (bc' := 0) (bs' := 0) (by decide) (by decide) (fun x25 M21 h_12 => ?_))
  refine fw_isub (show decode _ _ = .ok (.isub, 1) by decide +kernel) ?_
  refine fw_callS (mt' := mtX11_tenTo) (mc := 0) (ms := 0) (As := [.int ((14 : Int32) - x25)]) (rest := [.long (mJ M16 y12 (ix x17))]) 1 (show decode _ _ = .ok (.invokestatic 428, 3) by decide +kernel) cs_X11_428 rfl (Nat.le_of_ble_eq_true rfl) (s_X11_tenTo (d := d) (hd_le hd (by decide)) h_12) (by decide) (by decide) (kJ (bc' := 0) (bs' := 0) (by decide) (by decide) (fun x27 M26 h_13 => ?_))
  refine fw_lmul (show decode _ _ = .ok (.lmul, 1) by decide +kernel) ?_
  exact fw_ret (v := some (.long ((mJ M16 y12 (ix x17)) * x27))) .lreturn (show decode _ _ = .ok (.lreturn, 1) by decide +kernel) ⟨rfl, rfl⟩ ⟨_, rfl, h_13⟩
def b_X11_lamp_70 (K70 : Nat → Int32 → Int32 → Int64 → Int32 → fM → Prop) (φ : Int32 → fM → Prop) (p0 : Nat) (p3 : Int32) (p4 : Int32) (p6 : Int64) (p8 : Int32) (M : fM) : Prop := iF ((9999 : Int32) < p8) (φ (-1 : Int32) M) (isO M p0 11 ∧ w_X11_isNoLess ((Int32.toInt64 p8) * (Int32.toInt64 p3)) (Int32.toInt64 p4) p6 (mJ M p0 29) M fun x5 M4 => iF (x5 = 0) (nm (p8 + (1 : Int32)) fun x6 => K70 p0 p3 p4 p6 x6 M4) (φ p8 M4))
def l_X11_lamp_70 (φ : Int32 → fM → Prop) : Nat → Nat → Int32 → Int32 → Int64 → Int32 → fM → Prop
  | 0, _, _, _, _, _, _ => False
  | n + 1, p0, p3, p4, p6, p8, M => b_X11_lamp_70 (l_X11_lamp_70 φ n) φ p0 p3 p4 p6 p8 M
set_option maxRecDepth 100000 in
theorem sb_X11_lamp_70 {g : GT} {d : Nat} (hd : 9 ≤ d + 1) {K70 : Nat → Int32 → Int32 → Int64 → Int32 → fM → Prop} {φ : Int32 → fM → Prop} (hK70 : ∀ (p0 : Nat) (p3 : Int32) (p4 : Int32) (p6 : Int64) (p8 : Int32) (M : fM), K70 p0 p3 p4 p6 p8 M → FW g mtX11_lamp (d + 1) 70 [(0, .ref p0), (3, .int p3), (4, .int p4), (6, .long p6), (8, .int p8)] [] M 0 0 (rI φ)) {p0 : Nat} {p3 : Int32} {p4 : Int32} {p6 : Int64} {p8 : Int32} {M : fM} (h : b_X11_lamp_70 K70 φ p0 p3 p4 p6 p8 M) : FW g mtX11_lamp (d + 1) 70 [(0, .ref p0), (3, .int p3), (4, .int p4), (6, .long p6), (8, .int p8)] [] M 0 0 (rI φ) := by
  unfold b_X11_lamp_70 at h
  refine fw_iload (i := 8) 4 rfl (show decode _ _ = .ok (.iload 8, 2) by decide +kernel) ?_
  refine fw_sipush (v := (9999 : Int32)) (show decode _ _ = .ok (.sipush 9999, 3) by decide +kernel) (by decide) ?_
  refine fw_icmp_gt 108 (show decode _ _ = .ok (.if_icmp .gt 33, 3) by decide +kernel) (by decide) (fun hc9 => ?_) (fun hc9 => ?_)
  · have h_1 := ipos hc9 h
    refine fw_iconst (v := (-1 : Int32)) (show decode _ _ = .ok (.iconst (-1), 1) by decide +kernel) (by decide) ?_
    exact fw_ret (v := some (.int (-1 : Int32))) .ireturn (show decode _ _ = .ok (.ireturn, 1) by decide +kernel) ⟨rfl, Or.inl rfl⟩ ⟨_, rfl, h_1⟩
  · have h_2 := ineg hc9 h
    refine fw_iload (i := 8) 4 rfl (show decode _ _ = .ok (.iload 8, 2) by decide +kernel) ?_
    refine fw_i2l (show decode _ _ = .ok (.i2l, 1) by decide +kernel) ?_
    refine fw_iload_n (i := 3) 1 rfl (show decode _ _ = .ok (.iload_n 3, 1) by decide +kernel) ?_
    refine fw_i2l (show decode _ _ = .ok (.i2l, 1) by decide +kernel) ?_
    refine fw_lmul (show decode _ _ = .ok (.lmul, 1) by decide +kernel) ?_
    refine fw_iload (i := 4) 2 rfl (show decode _ _ = .ok (.iload 4, 2) by decide +kernel) ?_
    refine fw_i2l (show decode _ _ = .ok (.i2l, 1) by decide +kernel) ?_
    refine fw_lload (i := 6) 3 rfl (show decode _ _ = .ok (.lload 6, 2) by decide +kernel) ?_
    refine fw_aload_n (i := 0) 0 rfl (show decode _ _ = .ok (.aload_n 0, 1) by decide +kernel) ?_
    obtain ⟨⟨hr2, n1, hs3⟩, h_3⟩ := h_2
    refine fw_getJ (kd := 11) (k := 29) (show decode _ _ = .ok (.getfield 447, 3) by decide +kernel) gf_X11_447 hr2 hs3 rfl ?_
    refine fw_callS (mt' := mtX11_isNoLess) (mc := 0) (ms := 0) (As := [.long ((Int32.toInt64 p8) * (Int32.toInt64 p3)), .long (Int32.toInt64 p4), .long p6, .long (mJ M p0 29)]) (rest := []) 4 (show decode _ _ = .ok (.invokestatic 455, 3) by decide +kernel) cs_X11_455 rfl (Nat.le_of_ble_eq_true rfl) (s_X11_isNoLess (d := d) (hd_le hd (by decide)) h_3) (by decide) (by decide) (kI (bc' := 0) (bs' := 0) (by decide) (by decide) (fun x5 M4 h_4 => ?_))
    refine fw_if_eq 102 (show decode _ _ = .ok (.ifCond .eq 6, 3) by decide +kernel) (by decide) (fun hc8 => ?_) (fun hc8 => ?_)
    · have h_5 := ipos hc8 h_4
      obtain ⟨x6, ex7⟩ : ∃ y : Int32, y = p8 + (1 : Int32) := ⟨_, rfl⟩
      have h_6 := h_5 x6 ex7
      refine fw_iinc (i := 8) (x := p8) (v := x6) (ls' := [(8, .int x6), (0, .ref p0), (3, .int p3), (4, .int p4), (6, .long p6)]) 4 rfl (show decode _ _ = .ok (.iinc 8 1, 3) by decide +kernel) (by rw [ex7]; rfl) (by decide) rfl ?_
      refine fw_goto 70 (show decode _ _ = .ok (.goto (-35), 3) by decide +kernel) (by decide) ?_
      refine FW.sub [1, 2, 3, 4, 0] (ls' := [(0, .ref p0), (3, .int p3), (4, .int p4), (6, .long p6), (8, .int x6)]) rfl ?_
      exact hK70 _ _ _ _ _ _ h_6
    · have h_7 := ineg hc8 h_4
      refine fw_iload (i := 8) 4 rfl (show decode _ _ = .ok (.iload 8, 2) by decide +kernel) ?_
      exact fw_ret (v := some (.int p8)) .ireturn (show decode _ _ = .ok (.ireturn, 1) by decide +kernel) ⟨rfl, Or.inl rfl⟩ ⟨_, rfl, h_7⟩
theorem sl_X11_lamp_70 {g : GT} {d : Nat} (hd : 9 ≤ d + 1) {φ : Int32 → fM → Prop} : ∀ (n : Nat) {p0 : Nat} {p3 : Int32} {p4 : Int32} {p6 : Int64} {p8 : Int32} {M : fM}, l_X11_lamp_70 φ n p0 p3 p4 p6 p8 M → FW g mtX11_lamp (d + 1) 70 [(0, .ref p0), (3, .int p3), (4, .int p4), (6, .long p6), (8, .int p8)] [] M 0 0 (rI φ)
  | 0 => fun h => h.elim
  | n + 1 => fun h => sb_X11_lamp_70 hd (fun _ _ _ _ _ _ h => sl_X11_lamp_70 hd n h) h
def w_X11_lamp (p0 : Nat) (p1 : Int32) (p2 : Int32) (p3 : Int32) (p4 : Int32) (M : fM) (φ : Int32 → fM → Prop) : Prop := isO M p0 11 ∧ w_X11_isMind p0 p1 p2 (0 : Int32) M fun x14 M10 => iF (x14 = 0) (φ (-1 : Int32) M10) (w_X11_isIn p3 (1 : Int32) (99 : Int32) M10 fun x16 M15 => iF (x16 = 0) (φ (-1 : Int32) M15) (w_X11_isIn p4 (1 : Int32) (999 : Int32) M15 fun x18 M17 => iF (x18 = 0) (φ (-1 : Int32) M17) (isO M17 p0 11 ∧ w_X11_best p0 p1 p2 (0 : Int32) (0 : Int32) M17 fun x23 M19 => isO M19 p0 11 ∧ iF ((lg_cmp (mJ M19 p0 29) (0 : Int64)) = 0) (φ (-1 : Int32) M19) (w_X11_stepsOf p0 p2 M19 fun x28 M27 => w_X11_tenTo (x28 + (1 : Int32)) M27 fun x30 M29 => ∃ n, l_X11_lamp_70 φ n p0 p3 p4 x30 (1 : Int32) M29))))
set_option maxRecDepth 100000 in
theorem s_X11_lamp {g : GT} {d : Nat} (hd : 9 ≤ d) {p0 : Nat} {p1 : Int32} {p2 : Int32} {p3 : Int32} {p4 : Int32} {M : fM} {φ : Int32 → fM → Prop} (h : w_X11_lamp p0 p1 p2 p3 p4 M φ) : FC g mtX11_lamp d [.ref p0, .int p1, .int p2, .int p3, .int p4] M 0 0 (rI φ) := by
  obtain ⟨d, rfl⟩ : ∃ e, d = e + 1 := ⟨d - 1, by omega⟩
  unfold w_X11_lamp at h
  refine FC.intro (nL := 9) (by decide) rfl (Nat.le_of_ble_eq_true rfl) ?_
  show FW g mtX11_lamp (d + 1) 0 [(0, .ref p0), (1, .int p1), (2, .int p2), (3, .int p3), (4, .int p4)] [] M 0 0 (rI φ)
  refine fw_aload_n (i := 0) 0 rfl (show decode _ _ = .ok (.aload_n 0, 1) by decide +kernel) ?_
  refine fw_iload_n (i := 1) 1 rfl (show decode _ _ = .ok (.iload_n 1, 1) by decide +kernel) ?_
  refine fw_iload_n (i := 2) 2 rfl (show decode _ _ = .ok (.iload_n 2, 1) by decide +kernel) ?_
  refine fw_iconst (v := (0 : Int32)) (show decode _ _ = .ok (.iconst 0, 1) by decide +kernel) (by decide) ?_
  obtain ⟨⟨hr12, n11, hs13⟩, h_1⟩ := h
  refine fw_callV (mt' := mtX11_isMind) (mc := 0) (ms := 0) (As := [.int p1, .int p2, .int (0 : Int32)]) (rest := []) 3 11 n11 (show decode _ _ = .ok (.invokevirtual 325, 3) by decide +kernel) cv_X11_325 ⟨_, rfl, rfl⟩ hr12 hs13 rfl (Nat.le_of_ble_eq_true rfl) (s_X11_isMind (d := d) (hd_le hd (by decide)) h_1) (by decide) (by decide) (kI (bc' := 0) (bs' := 0) (by decide) (by decide) (fun x14 M10 h_2 => ?_))
  refine fw_if_eq 32 (show decode _ _ = .ok (.ifCond .eq 25, 3) by decide +kernel) (by decide) (fun hc34 => ?_) (fun hc34 => ?_)
  · have h_3 := ipos hc34 h_2
    refine fw_iconst (v := (-1 : Int32)) (show decode _ _ = .ok (.iconst (-1), 1) by decide +kernel) (by decide) ?_
    exact fw_ret (v := some (.int (-1 : Int32))) .ireturn (show decode _ _ = .ok (.ireturn, 1) by decide +kernel) ⟨rfl, Or.inl rfl⟩ ⟨_, rfl, h_3⟩
  · have h_4 := ineg hc34 h_2
    refine fw_iload_n (i := 3) 3 rfl (show decode _ _ = .ok (.iload_n 3, 1) by decide +kernel) ?_
    refine fw_iconst (v := (1 : Int32)) (show decode _ _ = .ok (.iconst 1, 1) by decide +kernel) (by decide) ?_
    refine fw_bipush (v := (99 : Int32)) (show decode _ _ = .ok (.bipush 99, 2) by decide +kernel) (by decide) ?_
    refine fw_callS (mt' := mtX11_isIn) (mc := 0) (ms := 0) (As := [.int p3, .int (1 : Int32), .int (99 : Int32)]) (rest := []) 3 (show decode _ _ = .ok (.invokestatic 66, 3) by decide +kernel) cs_X11_66 rfl (Nat.le_of_ble_eq_true rfl) (s_X11_isIn (d := d) (hd_le hd (by decide)) h_4) (by decide) (by decide) (kI (bc' := 0) (bs' := 0) (by decide) (by decide) (fun x16 M15 h_5 => ?_))
    refine fw_if_eq 32 (show decode _ _ = .ok (.ifCond .eq 15, 3) by decide +kernel) (by decide) (fun hc33 => ?_) (fun hc33 => ?_)
    · have h_6 := ipos hc33 h_5
      refine fw_iconst (v := (-1 : Int32)) (show decode _ _ = .ok (.iconst (-1), 1) by decide +kernel) (by decide) ?_
      exact fw_ret (v := some (.int (-1 : Int32))) .ireturn (show decode _ _ = .ok (.ireturn, 1) by decide +kernel) ⟨rfl, Or.inl rfl⟩ ⟨_, rfl, h_6⟩
    · have h_7 := ineg hc33 h_5
      refine fw_iload (i := 4) 4 rfl (show decode _ _ = .ok (.iload 4, 2) by decide +kernel) ?_
      refine fw_iconst (v := (1 : Int32)) (show decode _ _ = .ok (.iconst 1, 1) by decide +kernel) (by decide) ?_
      refine fw_sipush (v := (999 : Int32)) (show decode _ _ = .ok (.sipush 999, 3) by decide +kernel) (by decide) ?_
      refine fw_callS (mt' := mtX11_isIn) (mc := 0) (ms := 0) (As := [.int p4, .int (1 : Int32), .int (999 : Int32)]) (rest := []) 3 (show decode _ _ = .ok (.invokestatic 66, 3) by decide +kernel) cs_X11_66 rfl (Nat.le_of_ble_eq_true rfl) (s_X11_isIn (d := d) (hd_le hd (by decide)) h_7) (by decide) (by decide) (kI (bc' := 0) (bs' := 0) (by decide) (by decide) (fun x18 M17 h_8 => ?_))
      refine fw_if_ne 34 (show decode _ _ = .ok (.ifCond .ne 5, 3) by decide +kernel) (by decide) (fun hc32 => ?_) (fun hc32 => ?_)
      · have h_9 := ineg hc32 h_8
        refine fw_aload_n (i := 0) 0 rfl (show decode _ _ = .ok (.aload_n 0, 1) by decide +kernel) ?_
        refine fw_iload_n (i := 1) 1 rfl (show decode _ _ = .ok (.iload_n 1, 1) by decide +kernel) ?_
        refine fw_iload_n (i := 2) 2 rfl (show decode _ _ = .ok (.iload_n 2, 1) by decide +kernel) ?_
        refine fw_iconst (v := (0 : Int32)) (show decode _ _ = .ok (.iconst 0, 1) by decide +kernel) (by decide) ?_
        refine fw_iconst (v := (0 : Int32)) (show decode _ _ = .ok (.iconst 0, 1) by decide +kernel) (by decide) ?_
        obtain ⟨⟨hr21, n20, hs22⟩, h_10⟩ := h_9
        refine fw_callV (mt' := mtX11_best) (mc := 0) (ms := 0) (As := [.int p1, .int p2, .int (0 : Int32), .int (0 : Int32)]) (rest := []) 4 11 n20 (show decode _ _ = .ok (.invokevirtual 450, 3) by decide +kernel) cv_X11_450 ⟨_, rfl, rfl⟩ hr21 hs22 rfl (Nat.le_of_ble_eq_true rfl) (s_X11_best (d := d) (hd_le hd (by decide)) h_10) (by decide) (by decide) (kI (bc' := 0) (bs' := 0) (by decide) (by decide) (fun x23 M19 h_11 => ?_))
        refine fw_istore (i := 5) (ls' := [(5, .int x23), (0, .ref p0), (1, .int p1), (2, .int p2), (3, .int p3), (4, .int p4)]) (show decode _ _ = .ok (.istore 5, 2) by decide +kernel) (by decide) rfl ?_
        refine fw_aload_n (i := 0) 1 rfl (show decode _ _ = .ok (.aload_n 0, 1) by decide +kernel) ?_
        obtain ⟨⟨hr25, n24, hs26⟩, h_12⟩ := h_11
        refine fw_getJ (kd := 11) (k := 29) (show decode _ _ = .ok (.getfield 447, 3) by decide +kernel) gf_X11_447 hr25 hs26 rfl ?_
        refine fw_lconst (v := (0 : Int64)) (show decode _ _ = .ok (.lconst 0, 1) by decide +kernel) (by decide) ?_
        refine fw_lcmp (show decode _ _ = .ok (.lcmp, 1) by decide +kernel) ?_
        refine fw_if_ne 55 (show decode _ _ = .ok (.ifCond .ne 5, 3) by decide +kernel) (by decide) (fun hc31 => ?_) (fun hc31 => ?_)
        · have h_13 := ineg hc31 h_12
          refine fw_aload_n (i := 0) 1 rfl (show decode _ _ = .ok (.aload_n 0, 1) by decide +kernel) ?_
          refine fw_iload_n (i := 2) 3 rfl (show decode _ _ = .ok (.iload_n 2, 1) by decide +kernel) ?_
          refine fw_callV (mt' := mtX11_stepsOf) (mc := 0) (ms := 0) (As := [.int p2]) (rest := []) 1 11 n24 (show decode _ _ = .ok (.invokevirtual 74, 3) by decide +kernel) cv_X11_74 ⟨_, rfl, rfl⟩ hr25 hs26 rfl (Nat.le_of_ble_eq_true rfl) (s_X11_stepsOf (d := d) (hd_le hd (by decide)) h_13) (by decide) (by decide) (kI (bc' := 0) (bs' := 0) (by decide) (by decide) (fun x28 M27 h_14 => ?_))
          refine fw_iconst (v := (1 : Int32)) (show decode _ _ = .ok (.iconst 1, 1) by decide +kernel) (by decide) ?_
          refine fw_iadd (show decode _ _ = .ok (.iadd, 1) by decide +kernel) ?_
          refine fw_callS (mt' := mtX11_tenTo) (mc := 0) (ms := 0) (As := [.int (x28 + (1 : Int32))]) (rest := []) 1 (show decode _ _ = .ok (.invokestatic 428, 3) by decide +kernel) cs_X11_428 rfl (Nat.le_of_ble_eq_true rfl) (s_X11_tenTo (d := d) (hd_le hd (by decide)) h_14) (by decide) (by decide) (kJ (bc' := 0) (bs' := 0) (by decide) (by decide) (fun x30 M29 h_15 => ?_))
          refine fw_lstore (i := 6) (ls' := [(6, .long x30), (5, .int x23), (0, .ref p0), (1, .int p1), (2, .int p2), (3, .int p3), (4, .int p4)]) (show decode _ _ = .ok (.lstore 6, 2) by decide +kernel) (by decide) rfl ?_
          refine fw_iconst (v := (1 : Int32)) (show decode _ _ = .ok (.iconst 1, 1) by decide +kernel) (by decide) ?_
          refine fw_istore (i := 8) (ls' := [(8, .int (1 : Int32)), (6, .long x30), (5, .int x23), (0, .ref p0), (1, .int p1), (2, .int p2), (3, .int p3), (4, .int p4)]) (show decode _ _ = .ok (.istore 8, 2) by decide +kernel) (by decide) rfl ?_
          refine FW.sub [3, 6, 7, 1, 0] (ls' := [(0, .ref p0), (3, .int p3), (4, .int p4), (6, .long x30), (8, .int (1 : Int32))]) rfl ?_
          obtain ⟨nn, h_16⟩ := h_15
          exact sl_X11_lamp_70 hd nn h_16
        · have h_17 := ipos hc31 h_12
          refine fw_iconst (v := (-1 : Int32)) (show decode _ _ = .ok (.iconst (-1), 1) by decide +kernel) (by decide) ?_
          exact fw_ret (v := some (.int (-1 : Int32))) .ireturn (show decode _ _ = .ok (.ireturn, 1) by decide +kernel) ⟨rfl, Or.inl rfl⟩ ⟨_, rfl, h_17⟩
      · have h_18 := ipos hc32 h_8
        refine fw_iconst (v := (-1 : Int32)) (show decode _ _ = .ok (.iconst (-1), 1) by decide +kernel) (by decide) ?_
        exact fw_ret (v := some (.int (-1 : Int32))) .ireturn (show decode _ _ = .ok (.ireturn, 1) by decide +kernel) ⟨rfl, Or.inl rfl⟩ ⟨_, rfl, h_18⟩
def b_X11_laws_4 (K4 : Nat → Int32 → Int32 → fM → Prop) (φ : Int32 → fM → Prop) (p0 : Nat) (p1 : Int32) (p2 : Int32) (M : fM) : Prop := isO M p0 11 ∧ dR (mP M p0 0) fun y4 => inA M y4 12 (3 : Int32) ∧ iF ((mI M y4 (ix (3 : Int32))) ≤ p2) (φ p1 M) (w_X11_isSeenBy p0 p2 M fun x10 M9 => iF (x10 = 0) (nm (p1 ||| (0 : Int32)) fun x11 => nm (p2 + (1 : Int32)) fun x13 => K4 p0 x11 x13 M9) (nm (p1 ||| ((1 : Int32) <<< (p2 &&& 31))) fun x15 => nm (p2 + (1 : Int32)) fun x17 => K4 p0 x15 x17 M9))
def l_X11_laws_4 (φ : Int32 → fM → Prop) : Nat → Nat → Int32 → Int32 → fM → Prop
  | 0, _, _, _, _ => False
  | n + 1, p0, p1, p2, M => b_X11_laws_4 (l_X11_laws_4 φ n) φ p0 p1 p2 M
set_option maxRecDepth 100000 in
theorem sb_X11_laws_4 {g : GT} {d : Nat} (hd : 6 ≤ d + 1) {K4 : Nat → Int32 → Int32 → fM → Prop} {φ : Int32 → fM → Prop} (hK4 : ∀ (p0 : Nat) (p1 : Int32) (p2 : Int32) (M : fM), K4 p0 p1 p2 M → FW g mtX11_laws (d + 1) 4 [(0, .ref p0), (1, .int p1), (2, .int p2)] [] M 0 0 (rI φ)) {p0 : Nat} {p1 : Int32} {p2 : Int32} {M : fM} (h : b_X11_laws_4 K4 φ p0 p1 p2 M) : FW g mtX11_laws (d + 1) 4 [(0, .ref p0), (1, .int p1), (2, .int p2)] [] M 0 0 (rI φ) := by
  unfold b_X11_laws_4 at h
  refine fw_iload_n (i := 2) 2 rfl (show decode _ _ = .ok (.iload_n 2, 1) by decide +kernel) ?_
  refine fw_aload_n (i := 0) 0 rfl (show decode _ _ = .ok (.aload_n 0, 1) by decide +kernel) ?_
  obtain ⟨⟨hr2, n1, hs3⟩, h_1⟩ := h
  refine fw_getP (kd := 11) (k := 0) (show decode _ _ = .ok (.getfield 7, 3) by decide +kernel) gf_X11_7 hr2 hs3 rfl ?_
  have h_2 := dR_e h_1
  obtain ⟨y4, hy5, h_3⟩ := h_2
  refine fw_deref hy5 ?_
  refine fw_iconst (v := (3 : Int32)) (show decode _ _ = .ok (.iconst 3, 1) by decide +kernel) (by decide) ?_
  obtain ⟨⟨n6, hs7, hi8⟩, h_4⟩ := h_3
  refine fw_iald (show decode _ _ = .ok (.iaload, 1) by decide +kernel) hs7 hi8 ?_
  refine fw_icmp_ge 38 (show decode _ _ = .ok (.if_icmp .ge 27, 3) by decide +kernel) (by decide) (fun hc20 => ?_) (fun hc20 => ?_)
  · have h_5 := ipos hc20 h_4
    refine fw_iload_n (i := 1) 1 rfl (show decode _ _ = .ok (.iload_n 1, 1) by decide +kernel) ?_
    exact fw_ret (v := some (.int p1)) .ireturn (show decode _ _ = .ok (.ireturn, 1) by decide +kernel) ⟨rfl, Or.inl rfl⟩ ⟨_, rfl, h_5⟩
  · have h_6 := ineg hc20 h_4
    refine fw_iload_n (i := 1) 1 rfl (show decode _ _ = .ok (.iload_n 1, 1) by decide +kernel) ?_
    refine fw_aload_n (i := 0) 0 rfl (show decode _ _ = .ok (.aload_n 0, 1) by decide +kernel) ?_
    refine fw_iload_n (i := 2) 2 rfl (show decode _ _ = .ok (.iload_n 2, 1) by decide +kernel) ?_
    refine fw_callV (mt' := mtX11_isSeenBy) (mc := 0) (ms := 0) (As := [.int p2]) (rest := [.int p1]) 1 11 n1 (show decode _ _ = .ok (.invokevirtual 466, 3) by decide +kernel) cv_X11_466 ⟨_, rfl, rfl⟩ hr2 hs3 rfl (Nat.le_of_ble_eq_true rfl) (s_X11_isSeenBy (d := d) (hd_le hd (by decide)) h_6) (by decide) (by decide) (kI (bc' := 0) (bs' := 0) (by decide) (by decide) (fun x10 M9 h_7 => ?_))
    refine fw_if_eq 29 (show decode _ _ = .ok (.ifCond .eq 9, 3) by decide +kernel) (by decide) (fun hc19 => ?_) (fun hc19 => ?_)
    · have h_8 := ipos hc19 h_7
      refine fw_iconst (v := (0 : Int32)) (show decode _ _ = .ok (.iconst 0, 1) by decide +kernel) (by decide) ?_
      refine fw_ior (show decode _ _ = .ok (.ior, 1) by decide +kernel) ?_
      refine fw_nmI (fun x11 ex12 => ?_)
      have h_9 := h_8 x11 ex12
      refine fw_istore_n (i := 1) (ls' := [(1, .int x11), (0, .ref p0), (2, .int p2)]) (show decode _ _ = .ok (.istore_n 1, 1) by decide +kernel) (by decide) rfl ?_
      obtain ⟨x13, ex14⟩ : ∃ y : Int32, y = p2 + (1 : Int32) := ⟨_, rfl⟩
      have h_10 := h_9 x13 ex14
      refine fw_iinc (i := 2) (x := p2) (v := x13) (ls' := [(2, .int x13), (1, .int x11), (0, .ref p0)]) 2 rfl (show decode _ _ = .ok (.iinc 2 1, 3) by decide +kernel) (by rw [ex14]; rfl) (by decide) rfl ?_
      refine fw_goto 4 (show decode _ _ = .ok (.goto (-31), 3) by decide +kernel) (by decide) ?_
      refine FW.sub [2, 1, 0] (ls' := [(0, .ref p0), (1, .int x11), (2, .int x13)]) rfl ?_
      exact hK4 _ _ _ _ h_10
    · have h_11 := ineg hc19 h_7
      refine fw_iconst (v := (1 : Int32)) (show decode _ _ = .ok (.iconst 1, 1) by decide +kernel) (by decide) ?_
      refine fw_iload_n (i := 2) 2 rfl (show decode _ _ = .ok (.iload_n 2, 1) by decide +kernel) ?_
      refine fw_ishl (show decode _ _ = .ok (.ishl, 1) by decide +kernel) ?_
      refine fw_goto 30 (show decode _ _ = .ok (.goto 4, 3) by decide +kernel) (by decide) ?_
      refine fw_ior (show decode _ _ = .ok (.ior, 1) by decide +kernel) ?_
      refine fw_nmI (fun x15 ex16 => ?_)
      have h_12 := h_11 x15 ex16
      refine fw_istore_n (i := 1) (ls' := [(1, .int x15), (0, .ref p0), (2, .int p2)]) (show decode _ _ = .ok (.istore_n 1, 1) by decide +kernel) (by decide) rfl ?_
      obtain ⟨x17, ex18⟩ : ∃ y : Int32, y = p2 + (1 : Int32) := ⟨_, rfl⟩
      have h_13 := h_12 x17 ex18
      refine fw_iinc (i := 2) (x := p2) (v := x17) (ls' := [(2, .int x17), (1, .int x15), (0, .ref p0)]) 2 rfl (show decode _ _ = .ok (.iinc 2 1, 3) by decide +kernel) (by rw [ex18]; rfl) (by decide) rfl ?_
      refine fw_goto 4 (show decode _ _ = .ok (.goto (-31), 3) by decide +kernel) (by decide) ?_
      refine FW.sub [2, 1, 0] (ls' := [(0, .ref p0), (1, .int x15), (2, .int x17)]) rfl ?_
      exact hK4 _ _ _ _ h_13
theorem sl_X11_laws_4 {g : GT} {d : Nat} (hd : 6 ≤ d + 1) {φ : Int32 → fM → Prop} : ∀ (n : Nat) {p0 : Nat} {p1 : Int32} {p2 : Int32} {M : fM}, l_X11_laws_4 φ n p0 p1 p2 M → FW g mtX11_laws (d + 1) 4 [(0, .ref p0), (1, .int p1), (2, .int p2)] [] M 0 0 (rI φ)
  | 0 => fun h => h.elim
  | n + 1 => fun h => sb_X11_laws_4 hd (fun _ _ _ _ h => sl_X11_laws_4 hd n h) h
def w_X11_laws (p0 : Nat) (M : fM) (φ : Int32 → fM → Prop) : Prop := ∃ n, l_X11_laws_4 φ n p0 (0 : Int32) (0 : Int32) M
set_option maxRecDepth 100000 in
theorem s_X11_laws {g : GT} {d : Nat} (hd : 6 ≤ d) {p0 : Nat} {M : fM} {φ : Int32 → fM → Prop} (h : w_X11_laws p0 M φ) : FC g mtX11_laws d [.ref p0] M 0 0 (rI φ) := by
  obtain ⟨d, rfl⟩ : ∃ e, d = e + 1 := ⟨d - 1, by omega⟩
  unfold w_X11_laws at h
  refine FC.intro (nL := 3) (by decide) rfl (Nat.le_of_ble_eq_true rfl) ?_
  show FW g mtX11_laws (d + 1) 0 [(0, .ref p0)] [] M 0 0 (rI φ)
  refine fw_iconst (v := (0 : Int32)) (show decode _ _ = .ok (.iconst 0, 1) by decide +kernel) (by decide) ?_
  refine fw_istore_n (i := 1) (ls' := [(1, .int (0 : Int32)), (0, .ref p0)]) (show decode _ _ = .ok (.istore_n 1, 1) by decide +kernel) (by decide) rfl ?_
  refine fw_iconst (v := (0 : Int32)) (show decode _ _ = .ok (.iconst 0, 1) by decide +kernel) (by decide) ?_
  refine fw_istore_n (i := 2) (ls' := [(2, .int (0 : Int32)), (1, .int (0 : Int32)), (0, .ref p0)]) (show decode _ _ = .ok (.istore_n 2, 1) by decide +kernel) (by decide) rfl ?_
  refine FW.sub [2, 1, 0] (ls' := [(0, .ref p0), (1, .int (0 : Int32)), (2, .int (0 : Int32))]) rfl ?_
  obtain ⟨nn, h_1⟩ := h
  exact sl_X11_laws_4 hd nn h_1
