def j_X9_start_72 (φ : fM → Prop) (s0 : Int32) (s1 : Int32) (s2 : Nat) (M : fM) : Prop := 6 ≤ s2 ∧ inA M s2 12 s1 ∧ st (wI M s2 (ix s1) s0) fun M5 => φ M5
set_option maxRecDepth 100000 in
theorem sj_X9_start_72 {g : GT} {d : Nat} (hd : 3 ≤ d + 1) {φ : fM → Prop} {s0 : Int32} {s1 : Int32} {s2 : Nat} {M : fM} (h : j_X9_start_72 φ s0 s1 s2 M) : FW g mtX9_start (d + 1) 72 [] [.int s0, .int s1, .ref s2] M 0 0 (rV φ) := by
  unfold j_X9_start_72 at h
  obtain ⟨hr4, ⟨n1, hs2, hi3⟩, h_1⟩ := h
  refine fw_iast (show decode _ _ = .ok (.iastore, 1) by decide +kernel) hr4 hs2 hi3 ?_
  refine FW.nmM (fun M5 eM6 => ?_)
  have h_2 := h_1 M5 eM6
  exact fw_ret (v := none) .return_ (show decode _ _ = .ok (.return_, 1) by decide +kernel) ⟨rfl, rfl⟩ ⟨rfl, h_2⟩
def w_X9_start (p0 : Nat) (p1 : Int32) (p2 : Int32) (p3 : Int32) (M : fM) (φ : fM → Prop) : Prop := isO M p0 9 ∧ dR (mP M p0 0) fun y10 => isO M y10 5 ∧ dR (mP M y10 7) fun y15 => w_J7_fill_53178 y15 (0 : Int32) M fun M17 => isO M17 p0 9 ∧ dR (mP M17 p0 0) fun y21 => isO M17 y21 5 ∧ dR (mP M17 y21 7) fun y26 => 6 ≤ y26 ∧ inA M17 y26 12 (0 : Int32) ∧ st (wI M17 y26 (ix (0 : Int32)) p1) fun M32 => dR (mP M32 p0 0) fun y34 => isO M32 y34 5 ∧ dR (mP M32 y34 7) fun y39 => 6 ≤ y39 ∧ inA M32 y39 12 (1 : Int32) ∧ st (wI M32 y39 (ix (1 : Int32)) p2) fun M45 => dR (mP M45 p0 0) fun y47 => isO M45 y47 5 ∧ dR (mP M45 y47 7) fun y52 => 6 ≤ y52 ∧ inA M45 y52 12 (2 : Int32) ∧ st (wI M45 y52 (ix (2 : Int32)) p3) fun M58 => dR (mP M58 p0 0) fun y60 => isO M58 y60 5 ∧ dR (mP M58 y60 7) fun y65 => w_X9_draw p0 M58 fun x68 M67 => isO M67 p0 9 ∧ dR (mP M67 p0 0) fun y72 => isO M67 y72 5 ∧ dR (mP M67 y72 3) fun y77 => w_X10_cell y77 p1 M67 fun x80 M79 => iF (x80 ≤ x68) (j_X9_start_72 φ (0 : Int32) (4 : Int32) y65 M79) (j_X9_start_72 φ (1 : Int32) (4 : Int32) y65 M79)
set_option maxRecDepth 100000 in
theorem s_X9_start {g : GT} {d : Nat} (hd : 3 ≤ d) {p0 : Nat} {p1 : Int32} {p2 : Int32} {p3 : Int32} {M : fM} {φ : fM → Prop} (h : w_X9_start p0 p1 p2 p3 M φ) : FC g mtX9_start d [.ref p0, .int p1, .int p2, .int p3] M 0 0 (rV φ) := by
  obtain ⟨d, rfl⟩ : ∃ e, d = e + 1 := ⟨d - 1, by omega⟩
  unfold w_X9_start at h
  refine FC.intro (nL := 4) (by decide) rfl (Nat.le_of_ble_eq_true rfl) ?_
  show FW g mtX9_start (d + 1) 0 [(0, .ref p0), (1, .int p1), (2, .int p2), (3, .int p3)] [] M 0 0 (rV φ)
  refine fw_aload_n (i := 0) 0 rfl (show decode _ _ = .ok (.aload_n 0, 1) by decide +kernel) ?_
  obtain ⟨⟨hr8, n7, hs9⟩, h_1⟩ := h
  refine fw_getP (kd := 9) (k := 0) (show decode _ _ = .ok (.getfield 9, 3) by decide +kernel) gf_X9_9 hr8 hs9 rfl ?_
  have h_2 := dR_e h_1
  obtain ⟨y10, hy11, h_3⟩ := h_2
  refine fw_deref hy11 ?_
  obtain ⟨⟨hr13, n12, hs14⟩, h_4⟩ := h_3
  refine fw_getP (kd := 5) (k := 7) (show decode _ _ = .ok (.getfield 36, 3) by decide +kernel) gf_X9_36 hr13 hs14 rfl ?_
  have h_5 := dR_e h_4
  obtain ⟨y15, hy16, h_6⟩ := h_5
  refine fw_deref hy16 ?_
  refine fw_iconst (v := (0 : Int32)) (show decode _ _ = .ok (.iconst 0, 1) by decide +kernel) (by decide) ?_
  refine fw_callS (mt' := mtJ7_fill_53178) (mc := 0) (ms := 0) (As := [.ref y15, .int (0 : Int32)]) (rest := []) 2 (show decode _ _ = .ok (.invokestatic 140, 3) by decide +kernel) cs_X9_140 rfl (Nat.le_of_ble_eq_true rfl) (s_J7_fill_53178 (d := d) (hd_le hd (by decide)) h_6) (by decide) (by decide) (kV (bc' := 0) (bs' := 0) (by decide) (by decide) (fun M17 h_7 => ?_))
  refine fw_aload_n (i := 0) 0 rfl (show decode _ _ = .ok (.aload_n 0, 1) by decide +kernel) ?_
  obtain ⟨⟨hr19, n18, hs20⟩, h_8⟩ := h_7
  refine fw_getP (kd := 9) (k := 0) (show decode _ _ = .ok (.getfield 9, 3) by decide +kernel) gf_X9_9 hr19 hs20 rfl ?_
  have h_9 := dR_e h_8
  obtain ⟨y21, hy22, h_10⟩ := h_9
  refine fw_deref hy22 ?_
  obtain ⟨⟨hr24, n23, hs25⟩, h_11⟩ := h_10
  refine fw_getP (kd := 5) (k := 7) (show decode _ _ = .ok (.getfield 36, 3) by decide +kernel) gf_X9_36 hr24 hs25 rfl ?_
  have h_12 := dR_e h_11
  obtain ⟨y26, hy27, h_13⟩ := h_12
  refine fw_deref hy27 ?_
  refine fw_iconst (v := (0 : Int32)) (show decode _ _ = .ok (.iconst 0, 1) by decide +kernel) (by decide) ?_
  refine fw_iload_n (i := 1) 1 rfl (show decode _ _ = .ok (.iload_n 1, 1) by decide +kernel) ?_
  obtain ⟨hr31, ⟨n28, hs29, hi30⟩, h_14⟩ := h_13
  refine fw_iast (show decode _ _ = .ok (.iastore, 1) by decide +kernel) hr31 hs29 hi30 ?_
  refine FW.nmM (fun M32 eM33 => ?_)
  have h_15 := h_14 M32 eM33
  refine fw_aload_n (i := 0) 0 rfl (show decode _ _ = .ok (.aload_n 0, 1) by decide +kernel) ?_
  refine fw_getP (kd := 9) (k := 0) (show decode _ _ = .ok (.getfield 9, 3) by decide +kernel) gf_X9_9 hr19 (mSw_I eM33 hs20) rfl ?_
  have h_16 := dR_e h_15
  obtain ⟨y34, hy35, h_17⟩ := h_16
  refine fw_deref hy35 ?_
  obtain ⟨⟨hr37, n36, hs38⟩, h_18⟩ := h_17
  refine fw_getP (kd := 5) (k := 7) (show decode _ _ = .ok (.getfield 36, 3) by decide +kernel) gf_X9_36 hr37 hs38 rfl ?_
  have h_19 := dR_e h_18
  obtain ⟨y39, hy40, h_20⟩ := h_19
  refine fw_deref hy40 ?_
  refine fw_iconst (v := (1 : Int32)) (show decode _ _ = .ok (.iconst 1, 1) by decide +kernel) (by decide) ?_
  refine fw_iload_n (i := 2) 2 rfl (show decode _ _ = .ok (.iload_n 2, 1) by decide +kernel) ?_
  obtain ⟨hr44, ⟨n41, hs42, hi43⟩, h_21⟩ := h_20
  refine fw_iast (show decode _ _ = .ok (.iastore, 1) by decide +kernel) hr44 hs42 hi43 ?_
  refine FW.nmM (fun M45 eM46 => ?_)
  have h_22 := h_21 M45 eM46
  refine fw_aload_n (i := 0) 0 rfl (show decode _ _ = .ok (.aload_n 0, 1) by decide +kernel) ?_
  refine fw_getP (kd := 9) (k := 0) (show decode _ _ = .ok (.getfield 9, 3) by decide +kernel) gf_X9_9 hr19 (mSw_I eM46 (mSw_I eM33 hs20)) rfl ?_
  have h_23 := dR_e h_22
  obtain ⟨y47, hy48, h_24⟩ := h_23
  refine fw_deref hy48 ?_
  obtain ⟨⟨hr50, n49, hs51⟩, h_25⟩ := h_24
  refine fw_getP (kd := 5) (k := 7) (show decode _ _ = .ok (.getfield 36, 3) by decide +kernel) gf_X9_36 hr50 hs51 rfl ?_
  have h_26 := dR_e h_25
  obtain ⟨y52, hy53, h_27⟩ := h_26
  refine fw_deref hy53 ?_
  refine fw_iconst (v := (2 : Int32)) (show decode _ _ = .ok (.iconst 2, 1) by decide +kernel) (by decide) ?_
  refine fw_iload_n (i := 3) 3 rfl (show decode _ _ = .ok (.iload_n 3, 1) by decide +kernel) ?_
  obtain ⟨hr57, ⟨n54, hs55, hi56⟩, h_28⟩ := h_27
  refine fw_iast (show decode _ _ = .ok (.iastore, 1) by decide +kernel) hr57 hs55 hi56 ?_
  refine FW.nmM (fun M58 eM59 => ?_)
  have h_29 := h_28 M58 eM59
  refine fw_aload_n (i := 0) 0 rfl (show decode _ _ = .ok (.aload_n 0, 1) by decide +kernel) ?_
  refine fw_getP (kd := 9) (k := 0) (show decode _ _ = .ok (.getfield 9, 3) by decide +kernel) gf_X9_9 hr19 (mSw_I eM59 (mSw_I eM46 (mSw_I eM33 hs20))) rfl ?_
  have h_30 := dR_e h_29
  obtain ⟨y60, hy61, h_31⟩ := h_30
  refine fw_deref hy61 ?_
  obtain ⟨⟨hr63, n62, hs64⟩, h_32⟩ := h_31
  refine fw_getP (kd := 5) (k := 7) (show decode _ _ = .ok (.getfield 36, 3) by decide +kernel) gf_X9_36 hr63 hs64 rfl ?_
  have h_33 := dR_e h_32
  obtain ⟨y65, hy66, h_34⟩ := h_33
  refine fw_deref hy66 ?_
  refine fw_iconst (v := (4 : Int32)) (show decode _ _ = .ok (.iconst 4, 1) by decide +kernel) (by decide) ?_
  refine fw_aload_n (i := 0) 0 rfl (show decode _ _ = .ok (.aload_n 0, 1) by decide +kernel) ?_
  refine fw_callV (mt' := mtX9_draw) (mc := 0) (ms := 0) (As := []) (rest := [.int (4 : Int32), .ref y65]) 0 9 n18 (show decode _ _ = .ok (.invokevirtual 146, 3) by decide +kernel) cv_X9_146 ⟨_, rfl, rfl⟩ hr19 (mSw_I eM59 (mSw_I eM46 (mSw_I eM33 hs20))) rfl (Nat.le_of_ble_eq_true rfl) (s_X9_draw (d := d) (hd_le hd (by decide)) h_34) (by decide) (by decide) (kI (bc' := 0) (bs' := 0) (by decide) (by decide) (fun x68 M67 h_35 => ?_))
  refine fw_aload_n (i := 0) 0 rfl (show decode _ _ = .ok (.aload_n 0, 1) by decide +kernel) ?_
  obtain ⟨⟨hr70, n69, hs71⟩, h_36⟩ := h_35
  refine fw_getP (kd := 9) (k := 0) (show decode _ _ = .ok (.getfield 9, 3) by decide +kernel) gf_X9_9 hr70 hs71 rfl ?_
  have h_37 := dR_e h_36
  obtain ⟨y72, hy73, h_38⟩ := h_37
  refine fw_deref hy73 ?_
  obtain ⟨⟨hr75, n74, hs76⟩, h_39⟩ := h_38
  refine fw_getP (kd := 5) (k := 3) (show decode _ _ = .ok (.getfield 149, 3) by decide +kernel) gf_X9_149 hr75 hs76 rfl ?_
  have h_40 := dR_e h_39
  obtain ⟨y77, hy78, h_41⟩ := h_40
  refine fw_deref hy78 ?_
  refine fw_iload_n (i := 1) 1 rfl (show decode _ _ = .ok (.iload_n 1, 1) by decide +kernel) ?_
  refine fw_callSN (mt' := mtX10_cell) (mc := 0) (ms := 0) (As := [.ref y77, .int p1]) (rest := [.int x68, .int (4 : Int32), .ref y65]) 2 "OneStepMore" (show decode _ _ = .ok (.invokestatic 96, 3) by decide +kernel) ns_X9_96 rfl (Nat.le_of_ble_eq_true rfl) (s_X10_cell (d := d) (hd_le hd (by decide)) h_41) (by decide) (by decide) (kI (bc' := 0) (bs' := 0) (by decide) (by decide) (fun x80 M79 h_42 => ?_))
  refine fw_icmp_ge 71 (show decode _ _ = .ok (.if_icmp .ge 7, 3) by decide +kernel) (by decide) (fun hc81 => ?_) (fun hc81 => ?_)
  · have h_43 := ipos hc81 h_42
    refine fw_iconst (v := (0 : Int32)) (show decode _ _ = .ok (.iconst 0, 1) by decide +kernel) (by decide) ?_
    refine FW.sub [] (ls' := []) rfl ?_
    exact sj_X9_start_72 hd h_43
  · have h_44 := ineg hc81 h_42
    refine fw_iconst (v := (1 : Int32)) (show decode _ _ = .ok (.iconst 1, 1) by decide +kernel) (by decide) ?_
    refine fw_goto 72 (show decode _ _ = .ok (.goto 4, 3) by decide +kernel) (by decide) ?_
    refine FW.sub [] (ls' := []) rfl ?_
    exact sj_X9_start_72 hd h_44
def w_X9_beginAct (p0 : Nat) (p1 : Int32) (p2 : Int32) (p3 : Int32) (M : fM) (φ : Int32 → fM → Prop) : Prop := isO M p0 9 ∧ dR (mP M p0 0) fun y4 => isO M y4 5 ∧ w_X5_isPerson y4 p1 M fun x10 M6 => iF (x10 = 0) (φ (-1 : Int32) M6) (isO M6 p0 9 ∧ dR (mP M6 p0 0) fun y14 => isO M6 y14 5 ∧ w_X5_houseOf y14 p2 M6 fun o20 M16 => gN o20 (fun y21 => iF (p3 < 0) (φ (-1 : Int32) M16) (iF (p3 < (4 : Int32)) (isO M16 p0 9 ∧ dR (mP M16 p0 0) fun y26 => isO M16 y26 5 ∧ w_X5_remember y26 M16 fun M28 => isO M28 p0 9 ∧ w_X9_start p0 p1 p2 p3 M28 fun M32 => isO M32 p0 9 ∧ dR (mP M32 p0 0) fun y39 => isO M32 y39 5 ∧ dR (mP M32 y39 7) fun y44 => inA M32 y44 12 (4 : Int32) ∧ φ (mI M32 y44 (ix (4 : Int32))) M32) (φ (-1 : Int32) M16))) (φ (-1 : Int32) M16))
set_option maxRecDepth 100000 in
theorem s_X9_beginAct {g : GT} {d : Nat} (hd : 4 ≤ d) {p0 : Nat} {p1 : Int32} {p2 : Int32} {p3 : Int32} {M : fM} {φ : Int32 → fM → Prop} (h : w_X9_beginAct p0 p1 p2 p3 M φ) : FC g mtX9_beginAct d [.ref p0, .int p1, .int p2, .int p3] M 0 0 (rI φ) := by
  obtain ⟨d, rfl⟩ : ∃ e, d = e + 1 := ⟨d - 1, by omega⟩
  unfold w_X9_beginAct at h
  refine FC.intro (nL := 4) (by decide) rfl (Nat.le_of_ble_eq_true rfl) ?_
  show FW g mtX9_beginAct (d + 1) 0 [(0, .ref p0), (1, .int p1), (2, .int p2), (3, .int p3)] [] M 0 0 (rI φ)
  refine fw_aload_n (i := 0) 0 rfl (show decode _ _ = .ok (.aload_n 0, 1) by decide +kernel) ?_
  obtain ⟨⟨hr2, n1, hs3⟩, h_1⟩ := h
  refine fw_getP (kd := 9) (k := 0) (show decode _ _ = .ok (.getfield 9, 3) by decide +kernel) gf_X9_9 hr2 hs3 rfl ?_
  have h_2 := dR_e h_1
  obtain ⟨y4, hy5, h_3⟩ := h_2
  refine fw_deref hy5 ?_
  refine fw_iload_n (i := 1) 1 rfl (show decode _ _ = .ok (.iload_n 1, 1) by decide +kernel) ?_
  obtain ⟨⟨hr8, n7, hs9⟩, h_4⟩ := h_3
  refine fw_callV (mt' := mtX5_isPerson) (mc := 0) (ms := 0) (As := [.int p1]) (rest := []) 1 5 n7 (show decode _ _ = .ok (.invokevirtual 19, 3) by decide +kernel) cv_X9_19 ⟨_, rfl, rfl⟩ hr8 hs9 rfl (Nat.le_of_ble_eq_true rfl) (s_X5_isPerson (d := d) (hd_le hd (by decide)) h_4) (by decide) (by decide) (kI (bc' := 0) (bs' := 0) (by decide) (by decide) (fun x10 M6 h_5 => ?_))
  refine fw_if_eq 31 (show decode _ _ = .ok (.ifCond .eq 23, 3) by decide +kernel) (by decide) (fun hc51 => ?_) (fun hc51 => ?_)
  · have h_6 := ipos hc51 h_5
    refine fw_iconst (v := (-1 : Int32)) (show decode _ _ = .ok (.iconst (-1), 1) by decide +kernel) (by decide) ?_
    exact fw_ret (v := some (.int (-1 : Int32))) .ireturn (show decode _ _ = .ok (.ireturn, 1) by decide +kernel) ⟨rfl, Or.inl rfl⟩ ⟨_, rfl, h_6⟩
  · have h_7 := ineg hc51 h_5
    refine fw_aload_n (i := 0) 0 rfl (show decode _ _ = .ok (.aload_n 0, 1) by decide +kernel) ?_
    obtain ⟨⟨hr12, n11, hs13⟩, h_8⟩ := h_7
    refine fw_getP (kd := 9) (k := 0) (show decode _ _ = .ok (.getfield 9, 3) by decide +kernel) gf_X9_9 hr12 hs13 rfl ?_
    have h_9 := dR_e h_8
    obtain ⟨y14, hy15, h_10⟩ := h_9
    refine fw_deref hy15 ?_
    refine fw_iload_n (i := 2) 2 rfl (show decode _ _ = .ok (.iload_n 2, 1) by decide +kernel) ?_
    obtain ⟨⟨hr18, n17, hs19⟩, h_11⟩ := h_10
    refine fw_callV (mt' := mtX5_houseOf) (mc := 0) (ms := 0) (As := [.int p2]) (rest := []) 1 5 n17 (show decode _ _ = .ok (.invokevirtual 25, 3) by decide +kernel) cv_X9_25 ⟨_, rfl, rfl⟩ hr18 hs19 rfl (Nat.le_of_ble_eq_true rfl) (s_X5_houseOf (d := d) (hd_le hd (by decide)) h_11) (by decide) (by decide) (kP (bc' := 0) (bs' := 0) (by decide) (by decide) (fun o20 M16 h_12 => ?_))
    refine fw_ifnull (x := o20) 31 (show decode _ _ = .ok (.ifnull 12, 3) by decide +kernel) (by decide) (fun hy22 => ?_) (fun y21 hy22 => ?_)
    · have h_13 := gN_n hy22 h_12
      subst hy22
      refine fw_iconst (v := (-1 : Int32)) (show decode _ _ = .ok (.iconst (-1), 1) by decide +kernel) (by decide) ?_
      exact fw_ret (v := some (.int (-1 : Int32))) .ireturn (show decode _ _ = .ok (.ireturn, 1) by decide +kernel) ⟨rfl, Or.inl rfl⟩ ⟨_, rfl, h_13⟩
    · have h_14 := gN_s hy22 h_12
      subst hy22
      refine fw_iload_n (i := 3) 3 rfl (show decode _ _ = .ok (.iload_n 3, 1) by decide +kernel) ?_
      refine fw_if_lt 31 (show decode _ _ = .ok (.ifCond .lt 8, 3) by decide +kernel) (by decide) (fun hc50 => ?_) (fun hc50 => ?_)
      · have h_15 := ipos hc50 h_14
        refine fw_iconst (v := (-1 : Int32)) (show decode _ _ = .ok (.iconst (-1), 1) by decide +kernel) (by decide) ?_
        exact fw_ret (v := some (.int (-1 : Int32))) .ireturn (show decode _ _ = .ok (.ireturn, 1) by decide +kernel) ⟨rfl, Or.inl rfl⟩ ⟨_, rfl, h_15⟩
      · have h_16 := ineg hc50 h_14
        refine fw_iload_n (i := 3) 3 rfl (show decode _ _ = .ok (.iload_n 3, 1) by decide +kernel) ?_
        refine fw_iconst (v := (4 : Int32)) (show decode _ _ = .ok (.iconst 4, 1) by decide +kernel) (by decide) ?_
        refine fw_icmp_lt 33 (show decode _ _ = .ok (.if_icmp .lt 5, 3) by decide +kernel) (by decide) (fun hc49 => ?_) (fun hc49 => ?_)
        · have h_17 := ipos hc49 h_16
          refine fw_aload_n (i := 0) 0 rfl (show decode _ _ = .ok (.aload_n 0, 1) by decide +kernel) ?_
          obtain ⟨⟨hr24, n23, hs25⟩, h_18⟩ := h_17
          refine fw_getP (kd := 9) (k := 0) (show decode _ _ = .ok (.getfield 9, 3) by decide +kernel) gf_X9_9 hr24 hs25 rfl ?_
          have h_19 := dR_e h_18
          obtain ⟨y26, hy27, h_20⟩ := h_19
          refine fw_deref hy27 ?_
          obtain ⟨⟨hr30, n29, hs31⟩, h_21⟩ := h_20
          refine fw_callV (mt' := mtX5_remember) (mc := 0) (ms := 0) (As := []) (rest := []) 0 5 n29 (show decode _ _ = .ok (.invokevirtual 29, 3) by decide +kernel) cv_X9_29 ⟨_, rfl, rfl⟩ hr30 hs31 rfl (Nat.le_of_ble_eq_true rfl) (s_X5_remember (d := d) (hd_le hd (by decide)) h_21) (by decide) (by decide) (kV (bc' := 0) (bs' := 0) (by decide) (by decide) (fun M28 h_22 => ?_))
          refine fw_aload_n (i := 0) 0 rfl (show decode _ _ = .ok (.aload_n 0, 1) by decide +kernel) ?_
          refine fw_iload_n (i := 1) 1 rfl (show decode _ _ = .ok (.iload_n 1, 1) by decide +kernel) ?_
          refine fw_iload_n (i := 2) 2 rfl (show decode _ _ = .ok (.iload_n 2, 1) by decide +kernel) ?_
          refine fw_iload_n (i := 3) 3 rfl (show decode _ _ = .ok (.iload_n 3, 1) by decide +kernel) ?_
          obtain ⟨⟨hr34, n33, hs35⟩, h_23⟩ := h_22
          refine fw_callV (mt' := mtX9_start) (mc := 0) (ms := 0) (As := [.int p1, .int p2, .int p3]) (rest := []) 3 9 n33 (show decode _ _ = .ok (.invokevirtual 32, 3) by decide +kernel) cv_X9_32 ⟨_, rfl, rfl⟩ hr34 hs35 rfl (Nat.le_of_ble_eq_true rfl) (s_X9_start (d := d) (hd_le hd (by decide)) h_23) (by decide) (by decide) (kV (bc' := 0) (bs' := 0) (by decide) (by decide) (fun M32 h_24 => ?_))
          refine fw_aload_n (i := 0) 0 rfl (show decode _ _ = .ok (.aload_n 0, 1) by decide +kernel) ?_
          obtain ⟨⟨hr37, n36, hs38⟩, h_25⟩ := h_24
          refine fw_getP (kd := 9) (k := 0) (show decode _ _ = .ok (.getfield 9, 3) by decide +kernel) gf_X9_9 hr37 hs38 rfl ?_
          have h_26 := dR_e h_25
          obtain ⟨y39, hy40, h_27⟩ := h_26
          refine fw_deref hy40 ?_
          obtain ⟨⟨hr42, n41, hs43⟩, h_28⟩ := h_27
          refine fw_getP (kd := 5) (k := 7) (show decode _ _ = .ok (.getfield 36, 3) by decide +kernel) gf_X9_36 hr42 hs43 rfl ?_
          have h_29 := dR_e h_28
          obtain ⟨y44, hy45, h_30⟩ := h_29
          refine fw_deref hy45 ?_
          refine fw_iconst (v := (4 : Int32)) (show decode _ _ = .ok (.iconst 4, 1) by decide +kernel) (by decide) ?_
          obtain ⟨⟨n46, hs47, hi48⟩, h_31⟩ := h_30
          refine fw_iald (show decode _ _ = .ok (.iaload, 1) by decide +kernel) hs47 hi48 ?_
          exact fw_ret (v := some (.int (mI M32 y44 (ix (4 : Int32))))) .ireturn (show decode _ _ = .ok (.ireturn, 1) by decide +kernel) ⟨rfl, Or.inl rfl⟩ ⟨_, rfl, h_31⟩
        · have h_32 := ineg hc49 h_16
          refine fw_iconst (v := (-1 : Int32)) (show decode _ _ = .ok (.iconst (-1), 1) by decide +kernel) (by decide) ?_
          exact fw_ret (v := some (.int (-1 : Int32))) .ireturn (show decode _ _ = .ok (.ireturn, 1) by decide +kernel) ⟨rfl, Or.inl rfl⟩ ⟨_, rfl, h_32⟩
def w_X10_begin (p0 : Nat) (p1 : Int32) (p2 : Int32) (p3 : Int32) (M : fM) (φ : Int32 → fM → Prop) : Prop := isO M p0 10 ∧ dR (mP M p0 4) fun y4 => isO M y4 9 ∧ w_X9_beginAct y4 p1 p2 p3 M fun x10 M6 => φ x10 M6
set_option maxRecDepth 100000 in
theorem s_X10_begin {g : GT} {d : Nat} (hd : 5 ≤ d) {p0 : Nat} {p1 : Int32} {p2 : Int32} {p3 : Int32} {M : fM} {φ : Int32 → fM → Prop} (h : w_X10_begin p0 p1 p2 p3 M φ) : FC g mtX10_begin d [.ref p0, .int p1, .int p2, .int p3] M 0 0 (rI φ) := by
  obtain ⟨d, rfl⟩ : ∃ e, d = e + 1 := ⟨d - 1, by omega⟩
  unfold w_X10_begin at h
  refine FC.intro (nL := 4) (by decide) rfl (Nat.le_of_ble_eq_true rfl) ?_
  show FW g mtX10_begin (d + 1) 0 [(0, .ref p0), (1, .int p1), (2, .int p2), (3, .int p3)] [] M 0 0 (rI φ)
  refine fw_aload_n (i := 0) 0 rfl (show decode _ _ = .ok (.aload_n 0, 1) by decide +kernel) ?_
  obtain ⟨⟨hr2, n1, hs3⟩, h_1⟩ := h
  refine fw_getP (kd := 10) (k := 4) (show decode _ _ = .ok (.getfield 43, 3) by decide +kernel) gf_X10_43 hr2 hs3 rfl ?_
  have h_2 := dR_e h_1
  obtain ⟨y4, hy5, h_3⟩ := h_2
  refine fw_deref hy5 ?_
  refine fw_iload_n (i := 1) 1 rfl (show decode _ _ = .ok (.iload_n 1, 1) by decide +kernel) ?_
  refine fw_iload_n (i := 2) 2 rfl (show decode _ _ = .ok (.iload_n 2, 1) by decide +kernel) ?_
  refine fw_iload_n (i := 3) 3 rfl (show decode _ _ = .ok (.iload_n 3, 1) by decide +kernel) ?_
  obtain ⟨⟨hr8, n7, hs9⟩, h_4⟩ := h_3
  refine fw_callV (mt' := mtX9_beginAct) (mc := 0) (ms := 0) (As := [.int p1, .int p2, .int p3]) (rest := []) 3 9 n7 (show decode _ _ = .ok (.invokevirtual 134, 3) by decide +kernel) cv_X10_134 ⟨_, rfl, rfl⟩ hr8 hs9 rfl (Nat.le_of_ble_eq_true rfl) (s_X9_beginAct (d := d) (hd_le hd (by decide)) h_4) (by decide) (by decide) (kI (bc' := 0) (bs' := 0) (by decide) (by decide) (fun x10 M6 h_5 => ?_))
  exact fw_ret (v := some (.int x10)) .ireturn (show decode _ _ = .ok (.ireturn, 1) by decide +kernel) ⟨rfl, Or.inl rfl⟩ ⟨_, rfl, h_5⟩
def w_X10_between (p0 : Int32) (p1 : Int32) (p2 : Int32) (M : fM) (φ : Int32 → fM → Prop) : Prop := φ (imax p0 (imin p1 p2)) M
set_option maxRecDepth 100000 in
theorem s_X10_between {g : GT} {d : Nat} (hd : 1 ≤ d) {p0 : Int32} {p1 : Int32} {p2 : Int32} {M : fM} {φ : Int32 → fM → Prop} (h : w_X10_between p0 p1 p2 M φ) : FC g mtX10_between d [.int p0, .int p1, .int p2] M 0 0 (rI φ) := by
  obtain ⟨d, rfl⟩ : ∃ e, d = e + 1 := ⟨d - 1, by omega⟩
  unfold w_X10_between at h
  refine FC.intro (nL := 3) (by decide) rfl (Nat.le_of_ble_eq_true rfl) ?_
  show FW g mtX10_between (d + 1) 0 [(0, .int p0), (1, .int p1), (2, .int p2)] [] M 0 0 (rI φ)
  refine fw_iload_n (i := 0) 0 rfl (show decode _ _ = .ok (.iload_n 0, 1) by decide +kernel) ?_
  refine fw_iload_n (i := 1) 1 rfl (show decode _ _ = .ok (.iload_n 1, 1) by decide +kernel) ?_
  refine fw_iload_n (i := 2) 2 rfl (show decode _ _ = .ok (.iload_n 2, 1) by decide +kernel) ?_
  refine fw_mmin (idx := 288) (rest := [.int p0]) (show decode _ _ = .ok (.invokestatic 288, 3) by decide +kernel) ⟨wd922, wd641, wd142, wd642⟩ (Nat.le_of_ble_eq_true rfl) ?_
  refine fw_mmax (idx := 299) (rest := []) (show decode _ _ = .ok (.invokestatic 299, 3) by decide +kernel) ⟨wd923, wd924, wd142, wd925⟩ (Nat.le_of_ble_eq_true rfl) ?_
  exact fw_ret (v := some (.int (imax p0 (imin p1 p2)))) .ireturn (show decode _ _ = .ok (.ireturn, 1) by decide +kernel) ⟨rfl, Or.inl rfl⟩ ⟨_, rfl, h⟩
def w_X5_lines (p0 : Nat) (M : fM) (φ : Int32 → fM → Prop) : Prop := isO M p0 5 ∧ φ (imin (40 : Int32) (mI M p0 9)) M
set_option maxRecDepth 100000 in
theorem s_X5_lines {g : GT} {d : Nat} (hd : 1 ≤ d) {p0 : Nat} {M : fM} {φ : Int32 → fM → Prop} (h : w_X5_lines p0 M φ) : FC g mtX5_lines d [.ref p0] M 0 0 (rI φ) := by
  obtain ⟨d, rfl⟩ : ∃ e, d = e + 1 := ⟨d - 1, by omega⟩
  unfold w_X5_lines at h
  refine FC.intro (nL := 1) (by decide) rfl (Nat.le_of_ble_eq_true rfl) ?_
  show FW g mtX5_lines (d + 1) 0 [(0, .ref p0)] [] M 0 0 (rI φ)
  refine fw_bipush (v := (40 : Int32)) (show decode _ _ = .ok (.bipush 40, 2) by decide +kernel) (by decide) ?_
  refine fw_aload_n (i := 0) 0 rfl (show decode _ _ = .ok (.aload_n 0, 1) by decide +kernel) ?_
  obtain ⟨⟨hr2, n1, hs3⟩, h_1⟩ := h
  refine fw_getI (kd := 5) (k := 9) (show decode _ _ = .ok (.getfield 112, 3) by decide +kernel) gf_X5_112 hr2 hs3 (Or.inl rfl) ?_
  refine fw_mmin (idx := 118) (rest := []) (show decode _ _ = .ok (.invokestatic 118, 3) by decide +kernel) ⟨wd862, wd641, wd142, wd642⟩ (Nat.le_of_ble_eq_true rfl) ?_
  exact fw_ret (v := some (.int (imin (40 : Int32) (mI M p0 9)))) .ireturn (show decode _ _ = .ok (.ireturn, 1) by decide +kernel) ⟨rfl, Or.inl rfl⟩ ⟨_, rfl, h_1⟩
def w_X5_lineOf (p0 : Nat) (p1 : Int32) (p2 : Int32) (M : fM) (φ : Int32 → fM → Prop) : Prop := iF (p1 < 0) (φ (-2 : Int32) M) (isO M p0 5 ∧ w_X5_lines p0 M fun x5 M1 => iF (x5 ≤ p1) (φ (-2 : Int32) M1) (iF (p2 < 0) (φ (-2 : Int32) M1) (iF (p2 < (8 : Int32)) (isO M1 p0 5 ∧ dR (mP M1 p0 8) fun y9 => w_X5_lines p0 M1 fun x12 M11 => w_X10_cell y9 ((((((mI M1 p0 9) - x12) + p1) % (256 : Int32)) * (8 : Int32)) + p2) M11 fun x14 M13 => φ x14 M13) (φ (-2 : Int32) M1))))
set_option maxRecDepth 100000 in
theorem s_X5_lineOf {g : GT} {d : Nat} (hd : 2 ≤ d) {p0 : Nat} {p1 : Int32} {p2 : Int32} {M : fM} {φ : Int32 → fM → Prop} (h : w_X5_lineOf p0 p1 p2 M φ) : FC g mtX5_lineOf d [.ref p0, .int p1, .int p2] M 0 0 (rI φ) := by
  obtain ⟨d, rfl⟩ : ∃ e, d = e + 1 := ⟨d - 1, by omega⟩
  unfold w_X5_lineOf at h
  refine FC.intro (nL := 3) (by decide) rfl (Nat.le_of_ble_eq_true rfl) ?_
  show FW g mtX5_lineOf (d + 1) 0 [(0, .ref p0), (1, .int p1), (2, .int p2)] [] M 0 0 (rI φ)
  refine fw_iload_n (i := 1) 1 rfl (show decode _ _ = .ok (.iload_n 1, 1) by decide +kernel) ?_
  refine fw_if_lt 22 (show decode _ _ = .ok (.ifCond .lt 21, 3) by decide +kernel) (by decide) (fun hc18 => ?_) (fun hc18 => ?_)
  · have h_1 := ipos hc18 h
    refine fw_bipush (v := (-2 : Int32)) (show decode _ _ = .ok (.bipush (-2), 2) by decide +kernel) (by decide) ?_
    exact fw_ret (v := some (.int (-2 : Int32))) .ireturn (show decode _ _ = .ok (.ireturn, 1) by decide +kernel) ⟨rfl, Or.inl rfl⟩ ⟨_, rfl, h_1⟩
  · have h_2 := ineg hc18 h
    refine fw_iload_n (i := 1) 1 rfl (show decode _ _ = .ok (.iload_n 1, 1) by decide +kernel) ?_
    refine fw_aload_n (i := 0) 0 rfl (show decode _ _ = .ok (.aload_n 0, 1) by decide +kernel) ?_
    obtain ⟨⟨hr3, n2, hs4⟩, h_3⟩ := h_2
    refine fw_callV (mt' := mtX5_lines) (mc := 0) (ms := 0) (As := []) (rest := [.int p1]) 0 5 n2 (show decode _ _ = .ok (.invokevirtual 127, 3) by decide +kernel) cv_X5_127 ⟨_, rfl, rfl⟩ hr3 hs4 rfl (Nat.le_of_ble_eq_true rfl) (s_X5_lines (d := d) (hd_le hd (by decide)) h_3) (by decide) (by decide) (kI (bc' := 0) (bs' := 0) (by decide) (by decide) (fun x5 M1 h_4 => ?_))
    refine fw_icmp_ge 22 (show decode _ _ = .ok (.if_icmp .ge 13, 3) by decide +kernel) (by decide) (fun hc17 => ?_) (fun hc17 => ?_)
    · have h_5 := ipos hc17 h_4
      refine fw_bipush (v := (-2 : Int32)) (show decode _ _ = .ok (.bipush (-2), 2) by decide +kernel) (by decide) ?_
      exact fw_ret (v := some (.int (-2 : Int32))) .ireturn (show decode _ _ = .ok (.ireturn, 1) by decide +kernel) ⟨rfl, Or.inl rfl⟩ ⟨_, rfl, h_5⟩
    · have h_6 := ineg hc17 h_4
      refine fw_iload_n (i := 2) 2 rfl (show decode _ _ = .ok (.iload_n 2, 1) by decide +kernel) ?_
      refine fw_if_lt 22 (show decode _ _ = .ok (.ifCond .lt 9, 3) by decide +kernel) (by decide) (fun hc16 => ?_) (fun hc16 => ?_)
      · have h_7 := ipos hc16 h_6
        refine fw_bipush (v := (-2 : Int32)) (show decode _ _ = .ok (.bipush (-2), 2) by decide +kernel) (by decide) ?_
        exact fw_ret (v := some (.int (-2 : Int32))) .ireturn (show decode _ _ = .ok (.ireturn, 1) by decide +kernel) ⟨rfl, Or.inl rfl⟩ ⟨_, rfl, h_7⟩
      · have h_8 := ineg hc16 h_6
        refine fw_iload_n (i := 2) 2 rfl (show decode _ _ = .ok (.iload_n 2, 1) by decide +kernel) ?_
        refine fw_bipush (v := (8 : Int32)) (show decode _ _ = .ok (.bipush 8, 2) by decide +kernel) (by decide) ?_
        refine fw_icmp_lt 25 (show decode _ _ = .ok (.if_icmp .lt 6, 3) by decide +kernel) (by decide) (fun hc15 => ?_) (fun hc15 => ?_)
        · have h_9 := ipos hc15 h_8
          refine fw_aload_n (i := 0) 0 rfl (show decode _ _ = .ok (.aload_n 0, 1) by decide +kernel) ?_
          obtain ⟨⟨hr7, n6, hs8⟩, h_10⟩ := h_9
          refine fw_getP (kd := 5) (k := 8) (show decode _ _ = .ok (.getfield 34, 3) by decide +kernel) gf_X5_34 hr7 hs8 rfl ?_
          have h_11 := dR_e h_10
          obtain ⟨y9, hy10, h_12⟩ := h_11
          refine fw_deref hy10 ?_
          refine fw_aload_n (i := 0) 0 rfl (show decode _ _ = .ok (.aload_n 0, 1) by decide +kernel) ?_
          refine fw_getI (kd := 5) (k := 9) (show decode _ _ = .ok (.getfield 112, 3) by decide +kernel) gf_X5_112 hr7 hs8 (Or.inl rfl) ?_
          refine fw_aload_n (i := 0) 0 rfl (show decode _ _ = .ok (.aload_n 0, 1) by decide +kernel) ?_
          refine fw_callV (mt' := mtX5_lines) (mc := 0) (ms := 0) (As := []) (rest := [.int (mI M1 p0 9), .ref y9]) 0 5 n6 (show decode _ _ = .ok (.invokevirtual 127, 3) by decide +kernel) cv_X5_127 ⟨_, rfl, rfl⟩ hr7 hs8 rfl (Nat.le_of_ble_eq_true rfl) (s_X5_lines (d := d) (hd_le hd (by decide)) h_12) (by decide) (by decide) (kI (bc' := 0) (bs' := 0) (by decide) (by decide) (fun x12 M11 h_13 => ?_))
          refine fw_isub (show decode _ _ = .ok (.isub, 1) by decide +kernel) ?_
          refine fw_iload_n (i := 1) 1 rfl (show decode _ _ = .ok (.iload_n 1, 1) by decide +kernel) ?_
          refine fw_iadd (show decode _ _ = .ok (.iadd, 1) by decide +kernel) ?_
          refine fw_sipush (v := (256 : Int32)) (show decode _ _ = .ok (.sipush 256, 3) by decide +kernel) (by decide) ?_
          refine fw_irem (show decode _ _ = .ok (.irem, 1) by decide +kernel) (by decide) ?_
          refine fw_bipush (v := (8 : Int32)) (show decode _ _ = .ok (.bipush 8, 2) by decide +kernel) (by decide) ?_
          refine fw_imul (show decode _ _ = .ok (.imul, 1) by decide +kernel) ?_
          refine fw_iload_n (i := 2) 2 rfl (show decode _ _ = .ok (.iload_n 2, 1) by decide +kernel) ?_
          refine fw_iadd (show decode _ _ = .ok (.iadd, 1) by decide +kernel) ?_
          refine fw_callSN (mt' := mtX10_cell) (mc := 0) (ms := 0) (As := [.ref y9, .int ((((((mI M1 p0 9) - x12) + p1) % (256 : Int32)) * (8 : Int32)) + p2)]) (rest := []) 2 "OneStepMore" (show decode _ _ = .ok (.invokestatic 102, 3) by decide +kernel) ns_X5_102 rfl (Nat.le_of_ble_eq_true rfl) (s_X10_cell (d := d) (hd_le hd (by decide)) h_13) (by decide) (by decide) (kI (bc' := 0) (bs' := 0) (by decide) (by decide) (fun x14 M13 h_14 => ?_))
          exact fw_ret (v := some (.int x14)) .ireturn (show decode _ _ = .ok (.ireturn, 1) by decide +kernel) ⟨rfl, Or.inl rfl⟩ ⟨_, rfl, h_14⟩
        · have h_15 := ineg hc15 h_8
          refine fw_bipush (v := (-2 : Int32)) (show decode _ _ = .ok (.bipush (-2), 2) by decide +kernel) (by decide) ?_
          exact fw_ret (v := some (.int (-2 : Int32))) .ireturn (show decode _ _ = .ok (.ireturn, 1) by decide +kernel) ⟨rfl, Or.inl rfl⟩ ⟨_, rfl, h_15⟩
def w_X10_book (p0 : Nat) (p1 : Int32) (p2 : Int32) (M : fM) (φ : Int32 → fM → Prop) : Prop := iF (p1 = (-1 : Int32)) (isO M p0 10 ∧ dR (mP M p0 0) fun y14 => isO M y14 5 ∧ w_X5_lines y14 M fun x20 M16 => φ x20 M16) (isO M p0 10 ∧ dR (mP M p0 0) fun y4 => isO M y4 5 ∧ w_X5_lineOf y4 p1 p2 M fun x10 M6 => φ x10 M6)
set_option maxRecDepth 100000 in
theorem s_X10_book {g : GT} {d : Nat} (hd : 3 ≤ d) {p0 : Nat} {p1 : Int32} {p2 : Int32} {M : fM} {φ : Int32 → fM → Prop} (h : w_X10_book p0 p1 p2 M φ) : FC g mtX10_book d [.ref p0, .int p1, .int p2] M 0 0 (rI φ) := by
  obtain ⟨d, rfl⟩ : ∃ e, d = e + 1 := ⟨d - 1, by omega⟩
  unfold w_X10_book at h
  refine FC.intro (nL := 3) (by decide) rfl (Nat.le_of_ble_eq_true rfl) ?_
  show FW g mtX10_book (d + 1) 0 [(0, .ref p0), (1, .int p1), (2, .int p2)] [] M 0 0 (rI φ)
  refine fw_iload_n (i := 1) 1 rfl (show decode _ _ = .ok (.iload_n 1, 1) by decide +kernel) ?_
  refine fw_iconst (v := (-1 : Int32)) (show decode _ _ = .ok (.iconst (-1), 1) by decide +kernel) (by decide) ?_
  refine fw_icmp_ne 15 (show decode _ _ = .ok (.if_icmp .ne 13, 3) by decide +kernel) (by decide) (fun hc21 => ?_) (fun hc21 => ?_)
  · have h_1 := ineg hc21 h
    refine fw_aload_n (i := 0) 0 rfl (show decode _ _ = .ok (.aload_n 0, 1) by decide +kernel) ?_
    obtain ⟨⟨hr2, n1, hs3⟩, h_2⟩ := h_1
    refine fw_getP (kd := 10) (k := 0) (show decode _ _ = .ok (.getfield 13, 3) by decide +kernel) gf_X10_13 hr2 hs3 rfl ?_
    have h_3 := dR_e h_2
    obtain ⟨y4, hy5, h_4⟩ := h_3
    refine fw_deref hy5 ?_
    refine fw_iload_n (i := 1) 1 rfl (show decode _ _ = .ok (.iload_n 1, 1) by decide +kernel) ?_
    refine fw_iload_n (i := 2) 2 rfl (show decode _ _ = .ok (.iload_n 2, 1) by decide +kernel) ?_
    obtain ⟨⟨hr8, n7, hs9⟩, h_5⟩ := h_4
    refine fw_callV (mt' := mtX5_lineOf) (mc := 0) (ms := 0) (As := [.int p1, .int p2]) (rest := []) 2 5 n7 (show decode _ _ = .ok (.invokevirtual 200, 3) by decide +kernel) cv_X10_200 ⟨_, rfl, rfl⟩ hr8 hs9 rfl (Nat.le_of_ble_eq_true rfl) (s_X5_lineOf (d := d) (hd_le hd (by decide)) h_5) (by decide) (by decide) (kI (bc' := 0) (bs' := 0) (by decide) (by decide) (fun x10 M6 h_6 => ?_))
    exact fw_ret (v := some (.int x10)) .ireturn (show decode _ _ = .ok (.ireturn, 1) by decide +kernel) ⟨rfl, Or.inl rfl⟩ ⟨_, rfl, h_6⟩
  · have h_7 := ipos hc21 h
    refine fw_aload_n (i := 0) 0 rfl (show decode _ _ = .ok (.aload_n 0, 1) by decide +kernel) ?_
    obtain ⟨⟨hr12, n11, hs13⟩, h_8⟩ := h_7
    refine fw_getP (kd := 10) (k := 0) (show decode _ _ = .ok (.getfield 13, 3) by decide +kernel) gf_X10_13 hr12 hs13 rfl ?_
    have h_9 := dR_e h_8
    obtain ⟨y14, hy15, h_10⟩ := h_9
    refine fw_deref hy15 ?_
    obtain ⟨⟨hr18, n17, hs19⟩, h_11⟩ := h_10
    refine fw_callV (mt' := mtX5_lines) (mc := 0) (ms := 0) (As := []) (rest := []) 0 5 n17 (show decode _ _ = .ok (.invokevirtual 197, 3) by decide +kernel) cv_X10_197 ⟨_, rfl, rfl⟩ hr18 hs19 rfl (Nat.le_of_ble_eq_true rfl) (s_X5_lines (d := d) (hd_le hd (by decide)) h_11) (by decide) (by decide) (kI (bc' := 0) (bs' := 0) (by decide) (by decide) (fun x20 M16 h_12 => ?_))
    refine fw_goto 24 (show decode _ _ = .ok (.goto 12, 3) by decide +kernel) (by decide) ?_
    exact fw_ret (v := some (.int x20)) .ireturn (show decode _ _ = .ok (.ireturn, 1) by decide +kernel) ⟨rfl, Or.inl rfl⟩ ⟨_, rfl, h_12⟩
def j_X10_by_18 (φ : Int32 → fM → Prop) (p0 : Nat) (p1 : Int32) (M : fM) : Prop := isO M p0 10 ∧ dR (mP M p0 0) fun y4 => isO M y4 5 ∧ st (wI M y4 15 p1) fun M9 => φ (1 : Int32) M9
set_option maxRecDepth 100000 in
theorem sj_X10_by_18 {g : GT} {d : Nat} (hd : 2 ≤ d + 1) {φ : Int32 → fM → Prop} {p0 : Nat} {p1 : Int32} {M : fM} (h : j_X10_by_18 φ p0 p1 M) : FW g mtX10_by (d + 1) 18 [(0, .ref p0), (1, .int p1)] [] M 0 0 (rI φ) := by
  unfold j_X10_by_18 at h
  refine fw_aload_n (i := 0) 0 rfl (show decode _ _ = .ok (.aload_n 0, 1) by decide +kernel) ?_
  obtain ⟨⟨hr2, n1, hs3⟩, h_1⟩ := h
  refine fw_getP (kd := 10) (k := 0) (show decode _ _ = .ok (.getfield 13, 3) by decide +kernel) gf_X10_13 hr2 hs3 rfl ?_
  have h_2 := dR_e h_1
  obtain ⟨y4, hy5, h_3⟩ := h_2
  refine fw_deref hy5 ?_
  refine fw_iload_n (i := 1) 1 rfl (show decode _ _ = .ok (.iload_n 1, 1) by decide +kernel) ?_
  obtain ⟨⟨hr7, n6, hs8⟩, h_4⟩ := h_3
  refine fw_putI (kd := 5) (k := 15) (show decode _ _ = .ok (.putfield 131, 3) by decide +kernel) ⟨gf_X10_131, _, rfl, Or.inl rfl⟩ hr7 hs8 rfl ?_
  refine FW.nmM (fun M9 eM10 => ?_)
  have h_5 := h_4 M9 eM10
  refine fw_iconst (v := (1 : Int32)) (show decode _ _ = .ok (.iconst 1, 1) by decide +kernel) (by decide) ?_
  exact fw_ret (v := some (.int (1 : Int32))) .ireturn (show decode _ _ = .ok (.ireturn, 1) by decide +kernel) ⟨rfl, Or.inr (Or.inl ⟨rfl, rfl⟩)⟩ ⟨_, rfl, h_5⟩
def w_X10_by (p0 : Nat) (p1 : Int32) (M : fM) (φ : Int32 → fM → Prop) : Prop := iF (p1 = (-1 : Int32)) (j_X10_by_18 φ p0 p1 M) (isO M p0 10 ∧ dR (mP M p0 0) fun y14 => isO M y14 5 ∧ w_X5_textOf y14 p1 M fun o20 M16 => gN o20 (fun y21 => j_X10_by_18 φ p0 p1 M16) (φ (0 : Int32) M16))
set_option maxRecDepth 100000 in
theorem s_X10_by {g : GT} {d : Nat} (hd : 2 ≤ d) {p0 : Nat} {p1 : Int32} {M : fM} {φ : Int32 → fM → Prop} (h : w_X10_by p0 p1 M φ) : FC g mtX10_by d [.ref p0, .int p1] M 0 0 (rI φ) := by
  obtain ⟨d, rfl⟩ : ∃ e, d = e + 1 := ⟨d - 1, by omega⟩
  unfold w_X10_by at h
  refine FC.intro (nL := 2) (by decide) rfl (Nat.le_of_ble_eq_true rfl) ?_
  show FW g mtX10_by (d + 1) 0 [(0, .ref p0), (1, .int p1)] [] M 0 0 (rI φ)
  refine fw_iload_n (i := 1) 1 rfl (show decode _ _ = .ok (.iload_n 1, 1) by decide +kernel) ?_
  refine fw_iconst (v := (-1 : Int32)) (show decode _ _ = .ok (.iconst (-1), 1) by decide +kernel) (by decide) ?_
  refine fw_icmp_eq 18 (show decode _ _ = .ok (.if_icmp .eq 16, 3) by decide +kernel) (by decide) (fun hc23 => ?_) (fun hc23 => ?_)
  · have h_1 := ipos hc23 h
    refine FW.sub [0, 1] (ls' := [(0, .ref p0), (1, .int p1)]) rfl ?_
    exact sj_X10_by_18 hd h_1
  · have h_2 := ineg hc23 h
    refine fw_aload_n (i := 0) 0 rfl (show decode _ _ = .ok (.aload_n 0, 1) by decide +kernel) ?_
    obtain ⟨⟨hr12, n11, hs13⟩, h_3⟩ := h_2
    refine fw_getP (kd := 10) (k := 0) (show decode _ _ = .ok (.getfield 13, 3) by decide +kernel) gf_X10_13 hr12 hs13 rfl ?_
    have h_4 := dR_e h_3
    obtain ⟨y14, hy15, h_5⟩ := h_4
    refine fw_deref hy15 ?_
    refine fw_iload_n (i := 1) 1 rfl (show decode _ _ = .ok (.iload_n 1, 1) by decide +kernel) ?_
    obtain ⟨⟨hr18, n17, hs19⟩, h_6⟩ := h_5
    refine fw_callV (mt' := mtX5_textOf) (mc := 0) (ms := 0) (As := [.int p1]) (rest := []) 1 5 n17 (show decode _ _ = .ok (.invokevirtual 127, 3) by decide +kernel) cv_X10_127 ⟨_, rfl, rfl⟩ hr18 hs19 rfl (Nat.le_of_ble_eq_true rfl) (s_X5_textOf (d := d) (hd_le hd (by decide)) h_6) (by decide) (by decide) (kP (bc' := 0) (bs' := 0) (by decide) (by decide) (fun o20 M16 h_7 => ?_))
    refine fw_ifnonnull (x := o20) 18 (show decode _ _ = .ok (.ifnonnull 5, 3) by decide +kernel) (by decide) (fun y21 hy22 => ?_) (fun hy22 => ?_)
    · have h_8 := gN_s hy22 h_7
      subst hy22
      refine FW.sub [0, 1] (ls' := [(0, .ref p0), (1, .int p1)]) rfl ?_
      exact sj_X10_by_18 hd h_8
    · have h_9 := gN_n hy22 h_7
      subst hy22
      refine fw_iconst (v := (0 : Int32)) (show decode _ _ = .ok (.iconst 0, 1) by decide +kernel) (by decide) ?_
      exact fw_ret (v := some (.int (0 : Int32))) .ireturn (show decode _ _ = .ok (.ireturn, 1) by decide +kernel) ⟨rfl, Or.inr (Or.inl ⟨rfl, rfl⟩)⟩ ⟨_, rfl, h_9⟩
def w_X1_fallNow (p0 : Nat) (M : fM) (φ : Int32 → fM → Prop) : Prop := isO M p0 1 ∧ w_X1_rules p0 (4 : Int32) M fun x5 M1 => iF (x5 = 0) (φ (9 : Int32) M1) (isO M1 p0 1 ∧ w_X1_worked p0 (4 : Int32) M1 fun x10 M6 => w_X10_between (0 : Int32) (99 : Int32) x10 M6 fun x12 M11 => φ x12 M11)
set_option maxRecDepth 100000 in
theorem s_X1_fallNow {g : GT} {d : Nat} (hd : 3 ≤ d) {p0 : Nat} {M : fM} {φ : Int32 → fM → Prop} (h : w_X1_fallNow p0 M φ) : FC g mtX1_fallNow d [.ref p0] M 0 0 (rI φ) := by
  obtain ⟨d, rfl⟩ : ∃ e, d = e + 1 := ⟨d - 1, by omega⟩
  unfold w_X1_fallNow at h
  refine FC.intro (nL := 1) (by decide) rfl (Nat.le_of_ble_eq_true rfl) ?_
  show FW g mtX1_fallNow (d + 1) 0 [(0, .ref p0)] [] M 0 0 (rI φ)
  refine fw_aload_n (i := 0) 0 rfl (show decode _ _ = .ok (.aload_n 0, 1) by decide +kernel) ?_
  refine fw_iconst (v := (4 : Int32)) (show decode _ _ = .ok (.iconst 4, 1) by decide +kernel) (by decide) ?_
  obtain ⟨⟨hr3, n2, hs4⟩, h_1⟩ := h
  refine fw_callV (mt' := mtX1_rules) (mc := 0) (ms := 0) (As := [.int (4 : Int32)]) (rest := []) 1 1 n2 (show decode _ _ = .ok (.invokevirtual 60, 3) by decide +kernel) cv_X1_60 ⟨_, rfl, rfl⟩ hr3 hs4 rfl (Nat.le_of_ble_eq_true rfl) (s_X1_rules (d := d) (hd_le hd (by decide)) h_1) (by decide) (by decide) (kI (bc' := 0) (bs' := 0) (by decide) (by decide) (fun x5 M1 h_2 => ?_))
  refine fw_if_eq 22 (show decode _ _ = .ok (.ifCond .eq 17, 3) by decide +kernel) (by decide) (fun hc13 => ?_) (fun hc13 => ?_)
  · have h_3 := ipos hc13 h_2
    refine fw_bipush (v := (9 : Int32)) (show decode _ _ = .ok (.bipush 9, 2) by decide +kernel) (by decide) ?_
    exact fw_ret (v := some (.int (9 : Int32))) .ireturn (show decode _ _ = .ok (.ireturn, 1) by decide +kernel) ⟨rfl, Or.inl rfl⟩ ⟨_, rfl, h_3⟩
  · have h_4 := ineg hc13 h_2
    refine fw_iconst (v := (0 : Int32)) (show decode _ _ = .ok (.iconst 0, 1) by decide +kernel) (by decide) ?_
    refine fw_bipush (v := (99 : Int32)) (show decode _ _ = .ok (.bipush 99, 2) by decide +kernel) (by decide) ?_
    refine fw_aload_n (i := 0) 0 rfl (show decode _ _ = .ok (.aload_n 0, 1) by decide +kernel) ?_
    refine fw_iconst (v := (4 : Int32)) (show decode _ _ = .ok (.iconst 4, 1) by decide +kernel) (by decide) ?_
    obtain ⟨⟨hr8, n7, hs9⟩, h_5⟩ := h_4
    refine fw_callV (mt' := mtX1_worked) (mc := 0) (ms := 0) (As := [.int (4 : Int32)]) (rest := [.int (99 : Int32), .int (0 : Int32)]) 1 1 n7 (show decode _ _ = .ok (.invokevirtual 64, 3) by decide +kernel) cv_X1_64 ⟨_, rfl, rfl⟩ hr8 hs9 rfl (Nat.le_of_ble_eq_true rfl) (s_X1_worked (d := d) (hd_le hd (by decide)) h_5) (by decide) (by decide) (kI (bc' := 0) (bs' := 0) (by decide) (by decide) (fun x10 M6 h_6 => ?_))
    refine fw_callSN (mt' := mtX10_between) (mc := 0) (ms := 0) (As := [.int (0 : Int32), .int (99 : Int32), .int x10]) (rest := []) 3 "OneStepMore" (show decode _ _ = .ok (.invokestatic 67, 3) by decide +kernel) ns_X1_67 rfl (Nat.le_of_ble_eq_true rfl) (s_X10_between (d := d) (hd_le hd (by decide)) h_6) (by decide) (by decide) (kI (bc' := 0) (bs' := 0) (by decide) (by decide) (fun x12 M11 h_7 => ?_))
    refine fw_goto 24 (show decode _ _ = .ok (.goto 5, 3) by decide +kernel) (by decide) ?_
    exact fw_ret (v := some (.int x12)) .ireturn (show decode _ _ = .ok (.ireturn, 1) by decide +kernel) ⟨rfl, Or.inl rfl⟩ ⟨_, rfl, h_7⟩
def j_X1_noneNow_23 (φ : Int32 → fM → Prop) (s0 : Int32) (s1 : Int32) (s2 : Int32) (M : fM) : Prop := w_X10_between s2 s1 s0 M fun x2 M1 => φ x2 M1
set_option maxRecDepth 100000 in
theorem sj_X1_noneNow_23 {g : GT} {d : Nat} (hd : 3 ≤ d + 1) {φ : Int32 → fM → Prop} {s0 : Int32} {s1 : Int32} {s2 : Int32} {M : fM} (h : j_X1_noneNow_23 φ s0 s1 s2 M) : FW g mtX1_noneNow (d + 1) 23 [] [.int s0, .int s1, .int s2] M 0 0 (rI φ) := by
  unfold j_X1_noneNow_23 at h
  refine fw_callSN (mt' := mtX10_between) (mc := 0) (ms := 0) (As := [.int s2, .int s1, .int s0]) (rest := []) 3 "OneStepMore" (show decode _ _ = .ok (.invokestatic 67, 3) by decide +kernel) ns_X1_67 rfl (Nat.le_of_ble_eq_true rfl) (s_X10_between (d := d) (hd_le hd (by decide)) h) (by decide) (by decide) (kI (bc' := 0) (bs' := 0) (by decide) (by decide) (fun x2 M1 h_1 => ?_))
  exact fw_ret (v := some (.int x2)) .ireturn (show decode _ _ = .ok (.ireturn, 1) by decide +kernel) ⟨rfl, Or.inl rfl⟩ ⟨_, rfl, h_1⟩
def w_X1_noneNow (p0 : Nat) (M : fM) (φ : Int32 → fM → Prop) : Prop := isO M p0 1 ∧ w_X1_rules p0 (0 : Int32) M fun x7 M3 => iF (x7 = 0) (isO M3 p0 1 ∧ j_X1_noneNow_23 φ (mI M3 p0 3) (10 : Int32) (0 : Int32) M3) (isO M3 p0 1 ∧ w_X1_worked p0 (0 : Int32) M3 fun x15 M11 => j_X1_noneNow_23 φ x15 (10 : Int32) (0 : Int32) M11)
set_option maxRecDepth 100000 in
theorem s_X1_noneNow {g : GT} {d : Nat} (hd : 3 ≤ d) {p0 : Nat} {M : fM} {φ : Int32 → fM → Prop} (h : w_X1_noneNow p0 M φ) : FC g mtX1_noneNow d [.ref p0] M 0 0 (rI φ) := by
  obtain ⟨d, rfl⟩ : ∃ e, d = e + 1 := ⟨d - 1, by omega⟩
  unfold w_X1_noneNow at h
  refine FC.intro (nL := 1) (by decide) rfl (Nat.le_of_ble_eq_true rfl) ?_
  show FW g mtX1_noneNow (d + 1) 0 [(0, .ref p0)] [] M 0 0 (rI φ)
  refine fw_iconst (v := (0 : Int32)) (show decode _ _ = .ok (.iconst 0, 1) by decide +kernel) (by decide) ?_
  refine fw_bipush (v := (10 : Int32)) (show decode _ _ = .ok (.bipush 10, 2) by decide +kernel) (by decide) ?_
  refine fw_aload_n (i := 0) 0 rfl (show decode _ _ = .ok (.aload_n 0, 1) by decide +kernel) ?_
  refine fw_iconst (v := (0 : Int32)) (show decode _ _ = .ok (.iconst 0, 1) by decide +kernel) (by decide) ?_
  obtain ⟨⟨hr5, n4, hs6⟩, h_1⟩ := h
  refine fw_callV (mt' := mtX1_rules) (mc := 0) (ms := 0) (As := [.int (0 : Int32)]) (rest := [.int (10 : Int32), .int (0 : Int32)]) 1 1 n4 (show decode _ _ = .ok (.invokevirtual 60, 3) by decide +kernel) cv_X1_60 ⟨_, rfl, rfl⟩ hr5 hs6 rfl (Nat.le_of_ble_eq_true rfl) (s_X1_rules (d := d) (hd_le hd (by decide)) h_1) (by decide) (by decide) (kI (bc' := 0) (bs' := 0) (by decide) (by decide) (fun x7 M3 h_2 => ?_))
  refine fw_if_eq 19 (show decode _ _ = .ok (.ifCond .eq 11, 3) by decide +kernel) (by decide) (fun hc16 => ?_) (fun hc16 => ?_)
  · have h_3 := ipos hc16 h_2
    refine fw_aload_n (i := 0) 0 rfl (show decode _ _ = .ok (.aload_n 0, 1) by decide +kernel) ?_
    obtain ⟨⟨hr9, n8, hs10⟩, h_4⟩ := h_3
    refine fw_getI (kd := 1) (k := 3) (show decode _ _ = .ok (.getfield 35, 3) by decide +kernel) gf_X1_35 hr9 hs10 (Or.inl rfl) ?_
    refine FW.sub [] (ls' := []) rfl ?_
    exact sj_X1_noneNow_23 hd h_4
  · have h_5 := ineg hc16 h_2
    refine fw_aload_n (i := 0) 0 rfl (show decode _ _ = .ok (.aload_n 0, 1) by decide +kernel) ?_
    refine fw_iconst (v := (0 : Int32)) (show decode _ _ = .ok (.iconst 0, 1) by decide +kernel) (by decide) ?_
    obtain ⟨⟨hr13, n12, hs14⟩, h_6⟩ := h_5
    refine fw_callV (mt' := mtX1_worked) (mc := 0) (ms := 0) (As := [.int (0 : Int32)]) (rest := [.int (10 : Int32), .int (0 : Int32)]) 1 1 n12 (show decode _ _ = .ok (.invokevirtual 64, 3) by decide +kernel) cv_X1_64 ⟨_, rfl, rfl⟩ hr13 hs14 rfl (Nat.le_of_ble_eq_true rfl) (s_X1_worked (d := d) (hd_le hd (by decide)) h_6) (by decide) (by decide) (kI (bc' := 0) (bs' := 0) (by decide) (by decide) (fun x15 M11 h_7 => ?_))
    refine fw_goto 23 (show decode _ _ = .ok (.goto 7, 3) by decide +kernel) (by decide) ?_
    refine FW.sub [] (ls' := []) rfl ?_
    exact sj_X1_noneNow_23 hd h_7
def j_X1_twiceNow_25 (φ : Int32 → fM → Prop) (s0 : Int32) (s1 : Int32) (s2 : Int32) (M : fM) : Prop := w_X10_between s2 s1 s0 M fun x2 M1 => φ x2 M1
set_option maxRecDepth 100000 in
theorem sj_X1_twiceNow_25 {g : GT} {d : Nat} (hd : 3 ≤ d + 1) {φ : Int32 → fM → Prop} {s0 : Int32} {s1 : Int32} {s2 : Int32} {M : fM} (h : j_X1_twiceNow_25 φ s0 s1 s2 M) : FW g mtX1_twiceNow (d + 1) 25 [] [.int s0, .int s1, .int s2] M 0 0 (rI φ) := by
  unfold j_X1_twiceNow_25 at h
  refine fw_callSN (mt' := mtX10_between) (mc := 0) (ms := 0) (As := [.int s2, .int s1, .int s0]) (rest := []) 3 "OneStepMore" (show decode _ _ = .ok (.invokestatic 67, 3) by decide +kernel) ns_X1_67 rfl (Nat.le_of_ble_eq_true rfl) (s_X10_between (d := d) (hd_le hd (by decide)) h) (by decide) (by decide) (kI (bc' := 0) (bs' := 0) (by decide) (by decide) (fun x2 M1 h_1 => ?_))
  exact fw_ret (v := some (.int x2)) .ireturn (show decode _ _ = .ok (.ireturn, 1) by decide +kernel) ⟨rfl, Or.inl rfl⟩ ⟨_, rfl, h_1⟩
def w_X1_twiceNow (p0 : Nat) (p1 : Int32) (M : fM) (φ : Int32 → fM → Prop) : Prop := isO M p0 1 ∧ w_X1_rules p0 (1 : Int32) M fun x7 M3 => iF (x7 = 0) (isO M3 p0 1 ∧ j_X1_twiceNow_25 φ (mI M3 p0 4) ((10 : Int32) - p1) (0 : Int32) M3) (isO M3 p0 1 ∧ w_X1_worked p0 (1 : Int32) M3 fun x15 M11 => j_X1_twiceNow_25 φ x15 ((10 : Int32) - p1) (0 : Int32) M11)
set_option maxRecDepth 100000 in
theorem s_X1_twiceNow {g : GT} {d : Nat} (hd : 3 ≤ d) {p0 : Nat} {p1 : Int32} {M : fM} {φ : Int32 → fM → Prop} (h : w_X1_twiceNow p0 p1 M φ) : FC g mtX1_twiceNow d [.ref p0, .int p1] M 0 0 (rI φ) := by
  obtain ⟨d, rfl⟩ : ∃ e, d = e + 1 := ⟨d - 1, by omega⟩
  unfold w_X1_twiceNow at h
  refine FC.intro (nL := 2) (by decide) rfl (Nat.le_of_ble_eq_true rfl) ?_
  show FW g mtX1_twiceNow (d + 1) 0 [(0, .ref p0), (1, .int p1)] [] M 0 0 (rI φ)
  refine fw_iconst (v := (0 : Int32)) (show decode _ _ = .ok (.iconst 0, 1) by decide +kernel) (by decide) ?_
  refine fw_bipush (v := (10 : Int32)) (show decode _ _ = .ok (.bipush 10, 2) by decide +kernel) (by decide) ?_
  refine fw_iload_n (i := 1) 1 rfl (show decode _ _ = .ok (.iload_n 1, 1) by decide +kernel) ?_
  refine fw_isub (show decode _ _ = .ok (.isub, 1) by decide +kernel) ?_
  refine fw_aload_n (i := 0) 0 rfl (show decode _ _ = .ok (.aload_n 0, 1) by decide +kernel) ?_
  refine fw_iconst (v := (1 : Int32)) (show decode _ _ = .ok (.iconst 1, 1) by decide +kernel) (by decide) ?_
  obtain ⟨⟨hr5, n4, hs6⟩, h_1⟩ := h
  refine fw_callV (mt' := mtX1_rules) (mc := 0) (ms := 0) (As := [.int (1 : Int32)]) (rest := [.int ((10 : Int32) - p1), .int (0 : Int32)]) 1 1 n4 (show decode _ _ = .ok (.invokevirtual 60, 3) by decide +kernel) cv_X1_60 ⟨_, rfl, rfl⟩ hr5 hs6 rfl (Nat.le_of_ble_eq_true rfl) (s_X1_rules (d := d) (hd_le hd (by decide)) h_1) (by decide) (by decide) (kI (bc' := 0) (bs' := 0) (by decide) (by decide) (fun x7 M3 h_2 => ?_))
  refine fw_if_eq 21 (show decode _ _ = .ok (.ifCond .eq 11, 3) by decide +kernel) (by decide) (fun hc16 => ?_) (fun hc16 => ?_)
  · have h_3 := ipos hc16 h_2
    refine fw_aload_n (i := 0) 0 rfl (show decode _ _ = .ok (.aload_n 0, 1) by decide +kernel) ?_
    obtain ⟨⟨hr9, n8, hs10⟩, h_4⟩ := h_3
    refine fw_getI (kd := 1) (k := 4) (show decode _ _ = .ok (.getfield 42, 3) by decide +kernel) gf_X1_42 hr9 hs10 (Or.inl rfl) ?_
    refine FW.sub [] (ls' := []) rfl ?_
    exact sj_X1_twiceNow_25 hd h_4
  · have h_5 := ineg hc16 h_2
    refine fw_aload_n (i := 0) 0 rfl (show decode _ _ = .ok (.aload_n 0, 1) by decide +kernel) ?_
    refine fw_iconst (v := (1 : Int32)) (show decode _ _ = .ok (.iconst 1, 1) by decide +kernel) (by decide) ?_
    obtain ⟨⟨hr13, n12, hs14⟩, h_6⟩ := h_5
    refine fw_callV (mt' := mtX1_worked) (mc := 0) (ms := 0) (As := [.int (1 : Int32)]) (rest := [.int ((10 : Int32) - p1), .int (0 : Int32)]) 1 1 n12 (show decode _ _ = .ok (.invokevirtual 64, 3) by decide +kernel) cv_X1_64 ⟨_, rfl, rfl⟩ hr13 hs14 rfl (Nat.le_of_ble_eq_true rfl) (s_X1_worked (d := d) (hd_le hd (by decide)) h_6) (by decide) (by decide) (kI (bc' := 0) (bs' := 0) (by decide) (by decide) (fun x15 M11 h_7 => ?_))
    refine fw_goto 25 (show decode _ _ = .ok (.goto 7, 3) by decide +kernel) (by decide) ?_
    refine FW.sub [] (ls' := []) rfl ?_
    exact sj_X1_twiceNow_25 hd h_7
def w_X1_jarNow (p0 : Nat) (M : fM) (φ : Int32 → fM → Prop) : Prop := isO M p0 1 ∧ w_X1_rules p0 (3 : Int32) M fun x5 M1 => iF (x5 = 0) (φ (5 : Int32) M1) (isO M1 p0 1 ∧ w_X1_worked p0 (3 : Int32) M1 fun x10 M6 => w_X10_between (0 : Int32) (99 : Int32) x10 M6 fun x12 M11 => φ x12 M11)
set_option maxRecDepth 100000 in
theorem s_X1_jarNow {g : GT} {d : Nat} (hd : 3 ≤ d) {p0 : Nat} {M : fM} {φ : Int32 → fM → Prop} (h : w_X1_jarNow p0 M φ) : FC g mtX1_jarNow d [.ref p0] M 0 0 (rI φ) := by
  obtain ⟨d, rfl⟩ : ∃ e, d = e + 1 := ⟨d - 1, by omega⟩
  unfold w_X1_jarNow at h
  refine FC.intro (nL := 1) (by decide) rfl (Nat.le_of_ble_eq_true rfl) ?_
  show FW g mtX1_jarNow (d + 1) 0 [(0, .ref p0)] [] M 0 0 (rI φ)
  refine fw_aload_n (i := 0) 0 rfl (show decode _ _ = .ok (.aload_n 0, 1) by decide +kernel) ?_
  refine fw_iconst (v := (3 : Int32)) (show decode _ _ = .ok (.iconst 3, 1) by decide +kernel) (by decide) ?_
  obtain ⟨⟨hr3, n2, hs4⟩, h_1⟩ := h
  refine fw_callV (mt' := mtX1_rules) (mc := 0) (ms := 0) (As := [.int (3 : Int32)]) (rest := []) 1 1 n2 (show decode _ _ = .ok (.invokevirtual 60, 3) by decide +kernel) cv_X1_60 ⟨_, rfl, rfl⟩ hr3 hs4 rfl (Nat.le_of_ble_eq_true rfl) (s_X1_rules (d := d) (hd_le hd (by decide)) h_1) (by decide) (by decide) (kI (bc' := 0) (bs' := 0) (by decide) (by decide) (fun x5 M1 h_2 => ?_))
  refine fw_if_eq 22 (show decode _ _ = .ok (.ifCond .eq 17, 3) by decide +kernel) (by decide) (fun hc13 => ?_) (fun hc13 => ?_)
  · have h_3 := ipos hc13 h_2
    refine fw_iconst (v := (5 : Int32)) (show decode _ _ = .ok (.iconst 5, 1) by decide +kernel) (by decide) ?_
    exact fw_ret (v := some (.int (5 : Int32))) .ireturn (show decode _ _ = .ok (.ireturn, 1) by decide +kernel) ⟨rfl, Or.inl rfl⟩ ⟨_, rfl, h_3⟩
  · have h_4 := ineg hc13 h_2
    refine fw_iconst (v := (0 : Int32)) (show decode _ _ = .ok (.iconst 0, 1) by decide +kernel) (by decide) ?_
    refine fw_bipush (v := (99 : Int32)) (show decode _ _ = .ok (.bipush 99, 2) by decide +kernel) (by decide) ?_
    refine fw_aload_n (i := 0) 0 rfl (show decode _ _ = .ok (.aload_n 0, 1) by decide +kernel) ?_
    refine fw_iconst (v := (3 : Int32)) (show decode _ _ = .ok (.iconst 3, 1) by decide +kernel) (by decide) ?_
    obtain ⟨⟨hr8, n7, hs9⟩, h_5⟩ := h_4
    refine fw_callV (mt' := mtX1_worked) (mc := 0) (ms := 0) (As := [.int (3 : Int32)]) (rest := [.int (99 : Int32), .int (0 : Int32)]) 1 1 n7 (show decode _ _ = .ok (.invokevirtual 64, 3) by decide +kernel) cv_X1_64 ⟨_, rfl, rfl⟩ hr8 hs9 rfl (Nat.le_of_ble_eq_true rfl) (s_X1_worked (d := d) (hd_le hd (by decide)) h_5) (by decide) (by decide) (kI (bc' := 0) (bs' := 0) (by decide) (by decide) (fun x10 M6 h_6 => ?_))
    refine fw_callSN (mt' := mtX10_between) (mc := 0) (ms := 0) (As := [.int (0 : Int32), .int (99 : Int32), .int x10]) (rest := []) 3 "OneStepMore" (show decode _ _ = .ok (.invokestatic 67, 3) by decide +kernel) ns_X1_67 rfl (Nat.le_of_ble_eq_true rfl) (s_X10_between (d := d) (hd_le hd (by decide)) h_6) (by decide) (by decide) (kI (bc' := 0) (bs' := 0) (by decide) (by decide) (fun x12 M11 h_7 => ?_))
    refine fw_goto 23 (show decode _ _ = .ok (.goto 4, 3) by decide +kernel) (by decide) ?_
    exact fw_ret (v := some (.int x12)) .ireturn (show decode _ _ = .ok (.ireturn, 1) by decide +kernel) ⟨rfl, Or.inl rfl⟩ ⟨_, rfl, h_7⟩
def j_X3_look_207 (K125 : Nat → Nat → Int32 → Int32 → fM → Prop) (φ : Int32 → fM → Prop) (p0 : Nat) (p4 : Nat) (p5 : Int32) (p6 : Int32) (s0 : Int32) (s1 : Int32) (s2 : Nat) (M : fM) : Prop := w_X10_put s2 s1 s0 M fun M1 => nm (p6 + (1 : Int32)) fun x2 => K125 p0 p4 p5 x2 M1
set_option maxRecDepth 100000 in
theorem sj_X3_look_207 {g : GT} {d : Nat} (hd : 4 ≤ d + 1) {K125 : Nat → Nat → Int32 → Int32 → fM → Prop} {φ : Int32 → fM → Prop} (hK125 : ∀ (p0 : Nat) (p4 : Nat) (p5 : Int32) (p6 : Int32) (M : fM), K125 p0 p4 p5 p6 M → FW g mtX3_look (d + 1) 125 [(0, .ref p0), (4, .ref p4), (5, .int p5), (6, .int p6)] [] M 0 0 (rI φ)) {p0 : Nat} {p4 : Nat} {p5 : Int32} {p6 : Int32} {s0 : Int32} {s1 : Int32} {s2 : Nat} {M : fM} (h : j_X3_look_207 K125 φ p0 p4 p5 p6 s0 s1 s2 M) : FW g mtX3_look (d + 1) 207 [(0, .ref p0), (4, .ref p4), (5, .int p5), (6, .int p6)] [.int s0, .int s1, .ref s2] M 0 0 (rI φ) := by
  unfold j_X3_look_207 at h
  refine fw_callSN (mt' := mtX10_put) (mc := 0) (ms := 0) (As := [.ref s2, .int s1, .int s0]) (rest := []) 3 "OneStepMore" (show decode _ _ = .ok (.invokestatic 94, 3) by decide +kernel) ns_X3_94 rfl (Nat.le_of_ble_eq_true rfl) (s_X10_put (d := d) (hd_le hd (by decide)) h) (by decide) (by decide) (kV (bc' := 0) (bs' := 0) (by decide) (by decide) (fun M1 h_1 => ?_))
  obtain ⟨x2, ex3⟩ : ∃ y : Int32, y = p6 + (1 : Int32) := ⟨_, rfl⟩
  have h_2 := h_1 x2 ex3
  refine fw_iinc (i := 6) (x := p6) (v := x2) (ls' := [(6, .int x2), (0, .ref p0), (4, .ref p4), (5, .int p5)]) 3 rfl (show decode _ _ = .ok (.iinc 6 1, 3) by decide +kernel) (by rw [ex3]; rfl) (by decide) rfl ?_
  refine fw_goto 125 (show decode _ _ = .ok (.goto (-88), 3) by decide +kernel) (by decide) ?_
  refine FW.sub [1, 2, 3, 0] (ls' := [(0, .ref p0), (4, .ref p4), (5, .int p5), (6, .int x2)]) rfl ?_
  exact hK125 _ _ _ _ _ h_2
def b_X3_look_125 (K125 : Nat → Nat → Int32 → Int32 → fM → Prop) (φ : Int32 → fM → Prop) (p0 : Nat) (p4 : Nat) (p5 : Int32) (p6 : Int32) (M : fM) : Prop := isO M p0 3 ∧ iF ((mI M p0 3) < p6) (dR (mP M p0 9) fun y7 => dR (mP M p0 2) fun y9 => isO M y9 1 ∧ w_X1_jarNow y9 M fun x15 M11 => w_X10_put y7 (mI M p0 3) x15 M11 fun M16 => φ (1 : Int32) M16) (dR (mP M p0 2) fun y17 => isO M y17 1 ∧ w_X1_face y17 p4 p6 M fun M19 => isO M19 p0 3 ∧ dR (mP M19 p0 2) fun y26 => isO M19 y26 1 ∧ w_X1_noneNow y26 M19 fun x32 M28 => isO M28 p0 3 ∧ dR (mP M28 p0 7) fun y36 => w_X10_put y36 p6 x32 M28 fun M38 => isO M38 p0 3 ∧ dR (mP M38 p0 8) fun y42 => dR (mP M38 p0 2) fun y44 => isO M38 y44 1 ∧ w_X1_twiceNow y44 x32 M38 fun x50 M46 => w_X10_put y42 p6 x50 M46 fun M51 => isO M51 p0 3 ∧ dR (mP M51 p0 9) fun y55 => dR (mP M51 p0 2) fun y57 => isO M51 y57 1 ∧ w_X1_tripsNow y57 M51 fun x63 M59 => iF (x63 = 0) (j_X3_look_207 K125 φ p0 p4 p5 p6 (0 : Int32) (p6 - (1 : Int32)) y55 M59) (j_X3_look_207 K125 φ p0 p4 p5 p6 p5 (p6 - (1 : Int32)) y55 M59))
def l_X3_look_125 (φ : Int32 → fM → Prop) : Nat → Nat → Nat → Int32 → Int32 → fM → Prop
  | 0, _, _, _, _, _ => False
  | n + 1, p0, p4, p5, p6, M => b_X3_look_125 (l_X3_look_125 φ n) φ p0 p4 p5 p6 M
set_option maxRecDepth 100000 in
theorem sb_X3_look_125 {g : GT} {d : Nat} (hd : 4 ≤ d + 1) {K125 : Nat → Nat → Int32 → Int32 → fM → Prop} {φ : Int32 → fM → Prop} (hK125 : ∀ (p0 : Nat) (p4 : Nat) (p5 : Int32) (p6 : Int32) (M : fM), K125 p0 p4 p5 p6 M → FW g mtX3_look (d + 1) 125 [(0, .ref p0), (4, .ref p4), (5, .int p5), (6, .int p6)] [] M 0 0 (rI φ)) {p0 : Nat} {p4 : Nat} {p5 : Int32} {p6 : Int32} {M : fM} (h : b_X3_look_125 K125 φ p0 p4 p5 p6 M) : FW g mtX3_look (d + 1) 125 [(0, .ref p0), (4, .ref p4), (5, .int p5), (6, .int p6)] [] M 0 0 (rI φ) := by
  unfold b_X3_look_125 at h
  refine fw_iload (i := 6) 3 rfl (show decode _ _ = .ok (.iload 6, 2) by decide +kernel) ?_
  refine fw_aload_n (i := 0) 0 rfl (show decode _ _ = .ok (.aload_n 0, 1) by decide +kernel) ?_
  obtain ⟨⟨hr5, n4, hs6⟩, h_1⟩ := h
  refine fw_getI (kd := 3) (k := 3) (show decode _ _ = .ok (.getfield 52, 3) by decide +kernel) gf_X3_52 hr5 hs6 (Or.inl rfl) ?_
  refine fw_icmp_gt 216 (show decode _ _ = .ok (.if_icmp .gt 85, 3) by decide +kernel) (by decide) (fun hc65 => ?_) (fun hc65 => ?_)
  · have h_2 := ipos hc65 h_1
    refine fw_aload_n (i := 0) 0 rfl (show decode _ _ = .ok (.aload_n 0, 1) by decide +kernel) ?_
    refine fw_getP (kd := 3) (k := 9) (show decode _ _ = .ok (.getfield 18, 3) by decide +kernel) gf_X3_18 hr5 hs6 rfl ?_
    have h_3 := dR_e h_2
    obtain ⟨y7, hy8, h_4⟩ := h_3
    refine fw_deref hy8 ?_
    refine fw_aload_n (i := 0) 0 rfl (show decode _ _ = .ok (.aload_n 0, 1) by decide +kernel) ?_
    refine fw_getI (kd := 3) (k := 3) (show decode _ _ = .ok (.getfield 52, 3) by decide +kernel) gf_X3_52 hr5 hs6 (Or.inl rfl) ?_
    refine fw_aload_n (i := 0) 0 rfl (show decode _ _ = .ok (.aload_n 0, 1) by decide +kernel) ?_
    refine fw_getP (kd := 3) (k := 2) (show decode _ _ = .ok (.getfield 32, 3) by decide +kernel) gf_X3_32 hr5 hs6 rfl ?_
    have h_5 := dR_e h_4
    obtain ⟨y9, hy10, h_6⟩ := h_5
    refine fw_deref hy10 ?_
    obtain ⟨⟨hr13, n12, hs14⟩, h_7⟩ := h_6
    refine fw_callV (mt' := mtX1_jarNow) (mc := 0) (ms := 0) (As := []) (rest := [.int (mI M p0 3), .ref y7]) 0 1 n12 (show decode _ _ = .ok (.invokevirtual 106, 3) by decide +kernel) cv_X3_106 ⟨_, rfl, rfl⟩ hr13 hs14 rfl (Nat.le_of_ble_eq_true rfl) (s_X1_jarNow (d := d) (hd_le hd (by decide)) h_7) (by decide) (by decide) (kI (bc' := 0) (bs' := 0) (by decide) (by decide) (fun x15 M11 h_8 => ?_))
    refine fw_callSN (mt' := mtX10_put) (mc := 0) (ms := 0) (As := [.ref y7, .int (mI M p0 3), .int x15]) (rest := []) 3 "OneStepMore" (show decode _ _ = .ok (.invokestatic 94, 3) by decide +kernel) ns_X3_94 rfl (Nat.le_of_ble_eq_true rfl) (s_X10_put (d := d) (hd_le hd (by decide)) h_8) (by decide) (by decide) (kV (bc' := 0) (bs' := 0) (by decide) (by decide) (fun M16 h_9 => ?_))
    refine fw_iconst (v := (1 : Int32)) (show decode _ _ = .ok (.iconst 1, 1) by decide +kernel) (by decide) ?_
    exact fw_ret (v := some (.int (1 : Int32))) .ireturn (show decode _ _ = .ok (.ireturn, 1) by decide +kernel) ⟨rfl, Or.inr (Or.inl ⟨rfl, rfl⟩)⟩ ⟨_, rfl, h_9⟩
  · have h_10 := ineg hc65 h_1
    refine fw_aload_n (i := 0) 0 rfl (show decode _ _ = .ok (.aload_n 0, 1) by decide +kernel) ?_
    refine fw_getP (kd := 3) (k := 2) (show decode _ _ = .ok (.getfield 32, 3) by decide +kernel) gf_X3_32 hr5 hs6 rfl ?_
    have h_11 := dR_e h_10
    obtain ⟨y17, hy18, h_12⟩ := h_11
    refine fw_deref hy18 ?_
    refine fw_aload (i := 4) 1 rfl (show decode _ _ = .ok (.aload 4, 2) by decide +kernel) ?_
    refine fw_iload (i := 6) 3 rfl (show decode _ _ = .ok (.iload 6, 2) by decide +kernel) ?_
    obtain ⟨⟨hr21, n20, hs22⟩, h_13⟩ := h_12
    refine fw_callV (mt' := mtX1_face) (mc := 0) (ms := 0) (As := [.ref p4, .int p6]) (rest := []) 2 1 n20 (show decode _ _ = .ok (.invokevirtual 87, 3) by decide +kernel) cv_X3_87 ⟨_, rfl, rfl⟩ hr21 hs22 rfl (Nat.le_of_ble_eq_true rfl) (s_X1_face (d := d) (hd_le hd (by decide)) h_13) (by decide) (by decide) (kV (bc' := 0) (bs' := 0) (by decide) (by decide) (fun M19 h_14 => ?_))
    refine fw_aload_n (i := 0) 0 rfl (show decode _ _ = .ok (.aload_n 0, 1) by decide +kernel) ?_
    obtain ⟨⟨hr24, n23, hs25⟩, h_15⟩ := h_14
    refine fw_getP (kd := 3) (k := 2) (show decode _ _ = .ok (.getfield 32, 3) by decide +kernel) gf_X3_32 hr24 hs25 rfl ?_
    have h_16 := dR_e h_15
    obtain ⟨y26, hy27, h_17⟩ := h_16
    refine fw_deref hy27 ?_
    obtain ⟨⟨hr30, n29, hs31⟩, h_18⟩ := h_17
    refine fw_callV (mt' := mtX1_noneNow) (mc := 0) (ms := 0) (As := []) (rest := []) 0 1 n29 (show decode _ _ = .ok (.invokevirtual 91, 3) by decide +kernel) cv_X3_91 ⟨_, rfl, rfl⟩ hr30 hs31 rfl (Nat.le_of_ble_eq_true rfl) (s_X1_noneNow (d := d) (hd_le hd (by decide)) h_18) (by decide) (by decide) (kI (bc' := 0) (bs' := 0) (by decide) (by decide) (fun x32 M28 h_19 => ?_))
    refine fw_istore (i := 7) (ls' := [(7, .int x32), (0, .ref p0), (4, .ref p4), (5, .int p5), (6, .int p6)]) (show decode _ _ = .ok (.istore 7, 2) by decide +kernel) (by decide) rfl ?_
    refine fw_aload_n (i := 0) 1 rfl (show decode _ _ = .ok (.aload_n 0, 1) by decide +kernel) ?_
    obtain ⟨⟨hr34, n33, hs35⟩, h_20⟩ := h_19
    refine fw_getP (kd := 3) (k := 7) (show decode _ _ = .ok (.getfield 9, 3) by decide +kernel) gf_X3_9 hr34 hs35 rfl ?_
    have h_21 := dR_e h_20
    obtain ⟨y36, hy37, h_22⟩ := h_21
    refine fw_deref hy37 ?_
    refine fw_iload (i := 6) 4 rfl (show decode _ _ = .ok (.iload 6, 2) by decide +kernel) ?_
    refine fw_iload (i := 7) 0 rfl (show decode _ _ = .ok (.iload 7, 2) by decide +kernel) ?_
    refine fw_callSN (mt' := mtX10_put) (mc := 0) (ms := 0) (As := [.ref y36, .int p6, .int x32]) (rest := []) 3 "OneStepMore" (show decode _ _ = .ok (.invokestatic 94, 3) by decide +kernel) ns_X3_94 rfl (Nat.le_of_ble_eq_true rfl) (s_X10_put (d := d) (hd_le hd (by decide)) h_22) (by decide) (by decide) (kV (bc' := 0) (bs' := 0) (by decide) (by decide) (fun M38 h_23 => ?_))
    refine fw_aload_n (i := 0) 1 rfl (show decode _ _ = .ok (.aload_n 0, 1) by decide +kernel) ?_
    obtain ⟨⟨hr40, n39, hs41⟩, h_24⟩ := h_23
    refine fw_getP (kd := 3) (k := 8) (show decode _ _ = .ok (.getfield 15, 3) by decide +kernel) gf_X3_15 hr40 hs41 rfl ?_
    have h_25 := dR_e h_24
    obtain ⟨y42, hy43, h_26⟩ := h_25
    refine fw_deref hy43 ?_
    refine fw_iload (i := 6) 4 rfl (show decode _ _ = .ok (.iload 6, 2) by decide +kernel) ?_
    refine fw_aload_n (i := 0) 1 rfl (show decode _ _ = .ok (.aload_n 0, 1) by decide +kernel) ?_
    refine fw_getP (kd := 3) (k := 2) (show decode _ _ = .ok (.getfield 32, 3) by decide +kernel) gf_X3_32 hr40 hs41 rfl ?_
    have h_27 := dR_e h_26
    obtain ⟨y44, hy45, h_28⟩ := h_27
    refine fw_deref hy45 ?_
    refine fw_iload (i := 7) 0 rfl (show decode _ _ = .ok (.iload 7, 2) by decide +kernel) ?_
    obtain ⟨⟨hr48, n47, hs49⟩, h_29⟩ := h_28
    refine fw_callV (mt' := mtX1_twiceNow) (mc := 0) (ms := 0) (As := [.int x32]) (rest := [.int p6, .ref y42]) 1 1 n47 (show decode _ _ = .ok (.invokevirtual 98, 3) by decide +kernel) cv_X3_98 ⟨_, rfl, rfl⟩ hr48 hs49 rfl (Nat.le_of_ble_eq_true rfl) (s_X1_twiceNow (d := d) (hd_le hd (by decide)) h_29) (by decide) (by decide) (kI (bc' := 0) (bs' := 0) (by decide) (by decide) (fun x50 M46 h_30 => ?_))
    refine fw_callSN (mt' := mtX10_put) (mc := 0) (ms := 0) (As := [.ref y42, .int p6, .int x50]) (rest := []) 3 "OneStepMore" (show decode _ _ = .ok (.invokestatic 94, 3) by decide +kernel) ns_X3_94 rfl (Nat.le_of_ble_eq_true rfl) (s_X10_put (d := d) (hd_le hd (by decide)) h_30) (by decide) (by decide) (kV (bc' := 0) (bs' := 0) (by decide) (by decide) (fun M51 h_31 => ?_))
    refine fw_aload_n (i := 0) 1 rfl (show decode _ _ = .ok (.aload_n 0, 1) by decide +kernel) ?_
    obtain ⟨⟨hr53, n52, hs54⟩, h_32⟩ := h_31
    refine fw_getP (kd := 3) (k := 9) (show decode _ _ = .ok (.getfield 18, 3) by decide +kernel) gf_X3_18 hr53 hs54 rfl ?_
    have h_33 := dR_e h_32
    obtain ⟨y55, hy56, h_34⟩ := h_33
    refine fw_deref hy56 ?_
    refine fw_iload (i := 6) 4 rfl (show decode _ _ = .ok (.iload 6, 2) by decide +kernel) ?_
    refine fw_iconst (v := (1 : Int32)) (show decode _ _ = .ok (.iconst 1, 1) by decide +kernel) (by decide) ?_
    refine fw_isub (show decode _ _ = .ok (.isub, 1) by decide +kernel) ?_
    refine fw_aload_n (i := 0) 1 rfl (show decode _ _ = .ok (.aload_n 0, 1) by decide +kernel) ?_
    refine fw_getP (kd := 3) (k := 2) (show decode _ _ = .ok (.getfield 32, 3) by decide +kernel) gf_X3_32 hr53 hs54 rfl ?_
    have h_35 := dR_e h_34
    obtain ⟨y57, hy58, h_36⟩ := h_35
    refine fw_deref hy58 ?_
    obtain ⟨⟨hr61, n60, hs62⟩, h_37⟩ := h_36
    refine fw_callV (mt' := mtX1_tripsNow) (mc := 0) (ms := 0) (As := []) (rest := [.int (p6 - (1 : Int32)), .ref y55]) 0 1 n60 (show decode _ _ = .ok (.invokevirtual 102, 3) by decide +kernel) cv_X3_102 ⟨_, rfl, rfl⟩ hr61 hs62 rfl (Nat.le_of_ble_eq_true rfl) (s_X1_tripsNow (d := d) (hd_le hd (by decide)) h_37) (by decide) (by decide) (kI (bc' := 0) (bs' := 0) (by decide) (by decide) (fun x63 M59 h_38 => ?_))
    refine fw_if_eq 206 (show decode _ _ = .ok (.ifCond .eq 8, 3) by decide +kernel) (by decide) (fun hc64 => ?_) (fun hc64 => ?_)
    · have h_39 := ipos hc64 h_38
      refine fw_iconst (v := (0 : Int32)) (show decode _ _ = .ok (.iconst 0, 1) by decide +kernel) (by decide) ?_
      refine FW.sub [1, 2, 3, 4] (ls' := [(0, .ref p0), (4, .ref p4), (5, .int p5), (6, .int p6)]) rfl ?_
      exact sj_X3_look_207 hd hK125 h_39
    · have h_40 := ineg hc64 h_38
      refine fw_iload (i := 5) 3 rfl (show decode _ _ = .ok (.iload 5, 2) by decide +kernel) ?_
      refine fw_goto 207 (show decode _ _ = .ok (.goto 4, 3) by decide +kernel) (by decide) ?_
      refine FW.sub [1, 2, 3, 4] (ls' := [(0, .ref p0), (4, .ref p4), (5, .int p5), (6, .int p6)]) rfl ?_
      exact sj_X3_look_207 hd hK125 h_40
theorem sl_X3_look_125 {g : GT} {d : Nat} (hd : 4 ≤ d + 1) {φ : Int32 → fM → Prop} : ∀ (n : Nat) {p0 : Nat} {p4 : Nat} {p5 : Int32} {p6 : Int32} {M : fM}, l_X3_look_125 φ n p0 p4 p5 p6 M → FW g mtX3_look (d + 1) 125 [(0, .ref p0), (4, .ref p4), (5, .int p5), (6, .int p6)] [] M 0 0 (rI φ)
  | 0 => fun h => h.elim
  | n + 1 => fun h => sb_X3_look_125 hd (fun _ _ _ _ _ h => sl_X3_look_125 hd n h) h
def j_X3_look_58 (φ : Int32 → fM → Prop) (p0 : Nat) (p1 : Int32) (p2 : Int32) (p3 : Int32) (p4 : Nat) (s0 : Int32) (s1 : Nat) (M : fM) : Prop := isO M s1 3 ∧ isB s0 ∧ st (wI M s1 4 s0) fun M69 => isO M69 p4 0 ∧ nm (mI M69 p4 2) fun x75 => isO M69 p0 3 ∧ st (wI M69 p0 5 x75) fun M80 => dR (mP M80 p0 1) fun y82 => isO M80 y82 5 ∧ dR (mP M80 y82 3) fun y87 => w_X10_cell y87 p1 M80 fun x90 M89 => isO M89 p0 3 ∧ st (wI M89 p0 6 x90) fun M94 => dR (mP M94 p0 2) fun y96 => dR (mP M94 p0 1) fun y98 => dR (mP M94 p0 1) fun y100 => dR (mP M94 p0 1) fun y102 => isO M94 y102 5 ∧ isO M94 y100 5 ∧ w_X5_textOf y100 (mI M94 y102 15) M94 fun o111 M107 => isO M107 y96 1 ∧ w_X1_turnTo y96 y98 o111 p1 p2 p3 M107 fun M112 => isO M112 p0 3 ∧ dR (mP M112 p0 2) fun y119 => isO M112 y119 1 ∧ w_X1_fallNow y119 M112 fun x125 M121 => ∃ n, l_X3_look_125 φ n p0 p4 x125 (1 : Int32) M121
set_option maxRecDepth 100000 in
theorem sj_X3_look_58 {g : GT} {d : Nat} (hd : 4 ≤ d + 1) {φ : Int32 → fM → Prop} {p0 : Nat} {p1 : Int32} {p2 : Int32} {p3 : Int32} {p4 : Nat} {s0 : Int32} {s1 : Nat} {M : fM} (h : j_X3_look_58 φ p0 p1 p2 p3 p4 s0 s1 M) : FW g mtX3_look (d + 1) 58 [(0, .ref p0), (1, .int p1), (2, .int p2), (3, .int p3), (4, .ref p4)] [.int s0, .ref s1] M 0 0 (rI φ) := by
  unfold j_X3_look_58 at h
  obtain ⟨⟨hr67, n66, hs68⟩, h_1⟩ := h
  obtain ⟨hb71, h_2⟩ := h_1
  refine fw_putZ (kd := 3) (k := 4) (show decode _ _ = .ok (.putfield 53, 3) by decide +kernel) ⟨gf_X3_53, _, rfl, Or.inl rfl⟩ hr67 hs68 rfl hb71 ?_
  refine FW.nmM (fun M69 eM70 => ?_)
  have h_3 := h_2 M69 eM70
  refine fw_aload_n (i := 0) 0 rfl (show decode _ _ = .ok (.aload_n 0, 1) by decide +kernel) ?_
  refine fw_aload (i := 4) 4 rfl (show decode _ _ = .ok (.aload 4, 2) by decide +kernel) ?_
  obtain ⟨⟨hr73, n72, hs74⟩, h_4⟩ := h_3
  refine fw_getI (kd := 0) (k := 2) (show decode _ _ = .ok (.getfield 57, 3) by decide +kernel) gf_X3_57 hr73 hs74 (Or.inl rfl) ?_
  refine fw_nmI (fun x75 ex76 => ?_)
  have h_5 := h_4 x75 ex76
  obtain ⟨⟨hr78, n77, hs79⟩, h_6⟩ := h_5
  refine fw_putI (kd := 3) (k := 5) (show decode _ _ = .ok (.putfield 60, 3) by decide +kernel) ⟨gf_X3_60, _, rfl, Or.inl rfl⟩ hr78 hs79 rfl ?_
  refine FW.nmM (fun M80 eM81 => ?_)
  have h_7 := h_6 M80 eM81
  refine fw_aload_n (i := 0) 0 rfl (show decode _ _ = .ok (.aload_n 0, 1) by decide +kernel) ?_
  refine fw_aload_n (i := 0) 0 rfl (show decode _ _ = .ok (.aload_n 0, 1) by decide +kernel) ?_
  refine fw_getP (kd := 3) (k := 1) (show decode _ _ = .ok (.getfield 28, 3) by decide +kernel) gf_X3_28 hr78 (mSw_I eM81 hs79) rfl ?_
  have h_8 := dR_e h_7
  obtain ⟨y82, hy83, h_9⟩ := h_8
  refine fw_deref hy83 ?_
  obtain ⟨⟨hr85, n84, hs86⟩, h_10⟩ := h_9
  refine fw_getP (kd := 5) (k := 3) (show decode _ _ = .ok (.getfield 61, 3) by decide +kernel) gf_X3_61 hr85 hs86 rfl ?_
  have h_11 := dR_e h_10
  obtain ⟨y87, hy88, h_12⟩ := h_11
  refine fw_deref hy88 ?_
  refine fw_iload_n (i := 1) 1 rfl (show decode _ _ = .ok (.iload_n 1, 1) by decide +kernel) ?_
  refine fw_callSN (mt' := mtX10_cell) (mc := 0) (ms := 0) (As := [.ref y87, .int p1]) (rest := [.ref p0]) 2 "OneStepMore" (show decode _ _ = .ok (.invokestatic 64, 3) by decide +kernel) ns_X3_64 rfl (Nat.le_of_ble_eq_true rfl) (s_X10_cell (d := d) (hd_le hd (by decide)) h_12) (by decide) (by decide) (kI (bc' := 0) (bs' := 0) (by decide) (by decide) (fun x90 M89 h_13 => ?_))
  obtain ⟨⟨hr92, n91, hs93⟩, h_14⟩ := h_13
  refine fw_putI (kd := 3) (k := 6) (show decode _ _ = .ok (.putfield 68, 3) by decide +kernel) ⟨gf_X3_68, _, rfl, Or.inl rfl⟩ hr92 hs93 rfl ?_
  refine FW.nmM (fun M94 eM95 => ?_)
  have h_15 := h_14 M94 eM95
  refine fw_aload_n (i := 0) 0 rfl (show decode _ _ = .ok (.aload_n 0, 1) by decide +kernel) ?_
  refine fw_getP (kd := 3) (k := 2) (show decode _ _ = .ok (.getfield 32, 3) by decide +kernel) gf_X3_32 hr92 (mSw_I eM95 hs93) rfl ?_
  have h_16 := dR_e h_15
  obtain ⟨y96, hy97, h_17⟩ := h_16
  refine fw_deref hy97 ?_
  refine fw_aload_n (i := 0) 0 rfl (show decode _ _ = .ok (.aload_n 0, 1) by decide +kernel) ?_
  refine fw_getP (kd := 3) (k := 1) (show decode _ _ = .ok (.getfield 28, 3) by decide +kernel) gf_X3_28 hr92 (mSw_I eM95 hs93) rfl ?_
  have h_18 := dR_e h_17
  obtain ⟨y98, hy99, h_19⟩ := h_18
  refine fw_deref hy99 ?_
  refine fw_aload_n (i := 0) 0 rfl (show decode _ _ = .ok (.aload_n 0, 1) by decide +kernel) ?_
  refine fw_getP (kd := 3) (k := 1) (show decode _ _ = .ok (.getfield 28, 3) by decide +kernel) gf_X3_28 hr92 (mSw_I eM95 hs93) rfl ?_
  have h_20 := dR_e h_19
  obtain ⟨y100, hy101, h_21⟩ := h_20
  refine fw_deref hy101 ?_
  refine fw_aload_n (i := 0) 0 rfl (show decode _ _ = .ok (.aload_n 0, 1) by decide +kernel) ?_
  refine fw_getP (kd := 3) (k := 1) (show decode _ _ = .ok (.getfield 28, 3) by decide +kernel) gf_X3_28 hr92 (mSw_I eM95 hs93) rfl ?_
  have h_22 := dR_e h_21
  obtain ⟨y102, hy103, h_23⟩ := h_22
  refine fw_deref hy103 ?_
  obtain ⟨⟨hr105, n104, hs106⟩, h_24⟩ := h_23
  refine fw_getI (kd := 5) (k := 15) (show decode _ _ = .ok (.getfield 70, 3) by decide +kernel) gf_X3_70 hr105 hs106 (Or.inl rfl) ?_
  obtain ⟨⟨hr109, n108, hs110⟩, h_25⟩ := h_24
  refine fw_callV (mt' := mtX5_textOf) (mc := 0) (ms := 0) (As := [.int (mI M94 y102 15)]) (rest := [.ref y98, .ref y96]) 1 5 n108 (show decode _ _ = .ok (.invokevirtual 73, 3) by decide +kernel) cv_X3_73 ⟨_, rfl, rfl⟩ hr109 hs110 rfl (Nat.le_of_ble_eq_true rfl) (s_X5_textOf (d := d) (hd_le hd (by decide)) h_25) (by decide) (by decide) (kP (bc' := 0) (bs' := 0) (by decide) (by decide) (fun o111 M107 h_26 => ?_))
  refine fw_iload_n (i := 1) 1 rfl (show decode _ _ = .ok (.iload_n 1, 1) by decide +kernel) ?_
  refine fw_iload_n (i := 2) 2 rfl (show decode _ _ = .ok (.iload_n 2, 1) by decide +kernel) ?_
  refine fw_iload_n (i := 3) 3 rfl (show decode _ _ = .ok (.iload_n 3, 1) by decide +kernel) ?_
  obtain ⟨⟨hr114, n113, hs115⟩, h_27⟩ := h_26
  refine fw_callV (mt' := mtX1_turnTo) (mc := 0) (ms := 0) (As := [.ref y98, fr o111, .int p1, .int p2, .int p3]) (rest := []) 5 1 n113 (show decode _ _ = .ok (.invokevirtual 77, 3) by decide +kernel) cv_X3_77 ⟨_, rfl, rfl⟩ hr114 hs115 rfl (Nat.le_of_ble_eq_true rfl) (s_X1_turnTo (d := d) (hd_le hd (by decide)) h_27) (by decide) (by decide) (kV (bc' := 0) (bs' := 0) (by decide) (by decide) (fun M112 h_28 => ?_))
  refine fw_aload_n (i := 0) 0 rfl (show decode _ _ = .ok (.aload_n 0, 1) by decide +kernel) ?_
  obtain ⟨⟨hr117, n116, hs118⟩, h_29⟩ := h_28
  refine fw_getP (kd := 3) (k := 2) (show decode _ _ = .ok (.getfield 32, 3) by decide +kernel) gf_X3_32 hr117 hs118 rfl ?_
  have h_30 := dR_e h_29
  obtain ⟨y119, hy120, h_31⟩ := h_30
  refine fw_deref hy120 ?_
  obtain ⟨⟨hr123, n122, hs124⟩, h_32⟩ := h_31
  refine fw_callV (mt' := mtX1_fallNow) (mc := 0) (ms := 0) (As := []) (rest := []) 0 1 n122 (show decode _ _ = .ok (.invokevirtual 83, 3) by decide +kernel) cv_X3_83 ⟨_, rfl, rfl⟩ hr123 hs124 rfl (Nat.le_of_ble_eq_true rfl) (s_X1_fallNow (d := d) (hd_le hd (by decide)) h_32) (by decide) (by decide) (kI (bc' := 0) (bs' := 0) (by decide) (by decide) (fun x125 M121 h_33 => ?_))
  refine fw_istore (i := 5) (ls' := [(5, .int x125), (0, .ref p0), (1, .int p1), (2, .int p2), (3, .int p3), (4, .ref p4)]) (show decode _ _ = .ok (.istore 5, 2) by decide +kernel) (by decide) rfl ?_
  refine fw_iconst (v := (1 : Int32)) (show decode _ _ = .ok (.iconst 1, 1) by decide +kernel) (by decide) ?_
  refine fw_istore (i := 6) (ls' := [(6, .int (1 : Int32)), (5, .int x125), (0, .ref p0), (1, .int p1), (2, .int p2), (3, .int p3), (4, .ref p4)]) (show decode _ _ = .ok (.istore 6, 2) by decide +kernel) (by decide) rfl ?_
  refine FW.sub [2, 6, 1, 0] (ls' := [(0, .ref p0), (4, .ref p4), (5, .int x125), (6, .int (1 : Int32))]) rfl ?_
  obtain ⟨nn, h_34⟩ := h_33
  exact sl_X3_look_125 hd nn h_34
def w_X3_look (p0 : Nat) (p1 : Int32) (p2 : Int32) (p3 : Int32) (M : fM) (φ : Int32 → fM → Prop) : Prop := isO M p0 3 ∧ dR (mP M p0 1) fun y129 => isO M y129 5 ∧ w_X5_houseOf y129 p2 M fun o135 M131 => gN o135 (fun y136 => isO M131 p0 3 ∧ dR (mP M131 p0 1) fun y141 => isO M131 y141 5 ∧ w_X5_isPerson y141 p1 M131 fun x147 M143 => iF (x147 = 0) (φ (0 : Int32) M143) (iF (p3 < 0) (φ (0 : Int32) M143) (iF (p3 < (4 : Int32)) (isO M143 y136 0 ∧ nm (mI M143 y136 0) fun x151 => isO M143 p0 3 ∧ st (wI M143 p0 3 x151) fun M156 => iF ((p3 &&& (1 : Int32)) = 0) (j_X3_look_58 φ p0 p1 p2 p3 y136 (0 : Int32) p0 M156) (j_X3_look_58 φ p0 p1 p2 p3 y136 (1 : Int32) p0 M156)) (φ (0 : Int32) M143)))) (φ (0 : Int32) M131)
set_option maxRecDepth 100000 in
theorem s_X3_look {g : GT} {d : Nat} (hd : 4 ≤ d) {p0 : Nat} {p1 : Int32} {p2 : Int32} {p3 : Int32} {M : fM} {φ : Int32 → fM → Prop} (h : w_X3_look p0 p1 p2 p3 M φ) : FC g mtX3_look d [.ref p0, .int p1, .int p2, .int p3] M 0 0 (rI φ) := by
  obtain ⟨d, rfl⟩ : ∃ e, d = e + 1 := ⟨d - 1, by omega⟩
  unfold w_X3_look at h
  refine FC.intro (nL := 8) (by decide) rfl (Nat.le_of_ble_eq_true rfl) ?_
  show FW g mtX3_look (d + 1) 0 [(0, .ref p0), (1, .int p1), (2, .int p2), (3, .int p3)] [] M 0 0 (rI φ)
  refine fw_aload_n (i := 0) 0 rfl (show decode _ _ = .ok (.aload_n 0, 1) by decide +kernel) ?_
  obtain ⟨⟨hr127, n126, hs128⟩, h_1⟩ := h
  refine fw_getP (kd := 3) (k := 1) (show decode _ _ = .ok (.getfield 28, 3) by decide +kernel) gf_X3_28 hr127 hs128 rfl ?_
  have h_2 := dR_e h_1
  obtain ⟨y129, hy130, h_3⟩ := h_2
  refine fw_deref hy130 ?_
  refine fw_iload_n (i := 2) 2 rfl (show decode _ _ = .ok (.iload_n 2, 1) by decide +kernel) ?_
  obtain ⟨⟨hr133, n132, hs134⟩, h_4⟩ := h_3
  refine fw_callV (mt' := mtX5_houseOf) (mc := 0) (ms := 0) (As := [.int p2]) (rest := []) 1 5 n132 (show decode _ _ = .ok (.invokevirtual 36, 3) by decide +kernel) cv_X3_36 ⟨_, rfl, rfl⟩ hr133 hs134 rfl (Nat.le_of_ble_eq_true rfl) (s_X5_houseOf (d := d) (hd_le hd (by decide)) h_4) (by decide) (by decide) (kP (bc' := 0) (bs' := 0) (by decide) (by decide) (fun o135 M131 h_5 => ?_))
  refine fw_astoreq (i := 4) (ls' := [(4, fr o135), (0, .ref p0), (1, .int p1), (2, .int p2), (3, .int p3)]) (show decode _ _ = .ok (.astore 4, 2) by decide +kernel) (by decide) rfl ?_
  refine fw_aloadq (i := 4) 0 rfl (show decode _ _ = .ok (.aload 4, 2) by decide +kernel) ?_
  refine fw_ifnull (x := o135) 35 (show decode _ _ = .ok (.ifnull 23, 3) by decide +kernel) (by decide) (fun hy137 => ?_) (fun y136 hy137 => ?_)
  · have h_6 := gN_n hy137 h_5
    subst hy137
    refine fw_iconst (v := (0 : Int32)) (show decode _ _ = .ok (.iconst 0, 1) by decide +kernel) (by decide) ?_
    exact fw_ret (v := some (.int (0 : Int32))) .ireturn (show decode _ _ = .ok (.ireturn, 1) by decide +kernel) ⟨rfl, Or.inr (Or.inl ⟨rfl, rfl⟩)⟩ ⟨_, rfl, h_6⟩
  · have h_7 := gN_s hy137 h_5
    subst hy137
    refine fw_aload_n (i := 0) 1 rfl (show decode _ _ = .ok (.aload_n 0, 1) by decide +kernel) ?_
    obtain ⟨⟨hr139, n138, hs140⟩, h_8⟩ := h_7
    refine fw_getP (kd := 3) (k := 1) (show decode _ _ = .ok (.getfield 28, 3) by decide +kernel) gf_X3_28 hr139 hs140 rfl ?_
    have h_9 := dR_e h_8
    obtain ⟨y141, hy142, h_10⟩ := h_9
    refine fw_deref hy142 ?_
    refine fw_iload_n (i := 1) 2 rfl (show decode _ _ = .ok (.iload_n 1, 1) by decide +kernel) ?_
    obtain ⟨⟨hr145, n144, hs146⟩, h_11⟩ := h_10
    refine fw_callV (mt' := mtX5_isPerson) (mc := 0) (ms := 0) (As := [.int p1]) (rest := []) 1 5 n144 (show decode _ _ = .ok (.invokevirtual 42, 3) by decide +kernel) cv_X3_42 ⟨_, rfl, rfl⟩ hr145 hs146 rfl (Nat.le_of_ble_eq_true rfl) (s_X5_isPerson (d := d) (hd_le hd (by decide)) h_11) (by decide) (by decide) (kI (bc' := 0) (bs' := 0) (by decide) (by decide) (fun x147 M143 h_12 => ?_))
    refine fw_if_eq 35 (show decode _ _ = .ok (.ifCond .eq 12, 3) by decide +kernel) (by decide) (fun hc161 => ?_) (fun hc161 => ?_)
    · have h_13 := ipos hc161 h_12
      refine fw_iconst (v := (0 : Int32)) (show decode _ _ = .ok (.iconst 0, 1) by decide +kernel) (by decide) ?_
      exact fw_ret (v := some (.int (0 : Int32))) .ireturn (show decode _ _ = .ok (.ireturn, 1) by decide +kernel) ⟨rfl, Or.inr (Or.inl ⟨rfl, rfl⟩)⟩ ⟨_, rfl, h_13⟩
    · have h_14 := ineg hc161 h_12
      refine fw_iload_n (i := 3) 4 rfl (show decode _ _ = .ok (.iload_n 3, 1) by decide +kernel) ?_
      refine fw_if_lt 35 (show decode _ _ = .ok (.ifCond .lt 8, 3) by decide +kernel) (by decide) (fun hc160 => ?_) (fun hc160 => ?_)
      · have h_15 := ipos hc160 h_14
        refine fw_iconst (v := (0 : Int32)) (show decode _ _ = .ok (.iconst 0, 1) by decide +kernel) (by decide) ?_
        exact fw_ret (v := some (.int (0 : Int32))) .ireturn (show decode _ _ = .ok (.ireturn, 1) by decide +kernel) ⟨rfl, Or.inr (Or.inl ⟨rfl, rfl⟩)⟩ ⟨_, rfl, h_15⟩
      · have h_16 := ineg hc160 h_14
        refine fw_iload_n (i := 3) 4 rfl (show decode _ _ = .ok (.iload_n 3, 1) by decide +kernel) ?_
        refine fw_iconst (v := (4 : Int32)) (show decode _ _ = .ok (.iconst 4, 1) by decide +kernel) (by decide) ?_
        refine fw_icmp_lt 37 (show decode _ _ = .ok (.if_icmp .lt 5, 3) by decide +kernel) (by decide) (fun hc159 => ?_) (fun hc159 => ?_)
        · have h_17 := ipos hc159 h_16
          refine fw_aload_n (i := 0) 1 rfl (show decode _ _ = .ok (.aload_n 0, 1) by decide +kernel) ?_
          refine fw_aload (i := 4) 0 rfl (show decode _ _ = .ok (.aload 4, 2) by decide +kernel) ?_
          obtain ⟨⟨hr149, n148, hs150⟩, h_18⟩ := h_17
          refine fw_getI (kd := 0) (k := 0) (show decode _ _ = .ok (.getfield 46, 3) by decide +kernel) gf_X3_46 hr149 hs150 (Or.inl rfl) ?_
          refine fw_nmI (fun x151 ex152 => ?_)
          have h_19 := h_18 x151 ex152
          obtain ⟨⟨hr154, n153, hs155⟩, h_20⟩ := h_19
          refine fw_putI (kd := 3) (k := 3) (show decode _ _ = .ok (.putfield 52, 3) by decide +kernel) ⟨gf_X3_52, _, rfl, Or.inl rfl⟩ hr154 hs155 rfl ?_
          refine FW.nmM (fun M156 eM157 => ?_)
          have h_21 := h_20 M156 eM157
          refine fw_aload_n (i := 0) 1 rfl (show decode _ _ = .ok (.aload_n 0, 1) by decide +kernel) ?_
          refine fw_iload_n (i := 3) 4 rfl (show decode _ _ = .ok (.iload_n 3, 1) by decide +kernel) ?_
          refine fw_iconst (v := (1 : Int32)) (show decode _ _ = .ok (.iconst 1, 1) by decide +kernel) (by decide) ?_
          refine fw_iand (show decode _ _ = .ok (.iand, 1) by decide +kernel) ?_
          refine fw_if_eq 57 (show decode _ _ = .ok (.ifCond .eq 7, 3) by decide +kernel) (by decide) (fun hc158 => ?_) (fun hc158 => ?_)
          · have h_22 := ipos hc158 h_21
            refine fw_iconst (v := (0 : Int32)) (show decode _ _ = .ok (.iconst 0, 1) by decide +kernel) (by decide) ?_
            refine FW.sub [1, 2, 3, 4, 0] (ls' := [(0, .ref p0), (1, .int p1), (2, .int p2), (3, .int p3), (4, .ref y136)]) rfl ?_
            exact sj_X3_look_58 hd h_22
          · have h_23 := ineg hc158 h_21
            refine fw_iconst (v := (1 : Int32)) (show decode _ _ = .ok (.iconst 1, 1) by decide +kernel) (by decide) ?_
            refine fw_goto 58 (show decode _ _ = .ok (.goto 4, 3) by decide +kernel) (by decide) ?_
            refine FW.sub [1, 2, 3, 4, 0] (ls' := [(0, .ref p0), (1, .int p1), (2, .int p2), (3, .int p3), (4, .ref y136)]) rfl ?_
            exact sj_X3_look_58 hd h_23
        · have h_24 := ineg hc159 h_16
          refine fw_iconst (v := (0 : Int32)) (show decode _ _ = .ok (.iconst 0, 1) by decide +kernel) (by decide) ?_
          exact fw_ret (v := some (.int (0 : Int32))) .ireturn (show decode _ _ = .ok (.ireturn, 1) by decide +kernel) ⟨rfl, Or.inr (Or.inl ⟨rfl, rfl⟩)⟩ ⟨_, rfl, h_24⟩
def w_X3_add (p0 : Nat) (p1 : Int32) (p2 : Int32) (p3 : Int64) (M : fM) (φ : fM → Prop) : Prop := nm ((p1 * (32 : Int32)) + p2) fun x1 => iF (x1 < 0) (φ M) (isO M p0 3 ∧ dR (mP M p0 10) fun y6 => lenA M y6 13 fun n8 => iF ((nI n8) ≤ x1) (φ M) (dR (mP M p0 10) fun y10 => inA M y10 13 x1 ∧ nm ((mJ M y10 (ix x1)) + p3) fun x15 => 6 ≤ y10 ∧ inA M y10 13 x1 ∧ st (wJ M y10 (ix x1) x15) fun M21 => φ M21))
set_option maxRecDepth 100000 in
theorem s_X3_add {g : GT} {d : Nat} (hd : 1 ≤ d) {p0 : Nat} {p1 : Int32} {p2 : Int32} {p3 : Int64} {M : fM} {φ : fM → Prop} (h : w_X3_add p0 p1 p2 p3 M φ) : FC g mtX3_add d [.ref p0, .int p1, .int p2, .long p3] M 0 0 (rV φ) := by
  obtain ⟨d, rfl⟩ : ∃ e, d = e + 1 := ⟨d - 1, by omega⟩
  unfold w_X3_add at h
  refine FC.intro (nL := 6) (by decide) rfl (Nat.le_of_ble_eq_true rfl) ?_
  show FW g mtX3_add (d + 1) 0 [(0, .ref p0), (1, .int p1), (2, .int p2), (3, .long p3)] [] M 0 0 (rV φ)
  refine fw_iload_n (i := 1) 1 rfl (show decode _ _ = .ok (.iload_n 1, 1) by decide +kernel) ?_
  refine fw_bipush (v := (32 : Int32)) (show decode _ _ = .ok (.bipush 32, 2) by decide +kernel) (by decide) ?_
  refine fw_imul (show decode _ _ = .ok (.imul, 1) by decide +kernel) ?_
  refine fw_iload_n (i := 2) 2 rfl (show decode _ _ = .ok (.iload_n 2, 1) by decide +kernel) ?_
  refine fw_iadd (show decode _ _ = .ok (.iadd, 1) by decide +kernel) ?_
  refine fw_nmI (fun x1 ex2 => ?_)
  have h_1 := h x1 ex2
  refine fw_istore (i := 5) (ls' := [(5, .int x1), (0, .ref p0), (1, .int p1), (2, .int p2), (3, .long p3)]) (show decode _ _ = .ok (.istore 5, 2) by decide +kernel) (by decide) rfl ?_
  refine fw_iload (i := 5) 0 rfl (show decode _ _ = .ok (.iload 5, 2) by decide +kernel) ?_
  refine fw_if_lt 34 (show decode _ _ = .ok (.ifCond .lt 24, 3) by decide +kernel) (by decide) (fun hc24 => ?_) (fun hc24 => ?_)
  · have h_2 := ipos hc24 h_1
    exact fw_ret (v := none) .return_ (show decode _ _ = .ok (.return_, 1) by decide +kernel) ⟨rfl, rfl⟩ ⟨rfl, h_2⟩
  · have h_3 := ineg hc24 h_1
    refine fw_iload (i := 5) 0 rfl (show decode _ _ = .ok (.iload 5, 2) by decide +kernel) ?_
    refine fw_aload_n (i := 0) 1 rfl (show decode _ _ = .ok (.aload_n 0, 1) by decide +kernel) ?_
    obtain ⟨⟨hr4, n3, hs5⟩, h_4⟩ := h_3
    refine fw_getP (kd := 3) (k := 10) (show decode _ _ = .ok (.getfield 21, 3) by decide +kernel) gf_X3_21 hr4 hs5 rfl ?_
    have h_5 := dR_e h_4
    obtain ⟨y6, hy7, h_6⟩ := h_5
    refine fw_deref hy7 ?_
    obtain ⟨n8, hs9, h_7⟩ := h_6
    refine fw_alen (show decode _ _ = .ok (.arraylength, 1) by decide +kernel) hs9 (by decide) (by decide) (by decide) (fun h_7 => absurd h_7 (by decide)) ?_
    refine fw_icmp_ge 34 (show decode _ _ = .ok (.if_icmp .ge 14, 3) by decide +kernel) (by decide) (fun hc23 => ?_) (fun hc23 => ?_)
    · have h_8 := ipos hc23 h_7
      exact fw_ret (v := none) .return_ (show decode _ _ = .ok (.return_, 1) by decide +kernel) ⟨rfl, rfl⟩ ⟨rfl, h_8⟩
    · have h_9 := ineg hc23 h_7
      refine fw_aload_n (i := 0) 1 rfl (show decode _ _ = .ok (.aload_n 0, 1) by decide +kernel) ?_
      refine fw_getP (kd := 3) (k := 10) (show decode _ _ = .ok (.getfield 21, 3) by decide +kernel) gf_X3_21 hr4 hs5 rfl ?_
      have h_10 := dR_e h_9
      obtain ⟨y10, hy11, h_11⟩ := h_10
      refine fw_deref hy11 ?_
      refine fw_iload (i := 5) 0 rfl (show decode _ _ = .ok (.iload 5, 2) by decide +kernel) ?_
      refine fw_dup2_11 (show decode _ _ = .ok (.dup2, 1) by decide +kernel) rfl rfl ?_
      obtain ⟨⟨n12, hs13, hi14⟩, h_12⟩ := h_11
      refine fw_lald (show decode _ _ = .ok (.laload, 1) by decide +kernel) hs13 hi14 ?_
      refine fw_lload_n (i := 3) 4 rfl (show decode _ _ = .ok (.lload_n 3, 1) by decide +kernel) ?_
      refine fw_ladd (show decode _ _ = .ok (.ladd, 1) by decide +kernel) ?_
      refine fw_nmJ (fun x15 ex16 => ?_)
      have h_13 := h_12 x15 ex16
      obtain ⟨hr20, ⟨n17, hs18, hi19⟩, h_14⟩ := h_13
      refine fw_last (show decode _ _ = .ok (.lastore, 1) by decide +kernel) hr20 hs18 hi19 ?_
      refine FW.nmM (fun M21 eM22 => ?_)
      have h_15 := h_14 M21 eM22
      exact fw_ret (v := none) .return_ (show decode _ _ = .ok (.return_, 1) by decide +kernel) ⟨rfl, rfl⟩ ⟨rfl, h_15⟩
def w_X3_chance (p0 : Nat) (p1 : Int32) (p2 : Int32) (M : fM) (φ : Int64 → fM → Prop) : Prop := nm ((p1 * (32 : Int32)) + p2) fun x1 => iF (x1 < 0) (φ (0 : Int64) M) (isO M p0 3 ∧ dR (mP M p0 10) fun y6 => lenA M y6 13 fun n8 => iF ((nI n8) ≤ x1) (φ (0 : Int64) M) (dR (mP M p0 10) fun y10 => inA M y10 13 x1 ∧ φ (mJ M y10 (ix x1)) M))
set_option maxRecDepth 100000 in
theorem s_X3_chance {g : GT} {d : Nat} (hd : 1 ≤ d) {p0 : Nat} {p1 : Int32} {p2 : Int32} {M : fM} {φ : Int64 → fM → Prop} (h : w_X3_chance p0 p1 p2 M φ) : FC g mtX3_chance d [.ref p0, .int p1, .int p2] M 0 0 (rJ φ) := by
  obtain ⟨d, rfl⟩ : ∃ e, d = e + 1 := ⟨d - 1, by omega⟩
  unfold w_X3_chance at h
  refine FC.intro (nL := 4) (by decide) rfl (Nat.le_of_ble_eq_true rfl) ?_
  show FW g mtX3_chance (d + 1) 0 [(0, .ref p0), (1, .int p1), (2, .int p2)] [] M 0 0 (rJ φ)
  refine fw_iload_n (i := 1) 1 rfl (show decode _ _ = .ok (.iload_n 1, 1) by decide +kernel) ?_
  refine fw_bipush (v := (32 : Int32)) (show decode _ _ = .ok (.bipush 32, 2) by decide +kernel) (by decide) ?_
  refine fw_imul (show decode _ _ = .ok (.imul, 1) by decide +kernel) ?_
  refine fw_iload_n (i := 2) 2 rfl (show decode _ _ = .ok (.iload_n 2, 1) by decide +kernel) ?_
  refine fw_iadd (show decode _ _ = .ok (.iadd, 1) by decide +kernel) ?_
  refine fw_nmI (fun x1 ex2 => ?_)
  have h_1 := h x1 ex2
  refine fw_istore_n (i := 3) (ls' := [(3, .int x1), (0, .ref p0), (1, .int p1), (2, .int p2)]) (show decode _ _ = .ok (.istore_n 3, 1) by decide +kernel) (by decide) rfl ?_
  refine fw_iload_n (i := 3) 0 rfl (show decode _ _ = .ok (.iload_n 3, 1) by decide +kernel) ?_
  refine fw_if_lt 29 (show decode _ _ = .ok (.ifCond .lt 21, 3) by decide +kernel) (by decide) (fun hc16 => ?_) (fun hc16 => ?_)
  · have h_2 := ipos hc16 h_1
    refine fw_lconst (v := (0 : Int64)) (show decode _ _ = .ok (.lconst 0, 1) by decide +kernel) (by decide) ?_
    exact fw_ret (v := some (.long (0 : Int64))) .lreturn (show decode _ _ = .ok (.lreturn, 1) by decide +kernel) ⟨rfl, rfl⟩ ⟨_, rfl, h_2⟩
  · have h_3 := ineg hc16 h_1
    refine fw_iload_n (i := 3) 0 rfl (show decode _ _ = .ok (.iload_n 3, 1) by decide +kernel) ?_
    refine fw_aload_n (i := 0) 1 rfl (show decode _ _ = .ok (.aload_n 0, 1) by decide +kernel) ?_
    obtain ⟨⟨hr4, n3, hs5⟩, h_4⟩ := h_3
    refine fw_getP (kd := 3) (k := 10) (show decode _ _ = .ok (.getfield 21, 3) by decide +kernel) gf_X3_21 hr4 hs5 rfl ?_
    have h_5 := dR_e h_4
    obtain ⟨y6, hy7, h_6⟩ := h_5
    refine fw_deref hy7 ?_
    obtain ⟨n8, hs9, h_7⟩ := h_6
    refine fw_alen (show decode _ _ = .ok (.arraylength, 1) by decide +kernel) hs9 (by decide) (by decide) (by decide) (fun h_7 => absurd h_7 (by decide)) ?_
    refine fw_icmp_ge 29 (show decode _ _ = .ok (.if_icmp .ge 12, 3) by decide +kernel) (by decide) (fun hc15 => ?_) (fun hc15 => ?_)
    · have h_8 := ipos hc15 h_7
      refine fw_lconst (v := (0 : Int64)) (show decode _ _ = .ok (.lconst 0, 1) by decide +kernel) (by decide) ?_
      exact fw_ret (v := some (.long (0 : Int64))) .lreturn (show decode _ _ = .ok (.lreturn, 1) by decide +kernel) ⟨rfl, rfl⟩ ⟨_, rfl, h_8⟩
    · have h_9 := ineg hc15 h_7
      refine fw_aload_n (i := 0) 1 rfl (show decode _ _ = .ok (.aload_n 0, 1) by decide +kernel) ?_
      refine fw_getP (kd := 3) (k := 10) (show decode _ _ = .ok (.getfield 21, 3) by decide +kernel) gf_X3_21 hr4 hs5 rfl ?_
      have h_10 := dR_e h_9
      obtain ⟨y10, hy11, h_11⟩ := h_10
      refine fw_deref hy11 ?_
      refine fw_iload_n (i := 3) 0 rfl (show decode _ _ = .ok (.iload_n 3, 1) by decide +kernel) ?_
      obtain ⟨⟨n12, hs13, hi14⟩, h_12⟩ := h_11
      refine fw_lald (show decode _ _ = .ok (.laload, 1) by decide +kernel) hs13 hi14 ?_
      refine fw_goto 30 (show decode _ _ = .ok (.goto 4, 3) by decide +kernel) (by decide) ?_
      exact fw_ret (v := some (.long (mJ M y10 (ix x1)))) .lreturn (show decode _ _ = .ok (.lreturn, 1) by decide +kernel) ⟨rfl, rfl⟩ ⟨_, rfl, h_12⟩
def b_X3_gather_5 (K5 : Nat → Int32 → Int64 → Int32 → fM → Prop) (φ : fM → Prop) (p0 : Nat) (p1 : Int32) (p2 : Int64) (p4 : Int32) (M : fM) : Prop := iF ((30 : Int32) ≤ p4) (isO M p0 3 ∧ w_X3_add p0 p1 p1 (p2 * (10 : Int64)) M fun M1 => φ M1) (isO M p0 3 ∧ w_X3_chance p0 (p1 - (1 : Int32)) p4 M fun x9 M5 => nm (p2 + x9) fun x10 => nm (p4 + (1 : Int32)) fun x12 => K5 p0 p1 x10 x12 M5)
def l_X3_gather_5 (φ : fM → Prop) : Nat → Nat → Int32 → Int64 → Int32 → fM → Prop
  | 0, _, _, _, _, _ => False
  | n + 1, p0, p1, p2, p4, M => b_X3_gather_5 (l_X3_gather_5 φ n) φ p0 p1 p2 p4 M
set_option maxRecDepth 100000 in
theorem sb_X3_gather_5 {g : GT} {d : Nat} (hd : 2 ≤ d + 1) {K5 : Nat → Int32 → Int64 → Int32 → fM → Prop} {φ : fM → Prop} (hK5 : ∀ (p0 : Nat) (p1 : Int32) (p2 : Int64) (p4 : Int32) (M : fM), K5 p0 p1 p2 p4 M → FW g mtX3_gather (d + 1) 5 [(0, .ref p0), (1, .int p1), (2, .long p2), (4, .int p4)] [] M 0 0 (rV φ)) {p0 : Nat} {p1 : Int32} {p2 : Int64} {p4 : Int32} {M : fM} (h : b_X3_gather_5 K5 φ p0 p1 p2 p4 M) : FW g mtX3_gather (d + 1) 5 [(0, .ref p0), (1, .int p1), (2, .long p2), (4, .int p4)] [] M 0 0 (rV φ) := by
  unfold b_X3_gather_5 at h
  refine fw_iload (i := 4) 3 rfl (show decode _ _ = .ok (.iload 4, 2) by decide +kernel) ?_
  refine fw_bipush (v := (30 : Int32)) (show decode _ _ = .ok (.bipush 30, 2) by decide +kernel) (by decide) ?_
  refine fw_icmp_ge 30 (show decode _ _ = .ok (.if_icmp .ge 21, 3) by decide +kernel) (by decide) (fun hc14 => ?_) (fun hc14 => ?_)
  · have h_1 := ipos hc14 h
    refine fw_aload_n (i := 0) 0 rfl (show decode _ _ = .ok (.aload_n 0, 1) by decide +kernel) ?_
    refine fw_iload_n (i := 1) 1 rfl (show decode _ _ = .ok (.iload_n 1, 1) by decide +kernel) ?_
    refine fw_iload_n (i := 1) 1 rfl (show decode _ _ = .ok (.iload_n 1, 1) by decide +kernel) ?_
    refine fw_lload_n (i := 2) 2 rfl (show decode _ _ = .ok (.lload_n 2, 1) by decide +kernel) ?_
    refine fw_ldc2 (idx := 134) (v := (10 : Int64)) (show decode _ _ = .ok (.ldc2_w 134, 3) by decide +kernel) wd1134 ?_
    refine fw_lmul (show decode _ _ = .ok (.lmul, 1) by decide +kernel) ?_
    obtain ⟨⟨hr3, n2, hs4⟩, h_2⟩ := h_1
    refine fw_callV (mt' := mtX3_add) (mc := 0) (ms := 0) (As := [.int p1, .int p1, .long (p2 * (10 : Int64))]) (rest := []) 3 3 n2 (show decode _ _ = .ok (.invokevirtual 119, 3) by decide +kernel) cv_X3_119 ⟨_, rfl, rfl⟩ hr3 hs4 rfl (Nat.le_of_ble_eq_true rfl) (s_X3_add (d := d) (hd_le hd (by decide)) h_2) (by decide) (by decide) (kV (bc' := 0) (bs' := 0) (by decide) (by decide) (fun M1 h_3 => ?_))
    exact fw_ret (v := none) .return_ (show decode _ _ = .ok (.return_, 1) by decide +kernel) ⟨rfl, rfl⟩ ⟨rfl, h_3⟩
  · have h_4 := ineg hc14 h
    refine fw_lload_n (i := 2) 2 rfl (show decode _ _ = .ok (.lload_n 2, 1) by decide +kernel) ?_
    refine fw_aload_n (i := 0) 0 rfl (show decode _ _ = .ok (.aload_n 0, 1) by decide +kernel) ?_
    refine fw_iload_n (i := 1) 1 rfl (show decode _ _ = .ok (.iload_n 1, 1) by decide +kernel) ?_
    refine fw_iconst (v := (1 : Int32)) (show decode _ _ = .ok (.iconst 1, 1) by decide +kernel) (by decide) ?_
    refine fw_isub (show decode _ _ = .ok (.isub, 1) by decide +kernel) ?_
    refine fw_iload (i := 4) 3 rfl (show decode _ _ = .ok (.iload 4, 2) by decide +kernel) ?_
    obtain ⟨⟨hr7, n6, hs8⟩, h_5⟩ := h_4
    refine fw_callV (mt' := mtX3_chance) (mc := 0) (ms := 0) (As := [.int (p1 - (1 : Int32)), .int p4]) (rest := [.long p2]) 2 3 n6 (show decode _ _ = .ok (.invokevirtual 130, 3) by decide +kernel) cv_X3_130 ⟨_, rfl, rfl⟩ hr7 hs8 rfl (Nat.le_of_ble_eq_true rfl) (s_X3_chance (d := d) (hd_le hd (by decide)) h_5) (by decide) (by decide) (kJ (bc' := 0) (bs' := 0) (by decide) (by decide) (fun x9 M5 h_6 => ?_))
    refine fw_ladd (show decode _ _ = .ok (.ladd, 1) by decide +kernel) ?_
    refine fw_nmJ (fun x10 ex11 => ?_)
    have h_7 := h_6 x10 ex11
    refine fw_lstore_n (i := 2) (ls' := [(2, .long x10), (0, .ref p0), (1, .int p1), (4, .int p4)]) (show decode _ _ = .ok (.lstore_n 2, 1) by decide +kernel) (by decide) rfl ?_
    obtain ⟨x12, ex13⟩ : ∃ y : Int32, y = p4 + (1 : Int32) := ⟨_, rfl⟩
    have h_8 := h_7 x12 ex13
    refine fw_iinc (i := 4) (x := p4) (v := x12) (ls' := [(4, .int x12), (2, .long x10), (0, .ref p0), (1, .int p1)]) 3 rfl (show decode _ _ = .ok (.iinc 4 1, 3) by decide +kernel) (by rw [ex13]; rfl) (by decide) rfl ?_
    refine fw_goto 5 (show decode _ _ = .ok (.goto (-22), 3) by decide +kernel) (by decide) ?_
    refine FW.sub [2, 3, 1, 0] (ls' := [(0, .ref p0), (1, .int p1), (2, .long x10), (4, .int x12)]) rfl ?_
    exact hK5 _ _ _ _ _ h_8
theorem sl_X3_gather_5 {g : GT} {d : Nat} (hd : 2 ≤ d + 1) {φ : fM → Prop} : ∀ (n : Nat) {p0 : Nat} {p1 : Int32} {p2 : Int64} {p4 : Int32} {M : fM}, l_X3_gather_5 φ n p0 p1 p2 p4 M → FW g mtX3_gather (d + 1) 5 [(0, .ref p0), (1, .int p1), (2, .long p2), (4, .int p4)] [] M 0 0 (rV φ)
  | 0 => fun h => h.elim
  | n + 1 => fun h => sb_X3_gather_5 hd (fun _ _ _ _ _ h => sl_X3_gather_5 hd n h) h
def w_X3_gather (p0 : Nat) (p1 : Int32) (M : fM) (φ : fM → Prop) : Prop := ∃ n, l_X3_gather_5 φ n p0 p1 (0 : Int64) (0 : Int32) M
set_option maxRecDepth 100000 in
theorem s_X3_gather {g : GT} {d : Nat} (hd : 2 ≤ d) {p0 : Nat} {p1 : Int32} {M : fM} {φ : fM → Prop} (h : w_X3_gather p0 p1 M φ) : FC g mtX3_gather d [.ref p0, .int p1] M 0 0 (rV φ) := by
  obtain ⟨d, rfl⟩ : ∃ e, d = e + 1 := ⟨d - 1, by omega⟩
  unfold w_X3_gather at h
  refine FC.intro (nL := 5) (by decide) rfl (Nat.le_of_ble_eq_true rfl) ?_
  show FW g mtX3_gather (d + 1) 0 [(0, .ref p0), (1, .int p1)] [] M 0 0 (rV φ)
  refine fw_lconst (v := (0 : Int64)) (show decode _ _ = .ok (.lconst 0, 1) by decide +kernel) (by decide) ?_
  refine fw_lstore_n (i := 2) (ls' := [(2, .long (0 : Int64)), (0, .ref p0), (1, .int p1)]) (show decode _ _ = .ok (.lstore_n 2, 1) by decide +kernel) (by decide) rfl ?_
  refine fw_iconst (v := (0 : Int32)) (show decode _ _ = .ok (.iconst 0, 1) by decide +kernel) (by decide) ?_
  refine fw_istore (i := 4) (ls' := [(4, .int (0 : Int32)), (2, .long (0 : Int64)), (0, .ref p0), (1, .int p1)]) (show decode _ _ = .ok (.istore 4, 2) by decide +kernel) (by decide) rfl ?_
  refine FW.sub [2, 3, 1, 0] (ls' := [(0, .ref p0), (1, .int p1), (2, .long (0 : Int64)), (4, .int (0 : Int32))]) rfl ?_
  obtain ⟨nn, h_1⟩ := h
  exact sl_X3_gather_5 hd nn h_1
def b_X3_carry_21 (K21 : Nat → Int32 → Int32 → Int32 → Int32 → fM → Prop) (φ : fM → Prop) (p0 : Nat) (p1 : Int32) (p2 : Int32) (p3 : Int32) (p4 : Int32) (M : fM) : Prop := iF ((30 : Int32) ≤ p4) (φ M) (isO M p0 3 ∧ w_X3_chance p0 (p1 - (1 : Int32)) p4 M fun x5 M1 => iF ((lg_cmp x5 (0 : Int64)) = 0) (nm (p4 + (1 : Int32)) fun x6 => K21 p0 p1 p2 p3 x6 M1) (isO M1 p0 3 ∧ w_X3_add p0 p1 p4 (x5 * (Int32.toInt64 p2)) M1 fun M8 => isO M8 p0 3 ∧ w_X3_add p0 p1 (p4 + (1 : Int32)) (x5 * (Int32.toInt64 (((10 : Int32) - p2) - p3))) M8 fun M12 => isO M12 p0 3 ∧ w_X3_add p0 p1 (p4 + (2 : Int32)) (x5 * (Int32.toInt64 p3)) M12 fun M16 => nm (p4 + (1 : Int32)) fun x20 => K21 p0 p1 p2 p3 x20 M16))
def l_X3_carry_21 (φ : fM → Prop) : Nat → Nat → Int32 → Int32 → Int32 → Int32 → fM → Prop
  | 0, _, _, _, _, _, _ => False
  | n + 1, p0, p1, p2, p3, p4, M => b_X3_carry_21 (l_X3_carry_21 φ n) φ p0 p1 p2 p3 p4 M
set_option maxRecDepth 100000 in
theorem sb_X3_carry_21 {g : GT} {d : Nat} (hd : 2 ≤ d + 1) {K21 : Nat → Int32 → Int32 → Int32 → Int32 → fM → Prop} {φ : fM → Prop} (hK21 : ∀ (p0 : Nat) (p1 : Int32) (p2 : Int32) (p3 : Int32) (p4 : Int32) (M : fM), K21 p0 p1 p2 p3 p4 M → FW g mtX3_carry (d + 1) 21 [(0, .ref p0), (1, .int p1), (2, .int p2), (3, .int p3), (4, .int p4)] [] M 0 0 (rV φ)) {p0 : Nat} {p1 : Int32} {p2 : Int32} {p3 : Int32} {p4 : Int32} {M : fM} (h : b_X3_carry_21 K21 φ p0 p1 p2 p3 p4 M) : FW g mtX3_carry (d + 1) 21 [(0, .ref p0), (1, .int p1), (2, .int p2), (3, .int p3), (4, .int p4)] [] M 0 0 (rV φ) := by
  unfold b_X3_carry_21 at h
  refine fw_iload (i := 4) 4 rfl (show decode _ _ = .ok (.iload 4, 2) by decide +kernel) ?_
  refine fw_bipush (v := (30 : Int32)) (show decode _ _ = .ok (.bipush 30, 2) by decide +kernel) (by decide) ?_
  refine fw_icmp_ge 97 (show decode _ _ = .ok (.if_icmp .ge 72, 3) by decide +kernel) (by decide) (fun hc23 => ?_) (fun hc23 => ?_)
  · have h_1 := ipos hc23 h
    exact fw_ret (v := none) .return_ (show decode _ _ = .ok (.return_, 1) by decide +kernel) ⟨rfl, rfl⟩ ⟨rfl, h_1⟩
  · have h_2 := ineg hc23 h
    refine fw_aload_n (i := 0) 0 rfl (show decode _ _ = .ok (.aload_n 0, 1) by decide +kernel) ?_
    refine fw_iload_n (i := 1) 1 rfl (show decode _ _ = .ok (.iload_n 1, 1) by decide +kernel) ?_
    refine fw_iconst (v := (1 : Int32)) (show decode _ _ = .ok (.iconst 1, 1) by decide +kernel) (by decide) ?_
    refine fw_isub (show decode _ _ = .ok (.isub, 1) by decide +kernel) ?_
    refine fw_iload (i := 4) 4 rfl (show decode _ _ = .ok (.iload 4, 2) by decide +kernel) ?_
    obtain ⟨⟨hr3, n2, hs4⟩, h_3⟩ := h_2
    refine fw_callV (mt' := mtX3_chance) (mc := 0) (ms := 0) (As := [.int (p1 - (1 : Int32)), .int p4]) (rest := []) 2 3 n2 (show decode _ _ = .ok (.invokevirtual 130, 3) by decide +kernel) cv_X3_130 ⟨_, rfl, rfl⟩ hr3 hs4 rfl (Nat.le_of_ble_eq_true rfl) (s_X3_chance (d := d) (hd_le hd (by decide)) h_3) (by decide) (by decide) (kJ (bc' := 0) (bs' := 0) (by decide) (by decide) (fun x5 M1 h_4 => ?_))
    refine fw_lstore (i := 5) (ls' := [(5, .long x5), (0, .ref p0), (1, .int p1), (2, .int p2), (3, .int p3), (4, .int p4)]) (show decode _ _ = .ok (.lstore 5, 2) by decide +kernel) (by decide) rfl ?_
    refine fw_lload (i := 5) 0 rfl (show decode _ _ = .ok (.lload 5, 2) by decide +kernel) ?_
    refine fw_lconst (v := (0 : Int64)) (show decode _ _ = .ok (.lconst 0, 1) by decide +kernel) (by decide) ?_
    refine fw_lcmp (show decode _ _ = .ok (.lcmp, 1) by decide +kernel) ?_
    refine fw_if_eq 91 (show decode _ _ = .ok (.ifCond .eq 48, 3) by decide +kernel) (by decide) (fun hc22 => ?_) (fun hc22 => ?_)
    · have h_5 := ipos hc22 h_4
      obtain ⟨x6, ex7⟩ : ∃ y : Int32, y = p4 + (1 : Int32) := ⟨_, rfl⟩
      have h_6 := h_5 x6 ex7
      refine fw_iinc (i := 4) (x := p4) (v := x6) (ls' := [(4, .int x6), (5, .long x5), (0, .ref p0), (1, .int p1), (2, .int p2), (3, .int p3)]) 5 rfl (show decode _ _ = .ok (.iinc 4 1, 3) by decide +kernel) (by rw [ex7]; rfl) (by decide) rfl ?_
      refine fw_goto 21 (show decode _ _ = .ok (.goto (-73), 3) by decide +kernel) (by decide) ?_
      refine FW.sub [2, 3, 4, 5, 0] (ls' := [(0, .ref p0), (1, .int p1), (2, .int p2), (3, .int p3), (4, .int x6)]) rfl ?_
      exact hK21 _ _ _ _ _ _ h_6
    · have h_7 := ineg hc22 h_4
      refine fw_aload_n (i := 0) 1 rfl (show decode _ _ = .ok (.aload_n 0, 1) by decide +kernel) ?_
      refine fw_iload_n (i := 1) 2 rfl (show decode _ _ = .ok (.iload_n 1, 1) by decide +kernel) ?_
      refine fw_iload (i := 4) 5 rfl (show decode _ _ = .ok (.iload 4, 2) by decide +kernel) ?_
      refine fw_lload (i := 5) 0 rfl (show decode _ _ = .ok (.lload 5, 2) by decide +kernel) ?_
      refine fw_iload_n (i := 2) 3 rfl (show decode _ _ = .ok (.iload_n 2, 1) by decide +kernel) ?_
      refine fw_i2l (show decode _ _ = .ok (.i2l, 1) by decide +kernel) ?_
      refine fw_lmul (show decode _ _ = .ok (.lmul, 1) by decide +kernel) ?_
      obtain ⟨⟨hr10, n9, hs11⟩, h_8⟩ := h_7
      refine fw_callV (mt' := mtX3_add) (mc := 0) (ms := 0) (As := [.int p1, .int p4, .long (x5 * (Int32.toInt64 p2))]) (rest := []) 3 3 n9 (show decode _ _ = .ok (.invokevirtual 119, 3) by decide +kernel) cv_X3_119 ⟨_, rfl, rfl⟩ hr10 hs11 rfl (Nat.le_of_ble_eq_true rfl) (s_X3_add (d := d) (hd_le hd (by decide)) h_8) (by decide) (by decide) (kV (bc' := 0) (bs' := 0) (by decide) (by decide) (fun M8 h_9 => ?_))
      refine fw_aload_n (i := 0) 1 rfl (show decode _ _ = .ok (.aload_n 0, 1) by decide +kernel) ?_
      refine fw_iload_n (i := 1) 2 rfl (show decode _ _ = .ok (.iload_n 1, 1) by decide +kernel) ?_
      refine fw_iload (i := 4) 5 rfl (show decode _ _ = .ok (.iload 4, 2) by decide +kernel) ?_
      refine fw_iconst (v := (1 : Int32)) (show decode _ _ = .ok (.iconst 1, 1) by decide +kernel) (by decide) ?_
      refine fw_iadd (show decode _ _ = .ok (.iadd, 1) by decide +kernel) ?_
      refine fw_lload (i := 5) 0 rfl (show decode _ _ = .ok (.lload 5, 2) by decide +kernel) ?_
      refine fw_bipush (v := (10 : Int32)) (show decode _ _ = .ok (.bipush 10, 2) by decide +kernel) (by decide) ?_
      refine fw_iload_n (i := 2) 3 rfl (show decode _ _ = .ok (.iload_n 2, 1) by decide +kernel) ?_
      refine fw_isub (show decode _ _ = .ok (.isub, 1) by decide +kernel) ?_
      refine fw_iload_n (i := 3) 4 rfl (show decode _ _ = .ok (.iload_n 3, 1) by decide +kernel) ?_
      refine fw_isub (show decode _ _ = .ok (.isub, 1) by decide +kernel) ?_
      refine fw_i2l (show decode _ _ = .ok (.i2l, 1) by decide +kernel) ?_
      refine fw_lmul (show decode _ _ = .ok (.lmul, 1) by decide +kernel) ?_
      obtain ⟨⟨hr14, n13, hs15⟩, h_10⟩ := h_9
      refine fw_callV (mt' := mtX3_add) (mc := 0) (ms := 0) (As := [.int p1, .int (p4 + (1 : Int32)), .long (x5 * (Int32.toInt64 (((10 : Int32) - p2) - p3)))]) (rest := []) 3 3 n13 (show decode _ _ = .ok (.invokevirtual 119, 3) by decide +kernel) cv_X3_119 ⟨_, rfl, rfl⟩ hr14 hs15 rfl (Nat.le_of_ble_eq_true rfl) (s_X3_add (d := d) (hd_le hd (by decide)) h_10) (by decide) (by decide) (kV (bc' := 0) (bs' := 0) (by decide) (by decide) (fun M12 h_11 => ?_))
      refine fw_aload_n (i := 0) 1 rfl (show decode _ _ = .ok (.aload_n 0, 1) by decide +kernel) ?_
      refine fw_iload_n (i := 1) 2 rfl (show decode _ _ = .ok (.iload_n 1, 1) by decide +kernel) ?_
      refine fw_iload (i := 4) 5 rfl (show decode _ _ = .ok (.iload 4, 2) by decide +kernel) ?_
      refine fw_iconst (v := (2 : Int32)) (show decode _ _ = .ok (.iconst 2, 1) by decide +kernel) (by decide) ?_
      refine fw_iadd (show decode _ _ = .ok (.iadd, 1) by decide +kernel) ?_
      refine fw_lload (i := 5) 0 rfl (show decode _ _ = .ok (.lload 5, 2) by decide +kernel) ?_
      refine fw_iload_n (i := 3) 4 rfl (show decode _ _ = .ok (.iload_n 3, 1) by decide +kernel) ?_
      refine fw_i2l (show decode _ _ = .ok (.i2l, 1) by decide +kernel) ?_
      refine fw_lmul (show decode _ _ = .ok (.lmul, 1) by decide +kernel) ?_
      obtain ⟨⟨hr18, n17, hs19⟩, h_12⟩ := h_11
      refine fw_callV (mt' := mtX3_add) (mc := 0) (ms := 0) (As := [.int p1, .int (p4 + (2 : Int32)), .long (x5 * (Int32.toInt64 p3))]) (rest := []) 3 3 n17 (show decode _ _ = .ok (.invokevirtual 119, 3) by decide +kernel) cv_X3_119 ⟨_, rfl, rfl⟩ hr18 hs19 rfl (Nat.le_of_ble_eq_true rfl) (s_X3_add (d := d) (hd_le hd (by decide)) h_12) (by decide) (by decide) (kV (bc' := 0) (bs' := 0) (by decide) (by decide) (fun M16 h_13 => ?_))
      obtain ⟨x20, ex21⟩ : ∃ y : Int32, y = p4 + (1 : Int32) := ⟨_, rfl⟩
      have h_14 := h_13 x20 ex21
      refine fw_iinc (i := 4) (x := p4) (v := x20) (ls' := [(4, .int x20), (5, .long x5), (0, .ref p0), (1, .int p1), (2, .int p2), (3, .int p3)]) 5 rfl (show decode _ _ = .ok (.iinc 4 1, 3) by decide +kernel) (by rw [ex21]; rfl) (by decide) rfl ?_
      refine fw_goto 21 (show decode _ _ = .ok (.goto (-73), 3) by decide +kernel) (by decide) ?_
      refine FW.sub [2, 3, 4, 5, 0] (ls' := [(0, .ref p0), (1, .int p1), (2, .int p2), (3, .int p3), (4, .int x20)]) rfl ?_
      exact hK21 _ _ _ _ _ _ h_14
theorem sl_X3_carry_21 {g : GT} {d : Nat} (hd : 2 ≤ d + 1) {φ : fM → Prop} : ∀ (n : Nat) {p0 : Nat} {p1 : Int32} {p2 : Int32} {p3 : Int32} {p4 : Int32} {M : fM}, l_X3_carry_21 φ n p0 p1 p2 p3 p4 M → FW g mtX3_carry (d + 1) 21 [(0, .ref p0), (1, .int p1), (2, .int p2), (3, .int p3), (4, .int p4)] [] M 0 0 (rV φ)
  | 0 => fun h => h.elim
  | n + 1 => fun h => sb_X3_carry_21 hd (fun _ _ _ _ _ _ h => sl_X3_carry_21 hd n h) h
def w_X3_carry (p0 : Nat) (p1 : Int32) (M : fM) (φ : fM → Prop) : Prop := isO M p0 3 ∧ dR (mP M p0 7) fun y27 => w_X10_cell y27 p1 M fun x30 M29 => isO M29 p0 3 ∧ dR (mP M29 p0 8) fun y34 => w_X10_cell y34 p1 M29 fun x37 M36 => ∃ n, l_X3_carry_21 φ n p0 p1 x30 x37 (0 : Int32) M36
set_option maxRecDepth 100000 in
theorem s_X3_carry {g : GT} {d : Nat} (hd : 2 ≤ d) {p0 : Nat} {p1 : Int32} {M : fM} {φ : fM → Prop} (h : w_X3_carry p0 p1 M φ) : FC g mtX3_carry d [.ref p0, .int p1] M 0 0 (rV φ) := by
  obtain ⟨d, rfl⟩ : ∃ e, d = e + 1 := ⟨d - 1, by omega⟩
  unfold w_X3_carry at h
  refine FC.intro (nL := 7) (by decide) rfl (Nat.le_of_ble_eq_true rfl) ?_
  show FW g mtX3_carry (d + 1) 0 [(0, .ref p0), (1, .int p1)] [] M 0 0 (rV φ)
  refine fw_aload_n (i := 0) 0 rfl (show decode _ _ = .ok (.aload_n 0, 1) by decide +kernel) ?_
  obtain ⟨⟨hr25, n24, hs26⟩, h_1⟩ := h
  refine fw_getP (kd := 3) (k := 7) (show decode _ _ = .ok (.getfield 9, 3) by decide +kernel) gf_X3_9 hr25 hs26 rfl ?_
  have h_2 := dR_e h_1
  obtain ⟨y27, hy28, h_3⟩ := h_2
  refine fw_deref hy28 ?_
  refine fw_iload_n (i := 1) 1 rfl (show decode _ _ = .ok (.iload_n 1, 1) by decide +kernel) ?_
  refine fw_callSN (mt' := mtX10_cell) (mc := 0) (ms := 0) (As := [.ref y27, .int p1]) (rest := []) 2 "OneStepMore" (show decode _ _ = .ok (.invokestatic 64, 3) by decide +kernel) ns_X3_64 rfl (Nat.le_of_ble_eq_true rfl) (s_X10_cell (d := d) (hd_le hd (by decide)) h_3) (by decide) (by decide) (kI (bc' := 0) (bs' := 0) (by decide) (by decide) (fun x30 M29 h_4 => ?_))
  refine fw_istore_n (i := 2) (ls' := [(2, .int x30), (0, .ref p0), (1, .int p1)]) (show decode _ _ = .ok (.istore_n 2, 1) by decide +kernel) (by decide) rfl ?_
  refine fw_aload_n (i := 0) 1 rfl (show decode _ _ = .ok (.aload_n 0, 1) by decide +kernel) ?_
  obtain ⟨⟨hr32, n31, hs33⟩, h_5⟩ := h_4
  refine fw_getP (kd := 3) (k := 8) (show decode _ _ = .ok (.getfield 15, 3) by decide +kernel) gf_X3_15 hr32 hs33 rfl ?_
  have h_6 := dR_e h_5
  obtain ⟨y34, hy35, h_7⟩ := h_6
  refine fw_deref hy35 ?_
  refine fw_iload_n (i := 1) 2 rfl (show decode _ _ = .ok (.iload_n 1, 1) by decide +kernel) ?_
  refine fw_callSN (mt' := mtX10_cell) (mc := 0) (ms := 0) (As := [.ref y34, .int p1]) (rest := []) 2 "OneStepMore" (show decode _ _ = .ok (.invokestatic 64, 3) by decide +kernel) ns_X3_64 rfl (Nat.le_of_ble_eq_true rfl) (s_X10_cell (d := d) (hd_le hd (by decide)) h_7) (by decide) (by decide) (kI (bc' := 0) (bs' := 0) (by decide) (by decide) (fun x37 M36 h_8 => ?_))
  refine fw_istore_n (i := 3) (ls' := [(3, .int x37), (2, .int x30), (0, .ref p0), (1, .int p1)]) (show decode _ _ = .ok (.istore_n 3, 1) by decide +kernel) (by decide) rfl ?_
  refine fw_iconst (v := (0 : Int32)) (show decode _ _ = .ok (.iconst 0, 1) by decide +kernel) (by decide) ?_
  refine fw_istore (i := 4) (ls' := [(4, .int (0 : Int32)), (3, .int x37), (2, .int x30), (0, .ref p0), (1, .int p1)]) (show decode _ _ = .ok (.istore 4, 2) by decide +kernel) (by decide) rfl ?_
  refine FW.sub [3, 4, 2, 1, 0] (ls' := [(0, .ref p0), (1, .int p1), (2, .int x30), (3, .int x37), (4, .int (0 : Int32))]) rfl ?_
  obtain ⟨nn, h_9⟩ := h_8
  exact sl_X3_carry_21 hd nn h_9
def j_X3_spreadFrom_62 (K27 : Nat → Int32 → Int32 → fM → Prop) (φ : fM → Prop) (p0 : Nat) (p3 : Int32) (p4 : Int32) (M : fM) : Prop := isO M p0 3 ∧ w_X3_carry p0 p4 M fun M1 => nm (p4 + (1 : Int32)) fun x5 => K27 p0 p3 x5 M1
set_option maxRecDepth 100000 in
theorem sj_X3_spreadFrom_62 {g : GT} {d : Nat} (hd : 3 ≤ d + 1) {K27 : Nat → Int32 → Int32 → fM → Prop} {φ : fM → Prop} (hK27 : ∀ (p0 : Nat) (p3 : Int32) (p4 : Int32) (M : fM), K27 p0 p3 p4 M → FW g mtX3_spreadFrom (d + 1) 27 [(0, .ref p0), (3, .int p3), (4, .int p4)] [] M 0 0 (rV φ)) {p0 : Nat} {p3 : Int32} {p4 : Int32} {M : fM} (h : j_X3_spreadFrom_62 K27 φ p0 p3 p4 M) : FW g mtX3_spreadFrom (d + 1) 62 [(0, .ref p0), (3, .int p3), (4, .int p4)] [] M 0 0 (rV φ) := by
  unfold j_X3_spreadFrom_62 at h
  refine fw_aload_n (i := 0) 0 rfl (show decode _ _ = .ok (.aload_n 0, 1) by decide +kernel) ?_
  refine fw_iload (i := 4) 2 rfl (show decode _ _ = .ok (.iload 4, 2) by decide +kernel) ?_
  obtain ⟨⟨hr3, n2, hs4⟩, h_1⟩ := h
  refine fw_callV (mt' := mtX3_carry) (mc := 0) (ms := 0) (As := [.int p4]) (rest := []) 1 3 n2 (show decode _ _ = .ok (.invokevirtual 127, 3) by decide +kernel) cv_X3_127 ⟨_, rfl, rfl⟩ hr3 hs4 rfl (Nat.le_of_ble_eq_true rfl) (s_X3_carry (d := d) (hd_le hd (by decide)) h_1) (by decide) (by decide) (kV (bc' := 0) (bs' := 0) (by decide) (by decide) (fun M1 h_2 => ?_))
  obtain ⟨x5, ex6⟩ : ∃ y : Int32, y = p4 + (1 : Int32) := ⟨_, rfl⟩
  have h_3 := h_2 x5 ex6
  refine fw_iinc (i := 4) (x := p4) (v := x5) (ls' := [(4, .int x5), (0, .ref p0), (3, .int p3)]) 2 rfl (show decode _ _ = .ok (.iinc 4 1, 3) by decide +kernel) (by rw [ex6]; rfl) (by decide) rfl ?_
  refine fw_goto 27 (show decode _ _ = .ok (.goto (-44), 3) by decide +kernel) (by decide) ?_
  refine FW.sub [1, 2, 0] (ls' := [(0, .ref p0), (3, .int p3), (4, .int x5)]) rfl ?_
  exact hK27 _ _ _ _ h_3
def b_X3_spreadFrom_27 (K27 : Nat → Int32 → Int32 → fM → Prop) (φ : fM → Prop) (p0 : Nat) (p3 : Int32) (p4 : Int32) (M : fM) : Prop := isO M p0 3 ∧ iF ((mI M p0 3) < p4) (φ M) (iF ((mI M p0 4) = 0) (iF (((p3 >>> (p4 &&& 31)) &&& (1 : Int32)) = (1 : Int32)) (w_X3_gather p0 p4 M fun M10 => nm (p4 + (1 : Int32)) fun x11 => K27 p0 p3 x11 M10) (j_X3_spreadFrom_62 K27 φ p0 p3 p4 M)) (j_X3_spreadFrom_62 K27 φ p0 p3 p4 M))
def l_X3_spreadFrom_27 (φ : fM → Prop) : Nat → Nat → Int32 → Int32 → fM → Prop
  | 0, _, _, _, _ => False
  | n + 1, p0, p3, p4, M => b_X3_spreadFrom_27 (l_X3_spreadFrom_27 φ n) φ p0 p3 p4 M
set_option maxRecDepth 100000 in
theorem sb_X3_spreadFrom_27 {g : GT} {d : Nat} (hd : 3 ≤ d + 1) {K27 : Nat → Int32 → Int32 → fM → Prop} {φ : fM → Prop} (hK27 : ∀ (p0 : Nat) (p3 : Int32) (p4 : Int32) (M : fM), K27 p0 p3 p4 M → FW g mtX3_spreadFrom (d + 1) 27 [(0, .ref p0), (3, .int p3), (4, .int p4)] [] M 0 0 (rV φ)) {p0 : Nat} {p3 : Int32} {p4 : Int32} {M : fM} (h : b_X3_spreadFrom_27 K27 φ p0 p3 p4 M) : FW g mtX3_spreadFrom (d + 1) 27 [(0, .ref p0), (3, .int p3), (4, .int p4)] [] M 0 0 (rV φ) := by
  unfold b_X3_spreadFrom_27 at h
  refine fw_iload (i := 4) 2 rfl (show decode _ _ = .ok (.iload 4, 2) by decide +kernel) ?_
  refine fw_aload_n (i := 0) 0 rfl (show decode _ _ = .ok (.aload_n 0, 1) by decide +kernel) ?_
  obtain ⟨⟨hr8, n7, hs9⟩, h_1⟩ := h
  refine fw_getI (kd := 3) (k := 3) (show decode _ _ = .ok (.getfield 52, 3) by decide +kernel) gf_X3_52 hr8 hs9 (Or.inl rfl) ?_
  refine fw_icmp_gt 74 (show decode _ _ = .ok (.if_icmp .gt 41, 3) by decide +kernel) (by decide) (fun hc15 => ?_) (fun hc15 => ?_)
  · have h_2 := ipos hc15 h_1
    exact fw_ret (v := none) .return_ (show decode _ _ = .ok (.return_, 1) by decide +kernel) ⟨rfl, rfl⟩ ⟨rfl, h_2⟩
  · have h_3 := ineg hc15 h_1
    refine fw_aload_n (i := 0) 0 rfl (show decode _ _ = .ok (.aload_n 0, 1) by decide +kernel) ?_
    refine fw_getI (kd := 3) (k := 4) (show decode _ _ = .ok (.getfield 53, 3) by decide +kernel) gf_X3_53 hr8 hs9 (Or.inr rfl) ?_
    refine fw_if_ne 62 (show decode _ _ = .ok (.ifCond .ne 22, 3) by decide +kernel) (by decide) (fun hc14 => ?_) (fun hc14 => ?_)
    · have h_4 := ineg hc14 h_3
      refine FW.sub [0, 1, 2] (ls' := [(0, .ref p0), (3, .int p3), (4, .int p4)]) rfl ?_
      exact sj_X3_spreadFrom_62 hd hK27 h_4
    · have h_5 := ipos hc14 h_3
      refine fw_iload_n (i := 3) 1 rfl (show decode _ _ = .ok (.iload_n 3, 1) by decide +kernel) ?_
      refine fw_iload (i := 4) 2 rfl (show decode _ _ = .ok (.iload 4, 2) by decide +kernel) ?_
      refine fw_ishr (show decode _ _ = .ok (.ishr, 1) by decide +kernel) ?_
      refine fw_iconst (v := (1 : Int32)) (show decode _ _ = .ok (.iconst 1, 1) by decide +kernel) (by decide) ?_
      refine fw_iand (show decode _ _ = .ok (.iand, 1) by decide +kernel) ?_
      refine fw_iconst (v := (1 : Int32)) (show decode _ _ = .ok (.iconst 1, 1) by decide +kernel) (by decide) ?_
      refine fw_icmp_ne 62 (show decode _ _ = .ok (.if_icmp .ne 12, 3) by decide +kernel) (by decide) (fun hc13 => ?_) (fun hc13 => ?_)
      · have h_6 := ineg hc13 h_5
        refine FW.sub [0, 1, 2] (ls' := [(0, .ref p0), (3, .int p3), (4, .int p4)]) rfl ?_
        exact sj_X3_spreadFrom_62 hd hK27 h_6
      · have h_7 := ipos hc13 h_5
        refine fw_aload_n (i := 0) 0 rfl (show decode _ _ = .ok (.aload_n 0, 1) by decide +kernel) ?_
        refine fw_iload (i := 4) 2 rfl (show decode _ _ = .ok (.iload 4, 2) by decide +kernel) ?_
        refine fw_callV (mt' := mtX3_gather) (mc := 0) (ms := 0) (As := [.int p4]) (rest := []) 1 3 n7 (show decode _ _ = .ok (.invokevirtual 123, 3) by decide +kernel) cv_X3_123 ⟨_, rfl, rfl⟩ hr8 hs9 rfl (Nat.le_of_ble_eq_true rfl) (s_X3_gather (d := d) (hd_le hd (by decide)) h_7) (by decide) (by decide) (kV (bc' := 0) (bs' := 0) (by decide) (by decide) (fun M10 h_8 => ?_))
        refine fw_goto 68 (show decode _ _ = .ok (.goto 9, 3) by decide +kernel) (by decide) ?_
        obtain ⟨x11, ex12⟩ : ∃ y : Int32, y = p4 + (1 : Int32) := ⟨_, rfl⟩
        have h_9 := h_8 x11 ex12
        refine fw_iinc (i := 4) (x := p4) (v := x11) (ls' := [(4, .int x11), (0, .ref p0), (3, .int p3)]) 2 rfl (show decode _ _ = .ok (.iinc 4 1, 3) by decide +kernel) (by rw [ex12]; rfl) (by decide) rfl ?_
        refine fw_goto 27 (show decode _ _ = .ok (.goto (-44), 3) by decide +kernel) (by decide) ?_
        refine FW.sub [1, 2, 0] (ls' := [(0, .ref p0), (3, .int p3), (4, .int x11)]) rfl ?_
        exact hK27 _ _ _ _ h_9
theorem sl_X3_spreadFrom_27 {g : GT} {d : Nat} (hd : 3 ≤ d + 1) {φ : fM → Prop} : ∀ (n : Nat) {p0 : Nat} {p3 : Int32} {p4 : Int32} {M : fM}, l_X3_spreadFrom_27 φ n p0 p3 p4 M → FW g mtX3_spreadFrom (d + 1) 27 [(0, .ref p0), (3, .int p3), (4, .int p4)] [] M 0 0 (rV φ)
  | 0 => fun h => h.elim
  | n + 1 => fun h => sb_X3_spreadFrom_27 hd (fun _ _ _ _ h => sl_X3_spreadFrom_27 hd n h) h
def w_X3_spreadFrom (p0 : Nat) (p1 : Int32) (p2 : Int32) (p3 : Int32) (M : fM) (φ : fM → Prop) : Prop := isO M p0 3 ∧ dR (mP M p0 10) fun y19 => w_J7_fill_d0a16 y19 (0 : Int64) M fun M21 => isO M21 p0 3 ∧ w_X3_add p0 (0 : Int32) (0 : Int32) (Int32.toInt64 p1) M21 fun M22 => isO M22 p0 3 ∧ w_X3_add p0 (0 : Int32) (1 : Int32) (Int32.toInt64 p2) M22 fun M26 => ∃ n, l_X3_spreadFrom_27 φ n p0 p3 (1 : Int32) M26
set_option maxRecDepth 100000 in
theorem s_X3_spreadFrom {g : GT} {d : Nat} (hd : 3 ≤ d) {p0 : Nat} {p1 : Int32} {p2 : Int32} {p3 : Int32} {M : fM} {φ : fM → Prop} (h : w_X3_spreadFrom p0 p1 p2 p3 M φ) : FC g mtX3_spreadFrom d [.ref p0, .int p1, .int p2, .int p3] M 0 0 (rV φ) := by
  obtain ⟨d, rfl⟩ : ∃ e, d = e + 1 := ⟨d - 1, by omega⟩
  unfold w_X3_spreadFrom at h
  refine FC.intro (nL := 5) (by decide) rfl (Nat.le_of_ble_eq_true rfl) ?_
  show FW g mtX3_spreadFrom (d + 1) 0 [(0, .ref p0), (1, .int p1), (2, .int p2), (3, .int p3)] [] M 0 0 (rV φ)
  refine fw_aload_n (i := 0) 0 rfl (show decode _ _ = .ok (.aload_n 0, 1) by decide +kernel) ?_
  obtain ⟨⟨hr17, n16, hs18⟩, h_1⟩ := h
  refine fw_getP (kd := 3) (k := 10) (show decode _ _ = .ok (.getfield 21, 3) by decide +kernel) gf_X3_21 hr17 hs18 rfl ?_
  have h_2 := dR_e h_1
  obtain ⟨y19, hy20, h_3⟩ := h_2
  refine fw_deref hy20 ?_
  refine fw_lconst (v := (0 : Int64)) (show decode _ _ = .ok (.lconst 0, 1) by decide +kernel) (by decide) ?_
  refine fw_callS (mt' := mtJ7_fill_d0a16) (mc := 0) (ms := 0) (As := [.ref y19, .long (0 : Int64)]) (rest := []) 2 (show decode _ _ = .ok (.invokestatic 113, 3) by decide +kernel) cs_X3_113 rfl (Nat.le_of_ble_eq_true rfl) (s_J7_fill_d0a16 (d := d) (hd_le hd (by decide)) h_3) (by decide) (by decide) (kV (bc' := 0) (bs' := 0) (by decide) (by decide) (fun M21 h_4 => ?_))
  refine fw_aload_n (i := 0) 0 rfl (show decode _ _ = .ok (.aload_n 0, 1) by decide +kernel) ?_
  refine fw_iconst (v := (0 : Int32)) (show decode _ _ = .ok (.iconst 0, 1) by decide +kernel) (by decide) ?_
  refine fw_iconst (v := (0 : Int32)) (show decode _ _ = .ok (.iconst 0, 1) by decide +kernel) (by decide) ?_
  refine fw_iload_n (i := 1) 1 rfl (show decode _ _ = .ok (.iload_n 1, 1) by decide +kernel) ?_
  refine fw_i2l (show decode _ _ = .ok (.i2l, 1) by decide +kernel) ?_
  obtain ⟨⟨hr24, n23, hs25⟩, h_5⟩ := h_4
  refine fw_callV (mt' := mtX3_add) (mc := 0) (ms := 0) (As := [.int (0 : Int32), .int (0 : Int32), .long (Int32.toInt64 p1)]) (rest := []) 3 3 n23 (show decode _ _ = .ok (.invokevirtual 119, 3) by decide +kernel) cv_X3_119 ⟨_, rfl, rfl⟩ hr24 hs25 rfl (Nat.le_of_ble_eq_true rfl) (s_X3_add (d := d) (hd_le hd (by decide)) h_5) (by decide) (by decide) (kV (bc' := 0) (bs' := 0) (by decide) (by decide) (fun M22 h_6 => ?_))
  refine fw_aload_n (i := 0) 0 rfl (show decode _ _ = .ok (.aload_n 0, 1) by decide +kernel) ?_
  refine fw_iconst (v := (0 : Int32)) (show decode _ _ = .ok (.iconst 0, 1) by decide +kernel) (by decide) ?_
  refine fw_iconst (v := (1 : Int32)) (show decode _ _ = .ok (.iconst 1, 1) by decide +kernel) (by decide) ?_
  refine fw_iload_n (i := 2) 2 rfl (show decode _ _ = .ok (.iload_n 2, 1) by decide +kernel) ?_
  refine fw_i2l (show decode _ _ = .ok (.i2l, 1) by decide +kernel) ?_
  obtain ⟨⟨hr28, n27, hs29⟩, h_7⟩ := h_6
  refine fw_callV (mt' := mtX3_add) (mc := 0) (ms := 0) (As := [.int (0 : Int32), .int (1 : Int32), .long (Int32.toInt64 p2)]) (rest := []) 3 3 n27 (show decode _ _ = .ok (.invokevirtual 119, 3) by decide +kernel) cv_X3_119 ⟨_, rfl, rfl⟩ hr28 hs29 rfl (Nat.le_of_ble_eq_true rfl) (s_X3_add (d := d) (hd_le hd (by decide)) h_7) (by decide) (by decide) (kV (bc' := 0) (bs' := 0) (by decide) (by decide) (fun M26 h_8 => ?_))
  refine fw_iconst (v := (1 : Int32)) (show decode _ _ = .ok (.iconst 1, 1) by decide +kernel) (by decide) ?_
  refine fw_istore (i := 4) (ls' := [(4, .int (1 : Int32)), (0, .ref p0), (1, .int p1), (2, .int p2), (3, .int p3)]) (show decode _ _ = .ok (.istore 4, 2) by decide +kernel) (by decide) rfl ?_
  refine FW.sub [1, 4, 0] (ls' := [(0, .ref p0), (3, .int p3), (4, .int (1 : Int32))]) rfl ?_
  obtain ⟨nn, h_9⟩ := h_8
  exact sl_X3_spreadFrom_27 hd nn h_9
def w_X3_spread (p0 : Nat) (M : fM) (φ : fM → Prop) : Prop := isO M p0 3 ∧ w_X3_spreadFrom p0 ((10 : Int32) - (mI M p0 6)) (mI M p0 6) (mI M p0 5) M fun M4 => φ M4
set_option maxRecDepth 100000 in
theorem s_X3_spread {g : GT} {d : Nat} (hd : 4 ≤ d) {p0 : Nat} {M : fM} {φ : fM → Prop} (h : w_X3_spread p0 M φ) : FC g mtX3_spread d [.ref p0] M 0 0 (rV φ) := by
  obtain ⟨d, rfl⟩ : ∃ e, d = e + 1 := ⟨d - 1, by omega⟩
  unfold w_X3_spread at h
  refine FC.intro (nL := 1) (by decide) rfl (Nat.le_of_ble_eq_true rfl) ?_
  show FW g mtX3_spread (d + 1) 0 [(0, .ref p0)] [] M 0 0 (rV φ)
  refine fw_aload_n (i := 0) 0 rfl (show decode _ _ = .ok (.aload_n 0, 1) by decide +kernel) ?_
  refine fw_bipush (v := (10 : Int32)) (show decode _ _ = .ok (.bipush 10, 2) by decide +kernel) (by decide) ?_
  refine fw_aload_n (i := 0) 0 rfl (show decode _ _ = .ok (.aload_n 0, 1) by decide +kernel) ?_
  obtain ⟨⟨hr2, n1, hs3⟩, h_1⟩ := h
  refine fw_getI (kd := 3) (k := 6) (show decode _ _ = .ok (.getfield 68, 3) by decide +kernel) gf_X3_68 hr2 hs3 (Or.inl rfl) ?_
  refine fw_isub (show decode _ _ = .ok (.isub, 1) by decide +kernel) ?_
  refine fw_aload_n (i := 0) 0 rfl (show decode _ _ = .ok (.aload_n 0, 1) by decide +kernel) ?_
  refine fw_getI (kd := 3) (k := 6) (show decode _ _ = .ok (.getfield 68, 3) by decide +kernel) gf_X3_68 hr2 hs3 (Or.inl rfl) ?_
  refine fw_aload_n (i := 0) 0 rfl (show decode _ _ = .ok (.aload_n 0, 1) by decide +kernel) ?_
  refine fw_getI (kd := 3) (k := 5) (show decode _ _ = .ok (.getfield 60, 3) by decide +kernel) gf_X3_60 hr2 hs3 (Or.inl rfl) ?_
  refine fw_callV (mt' := mtX3_spreadFrom) (mc := 0) (ms := 0) (As := [.int ((10 : Int32) - (mI M p0 6)), .int (mI M p0 6), .int (mI M p0 5)]) (rest := []) 3 3 n1 (show decode _ _ = .ok (.invokevirtual 109, 3) by decide +kernel) cv_X3_109 ⟨_, rfl, rfl⟩ hr2 hs3 rfl (Nat.le_of_ble_eq_true rfl) (s_X3_spreadFrom (d := d) (hd_le hd (by decide)) h_1) (by decide) (by decide) (kV (bc' := 0) (bs' := 0) (by decide) (by decide) (fun M4 h_2 => ?_))
  exact fw_ret (v := none) .return_ (show decode _ _ = .ok (.return_, 1) by decide +kernel) ⟨rfl, rfl⟩ ⟨rfl, h_2⟩
