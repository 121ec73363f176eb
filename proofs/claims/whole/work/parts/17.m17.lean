def j_X9_goOn_241 (φ : Int32 → fM → Prop) (p0 : Nat) (p2 : Nat) (p3 : Int32) (M : fM) : Prop := isO M p2 0 ∧ w_X0_hasMark p2 p3 M fun x5 M1 => iF (x5 = 0) (φ p3 M1) (isO M1 p0 9 ∧ dR (mP M1 p0 0) fun y9 => isO M1 y9 5 ∧ dR (mP M1 y9 7) fun y14 => inA M1 y14 12 (2 : Int32) ∧ iF (((mI M1 y14 (ix (2 : Int32))) &&& (1 : Int32)) = 0) (dR (mP M1 p0 0) fun y19 => isO M1 y19 5 ∧ dR (mP M1 y19 7) fun y24 => 6 ≤ y24 ∧ inA M1 y24 12 (4 : Int32) ∧ st (wI M1 y24 (ix (4 : Int32)) p3) fun M30 => φ p3 M30) (φ p3 M1))
set_option maxRecDepth 100000 in
theorem sj_X9_goOn_241 {g : GT} {d : Nat} (hd : 4 ≤ d + 1) {φ : Int32 → fM → Prop} {p0 : Nat} {p2 : Nat} {p3 : Int32} {M : fM} (h : j_X9_goOn_241 φ p0 p2 p3 M) : FW g mtX9_goOn (d + 1) 241 [(0, .ref p0), (2, .ref p2), (3, .int p3)] [] M 0 0 (rI φ) := by
  unfold j_X9_goOn_241 at h
  refine fw_aload_n (i := 2) 1 rfl (show decode _ _ = .ok (.aload_n 2, 1) by decide +kernel) ?_
  refine fw_iload_n (i := 3) 2 rfl (show decode _ _ = .ok (.iload_n 3, 1) by decide +kernel) ?_
  obtain ⟨⟨hr3, n2, hs4⟩, h_1⟩ := h
  refine fw_callV (mt' := mtX0_hasMark) (mc := 0) (ms := 0) (As := [.int p3]) (rest := []) 1 0 n2 (show decode _ _ = .ok (.invokevirtual 180, 3) by decide +kernel) cv_X9_180 ⟨_, rfl, rfl⟩ hr3 hs4 rfl (Nat.le_of_ble_eq_true rfl) (s_X0_hasMark (d := d) (hd_le hd (by decide)) h_1) (by decide) (by decide) (kI (bc' := 0) (bs' := 0) (by decide) (by decide) (fun x5 M1 h_2 => ?_))
  refine fw_if_eq 273 (show decode _ _ = .ok (.ifCond .eq 27, 3) by decide +kernel) (by decide) (fun hc33 => ?_) (fun hc33 => ?_)
  · have h_3 := ipos hc33 h_2
    refine fw_iload_n (i := 3) 2 rfl (show decode _ _ = .ok (.iload_n 3, 1) by decide +kernel) ?_
    exact fw_ret (v := some (.int p3)) .ireturn (show decode _ _ = .ok (.ireturn, 1) by decide +kernel) ⟨rfl, Or.inl rfl⟩ ⟨_, rfl, h_3⟩
  · have h_4 := ineg hc33 h_2
    refine fw_aload_n (i := 0) 0 rfl (show decode _ _ = .ok (.aload_n 0, 1) by decide +kernel) ?_
    obtain ⟨⟨hr7, n6, hs8⟩, h_5⟩ := h_4
    refine fw_getP (kd := 9) (k := 0) (show decode _ _ = .ok (.getfield 9, 3) by decide +kernel) gf_X9_9 hr7 hs8 rfl ?_
    have h_6 := dR_e h_5
    obtain ⟨y9, hy10, h_7⟩ := h_6
    refine fw_deref hy10 ?_
    obtain ⟨⟨hr12, n11, hs13⟩, h_8⟩ := h_7
    refine fw_getP (kd := 5) (k := 7) (show decode _ _ = .ok (.getfield 36, 3) by decide +kernel) gf_X9_36 hr12 hs13 rfl ?_
    have h_9 := dR_e h_8
    obtain ⟨y14, hy15, h_10⟩ := h_9
    refine fw_deref hy15 ?_
    refine fw_iconst (v := (2 : Int32)) (show decode _ _ = .ok (.iconst 2, 1) by decide +kernel) (by decide) ?_
    obtain ⟨⟨n16, hs17, hi18⟩, h_11⟩ := h_10
    refine fw_iald (show decode _ _ = .ok (.iaload, 1) by decide +kernel) hs17 hi18 ?_
    refine fw_iconst (v := (1 : Int32)) (show decode _ _ = .ok (.iconst 1, 1) by decide +kernel) (by decide) ?_
    refine fw_iand (show decode _ _ = .ok (.iand, 1) by decide +kernel) ?_
    refine fw_if_ne 273 (show decode _ _ = .ok (.ifCond .ne 13, 3) by decide +kernel) (by decide) (fun hc32 => ?_) (fun hc32 => ?_)
    · have h_12 := ineg hc32 h_11
      refine fw_iload_n (i := 3) 2 rfl (show decode _ _ = .ok (.iload_n 3, 1) by decide +kernel) ?_
      exact fw_ret (v := some (.int p3)) .ireturn (show decode _ _ = .ok (.ireturn, 1) by decide +kernel) ⟨rfl, Or.inl rfl⟩ ⟨_, rfl, h_12⟩
    · have h_13 := ipos hc32 h_11
      refine fw_aload_n (i := 0) 0 rfl (show decode _ _ = .ok (.aload_n 0, 1) by decide +kernel) ?_
      refine fw_getP (kd := 9) (k := 0) (show decode _ _ = .ok (.getfield 9, 3) by decide +kernel) gf_X9_9 hr7 hs8 rfl ?_
      have h_14 := dR_e h_13
      obtain ⟨y19, hy20, h_15⟩ := h_14
      refine fw_deref hy20 ?_
      obtain ⟨⟨hr22, n21, hs23⟩, h_16⟩ := h_15
      refine fw_getP (kd := 5) (k := 7) (show decode _ _ = .ok (.getfield 36, 3) by decide +kernel) gf_X9_36 hr22 hs23 rfl ?_
      have h_17 := dR_e h_16
      obtain ⟨y24, hy25, h_18⟩ := h_17
      refine fw_deref hy25 ?_
      refine fw_iconst (v := (4 : Int32)) (show decode _ _ = .ok (.iconst 4, 1) by decide +kernel) (by decide) ?_
      refine fw_iload_n (i := 3) 2 rfl (show decode _ _ = .ok (.iload_n 3, 1) by decide +kernel) ?_
      obtain ⟨hr29, ⟨n26, hs27, hi28⟩, h_19⟩ := h_18
      refine fw_iast (show decode _ _ = .ok (.iastore, 1) by decide +kernel) hr29 hs27 hi28 ?_
      refine FW.nmM (fun M30 eM31 => ?_)
      have h_20 := h_19 M30 eM31
      refine fw_iload_n (i := 3) 2 rfl (show decode _ _ = .ok (.iload_n 3, 1) by decide +kernel) ?_
      exact fw_ret (v := some (.int p3)) .ireturn (show decode _ _ = .ok (.ireturn, 1) by decide +kernel) ⟨rfl, Or.inl rfl⟩ ⟨_, rfl, h_20⟩
def j_X9_goOn_239 (φ : Int32 → fM → Prop) (p0 : Nat) (p2 : Nat) (p3 : Int32) (s0 : Int32) (s1 : Int32) (s2 : Int32) (s3 : Nat) (M : fM) : Prop := nm (s1 + s0) fun x34 => 6 ≤ s3 ∧ inA M s3 12 s2 ∧ st (wI M s3 (ix s2) x34) fun M40 => j_X9_goOn_241 φ p0 p2 p3 M40
set_option maxRecDepth 100000 in
theorem sj_X9_goOn_239 {g : GT} {d : Nat} (hd : 4 ≤ d + 1) {φ : Int32 → fM → Prop} {p0 : Nat} {p2 : Nat} {p3 : Int32} {s0 : Int32} {s1 : Int32} {s2 : Int32} {s3 : Nat} {M : fM} (h : j_X9_goOn_239 φ p0 p2 p3 s0 s1 s2 s3 M) : FW g mtX9_goOn (d + 1) 239 [(0, .ref p0), (2, .ref p2), (3, .int p3)] [.int s0, .int s1, .int s2, .ref s3] M 0 0 (rI φ) := by
  unfold j_X9_goOn_239 at h
  refine fw_iadd (show decode _ _ = .ok (.iadd, 1) by decide +kernel) ?_
  refine fw_nmI (fun x34 ex35 => ?_)
  have h_1 := h x34 ex35
  obtain ⟨hr39, ⟨n36, hs37, hi38⟩, h_2⟩ := h_1
  refine fw_iast (show decode _ _ = .ok (.iastore, 1) by decide +kernel) hr39 hs37 hi38 ?_
  refine FW.nmM (fun M40 eM41 => ?_)
  have h_3 := h_2 M40 eM41
  refine FW.sub [0, 1, 2] (ls' := [(0, .ref p0), (2, .ref p2), (3, .int p3)]) rfl ?_
  exact sj_X9_goOn_241 hd h_3
def j_X9_goOn_181 (φ : Int32 → fM → Prop) (p0 : Nat) (p2 : Nat) (p3 : Int32) (M : fM) : Prop := isO M p0 9 ∧ dR (mP M p0 1) fun y45 => isO M y45 1 ∧ w_X1_noneNow y45 M fun x51 M47 => isO M47 p0 9 ∧ dR (mP M47 p0 1) fun y55 => isO M47 y55 1 ∧ w_X1_twiceNow y55 x51 M47 fun x61 M57 => isO M57 p0 9 ∧ w_X9_draw p0 M57 fun x66 M62 => iF (x66 < x51) (j_X9_goOn_241 φ p0 p2 p3 M62) (isO M62 p0 9 ∧ dR (mP M62 p0 0) fun y70 => isO M62 y70 5 ∧ dR (mP M62 y70 7) fun y75 => inA M62 y75 12 (4 : Int32) ∧ iF ((x51 + x61) ≤ x66) (j_X9_goOn_239 φ p0 p2 p3 (1 : Int32) (mI M62 y75 (ix (4 : Int32))) (4 : Int32) y75 M62) (j_X9_goOn_239 φ p0 p2 p3 (2 : Int32) (mI M62 y75 (ix (4 : Int32))) (4 : Int32) y75 M62))
set_option maxRecDepth 100000 in
theorem sj_X9_goOn_181 {g : GT} {d : Nat} (hd : 4 ≤ d + 1) {φ : Int32 → fM → Prop} {p0 : Nat} {p2 : Nat} {p3 : Int32} {M : fM} (h : j_X9_goOn_181 φ p0 p2 p3 M) : FW g mtX9_goOn (d + 1) 181 [(0, .ref p0), (2, .ref p2), (3, .int p3)] [] M 0 0 (rI φ) := by
  unfold j_X9_goOn_181 at h
  refine fw_aload_n (i := 0) 0 rfl (show decode _ _ = .ok (.aload_n 0, 1) by decide +kernel) ?_
  obtain ⟨⟨hr43, n42, hs44⟩, h_1⟩ := h
  refine fw_getP (kd := 9) (k := 1) (show decode _ _ = .ok (.getfield 15, 3) by decide +kernel) gf_X9_15 hr43 hs44 rfl ?_
  have h_2 := dR_e h_1
  obtain ⟨y45, hy46, h_3⟩ := h_2
  refine fw_deref hy46 ?_
  obtain ⟨⟨hr49, n48, hs50⟩, h_4⟩ := h_3
  refine fw_callV (mt' := mtX1_noneNow) (mc := 0) (ms := 0) (As := []) (rest := []) 0 1 n48 (show decode _ _ = .ok (.invokevirtual 173, 3) by decide +kernel) cv_X9_173 ⟨_, rfl, rfl⟩ hr49 hs50 rfl (Nat.le_of_ble_eq_true rfl) (s_X1_noneNow (d := d) (hd_le hd (by decide)) h_4) (by decide) (by decide) (kI (bc' := 0) (bs' := 0) (by decide) (by decide) (fun x51 M47 h_5 => ?_))
  refine fw_istore (i := 4) (ls' := [(4, .int x51), (0, .ref p0), (2, .ref p2), (3, .int p3)]) (show decode _ _ = .ok (.istore 4, 2) by decide +kernel) (by decide) rfl ?_
  refine fw_aload_n (i := 0) 1 rfl (show decode _ _ = .ok (.aload_n 0, 1) by decide +kernel) ?_
  obtain ⟨⟨hr53, n52, hs54⟩, h_6⟩ := h_5
  refine fw_getP (kd := 9) (k := 1) (show decode _ _ = .ok (.getfield 15, 3) by decide +kernel) gf_X9_15 hr53 hs54 rfl ?_
  have h_7 := dR_e h_6
  obtain ⟨y55, hy56, h_8⟩ := h_7
  refine fw_deref hy56 ?_
  refine fw_iload (i := 4) 0 rfl (show decode _ _ = .ok (.iload 4, 2) by decide +kernel) ?_
  obtain ⟨⟨hr59, n58, hs60⟩, h_9⟩ := h_8
  refine fw_callV (mt' := mtX1_twiceNow) (mc := 0) (ms := 0) (As := [.int x51]) (rest := []) 1 1 n58 (show decode _ _ = .ok (.invokevirtual 176, 3) by decide +kernel) cv_X9_176 ⟨_, rfl, rfl⟩ hr59 hs60 rfl (Nat.le_of_ble_eq_true rfl) (s_X1_twiceNow (d := d) (hd_le hd (by decide)) h_9) (by decide) (by decide) (kI (bc' := 0) (bs' := 0) (by decide) (by decide) (fun x61 M57 h_10 => ?_))
  refine fw_istore (i := 5) (ls' := [(5, .int x61), (4, .int x51), (0, .ref p0), (2, .ref p2), (3, .int p3)]) (show decode _ _ = .ok (.istore 5, 2) by decide +kernel) (by decide) rfl ?_
  refine fw_aload_n (i := 0) 2 rfl (show decode _ _ = .ok (.aload_n 0, 1) by decide +kernel) ?_
  obtain ⟨⟨hr64, n63, hs65⟩, h_11⟩ := h_10
  refine fw_callV (mt' := mtX9_draw) (mc := 0) (ms := 0) (As := []) (rest := []) 0 9 n63 (show decode _ _ = .ok (.invokevirtual 146, 3) by decide +kernel) cv_X9_146 ⟨_, rfl, rfl⟩ hr64 hs65 rfl (Nat.le_of_ble_eq_true rfl) (s_X9_draw (d := d) (hd_le hd (by decide)) h_11) (by decide) (by decide) (kI (bc' := 0) (bs' := 0) (by decide) (by decide) (fun x66 M62 h_12 => ?_))
  refine fw_istore (i := 6) (ls' := [(6, .int x66), (5, .int x61), (4, .int x51), (0, .ref p0), (2, .ref p2), (3, .int p3)]) (show decode _ _ = .ok (.istore 6, 2) by decide +kernel) (by decide) rfl ?_
  refine fw_iload (i := 6) 0 rfl (show decode _ _ = .ok (.iload 6, 2) by decide +kernel) ?_
  refine fw_iload (i := 4) 2 rfl (show decode _ _ = .ok (.iload 4, 2) by decide +kernel) ?_
  refine fw_icmp_lt 241 (show decode _ _ = .ok (.if_icmp .lt 30, 3) by decide +kernel) (by decide) (fun hc81 => ?_) (fun hc81 => ?_)
  · have h_13 := ipos hc81 h_12
    refine FW.sub [3, 4, 5] (ls' := [(0, .ref p0), (2, .ref p2), (3, .int p3)]) rfl ?_
    exact sj_X9_goOn_241 hd h_13
  · have h_14 := ineg hc81 h_12
    refine fw_aload_n (i := 0) 3 rfl (show decode _ _ = .ok (.aload_n 0, 1) by decide +kernel) ?_
    obtain ⟨⟨hr68, n67, hs69⟩, h_15⟩ := h_14
    refine fw_getP (kd := 9) (k := 0) (show decode _ _ = .ok (.getfield 9, 3) by decide +kernel) gf_X9_9 hr68 hs69 rfl ?_
    have h_16 := dR_e h_15
    obtain ⟨y70, hy71, h_17⟩ := h_16
    refine fw_deref hy71 ?_
    obtain ⟨⟨hr73, n72, hs74⟩, h_18⟩ := h_17
    refine fw_getP (kd := 5) (k := 7) (show decode _ _ = .ok (.getfield 36, 3) by decide +kernel) gf_X9_36 hr73 hs74 rfl ?_
    have h_19 := dR_e h_18
    obtain ⟨y75, hy76, h_20⟩ := h_19
    refine fw_deref hy76 ?_
    refine fw_iconst (v := (4 : Int32)) (show decode _ _ = .ok (.iconst 4, 1) by decide +kernel) (by decide) ?_
    refine fw_dup2_11 (show decode _ _ = .ok (.dup2, 1) by decide +kernel) rfl rfl ?_
    obtain ⟨⟨n77, hs78, hi79⟩, h_21⟩ := h_20
    refine fw_iald (show decode _ _ = .ok (.iaload, 1) by decide +kernel) hs78 hi79 ?_
    refine fw_iload (i := 6) 0 rfl (show decode _ _ = .ok (.iload 6, 2) by decide +kernel) ?_
    refine fw_iload (i := 4) 2 rfl (show decode _ _ = .ok (.iload 4, 2) by decide +kernel) ?_
    refine fw_iload (i := 5) 1 rfl (show decode _ _ = .ok (.iload 5, 2) by decide +kernel) ?_
    refine fw_iadd (show decode _ _ = .ok (.iadd, 1) by decide +kernel) ?_
    refine fw_icmp_ge 238 (show decode _ _ = .ok (.if_icmp .ge 7, 3) by decide +kernel) (by decide) (fun hc80 => ?_) (fun hc80 => ?_)
    · have h_22 := ipos hc80 h_21
      refine fw_iconst (v := (1 : Int32)) (show decode _ _ = .ok (.iconst 1, 1) by decide +kernel) (by decide) ?_
      refine FW.sub [3, 4, 5] (ls' := [(0, .ref p0), (2, .ref p2), (3, .int p3)]) rfl ?_
      exact sj_X9_goOn_239 hd h_22
    · have h_23 := ineg hc80 h_21
      refine fw_iconst (v := (2 : Int32)) (show decode _ _ = .ok (.iconst 2, 1) by decide +kernel) (by decide) ?_
      refine fw_goto 239 (show decode _ _ = .ok (.goto 4, 3) by decide +kernel) (by decide) ?_
      refine FW.sub [3, 4, 5] (ls' := [(0, .ref p0), (2, .ref p2), (3, .int p3)]) rfl ?_
      exact sj_X9_goOn_239 hd h_23
def j_X9_goOn_106 (φ : Int32 → fM → Prop) (p2 : Nat) (s0 : Int32) (s1 : Nat) (M : fM) : Prop := isO M s1 9 ∧ w_X9_down s1 s0 M fun M82 => isO M82 p2 0 ∧ φ (mI M82 p2 0) M82
set_option maxRecDepth 100000 in
theorem sj_X9_goOn_106 {g : GT} {d : Nat} (hd : 4 ≤ d + 1) {φ : Int32 → fM → Prop} {p2 : Nat} {s0 : Int32} {s1 : Nat} {M : fM} (h : j_X9_goOn_106 φ p2 s0 s1 M) : FW g mtX9_goOn (d + 1) 106 [(2, .ref p2)] [.int s0, .ref s1] M 0 0 (rI φ) := by
  unfold j_X9_goOn_106 at h
  obtain ⟨⟨hr84, n83, hs85⟩, h_1⟩ := h
  refine fw_callV (mt' := mtX9_down) (mc := 0) (ms := 0) (As := [.int s0]) (rest := []) 1 9 n83 (show decode _ _ = .ok (.invokevirtual 63, 3) by decide +kernel) cv_X9_63 ⟨_, rfl, rfl⟩ hr84 hs85 rfl (Nat.le_of_ble_eq_true rfl) (s_X9_down (d := d) (hd_le hd (by decide)) h_1) (by decide) (by decide) (kV (bc' := 0) (bs' := 0) (by decide) (by decide) (fun M82 h_2 => ?_))
  refine fw_aload_n (i := 2) 0 rfl (show decode _ _ = .ok (.aload_n 2, 1) by decide +kernel) ?_
  obtain ⟨⟨hr87, n86, hs88⟩, h_3⟩ := h_2
  refine fw_getI (kd := 0) (k := 0) (show decode _ _ = .ok (.getfield 51, 3) by decide +kernel) gf_X9_51 hr87 hs88 (Or.inl rfl) ?_
  exact fw_ret (v := some (.int (mI M82 p2 0))) .ireturn (show decode _ _ = .ok (.ireturn, 1) by decide +kernel) ⟨rfl, Or.inl rfl⟩ ⟨_, rfl, h_3⟩
def j_X9_goOn_94 (φ : Int32 → fM → Prop) (p0 : Nat) (p1 : Int32) (p2 : Nat) (s0 : Int32) (s1 : Int32) (s2 : Int32) (s3 : Nat) (M : fM) : Prop := nm (s1 + s0) fun x89 => 6 ≤ s3 ∧ inA M s3 12 s2 ∧ st (wI M s3 (ix s2) x89) fun M95 => iF (p1 = 0) (j_X9_goOn_106 φ p2 (0 : Int32) p0 M95) (j_X9_goOn_106 φ p2 (1 : Int32) p0 M95)
set_option maxRecDepth 100000 in
theorem sj_X9_goOn_94 {g : GT} {d : Nat} (hd : 4 ≤ d + 1) {φ : Int32 → fM → Prop} {p0 : Nat} {p1 : Int32} {p2 : Nat} {s0 : Int32} {s1 : Int32} {s2 : Int32} {s3 : Nat} {M : fM} (h : j_X9_goOn_94 φ p0 p1 p2 s0 s1 s2 s3 M) : FW g mtX9_goOn (d + 1) 94 [(0, .ref p0), (1, .int p1), (2, .ref p2)] [.int s0, .int s1, .int s2, .ref s3] M 0 0 (rI φ) := by
  unfold j_X9_goOn_94 at h
  refine fw_iadd (show decode _ _ = .ok (.iadd, 1) by decide +kernel) ?_
  refine fw_nmI (fun x89 ex90 => ?_)
  have h_1 := h x89 ex90
  obtain ⟨hr94, ⟨n91, hs92, hi93⟩, h_2⟩ := h_1
  refine fw_iast (show decode _ _ = .ok (.iastore, 1) by decide +kernel) hr94 hs92 hi93 ?_
  refine FW.nmM (fun M95 eM96 => ?_)
  have h_3 := h_2 M95 eM96
  refine fw_aload_n (i := 0) 0 rfl (show decode _ _ = .ok (.aload_n 0, 1) by decide +kernel) ?_
  refine fw_iload_n (i := 1) 1 rfl (show decode _ _ = .ok (.iload_n 1, 1) by decide +kernel) ?_
  refine fw_if_eq 105 (show decode _ _ = .ok (.ifCond .eq 7, 3) by decide +kernel) (by decide) (fun hc97 => ?_) (fun hc97 => ?_)
  · have h_4 := ipos hc97 h_3
    refine fw_iconst (v := (0 : Int32)) (show decode _ _ = .ok (.iconst 0, 1) by decide +kernel) (by decide) ?_
    refine FW.sub [2] (ls' := [(2, .ref p2)]) rfl ?_
    exact sj_X9_goOn_106 hd h_4
  · have h_5 := ineg hc97 h_3
    refine fw_iconst (v := (1 : Int32)) (show decode _ _ = .ok (.iconst 1, 1) by decide +kernel) (by decide) ?_
    refine fw_goto 106 (show decode _ _ = .ok (.goto 4, 3) by decide +kernel) (by decide) ?_
    refine FW.sub [2] (ls' := [(2, .ref p2)]) rfl ?_
    exact sj_X9_goOn_106 hd h_5
def j_X9_goOn_46 (φ : Int32 → fM → Prop) (p0 : Nat) (p1 : Int32) (p2 : Nat) (s0 : Int32) (s1 : Int32) (s2 : Int32) (s3 : Nat) (M : fM) : Prop := nm (s1 + s0) fun x98 => 6 ≤ s3 ∧ inA M s3 12 s2 ∧ st (wI M s3 (ix s2) x98) fun M104 => isO M104 p0 9 ∧ dR (mP M104 p0 0) fun y109 => isO M104 y109 5 ∧ dR (mP M104 y109 7) fun y114 => inA M104 y114 12 (3 : Int32) ∧ nm ((mI M104 y114 (ix (3 : Int32))) + (1 : Int32)) fun x119 => isO M104 p2 0 ∧ iF (x119 ≤ (mI M104 p2 0)) (dR (mP M104 p0 0) fun y124 => isO M104 y124 5 ∧ dR (mP M104 y124 7) fun y129 => 6 ≤ y129 ∧ inA M104 y129 12 (3 : Int32) ∧ st (wI M104 y129 (ix (3 : Int32)) x119) fun M135 => dR (mP M135 p0 1) fun y137 => isO M135 y137 1 ∧ w_X1_face y137 p2 x119 M135 fun M139 => iF (p1 = 0) (j_X9_goOn_181 φ p0 p2 x119 M139) (isO M139 p0 9 ∧ dR (mP M139 p0 1) fun y146 => isO M139 y146 1 ∧ w_X1_tripsNow y146 M139 fun x152 M148 => iF (x152 = 0) (j_X9_goOn_181 φ p0 p2 x119 M148) (isO M148 p0 9 ∧ dR (mP M148 p0 0) fun y156 => isO M148 y156 5 ∧ dR (mP M148 y156 7) fun y161 => inA M148 y161 12 (6 : Int32) ∧ dR (mP M148 p0 1) fun y166 => isO M148 y166 1 ∧ w_X1_fallNow y166 M148 fun x172 M168 => nm ((mI M148 y161 (ix (6 : Int32))) + x172) fun x173 => 6 ≤ y161 ∧ inA M168 y161 12 (6 : Int32) ∧ st (wI M168 y161 (ix (6 : Int32)) x173) fun M179 => isO M179 p0 9 ∧ dR (mP M179 p0 0) fun y184 => isO M179 y184 5 ∧ dR (mP M179 y184 7) fun y189 => inA M179 y189 12 (7 : Int32) ∧ nm ((mI M179 y189 (ix (7 : Int32))) + (1 : Int32)) fun x194 => 6 ≤ y189 ∧ inA M179 y189 12 (7 : Int32) ∧ st (wI M179 y189 (ix (7 : Int32)) x194) fun M200 => j_X9_goOn_181 φ p0 p2 x119 M200))) (dR (mP M104 p0 0) fun y204 => isO M104 y204 5 ∧ dR (mP M104 y204 7) fun y209 => inA M104 y209 12 (6 : Int32) ∧ iF (p1 = 0) (j_X9_goOn_94 φ p0 p1 p2 (0 : Int32) (mI M104 y209 (ix (6 : Int32))) (6 : Int32) y209 M104) (dR (mP M104 p0 1) fun y214 => isO M104 y214 1 ∧ w_X1_jarNow y214 M104 fun x220 M216 => j_X9_goOn_94 φ p0 p1 p2 x220 (mI M104 y209 (ix (6 : Int32))) (6 : Int32) y209 M216))
set_option maxRecDepth 100000 in
theorem sj_X9_goOn_46 {g : GT} {d : Nat} (hd : 4 ≤ d + 1) {φ : Int32 → fM → Prop} {p0 : Nat} {p1 : Int32} {p2 : Nat} {s0 : Int32} {s1 : Int32} {s2 : Int32} {s3 : Nat} {M : fM} (h : j_X9_goOn_46 φ p0 p1 p2 s0 s1 s2 s3 M) : FW g mtX9_goOn (d + 1) 46 [(0, .ref p0), (1, .int p1), (2, .ref p2)] [.int s0, .int s1, .int s2, .ref s3] M 0 0 (rI φ) := by
  unfold j_X9_goOn_46 at h
  refine fw_iadd (show decode _ _ = .ok (.iadd, 1) by decide +kernel) ?_
  refine fw_nmI (fun x98 ex99 => ?_)
  have h_1 := h x98 ex99
  obtain ⟨hr103, ⟨n100, hs101, hi102⟩, h_2⟩ := h_1
  refine fw_iast (show decode _ _ = .ok (.iastore, 1) by decide +kernel) hr103 hs101 hi102 ?_
  refine FW.nmM (fun M104 eM105 => ?_)
  have h_3 := h_2 M104 eM105
  refine fw_aload_n (i := 0) 0 rfl (show decode _ _ = .ok (.aload_n 0, 1) by decide +kernel) ?_
  obtain ⟨⟨hr107, n106, hs108⟩, h_4⟩ := h_3
  refine fw_getP (kd := 9) (k := 0) (show decode _ _ = .ok (.getfield 9, 3) by decide +kernel) gf_X9_9 hr107 hs108 rfl ?_
  have h_5 := dR_e h_4
  obtain ⟨y109, hy110, h_6⟩ := h_5
  refine fw_deref hy110 ?_
  obtain ⟨⟨hr112, n111, hs113⟩, h_7⟩ := h_6
  refine fw_getP (kd := 5) (k := 7) (show decode _ _ = .ok (.getfield 36, 3) by decide +kernel) gf_X9_36 hr112 hs113 rfl ?_
  have h_8 := dR_e h_7
  obtain ⟨y114, hy115, h_9⟩ := h_8
  refine fw_deref hy115 ?_
  refine fw_iconst (v := (3 : Int32)) (show decode _ _ = .ok (.iconst 3, 1) by decide +kernel) (by decide) ?_
  obtain ⟨⟨n116, hs117, hi118⟩, h_10⟩ := h_9
  refine fw_iald (show decode _ _ = .ok (.iaload, 1) by decide +kernel) hs117 hi118 ?_
  refine fw_iconst (v := (1 : Int32)) (show decode _ _ = .ok (.iconst 1, 1) by decide +kernel) (by decide) ?_
  refine fw_iadd (show decode _ _ = .ok (.iadd, 1) by decide +kernel) ?_
  refine fw_nmI (fun x119 ex120 => ?_)
  have h_11 := h_10 x119 ex120
  refine fw_istore_n (i := 3) (ls' := [(3, .int x119), (0, .ref p0), (1, .int p1), (2, .ref p2)]) (show decode _ _ = .ok (.istore_n 3, 1) by decide +kernel) (by decide) rfl ?_
  refine fw_iload_n (i := 3) 0 rfl (show decode _ _ = .ok (.iload_n 3, 1) by decide +kernel) ?_
  refine fw_aload_n (i := 2) 3 rfl (show decode _ _ = .ok (.aload_n 2, 1) by decide +kernel) ?_
  obtain ⟨⟨hr122, n121, hs123⟩, h_12⟩ := h_11
  refine fw_getI (kd := 0) (k := 0) (show decode _ _ = .ok (.getfield 51, 3) by decide +kernel) gf_X9_51 hr122 hs123 (Or.inl rfl) ?_
  refine fw_icmp_le 114 (show decode _ _ = .ok (.if_icmp .le 49, 3) by decide +kernel) (by decide) (fun hc222 => ?_) (fun hc222 => ?_)
  · have h_13 := ipos hc222 h_12
    refine fw_aload_n (i := 0) 1 rfl (show decode _ _ = .ok (.aload_n 0, 1) by decide +kernel) ?_
    refine fw_getP (kd := 9) (k := 0) (show decode _ _ = .ok (.getfield 9, 3) by decide +kernel) gf_X9_9 hr107 hs108 rfl ?_
    have h_14 := dR_e h_13
    obtain ⟨y124, hy125, h_15⟩ := h_14
    refine fw_deref hy125 ?_
    obtain ⟨⟨hr127, n126, hs128⟩, h_16⟩ := h_15
    refine fw_getP (kd := 5) (k := 7) (show decode _ _ = .ok (.getfield 36, 3) by decide +kernel) gf_X9_36 hr127 hs128 rfl ?_
    have h_17 := dR_e h_16
    obtain ⟨y129, hy130, h_18⟩ := h_17
    refine fw_deref hy130 ?_
    refine fw_iconst (v := (3 : Int32)) (show decode _ _ = .ok (.iconst 3, 1) by decide +kernel) (by decide) ?_
    refine fw_iload_n (i := 3) 0 rfl (show decode _ _ = .ok (.iload_n 3, 1) by decide +kernel) ?_
    obtain ⟨hr134, ⟨n131, hs132, hi133⟩, h_19⟩ := h_18
    refine fw_iast (show decode _ _ = .ok (.iastore, 1) by decide +kernel) hr134 hs132 hi133 ?_
    refine FW.nmM (fun M135 eM136 => ?_)
    have h_20 := h_19 M135 eM136
    refine fw_aload_n (i := 0) 1 rfl (show decode _ _ = .ok (.aload_n 0, 1) by decide +kernel) ?_
    refine fw_getP (kd := 9) (k := 1) (show decode _ _ = .ok (.getfield 15, 3) by decide +kernel) gf_X9_15 hr107 (mSw_I eM136 hs108) rfl ?_
    have h_21 := dR_e h_20
    obtain ⟨y137, hy138, h_22⟩ := h_21
    refine fw_deref hy138 ?_
    refine fw_aload_n (i := 2) 3 rfl (show decode _ _ = .ok (.aload_n 2, 1) by decide +kernel) ?_
    refine fw_iload_n (i := 3) 0 rfl (show decode _ _ = .ok (.iload_n 3, 1) by decide +kernel) ?_
    obtain ⟨⟨hr141, n140, hs142⟩, h_23⟩ := h_22
    refine fw_callV (mt' := mtX1_face) (mc := 0) (ms := 0) (As := [.ref p2, .int x119]) (rest := []) 2 1 n140 (show decode _ _ = .ok (.invokevirtual 166, 3) by decide +kernel) cv_X9_166 ⟨_, rfl, rfl⟩ hr141 hs142 rfl (Nat.le_of_ble_eq_true rfl) (s_X1_face (d := d) (hd_le hd (by decide)) h_23) (by decide) (by decide) (kV (bc' := 0) (bs' := 0) (by decide) (by decide) (fun M139 h_24 => ?_))
    refine fw_iload_n (i := 1) 2 rfl (show decode _ _ = .ok (.iload_n 1, 1) by decide +kernel) ?_
    refine fw_if_eq 181 (show decode _ _ = .ok (.ifCond .eq 47, 3) by decide +kernel) (by decide) (fun hc203 => ?_) (fun hc203 => ?_)
    · have h_25 := ipos hc203 h_24
      refine FW.sub [1, 3, 0] (ls' := [(0, .ref p0), (2, .ref p2), (3, .int x119)]) rfl ?_
      exact sj_X9_goOn_181 hd h_25
    · have h_26 := ineg hc203 h_24
      refine fw_aload_n (i := 0) 1 rfl (show decode _ _ = .ok (.aload_n 0, 1) by decide +kernel) ?_
      obtain ⟨⟨hr144, n143, hs145⟩, h_27⟩ := h_26
      refine fw_getP (kd := 9) (k := 1) (show decode _ _ = .ok (.getfield 15, 3) by decide +kernel) gf_X9_15 hr144 hs145 rfl ?_
      have h_28 := dR_e h_27
      obtain ⟨y146, hy147, h_29⟩ := h_28
      refine fw_deref hy147 ?_
      obtain ⟨⟨hr150, n149, hs151⟩, h_30⟩ := h_29
      refine fw_callV (mt' := mtX1_tripsNow) (mc := 0) (ms := 0) (As := []) (rest := []) 0 1 n149 (show decode _ _ = .ok (.invokevirtual 170, 3) by decide +kernel) cv_X9_170 ⟨_, rfl, rfl⟩ hr150 hs151 rfl (Nat.le_of_ble_eq_true rfl) (s_X1_tripsNow (d := d) (hd_le hd (by decide)) h_30) (by decide) (by decide) (kI (bc' := 0) (bs' := 0) (by decide) (by decide) (fun x152 M148 h_31 => ?_))
      refine fw_if_eq 181 (show decode _ _ = .ok (.ifCond .eq 37, 3) by decide +kernel) (by decide) (fun hc202 => ?_) (fun hc202 => ?_)
      · have h_32 := ipos hc202 h_31
        refine FW.sub [1, 3, 0] (ls' := [(0, .ref p0), (2, .ref p2), (3, .int x119)]) rfl ?_
        exact sj_X9_goOn_181 hd h_32
      · have h_33 := ineg hc202 h_31
        refine fw_aload_n (i := 0) 1 rfl (show decode _ _ = .ok (.aload_n 0, 1) by decide +kernel) ?_
        obtain ⟨⟨hr154, n153, hs155⟩, h_34⟩ := h_33
        refine fw_getP (kd := 9) (k := 0) (show decode _ _ = .ok (.getfield 9, 3) by decide +kernel) gf_X9_9 hr154 hs155 rfl ?_
        have h_35 := dR_e h_34
        obtain ⟨y156, hy157, h_36⟩ := h_35
        refine fw_deref hy157 ?_
        obtain ⟨⟨hr159, n158, hs160⟩, h_37⟩ := h_36
        refine fw_getP (kd := 5) (k := 7) (show decode _ _ = .ok (.getfield 36, 3) by decide +kernel) gf_X9_36 hr159 hs160 rfl ?_
        have h_38 := dR_e h_37
        obtain ⟨y161, hy162, h_39⟩ := h_38
        refine fw_deref hy162 ?_
        refine fw_bipush (v := (6 : Int32)) (show decode _ _ = .ok (.bipush 6, 2) by decide +kernel) (by decide) ?_
        refine fw_dup2_11 (show decode _ _ = .ok (.dup2, 1) by decide +kernel) rfl rfl ?_
        obtain ⟨⟨n163, hs164, hi165⟩, h_40⟩ := h_39
        refine fw_iald (show decode _ _ = .ok (.iaload, 1) by decide +kernel) hs164 hi165 ?_
        refine fw_aload_n (i := 0) 1 rfl (show decode _ _ = .ok (.aload_n 0, 1) by decide +kernel) ?_
        refine fw_getP (kd := 9) (k := 1) (show decode _ _ = .ok (.getfield 15, 3) by decide +kernel) gf_X9_15 hr154 hs155 rfl ?_
        have h_41 := dR_e h_40
        obtain ⟨y166, hy167, h_42⟩ := h_41
        refine fw_deref hy167 ?_
        obtain ⟨⟨hr170, n169, hs171⟩, h_43⟩ := h_42
        refine fw_callV (mt' := mtX1_fallNow) (mc := 0) (ms := 0) (As := []) (rest := [.int (mI M148 y161 (ix (6 : Int32))), .int (6 : Int32), .ref y161]) 0 1 n169 (show decode _ _ = .ok (.invokevirtual 57, 3) by decide +kernel) cv_X9_57 ⟨_, rfl, rfl⟩ hr170 hs171 rfl (Nat.le_of_ble_eq_true rfl) (s_X1_fallNow (d := d) (hd_le hd (by decide)) h_43) (by decide) (by decide) (kI (bc' := 0) (bs' := 0) (by decide) (by decide) (fun x172 M168 h_44 => ?_))
        refine fw_iadd (show decode _ _ = .ok (.iadd, 1) by decide +kernel) ?_
        refine fw_nmI (fun x173 ex174 => ?_)
        have h_45 := h_44 x173 ex174
        obtain ⟨hr178, ⟨n175, hs176, hi177⟩, h_46⟩ := h_45
        refine fw_iast (show decode _ _ = .ok (.iastore, 1) by decide +kernel) hr178 hs176 hi177 ?_
        refine FW.nmM (fun M179 eM180 => ?_)
        have h_47 := h_46 M179 eM180
        refine fw_aload_n (i := 0) 1 rfl (show decode _ _ = .ok (.aload_n 0, 1) by decide +kernel) ?_
        obtain ⟨⟨hr182, n181, hs183⟩, h_48⟩ := h_47
        refine fw_getP (kd := 9) (k := 0) (show decode _ _ = .ok (.getfield 9, 3) by decide +kernel) gf_X9_9 hr182 hs183 rfl ?_
        have h_49 := dR_e h_48
        obtain ⟨y184, hy185, h_50⟩ := h_49
        refine fw_deref hy185 ?_
        obtain ⟨⟨hr187, n186, hs188⟩, h_51⟩ := h_50
        refine fw_getP (kd := 5) (k := 7) (show decode _ _ = .ok (.getfield 36, 3) by decide +kernel) gf_X9_36 hr187 hs188 rfl ?_
        have h_52 := dR_e h_51
        obtain ⟨y189, hy190, h_53⟩ := h_52
        refine fw_deref hy190 ?_
        refine fw_bipush (v := (7 : Int32)) (show decode _ _ = .ok (.bipush 7, 2) by decide +kernel) (by decide) ?_
        refine fw_dup2_11 (show decode _ _ = .ok (.dup2, 1) by decide +kernel) rfl rfl ?_
        obtain ⟨⟨n191, hs192, hi193⟩, h_54⟩ := h_53
        refine fw_iald (show decode _ _ = .ok (.iaload, 1) by decide +kernel) hs192 hi193 ?_
        refine fw_iconst (v := (1 : Int32)) (show decode _ _ = .ok (.iconst 1, 1) by decide +kernel) (by decide) ?_
        refine fw_iadd (show decode _ _ = .ok (.iadd, 1) by decide +kernel) ?_
        refine fw_nmI (fun x194 ex195 => ?_)
        have h_55 := h_54 x194 ex195
        obtain ⟨hr199, ⟨n196, hs197, hi198⟩, h_56⟩ := h_55
        refine fw_iast (show decode _ _ = .ok (.iastore, 1) by decide +kernel) hr199 hs197 hi198 ?_
        refine FW.nmM (fun M200 eM201 => ?_)
        have h_57 := h_56 M200 eM201
        refine FW.sub [1, 3, 0] (ls' := [(0, .ref p0), (2, .ref p2), (3, .int x119)]) rfl ?_
        exact sj_X9_goOn_181 hd h_57
  · have h_58 := ineg hc222 h_12
    refine fw_aload_n (i := 0) 1 rfl (show decode _ _ = .ok (.aload_n 0, 1) by decide +kernel) ?_
    refine fw_getP (kd := 9) (k := 0) (show decode _ _ = .ok (.getfield 9, 3) by decide +kernel) gf_X9_9 hr107 hs108 rfl ?_
    have h_59 := dR_e h_58
    obtain ⟨y204, hy205, h_60⟩ := h_59
    refine fw_deref hy205 ?_
    obtain ⟨⟨hr207, n206, hs208⟩, h_61⟩ := h_60
    refine fw_getP (kd := 5) (k := 7) (show decode _ _ = .ok (.getfield 36, 3) by decide +kernel) gf_X9_36 hr207 hs208 rfl ?_
    have h_62 := dR_e h_61
    obtain ⟨y209, hy210, h_63⟩ := h_62
    refine fw_deref hy210 ?_
    refine fw_bipush (v := (6 : Int32)) (show decode _ _ = .ok (.bipush 6, 2) by decide +kernel) (by decide) ?_
    refine fw_dup2_11 (show decode _ _ = .ok (.dup2, 1) by decide +kernel) rfl rfl ?_
    obtain ⟨⟨n211, hs212, hi213⟩, h_64⟩ := h_63
    refine fw_iald (show decode _ _ = .ok (.iaload, 1) by decide +kernel) hs212 hi213 ?_
    refine fw_iload_n (i := 1) 2 rfl (show decode _ _ = .ok (.iload_n 1, 1) by decide +kernel) ?_
    refine fw_if_eq 93 (show decode _ _ = .ok (.ifCond .eq 13, 3) by decide +kernel) (by decide) (fun hc221 => ?_) (fun hc221 => ?_)
    · have h_65 := ipos hc221 h_64
      refine fw_iconst (v := (0 : Int32)) (show decode _ _ = .ok (.iconst 0, 1) by decide +kernel) (by decide) ?_
      refine FW.sub [1, 2, 3] (ls' := [(0, .ref p0), (1, .int p1), (2, .ref p2)]) rfl ?_
      exact sj_X9_goOn_94 hd h_65
    · have h_66 := ineg hc221 h_64
      refine fw_aload_n (i := 0) 1 rfl (show decode _ _ = .ok (.aload_n 0, 1) by decide +kernel) ?_
      refine fw_getP (kd := 9) (k := 1) (show decode _ _ = .ok (.getfield 15, 3) by decide +kernel) gf_X9_15 hr107 hs108 rfl ?_
      have h_67 := dR_e h_66
      obtain ⟨y214, hy215, h_68⟩ := h_67
      refine fw_deref hy215 ?_
      obtain ⟨⟨hr218, n217, hs219⟩, h_69⟩ := h_68
      refine fw_callV (mt' := mtX1_jarNow) (mc := 0) (ms := 0) (As := []) (rest := [.int (mI M104 y209 (ix (6 : Int32))), .int (6 : Int32), .ref y209]) 0 1 n217 (show decode _ _ = .ok (.invokevirtual 163, 3) by decide +kernel) cv_X9_163 ⟨_, rfl, rfl⟩ hr218 hs219 rfl (Nat.le_of_ble_eq_true rfl) (s_X1_jarNow (d := d) (hd_le hd (by decide)) h_69) (by decide) (by decide) (kI (bc' := 0) (bs' := 0) (by decide) (by decide) (fun x220 M216 h_70 => ?_))
      refine fw_goto 94 (show decode _ _ = .ok (.goto 4, 3) by decide +kernel) (by decide) ?_
      refine FW.sub [1, 2, 3] (ls' := [(0, .ref p0), (1, .int p1), (2, .ref p2)]) rfl ?_
      exact sj_X9_goOn_94 hd h_70
def w_X9_goOn (p0 : Nat) (p1 : Int32) (M : fM) (φ : Int32 → fM → Prop) : Prop := isO M p0 9 ∧ dR (mP M p0 0) fun y226 => dR (mP M p0 0) fun y228 => isO M y228 5 ∧ dR (mP M y228 7) fun y233 => inA M y233 12 (1 : Int32) ∧ isO M y226 5 ∧ w_X5_houseOf y226 (mI M y233 (ix (1 : Int32))) M fun o242 M238 => gN o242 (fun y243 => isO M238 p0 9 ∧ w_X9_turnToWay p0 M238 fun M245 => isO M245 p0 9 ∧ dR (mP M245 p0 0) fun y252 => isO M245 y252 5 ∧ dR (mP M245 y252 7) fun y257 => inA M245 y257 12 (5 : Int32) ∧ iF (p1 = 0) (j_X9_goOn_46 φ p0 p1 y243 (3 : Int32) (mI M245 y257 (ix (5 : Int32))) (5 : Int32) y257 M245) (j_X9_goOn_46 φ p0 p1 y243 (1 : Int32) (mI M245 y257 (ix (5 : Int32))) (5 : Int32) y257 M245)) (φ (-1 : Int32) M238)
set_option maxRecDepth 100000 in
theorem s_X9_goOn {g : GT} {d : Nat} (hd : 4 ≤ d) {p0 : Nat} {p1 : Int32} {M : fM} {φ : Int32 → fM → Prop} (h : w_X9_goOn p0 p1 M φ) : FC g mtX9_goOn d [.ref p0, .int p1] M 0 0 (rI φ) := by
  obtain ⟨d, rfl⟩ : ∃ e, d = e + 1 := ⟨d - 1, by omega⟩
  unfold w_X9_goOn at h
  refine FC.intro (nL := 7) (by decide) rfl (Nat.le_of_ble_eq_true rfl) ?_
  show FW g mtX9_goOn (d + 1) 0 [(0, .ref p0), (1, .int p1)] [] M 0 0 (rI φ)
  refine fw_aload_n (i := 0) 0 rfl (show decode _ _ = .ok (.aload_n 0, 1) by decide +kernel) ?_
  obtain ⟨⟨hr224, n223, hs225⟩, h_1⟩ := h
  refine fw_getP (kd := 9) (k := 0) (show decode _ _ = .ok (.getfield 9, 3) by decide +kernel) gf_X9_9 hr224 hs225 rfl ?_
  have h_2 := dR_e h_1
  obtain ⟨y226, hy227, h_3⟩ := h_2
  refine fw_deref hy227 ?_
  refine fw_aload_n (i := 0) 0 rfl (show decode _ _ = .ok (.aload_n 0, 1) by decide +kernel) ?_
  refine fw_getP (kd := 9) (k := 0) (show decode _ _ = .ok (.getfield 9, 3) by decide +kernel) gf_X9_9 hr224 hs225 rfl ?_
  have h_4 := dR_e h_3
  obtain ⟨y228, hy229, h_5⟩ := h_4
  refine fw_deref hy229 ?_
  obtain ⟨⟨hr231, n230, hs232⟩, h_6⟩ := h_5
  refine fw_getP (kd := 5) (k := 7) (show decode _ _ = .ok (.getfield 36, 3) by decide +kernel) gf_X9_36 hr231 hs232 rfl ?_
  have h_7 := dR_e h_6
  obtain ⟨y233, hy234, h_8⟩ := h_7
  refine fw_deref hy234 ?_
  refine fw_iconst (v := (1 : Int32)) (show decode _ _ = .ok (.iconst 1, 1) by decide +kernel) (by decide) ?_
  obtain ⟨⟨n235, hs236, hi237⟩, h_9⟩ := h_8
  refine fw_iald (show decode _ _ = .ok (.iaload, 1) by decide +kernel) hs236 hi237 ?_
  obtain ⟨⟨hr240, n239, hs241⟩, h_10⟩ := h_9
  refine fw_callV (mt' := mtX5_houseOf) (mc := 0) (ms := 0) (As := [.int (mI M y233 (ix (1 : Int32)))]) (rest := []) 1 5 n239 (show decode _ _ = .ok (.invokevirtual 25, 3) by decide +kernel) cv_X9_25 ⟨_, rfl, rfl⟩ hr240 hs241 rfl (Nat.le_of_ble_eq_true rfl) (s_X5_houseOf (d := d) (hd_le hd (by decide)) h_10) (by decide) (by decide) (kP (bc' := 0) (bs' := 0) (by decide) (by decide) (fun o242 M238 h_11 => ?_))
  refine fw_astoreq_n (i := 2) (ls' := [(2, fr o242), (0, .ref p0), (1, .int p1)]) (show decode _ _ = .ok (.astore_n 2, 1) by decide +kernel) (by decide) rfl ?_
  refine fw_aloadq_n (i := 2) 0 rfl (show decode _ _ = .ok (.aload_n 2, 1) by decide +kernel) ?_
  refine fw_ifnonnull (x := o242) 23 (show decode _ _ = .ok (.ifnonnull 5, 3) by decide +kernel) (by decide) (fun y243 hy244 => ?_) (fun hy244 => ?_)
  · have h_12 := gN_s hy244 h_11
    subst hy244
    refine fw_aload_n (i := 0) 1 rfl (show decode _ _ = .ok (.aload_n 0, 1) by decide +kernel) ?_
    obtain ⟨⟨hr247, n246, hs248⟩, h_13⟩ := h_12
    refine fw_callV (mt' := mtX9_turnToWay) (mc := 0) (ms := 0) (As := []) (rest := []) 0 9 n246 (show decode _ _ = .ok (.invokevirtual 48, 3) by decide +kernel) cv_X9_48 ⟨_, rfl, rfl⟩ hr247 hs248 rfl (Nat.le_of_ble_eq_true rfl) (s_X9_turnToWay (d := d) (hd_le hd (by decide)) h_13) (by decide) (by decide) (kV (bc' := 0) (bs' := 0) (by decide) (by decide) (fun M245 h_14 => ?_))
    refine fw_aload_n (i := 0) 1 rfl (show decode _ _ = .ok (.aload_n 0, 1) by decide +kernel) ?_
    obtain ⟨⟨hr250, n249, hs251⟩, h_15⟩ := h_14
    refine fw_getP (kd := 9) (k := 0) (show decode _ _ = .ok (.getfield 9, 3) by decide +kernel) gf_X9_9 hr250 hs251 rfl ?_
    have h_16 := dR_e h_15
    obtain ⟨y252, hy253, h_17⟩ := h_16
    refine fw_deref hy253 ?_
    obtain ⟨⟨hr255, n254, hs256⟩, h_18⟩ := h_17
    refine fw_getP (kd := 5) (k := 7) (show decode _ _ = .ok (.getfield 36, 3) by decide +kernel) gf_X9_36 hr255 hs256 rfl ?_
    have h_19 := dR_e h_18
    obtain ⟨y257, hy258, h_20⟩ := h_19
    refine fw_deref hy258 ?_
    refine fw_iconst (v := (5 : Int32)) (show decode _ _ = .ok (.iconst 5, 1) by decide +kernel) (by decide) ?_
    refine fw_dup2_11 (show decode _ _ = .ok (.dup2, 1) by decide +kernel) rfl rfl ?_
    obtain ⟨⟨n259, hs260, hi261⟩, h_21⟩ := h_20
    refine fw_iald (show decode _ _ = .ok (.iaload, 1) by decide +kernel) hs260 hi261 ?_
    refine fw_iload_n (i := 1) 2 rfl (show decode _ _ = .ok (.iload_n 1, 1) by decide +kernel) ?_
    refine fw_if_eq 45 (show decode _ _ = .ok (.ifCond .eq 7, 3) by decide +kernel) (by decide) (fun hc262 => ?_) (fun hc262 => ?_)
    · have h_22 := ipos hc262 h_21
      refine fw_iconst (v := (3 : Int32)) (show decode _ _ = .ok (.iconst 3, 1) by decide +kernel) (by decide) ?_
      refine FW.sub [1, 2, 0] (ls' := [(0, .ref p0), (1, .int p1), (2, .ref y243)]) rfl ?_
      exact sj_X9_goOn_46 hd h_22
    · have h_23 := ineg hc262 h_21
      refine fw_iconst (v := (1 : Int32)) (show decode _ _ = .ok (.iconst 1, 1) by decide +kernel) (by decide) ?_
      refine fw_goto 46 (show decode _ _ = .ok (.goto 4, 3) by decide +kernel) (by decide) ?_
      refine FW.sub [1, 2, 0] (ls' := [(0, .ref p0), (1, .int p1), (2, .ref y243)]) rfl ?_
      exact sj_X9_goOn_46 hd h_23
  · have h_24 := gN_n hy244 h_11
    subst hy244
    refine fw_iconst (v := (-1 : Int32)) (show decode _ _ = .ok (.iconst (-1), 1) by decide +kernel) (by decide) ?_
    exact fw_ret (v := some (.int (-1 : Int32))) .ireturn (show decode _ _ = .ok (.ireturn, 1) by decide +kernel) ⟨rfl, Or.inl rfl⟩ ⟨_, rfl, h_24⟩
def w_X9_stepAct (p0 : Nat) (M : fM) (φ : Int32 → fM → Prop) : Prop := isO M p0 9 ∧ dR (mP M p0 0) fun y4 => isO M y4 5 ∧ w_X5_isOnWay y4 M fun x10 M6 => iF (x10 = 0) (φ (-1 : Int32) M6) (isO M6 p0 9 ∧ dR (mP M6 p0 0) fun y14 => isO M6 y14 5 ∧ w_X5_remember y14 M6 fun M16 => isO M16 p0 9 ∧ w_X9_goOn p0 (1 : Int32) M16 fun x24 M20 => φ x24 M20)
set_option maxRecDepth 100000 in
theorem s_X9_stepAct {g : GT} {d : Nat} (hd : 5 ≤ d) {p0 : Nat} {M : fM} {φ : Int32 → fM → Prop} (h : w_X9_stepAct p0 M φ) : FC g mtX9_stepAct d [.ref p0] M 0 0 (rI φ) := by
  obtain ⟨d, rfl⟩ : ∃ e, d = e + 1 := ⟨d - 1, by omega⟩
  unfold w_X9_stepAct at h
  refine FC.intro (nL := 1) (by decide) rfl (Nat.le_of_ble_eq_true rfl) ?_
  show FW g mtX9_stepAct (d + 1) 0 [(0, .ref p0)] [] M 0 0 (rI φ)
  refine fw_aload_n (i := 0) 0 rfl (show decode _ _ = .ok (.aload_n 0, 1) by decide +kernel) ?_
  obtain ⟨⟨hr2, n1, hs3⟩, h_1⟩ := h
  refine fw_getP (kd := 9) (k := 0) (show decode _ _ = .ok (.getfield 9, 3) by decide +kernel) gf_X9_9 hr2 hs3 rfl ?_
  have h_2 := dR_e h_1
  obtain ⟨y4, hy5, h_3⟩ := h_2
  refine fw_deref hy5 ?_
  obtain ⟨⟨hr8, n7, hs9⟩, h_4⟩ := h_3
  refine fw_callV (mt' := mtX5_isOnWay) (mc := 0) (ms := 0) (As := []) (rest := []) 0 5 n7 (show decode _ _ = .ok (.invokevirtual 40, 3) by decide +kernel) cv_X9_40 ⟨_, rfl, rfl⟩ hr8 hs9 rfl (Nat.le_of_ble_eq_true rfl) (s_X5_isOnWay (d := d) (hd_le hd (by decide)) h_4) (by decide) (by decide) (kI (bc' := 0) (bs' := 0) (by decide) (by decide) (fun x10 M6 h_5 => ?_))
  refine fw_if_ne 12 (show decode _ _ = .ok (.ifCond .ne 5, 3) by decide +kernel) (by decide) (fun hc25 => ?_) (fun hc25 => ?_)
  · have h_6 := ineg hc25 h_5
    refine fw_aload_n (i := 0) 0 rfl (show decode _ _ = .ok (.aload_n 0, 1) by decide +kernel) ?_
    obtain ⟨⟨hr12, n11, hs13⟩, h_7⟩ := h_6
    refine fw_getP (kd := 9) (k := 0) (show decode _ _ = .ok (.getfield 9, 3) by decide +kernel) gf_X9_9 hr12 hs13 rfl ?_
    have h_8 := dR_e h_7
    obtain ⟨y14, hy15, h_9⟩ := h_8
    refine fw_deref hy15 ?_
    obtain ⟨⟨hr18, n17, hs19⟩, h_10⟩ := h_9
    refine fw_callV (mt' := mtX5_remember) (mc := 0) (ms := 0) (As := []) (rest := []) 0 5 n17 (show decode _ _ = .ok (.invokevirtual 29, 3) by decide +kernel) cv_X9_29 ⟨_, rfl, rfl⟩ hr18 hs19 rfl (Nat.le_of_ble_eq_true rfl) (s_X5_remember (d := d) (hd_le hd (by decide)) h_10) (by decide) (by decide) (kV (bc' := 0) (bs' := 0) (by decide) (by decide) (fun M16 h_11 => ?_))
    refine fw_aload_n (i := 0) 0 rfl (show decode _ _ = .ok (.aload_n 0, 1) by decide +kernel) ?_
    refine fw_iconst (v := (1 : Int32)) (show decode _ _ = .ok (.iconst 1, 1) by decide +kernel) (by decide) ?_
    obtain ⟨⟨hr22, n21, hs23⟩, h_12⟩ := h_11
    refine fw_callV (mt' := mtX9_goOn) (mc := 0) (ms := 0) (As := [.int (1 : Int32)]) (rest := []) 1 9 n21 (show decode _ _ = .ok (.invokevirtual 44, 3) by decide +kernel) cv_X9_44 ⟨_, rfl, rfl⟩ hr22 hs23 rfl (Nat.le_of_ble_eq_true rfl) (s_X9_goOn (d := d) (hd_le hd (by decide)) h_12) (by decide) (by decide) (kI (bc' := 0) (bs' := 0) (by decide) (by decide) (fun x24 M20 h_13 => ?_))
    exact fw_ret (v := some (.int x24)) .ireturn (show decode _ _ = .ok (.ireturn, 1) by decide +kernel) ⟨rfl, Or.inl rfl⟩ ⟨_, rfl, h_13⟩
  · have h_14 := ipos hc25 h_5
    refine fw_iconst (v := (-1 : Int32)) (show decode _ _ = .ok (.iconst (-1), 1) by decide +kernel) (by decide) ?_
    exact fw_ret (v := some (.int (-1 : Int32))) .ireturn (show decode _ _ = .ok (.ireturn, 1) by decide +kernel) ⟨rfl, Or.inl rfl⟩ ⟨_, rfl, h_14⟩
def w_X9_toeAct (p0 : Nat) (M : fM) (φ : Int32 → fM → Prop) : Prop := isO M p0 9 ∧ dR (mP M p0 0) fun y4 => isO M y4 5 ∧ w_X5_isOnWay y4 M fun x10 M6 => iF (x10 = 0) (φ (-1 : Int32) M6) (isO M6 p0 9 ∧ dR (mP M6 p0 0) fun y14 => isO M6 y14 5 ∧ w_X5_remember y14 M6 fun M16 => isO M16 p0 9 ∧ w_X9_goOn p0 (0 : Int32) M16 fun x24 M20 => φ x24 M20)
set_option maxRecDepth 100000 in
theorem s_X9_toeAct {g : GT} {d : Nat} (hd : 5 ≤ d) {p0 : Nat} {M : fM} {φ : Int32 → fM → Prop} (h : w_X9_toeAct p0 M φ) : FC g mtX9_toeAct d [.ref p0] M 0 0 (rI φ) := by
  obtain ⟨d, rfl⟩ : ∃ e, d = e + 1 := ⟨d - 1, by omega⟩
  unfold w_X9_toeAct at h
  refine FC.intro (nL := 1) (by decide) rfl (Nat.le_of_ble_eq_true rfl) ?_
  show FW g mtX9_toeAct (d + 1) 0 [(0, .ref p0)] [] M 0 0 (rI φ)
  refine fw_aload_n (i := 0) 0 rfl (show decode _ _ = .ok (.aload_n 0, 1) by decide +kernel) ?_
  obtain ⟨⟨hr2, n1, hs3⟩, h_1⟩ := h
  refine fw_getP (kd := 9) (k := 0) (show decode _ _ = .ok (.getfield 9, 3) by decide +kernel) gf_X9_9 hr2 hs3 rfl ?_
  have h_2 := dR_e h_1
  obtain ⟨y4, hy5, h_3⟩ := h_2
  refine fw_deref hy5 ?_
  obtain ⟨⟨hr8, n7, hs9⟩, h_4⟩ := h_3
  refine fw_callV (mt' := mtX5_isOnWay) (mc := 0) (ms := 0) (As := []) (rest := []) 0 5 n7 (show decode _ _ = .ok (.invokevirtual 40, 3) by decide +kernel) cv_X9_40 ⟨_, rfl, rfl⟩ hr8 hs9 rfl (Nat.le_of_ble_eq_true rfl) (s_X5_isOnWay (d := d) (hd_le hd (by decide)) h_4) (by decide) (by decide) (kI (bc' := 0) (bs' := 0) (by decide) (by decide) (fun x10 M6 h_5 => ?_))
  refine fw_if_ne 12 (show decode _ _ = .ok (.ifCond .ne 5, 3) by decide +kernel) (by decide) (fun hc25 => ?_) (fun hc25 => ?_)
  · have h_6 := ineg hc25 h_5
    refine fw_aload_n (i := 0) 0 rfl (show decode _ _ = .ok (.aload_n 0, 1) by decide +kernel) ?_
    obtain ⟨⟨hr12, n11, hs13⟩, h_7⟩ := h_6
    refine fw_getP (kd := 9) (k := 0) (show decode _ _ = .ok (.getfield 9, 3) by decide +kernel) gf_X9_9 hr12 hs13 rfl ?_
    have h_8 := dR_e h_7
    obtain ⟨y14, hy15, h_9⟩ := h_8
    refine fw_deref hy15 ?_
    obtain ⟨⟨hr18, n17, hs19⟩, h_10⟩ := h_9
    refine fw_callV (mt' := mtX5_remember) (mc := 0) (ms := 0) (As := []) (rest := []) 0 5 n17 (show decode _ _ = .ok (.invokevirtual 29, 3) by decide +kernel) cv_X9_29 ⟨_, rfl, rfl⟩ hr18 hs19 rfl (Nat.le_of_ble_eq_true rfl) (s_X5_remember (d := d) (hd_le hd (by decide)) h_10) (by decide) (by decide) (kV (bc' := 0) (bs' := 0) (by decide) (by decide) (fun M16 h_11 => ?_))
    refine fw_aload_n (i := 0) 0 rfl (show decode _ _ = .ok (.aload_n 0, 1) by decide +kernel) ?_
    refine fw_iconst (v := (0 : Int32)) (show decode _ _ = .ok (.iconst 0, 1) by decide +kernel) (by decide) ?_
    obtain ⟨⟨hr22, n21, hs23⟩, h_12⟩ := h_11
    refine fw_callV (mt' := mtX9_goOn) (mc := 0) (ms := 0) (As := [.int (0 : Int32)]) (rest := []) 1 9 n21 (show decode _ _ = .ok (.invokevirtual 44, 3) by decide +kernel) cv_X9_44 ⟨_, rfl, rfl⟩ hr22 hs23 rfl (Nat.le_of_ble_eq_true rfl) (s_X9_goOn (d := d) (hd_le hd (by decide)) h_12) (by decide) (by decide) (kI (bc' := 0) (bs' := 0) (by decide) (by decide) (fun x24 M20 h_13 => ?_))
    exact fw_ret (v := some (.int x24)) .ireturn (show decode _ _ = .ok (.ireturn, 1) by decide +kernel) ⟨rfl, Or.inl rfl⟩ ⟨_, rfl, h_13⟩
  · have h_14 := ipos hc25 h_5
    refine fw_iconst (v := (-1 : Int32)) (show decode _ _ = .ok (.iconst (-1), 1) by decide +kernel) (by decide) ?_
    exact fw_ret (v := some (.int (-1 : Int32))) .ireturn (show decode _ _ = .ok (.ireturn, 1) by decide +kernel) ⟨rfl, Or.inl rfl⟩ ⟨_, rfl, h_14⟩
def j_X9_stopAct_91 (φ : Int32 → fM → Prop) (p0 : Nat) (p2 : Int32) (M : fM) : Prop := isO M p0 9 ∧ w_X9_down p0 p2 M fun M1 => φ p2 M1
set_option maxRecDepth 100000 in
theorem sj_X9_stopAct_91 {g : GT} {d : Nat} (hd : 4 ≤ d + 1) {φ : Int32 → fM → Prop} {p0 : Nat} {p2 : Int32} {M : fM} (h : j_X9_stopAct_91 φ p0 p2 M) : FW g mtX9_stopAct (d + 1) 91 [(0, .ref p0), (2, .int p2)] [] M 0 0 (rI φ) := by
  unfold j_X9_stopAct_91 at h
  refine fw_aload_n (i := 0) 0 rfl (show decode _ _ = .ok (.aload_n 0, 1) by decide +kernel) ?_
  refine fw_iload_n (i := 2) 1 rfl (show decode _ _ = .ok (.iload_n 2, 1) by decide +kernel) ?_
  obtain ⟨⟨hr3, n2, hs4⟩, h_1⟩ := h
  refine fw_callV (mt' := mtX9_down) (mc := 0) (ms := 0) (As := [.int p2]) (rest := []) 1 9 n2 (show decode _ _ = .ok (.invokevirtual 63, 3) by decide +kernel) cv_X9_63 ⟨_, rfl, rfl⟩ hr3 hs4 rfl (Nat.le_of_ble_eq_true rfl) (s_X9_down (d := d) (hd_le hd (by decide)) h_1) (by decide) (by decide) (kV (bc' := 0) (bs' := 0) (by decide) (by decide) (fun M1 h_2 => ?_))
  refine fw_iload_n (i := 2) 1 rfl (show decode _ _ = .ok (.iload_n 2, 1) by decide +kernel) ?_
  exact fw_ret (v := some (.int p2)) .ireturn (show decode _ _ = .ok (.ireturn, 1) by decide +kernel) ⟨rfl, Or.inl rfl⟩ ⟨_, rfl, h_2⟩
def j_X9_stopAct_65 (φ : Int32 → fM → Prop) (p0 : Nat) (s0 : Int32) (M : fM) : Prop := iF (s0 = (3 : Int32)) (isO M p0 9 ∧ dR (mP M p0 0) fun y8 => isO M y8 5 ∧ dR (mP M y8 7) fun y13 => inA M y13 12 (6 : Int32) ∧ dR (mP M p0 1) fun y18 => isO M y18 1 ∧ w_X1_fallNow y18 M fun x24 M20 => nm ((mI M y13 (ix (6 : Int32))) + x24) fun x25 => 6 ≤ y13 ∧ inA M20 y13 12 (6 : Int32) ∧ st (wI M20 y13 (ix (6 : Int32)) x25) fun M31 => j_X9_stopAct_91 φ p0 s0 M31) (j_X9_stopAct_91 φ p0 s0 M)
set_option maxRecDepth 100000 in
theorem sj_X9_stopAct_65 {g : GT} {d : Nat} (hd : 4 ≤ d + 1) {φ : Int32 → fM → Prop} {p0 : Nat} {s0 : Int32} {M : fM} (h : j_X9_stopAct_65 φ p0 s0 M) : FW g mtX9_stopAct (d + 1) 65 [(0, .ref p0)] [.int s0] M 0 0 (rI φ) := by
  unfold j_X9_stopAct_65 at h
  refine fw_istore_n (i := 2) (ls' := [(2, .int s0), (0, .ref p0)]) (show decode _ _ = .ok (.istore_n 2, 1) by decide +kernel) (by decide) rfl ?_
  refine fw_iload_n (i := 2) 0 rfl (show decode _ _ = .ok (.iload_n 2, 1) by decide +kernel) ?_
  refine fw_iconst (v := (3 : Int32)) (show decode _ _ = .ok (.iconst 3, 1) by decide +kernel) (by decide) ?_
  refine fw_icmp_ne 91 (show decode _ _ = .ok (.if_icmp .ne 23, 3) by decide +kernel) (by decide) (fun hc33 => ?_) (fun hc33 => ?_)
  · have h_1 := ineg hc33 h
    refine FW.sub [1, 0] (ls' := [(0, .ref p0), (2, .int s0)]) rfl ?_
    exact sj_X9_stopAct_91 hd h_1
  · have h_2 := ipos hc33 h
    refine fw_aload_n (i := 0) 1 rfl (show decode _ _ = .ok (.aload_n 0, 1) by decide +kernel) ?_
    obtain ⟨⟨hr6, n5, hs7⟩, h_3⟩ := h_2
    refine fw_getP (kd := 9) (k := 0) (show decode _ _ = .ok (.getfield 9, 3) by decide +kernel) gf_X9_9 hr6 hs7 rfl ?_
    have h_4 := dR_e h_3
    obtain ⟨y8, hy9, h_5⟩ := h_4
    refine fw_deref hy9 ?_
    obtain ⟨⟨hr11, n10, hs12⟩, h_6⟩ := h_5
    refine fw_getP (kd := 5) (k := 7) (show decode _ _ = .ok (.getfield 36, 3) by decide +kernel) gf_X9_36 hr11 hs12 rfl ?_
    have h_7 := dR_e h_6
    obtain ⟨y13, hy14, h_8⟩ := h_7
    refine fw_deref hy14 ?_
    refine fw_bipush (v := (6 : Int32)) (show decode _ _ = .ok (.bipush 6, 2) by decide +kernel) (by decide) ?_
    refine fw_dup2_11 (show decode _ _ = .ok (.dup2, 1) by decide +kernel) rfl rfl ?_
    obtain ⟨⟨n15, hs16, hi17⟩, h_9⟩ := h_8
    refine fw_iald (show decode _ _ = .ok (.iaload, 1) by decide +kernel) hs16 hi17 ?_
    refine fw_aload_n (i := 0) 1 rfl (show decode _ _ = .ok (.aload_n 0, 1) by decide +kernel) ?_
    refine fw_getP (kd := 9) (k := 1) (show decode _ _ = .ok (.getfield 15, 3) by decide +kernel) gf_X9_15 hr6 hs7 rfl ?_
    have h_10 := dR_e h_9
    obtain ⟨y18, hy19, h_11⟩ := h_10
    refine fw_deref hy19 ?_
    obtain ⟨⟨hr22, n21, hs23⟩, h_12⟩ := h_11
    refine fw_callV (mt' := mtX1_fallNow) (mc := 0) (ms := 0) (As := []) (rest := [.int (mI M y13 (ix (6 : Int32))), .int (6 : Int32), .ref y13]) 0 1 n21 (show decode _ _ = .ok (.invokevirtual 57, 3) by decide +kernel) cv_X9_57 ⟨_, rfl, rfl⟩ hr22 hs23 rfl (Nat.le_of_ble_eq_true rfl) (s_X1_fallNow (d := d) (hd_le hd (by decide)) h_12) (by decide) (by decide) (kI (bc' := 0) (bs' := 0) (by decide) (by decide) (fun x24 M20 h_13 => ?_))
    refine fw_iadd (show decode _ _ = .ok (.iadd, 1) by decide +kernel) ?_
    refine fw_nmI (fun x25 ex26 => ?_)
    have h_14 := h_13 x25 ex26
    obtain ⟨hr30, ⟨n27, hs28, hi29⟩, h_15⟩ := h_14
    refine fw_iast (show decode _ _ = .ok (.iastore, 1) by decide +kernel) hr30 hs28 hi29 ?_
    refine FW.nmM (fun M31 eM32 => ?_)
    have h_16 := h_15 M31 eM32
    refine FW.sub [1, 0] (ls' := [(0, .ref p0), (2, .int s0)]) rfl ?_
    exact sj_X9_stopAct_91 hd h_16
def w_X9_stopAct (p0 : Nat) (M : fM) (φ : Int32 → fM → Prop) : Prop := isO M p0 9 ∧ dR (mP M p0 0) fun y37 => dR (mP M p0 0) fun y39 => isO M y39 5 ∧ dR (mP M y39 7) fun y44 => inA M y44 12 (1 : Int32) ∧ isO M y37 5 ∧ w_X5_houseOf y37 (mI M y44 (ix (1 : Int32))) M fun o53 M49 => isO M49 p0 9 ∧ dR (mP M49 p0 0) fun y57 => isO M49 y57 5 ∧ w_X5_isOnWay y57 M49 fun x63 M59 => iF (x63 = 0) (φ (-1 : Int32) M59) (gN o53 (fun y64 => isO M59 p0 9 ∧ dR (mP M59 p0 0) fun y69 => isO M59 y69 5 ∧ w_X5_remember y69 M59 fun M71 => isO M71 p0 9 ∧ w_X9_turnToWay p0 M71 fun M75 => isO M75 p0 9 ∧ dR (mP M75 p0 0) fun y82 => isO M75 y82 5 ∧ dR (mP M75 y82 7) fun y87 => inA M75 y87 12 (3 : Int32) ∧ isO M75 y64 0 ∧ iF ((mI M75 y87 (ix (3 : Int32))) < (mI M75 y64 0)) (j_X9_stopAct_65 φ p0 (3 : Int32) M75) (j_X9_stopAct_65 φ p0 (2 : Int32) M75)) (φ (-1 : Int32) M59))
set_option maxRecDepth 100000 in
theorem s_X9_stopAct {g : GT} {d : Nat} (hd : 4 ≤ d) {p0 : Nat} {M : fM} {φ : Int32 → fM → Prop} (h : w_X9_stopAct p0 M φ) : FC g mtX9_stopAct d [.ref p0] M 0 0 (rI φ) := by
  obtain ⟨d, rfl⟩ : ∃ e, d = e + 1 := ⟨d - 1, by omega⟩
  unfold w_X9_stopAct at h
  refine FC.intro (nL := 3) (by decide) rfl (Nat.le_of_ble_eq_true rfl) ?_
  show FW g mtX9_stopAct (d + 1) 0 [(0, .ref p0)] [] M 0 0 (rI φ)
  refine fw_aload_n (i := 0) 0 rfl (show decode _ _ = .ok (.aload_n 0, 1) by decide +kernel) ?_
  obtain ⟨⟨hr35, n34, hs36⟩, h_1⟩ := h
  refine fw_getP (kd := 9) (k := 0) (show decode _ _ = .ok (.getfield 9, 3) by decide +kernel) gf_X9_9 hr35 hs36 rfl ?_
  have h_2 := dR_e h_1
  obtain ⟨y37, hy38, h_3⟩ := h_2
  refine fw_deref hy38 ?_
  refine fw_aload_n (i := 0) 0 rfl (show decode _ _ = .ok (.aload_n 0, 1) by decide +kernel) ?_
  refine fw_getP (kd := 9) (k := 0) (show decode _ _ = .ok (.getfield 9, 3) by decide +kernel) gf_X9_9 hr35 hs36 rfl ?_
  have h_4 := dR_e h_3
  obtain ⟨y39, hy40, h_5⟩ := h_4
  refine fw_deref hy40 ?_
  obtain ⟨⟨hr42, n41, hs43⟩, h_6⟩ := h_5
  refine fw_getP (kd := 5) (k := 7) (show decode _ _ = .ok (.getfield 36, 3) by decide +kernel) gf_X9_36 hr42 hs43 rfl ?_
  have h_7 := dR_e h_6
  obtain ⟨y44, hy45, h_8⟩ := h_7
  refine fw_deref hy45 ?_
  refine fw_iconst (v := (1 : Int32)) (show decode _ _ = .ok (.iconst 1, 1) by decide +kernel) (by decide) ?_
  obtain ⟨⟨n46, hs47, hi48⟩, h_9⟩ := h_8
  refine fw_iald (show decode _ _ = .ok (.iaload, 1) by decide +kernel) hs47 hi48 ?_
  obtain ⟨⟨hr51, n50, hs52⟩, h_10⟩ := h_9
  refine fw_callV (mt' := mtX5_houseOf) (mc := 0) (ms := 0) (As := [.int (mI M y44 (ix (1 : Int32)))]) (rest := []) 1 5 n50 (show decode _ _ = .ok (.invokevirtual 25, 3) by decide +kernel) cv_X9_25 ⟨_, rfl, rfl⟩ hr51 hs52 rfl (Nat.le_of_ble_eq_true rfl) (s_X5_houseOf (d := d) (hd_le hd (by decide)) h_10) (by decide) (by decide) (kP (bc' := 0) (bs' := 0) (by decide) (by decide) (fun o53 M49 h_11 => ?_))
  refine fw_astoreq_n (i := 1) (ls' := [(1, fr o53), (0, .ref p0)]) (show decode _ _ = .ok (.astore_n 1, 1) by decide +kernel) (by decide) rfl ?_
  refine fw_aload_n (i := 0) 1 rfl (show decode _ _ = .ok (.aload_n 0, 1) by decide +kernel) ?_
  obtain ⟨⟨hr55, n54, hs56⟩, h_12⟩ := h_11
  refine fw_getP (kd := 9) (k := 0) (show decode _ _ = .ok (.getfield 9, 3) by decide +kernel) gf_X9_9 hr55 hs56 rfl ?_
  have h_13 := dR_e h_12
  obtain ⟨y57, hy58, h_14⟩ := h_13
  refine fw_deref hy58 ?_
  obtain ⟨⟨hr61, n60, hs62⟩, h_15⟩ := h_14
  refine fw_callV (mt' := mtX5_isOnWay) (mc := 0) (ms := 0) (As := []) (rest := []) 0 5 n60 (show decode _ _ = .ok (.invokevirtual 40, 3) by decide +kernel) cv_X9_40 ⟨_, rfl, rfl⟩ hr61 hs62 rfl (Nat.le_of_ble_eq_true rfl) (s_X5_isOnWay (d := d) (hd_le hd (by decide)) h_15) (by decide) (by decide) (kI (bc' := 0) (bs' := 0) (by decide) (by decide) (fun x63 M59 h_16 => ?_))
  refine fw_if_eq 31 (show decode _ _ = .ok (.ifCond .eq 7, 3) by decide +kernel) (by decide) (fun hc96 => ?_) (fun hc96 => ?_)
  · have h_17 := ipos hc96 h_16
    refine fw_iconst (v := (-1 : Int32)) (show decode _ _ = .ok (.iconst (-1), 1) by decide +kernel) (by decide) ?_
    exact fw_ret (v := some (.int (-1 : Int32))) .ireturn (show decode _ _ = .ok (.ireturn, 1) by decide +kernel) ⟨rfl, Or.inl rfl⟩ ⟨_, rfl, h_17⟩
  · have h_18 := ineg hc96 h_16
    refine fw_aloadq_n (i := 1) 0 rfl (show decode _ _ = .ok (.aload_n 1, 1) by decide +kernel) ?_
    refine fw_ifnonnull (x := o53) 33 (show decode _ _ = .ok (.ifnonnull 5, 3) by decide +kernel) (by decide) (fun y64 hy65 => ?_) (fun hy65 => ?_)
    · have h_19 := gN_s hy65 h_18
      subst hy65
      refine fw_aload_n (i := 0) 1 rfl (show decode _ _ = .ok (.aload_n 0, 1) by decide +kernel) ?_
      obtain ⟨⟨hr67, n66, hs68⟩, h_20⟩ := h_19
      refine fw_getP (kd := 9) (k := 0) (show decode _ _ = .ok (.getfield 9, 3) by decide +kernel) gf_X9_9 hr67 hs68 rfl ?_
      have h_21 := dR_e h_20
      obtain ⟨y69, hy70, h_22⟩ := h_21
      refine fw_deref hy70 ?_
      obtain ⟨⟨hr73, n72, hs74⟩, h_23⟩ := h_22
      refine fw_callV (mt' := mtX5_remember) (mc := 0) (ms := 0) (As := []) (rest := []) 0 5 n72 (show decode _ _ = .ok (.invokevirtual 29, 3) by decide +kernel) cv_X9_29 ⟨_, rfl, rfl⟩ hr73 hs74 rfl (Nat.le_of_ble_eq_true rfl) (s_X5_remember (d := d) (hd_le hd (by decide)) h_23) (by decide) (by decide) (kV (bc' := 0) (bs' := 0) (by decide) (by decide) (fun M71 h_24 => ?_))
      refine fw_aload_n (i := 0) 1 rfl (show decode _ _ = .ok (.aload_n 0, 1) by decide +kernel) ?_
      obtain ⟨⟨hr77, n76, hs78⟩, h_25⟩ := h_24
      refine fw_callV (mt' := mtX9_turnToWay) (mc := 0) (ms := 0) (As := []) (rest := []) 0 9 n76 (show decode _ _ = .ok (.invokevirtual 48, 3) by decide +kernel) cv_X9_48 ⟨_, rfl, rfl⟩ hr77 hs78 rfl (Nat.le_of_ble_eq_true rfl) (s_X9_turnToWay (d := d) (hd_le hd (by decide)) h_25) (by decide) (by decide) (kV (bc' := 0) (bs' := 0) (by decide) (by decide) (fun M75 h_26 => ?_))
      refine fw_aload_n (i := 0) 1 rfl (show decode _ _ = .ok (.aload_n 0, 1) by decide +kernel) ?_
      obtain ⟨⟨hr80, n79, hs81⟩, h_27⟩ := h_26
      refine fw_getP (kd := 9) (k := 0) (show decode _ _ = .ok (.getfield 9, 3) by decide +kernel) gf_X9_9 hr80 hs81 rfl ?_
      have h_28 := dR_e h_27
      obtain ⟨y82, hy83, h_29⟩ := h_28
      refine fw_deref hy83 ?_
      obtain ⟨⟨hr85, n84, hs86⟩, h_30⟩ := h_29
      refine fw_getP (kd := 5) (k := 7) (show decode _ _ = .ok (.getfield 36, 3) by decide +kernel) gf_X9_36 hr85 hs86 rfl ?_
      have h_31 := dR_e h_30
      obtain ⟨y87, hy88, h_32⟩ := h_31
      refine fw_deref hy88 ?_
      refine fw_iconst (v := (3 : Int32)) (show decode _ _ = .ok (.iconst 3, 1) by decide +kernel) (by decide) ?_
      obtain ⟨⟨n89, hs90, hi91⟩, h_33⟩ := h_32
      refine fw_iald (show decode _ _ = .ok (.iaload, 1) by decide +kernel) hs90 hi91 ?_
      refine fw_aload_n (i := 1) 0 rfl (show decode _ _ = .ok (.aload_n 1, 1) by decide +kernel) ?_
      obtain ⟨⟨hr93, n92, hs94⟩, h_34⟩ := h_33
      refine fw_getI (kd := 0) (k := 0) (show decode _ _ = .ok (.getfield 51, 3) by decide +kernel) gf_X9_51 hr93 hs94 (Or.inl rfl) ?_
      refine fw_icmp_lt 64 (show decode _ _ = .ok (.if_icmp .lt 7, 3) by decide +kernel) (by decide) (fun hc95 => ?_) (fun hc95 => ?_)
      · have h_35 := ipos hc95 h_34
        refine fw_iconst (v := (3 : Int32)) (show decode _ _ = .ok (.iconst 3, 1) by decide +kernel) (by decide) ?_
        refine FW.sub [1] (ls' := [(0, .ref p0)]) rfl ?_
        exact sj_X9_stopAct_65 hd h_35
      · have h_36 := ineg hc95 h_34
        refine fw_iconst (v := (2 : Int32)) (show decode _ _ = .ok (.iconst 2, 1) by decide +kernel) (by decide) ?_
        refine fw_goto 65 (show decode _ _ = .ok (.goto 4, 3) by decide +kernel) (by decide) ?_
        refine FW.sub [1] (ls' := [(0, .ref p0)]) rfl ?_
        exact sj_X9_stopAct_65 hd h_36
    · have h_37 := gN_n hy65 h_18
      subst hy65
      refine fw_iconst (v := (-1 : Int32)) (show decode _ _ = .ok (.iconst (-1), 1) by decide +kernel) (by decide) ?_
      exact fw_ret (v := some (.int (-1 : Int32))) .ireturn (show decode _ _ = .ok (.ireturn, 1) by decide +kernel) ⟨rfl, Or.inl rfl⟩ ⟨_, rfl, h_37⟩
def w_X9_isDone (p0 : Nat) (p1 : Nat) (p2 : Int32) (M : fM) (φ : Int32 → fM → Prop) : Prop := isO M p1 8 ∧ w_X8_numberOf p1 p2 (0 : Int32) M fun x5 M1 => isO M1 p1 8 ∧ w_X8_numberOf p1 p2 (1 : Int32) M1 fun x10 M6 => isO M6 p1 8 ∧ dR (mP M6 p1 3) fun y14 => w_X10_cell y14 p2 M6 fun x17 M16 => iF (x17 = (5 : Int32)) (isO M16 p0 9 ∧ dR (mP M16 p0 0) fun y21 => isO M16 y21 5 ∧ w_X5_tellStairs y21 x5 x10 M16 fun x27 M23 => isB x27 ∧ φ x27 M23) (iF (x17 = (6 : Int32)) (isO M16 p0 9 ∧ dR (mP M16 p0 0) fun y32 => isO M16 p1 8 ∧ w_X8_numberOf p1 p2 (2 : Int32) M16 fun x38 M34 => isO M34 y32 5 ∧ w_X5_tellHeight y32 x38 x10 x5 M34 fun x43 M39 => isB x43 ∧ φ x43 M39) (iF (x17 = (7 : Int32)) (isO M16 p0 9 ∧ dR (mP M16 p0 0) fun y48 => isO M16 y48 5 ∧ w_X5_turnMark y48 x10 x5 M16 fun x54 M50 => isB x54 ∧ φ x54 M50) (iF (x17 = (8 : Int32)) (isO M16 p0 9 ∧ dR (mP M16 p0 0) fun y59 => isO M16 y59 5 ∧ w_X5_tellRail y59 x10 x5 M16 fun x65 M61 => isB x65 ∧ φ x65 M61) (iF (x17 = (9 : Int32)) (isO M16 p0 9 ∧ dR (mP M16 p0 0) fun y70 => isO M16 p1 8 ∧ w_X8_numberOf p1 p2 (2 : Int32) M16 fun x76 M72 => isO M72 y70 5 ∧ w_X5_tellPerson y70 x5 x10 x76 M72 fun x81 M77 => iF (x81 = (-1 : Int32)) (φ (0 : Int32) M77) (φ (1 : Int32) M77)) (iF (x17 = (10 : Int32)) (isO M16 p0 9 ∧ w_X9_beginAct p0 x5 x10 (0 : Int32) M16 fun x88 M84 => iF (x88 = (-1 : Int32)) (φ (0 : Int32) M84) (φ (1 : Int32) M84)) (iF (x17 = (11 : Int32)) (isO M16 p0 9 ∧ w_X9_beginAct p0 x5 x10 (1 : Int32) M16 fun x95 M91 => iF (x95 = (-1 : Int32)) (φ (0 : Int32) M91) (φ (1 : Int32) M91)) (iF (x17 = (12 : Int32)) (isO M16 p0 9 ∧ w_X9_beginAct p0 x5 x10 (2 : Int32) M16 fun x102 M98 => iF (x102 = (-1 : Int32)) (φ (0 : Int32) M98) (φ (1 : Int32) M98)) (iF (x17 = (13 : Int32)) (isO M16 p0 9 ∧ w_X9_stepAct p0 M16 fun x109 M105 => iF (x109 = (-1 : Int32)) (φ (0 : Int32) M105) (φ (1 : Int32) M105)) (iF (x17 = (14 : Int32)) (isO M16 p0 9 ∧ w_X9_toeAct p0 M16 fun x116 M112 => iF (x116 = (-1 : Int32)) (φ (0 : Int32) M112) (φ (1 : Int32) M112)) (iF (x17 = (15 : Int32)) (isO M16 p0 9 ∧ w_X9_stopAct p0 M16 fun x123 M119 => iF (x123 = (-1 : Int32)) (φ (0 : Int32) M119) (φ (1 : Int32) M119)) (iF (x17 = (16 : Int32)) (isO M16 p0 9 ∧ w_X9_nightAct p0 M16 fun x130 M126 => iF (x130 = (-1 : Int32)) (φ (0 : Int32) M126) (φ (1 : Int32) M126)) (φ (1 : Int32) M16))))))))))))
set_option maxRecDepth 100000 in
theorem s_X9_isDone {g : GT} {d : Nat} (hd : 6 ≤ d) {p0 : Nat} {p1 : Nat} {p2 : Int32} {M : fM} {φ : Int32 → fM → Prop} (h : w_X9_isDone p0 p1 p2 M φ) : FC g mtX9_isDone d [.ref p0, .ref p1, .int p2] M 0 0 (rI φ) := by
  obtain ⟨d, rfl⟩ : ∃ e, d = e + 1 := ⟨d - 1, by omega⟩
  unfold w_X9_isDone at h
  refine FC.intro (nL := 5) (by decide) rfl (Nat.le_of_ble_eq_true rfl) ?_
  show FW g mtX9_isDone (d + 1) 0 [(0, .ref p0), (1, .ref p1), (2, .int p2)] [] M 0 0 (rI φ)
  refine fw_aload_n (i := 1) 1 rfl (show decode _ _ = .ok (.aload_n 1, 1) by decide +kernel) ?_
  refine fw_iload_n (i := 2) 2 rfl (show decode _ _ = .ok (.iload_n 2, 1) by decide +kernel) ?_
  refine fw_iconst (v := (0 : Int32)) (show decode _ _ = .ok (.iconst 0, 1) by decide +kernel) (by decide) ?_
  obtain ⟨⟨hr3, n2, hs4⟩, h_1⟩ := h
  refine fw_callV (mt' := mtX8_numberOf) (mc := 0) (ms := 0) (As := [.int p2, .int (0 : Int32)]) (rest := []) 2 8 n2 (show decode _ _ = .ok (.invokevirtual 100, 3) by decide +kernel) cv_X9_100 ⟨_, rfl, rfl⟩ hr3 hs4 rfl (Nat.le_of_ble_eq_true rfl) (s_X8_numberOf (d := d) (hd_le hd (by decide)) h_1) (by decide) (by decide) (kI (bc' := 0) (bs' := 0) (by decide) (by decide) (fun x5 M1 h_2 => ?_))
  refine fw_istore_n (i := 3) (ls' := [(3, .int x5), (0, .ref p0), (1, .ref p1), (2, .int p2)]) (show decode _ _ = .ok (.istore_n 3, 1) by decide +kernel) (by decide) rfl ?_
  refine fw_aload_n (i := 1) 2 rfl (show decode _ _ = .ok (.aload_n 1, 1) by decide +kernel) ?_
  refine fw_iload_n (i := 2) 3 rfl (show decode _ _ = .ok (.iload_n 2, 1) by decide +kernel) ?_
  refine fw_iconst (v := (1 : Int32)) (show decode _ _ = .ok (.iconst 1, 1) by decide +kernel) (by decide) ?_
  obtain ⟨⟨hr8, n7, hs9⟩, h_3⟩ := h_2
  refine fw_callV (mt' := mtX8_numberOf) (mc := 0) (ms := 0) (As := [.int p2, .int (1 : Int32)]) (rest := []) 2 8 n7 (show decode _ _ = .ok (.invokevirtual 100, 3) by decide +kernel) cv_X9_100 ⟨_, rfl, rfl⟩ hr8 hs9 rfl (Nat.le_of_ble_eq_true rfl) (s_X8_numberOf (d := d) (hd_le hd (by decide)) h_3) (by decide) (by decide) (kI (bc' := 0) (bs' := 0) (by decide) (by decide) (fun x10 M6 h_4 => ?_))
  refine fw_istore (i := 4) (ls' := [(4, .int x10), (3, .int x5), (0, .ref p0), (1, .ref p1), (2, .int p2)]) (show decode _ _ = .ok (.istore 4, 2) by decide +kernel) (by decide) rfl ?_
  refine fw_aload_n (i := 1) 3 rfl (show decode _ _ = .ok (.aload_n 1, 1) by decide +kernel) ?_
  obtain ⟨⟨hr12, n11, hs13⟩, h_5⟩ := h_4
  refine fw_getP (kd := 8) (k := 3) (show decode _ _ = .ok (.getfield 91, 3) by decide +kernel) gf_X9_91 hr12 hs13 rfl ?_
  have h_6 := dR_e h_5
  obtain ⟨y14, hy15, h_7⟩ := h_6
  refine fw_deref hy15 ?_
  refine fw_iload_n (i := 2) 4 rfl (show decode _ _ = .ok (.iload_n 2, 1) by decide +kernel) ?_
  refine fw_callSN (mt' := mtX10_cell) (mc := 0) (ms := 0) (As := [.ref y14, .int p2]) (rest := []) 2 "OneStepMore" (show decode _ _ = .ok (.invokestatic 96, 3) by decide +kernel) ns_X9_96 rfl (Nat.le_of_ble_eq_true rfl) (s_X10_cell (d := d) (hd_le hd (by decide)) h_7) (by decide) (by decide) (kI (bc' := 0) (bs' := 0) (by decide) (by decide) (fun x17 M16 h_8 => ?_))
  by_cases hc28 : x17 = (5 : Int32)
  · have h_9 := ipos hc28 h_8
    refine fw_tin (off := 61) 84 (show decode _ _ = .ok (.tableswitch 247 5 16 #[61, 72, 89, 100, 111, 137, 155, 173, 191, 205, 219, 233], 61) by decide +kernel) (by rw [hc28]; decide) (by rw [hc28]; decide) (by rw [hc28]; rfl) (by decide) ?_
    refine fw_aload_n (i := 0) 2 rfl (show decode _ _ = .ok (.aload_n 0, 1) by decide +kernel) ?_
    obtain ⟨⟨hr19, n18, hs20⟩, h_10⟩ := h_9
    refine fw_getP (kd := 9) (k := 0) (show decode _ _ = .ok (.getfield 9, 3) by decide +kernel) gf_X9_9 hr19 hs20 rfl ?_
    have h_11 := dR_e h_10
    obtain ⟨y21, hy22, h_12⟩ := h_11
    refine fw_deref hy22 ?_
    refine fw_iload_n (i := 3) 1 rfl (show decode _ _ = .ok (.iload_n 3, 1) by decide +kernel) ?_
    refine fw_iload (i := 4) 0 rfl (show decode _ _ = .ok (.iload 4, 2) by decide +kernel) ?_
    obtain ⟨⟨hr25, n24, hs26⟩, h_13⟩ := h_12
    refine fw_callV (mt' := mtX5_tellStairs) (mc := 0) (ms := 0) (As := [.int x5, .int x10]) (rest := []) 2 5 n24 (show decode _ _ = .ok (.invokevirtual 107, 3) by decide +kernel) cv_X9_107 ⟨_, rfl, rfl⟩ hr25 hs26 rfl (Nat.le_of_ble_eq_true rfl) (s_X5_tellStairs (d := d) (hd_le hd (by decide)) h_13) (by decide) (by decide) (kI (bc' := 0) (bs' := 0) (by decide) (by decide) (fun x27 M23 h_14 => ?_))
    obtain ⟨hbb, h_15⟩ := h_14
    exact fw_ret (v := some (.int x27)) .ireturn (show decode _ _ = .ok (.ireturn, 1) by decide +kernel) ⟨rfl, Or.inr (Or.inl ⟨rfl, hbb⟩)⟩ ⟨_, rfl, h_15⟩
  have h_16 := ineg hc28 h_8
  by_cases hc44 : x17 = (6 : Int32)
  · have h_17 := ipos hc44 h_16
    refine fw_tin (off := 72) 95 (show decode _ _ = .ok (.tableswitch 247 5 16 #[61, 72, 89, 100, 111, 137, 155, 173, 191, 205, 219, 233], 61) by decide +kernel) (by rw [hc44]; decide) (by rw [hc44]; decide) (by rw [hc44]; rfl) (by decide) ?_
    refine fw_aload_n (i := 0) 2 rfl (show decode _ _ = .ok (.aload_n 0, 1) by decide +kernel) ?_
    obtain ⟨⟨hr30, n29, hs31⟩, h_18⟩ := h_17
    refine fw_getP (kd := 9) (k := 0) (show decode _ _ = .ok (.getfield 9, 3) by decide +kernel) gf_X9_9 hr30 hs31 rfl ?_
    have h_19 := dR_e h_18
    obtain ⟨y32, hy33, h_20⟩ := h_19
    refine fw_deref hy33 ?_
    refine fw_aload_n (i := 1) 3 rfl (show decode _ _ = .ok (.aload_n 1, 1) by decide +kernel) ?_
    refine fw_iload_n (i := 2) 4 rfl (show decode _ _ = .ok (.iload_n 2, 1) by decide +kernel) ?_
    refine fw_iconst (v := (2 : Int32)) (show decode _ _ = .ok (.iconst 2, 1) by decide +kernel) (by decide) ?_
    obtain ⟨⟨hr36, n35, hs37⟩, h_21⟩ := h_20
    refine fw_callV (mt' := mtX8_numberOf) (mc := 0) (ms := 0) (As := [.int p2, .int (2 : Int32)]) (rest := [.ref y32]) 2 8 n35 (show decode _ _ = .ok (.invokevirtual 100, 3) by decide +kernel) cv_X9_100 ⟨_, rfl, rfl⟩ hr36 hs37 rfl (Nat.le_of_ble_eq_true rfl) (s_X8_numberOf (d := d) (hd_le hd (by decide)) h_21) (by decide) (by decide) (kI (bc' := 0) (bs' := 0) (by decide) (by decide) (fun x38 M34 h_22 => ?_))
    refine fw_iload (i := 4) 0 rfl (show decode _ _ = .ok (.iload 4, 2) by decide +kernel) ?_
    refine fw_iload_n (i := 3) 1 rfl (show decode _ _ = .ok (.iload_n 3, 1) by decide +kernel) ?_
    obtain ⟨⟨hr41, n40, hs42⟩, h_23⟩ := h_22
    refine fw_callV (mt' := mtX5_tellHeight) (mc := 0) (ms := 0) (As := [.int x38, .int x10, .int x5]) (rest := []) 3 5 n40 (show decode _ _ = .ok (.invokevirtual 111, 3) by decide +kernel) cv_X9_111 ⟨_, rfl, rfl⟩ hr41 hs42 rfl (Nat.le_of_ble_eq_true rfl) (s_X5_tellHeight (d := d) (hd_le hd (by decide)) h_23) (by decide) (by decide) (kI (bc' := 0) (bs' := 0) (by decide) (by decide) (fun x43 M39 h_24 => ?_))
    obtain ⟨hbb, h_25⟩ := h_24
    exact fw_ret (v := some (.int x43)) .ireturn (show decode _ _ = .ok (.ireturn, 1) by decide +kernel) ⟨rfl, Or.inr (Or.inl ⟨rfl, hbb⟩)⟩ ⟨_, rfl, h_25⟩
  have h_26 := ineg hc44 h_16
  by_cases hc55 : x17 = (7 : Int32)
  · have h_27 := ipos hc55 h_26
    refine fw_tin (off := 89) 112 (show decode _ _ = .ok (.tableswitch 247 5 16 #[61, 72, 89, 100, 111, 137, 155, 173, 191, 205, 219, 233], 61) by decide +kernel) (by rw [hc55]; decide) (by rw [hc55]; decide) (by rw [hc55]; rfl) (by decide) ?_
    refine fw_aload_n (i := 0) 2 rfl (show decode _ _ = .ok (.aload_n 0, 1) by decide +kernel) ?_
    obtain ⟨⟨hr46, n45, hs47⟩, h_28⟩ := h_27
    refine fw_getP (kd := 9) (k := 0) (show decode _ _ = .ok (.getfield 9, 3) by decide +kernel) gf_X9_9 hr46 hs47 rfl ?_
    have h_29 := dR_e h_28
    obtain ⟨y48, hy49, h_30⟩ := h_29
    refine fw_deref hy49 ?_
    refine fw_iload (i := 4) 0 rfl (show decode _ _ = .ok (.iload 4, 2) by decide +kernel) ?_
    refine fw_iload_n (i := 3) 1 rfl (show decode _ _ = .ok (.iload_n 3, 1) by decide +kernel) ?_
    obtain ⟨⟨hr52, n51, hs53⟩, h_31⟩ := h_30
    refine fw_callV (mt' := mtX5_turnMark) (mc := 0) (ms := 0) (As := [.int x10, .int x5]) (rest := []) 2 5 n51 (show decode _ _ = .ok (.invokevirtual 115, 3) by decide +kernel) cv_X9_115 ⟨_, rfl, rfl⟩ hr52 hs53 rfl (Nat.le_of_ble_eq_true rfl) (s_X5_turnMark (d := d) (hd_le hd (by decide)) h_31) (by decide) (by decide) (kI (bc' := 0) (bs' := 0) (by decide) (by decide) (fun x54 M50 h_32 => ?_))
    obtain ⟨hbb, h_33⟩ := h_32
    exact fw_ret (v := some (.int x54)) .ireturn (show decode _ _ = .ok (.ireturn, 1) by decide +kernel) ⟨rfl, Or.inr (Or.inl ⟨rfl, hbb⟩)⟩ ⟨_, rfl, h_33⟩
  have h_34 := ineg hc55 h_26
  by_cases hc66 : x17 = (8 : Int32)
  · have h_35 := ipos hc66 h_34
    refine fw_tin (off := 100) 123 (show decode _ _ = .ok (.tableswitch 247 5 16 #[61, 72, 89, 100, 111, 137, 155, 173, 191, 205, 219, 233], 61) by decide +kernel) (by rw [hc66]; decide) (by rw [hc66]; decide) (by rw [hc66]; rfl) (by decide) ?_
    refine fw_aload_n (i := 0) 2 rfl (show decode _ _ = .ok (.aload_n 0, 1) by decide +kernel) ?_
    obtain ⟨⟨hr57, n56, hs58⟩, h_36⟩ := h_35
    refine fw_getP (kd := 9) (k := 0) (show decode _ _ = .ok (.getfield 9, 3) by decide +kernel) gf_X9_9 hr57 hs58 rfl ?_
    have h_37 := dR_e h_36
    obtain ⟨y59, hy60, h_38⟩ := h_37
    refine fw_deref hy60 ?_
    refine fw_iload (i := 4) 0 rfl (show decode _ _ = .ok (.iload 4, 2) by decide +kernel) ?_
    refine fw_iload_n (i := 3) 1 rfl (show decode _ _ = .ok (.iload_n 3, 1) by decide +kernel) ?_
    obtain ⟨⟨hr63, n62, hs64⟩, h_39⟩ := h_38
    refine fw_callV (mt' := mtX5_tellRail) (mc := 0) (ms := 0) (As := [.int x10, .int x5]) (rest := []) 2 5 n62 (show decode _ _ = .ok (.invokevirtual 118, 3) by decide +kernel) cv_X9_118 ⟨_, rfl, rfl⟩ hr63 hs64 rfl (Nat.le_of_ble_eq_true rfl) (s_X5_tellRail (d := d) (hd_le hd (by decide)) h_39) (by decide) (by decide) (kI (bc' := 0) (bs' := 0) (by decide) (by decide) (fun x65 M61 h_40 => ?_))
    obtain ⟨hbb, h_41⟩ := h_40
    exact fw_ret (v := some (.int x65)) .ireturn (show decode _ _ = .ok (.ireturn, 1) by decide +kernel) ⟨rfl, Or.inr (Or.inl ⟨rfl, hbb⟩)⟩ ⟨_, rfl, h_41⟩
  have h_42 := ineg hc66 h_34
  by_cases hc83 : x17 = (9 : Int32)
  · have h_43 := ipos hc83 h_42
    refine fw_tin (off := 111) 134 (show decode _ _ = .ok (.tableswitch 247 5 16 #[61, 72, 89, 100, 111, 137, 155, 173, 191, 205, 219, 233], 61) by decide +kernel) (by rw [hc83]; decide) (by rw [hc83]; decide) (by rw [hc83]; rfl) (by decide) ?_
    refine fw_aload_n (i := 0) 2 rfl (show decode _ _ = .ok (.aload_n 0, 1) by decide +kernel) ?_
    obtain ⟨⟨hr68, n67, hs69⟩, h_44⟩ := h_43
    refine fw_getP (kd := 9) (k := 0) (show decode _ _ = .ok (.getfield 9, 3) by decide +kernel) gf_X9_9 hr68 hs69 rfl ?_
    have h_45 := dR_e h_44
    obtain ⟨y70, hy71, h_46⟩ := h_45
    refine fw_deref hy71 ?_
    refine fw_iload_n (i := 3) 1 rfl (show decode _ _ = .ok (.iload_n 3, 1) by decide +kernel) ?_
    refine fw_iload (i := 4) 0 rfl (show decode _ _ = .ok (.iload 4, 2) by decide +kernel) ?_
    refine fw_aload_n (i := 1) 3 rfl (show decode _ _ = .ok (.aload_n 1, 1) by decide +kernel) ?_
    refine fw_iload_n (i := 2) 4 rfl (show decode _ _ = .ok (.iload_n 2, 1) by decide +kernel) ?_
    refine fw_iconst (v := (2 : Int32)) (show decode _ _ = .ok (.iconst 2, 1) by decide +kernel) (by decide) ?_
    obtain ⟨⟨hr74, n73, hs75⟩, h_47⟩ := h_46
    refine fw_callV (mt' := mtX8_numberOf) (mc := 0) (ms := 0) (As := [.int p2, .int (2 : Int32)]) (rest := [.int x10, .int x5, .ref y70]) 2 8 n73 (show decode _ _ = .ok (.invokevirtual 100, 3) by decide +kernel) cv_X9_100 ⟨_, rfl, rfl⟩ hr74 hs75 rfl (Nat.le_of_ble_eq_true rfl) (s_X8_numberOf (d := d) (hd_le hd (by decide)) h_47) (by decide) (by decide) (kI (bc' := 0) (bs' := 0) (by decide) (by decide) (fun x76 M72 h_48 => ?_))
    obtain ⟨⟨hr79, n78, hs80⟩, h_49⟩ := h_48
    refine fw_callV (mt' := mtX5_tellPerson) (mc := 0) (ms := 0) (As := [.int x5, .int x10, .int x76]) (rest := []) 3 5 n78 (show decode _ _ = .ok (.invokevirtual 121, 3) by decide +kernel) cv_X9_121 ⟨_, rfl, rfl⟩ hr79 hs80 rfl (Nat.le_of_ble_eq_true rfl) (s_X5_tellPerson (d := d) (hd_le hd (by decide)) h_49) (by decide) (by decide) (kI (bc' := 0) (bs' := 0) (by decide) (by decide) (fun x81 M77 h_50 => ?_))
    refine fw_iconst (v := (-1 : Int32)) (show decode _ _ = .ok (.iconst (-1), 1) by decide +kernel) (by decide) ?_
    refine fw_icmp_eq 158 (show decode _ _ = .ok (.if_icmp .eq 7, 3) by decide +kernel) (by decide) (fun hc82 => ?_) (fun hc82 => ?_)
    · have h_51 := ipos hc82 h_50
      refine fw_iconst (v := (0 : Int32)) (show decode _ _ = .ok (.iconst 0, 1) by decide +kernel) (by decide) ?_
      exact fw_ret (v := some (.int (0 : Int32))) .ireturn (show decode _ _ = .ok (.ireturn, 1) by decide +kernel) ⟨rfl, Or.inr (Or.inl ⟨rfl, rfl⟩)⟩ ⟨_, rfl, h_51⟩
    · have h_52 := ineg hc82 h_50
      refine fw_iconst (v := (1 : Int32)) (show decode _ _ = .ok (.iconst 1, 1) by decide +kernel) (by decide) ?_
      refine fw_goto 159 (show decode _ _ = .ok (.goto 4, 3) by decide +kernel) (by decide) ?_
      exact fw_ret (v := some (.int (1 : Int32))) .ireturn (show decode _ _ = .ok (.ireturn, 1) by decide +kernel) ⟨rfl, Or.inr (Or.inl ⟨rfl, rfl⟩)⟩ ⟨_, rfl, h_52⟩
  have h_53 := ineg hc83 h_42
  by_cases hc90 : x17 = (10 : Int32)
  · have h_54 := ipos hc90 h_53
    refine fw_tin (off := 137) 160 (show decode _ _ = .ok (.tableswitch 247 5 16 #[61, 72, 89, 100, 111, 137, 155, 173, 191, 205, 219, 233], 61) by decide +kernel) (by rw [hc90]; decide) (by rw [hc90]; decide) (by rw [hc90]; rfl) (by decide) ?_
    refine fw_aload_n (i := 0) 2 rfl (show decode _ _ = .ok (.aload_n 0, 1) by decide +kernel) ?_
    refine fw_iload_n (i := 3) 1 rfl (show decode _ _ = .ok (.iload_n 3, 1) by decide +kernel) ?_
    refine fw_iload (i := 4) 0 rfl (show decode _ _ = .ok (.iload 4, 2) by decide +kernel) ?_
    refine fw_iconst (v := (0 : Int32)) (show decode _ _ = .ok (.iconst 0, 1) by decide +kernel) (by decide) ?_
    obtain ⟨⟨hr86, n85, hs87⟩, h_55⟩ := h_54
    refine fw_callV (mt' := mtX9_beginAct) (mc := 0) (ms := 0) (As := [.int x5, .int x10, .int (0 : Int32)]) (rest := []) 3 9 n85 (show decode _ _ = .ok (.invokevirtual 125, 3) by decide +kernel) cv_X9_125 ⟨_, rfl, rfl⟩ hr86 hs87 rfl (Nat.le_of_ble_eq_true rfl) (s_X9_beginAct (d := d) (hd_le hd (by decide)) h_55) (by decide) (by decide) (kI (bc' := 0) (bs' := 0) (by decide) (by decide) (fun x88 M84 h_56 => ?_))
    refine fw_iconst (v := (-1 : Int32)) (show decode _ _ = .ok (.iconst (-1), 1) by decide +kernel) (by decide) ?_
    refine fw_icmp_eq 176 (show decode _ _ = .ok (.if_icmp .eq 7, 3) by decide +kernel) (by decide) (fun hc89 => ?_) (fun hc89 => ?_)
    · have h_57 := ipos hc89 h_56
      refine fw_iconst (v := (0 : Int32)) (show decode _ _ = .ok (.iconst 0, 1) by decide +kernel) (by decide) ?_
      exact fw_ret (v := some (.int (0 : Int32))) .ireturn (show decode _ _ = .ok (.ireturn, 1) by decide +kernel) ⟨rfl, Or.inr (Or.inl ⟨rfl, rfl⟩)⟩ ⟨_, rfl, h_57⟩
    · have h_58 := ineg hc89 h_56
      refine fw_iconst (v := (1 : Int32)) (show decode _ _ = .ok (.iconst 1, 1) by decide +kernel) (by decide) ?_
      refine fw_goto 177 (show decode _ _ = .ok (.goto 4, 3) by decide +kernel) (by decide) ?_
      exact fw_ret (v := some (.int (1 : Int32))) .ireturn (show decode _ _ = .ok (.ireturn, 1) by decide +kernel) ⟨rfl, Or.inr (Or.inl ⟨rfl, rfl⟩)⟩ ⟨_, rfl, h_58⟩
  have h_59 := ineg hc90 h_53
  by_cases hc97 : x17 = (11 : Int32)
  · have h_60 := ipos hc97 h_59
    refine fw_tin (off := 155) 178 (show decode _ _ = .ok (.tableswitch 247 5 16 #[61, 72, 89, 100, 111, 137, 155, 173, 191, 205, 219, 233], 61) by decide +kernel) (by rw [hc97]; decide) (by rw [hc97]; decide) (by rw [hc97]; rfl) (by decide) ?_
    refine fw_aload_n (i := 0) 2 rfl (show decode _ _ = .ok (.aload_n 0, 1) by decide +kernel) ?_
    refine fw_iload_n (i := 3) 1 rfl (show decode _ _ = .ok (.iload_n 3, 1) by decide +kernel) ?_
    refine fw_iload (i := 4) 0 rfl (show decode _ _ = .ok (.iload 4, 2) by decide +kernel) ?_
    refine fw_iconst (v := (1 : Int32)) (show decode _ _ = .ok (.iconst 1, 1) by decide +kernel) (by decide) ?_
    obtain ⟨⟨hr93, n92, hs94⟩, h_61⟩ := h_60
    refine fw_callV (mt' := mtX9_beginAct) (mc := 0) (ms := 0) (As := [.int x5, .int x10, .int (1 : Int32)]) (rest := []) 3 9 n92 (show decode _ _ = .ok (.invokevirtual 125, 3) by decide +kernel) cv_X9_125 ⟨_, rfl, rfl⟩ hr93 hs94 rfl (Nat.le_of_ble_eq_true rfl) (s_X9_beginAct (d := d) (hd_le hd (by decide)) h_61) (by decide) (by decide) (kI (bc' := 0) (bs' := 0) (by decide) (by decide) (fun x95 M91 h_62 => ?_))
    refine fw_iconst (v := (-1 : Int32)) (show decode _ _ = .ok (.iconst (-1), 1) by decide +kernel) (by decide) ?_
    refine fw_icmp_eq 194 (show decode _ _ = .ok (.if_icmp .eq 7, 3) by decide +kernel) (by decide) (fun hc96 => ?_) (fun hc96 => ?_)
    · have h_63 := ipos hc96 h_62
      refine fw_iconst (v := (0 : Int32)) (show decode _ _ = .ok (.iconst 0, 1) by decide +kernel) (by decide) ?_
      exact fw_ret (v := some (.int (0 : Int32))) .ireturn (show decode _ _ = .ok (.ireturn, 1) by decide +kernel) ⟨rfl, Or.inr (Or.inl ⟨rfl, rfl⟩)⟩ ⟨_, rfl, h_63⟩
    · have h_64 := ineg hc96 h_62
      refine fw_iconst (v := (1 : Int32)) (show decode _ _ = .ok (.iconst 1, 1) by decide +kernel) (by decide) ?_
      refine fw_goto 195 (show decode _ _ = .ok (.goto 4, 3) by decide +kernel) (by decide) ?_
      exact fw_ret (v := some (.int (1 : Int32))) .ireturn (show decode _ _ = .ok (.ireturn, 1) by decide +kernel) ⟨rfl, Or.inr (Or.inl ⟨rfl, rfl⟩)⟩ ⟨_, rfl, h_64⟩
  have h_65 := ineg hc97 h_59
  by_cases hc104 : x17 = (12 : Int32)
  · have h_66 := ipos hc104 h_65
    refine fw_tin (off := 173) 196 (show decode _ _ = .ok (.tableswitch 247 5 16 #[61, 72, 89, 100, 111, 137, 155, 173, 191, 205, 219, 233], 61) by decide +kernel) (by rw [hc104]; decide) (by rw [hc104]; decide) (by rw [hc104]; rfl) (by decide) ?_
    refine fw_aload_n (i := 0) 2 rfl (show decode _ _ = .ok (.aload_n 0, 1) by decide +kernel) ?_
    refine fw_iload_n (i := 3) 1 rfl (show decode _ _ = .ok (.iload_n 3, 1) by decide +kernel) ?_
    refine fw_iload (i := 4) 0 rfl (show decode _ _ = .ok (.iload 4, 2) by decide +kernel) ?_
    refine fw_iconst (v := (2 : Int32)) (show decode _ _ = .ok (.iconst 2, 1) by decide +kernel) (by decide) ?_
    obtain ⟨⟨hr100, n99, hs101⟩, h_67⟩ := h_66
    refine fw_callV (mt' := mtX9_beginAct) (mc := 0) (ms := 0) (As := [.int x5, .int x10, .int (2 : Int32)]) (rest := []) 3 9 n99 (show decode _ _ = .ok (.invokevirtual 125, 3) by decide +kernel) cv_X9_125 ⟨_, rfl, rfl⟩ hr100 hs101 rfl (Nat.le_of_ble_eq_true rfl) (s_X9_beginAct (d := d) (hd_le hd (by decide)) h_67) (by decide) (by decide) (kI (bc' := 0) (bs' := 0) (by decide) (by decide) (fun x102 M98 h_68 => ?_))
    refine fw_iconst (v := (-1 : Int32)) (show decode _ _ = .ok (.iconst (-1), 1) by decide +kernel) (by decide) ?_
    refine fw_icmp_eq 212 (show decode _ _ = .ok (.if_icmp .eq 7, 3) by decide +kernel) (by decide) (fun hc103 => ?_) (fun hc103 => ?_)
    · have h_69 := ipos hc103 h_68
      refine fw_iconst (v := (0 : Int32)) (show decode _ _ = .ok (.iconst 0, 1) by decide +kernel) (by decide) ?_
      exact fw_ret (v := some (.int (0 : Int32))) .ireturn (show decode _ _ = .ok (.ireturn, 1) by decide +kernel) ⟨rfl, Or.inr (Or.inl ⟨rfl, rfl⟩)⟩ ⟨_, rfl, h_69⟩
    · have h_70 := ineg hc103 h_68
      refine fw_iconst (v := (1 : Int32)) (show decode _ _ = .ok (.iconst 1, 1) by decide +kernel) (by decide) ?_
      refine fw_goto 213 (show decode _ _ = .ok (.goto 4, 3) by decide +kernel) (by decide) ?_
      exact fw_ret (v := some (.int (1 : Int32))) .ireturn (show decode _ _ = .ok (.ireturn, 1) by decide +kernel) ⟨rfl, Or.inr (Or.inl ⟨rfl, rfl⟩)⟩ ⟨_, rfl, h_70⟩
  have h_71 := ineg hc104 h_65
  by_cases hc111 : x17 = (13 : Int32)
  · have h_72 := ipos hc111 h_71
    refine fw_tin (off := 191) 214 (show decode _ _ = .ok (.tableswitch 247 5 16 #[61, 72, 89, 100, 111, 137, 155, 173, 191, 205, 219, 233], 61) by decide +kernel) (by rw [hc111]; decide) (by rw [hc111]; decide) (by rw [hc111]; rfl) (by decide) ?_
    refine fw_aload_n (i := 0) 2 rfl (show decode _ _ = .ok (.aload_n 0, 1) by decide +kernel) ?_
    obtain ⟨⟨hr107, n106, hs108⟩, h_73⟩ := h_72
    refine fw_callV (mt' := mtX9_stepAct) (mc := 0) (ms := 0) (As := []) (rest := []) 0 9 n106 (show decode _ _ = .ok (.invokevirtual 128, 3) by decide +kernel) cv_X9_128 ⟨_, rfl, rfl⟩ hr107 hs108 rfl (Nat.le_of_ble_eq_true rfl) (s_X9_stepAct (d := d) (hd_le hd (by decide)) h_73) (by decide) (by decide) (kI (bc' := 0) (bs' := 0) (by decide) (by decide) (fun x109 M105 h_74 => ?_))
    refine fw_iconst (v := (-1 : Int32)) (show decode _ _ = .ok (.iconst (-1), 1) by decide +kernel) (by decide) ?_
    refine fw_icmp_eq 226 (show decode _ _ = .ok (.if_icmp .eq 7, 3) by decide +kernel) (by decide) (fun hc110 => ?_) (fun hc110 => ?_)
    · have h_75 := ipos hc110 h_74
      refine fw_iconst (v := (0 : Int32)) (show decode _ _ = .ok (.iconst 0, 1) by decide +kernel) (by decide) ?_
      exact fw_ret (v := some (.int (0 : Int32))) .ireturn (show decode _ _ = .ok (.ireturn, 1) by decide +kernel) ⟨rfl, Or.inr (Or.inl ⟨rfl, rfl⟩)⟩ ⟨_, rfl, h_75⟩
    · have h_76 := ineg hc110 h_74
      refine fw_iconst (v := (1 : Int32)) (show decode _ _ = .ok (.iconst 1, 1) by decide +kernel) (by decide) ?_
      refine fw_goto 227 (show decode _ _ = .ok (.goto 4, 3) by decide +kernel) (by decide) ?_
      exact fw_ret (v := some (.int (1 : Int32))) .ireturn (show decode _ _ = .ok (.ireturn, 1) by decide +kernel) ⟨rfl, Or.inr (Or.inl ⟨rfl, rfl⟩)⟩ ⟨_, rfl, h_76⟩
  have h_77 := ineg hc111 h_71
  by_cases hc118 : x17 = (14 : Int32)
  · have h_78 := ipos hc118 h_77
    refine fw_tin (off := 205) 228 (show decode _ _ = .ok (.tableswitch 247 5 16 #[61, 72, 89, 100, 111, 137, 155, 173, 191, 205, 219, 233], 61) by decide +kernel) (by rw [hc118]; decide) (by rw [hc118]; decide) (by rw [hc118]; rfl) (by decide) ?_
    refine fw_aload_n (i := 0) 2 rfl (show decode _ _ = .ok (.aload_n 0, 1) by decide +kernel) ?_
    obtain ⟨⟨hr114, n113, hs115⟩, h_79⟩ := h_78
    refine fw_callV (mt' := mtX9_toeAct) (mc := 0) (ms := 0) (As := []) (rest := []) 0 9 n113 (show decode _ _ = .ok (.invokevirtual 131, 3) by decide +kernel) cv_X9_131 ⟨_, rfl, rfl⟩ hr114 hs115 rfl (Nat.le_of_ble_eq_true rfl) (s_X9_toeAct (d := d) (hd_le hd (by decide)) h_79) (by decide) (by decide) (kI (bc' := 0) (bs' := 0) (by decide) (by decide) (fun x116 M112 h_80 => ?_))
    refine fw_iconst (v := (-1 : Int32)) (show decode _ _ = .ok (.iconst (-1), 1) by decide +kernel) (by decide) ?_
    refine fw_icmp_eq 240 (show decode _ _ = .ok (.if_icmp .eq 7, 3) by decide +kernel) (by decide) (fun hc117 => ?_) (fun hc117 => ?_)
    · have h_81 := ipos hc117 h_80
      refine fw_iconst (v := (0 : Int32)) (show decode _ _ = .ok (.iconst 0, 1) by decide +kernel) (by decide) ?_
      exact fw_ret (v := some (.int (0 : Int32))) .ireturn (show decode _ _ = .ok (.ireturn, 1) by decide +kernel) ⟨rfl, Or.inr (Or.inl ⟨rfl, rfl⟩)⟩ ⟨_, rfl, h_81⟩
    · have h_82 := ineg hc117 h_80
      refine fw_iconst (v := (1 : Int32)) (show decode _ _ = .ok (.iconst 1, 1) by decide +kernel) (by decide) ?_
      refine fw_goto 241 (show decode _ _ = .ok (.goto 4, 3) by decide +kernel) (by decide) ?_
      exact fw_ret (v := some (.int (1 : Int32))) .ireturn (show decode _ _ = .ok (.ireturn, 1) by decide +kernel) ⟨rfl, Or.inr (Or.inl ⟨rfl, rfl⟩)⟩ ⟨_, rfl, h_82⟩
  have h_83 := ineg hc118 h_77
  by_cases hc125 : x17 = (15 : Int32)
  · have h_84 := ipos hc125 h_83
    refine fw_tin (off := 219) 242 (show decode _ _ = .ok (.tableswitch 247 5 16 #[61, 72, 89, 100, 111, 137, 155, 173, 191, 205, 219, 233], 61) by decide +kernel) (by rw [hc125]; decide) (by rw [hc125]; decide) (by rw [hc125]; rfl) (by decide) ?_
    refine fw_aload_n (i := 0) 2 rfl (show decode _ _ = .ok (.aload_n 0, 1) by decide +kernel) ?_
    obtain ⟨⟨hr121, n120, hs122⟩, h_85⟩ := h_84
    refine fw_callV (mt' := mtX9_stopAct) (mc := 0) (ms := 0) (As := []) (rest := []) 0 9 n120 (show decode _ _ = .ok (.invokevirtual 134, 3) by decide +kernel) cv_X9_134 ⟨_, rfl, rfl⟩ hr121 hs122 rfl (Nat.le_of_ble_eq_true rfl) (s_X9_stopAct (d := d) (hd_le hd (by decide)) h_85) (by decide) (by decide) (kI (bc' := 0) (bs' := 0) (by decide) (by decide) (fun x123 M119 h_86 => ?_))
    refine fw_iconst (v := (-1 : Int32)) (show decode _ _ = .ok (.iconst (-1), 1) by decide +kernel) (by decide) ?_
    refine fw_icmp_eq 254 (show decode _ _ = .ok (.if_icmp .eq 7, 3) by decide +kernel) (by decide) (fun hc124 => ?_) (fun hc124 => ?_)
    · have h_87 := ipos hc124 h_86
      refine fw_iconst (v := (0 : Int32)) (show decode _ _ = .ok (.iconst 0, 1) by decide +kernel) (by decide) ?_
      exact fw_ret (v := some (.int (0 : Int32))) .ireturn (show decode _ _ = .ok (.ireturn, 1) by decide +kernel) ⟨rfl, Or.inr (Or.inl ⟨rfl, rfl⟩)⟩ ⟨_, rfl, h_87⟩
    · have h_88 := ineg hc124 h_86
      refine fw_iconst (v := (1 : Int32)) (show decode _ _ = .ok (.iconst 1, 1) by decide +kernel) (by decide) ?_
      refine fw_goto 255 (show decode _ _ = .ok (.goto 4, 3) by decide +kernel) (by decide) ?_
      exact fw_ret (v := some (.int (1 : Int32))) .ireturn (show decode _ _ = .ok (.ireturn, 1) by decide +kernel) ⟨rfl, Or.inr (Or.inl ⟨rfl, rfl⟩)⟩ ⟨_, rfl, h_88⟩
  have h_89 := ineg hc125 h_83
  by_cases hc132 : x17 = (16 : Int32)
  · have h_90 := ipos hc132 h_89
    refine fw_tin (off := 233) 256 (show decode _ _ = .ok (.tableswitch 247 5 16 #[61, 72, 89, 100, 111, 137, 155, 173, 191, 205, 219, 233], 61) by decide +kernel) (by rw [hc132]; decide) (by rw [hc132]; decide) (by rw [hc132]; rfl) (by decide) ?_
    refine fw_aload_n (i := 0) 2 rfl (show decode _ _ = .ok (.aload_n 0, 1) by decide +kernel) ?_
    obtain ⟨⟨hr128, n127, hs129⟩, h_91⟩ := h_90
    refine fw_callV (mt' := mtX9_nightAct) (mc := 0) (ms := 0) (As := []) (rest := []) 0 9 n127 (show decode _ _ = .ok (.invokevirtual 137, 3) by decide +kernel) cv_X9_137 ⟨_, rfl, rfl⟩ hr128 hs129 rfl (Nat.le_of_ble_eq_true rfl) (s_X9_nightAct (d := d) (hd_le hd (by decide)) h_91) (by decide) (by decide) (kI (bc' := 0) (bs' := 0) (by decide) (by decide) (fun x130 M126 h_92 => ?_))
    refine fw_iconst (v := (-1 : Int32)) (show decode _ _ = .ok (.iconst (-1), 1) by decide +kernel) (by decide) ?_
    refine fw_icmp_eq 268 (show decode _ _ = .ok (.if_icmp .eq 7, 3) by decide +kernel) (by decide) (fun hc131 => ?_) (fun hc131 => ?_)
    · have h_93 := ipos hc131 h_92
      refine fw_iconst (v := (0 : Int32)) (show decode _ _ = .ok (.iconst 0, 1) by decide +kernel) (by decide) ?_
      exact fw_ret (v := some (.int (0 : Int32))) .ireturn (show decode _ _ = .ok (.ireturn, 1) by decide +kernel) ⟨rfl, Or.inr (Or.inl ⟨rfl, rfl⟩)⟩ ⟨_, rfl, h_93⟩
    · have h_94 := ineg hc131 h_92
      refine fw_iconst (v := (1 : Int32)) (show decode _ _ = .ok (.iconst 1, 1) by decide +kernel) (by decide) ?_
      refine fw_goto 269 (show decode _ _ = .ok (.goto 4, 3) by decide +kernel) (by decide) ?_
      exact fw_ret (v := some (.int (1 : Int32))) .ireturn (show decode _ _ = .ok (.ireturn, 1) by decide +kernel) ⟨rfl, Or.inr (Or.inl ⟨rfl, rfl⟩)⟩ ⟨_, rfl, h_94⟩
  have h_95 := ineg hc132 h_89
  by_cases ho133 : Int32.toInt x17 < 5 ∨ 16 < Int32.toInt x17
  · refine fw_tout 270 (show decode _ _ = .ok (.tableswitch 247 5 16 #[61, 72, 89, 100, 111, 137, 155, 173, 191, 205, 219, 233], 61) by decide +kernel) ho133 (by decide) ?_
    refine fw_iconst (v := (1 : Int32)) (show decode _ _ = .ok (.iconst 1, 1) by decide +kernel) (by decide) ?_
    exact fw_ret (v := some (.int (1 : Int32))) .ireturn (show decode _ _ = .ok (.ireturn, 1) by decide +kernel) ⟨rfl, Or.inr (Or.inl ⟨rfl, rfl⟩)⟩ ⟨_, rfl, h_95⟩
  have e134 := tsx_5_16 (Int32.toInt x17) ho133
  rcases e134 with e134 | e134 | e134 | e134 | e134 | e134 | e134 | e134 | e134 | e134 | e134 | e134
  · exact absurd (Int32.toInt_inj.mp (Eq.trans e134 rfl)) hc28
  · exact absurd (Int32.toInt_inj.mp (Eq.trans e134 rfl)) hc44
  · exact absurd (Int32.toInt_inj.mp (Eq.trans e134 rfl)) hc55
  · exact absurd (Int32.toInt_inj.mp (Eq.trans e134 rfl)) hc66
  · exact absurd (Int32.toInt_inj.mp (Eq.trans e134 rfl)) hc83
  · exact absurd (Int32.toInt_inj.mp (Eq.trans e134 rfl)) hc90
  · exact absurd (Int32.toInt_inj.mp (Eq.trans e134 rfl)) hc97
  · exact absurd (Int32.toInt_inj.mp (Eq.trans e134 rfl)) hc104
  · exact absurd (Int32.toInt_inj.mp (Eq.trans e134 rfl)) hc111
  · exact absurd (Int32.toInt_inj.mp (Eq.trans e134 rfl)) hc118
  · exact absurd (Int32.toInt_inj.mp (Eq.trans e134 rfl)) hc125
  · exact absurd (Int32.toInt_inj.mp (Eq.trans e134 rfl)) hc132
def b_X9_playedBy_53 (K2 : Nat → Nat → Int32 → fM → Prop) (K53 : Nat → Nat → Int32 → Int32 → Int32 → fM → Prop) (φ : Int32 → fM → Prop) (p0 : Nat) (p1 : Nat) (p2 : Int32) (p4 : Int32) (p5 : Int32) (M : fM) : Prop := iF (p4 ≤ p5) (nm (p2 + (1 : Int32)) fun x1 => K2 p0 p1 x1 M) (isO M p0 9 ∧ w_X9_isDone p0 p1 p2 M fun x7 M3 => iF (x7 = 0) (φ p2 M3) (nm (p5 + (1 : Int32)) fun x8 => K53 p0 p1 p2 p4 x8 M3))
def l_X9_playedBy_53 (K2 : Nat → Nat → Int32 → fM → Prop) (φ : Int32 → fM → Prop) : Nat → Nat → Nat → Int32 → Int32 → Int32 → fM → Prop
  | 0, _, _, _, _, _, _ => False
  | n + 1, p0, p1, p2, p4, p5, M => b_X9_playedBy_53 K2 (l_X9_playedBy_53 K2 φ n) φ p0 p1 p2 p4 p5 M
set_option maxRecDepth 100000 in
theorem sb_X9_playedBy_53 {g : GT} {d : Nat} (hd : 7 ≤ d + 1) {K2 : Nat → Nat → Int32 → fM → Prop} {K53 : Nat → Nat → Int32 → Int32 → Int32 → fM → Prop} {φ : Int32 → fM → Prop} (hK2 : ∀ (p0 : Nat) (p1 : Nat) (p2 : Int32) (M : fM), K2 p0 p1 p2 M → FW g mtX9_playedBy (d + 1) 2 [(0, .ref p0), (1, .ref p1), (2, .int p2)] [] M 0 0 (rI φ)) (hK53 : ∀ (p0 : Nat) (p1 : Nat) (p2 : Int32) (p4 : Int32) (p5 : Int32) (M : fM), K53 p0 p1 p2 p4 p5 M → FW g mtX9_playedBy (d + 1) 53 [(0, .ref p0), (1, .ref p1), (2, .int p2), (4, .int p4), (5, .int p5)] [] M 0 0 (rI φ)) {p0 : Nat} {p1 : Nat} {p2 : Int32} {p4 : Int32} {p5 : Int32} {M : fM} (h : b_X9_playedBy_53 K2 K53 φ p0 p1 p2 p4 p5 M) : FW g mtX9_playedBy (d + 1) 53 [(0, .ref p0), (1, .ref p1), (2, .int p2), (4, .int p4), (5, .int p5)] [] M 0 0 (rI φ) := by
  unfold b_X9_playedBy_53 at h
  refine fw_iload (i := 5) 4 rfl (show decode _ _ = .ok (.iload 5, 2) by decide +kernel) ?_
  refine fw_iload (i := 4) 3 rfl (show decode _ _ = .ok (.iload 4, 2) by decide +kernel) ?_
  refine fw_icmp_ge 77 (show decode _ _ = .ok (.if_icmp .ge 20, 3) by decide +kernel) (by decide) (fun hc11 => ?_) (fun hc11 => ?_)
  · have h_1 := ipos hc11 h
    obtain ⟨x1, ex2⟩ : ∃ y : Int32, y = p2 + (1 : Int32) := ⟨_, rfl⟩
    have h_2 := h_1 x1 ex2
    refine fw_iinc (i := 2) (x := p2) (v := x1) (ls' := [(2, .int x1), (0, .ref p0), (1, .ref p1), (4, .int p4), (5, .int p5)]) 2 rfl (show decode _ _ = .ok (.iinc 2 1, 3) by decide +kernel) (by rw [ex2]; rfl) (by decide) rfl ?_
    refine fw_goto 2 (show decode _ _ = .ok (.goto (-78), 3) by decide +kernel) (by decide) ?_
    refine FW.sub [1, 2, 0] (ls' := [(0, .ref p0), (1, .ref p1), (2, .int x1)]) rfl ?_
    exact hK2 _ _ _ _ h_2
  · have h_3 := ineg hc11 h
    refine fw_aload_n (i := 0) 0 rfl (show decode _ _ = .ok (.aload_n 0, 1) by decide +kernel) ?_
    refine fw_aload_n (i := 1) 1 rfl (show decode _ _ = .ok (.aload_n 1, 1) by decide +kernel) ?_
    refine fw_iload_n (i := 2) 2 rfl (show decode _ _ = .ok (.iload_n 2, 1) by decide +kernel) ?_
    obtain ⟨⟨hr5, n4, hs6⟩, h_4⟩ := h_3
    refine fw_callV (mt' := mtX9_isDone) (mc := 0) (ms := 0) (As := [.ref p1, .int p2]) (rest := []) 2 9 n4 (show decode _ _ = .ok (.invokevirtual 103, 3) by decide +kernel) cv_X9_103 ⟨_, rfl, rfl⟩ hr5 hs6 rfl (Nat.le_of_ble_eq_true rfl) (s_X9_isDone (d := d) (hd_le hd (by decide)) h_4) (by decide) (by decide) (kI (bc' := 0) (bs' := 0) (by decide) (by decide) (fun x7 M3 h_5 => ?_))
    refine fw_if_ne 71 (show decode _ _ = .ok (.ifCond .ne 5, 3) by decide +kernel) (by decide) (fun hc10 => ?_) (fun hc10 => ?_)
    · have h_6 := ineg hc10 h_5
      obtain ⟨x8, ex9⟩ : ∃ y : Int32, y = p5 + (1 : Int32) := ⟨_, rfl⟩
      have h_7 := h_6 x8 ex9
      refine fw_iinc (i := 5) (x := p5) (v := x8) (ls' := [(5, .int x8), (0, .ref p0), (1, .ref p1), (2, .int p2), (4, .int p4)]) 4 rfl (show decode _ _ = .ok (.iinc 5 1, 3) by decide +kernel) (by rw [ex9]; rfl) (by decide) rfl ?_
      refine fw_goto 53 (show decode _ _ = .ok (.goto (-21), 3) by decide +kernel) (by decide) ?_
      refine FW.sub [1, 2, 3, 4, 0] (ls' := [(0, .ref p0), (1, .ref p1), (2, .int p2), (4, .int p4), (5, .int x8)]) rfl ?_
      exact hK53 _ _ _ _ _ _ h_7
    · have h_8 := ipos hc10 h_5
      refine fw_iload_n (i := 2) 2 rfl (show decode _ _ = .ok (.iload_n 2, 1) by decide +kernel) ?_
      exact fw_ret (v := some (.int p2)) .ireturn (show decode _ _ = .ok (.ireturn, 1) by decide +kernel) ⟨rfl, Or.inl rfl⟩ ⟨_, rfl, h_8⟩
theorem sl_X9_playedBy_53 {g : GT} {d : Nat} (hd : 7 ≤ d + 1) {K2 : Nat → Nat → Int32 → fM → Prop} {φ : Int32 → fM → Prop} (hK2 : ∀ (p0 : Nat) (p1 : Nat) (p2 : Int32) (M : fM), K2 p0 p1 p2 M → FW g mtX9_playedBy (d + 1) 2 [(0, .ref p0), (1, .ref p1), (2, .int p2)] [] M 0 0 (rI φ)) : ∀ (n : Nat) {p0 : Nat} {p1 : Nat} {p2 : Int32} {p4 : Int32} {p5 : Int32} {M : fM}, l_X9_playedBy_53 K2 φ n p0 p1 p2 p4 p5 M → FW g mtX9_playedBy (d + 1) 53 [(0, .ref p0), (1, .ref p1), (2, .int p2), (4, .int p4), (5, .int p5)] [] M 0 0 (rI φ)
  | 0 => fun h => h.elim
  | n + 1 => fun h => sb_X9_playedBy_53 hd hK2 (fun _ _ _ _ _ _ h => sl_X9_playedBy_53 hd hK2 n h) h
def j_X9_playedBy_38 (K2 : Nat → Nat → Int32 → fM → Prop) (φ : Int32 → fM → Prop) (p0 : Nat) (p1 : Nat) (p2 : Int32) (M : fM) : Prop := isO M p1 8 ∧ w_X8_numberOf p1 p2 (0 : Int32) M fun x16 M12 => ∃ n, l_X9_playedBy_53 K2 φ n p0 p1 p2 x16 (0 : Int32) M12
set_option maxRecDepth 100000 in
theorem sj_X9_playedBy_38 {g : GT} {d : Nat} (hd : 7 ≤ d + 1) {K2 : Nat → Nat → Int32 → fM → Prop} {φ : Int32 → fM → Prop} (hK2 : ∀ (p0 : Nat) (p1 : Nat) (p2 : Int32) (M : fM), K2 p0 p1 p2 M → FW g mtX9_playedBy (d + 1) 2 [(0, .ref p0), (1, .ref p1), (2, .int p2)] [] M 0 0 (rI φ)) {p0 : Nat} {p1 : Nat} {p2 : Int32} {M : fM} (h : j_X9_playedBy_38 K2 φ p0 p1 p2 M) : FW g mtX9_playedBy (d + 1) 38 [(0, .ref p0), (1, .ref p1), (2, .int p2)] [] M 0 0 (rI φ) := by
  unfold j_X9_playedBy_38 at h
  refine fw_aload_n (i := 1) 1 rfl (show decode _ _ = .ok (.aload_n 1, 1) by decide +kernel) ?_
  refine fw_iload_n (i := 2) 2 rfl (show decode _ _ = .ok (.iload_n 2, 1) by decide +kernel) ?_
  refine fw_iconst (v := (0 : Int32)) (show decode _ _ = .ok (.iconst 0, 1) by decide +kernel) (by decide) ?_
  obtain ⟨⟨hr14, n13, hs15⟩, h_1⟩ := h
  refine fw_callV (mt' := mtX8_numberOf) (mc := 0) (ms := 0) (As := [.int p2, .int (0 : Int32)]) (rest := []) 2 8 n13 (show decode _ _ = .ok (.invokevirtual 100, 3) by decide +kernel) cv_X9_100 ⟨_, rfl, rfl⟩ hr14 hs15 rfl (Nat.le_of_ble_eq_true rfl) (s_X8_numberOf (d := d) (hd_le hd (by decide)) h_1) (by decide) (by decide) (kI (bc' := 0) (bs' := 0) (by decide) (by decide) (fun x16 M12 h_2 => ?_))
  refine fw_goto 48 (show decode _ _ = .ok (.goto 4, 3) by decide +kernel) (by decide) ?_
  refine fw_istore (i := 4) (ls' := [(4, .int x16), (0, .ref p0), (1, .ref p1), (2, .int p2)]) (show decode _ _ = .ok (.istore 4, 2) by decide +kernel) (by decide) rfl ?_
  refine fw_iconst (v := (0 : Int32)) (show decode _ _ = .ok (.iconst 0, 1) by decide +kernel) (by decide) ?_
  refine fw_istore (i := 5) (ls' := [(5, .int (0 : Int32)), (4, .int x16), (0, .ref p0), (1, .ref p1), (2, .int p2)]) (show decode _ _ = .ok (.istore 5, 2) by decide +kernel) (by decide) rfl ?_
  refine FW.sub [2, 3, 4, 1, 0] (ls' := [(0, .ref p0), (1, .ref p1), (2, .int p2), (4, .int x16), (5, .int (0 : Int32))]) rfl ?_
  obtain ⟨nn, h_3⟩ := h_2
  exact sl_X9_playedBy_53 hd hK2 nn h_3
def b_X9_playedBy_2 (K2 : Nat → Nat → Int32 → fM → Prop) (φ : Int32 → fM → Prop) (p0 : Nat) (p1 : Nat) (p2 : Int32) (M : fM) : Prop := isO M p1 8 ∧ dR (mP M p1 3) fun y20 => lenA M y20 12 fun n22 => iF ((nI n22) ≤ p2) (φ (-1 : Int32) M) (dR (mP M p1 3) fun y24 => w_X10_cell y24 p2 M fun x27 M26 => iF (x27 = (13 : Int32)) (j_X9_playedBy_38 K2 φ p0 p1 p2 M26) (iF (x27 = (14 : Int32)) (j_X9_playedBy_38 K2 φ p0 p1 p2 M26) (iF (x27 = (16 : Int32)) (j_X9_playedBy_38 K2 φ p0 p1 p2 M26) (∃ n, l_X9_playedBy_53 K2 φ n p0 p1 p2 (1 : Int32) (0 : Int32) M26))))
def l_X9_playedBy_2 (φ : Int32 → fM → Prop) : Nat → Nat → Nat → Int32 → fM → Prop
  | 0, _, _, _, _ => False
  | n + 1, p0, p1, p2, M => b_X9_playedBy_2 (l_X9_playedBy_2 φ n) φ p0 p1 p2 M
set_option maxRecDepth 100000 in
theorem sb_X9_playedBy_2 {g : GT} {d : Nat} (hd : 7 ≤ d + 1) {K2 : Nat → Nat → Int32 → fM → Prop} {φ : Int32 → fM → Prop} (hK2 : ∀ (p0 : Nat) (p1 : Nat) (p2 : Int32) (M : fM), K2 p0 p1 p2 M → FW g mtX9_playedBy (d + 1) 2 [(0, .ref p0), (1, .ref p1), (2, .int p2)] [] M 0 0 (rI φ)) {p0 : Nat} {p1 : Nat} {p2 : Int32} {M : fM} (h : b_X9_playedBy_2 K2 φ p0 p1 p2 M) : FW g mtX9_playedBy (d + 1) 2 [(0, .ref p0), (1, .ref p1), (2, .int p2)] [] M 0 0 (rI φ) := by
  unfold b_X9_playedBy_2 at h
  refine fw_iload_n (i := 2) 2 rfl (show decode _ _ = .ok (.iload_n 2, 1) by decide +kernel) ?_
  refine fw_aload_n (i := 1) 1 rfl (show decode _ _ = .ok (.aload_n 1, 1) by decide +kernel) ?_
  obtain ⟨⟨hr18, n17, hs19⟩, h_1⟩ := h
  refine fw_getP (kd := 8) (k := 3) (show decode _ _ = .ok (.getfield 91, 3) by decide +kernel) gf_X9_91 hr18 hs19 rfl ?_
  have h_2 := dR_e h_1
  obtain ⟨y20, hy21, h_3⟩ := h_2
  refine fw_deref hy21 ?_
  obtain ⟨n22, hs23, h_4⟩ := h_3
  refine fw_alen (show decode _ _ = .ok (.arraylength, 1) by decide +kernel) hs23 (by decide) (by decide) (by decide) (fun h_4 => absurd h_4 (by decide)) ?_
  refine fw_icmp_ge 83 (show decode _ _ = .ok (.if_icmp .ge 75, 3) by decide +kernel) (by decide) (fun hc31 => ?_) (fun hc31 => ?_)
  · have h_5 := ipos hc31 h_4
    refine fw_iconst (v := (-1 : Int32)) (show decode _ _ = .ok (.iconst (-1), 1) by decide +kernel) (by decide) ?_
    exact fw_ret (v := some (.int (-1 : Int32))) .ireturn (show decode _ _ = .ok (.ireturn, 1) by decide +kernel) ⟨rfl, Or.inl rfl⟩ ⟨_, rfl, h_5⟩
  · have h_6 := ineg hc31 h_4
    refine fw_aload_n (i := 1) 1 rfl (show decode _ _ = .ok (.aload_n 1, 1) by decide +kernel) ?_
    refine fw_getP (kd := 8) (k := 3) (show decode _ _ = .ok (.getfield 91, 3) by decide +kernel) gf_X9_91 hr18 hs19 rfl ?_
    have h_7 := dR_e h_6
    obtain ⟨y24, hy25, h_8⟩ := h_7
    refine fw_deref hy25 ?_
    refine fw_iload_n (i := 2) 2 rfl (show decode _ _ = .ok (.iload_n 2, 1) by decide +kernel) ?_
    refine fw_callSN (mt' := mtX10_cell) (mc := 0) (ms := 0) (As := [.ref y24, .int p2]) (rest := []) 2 "OneStepMore" (show decode _ _ = .ok (.invokestatic 96, 3) by decide +kernel) ns_X9_96 rfl (Nat.le_of_ble_eq_true rfl) (s_X10_cell (d := d) (hd_le hd (by decide)) h_8) (by decide) (by decide) (kI (bc' := 0) (bs' := 0) (by decide) (by decide) (fun x27 M26 h_9 => ?_))
    refine fw_istore_n (i := 3) (ls' := [(3, .int x27), (0, .ref p0), (1, .ref p1), (2, .int p2)]) (show decode _ _ = .ok (.istore_n 3, 1) by decide +kernel) (by decide) rfl ?_
    refine fw_iload_n (i := 3) 0 rfl (show decode _ _ = .ok (.iload_n 3, 1) by decide +kernel) ?_
    refine fw_bipush (v := (13 : Int32)) (show decode _ _ = .ok (.bipush 13, 2) by decide +kernel) (by decide) ?_
    refine fw_icmp_eq 38 (show decode _ _ = .ok (.if_icmp .eq 15, 3) by decide +kernel) (by decide) (fun hc30 => ?_) (fun hc30 => ?_)
    · have h_10 := ipos hc30 h_9
      refine FW.sub [1, 2, 3] (ls' := [(0, .ref p0), (1, .ref p1), (2, .int p2)]) rfl ?_
      exact sj_X9_playedBy_38 hd hK2 h_10
    · have h_11 := ineg hc30 h_9
      refine fw_iload_n (i := 3) 0 rfl (show decode _ _ = .ok (.iload_n 3, 1) by decide +kernel) ?_
      refine fw_bipush (v := (14 : Int32)) (show decode _ _ = .ok (.bipush 14, 2) by decide +kernel) (by decide) ?_
      refine fw_icmp_eq 38 (show decode _ _ = .ok (.if_icmp .eq 9, 3) by decide +kernel) (by decide) (fun hc29 => ?_) (fun hc29 => ?_)
      · have h_12 := ipos hc29 h_11
        refine FW.sub [1, 2, 3] (ls' := [(0, .ref p0), (1, .ref p1), (2, .int p2)]) rfl ?_
        exact sj_X9_playedBy_38 hd hK2 h_12
      · have h_13 := ineg hc29 h_11
        refine fw_iload_n (i := 3) 0 rfl (show decode _ _ = .ok (.iload_n 3, 1) by decide +kernel) ?_
        refine fw_bipush (v := (16 : Int32)) (show decode _ _ = .ok (.bipush 16, 2) by decide +kernel) (by decide) ?_
        refine fw_icmp_ne 47 (show decode _ _ = .ok (.if_icmp .ne 12, 3) by decide +kernel) (by decide) (fun hc28 => ?_) (fun hc28 => ?_)
        · have h_14 := ineg hc28 h_13
          refine fw_iconst (v := (1 : Int32)) (show decode _ _ = .ok (.iconst 1, 1) by decide +kernel) (by decide) ?_
          refine fw_istore (i := 4) (ls' := [(4, .int (1 : Int32)), (3, .int x27), (0, .ref p0), (1, .ref p1), (2, .int p2)]) (show decode _ _ = .ok (.istore 4, 2) by decide +kernel) (by decide) rfl ?_
          refine fw_iconst (v := (0 : Int32)) (show decode _ _ = .ok (.iconst 0, 1) by decide +kernel) (by decide) ?_
          refine fw_istore (i := 5) (ls' := [(5, .int (0 : Int32)), (4, .int (1 : Int32)), (3, .int x27), (0, .ref p0), (1, .ref p1), (2, .int p2)]) (show decode _ _ = .ok (.istore 5, 2) by decide +kernel) (by decide) rfl ?_
          refine FW.sub [3, 4, 5, 1, 0] (ls' := [(0, .ref p0), (1, .ref p1), (2, .int p2), (4, .int (1 : Int32)), (5, .int (0 : Int32))]) rfl ?_
          obtain ⟨nn, h_15⟩ := h_14
          exact sl_X9_playedBy_53 hd hK2 nn h_15
        · have h_16 := ipos hc28 h_13
          refine FW.sub [1, 2, 3] (ls' := [(0, .ref p0), (1, .ref p1), (2, .int p2)]) rfl ?_
          exact sj_X9_playedBy_38 hd hK2 h_16
theorem sl_X9_playedBy_2 {g : GT} {d : Nat} (hd : 7 ≤ d + 1) {φ : Int32 → fM → Prop} : ∀ (n : Nat) {p0 : Nat} {p1 : Nat} {p2 : Int32} {M : fM}, l_X9_playedBy_2 φ n p0 p1 p2 M → FW g mtX9_playedBy (d + 1) 2 [(0, .ref p0), (1, .ref p1), (2, .int p2)] [] M 0 0 (rI φ)
  | 0 => fun h => h.elim
  | n + 1 => fun h => sb_X9_playedBy_2 hd (fun _ _ _ _ h => sl_X9_playedBy_2 hd n h) h
def w_X9_playedBy (p0 : Nat) (p1 : Nat) (M : fM) (φ : Int32 → fM → Prop) : Prop := ∃ n, l_X9_playedBy_2 φ n p0 p1 (0 : Int32) M
set_option maxRecDepth 100000 in
theorem s_X9_playedBy {g : GT} {d : Nat} (hd : 7 ≤ d) {p0 : Nat} {p1 : Nat} {M : fM} {φ : Int32 → fM → Prop} (h : w_X9_playedBy p0 p1 M φ) : FC g mtX9_playedBy d [.ref p0, .ref p1] M 0 0 (rI φ) := by
  obtain ⟨d, rfl⟩ : ∃ e, d = e + 1 := ⟨d - 1, by omega⟩
  unfold w_X9_playedBy at h
  refine FC.intro (nL := 6) (by decide) rfl (Nat.le_of_ble_eq_true rfl) ?_
  show FW g mtX9_playedBy (d + 1) 0 [(0, .ref p0), (1, .ref p1)] [] M 0 0 (rI φ)
  refine fw_iconst (v := (0 : Int32)) (show decode _ _ = .ok (.iconst 0, 1) by decide +kernel) (by decide) ?_
  refine fw_istore_n (i := 2) (ls' := [(2, .int (0 : Int32)), (0, .ref p0), (1, .ref p1)]) (show decode _ _ = .ok (.istore_n 2, 1) by decide +kernel) (by decide) rfl ?_
  refine FW.sub [1, 2, 0] (ls' := [(0, .ref p0), (1, .ref p1), (2, .int (0 : Int32))]) rfl ?_
  obtain ⟨nn, h_1⟩ := h
  exact sl_X9_playedBy_2 hd nn h_1
def w_X10_played (p0 : Nat) (p1 : Int32) (M : fM) (φ : Int32 → fM → Prop) : Prop := isO M p0 10 ∧ dR (mP M p0 0) fun y4 => isO M y4 5 ∧ w_X5_textOf y4 p1 M fun o10 M6 => gN o10 (fun y11 => isO M6 p0 10 ∧ dR (mP M6 p0 4) fun y16 => isO M6 y16 9 ∧ w_X9_playedBy y16 y11 M6 fun x22 M18 => φ x22 M18) (φ (-2 : Int32) M6)
set_option maxRecDepth 100000 in
theorem s_X10_played {g : GT} {d : Nat} (hd : 8 ≤ d) {p0 : Nat} {p1 : Int32} {M : fM} {φ : Int32 → fM → Prop} (h : w_X10_played p0 p1 M φ) : FC g mtX10_played d [.ref p0, .int p1] M 0 0 (rI φ) := by
  obtain ⟨d, rfl⟩ : ∃ e, d = e + 1 := ⟨d - 1, by omega⟩
  unfold w_X10_played at h
  refine FC.intro (nL := 3) (by decide) rfl (Nat.le_of_ble_eq_true rfl) ?_
  show FW g mtX10_played (d + 1) 0 [(0, .ref p0), (1, .int p1)] [] M 0 0 (rI φ)
  refine fw_aload_n (i := 0) 0 rfl (show decode _ _ = .ok (.aload_n 0, 1) by decide +kernel) ?_
  obtain ⟨⟨hr2, n1, hs3⟩, h_1⟩ := h
  refine fw_getP (kd := 10) (k := 0) (show decode _ _ = .ok (.getfield 13, 3) by decide +kernel) gf_X10_13 hr2 hs3 rfl ?_
  have h_2 := dR_e h_1
  obtain ⟨y4, hy5, h_3⟩ := h_2
  refine fw_deref hy5 ?_
  refine fw_iload_n (i := 1) 1 rfl (show decode _ _ = .ok (.iload_n 1, 1) by decide +kernel) ?_
  obtain ⟨⟨hr8, n7, hs9⟩, h_4⟩ := h_3
  refine fw_callV (mt' := mtX5_textOf) (mc := 0) (ms := 0) (As := [.int p1]) (rest := []) 1 5 n7 (show decode _ _ = .ok (.invokevirtual 127, 3) by decide +kernel) cv_X10_127 ⟨_, rfl, rfl⟩ hr8 hs9 rfl (Nat.le_of_ble_eq_true rfl) (s_X5_textOf (d := d) (hd_le hd (by decide)) h_4) (by decide) (by decide) (kP (bc' := 0) (bs' := 0) (by decide) (by decide) (fun o10 M6 h_5 => ?_))
  refine fw_astoreq_n (i := 2) (ls' := [(2, fr o10), (0, .ref p0), (1, .int p1)]) (show decode _ _ = .ok (.astore_n 2, 1) by decide +kernel) (by decide) rfl ?_
  refine fw_aloadq_n (i := 2) 0 rfl (show decode _ _ = .ok (.aload_n 2, 1) by decide +kernel) ?_
  refine fw_ifnonnull (x := o10) 18 (show decode _ _ = .ok (.ifnonnull 8, 3) by decide +kernel) (by decide) (fun y11 hy12 => ?_) (fun hy12 => ?_)
  · have h_6 := gN_s hy12 h_5
    subst hy12
    refine fw_aload_n (i := 0) 1 rfl (show decode _ _ = .ok (.aload_n 0, 1) by decide +kernel) ?_
    obtain ⟨⟨hr14, n13, hs15⟩, h_7⟩ := h_6
    refine fw_getP (kd := 10) (k := 4) (show decode _ _ = .ok (.getfield 43, 3) by decide +kernel) gf_X10_43 hr14 hs15 rfl ?_
    have h_8 := dR_e h_7
    obtain ⟨y16, hy17, h_9⟩ := h_8
    refine fw_deref hy17 ?_
    refine fw_aload_n (i := 2) 0 rfl (show decode _ _ = .ok (.aload_n 2, 1) by decide +kernel) ?_
    obtain ⟨⟨hr20, n19, hs21⟩, h_10⟩ := h_9
    refine fw_callV (mt' := mtX9_playedBy) (mc := 0) (ms := 0) (As := [.ref y11]) (rest := []) 1 9 n19 (show decode _ _ = .ok (.invokevirtual 153, 3) by decide +kernel) cv_X10_153 ⟨_, rfl, rfl⟩ hr20 hs21 rfl (Nat.le_of_ble_eq_true rfl) (s_X9_playedBy (d := d) (hd_le hd (by decide)) h_10) (by decide) (by decide) (kI (bc' := 0) (bs' := 0) (by decide) (by decide) (fun x22 M18 h_11 => ?_))
    exact fw_ret (v := some (.int x22)) .ireturn (show decode _ _ = .ok (.ireturn, 1) by decide +kernel) ⟨rfl, Or.inl rfl⟩ ⟨_, rfl, h_11⟩
  · have h_12 := gN_n hy12 h_5
    subst hy12
    refine fw_bipush (v := (-2 : Int32)) (show decode _ _ = .ok (.bipush (-2), 2) by decide +kernel) (by decide) ?_
    refine fw_goto 26 (show decode _ _ = .ok (.goto 11, 3) by decide +kernel) (by decide) ?_
    exact fw_ret (v := some (.int (-2 : Int32))) .ireturn (show decode _ _ = .ok (.ireturn, 1) by decide +kernel) ⟨rfl, Or.inl rfl⟩ ⟨_, rfl, h_12⟩
def w_X10_rail (p0 : Nat) (p1 : Int32) (p2 : Int32) (M : fM) (φ : Int32 → fM → Prop) : Prop := isO M p0 10 ∧ dR (mP M p0 0) fun y4 => isO M y4 5 ∧ w_X5_tellRail y4 p1 p2 M fun x10 M6 => isB x10 ∧ φ x10 M6
set_option maxRecDepth 100000 in
theorem s_X10_rail {g : GT} {d : Nat} (hd : 3 ≤ d) {p0 : Nat} {p1 : Int32} {p2 : Int32} {M : fM} {φ : Int32 → fM → Prop} (h : w_X10_rail p0 p1 p2 M φ) : FC g mtX10_rail d [.ref p0, .int p1, .int p2] M 0 0 (rI φ) := by
  obtain ⟨d, rfl⟩ : ∃ e, d = e + 1 := ⟨d - 1, by omega⟩
  unfold w_X10_rail at h
  refine FC.intro (nL := 3) (by decide) rfl (Nat.le_of_ble_eq_true rfl) ?_
  show FW g mtX10_rail (d + 1) 0 [(0, .ref p0), (1, .int p1), (2, .int p2)] [] M 0 0 (rI φ)
  refine fw_aload_n (i := 0) 0 rfl (show decode _ _ = .ok (.aload_n 0, 1) by decide +kernel) ?_
  obtain ⟨⟨hr2, n1, hs3⟩, h_1⟩ := h
  refine fw_getP (kd := 10) (k := 0) (show decode _ _ = .ok (.getfield 13, 3) by decide +kernel) gf_X10_13 hr2 hs3 rfl ?_
  have h_2 := dR_e h_1
  obtain ⟨y4, hy5, h_3⟩ := h_2
  refine fw_deref hy5 ?_
  refine fw_iload_n (i := 1) 1 rfl (show decode _ _ = .ok (.iload_n 1, 1) by decide +kernel) ?_
  refine fw_iload_n (i := 2) 2 rfl (show decode _ _ = .ok (.iload_n 2, 1) by decide +kernel) ?_
  obtain ⟨⟨hr8, n7, hs9⟩, h_4⟩ := h_3
  refine fw_callV (mt' := mtX5_tellRail) (mc := 0) (ms := 0) (As := [.int p1, .int p2]) (rest := []) 2 5 n7 (show decode _ _ = .ok (.invokevirtual 80, 3) by decide +kernel) cv_X10_80 ⟨_, rfl, rfl⟩ hr8 hs9 rfl (Nat.le_of_ble_eq_true rfl) (s_X5_tellRail (d := d) (hd_le hd (by decide)) h_4) (by decide) (by decide) (kI (bc' := 0) (bs' := 0) (by decide) (by decide) (fun x10 M6 h_5 => ?_))
  obtain ⟨hbb, h_6⟩ := h_5
  exact fw_ret (v := some (.int x10)) .ireturn (show decode _ _ = .ok (.ireturn, 1) by decide +kernel) ⟨rfl, Or.inr (Or.inl ⟨rfl, hbb⟩)⟩ ⟨_, rfl, h_6⟩
