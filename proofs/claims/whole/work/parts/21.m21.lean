def j_X4_readClause_81 (φ : Int32 → fM → Prop) (p0 : Nat) (p1 : Int32) (s0 : Int32) (M : fM) : Prop := iF (s0 = 0) (φ (0 : Int32) M) (isO M p0 4 ∧ w_X4_passes p0 (52 : Int32) M fun x5 M1 => iF (x5 = 0) (φ (0 : Int32) M1) (isO M1 p0 4 ∧ dR (mP M1 p0 6) fun y9 => w_X10_put y9 (mI M1 p0 9) p1 M1 fun M11 => isO M11 p0 4 ∧ nm ((mI M11 p0 9) + (1 : Int32)) fun x15 => st (wI M11 p0 9 x15) fun M17 => φ (1 : Int32) M17))
set_option maxRecDepth 100000 in
theorem sj_X4_readClause_81 {g : GT} {d : Nat} (hd : 77 ≤ d + 1) {φ : Int32 → fM → Prop} {p0 : Nat} {p1 : Int32} {s0 : Int32} {M : fM} (h : j_X4_readClause_81 φ p0 p1 s0 M) : FW g mtX4_readClause (d + 1) 81 [(0, .ref p0), (1, .int p1)] [.int s0] M 0 0 (rI φ) := by
  unfold j_X4_readClause_81 at h
  refine fw_istore_n (i := 2) (ls' := [(2, .int s0), (0, .ref p0), (1, .int p1)]) (show decode _ _ = .ok (.istore_n 2, 1) by decide +kernel) (by decide) rfl ?_
  refine fw_iload_n (i := 2) 0 rfl (show decode _ _ = .ok (.iload_n 2, 1) by decide +kernel) ?_
  refine fw_if_eq 95 (show decode _ _ = .ok (.ifCond .eq 12, 3) by decide +kernel) (by decide) (fun hc20 => ?_) (fun hc20 => ?_)
  · have h_1 := ipos hc20 h
    refine fw_iconst (v := (0 : Int32)) (show decode _ _ = .ok (.iconst 0, 1) by decide +kernel) (by decide) ?_
    exact fw_ret (v := some (.int (0 : Int32))) .ireturn (show decode _ _ = .ok (.ireturn, 1) by decide +kernel) ⟨rfl, Or.inr (Or.inl ⟨rfl, rfl⟩)⟩ ⟨_, rfl, h_1⟩
  · have h_2 := ineg hc20 h
    refine fw_aload_n (i := 0) 1 rfl (show decode _ _ = .ok (.aload_n 0, 1) by decide +kernel) ?_
    refine fw_bipush (v := (52 : Int32)) (show decode _ _ = .ok (.bipush 52, 2) by decide +kernel) (by decide) ?_
    obtain ⟨⟨hr3, n2, hs4⟩, h_3⟩ := h_2
    refine fw_callV (mt' := mtX4_passes) (mc := 0) (ms := 0) (As := [.int (52 : Int32)]) (rest := []) 1 4 n2 (show decode _ _ = .ok (.invokevirtual 94, 3) by decide +kernel) cv_X4_94 ⟨_, rfl, rfl⟩ hr3 hs4 rfl (Nat.le_of_ble_eq_true rfl) (s_X4_passes (d := d) (hd_le hd (by decide)) h_3) (by decide) (by decide) (kI (bc' := 0) (bs' := 0) (by decide) (by decide) (fun x5 M1 h_4 => ?_))
    refine fw_if_ne 97 (show decode _ _ = .ok (.ifCond .ne 5, 3) by decide +kernel) (by decide) (fun hc19 => ?_) (fun hc19 => ?_)
    · have h_5 := ineg hc19 h_4
      refine fw_aload_n (i := 0) 1 rfl (show decode _ _ = .ok (.aload_n 0, 1) by decide +kernel) ?_
      obtain ⟨⟨hr7, n6, hs8⟩, h_6⟩ := h_5
      refine fw_getP (kd := 4) (k := 6) (show decode _ _ = .ok (.getfield 28, 3) by decide +kernel) gf_X4_28 hr7 hs8 rfl ?_
      have h_7 := dR_e h_6
      obtain ⟨y9, hy10, h_8⟩ := h_7
      refine fw_deref hy10 ?_
      refine fw_aload_n (i := 0) 1 rfl (show decode _ _ = .ok (.aload_n 0, 1) by decide +kernel) ?_
      refine fw_getI (kd := 4) (k := 9) (show decode _ _ = .ok (.getfield 41, 3) by decide +kernel) gf_X4_41 hr7 hs8 (Or.inl rfl) ?_
      refine fw_iload_n (i := 1) 2 rfl (show decode _ _ = .ok (.iload_n 1, 1) by decide +kernel) ?_
      refine fw_callSN (mt' := mtX10_put) (mc := 0) (ms := 0) (As := [.ref y9, .int (mI M1 p0 9), .int p1]) (rest := []) 3 "OneStepMore" (show decode _ _ = .ok (.invokestatic 97, 3) by decide +kernel) ns_X4_97 rfl (Nat.le_of_ble_eq_true rfl) (s_X10_put (d := d) (hd_le hd (by decide)) h_8) (by decide) (by decide) (kV (bc' := 0) (bs' := 0) (by decide) (by decide) (fun M11 h_9 => ?_))
      refine fw_aload_n (i := 0) 1 rfl (show decode _ _ = .ok (.aload_n 0, 1) by decide +kernel) ?_
      refine fw_dup (show decode _ _ = .ok (.dup, 1) by decide +kernel) rfl ?_
      obtain ⟨⟨hr13, n12, hs14⟩, h_10⟩ := h_9
      refine fw_getI (kd := 4) (k := 9) (show decode _ _ = .ok (.getfield 41, 3) by decide +kernel) gf_X4_41 hr13 hs14 (Or.inl rfl) ?_
      refine fw_iconst (v := (1 : Int32)) (show decode _ _ = .ok (.iconst 1, 1) by decide +kernel) (by decide) ?_
      refine fw_iadd (show decode _ _ = .ok (.iadd, 1) by decide +kernel) ?_
      refine fw_nmI (fun x15 ex16 => ?_)
      have h_11 := h_10 x15 ex16
      refine fw_putI (kd := 4) (k := 9) (show decode _ _ = .ok (.putfield 41, 3) by decide +kernel) ⟨gf_X4_41, _, rfl, Or.inl rfl⟩ hr13 hs14 rfl ?_
      refine FW.nmM (fun M17 eM18 => ?_)
      have h_12 := h_11 M17 eM18
      refine fw_iconst (v := (1 : Int32)) (show decode _ _ = .ok (.iconst 1, 1) by decide +kernel) (by decide) ?_
      exact fw_ret (v := some (.int (1 : Int32))) .ireturn (show decode _ _ = .ok (.ireturn, 1) by decide +kernel) ⟨rfl, Or.inr (Or.inl ⟨rfl, rfl⟩)⟩ ⟨_, rfl, h_12⟩
    · have h_13 := ipos hc19 h_4
      refine fw_iconst (v := (0 : Int32)) (show decode _ _ = .ok (.iconst 0, 1) by decide +kernel) (by decide) ?_
      exact fw_ret (v := some (.int (0 : Int32))) .ireturn (show decode _ _ = .ok (.ireturn, 1) by decide +kernel) ⟨rfl, Or.inr (Or.inl ⟨rfl, rfl⟩)⟩ ⟨_, rfl, h_13⟩
def j_X4_readClause_43 (φ : Int32 → fM → Prop) (p0 : Nat) (p1 : Int32) (M : fM) : Prop := isO M p0 4 ∧ iF ((mI M p0 9) < (24 : Int32)) (w_X4_advance p0 M fun M24 => iF ((5 : Int32) ≤ p1) (isO M24 p0 4 ∧ w_X4_readDeed p0 p1 M24 fun x29 M25 => j_X4_readClause_81 φ p0 p1 x29 M25) (isO M24 p0 4 ∧ w_X4_readLaw p0 p1 M24 fun x34 M30 => j_X4_readClause_81 φ p0 p1 x34 M30)) (w_X4_faulty p0 (6 : Int32) M fun x37 M36 => isB x37 ∧ φ x37 M36)
set_option maxRecDepth 100000 in
theorem sj_X4_readClause_43 {g : GT} {d : Nat} (hd : 77 ≤ d + 1) {φ : Int32 → fM → Prop} {p0 : Nat} {p1 : Int32} {M : fM} (h : j_X4_readClause_43 φ p0 p1 M) : FW g mtX4_readClause (d + 1) 43 [(0, .ref p0), (1, .int p1)] [] M 0 0 (rI φ) := by
  unfold j_X4_readClause_43 at h
  refine fw_aload_n (i := 0) 0 rfl (show decode _ _ = .ok (.aload_n 0, 1) by decide +kernel) ?_
  obtain ⟨⟨hr22, n21, hs23⟩, h_1⟩ := h
  refine fw_getI (kd := 4) (k := 9) (show decode _ _ = .ok (.getfield 41, 3) by decide +kernel) gf_X4_41 hr22 hs23 (Or.inl rfl) ?_
  refine fw_bipush (v := (24 : Int32)) (show decode _ _ = .ok (.bipush 24, 2) by decide +kernel) (by decide) ?_
  refine fw_icmp_lt 59 (show decode _ _ = .ok (.if_icmp .lt 10, 3) by decide +kernel) (by decide) (fun hc38 => ?_) (fun hc38 => ?_)
  · have h_2 := ipos hc38 h_1
    refine fw_aload_n (i := 0) 0 rfl (show decode _ _ = .ok (.aload_n 0, 1) by decide +kernel) ?_
    refine fw_callV (mt' := mtX4_advance) (mc := 0) (ms := 0) (As := []) (rest := []) 0 4 n21 (show decode _ _ = .ok (.invokevirtual 58, 3) by decide +kernel) cv_X4_58 ⟨_, rfl, rfl⟩ hr22 hs23 rfl (Nat.le_of_ble_eq_true rfl) (s_X4_advance (d := d) (hd_le hd (by decide)) h_2) (by decide) (by decide) (kV (bc' := 0) (bs' := 0) (by decide) (by decide) (fun M24 h_3 => ?_))
    refine fw_iload_n (i := 1) 1 rfl (show decode _ _ = .ok (.iload_n 1, 1) by decide +kernel) ?_
    refine fw_iconst (v := (5 : Int32)) (show decode _ _ = .ok (.iconst 5, 1) by decide +kernel) (by decide) ?_
    refine fw_icmp_ge 76 (show decode _ _ = .ok (.if_icmp .ge 11, 3) by decide +kernel) (by decide) (fun hc35 => ?_) (fun hc35 => ?_)
    · have h_4 := ipos hc35 h_3
      refine fw_aload_n (i := 0) 0 rfl (show decode _ _ = .ok (.aload_n 0, 1) by decide +kernel) ?_
      refine fw_iload_n (i := 1) 1 rfl (show decode _ _ = .ok (.iload_n 1, 1) by decide +kernel) ?_
      obtain ⟨⟨hr27, n26, hs28⟩, h_5⟩ := h_4
      refine fw_callV (mt' := mtX4_readDeed) (mc := 0) (ms := 0) (As := [.int p1]) (rest := []) 1 4 n26 (show decode _ _ = .ok (.invokevirtual 91, 3) by decide +kernel) cv_X4_91 ⟨_, rfl, rfl⟩ hr27 hs28 rfl (Nat.le_of_ble_eq_true rfl) (s_X4_readDeed (d := d) (hd_le hd (by decide)) h_5) (by decide) (by decide) (kI (bc' := 0) (bs' := 0) (by decide) (by decide) (fun x29 M25 h_6 => ?_))
      refine FW.sub [0, 1] (ls' := [(0, .ref p0), (1, .int p1)]) rfl ?_
      exact sj_X4_readClause_81 hd h_6
    · have h_7 := ineg hc35 h_3
      refine fw_aload_n (i := 0) 0 rfl (show decode _ _ = .ok (.aload_n 0, 1) by decide +kernel) ?_
      refine fw_iload_n (i := 1) 1 rfl (show decode _ _ = .ok (.iload_n 1, 1) by decide +kernel) ?_
      obtain ⟨⟨hr32, n31, hs33⟩, h_8⟩ := h_7
      refine fw_callV (mt' := mtX4_readLaw) (mc := 0) (ms := 0) (As := [.int p1]) (rest := []) 1 4 n31 (show decode _ _ = .ok (.invokevirtual 88, 3) by decide +kernel) cv_X4_88 ⟨_, rfl, rfl⟩ hr32 hs33 rfl (Nat.le_of_ble_eq_true rfl) (s_X4_readLaw (d := d) (hd_le hd (by decide)) h_8) (by decide) (by decide) (kI (bc' := 0) (bs' := 0) (by decide) (by decide) (fun x34 M30 h_9 => ?_))
      refine fw_goto 81 (show decode _ _ = .ok (.goto 8, 3) by decide +kernel) (by decide) ?_
      refine FW.sub [0, 1] (ls' := [(0, .ref p0), (1, .int p1)]) rfl ?_
      exact sj_X4_readClause_81 hd h_9
  · have h_10 := ineg hc38 h_1
    refine fw_aload_n (i := 0) 0 rfl (show decode _ _ = .ok (.aload_n 0, 1) by decide +kernel) ?_
    refine fw_bipush (v := (6 : Int32)) (show decode _ _ = .ok (.bipush 6, 2) by decide +kernel) (by decide) ?_
    refine fw_callV (mt' := mtX4_faulty) (mc := 0) (ms := 0) (As := [.int (6 : Int32)]) (rest := []) 1 4 n21 (show decode _ _ = .ok (.invokevirtual 84, 3) by decide +kernel) cv_X4_84 ⟨_, rfl, rfl⟩ hr22 hs23 rfl (Nat.le_of_ble_eq_true rfl) (s_X4_faulty (d := d) (hd_le hd (by decide)) h_10) (by decide) (by decide) (kI (bc' := 0) (bs' := 0) (by decide) (by decide) (fun x37 M36 h_11 => ?_))
    obtain ⟨hbb, h_12⟩ := h_11
    exact fw_ret (v := some (.int x37)) .ireturn (show decode _ _ = .ok (.ireturn, 1) by decide +kernel) ⟨rfl, Or.inr (Or.inl ⟨rfl, hbb⟩)⟩ ⟨_, rfl, h_12⟩
def j_X4_readClause_15 (φ : Int32 → fM → Prop) (p0 : Nat) (M : fM) : Prop := isO M p0 4 ∧ w_X4_faulty p0 (1 : Int32) M fun x43 M39 => isB x43 ∧ φ x43 M39
set_option maxRecDepth 100000 in
theorem sj_X4_readClause_15 {g : GT} {d : Nat} (hd : 77 ≤ d + 1) {φ : Int32 → fM → Prop} {p0 : Nat} {M : fM} (h : j_X4_readClause_15 φ p0 M) : FW g mtX4_readClause (d + 1) 15 [(0, .ref p0)] [] M 0 0 (rI φ) := by
  unfold j_X4_readClause_15 at h
  refine fw_aload_n (i := 0) 0 rfl (show decode _ _ = .ok (.aload_n 0, 1) by decide +kernel) ?_
  refine fw_iconst (v := (1 : Int32)) (show decode _ _ = .ok (.iconst 1, 1) by decide +kernel) (by decide) ?_
  obtain ⟨⟨hr41, n40, hs42⟩, h_1⟩ := h
  refine fw_callV (mt' := mtX4_faulty) (mc := 0) (ms := 0) (As := [.int (1 : Int32)]) (rest := []) 1 4 n40 (show decode _ _ = .ok (.invokevirtual 84, 3) by decide +kernel) cv_X4_84 ⟨_, rfl, rfl⟩ hr41 hs42 rfl (Nat.le_of_ble_eq_true rfl) (s_X4_faulty (d := d) (hd_le hd (by decide)) h_1) (by decide) (by decide) (kI (bc' := 0) (bs' := 0) (by decide) (by decide) (fun x43 M39 h_2 => ?_))
  obtain ⟨hbb, h_3⟩ := h_2
  exact fw_ret (v := some (.int x43)) .ireturn (show decode _ _ = .ok (.ireturn, 1) by decide +kernel) ⟨rfl, Or.inr (Or.inl ⟨rfl, hbb⟩)⟩ ⟨_, rfl, h_3⟩
def w_X4_readClause (p0 : Nat) (M : fM) (φ : Int32 → fM → Prop) : Prop := isO M p0 4 ∧ nm (mI M p0 12) fun x47 => iF (x47 < 0) (j_X4_readClause_15 φ p0 M) (iF (x47 ≤ (16 : Int32)) (iF ((5 : Int32) ≤ x47) (j_X4_readClause_43 φ p0 x47 M) (dR (mP M p0 5) fun y49 => w_X10_cell y49 x47 M fun x52 M51 => iF (x52 ≤ 0) (j_X4_readClause_43 φ p0 x47 M51) (isO M51 p0 4 ∧ w_X4_faulty p0 (4 : Int32) M51 fun x57 M53 => isB x57 ∧ φ x57 M53))) (j_X4_readClause_15 φ p0 M))
set_option maxRecDepth 100000 in
theorem s_X4_readClause {g : GT} {d : Nat} (hd : 77 ≤ d) {p0 : Nat} {M : fM} {φ : Int32 → fM → Prop} (h : w_X4_readClause p0 M φ) : FC g mtX4_readClause d [.ref p0] M 0 0 (rI φ) := by
  obtain ⟨d, rfl⟩ : ∃ e, d = e + 1 := ⟨d - 1, by omega⟩
  unfold w_X4_readClause at h
  refine FC.intro (nL := 3) (by decide) rfl (Nat.le_of_ble_eq_true rfl) ?_
  show FW g mtX4_readClause (d + 1) 0 [(0, .ref p0)] [] M 0 0 (rI φ)
  refine fw_aload_n (i := 0) 0 rfl (show decode _ _ = .ok (.aload_n 0, 1) by decide +kernel) ?_
  obtain ⟨⟨hr45, n44, hs46⟩, h_1⟩ := h
  refine fw_getI (kd := 4) (k := 12) (show decode _ _ = .ok (.getfield 61, 3) by decide +kernel) gf_X4_61 hr45 hs46 (Or.inl rfl) ?_
  refine fw_nmI (fun x47 ex48 => ?_)
  have h_2 := h_1 x47 ex48
  refine fw_istore_n (i := 1) (ls' := [(1, .int x47), (0, .ref p0)]) (show decode _ _ = .ok (.istore_n 1, 1) by decide +kernel) (by decide) rfl ?_
  refine fw_iload_n (i := 1) 0 rfl (show decode _ _ = .ok (.iload_n 1, 1) by decide +kernel) ?_
  refine fw_if_lt 15 (show decode _ _ = .ok (.ifCond .lt 9, 3) by decide +kernel) (by decide) (fun hc61 => ?_) (fun hc61 => ?_)
  · have h_3 := ipos hc61 h_2
    refine FW.sub [1] (ls' := [(0, .ref p0)]) rfl ?_
    exact sj_X4_readClause_15 hd h_3
  · have h_4 := ineg hc61 h_2
    refine fw_iload_n (i := 1) 0 rfl (show decode _ _ = .ok (.iload_n 1, 1) by decide +kernel) ?_
    refine fw_bipush (v := (16 : Int32)) (show decode _ _ = .ok (.bipush 16, 2) by decide +kernel) (by decide) ?_
    refine fw_icmp_le 21 (show decode _ _ = .ok (.if_icmp .le 9, 3) by decide +kernel) (by decide) (fun hc60 => ?_) (fun hc60 => ?_)
    · have h_5 := ipos hc60 h_4
      refine fw_iload_n (i := 1) 0 rfl (show decode _ _ = .ok (.iload_n 1, 1) by decide +kernel) ?_
      refine fw_iconst (v := (5 : Int32)) (show decode _ _ = .ok (.iconst 5, 1) by decide +kernel) (by decide) ?_
      refine fw_icmp_ge 43 (show decode _ _ = .ok (.if_icmp .ge 20, 3) by decide +kernel) (by decide) (fun hc59 => ?_) (fun hc59 => ?_)
      · have h_6 := ipos hc59 h_5
        refine FW.sub [1, 0] (ls' := [(0, .ref p0), (1, .int x47)]) rfl ?_
        exact sj_X4_readClause_43 hd h_6
      · have h_7 := ineg hc59 h_5
        refine fw_aload_n (i := 0) 1 rfl (show decode _ _ = .ok (.aload_n 0, 1) by decide +kernel) ?_
        refine fw_getP (kd := 4) (k := 5) (show decode _ _ = .ok (.getfield 25, 3) by decide +kernel) gf_X4_25 hr45 hs46 rfl ?_
        have h_8 := dR_e h_7
        obtain ⟨y49, hy50, h_9⟩ := h_8
        refine fw_deref hy50 ?_
        refine fw_iload_n (i := 1) 0 rfl (show decode _ _ = .ok (.iload_n 1, 1) by decide +kernel) ?_
        refine fw_callSN (mt' := mtX10_cell) (mc := 0) (ms := 0) (As := [.ref y49, .int x47]) (rest := []) 2 "OneStepMore" (show decode _ _ = .ok (.invokestatic 80, 3) by decide +kernel) ns_X4_80 rfl (Nat.le_of_ble_eq_true rfl) (s_X10_cell (d := d) (hd_le hd (by decide)) h_9) (by decide) (by decide) (kI (bc' := 0) (bs' := 0) (by decide) (by decide) (fun x52 M51 h_10 => ?_))
        refine fw_if_le 43 (show decode _ _ = .ok (.ifCond .le 9, 3) by decide +kernel) (by decide) (fun hc58 => ?_) (fun hc58 => ?_)
        · have h_11 := ipos hc58 h_10
          refine FW.sub [1, 0] (ls' := [(0, .ref p0), (1, .int x47)]) rfl ?_
          exact sj_X4_readClause_43 hd h_11
        · have h_12 := ineg hc58 h_10
          refine fw_aload_n (i := 0) 1 rfl (show decode _ _ = .ok (.aload_n 0, 1) by decide +kernel) ?_
          refine fw_iconst (v := (4 : Int32)) (show decode _ _ = .ok (.iconst 4, 1) by decide +kernel) (by decide) ?_
          obtain ⟨⟨hr55, n54, hs56⟩, h_13⟩ := h_12
          refine fw_callV (mt' := mtX4_faulty) (mc := 0) (ms := 0) (As := [.int (4 : Int32)]) (rest := []) 1 4 n54 (show decode _ _ = .ok (.invokevirtual 84, 3) by decide +kernel) cv_X4_84 ⟨_, rfl, rfl⟩ hr55 hs56 rfl (Nat.le_of_ble_eq_true rfl) (s_X4_faulty (d := d) (hd_le hd (by decide)) h_13) (by decide) (by decide) (kI (bc' := 0) (bs' := 0) (by decide) (by decide) (fun x57 M53 h_14 => ?_))
          obtain ⟨hbb, h_15⟩ := h_14
          exact fw_ret (v := some (.int x57)) .ireturn (show decode _ _ = .ok (.ireturn, 1) by decide +kernel) ⟨rfl, Or.inr (Or.inl ⟨rfl, hbb⟩)⟩ ⟨_, rfl, h_15⟩
    · have h_16 := ineg hc60 h_4
      refine FW.sub [1] (ls' := [(0, .ref p0)]) rfl ?_
      exact sj_X4_readClause_15 hd h_16
def w_X8_init (p0 : Nat) (p1 : Nat) (p2 : Nat) (p3 : Nat) (p4 : Nat) (p5 : Nat) (M : fM) (φ : fM → Prop) : Prop := isO M p0 8 ∧ st (wP M p0 0 (some p1)) fun M4 => st (wP M4 p0 1 (some p2)) fun M6 => st (wP M6 p0 2 (some p3)) fun M8 => st (wP M8 p0 3 (some p4)) fun M10 => st (wP M10 p0 4 (some p5)) fun M12 => φ M12
set_option maxRecDepth 100000 in
theorem s_X8_init {g : GT} {d : Nat} (hd : 1 ≤ d) {p0 : Nat} {p1 : Nat} {p2 : Nat} {p3 : Nat} {p4 : Nat} {p5 : Nat} {M : fM} {φ : fM → Prop} (h : w_X8_init p0 p1 p2 p3 p4 p5 M φ) : FC g mtX8_init d [.ref p0, .ref p1, .ref p2, .ref p3, .ref p4, .ref p5] M 0 0 (rV φ) := by
  obtain ⟨d, rfl⟩ : ∃ e, d = e + 1 := ⟨d - 1, by omega⟩
  unfold w_X8_init at h
  refine FC.intro (nL := 6) (by decide) rfl (Nat.le_of_ble_eq_true rfl) ?_
  show FW g mtX8_init (d + 1) 0 [(0, .ref p0), (1, .ref p1), (2, .ref p2), (3, .ref p3), (4, .ref p4), (5, .ref p5)] [] M 0 0 (rV φ)
  refine fw_aload_n (i := 0) 0 rfl (show decode _ _ = .ok (.aload_n 0, 1) by decide +kernel) ?_
  refine fw_objInit (idx := 3) (rest := []) (show decode _ _ = .ok (.invokespecial 3, 3) by decide +kernel) ⟨wd807, wd155, wd156⟩ (Nat.le_of_ble_eq_true rfl) ?_
  refine fw_aload_n (i := 0) 0 rfl (show decode _ _ = .ok (.aload_n 0, 1) by decide +kernel) ?_
  refine fw_aload_n (i := 1) 1 rfl (show decode _ _ = .ok (.aload_n 1, 1) by decide +kernel) ?_
  obtain ⟨⟨hr2, n1, hs3⟩, h_1⟩ := h
  refine fw_putP (x := (some p1)) (kd := 8) (k := 0) (show decode _ _ = .ok (.putfield 9, 3) by decide +kernel) ⟨gf_X8_9, _, rfl, Or.inr ⟨rfl, rfl, rfl⟩⟩ hr2 hs3 rfl ?_
  refine FW.nmM (fun M4 eM5 => ?_)
  have h_2 := h_1 M4 eM5
  refine fw_aload_n (i := 0) 0 rfl (show decode _ _ = .ok (.aload_n 0, 1) by decide +kernel) ?_
  refine fw_aload_n (i := 2) 2 rfl (show decode _ _ = .ok (.aload_n 2, 1) by decide +kernel) ?_
  refine fw_putP (x := (some p2)) (kd := 8) (k := 1) (show decode _ _ = .ok (.putfield 15, 3) by decide +kernel) ⟨gf_X8_15, _, rfl, Or.inr ⟨rfl, rfl, rfl⟩⟩ hr2 (mSw_P eM5 hs3) rfl ?_
  refine FW.nmM (fun M6 eM7 => ?_)
  have h_3 := h_2 M6 eM7
  refine fw_aload_n (i := 0) 0 rfl (show decode _ _ = .ok (.aload_n 0, 1) by decide +kernel) ?_
  refine fw_aload_n (i := 3) 3 rfl (show decode _ _ = .ok (.aload_n 3, 1) by decide +kernel) ?_
  refine fw_putP (x := (some p3)) (kd := 8) (k := 2) (show decode _ _ = .ok (.putfield 18, 3) by decide +kernel) ⟨gf_X8_18, _, rfl, Or.inr ⟨rfl, rfl, rfl⟩⟩ hr2 (mSw_P eM7 (mSw_P eM5 hs3)) rfl ?_
  refine FW.nmM (fun M8 eM9 => ?_)
  have h_4 := h_3 M8 eM9
  refine fw_aload_n (i := 0) 0 rfl (show decode _ _ = .ok (.aload_n 0, 1) by decide +kernel) ?_
  refine fw_aload (i := 4) 4 rfl (show decode _ _ = .ok (.aload 4, 2) by decide +kernel) ?_
  refine fw_putP (x := (some p4)) (kd := 8) (k := 3) (show decode _ _ = .ok (.putfield 21, 3) by decide +kernel) ⟨gf_X8_21, _, rfl, Or.inr ⟨rfl, rfl, rfl⟩⟩ hr2 (mSw_P eM9 (mSw_P eM7 (mSw_P eM5 hs3))) rfl ?_
  refine FW.nmM (fun M10 eM11 => ?_)
  have h_5 := h_4 M10 eM11
  refine fw_aload_n (i := 0) 0 rfl (show decode _ _ = .ok (.aload_n 0, 1) by decide +kernel) ?_
  refine fw_aload (i := 5) 5 rfl (show decode _ _ = .ok (.aload 5, 2) by decide +kernel) ?_
  refine fw_putP (x := (some p5)) (kd := 8) (k := 4) (show decode _ _ = .ok (.putfield 24, 3) by decide +kernel) ⟨gf_X8_24, _, rfl, Or.inr ⟨rfl, rfl, rfl⟩⟩ hr2 (mSw_P eM11 (mSw_P eM9 (mSw_P eM7 (mSw_P eM5 hs3)))) rfl ?_
  refine FW.nmM (fun M12 eM13 => ?_)
  have h_6 := h_5 M12 eM13
  exact fw_ret (v := none) .return_ (show decode _ _ = .ok (.return_, 1) by decide +kernel) ⟨rfl, rfl⟩ ⟨rfl, h_6⟩
def j_X4_read_92 (φ : Option Nat → fM → Prop) (p0 : Nat) (M : fM) : Prop := nw M 8 5 fun q1 M3 => isO M3 p0 4 ∧ dR (mP M3 p0 3) fun y8 => w_J7_copyOf_59c91 y8 (mI M3 p0 8) M3 fun o11 M10 => isO M10 p0 4 ∧ dR (mP M10 p0 4) fun y15 => w_J7_copyOf_59c91 y15 (5 : Int32) M10 fun o18 M17 => isO M17 p0 4 ∧ dR (mP M17 p0 5) fun y22 => w_J7_copyOf_59c91 y22 (5 : Int32) M17 fun o25 M24 => isO M24 p0 4 ∧ dR (mP M24 p0 6) fun y29 => w_J7_copyOf_59c91 y29 (mI M24 p0 9) M24 fun o32 M31 => isO M31 p0 4 ∧ dR (mP M31 p0 7) fun y36 => w_J7_copyOf_59c91 y36 ((mI M31 p0 9) * (3 : Int32)) M31 fun o39 M38 => dR o11 fun y40 => dR o18 fun y42 => dR o25 fun y44 => dR o32 fun y46 => dR o39 fun y48 => w_X8_init q1 y40 y42 y44 y46 y48 M38 fun M50 => φ (some q1) M50
set_option maxRecDepth 100000 in
theorem sj_X4_read_92 {g : GT} {d : Nat} (hd : 78 ≤ d + 1) {φ : Option Nat → fM → Prop} {p0 : Nat} {M : fM} (h : j_X4_read_92 φ p0 M) : FW g mtX4_read (d + 1) 92 [(0, .ref p0)] [] M 11 3005 (rP φ) := by
  unfold j_X4_read_92 at h
  refine fw_new (kd := 8) (len := 5) (show decode _ _ = .ok (.new 68, 3) by decide +kernel) cl_X4_68 (by decide) (by decide) ?_
  refine FW.room (bc' := 10) (bs' := 3000) (by decide) (by decide) ?_
  refine FW.nmN (fun q1 eq2 => ?_)
  refine FW.nmM (fun M3 eM4 => ?_)
  have h_1 := h q1 M3 eq2 eM4
  refine fw_dup (show decode _ _ = .ok (.dup, 1) by decide +kernel) rfl ?_
  refine fw_aload_n (i := 0) 0 rfl (show decode _ _ = .ok (.aload_n 0, 1) by decide +kernel) ?_
  obtain ⟨⟨hr6, n5, hs7⟩, h_2⟩ := h_1
  refine fw_getP (kd := 4) (k := 3) (show decode _ _ = .ok (.getfield 18, 3) by decide +kernel) gf_X4_18 hr6 hs7 rfl ?_
  have h_3 := dR_e h_2
  obtain ⟨y8, hy9, h_4⟩ := h_3
  refine fw_deref hy9 ?_
  refine fw_aload_n (i := 0) 0 rfl (show decode _ _ = .ok (.aload_n 0, 1) by decide +kernel) ?_
  refine fw_getI (kd := 4) (k := 8) (show decode _ _ = .ok (.getfield 38, 3) by decide +kernel) gf_X4_38 hr6 hs7 (Or.inl rfl) ?_
  refine fw_callS (mt' := mtJ7_copyOf_59c91) (mc := 2) (ms := 600) (As := [.ref y8, .int (mI M3 p0 8)]) (rest := [.ref q1, .ref q1]) 2 (show decode _ _ = .ok (.invokestatic 70, 3) by decide +kernel) cs_X4_70 rfl (Nat.le_of_ble_eq_true rfl) (s_J7_copyOf_59c91 (d := d) (hd_le hd (by decide)) h_4) (by decide) (by decide) (kP (bc' := 8) (bs' := 2400) (by decide) (by decide) (fun o11 M10 h_5 => ?_))
  refine fw_aload_n (i := 0) 0 rfl (show decode _ _ = .ok (.aload_n 0, 1) by decide +kernel) ?_
  obtain ⟨⟨hr13, n12, hs14⟩, h_6⟩ := h_5
  refine fw_getP (kd := 4) (k := 4) (show decode _ _ = .ok (.getfield 22, 3) by decide +kernel) gf_X4_22 hr13 hs14 rfl ?_
  have h_7 := dR_e h_6
  obtain ⟨y15, hy16, h_8⟩ := h_7
  refine fw_deref hy16 ?_
  refine fw_iconst (v := (5 : Int32)) (show decode _ _ = .ok (.iconst 5, 1) by decide +kernel) (by decide) ?_
  refine fw_callS (mt' := mtJ7_copyOf_59c91) (mc := 2) (ms := 600) (As := [.ref y15, .int (5 : Int32)]) (rest := [fr o11, .ref q1, .ref q1]) 2 (show decode _ _ = .ok (.invokestatic 70, 3) by decide +kernel) cs_X4_70 rfl (by cases o11 <;> exact Nat.le_of_ble_eq_true rfl) (s_J7_copyOf_59c91 (d := d) (hd_le hd (by decide)) h_8) (by decide) (by decide) (kP (bc' := 6) (bs' := 1800) (by decide) (by decide) (fun o18 M17 h_9 => ?_))
  refine fw_aload_n (i := 0) 0 rfl (show decode _ _ = .ok (.aload_n 0, 1) by decide +kernel) ?_
  obtain ⟨⟨hr20, n19, hs21⟩, h_10⟩ := h_9
  refine fw_getP (kd := 4) (k := 5) (show decode _ _ = .ok (.getfield 25, 3) by decide +kernel) gf_X4_25 hr20 hs21 rfl ?_
  have h_11 := dR_e h_10
  obtain ⟨y22, hy23, h_12⟩ := h_11
  refine fw_deref hy23 ?_
  refine fw_iconst (v := (5 : Int32)) (show decode _ _ = .ok (.iconst 5, 1) by decide +kernel) (by decide) ?_
  refine fw_callS (mt' := mtJ7_copyOf_59c91) (mc := 2) (ms := 600) (As := [.ref y22, .int (5 : Int32)]) (rest := [fr o18, fr o11, .ref q1, .ref q1]) 2 (show decode _ _ = .ok (.invokestatic 70, 3) by decide +kernel) cs_X4_70 rfl (by cases o18 <;> cases o11 <;> exact Nat.le_of_ble_eq_true rfl) (s_J7_copyOf_59c91 (d := d) (hd_le hd (by decide)) h_12) (by decide) (by decide) (kP (bc' := 4) (bs' := 1200) (by decide) (by decide) (fun o25 M24 h_13 => ?_))
  refine fw_aload_n (i := 0) 0 rfl (show decode _ _ = .ok (.aload_n 0, 1) by decide +kernel) ?_
  obtain ⟨⟨hr27, n26, hs28⟩, h_14⟩ := h_13
  refine fw_getP (kd := 4) (k := 6) (show decode _ _ = .ok (.getfield 28, 3) by decide +kernel) gf_X4_28 hr27 hs28 rfl ?_
  have h_15 := dR_e h_14
  obtain ⟨y29, hy30, h_16⟩ := h_15
  refine fw_deref hy30 ?_
  refine fw_aload_n (i := 0) 0 rfl (show decode _ _ = .ok (.aload_n 0, 1) by decide +kernel) ?_
  refine fw_getI (kd := 4) (k := 9) (show decode _ _ = .ok (.getfield 41, 3) by decide +kernel) gf_X4_41 hr27 hs28 (Or.inl rfl) ?_
  refine fw_callS (mt' := mtJ7_copyOf_59c91) (mc := 2) (ms := 600) (As := [.ref y29, .int (mI M24 p0 9)]) (rest := [fr o25, fr o18, fr o11, .ref q1, .ref q1]) 2 (show decode _ _ = .ok (.invokestatic 70, 3) by decide +kernel) cs_X4_70 rfl (by cases o25 <;> cases o18 <;> cases o11 <;> exact Nat.le_of_ble_eq_true rfl) (s_J7_copyOf_59c91 (d := d) (hd_le hd (by decide)) h_16) (by decide) (by decide) (kP (bc' := 2) (bs' := 600) (by decide) (by decide) (fun o32 M31 h_17 => ?_))
  refine fw_aload_n (i := 0) 0 rfl (show decode _ _ = .ok (.aload_n 0, 1) by decide +kernel) ?_
  obtain ⟨⟨hr34, n33, hs35⟩, h_18⟩ := h_17
  refine fw_getP (kd := 4) (k := 7) (show decode _ _ = .ok (.getfield 31, 3) by decide +kernel) gf_X4_31 hr34 hs35 rfl ?_
  have h_19 := dR_e h_18
  obtain ⟨y36, hy37, h_20⟩ := h_19
  refine fw_deref hy37 ?_
  refine fw_aload_n (i := 0) 0 rfl (show decode _ _ = .ok (.aload_n 0, 1) by decide +kernel) ?_
  refine fw_getI (kd := 4) (k := 9) (show decode _ _ = .ok (.getfield 41, 3) by decide +kernel) gf_X4_41 hr34 hs35 (Or.inl rfl) ?_
  refine fw_iconst (v := (3 : Int32)) (show decode _ _ = .ok (.iconst 3, 1) by decide +kernel) (by decide) ?_
  refine fw_imul (show decode _ _ = .ok (.imul, 1) by decide +kernel) ?_
  refine fw_callS (mt' := mtJ7_copyOf_59c91) (mc := 2) (ms := 600) (As := [.ref y36, .int ((mI M31 p0 9) * (3 : Int32))]) (rest := [fr o32, fr o25, fr o18, fr o11, .ref q1, .ref q1]) 2 (show decode _ _ = .ok (.invokestatic 70, 3) by decide +kernel) cs_X4_70 rfl (by cases o32 <;> cases o25 <;> cases o18 <;> cases o11 <;> exact Nat.le_of_ble_eq_true rfl) (s_J7_copyOf_59c91 (d := d) (hd_le hd (by decide)) h_20) (by decide) (by decide) (kP (bc' := 0) (bs' := 0) (by decide) (by decide) (fun o39 M38 h_21 => ?_))
  have h_22 := dR_e h_21
  obtain ⟨y40, hy41, h_23⟩ := h_22
  subst hy41
  have h_24 := dR_e h_23
  obtain ⟨y42, hy43, h_25⟩ := h_24
  subst hy43
  have h_26 := dR_e h_25
  obtain ⟨y44, hy45, h_27⟩ := h_26
  subst hy45
  have h_28 := dR_e h_27
  obtain ⟨y46, hy47, h_29⟩ := h_28
  subst hy47
  have h_30 := dR_e h_29
  obtain ⟨y48, hy49, h_31⟩ := h_30
  subst hy49
  refine fw_callI (mt' := mtX8_init) (mc := 0) (ms := 0) (As := [.ref y40, .ref y42, .ref y44, .ref y46, .ref y48]) (rest := [.ref q1]) 5 (show decode _ _ = .ok (.invokespecial 74, 3) by decide +kernel) ci_X4_74 rfl (Nat.le_of_ble_eq_true rfl) (s_X8_init (d := d) (hd_le hd (by decide)) h_31) (by decide) (by decide) (kV (bc' := 0) (bs' := 0) (by decide) (by decide) (fun M50 h_32 => ?_))
  exact fw_retq (x := (some q1)) (show decode _ _ = .ok (.areturn, 1) by decide +kernel) ⟨_, rfl, Or.inl ⟨_, rfl⟩⟩ ⟨_, rfl, h_32⟩
def b_X4_read_62 (K62 : Nat → Int32 → fM → Prop) (φ : Option Nat → fM → Prop) (p0 : Nat) (p1 : Int32) (M : fM) : Prop := iF ((24 : Int32) < p1) (j_X4_read_92 φ p0 M) (isO M p0 4 ∧ iF ((mI M p0 12) = (61 : Int32)) (j_X4_read_92 φ p0 M) (w_X4_readClause p0 M fun x55 M54 => iF (x55 = 0) (φ none M54) (nm (p1 + (1 : Int32)) fun x56 => K62 p0 x56 M54)))
def l_X4_read_62 (φ : Option Nat → fM → Prop) : Nat → Nat → Int32 → fM → Prop
  | 0, _, _, _ => False
  | n + 1, p0, p1, M => b_X4_read_62 (l_X4_read_62 φ n) φ p0 p1 M
set_option maxRecDepth 100000 in
theorem sb_X4_read_62 {g : GT} {d : Nat} (hd : 78 ≤ d + 1) {K62 : Nat → Int32 → fM → Prop} {φ : Option Nat → fM → Prop} (hK62 : ∀ (p0 : Nat) (p1 : Int32) (M : fM), K62 p0 p1 M → FW g mtX4_read (d + 1) 62 [(0, .ref p0), (1, .int p1)] [] M 11 3005 (rP φ)) {p0 : Nat} {p1 : Int32} {M : fM} (h : b_X4_read_62 K62 φ p0 p1 M) : FW g mtX4_read (d + 1) 62 [(0, .ref p0), (1, .int p1)] [] M 11 3005 (rP φ) := by
  unfold b_X4_read_62 at h
  refine fw_iload_n (i := 1) 1 rfl (show decode _ _ = .ok (.iload_n 1, 1) by decide +kernel) ?_
  refine fw_bipush (v := (24 : Int32)) (show decode _ _ = .ok (.bipush 24, 2) by decide +kernel) (by decide) ?_
  refine fw_icmp_gt 92 (show decode _ _ = .ok (.if_icmp .gt 27, 3) by decide +kernel) (by decide) (fun hc60 => ?_) (fun hc60 => ?_)
  · have h_1 := ipos hc60 h
    refine FW.sub [0] (ls' := [(0, .ref p0)]) rfl ?_
    exact sj_X4_read_92 hd h_1
  · have h_2 := ineg hc60 h
    refine fw_aload_n (i := 0) 0 rfl (show decode _ _ = .ok (.aload_n 0, 1) by decide +kernel) ?_
    obtain ⟨⟨hr52, n51, hs53⟩, h_3⟩ := h_2
    refine fw_getI (kd := 4) (k := 12) (show decode _ _ = .ok (.getfield 61, 3) by decide +kernel) gf_X4_61 hr52 hs53 (Or.inl rfl) ?_
    refine fw_bipush (v := (61 : Int32)) (show decode _ _ = .ok (.bipush 61, 2) by decide +kernel) (by decide) ?_
    refine fw_icmp_eq 92 (show decode _ _ = .ok (.if_icmp .eq 18, 3) by decide +kernel) (by decide) (fun hc59 => ?_) (fun hc59 => ?_)
    · have h_4 := ipos hc59 h_3
      refine FW.sub [0] (ls' := [(0, .ref p0)]) rfl ?_
      exact sj_X4_read_92 hd h_4
    · have h_5 := ineg hc59 h_3
      refine fw_aload_n (i := 0) 0 rfl (show decode _ _ = .ok (.aload_n 0, 1) by decide +kernel) ?_
      refine fw_callV (mt' := mtX4_readClause) (mc := 0) (ms := 0) (As := []) (rest := []) 0 4 n51 (show decode _ _ = .ok (.invokevirtual 64, 3) by decide +kernel) cv_X4_64 ⟨_, rfl, rfl⟩ hr52 hs53 rfl (Nat.le_of_ble_eq_true rfl) (s_X4_readClause (d := d) (hd_le hd (by decide)) h_5) (by decide) (by decide) (kI (bc' := 11) (bs' := 3005) (by decide) (by decide) (fun x55 M54 h_6 => ?_))
      refine fw_if_ne 86 (show decode _ _ = .ok (.ifCond .ne 5, 3) by decide +kernel) (by decide) (fun hc58 => ?_) (fun hc58 => ?_)
      · have h_7 := ineg hc58 h_6
        obtain ⟨x56, ex57⟩ : ∃ y : Int32, y = p1 + (1 : Int32) := ⟨_, rfl⟩
        have h_8 := h_7 x56 ex57
        refine fw_iinc (i := 1) (x := p1) (v := x56) (ls' := [(1, .int x56), (0, .ref p0)]) 1 rfl (show decode _ _ = .ok (.iinc 1 1, 3) by decide +kernel) (by rw [ex57]; rfl) (by decide) rfl ?_
        refine fw_goto 62 (show decode _ _ = .ok (.goto (-27), 3) by decide +kernel) (by decide) ?_
        refine FW.sub [1, 0] (ls' := [(0, .ref p0), (1, .int x56)]) rfl ?_
        exact hK62 _ _ _ h_8
      · have h_9 := ipos hc58 h_6
        refine fw_nullq (show decode _ _ = .ok (.aconst_null, 1) by decide +kernel) ?_
        exact fw_retq (x := none) (show decode _ _ = .ok (.areturn, 1) by decide +kernel) ⟨_, rfl, Or.inl ⟨_, rfl⟩⟩ ⟨_, rfl, h_9⟩
theorem sl_X4_read_62 {g : GT} {d : Nat} (hd : 78 ≤ d + 1) {φ : Option Nat → fM → Prop} : ∀ (n : Nat) {p0 : Nat} {p1 : Int32} {M : fM}, l_X4_read_62 φ n p0 p1 M → FW g mtX4_read (d + 1) 62 [(0, .ref p0), (1, .int p1)] [] M 11 3005 (rP φ)
  | 0 => fun h => h.elim
  | n + 1 => fun h => sb_X4_read_62 hd (fun _ _ _ h => sl_X4_read_62 hd n h) h
def w_X4_read (p0 : Nat) (M : fM) (φ : Option Nat → fM → Prop) : Prop := isO M p0 4 ∧ st (wI M p0 0 (0 : Int32)) fun M64 => st (wI M64 p0 1 (-1 : Int32)) fun M66 => st (wI M66 p0 8 (0 : Int32)) fun M68 => st (wI M68 p0 9 (0 : Int32)) fun M70 => dR (mP M70 p0 4) fun y72 => w_J7_fill_53178 y72 (0 : Int32) M70 fun M74 => isO M74 p0 4 ∧ dR (mP M74 p0 5) fun y78 => w_J7_fill_53178 y78 (0 : Int32) M74 fun M80 => isO M80 p0 4 ∧ dR (mP M80 p0 7) fun y84 => w_J7_fill_53178 y84 (0 : Int32) M80 fun M86 => isO M86 p0 4 ∧ dR (mP M86 p0 2) fun y90 => isO M86 y90 7 ∧ w_X7_scan y90 M86 fun M92 => isO M92 p0 4 ∧ st (wI M92 p0 11 (-1 : Int32)) fun M99 => w_X4_advance p0 M99 fun M101 => ∃ n, l_X4_read_62 φ n p0 (0 : Int32) M101
set_option maxRecDepth 100000 in
theorem s_X4_read {g : GT} {d : Nat} (hd : 78 ≤ d) {p0 : Nat} {M : fM} {φ : Option Nat → fM → Prop} (h : w_X4_read p0 M φ) : FC g mtX4_read d [.ref p0] M 11 3005 (rP φ) := by
  obtain ⟨d, rfl⟩ : ∃ e, d = e + 1 := ⟨d - 1, by omega⟩
  unfold w_X4_read at h
  refine FC.intro (nL := 2) (by decide) rfl (Nat.le_of_ble_eq_true rfl) ?_
  show FW g mtX4_read (d + 1) 0 [(0, .ref p0)] [] M 11 3005 (rP φ)
  refine fw_aload_n (i := 0) 0 rfl (show decode _ _ = .ok (.aload_n 0, 1) by decide +kernel) ?_
  refine fw_iconst (v := (0 : Int32)) (show decode _ _ = .ok (.iconst 0, 1) by decide +kernel) (by decide) ?_
  obtain ⟨⟨hr62, n61, hs63⟩, h_1⟩ := h
  refine fw_putI (kd := 4) (k := 0) (show decode _ _ = .ok (.putfield 9, 3) by decide +kernel) ⟨gf_X4_9, _, rfl, Or.inl rfl⟩ hr62 hs63 rfl ?_
  refine FW.nmM (fun M64 eM65 => ?_)
  have h_2 := h_1 M64 eM65
  refine fw_aload_n (i := 0) 0 rfl (show decode _ _ = .ok (.aload_n 0, 1) by decide +kernel) ?_
  refine fw_iconst (v := (-1 : Int32)) (show decode _ _ = .ok (.iconst (-1), 1) by decide +kernel) (by decide) ?_
  refine fw_putI (kd := 4) (k := 1) (show decode _ _ = .ok (.putfield 15, 3) by decide +kernel) ⟨gf_X4_15, _, rfl, Or.inl rfl⟩ hr62 (mSw_I eM65 hs63) rfl ?_
  refine FW.nmM (fun M66 eM67 => ?_)
  have h_3 := h_2 M66 eM67
  refine fw_aload_n (i := 0) 0 rfl (show decode _ _ = .ok (.aload_n 0, 1) by decide +kernel) ?_
  refine fw_iconst (v := (0 : Int32)) (show decode _ _ = .ok (.iconst 0, 1) by decide +kernel) (by decide) ?_
  refine fw_putI (kd := 4) (k := 8) (show decode _ _ = .ok (.putfield 38, 3) by decide +kernel) ⟨gf_X4_38, _, rfl, Or.inl rfl⟩ hr62 (mSw_I eM67 (mSw_I eM65 hs63)) rfl ?_
  refine FW.nmM (fun M68 eM69 => ?_)
  have h_4 := h_3 M68 eM69
  refine fw_aload_n (i := 0) 0 rfl (show decode _ _ = .ok (.aload_n 0, 1) by decide +kernel) ?_
  refine fw_iconst (v := (0 : Int32)) (show decode _ _ = .ok (.iconst 0, 1) by decide +kernel) (by decide) ?_
  refine fw_putI (kd := 4) (k := 9) (show decode _ _ = .ok (.putfield 41, 3) by decide +kernel) ⟨gf_X4_41, _, rfl, Or.inl rfl⟩ hr62 (mSw_I eM69 (mSw_I eM67 (mSw_I eM65 hs63))) rfl ?_
  refine FW.nmM (fun M70 eM71 => ?_)
  have h_5 := h_4 M70 eM71
  refine fw_aload_n (i := 0) 0 rfl (show decode _ _ = .ok (.aload_n 0, 1) by decide +kernel) ?_
  refine fw_getP (kd := 4) (k := 4) (show decode _ _ = .ok (.getfield 22, 3) by decide +kernel) gf_X4_22 hr62 (mSw_I eM71 (mSw_I eM69 (mSw_I eM67 (mSw_I eM65 hs63)))) rfl ?_
  have h_6 := dR_e h_5
  obtain ⟨y72, hy73, h_7⟩ := h_6
  refine fw_deref hy73 ?_
  refine fw_iconst (v := (0 : Int32)) (show decode _ _ = .ok (.iconst 0, 1) by decide +kernel) (by decide) ?_
  refine fw_callS (mt' := mtJ7_fill_53178) (mc := 0) (ms := 0) (As := [.ref y72, .int (0 : Int32)]) (rest := []) 2 (show decode _ _ = .ok (.invokestatic 44, 3) by decide +kernel) cs_X4_44 rfl (Nat.le_of_ble_eq_true rfl) (s_J7_fill_53178 (d := d) (hd_le hd (by decide)) h_7) (by decide) (by decide) (kV (bc' := 11) (bs' := 3005) (by decide) (by decide) (fun M74 h_8 => ?_))
  refine fw_aload_n (i := 0) 0 rfl (show decode _ _ = .ok (.aload_n 0, 1) by decide +kernel) ?_
  obtain ⟨⟨hr76, n75, hs77⟩, h_9⟩ := h_8
  refine fw_getP (kd := 4) (k := 5) (show decode _ _ = .ok (.getfield 25, 3) by decide +kernel) gf_X4_25 hr76 hs77 rfl ?_
  have h_10 := dR_e h_9
  obtain ⟨y78, hy79, h_11⟩ := h_10
  refine fw_deref hy79 ?_
  refine fw_iconst (v := (0 : Int32)) (show decode _ _ = .ok (.iconst 0, 1) by decide +kernel) (by decide) ?_
  refine fw_callS (mt' := mtJ7_fill_53178) (mc := 0) (ms := 0) (As := [.ref y78, .int (0 : Int32)]) (rest := []) 2 (show decode _ _ = .ok (.invokestatic 44, 3) by decide +kernel) cs_X4_44 rfl (Nat.le_of_ble_eq_true rfl) (s_J7_fill_53178 (d := d) (hd_le hd (by decide)) h_11) (by decide) (by decide) (kV (bc' := 11) (bs' := 3005) (by decide) (by decide) (fun M80 h_12 => ?_))
  refine fw_aload_n (i := 0) 0 rfl (show decode _ _ = .ok (.aload_n 0, 1) by decide +kernel) ?_
  obtain ⟨⟨hr82, n81, hs83⟩, h_13⟩ := h_12
  refine fw_getP (kd := 4) (k := 7) (show decode _ _ = .ok (.getfield 31, 3) by decide +kernel) gf_X4_31 hr82 hs83 rfl ?_
  have h_14 := dR_e h_13
  obtain ⟨y84, hy85, h_15⟩ := h_14
  refine fw_deref hy85 ?_
  refine fw_iconst (v := (0 : Int32)) (show decode _ _ = .ok (.iconst 0, 1) by decide +kernel) (by decide) ?_
  refine fw_callS (mt' := mtJ7_fill_53178) (mc := 0) (ms := 0) (As := [.ref y84, .int (0 : Int32)]) (rest := []) 2 (show decode _ _ = .ok (.invokestatic 44, 3) by decide +kernel) cs_X4_44 rfl (Nat.le_of_ble_eq_true rfl) (s_J7_fill_53178 (d := d) (hd_le hd (by decide)) h_15) (by decide) (by decide) (kV (bc' := 11) (bs' := 3005) (by decide) (by decide) (fun M86 h_16 => ?_))
  refine fw_aload_n (i := 0) 0 rfl (show decode _ _ = .ok (.aload_n 0, 1) by decide +kernel) ?_
  obtain ⟨⟨hr88, n87, hs89⟩, h_17⟩ := h_16
  refine fw_getP (kd := 4) (k := 2) (show decode _ _ = .ok (.getfield 34, 3) by decide +kernel) gf_X4_34 hr88 hs89 rfl ?_
  have h_18 := dR_e h_17
  obtain ⟨y90, hy91, h_19⟩ := h_18
  refine fw_deref hy91 ?_
  obtain ⟨⟨hr94, n93, hs95⟩, h_20⟩ := h_19
  refine fw_callV (mt' := mtX7_scan) (mc := 0) (ms := 0) (As := []) (rest := []) 0 7 n93 (show decode _ _ = .ok (.invokevirtual 50, 3) by decide +kernel) cv_X4_50 ⟨_, rfl, rfl⟩ hr94 hs95 rfl (Nat.le_of_ble_eq_true rfl) (s_X7_scan (d := d) (hd_le hd (by decide)) h_20) (by decide) (by decide) (kV (bc' := 11) (bs' := 3005) (by decide) (by decide) (fun M92 h_21 => ?_))
  refine fw_aload_n (i := 0) 0 rfl (show decode _ _ = .ok (.aload_n 0, 1) by decide +kernel) ?_
  refine fw_iconst (v := (-1 : Int32)) (show decode _ _ = .ok (.iconst (-1), 1) by decide +kernel) (by decide) ?_
  obtain ⟨⟨hr97, n96, hs98⟩, h_22⟩ := h_21
  refine fw_putI (kd := 4) (k := 11) (show decode _ _ = .ok (.putfield 55, 3) by decide +kernel) ⟨gf_X4_55, _, rfl, Or.inl rfl⟩ hr97 hs98 rfl ?_
  refine FW.nmM (fun M99 eM100 => ?_)
  have h_23 := h_22 M99 eM100
  refine fw_aload_n (i := 0) 0 rfl (show decode _ _ = .ok (.aload_n 0, 1) by decide +kernel) ?_
  refine fw_callV (mt' := mtX4_advance) (mc := 0) (ms := 0) (As := []) (rest := []) 0 4 n96 (show decode _ _ = .ok (.invokevirtual 58, 3) by decide +kernel) cv_X4_58 ⟨_, rfl, rfl⟩ hr97 (mSw_I eM100 hs98) rfl (Nat.le_of_ble_eq_true rfl) (s_X4_advance (d := d) (hd_le hd (by decide)) h_23) (by decide) (by decide) (kV (bc' := 11) (bs' := 3005) (by decide) (by decide) (fun M101 h_24 => ?_))
  refine fw_iconst (v := (0 : Int32)) (show decode _ _ = .ok (.iconst 0, 1) by decide +kernel) (by decide) ?_
  refine fw_istore_n (i := 1) (ls' := [(1, .int (0 : Int32)), (0, .ref p0)]) (show decode _ _ = .ok (.istore_n 1, 1) by decide +kernel) (by decide) rfl ?_
  refine FW.sub [1, 0] (ls' := [(0, .ref p0), (1, .int (0 : Int32))]) rfl ?_
  obtain ⟨nn, h_25⟩ := h_24
  exact sl_X4_read_62 hd nn h_25
def w_X5_keepText (p0 : Nat) (p1 : Nat) (M : fM) (φ : Int32 → fM → Prop) : Prop := isO M p0 5 ∧ dR (mP M p0 13) fun y4 => lenA M y4 16 fun n6 => iF ((mI M p0 14) < (nI n6)) (dR (mP M p0 13) fun y8 => 6 ≤ y8 ∧ inA M y8 16 (mI M p0 14) ∧ isO M p1 8 ∧ st (wP M y8 (ix (mI M p0 14)) (some p1)) fun M14 => nm ((mI M14 p0 14) + (1 : Int32)) fun x19 => st (wI M14 p0 14 x19) fun M21 => φ ((mI M21 p0 14) - (1 : Int32)) M21) (φ (-1 : Int32) M)
set_option maxRecDepth 100000 in
theorem s_X5_keepText {g : GT} {d : Nat} (hd : 1 ≤ d) {p0 : Nat} {p1 : Nat} {M : fM} {φ : Int32 → fM → Prop} (h : w_X5_keepText p0 p1 M φ) : FC g mtX5_keepText d [.ref p0, .ref p1] M 0 0 (rI φ) := by
  obtain ⟨d, rfl⟩ : ∃ e, d = e + 1 := ⟨d - 1, by omega⟩
  unfold w_X5_keepText at h
  refine FC.intro (nL := 2) (by decide) rfl (Nat.le_of_ble_eq_true rfl) ?_
  show FW g mtX5_keepText (d + 1) 0 [(0, .ref p0), (1, .ref p1)] [] M 0 0 (rI φ)
  refine fw_aload_n (i := 0) 0 rfl (show decode _ _ = .ok (.aload_n 0, 1) by decide +kernel) ?_
  obtain ⟨⟨hr2, n1, hs3⟩, h_1⟩ := h
  refine fw_getI (kd := 5) (k := 14) (show decode _ _ = .ok (.getfield 56, 3) by decide +kernel) gf_X5_56 hr2 hs3 (Or.inl rfl) ?_
  refine fw_aload_n (i := 0) 0 rfl (show decode _ _ = .ok (.aload_n 0, 1) by decide +kernel) ?_
  refine fw_getP (kd := 5) (k := 13) (show decode _ _ = .ok (.getfield 42, 3) by decide +kernel) gf_X5_42 hr2 hs3 rfl ?_
  have h_2 := dR_e h_1
  obtain ⟨y4, hy5, h_3⟩ := h_2
  refine fw_deref hy5 ?_
  obtain ⟨n6, hs7, h_4⟩ := h_3
  refine fw_alen (show decode _ _ = .ok (.arraylength, 1) by decide +kernel) hs7 (by decide) (by decide) (by decide) (fun h_4 => absurd h_4 (by decide)) ?_
  refine fw_icmp_lt 14 (show decode _ _ = .ok (.if_icmp .lt 5, 3) by decide +kernel) (by decide) (fun hc23 => ?_) (fun hc23 => ?_)
  · have h_5 := ipos hc23 h_4
    refine fw_aload_n (i := 0) 0 rfl (show decode _ _ = .ok (.aload_n 0, 1) by decide +kernel) ?_
    refine fw_getP (kd := 5) (k := 13) (show decode _ _ = .ok (.getfield 42, 3) by decide +kernel) gf_X5_42 hr2 hs3 rfl ?_
    have h_6 := dR_e h_5
    obtain ⟨y8, hy9, h_7⟩ := h_6
    refine fw_deref hy9 ?_
    refine fw_aload_n (i := 0) 0 rfl (show decode _ _ = .ok (.aload_n 0, 1) by decide +kernel) ?_
    refine fw_getI (kd := 5) (k := 14) (show decode _ _ = .ok (.getfield 56, 3) by decide +kernel) gf_X5_56 hr2 hs3 (Or.inl rfl) ?_
    refine fw_aload_n (i := 1) 1 rfl (show decode _ _ = .ok (.aload_n 1, 1) by decide +kernel) ?_
    obtain ⟨hr13, ⟨n10, hs11, hi12⟩, h_8⟩ := h_7
    obtain ⟨⟨hr17, n16, hs18⟩, h_9⟩ := h_8
    refine fw_aastP 16 8 _ (show decode _ _ = .ok (.aastore, 1) by decide +kernel) (by first | exact Or.inl ⟨rfl, rfl, rfl⟩ | exact Or.inr ⟨rfl, rfl, rfl⟩) hr13 hs11 hi12 hr17 hs18 ?_
    refine FW.nmM (fun M14 eM15 => ?_)
    have h_10 := h_9 M14 eM15
    refine fw_aload_n (i := 0) 0 rfl (show decode _ _ = .ok (.aload_n 0, 1) by decide +kernel) ?_
    refine fw_dup (show decode _ _ = .ok (.dup, 1) by decide +kernel) rfl ?_
    refine fw_getI (kd := 5) (k := 14) (show decode _ _ = .ok (.getfield 56, 3) by decide +kernel) gf_X5_56 hr2 (mSw_P eM15 hs3) (Or.inl rfl) ?_
    refine fw_iconst (v := (1 : Int32)) (show decode _ _ = .ok (.iconst 1, 1) by decide +kernel) (by decide) ?_
    refine fw_iadd (show decode _ _ = .ok (.iadd, 1) by decide +kernel) ?_
    refine fw_nmI (fun x19 ex20 => ?_)
    have h_11 := h_10 x19 ex20
    refine fw_putI (kd := 5) (k := 14) (show decode _ _ = .ok (.putfield 56, 3) by decide +kernel) ⟨gf_X5_56, _, rfl, Or.inl rfl⟩ hr2 (mSw_P eM15 hs3) rfl ?_
    refine FW.nmM (fun M21 eM22 => ?_)
    have h_12 := h_11 M21 eM22
    refine fw_aload_n (i := 0) 0 rfl (show decode _ _ = .ok (.aload_n 0, 1) by decide +kernel) ?_
    refine fw_getI (kd := 5) (k := 14) (show decode _ _ = .ok (.getfield 56, 3) by decide +kernel) gf_X5_56 hr2 (mSw_I eM22 (mSw_P eM15 hs3)) (Or.inl rfl) ?_
    refine fw_iconst (v := (1 : Int32)) (show decode _ _ = .ok (.iconst 1, 1) by decide +kernel) (by decide) ?_
    refine fw_isub (show decode _ _ = .ok (.isub, 1) by decide +kernel) ?_
    exact fw_ret (v := some (.int ((mI M21 p0 14) - (1 : Int32)))) .ireturn (show decode _ _ = .ok (.ireturn, 1) by decide +kernel) ⟨rfl, Or.inl rfl⟩ ⟨_, rfl, h_12⟩
  · have h_13 := ineg hc23 h_4
    refine fw_iconst (v := (-1 : Int32)) (show decode _ _ = .ok (.iconst (-1), 1) by decide +kernel) (by decide) ?_
    exact fw_ret (v := some (.int (-1 : Int32))) .ireturn (show decode _ _ = .ok (.ireturn, 1) by decide +kernel) ⟨rfl, Or.inl rfl⟩ ⟨_, rfl, h_13⟩
def w_X10_text (p0 : Nat) (M : fM) (φ : Int32 → fM → Prop) : Prop := isO M p0 10 ∧ dR (mP M p0 0) fun y4 => isO M y4 5 ∧ iF ((mI M y4 14) < (4 : Int32)) (dR (mP M p0 3) fun y9 => isO M y9 4 ∧ w_X4_read y9 M fun o15 M11 => isO M11 p0 10 ∧ dR (mP M11 p0 2) fun y19 => isO M11 y19 7 ∧ st (wI M11 y19 1 (0 : Int32)) fun M24 => gN o15 (fun y26 => dR (mP M24 p0 0) fun y28 => isO M24 y28 5 ∧ w_X5_keepText y28 y26 M24 fun x34 M30 => φ x34 M30) (φ (-1 : Int32) M24)) (φ (-1 : Int32) M)
set_option maxRecDepth 100000 in
theorem s_X10_text {g : GT} {d : Nat} (hd : 79 ≤ d) {p0 : Nat} {M : fM} {φ : Int32 → fM → Prop} (h : w_X10_text p0 M φ) : FC g mtX10_text d [.ref p0] M 11 3005 (rI φ) := by
  obtain ⟨d, rfl⟩ : ∃ e, d = e + 1 := ⟨d - 1, by omega⟩
  unfold w_X10_text at h
  refine FC.intro (nL := 2) (by decide) rfl (Nat.le_of_ble_eq_true rfl) ?_
  show FW g mtX10_text (d + 1) 0 [(0, .ref p0)] [] M 11 3005 (rI φ)
  refine fw_aload_n (i := 0) 0 rfl (show decode _ _ = .ok (.aload_n 0, 1) by decide +kernel) ?_
  obtain ⟨⟨hr2, n1, hs3⟩, h_1⟩ := h
  refine fw_getP (kd := 10) (k := 0) (show decode _ _ = .ok (.getfield 13, 3) by decide +kernel) gf_X10_13 hr2 hs3 rfl ?_
  have h_2 := dR_e h_1
  obtain ⟨y4, hy5, h_3⟩ := h_2
  refine fw_deref hy5 ?_
  obtain ⟨⟨hr7, n6, hs8⟩, h_4⟩ := h_3
  refine fw_getI (kd := 5) (k := 14) (show decode _ _ = .ok (.getfield 110, 3) by decide +kernel) gf_X10_110 hr7 hs8 (Or.inl rfl) ?_
  refine fw_iconst (v := (4 : Int32)) (show decode _ _ = .ok (.iconst 4, 1) by decide +kernel) (by decide) ?_
  refine fw_icmp_lt 13 (show decode _ _ = .ok (.if_icmp .lt 5, 3) by decide +kernel) (by decide) (fun hc35 => ?_) (fun hc35 => ?_)
  · have h_5 := ipos hc35 h_4
    refine fw_aload_n (i := 0) 0 rfl (show decode _ _ = .ok (.aload_n 0, 1) by decide +kernel) ?_
    refine fw_getP (kd := 10) (k := 3) (show decode _ _ = .ok (.getfield 34, 3) by decide +kernel) gf_X10_34 hr2 hs3 rfl ?_
    have h_6 := dR_e h_5
    obtain ⟨y9, hy10, h_7⟩ := h_6
    refine fw_deref hy10 ?_
    obtain ⟨⟨hr13, n12, hs14⟩, h_8⟩ := h_7
    refine fw_callV (mt' := mtX4_read) (mc := 11) (ms := 3005) (As := []) (rest := []) 0 4 n12 (show decode _ _ = .ok (.invokevirtual 113, 3) by decide +kernel) cv_X10_113 ⟨_, rfl, rfl⟩ hr13 hs14 rfl (Nat.le_of_ble_eq_true rfl) (s_X4_read (d := d) (hd_le hd (by decide)) h_8) (by decide) (by decide) (kP (bc' := 0) (bs' := 0) (by decide) (by decide) (fun o15 M11 h_9 => ?_))
    refine fw_astoreq_n (i := 1) (ls' := [(1, fr o15), (0, .ref p0)]) (show decode _ _ = .ok (.astore_n 1, 1) by decide +kernel) (by decide) rfl ?_
    refine fw_aload_n (i := 0) 1 rfl (show decode _ _ = .ok (.aload_n 0, 1) by decide +kernel) ?_
    obtain ⟨⟨hr17, n16, hs18⟩, h_10⟩ := h_9
    refine fw_getP (kd := 10) (k := 2) (show decode _ _ = .ok (.getfield 25, 3) by decide +kernel) gf_X10_25 hr17 hs18 rfl ?_
    have h_11 := dR_e h_10
    obtain ⟨y19, hy20, h_12⟩ := h_11
    refine fw_deref hy20 ?_
    refine fw_iconst (v := (0 : Int32)) (show decode _ _ = .ok (.iconst 0, 1) by decide +kernel) (by decide) ?_
    obtain ⟨⟨hr22, n21, hs23⟩, h_13⟩ := h_12
    refine fw_putI (kd := 7) (k := 1) (show decode _ _ = .ok (.putfield 107, 3) by decide +kernel) ⟨gf_X10_107, _, rfl, Or.inl rfl⟩ hr22 hs23 rfl ?_
    refine FW.nmM (fun M24 eM25 => ?_)
    have h_14 := h_13 M24 eM25
    refine fw_aloadq_n (i := 1) 0 rfl (show decode _ _ = .ok (.aload_n 1, 1) by decide +kernel) ?_
    refine fw_ifnonnull (x := o15) 37 (show decode _ _ = .ok (.ifnonnull 7, 3) by decide +kernel) (by decide) (fun y26 hy27 => ?_) (fun hy27 => ?_)
    · have h_15 := gN_s hy27 h_14
      subst hy27
      refine fw_aload_n (i := 0) 1 rfl (show decode _ _ = .ok (.aload_n 0, 1) by decide +kernel) ?_
      refine fw_getP (kd := 10) (k := 0) (show decode _ _ = .ok (.getfield 13, 3) by decide +kernel) gf_X10_13 hr17 (mSw_I eM25 hs18) rfl ?_
      have h_16 := dR_e h_15
      obtain ⟨y28, hy29, h_17⟩ := h_16
      refine fw_deref hy29 ?_
      refine fw_aload_n (i := 1) 0 rfl (show decode _ _ = .ok (.aload_n 1, 1) by decide +kernel) ?_
      obtain ⟨⟨hr32, n31, hs33⟩, h_18⟩ := h_17
      refine fw_callV (mt' := mtX5_keepText) (mc := 0) (ms := 0) (As := [.ref y26]) (rest := []) 1 5 n31 (show decode _ _ = .ok (.invokevirtual 117, 3) by decide +kernel) cv_X10_117 ⟨_, rfl, rfl⟩ hr32 hs33 rfl (Nat.le_of_ble_eq_true rfl) (s_X5_keepText (d := d) (hd_le hd (by decide)) h_18) (by decide) (by decide) (kI (bc' := 0) (bs' := 0) (by decide) (by decide) (fun x34 M30 h_19 => ?_))
      exact fw_ret (v := some (.int x34)) .ireturn (show decode _ _ = .ok (.ireturn, 1) by decide +kernel) ⟨rfl, Or.inl rfl⟩ ⟨_, rfl, h_19⟩
    · have h_20 := gN_n hy27 h_14
      subst hy27
      refine fw_iconst (v := (-1 : Int32)) (show decode _ _ = .ok (.iconst (-1), 1) by decide +kernel) (by decide) ?_
      refine fw_goto 45 (show decode _ _ = .ok (.goto 11, 3) by decide +kernel) (by decide) ?_
      exact fw_ret (v := some (.int (-1 : Int32))) .ireturn (show decode _ _ = .ok (.ireturn, 1) by decide +kernel) ⟨rfl, Or.inl rfl⟩ ⟨_, rfl, h_20⟩
  · have h_21 := ineg hc35 h_4
    refine fw_iconst (v := (-1 : Int32)) (show decode _ _ = .ok (.iconst (-1), 1) by decide +kernel) (by decide) ?_
    exact fw_ret (v := some (.int (-1 : Int32))) .ireturn (show decode _ _ = .ok (.ireturn, 1) by decide +kernel) ⟨rfl, Or.inl rfl⟩ ⟨_, rfl, h_21⟩
def w_X10_toe (p0 : Nat) (M : fM) (φ : Int32 → fM → Prop) : Prop := isO M p0 10 ∧ dR (mP M p0 4) fun y4 => isO M y4 9 ∧ w_X9_toeAct y4 M fun x10 M6 => φ x10 M6
set_option maxRecDepth 100000 in
theorem s_X10_toe {g : GT} {d : Nat} (hd : 6 ≤ d) {p0 : Nat} {M : fM} {φ : Int32 → fM → Prop} (h : w_X10_toe p0 M φ) : FC g mtX10_toe d [.ref p0] M 0 0 (rI φ) := by
  obtain ⟨d, rfl⟩ : ∃ e, d = e + 1 := ⟨d - 1, by omega⟩
  unfold w_X10_toe at h
  refine FC.intro (nL := 1) (by decide) rfl (Nat.le_of_ble_eq_true rfl) ?_
  show FW g mtX10_toe (d + 1) 0 [(0, .ref p0)] [] M 0 0 (rI φ)
  refine fw_aload_n (i := 0) 0 rfl (show decode _ _ = .ok (.aload_n 0, 1) by decide +kernel) ?_
  obtain ⟨⟨hr2, n1, hs3⟩, h_1⟩ := h
  refine fw_getP (kd := 10) (k := 4) (show decode _ _ = .ok (.getfield 43, 3) by decide +kernel) gf_X10_43 hr2 hs3 rfl ?_
  have h_2 := dR_e h_1
  obtain ⟨y4, hy5, h_3⟩ := h_2
  refine fw_deref hy5 ?_
  obtain ⟨⟨hr8, n7, hs9⟩, h_4⟩ := h_3
  refine fw_callV (mt' := mtX9_toeAct) (mc := 0) (ms := 0) (As := []) (rest := []) 0 9 n7 (show decode _ _ = .ok (.invokevirtual 141, 3) by decide +kernel) cv_X10_141 ⟨_, rfl, rfl⟩ hr8 hs9 rfl (Nat.le_of_ble_eq_true rfl) (s_X9_toeAct (d := d) (hd_le hd (by decide)) h_4) (by decide) (by decide) (kI (bc' := 0) (bs' := 0) (by decide) (by decide) (fun x10 M6 h_5 => ?_))
  exact fw_ret (v := some (.int x10)) .ireturn (show decode _ _ = .ok (.ireturn, 1) by decide +kernel) ⟨rfl, Or.inl rfl⟩ ⟨_, rfl, h_5⟩
def b_X6_trippersAt_41 (K41 : Nat → Int32 → Int32 → Int32 → Nat → Int32 → Int32 → fM → Prop) (φ : Int32 → fM → Prop) (p0 : Nat) (p1 : Int32) (p2 : Int32) (p3 : Int32) (p4 : Nat) (p5 : Int32) (p6 : Int32) (M : fM) : Prop := isO M p0 6 ∧ dR (mP M p0 0) fun y4 => isO M y4 5 ∧ iF ((mI M y4 4) ≤ p6) (φ p5 M) (dR (mP M p0 1) fun y9 => dR (mP M p0 0) fun y11 => dR (mP M p0 0) fun y13 => dR (mP M p0 0) fun y15 => isO M y15 5 ∧ isO M y13 5 ∧ w_X5_textOf y13 (mI M y15 15) M fun o24 M20 => isO M20 y9 1 ∧ w_X1_turnTo y9 y11 o24 p6 p1 p3 M20 fun M25 => isO M25 p0 6 ∧ dR (mP M25 p0 1) fun y32 => isO M25 y32 1 ∧ w_X1_face y32 p4 p2 M25 fun M34 => isO M34 p0 6 ∧ dR (mP M34 p0 1) fun y41 => isO M34 y41 1 ∧ w_X1_tripsNow y41 M34 fun x47 M43 => iF (x47 = 0) (nm (p5 ||| (0 : Int32)) fun x48 => nm (p6 + (1 : Int32)) fun x50 => K41 p0 p1 p2 p3 p4 x48 x50 M43) (nm (p5 ||| ((1 : Int32) <<< (p6 &&& 31))) fun x52 => nm (p6 + (1 : Int32)) fun x54 => K41 p0 p1 p2 p3 p4 x52 x54 M43))
def l_X6_trippersAt_41 (φ : Int32 → fM → Prop) : Nat → Nat → Int32 → Int32 → Int32 → Nat → Int32 → Int32 → fM → Prop
  | 0, _, _, _, _, _, _, _, _ => False
  | n + 1, p0, p1, p2, p3, p4, p5, p6, M => b_X6_trippersAt_41 (l_X6_trippersAt_41 φ n) φ p0 p1 p2 p3 p4 p5 p6 M
set_option maxRecDepth 100000 in
theorem sb_X6_trippersAt_41 {g : GT} {d : Nat} (hd : 4 ≤ d + 1) {K41 : Nat → Int32 → Int32 → Int32 → Nat → Int32 → Int32 → fM → Prop} {φ : Int32 → fM → Prop} (hK41 : ∀ (p0 : Nat) (p1 : Int32) (p2 : Int32) (p3 : Int32) (p4 : Nat) (p5 : Int32) (p6 : Int32) (M : fM), K41 p0 p1 p2 p3 p4 p5 p6 M → FW g mtX6_trippersAt (d + 1) 41 [(0, .ref p0), (1, .int p1), (2, .int p2), (3, .int p3), (4, .ref p4), (5, .int p5), (6, .int p6)] [] M 0 0 (rI φ)) {p0 : Nat} {p1 : Int32} {p2 : Int32} {p3 : Int32} {p4 : Nat} {p5 : Int32} {p6 : Int32} {M : fM} (h : b_X6_trippersAt_41 K41 φ p0 p1 p2 p3 p4 p5 p6 M) : FW g mtX6_trippersAt (d + 1) 41 [(0, .ref p0), (1, .int p1), (2, .int p2), (3, .int p3), (4, .ref p4), (5, .int p5), (6, .int p6)] [] M 0 0 (rI φ) := by
  unfold b_X6_trippersAt_41 at h
  refine fw_iload (i := 6) 6 rfl (show decode _ _ = .ok (.iload 6, 2) by decide +kernel) ?_
  refine fw_aload_n (i := 0) 0 rfl (show decode _ _ = .ok (.aload_n 0, 1) by decide +kernel) ?_
  obtain ⟨⟨hr2, n1, hs3⟩, h_1⟩ := h
  refine fw_getP (kd := 6) (k := 0) (show decode _ _ = .ok (.getfield 15, 3) by decide +kernel) gf_X6_15 hr2 hs3 rfl ?_
  have h_2 := dR_e h_1
  obtain ⟨y4, hy5, h_3⟩ := h_2
  refine fw_deref hy5 ?_
  obtain ⟨⟨hr7, n6, hs8⟩, h_4⟩ := h_3
  refine fw_getI (kd := 5) (k := 4) (show decode _ _ = .ok (.getfield 104, 3) by decide +kernel) gf_X6_104 hr7 hs8 (Or.inl rfl) ?_
  refine fw_icmp_ge 121 (show decode _ _ = .ok (.if_icmp .ge 71, 3) by decide +kernel) (by decide) (fun hc57 => ?_) (fun hc57 => ?_)
  · have h_5 := ipos hc57 h_4
    refine fw_iload (i := 5) 5 rfl (show decode _ _ = .ok (.iload 5, 2) by decide +kernel) ?_
    exact fw_ret (v := some (.int p5)) .ireturn (show decode _ _ = .ok (.ireturn, 1) by decide +kernel) ⟨rfl, Or.inl rfl⟩ ⟨_, rfl, h_5⟩
  · have h_6 := ineg hc57 h_4
    refine fw_aload_n (i := 0) 0 rfl (show decode _ _ = .ok (.aload_n 0, 1) by decide +kernel) ?_
    refine fw_getP (kd := 6) (k := 1) (show decode _ _ = .ok (.getfield 19, 3) by decide +kernel) gf_X6_19 hr2 hs3 rfl ?_
    have h_7 := dR_e h_6
    obtain ⟨y9, hy10, h_8⟩ := h_7
    refine fw_deref hy10 ?_
    refine fw_aload_n (i := 0) 0 rfl (show decode _ _ = .ok (.aload_n 0, 1) by decide +kernel) ?_
    refine fw_getP (kd := 6) (k := 0) (show decode _ _ = .ok (.getfield 15, 3) by decide +kernel) gf_X6_15 hr2 hs3 rfl ?_
    have h_9 := dR_e h_8
    obtain ⟨y11, hy12, h_10⟩ := h_9
    refine fw_deref hy12 ?_
    refine fw_aload_n (i := 0) 0 rfl (show decode _ _ = .ok (.aload_n 0, 1) by decide +kernel) ?_
    refine fw_getP (kd := 6) (k := 0) (show decode _ _ = .ok (.getfield 15, 3) by decide +kernel) gf_X6_15 hr2 hs3 rfl ?_
    have h_11 := dR_e h_10
    obtain ⟨y13, hy14, h_12⟩ := h_11
    refine fw_deref hy14 ?_
    refine fw_aload_n (i := 0) 0 rfl (show decode _ _ = .ok (.aload_n 0, 1) by decide +kernel) ?_
    refine fw_getP (kd := 6) (k := 0) (show decode _ _ = .ok (.getfield 15, 3) by decide +kernel) gf_X6_15 hr2 hs3 rfl ?_
    have h_13 := dR_e h_12
    obtain ⟨y15, hy16, h_14⟩ := h_13
    refine fw_deref hy16 ?_
    obtain ⟨⟨hr18, n17, hs19⟩, h_15⟩ := h_14
    refine fw_getI (kd := 5) (k := 15) (show decode _ _ = .ok (.getfield 38, 3) by decide +kernel) gf_X6_38 hr18 hs19 (Or.inl rfl) ?_
    obtain ⟨⟨hr22, n21, hs23⟩, h_16⟩ := h_15
    refine fw_callV (mt' := mtX5_textOf) (mc := 0) (ms := 0) (As := [.int (mI M y15 15)]) (rest := [.ref y11, .ref y9]) 1 5 n21 (show decode _ _ = .ok (.invokevirtual 42, 3) by decide +kernel) cv_X6_42 ⟨_, rfl, rfl⟩ hr22 hs23 rfl (Nat.le_of_ble_eq_true rfl) (s_X5_textOf (d := d) (hd_le hd (by decide)) h_16) (by decide) (by decide) (kP (bc' := 0) (bs' := 0) (by decide) (by decide) (fun o24 M20 h_17 => ?_))
    refine fw_iload (i := 6) 6 rfl (show decode _ _ = .ok (.iload 6, 2) by decide +kernel) ?_
    refine fw_iload_n (i := 1) 1 rfl (show decode _ _ = .ok (.iload_n 1, 1) by decide +kernel) ?_
    refine fw_iload_n (i := 3) 3 rfl (show decode _ _ = .ok (.iload_n 3, 1) by decide +kernel) ?_
    obtain ⟨⟨hr27, n26, hs28⟩, h_18⟩ := h_17
    refine fw_callV (mt' := mtX1_turnTo) (mc := 0) (ms := 0) (As := [.ref y11, fr o24, .int p6, .int p1, .int p3]) (rest := []) 5 1 n26 (show decode _ _ = .ok (.invokevirtual 46, 3) by decide +kernel) cv_X6_46 ⟨_, rfl, rfl⟩ hr27 hs28 rfl (Nat.le_of_ble_eq_true rfl) (s_X1_turnTo (d := d) (hd_le hd (by decide)) h_18) (by decide) (by decide) (kV (bc' := 0) (bs' := 0) (by decide) (by decide) (fun M25 h_19 => ?_))
    refine fw_aload_n (i := 0) 0 rfl (show decode _ _ = .ok (.aload_n 0, 1) by decide +kernel) ?_
    obtain ⟨⟨hr30, n29, hs31⟩, h_20⟩ := h_19
    refine fw_getP (kd := 6) (k := 1) (show decode _ _ = .ok (.getfield 19, 3) by decide +kernel) gf_X6_19 hr30 hs31 rfl ?_
    have h_21 := dR_e h_20
    obtain ⟨y32, hy33, h_22⟩ := h_21
    refine fw_deref hy33 ?_
    refine fw_aload (i := 4) 4 rfl (show decode _ _ = .ok (.aload 4, 2) by decide +kernel) ?_
    refine fw_iload_n (i := 2) 2 rfl (show decode _ _ = .ok (.iload_n 2, 1) by decide +kernel) ?_
    obtain ⟨⟨hr36, n35, hs37⟩, h_23⟩ := h_22
    refine fw_callV (mt' := mtX1_face) (mc := 0) (ms := 0) (As := [.ref p4, .int p2]) (rest := []) 2 1 n35 (show decode _ _ = .ok (.invokevirtual 52, 3) by decide +kernel) cv_X6_52 ⟨_, rfl, rfl⟩ hr36 hs37 rfl (Nat.le_of_ble_eq_true rfl) (s_X1_face (d := d) (hd_le hd (by decide)) h_23) (by decide) (by decide) (kV (bc' := 0) (bs' := 0) (by decide) (by decide) (fun M34 h_24 => ?_))
    refine fw_iload (i := 5) 5 rfl (show decode _ _ = .ok (.iload 5, 2) by decide +kernel) ?_
    refine fw_aload_n (i := 0) 0 rfl (show decode _ _ = .ok (.aload_n 0, 1) by decide +kernel) ?_
    obtain ⟨⟨hr39, n38, hs40⟩, h_25⟩ := h_24
    refine fw_getP (kd := 6) (k := 1) (show decode _ _ = .ok (.getfield 19, 3) by decide +kernel) gf_X6_19 hr39 hs40 rfl ?_
    have h_26 := dR_e h_25
    obtain ⟨y41, hy42, h_27⟩ := h_26
    refine fw_deref hy42 ?_
    obtain ⟨⟨hr45, n44, hs46⟩, h_28⟩ := h_27
    refine fw_callV (mt' := mtX1_tripsNow) (mc := 0) (ms := 0) (As := []) (rest := [.int p5]) 0 1 n44 (show decode _ _ = .ok (.invokevirtual 64, 3) by decide +kernel) cv_X6_64 ⟨_, rfl, rfl⟩ hr45 hs46 rfl (Nat.le_of_ble_eq_true rfl) (s_X1_tripsNow (d := d) (hd_le hd (by decide)) h_28) (by decide) (by decide) (kI (bc' := 0) (bs' := 0) (by decide) (by decide) (fun x47 M43 h_29 => ?_))
    refine fw_if_eq 111 (show decode _ _ = .ok (.ifCond .eq 10, 3) by decide +kernel) (by decide) (fun hc56 => ?_) (fun hc56 => ?_)
    · have h_30 := ipos hc56 h_29
      refine fw_iconst (v := (0 : Int32)) (show decode _ _ = .ok (.iconst 0, 1) by decide +kernel) (by decide) ?_
      refine fw_ior (show decode _ _ = .ok (.ior, 1) by decide +kernel) ?_
      refine fw_nmI (fun x48 ex49 => ?_)
      have h_31 := h_30 x48 ex49
      refine fw_istore (i := 5) (ls' := [(5, .int x48), (0, .ref p0), (1, .int p1), (2, .int p2), (3, .int p3), (4, .ref p4), (6, .int p6)]) (show decode _ _ = .ok (.istore 5, 2) by decide +kernel) (by decide) rfl ?_
      obtain ⟨x50, ex51⟩ : ∃ y : Int32, y = p6 + (1 : Int32) := ⟨_, rfl⟩
      have h_32 := h_31 x50 ex51
      refine fw_iinc (i := 6) (x := p6) (v := x50) (ls' := [(6, .int x50), (5, .int x48), (0, .ref p0), (1, .int p1), (2, .int p2), (3, .int p3), (4, .ref p4)]) 6 rfl (show decode _ _ = .ok (.iinc 6 1, 3) by decide +kernel) (by rw [ex51]; rfl) (by decide) rfl ?_
      refine fw_goto 41 (show decode _ _ = .ok (.goto (-77), 3) by decide +kernel) (by decide) ?_
      refine FW.sub [2, 3, 4, 5, 6, 1, 0] (ls' := [(0, .ref p0), (1, .int p1), (2, .int p2), (3, .int p3), (4, .ref p4), (5, .int x48), (6, .int x50)]) rfl ?_
      exact hK41 _ _ _ _ _ _ _ _ h_32
    · have h_33 := ineg hc56 h_29
      refine fw_iconst (v := (1 : Int32)) (show decode _ _ = .ok (.iconst 1, 1) by decide +kernel) (by decide) ?_
      refine fw_iload (i := 6) 6 rfl (show decode _ _ = .ok (.iload 6, 2) by decide +kernel) ?_
      refine fw_ishl (show decode _ _ = .ok (.ishl, 1) by decide +kernel) ?_
      refine fw_goto 112 (show decode _ _ = .ok (.goto 4, 3) by decide +kernel) (by decide) ?_
      refine fw_ior (show decode _ _ = .ok (.ior, 1) by decide +kernel) ?_
      refine fw_nmI (fun x52 ex53 => ?_)
      have h_34 := h_33 x52 ex53
      refine fw_istore (i := 5) (ls' := [(5, .int x52), (0, .ref p0), (1, .int p1), (2, .int p2), (3, .int p3), (4, .ref p4), (6, .int p6)]) (show decode _ _ = .ok (.istore 5, 2) by decide +kernel) (by decide) rfl ?_
      obtain ⟨x54, ex55⟩ : ∃ y : Int32, y = p6 + (1 : Int32) := ⟨_, rfl⟩
      have h_35 := h_34 x54 ex55
      refine fw_iinc (i := 6) (x := p6) (v := x54) (ls' := [(6, .int x54), (5, .int x52), (0, .ref p0), (1, .int p1), (2, .int p2), (3, .int p3), (4, .ref p4)]) 6 rfl (show decode _ _ = .ok (.iinc 6 1, 3) by decide +kernel) (by rw [ex55]; rfl) (by decide) rfl ?_
      refine fw_goto 41 (show decode _ _ = .ok (.goto (-77), 3) by decide +kernel) (by decide) ?_
      refine FW.sub [2, 3, 4, 5, 6, 1, 0] (ls' := [(0, .ref p0), (1, .int p1), (2, .int p2), (3, .int p3), (4, .ref p4), (5, .int x52), (6, .int x54)]) rfl ?_
      exact hK41 _ _ _ _ _ _ _ _ h_35
theorem sl_X6_trippersAt_41 {g : GT} {d : Nat} (hd : 4 ≤ d + 1) {φ : Int32 → fM → Prop} : ∀ (n : Nat) {p0 : Nat} {p1 : Int32} {p2 : Int32} {p3 : Int32} {p4 : Nat} {p5 : Int32} {p6 : Int32} {M : fM}, l_X6_trippersAt_41 φ n p0 p1 p2 p3 p4 p5 p6 M → FW g mtX6_trippersAt (d + 1) 41 [(0, .ref p0), (1, .int p1), (2, .int p2), (3, .int p3), (4, .ref p4), (5, .int p5), (6, .int p6)] [] M 0 0 (rI φ)
  | 0 => fun h => h.elim
  | n + 1 => fun h => sb_X6_trippersAt_41 hd (fun _ _ _ _ _ _ _ _ h => sl_X6_trippersAt_41 hd n h) h
def w_X6_trippersAt (p0 : Nat) (p1 : Int32) (p2 : Int32) (p3 : Int32) (M : fM) (φ : Int32 → fM → Prop) : Prop := isO M p0 6 ∧ dR (mP M p0 0) fun y61 => isO M y61 5 ∧ w_X5_houseOf y61 p1 M fun o67 M63 => gN o67 (fun y68 => isO M63 y68 0 ∧ w_X0_hasStep y68 p2 M63 fun x74 M70 => iF (x74 = 0) (φ (-1 : Int32) M70) (iF (p3 < 0) (φ (-1 : Int32) M70) (iF (p3 < (4 : Int32)) (∃ n, l_X6_trippersAt_41 φ n p0 p1 p2 p3 y68 (0 : Int32) (0 : Int32) M70) (φ (-1 : Int32) M70)))) (φ (-1 : Int32) M63)
set_option maxRecDepth 100000 in
theorem s_X6_trippersAt {g : GT} {d : Nat} (hd : 4 ≤ d) {p0 : Nat} {p1 : Int32} {p2 : Int32} {p3 : Int32} {M : fM} {φ : Int32 → fM → Prop} (h : w_X6_trippersAt p0 p1 p2 p3 M φ) : FC g mtX6_trippersAt d [.ref p0, .int p1, .int p2, .int p3] M 0 0 (rI φ) := by
  obtain ⟨d, rfl⟩ : ∃ e, d = e + 1 := ⟨d - 1, by omega⟩
  unfold w_X6_trippersAt at h
  refine FC.intro (nL := 7) (by decide) rfl (Nat.le_of_ble_eq_true rfl) ?_
  show FW g mtX6_trippersAt (d + 1) 0 [(0, .ref p0), (1, .int p1), (2, .int p2), (3, .int p3)] [] M 0 0 (rI φ)
  refine fw_aload_n (i := 0) 0 rfl (show decode _ _ = .ok (.aload_n 0, 1) by decide +kernel) ?_
  obtain ⟨⟨hr59, n58, hs60⟩, h_1⟩ := h
  refine fw_getP (kd := 6) (k := 0) (show decode _ _ = .ok (.getfield 15, 3) by decide +kernel) gf_X6_15 hr59 hs60 rfl ?_
  have h_2 := dR_e h_1
  obtain ⟨y61, hy62, h_3⟩ := h_2
  refine fw_deref hy62 ?_
  refine fw_iload_n (i := 1) 1 rfl (show decode _ _ = .ok (.iload_n 1, 1) by decide +kernel) ?_
  obtain ⟨⟨hr65, n64, hs66⟩, h_4⟩ := h_3
  refine fw_callV (mt' := mtX5_houseOf) (mc := 0) (ms := 0) (As := [.int p1]) (rest := []) 1 5 n64 (show decode _ _ = .ok (.invokevirtual 23, 3) by decide +kernel) cv_X6_23 ⟨_, rfl, rfl⟩ hr65 hs66 rfl (Nat.le_of_ble_eq_true rfl) (s_X5_houseOf (d := d) (hd_le hd (by decide)) h_4) (by decide) (by decide) (kP (bc' := 0) (bs' := 0) (by decide) (by decide) (fun o67 M63 h_5 => ?_))
  refine fw_astoreq (i := 4) (ls' := [(4, fr o67), (0, .ref p0), (1, .int p1), (2, .int p2), (3, .int p3)]) (show decode _ _ = .ok (.astore 4, 2) by decide +kernel) (by decide) rfl ?_
  refine fw_aloadq (i := 4) 0 rfl (show decode _ _ = .ok (.aload 4, 2) by decide +kernel) ?_
  refine fw_ifnull (x := o67) 33 (show decode _ _ = .ok (.ifnull 21, 3) by decide +kernel) (by decide) (fun hy69 => ?_) (fun y68 hy69 => ?_)
  · have h_6 := gN_n hy69 h_5
    subst hy69
    refine fw_iconst (v := (-1 : Int32)) (show decode _ _ = .ok (.iconst (-1), 1) by decide +kernel) (by decide) ?_
    exact fw_ret (v := some (.int (-1 : Int32))) .ireturn (show decode _ _ = .ok (.ireturn, 1) by decide +kernel) ⟨rfl, Or.inl rfl⟩ ⟨_, rfl, h_6⟩
  · have h_7 := gN_s hy69 h_5
    subst hy69
    refine fw_aload (i := 4) 0 rfl (show decode _ _ = .ok (.aload 4, 2) by decide +kernel) ?_
    refine fw_iload_n (i := 2) 3 rfl (show decode _ _ = .ok (.iload_n 2, 1) by decide +kernel) ?_
    obtain ⟨⟨hr72, n71, hs73⟩, h_8⟩ := h_7
    refine fw_callV (mt' := mtX0_hasStep) (mc := 0) (ms := 0) (As := [.int p2]) (rest := []) 1 0 n71 (show decode _ _ = .ok (.invokevirtual 29, 3) by decide +kernel) cv_X6_29 ⟨_, rfl, rfl⟩ hr72 hs73 rfl (Nat.le_of_ble_eq_true rfl) (s_X0_hasStep (d := d) (hd_le hd (by decide)) h_8) (by decide) (by decide) (kI (bc' := 0) (bs' := 0) (by decide) (by decide) (fun x74 M70 h_9 => ?_))
    refine fw_if_eq 33 (show decode _ _ = .ok (.ifCond .eq 12, 3) by decide +kernel) (by decide) (fun hc77 => ?_) (fun hc77 => ?_)
    · have h_10 := ipos hc77 h_9
      refine fw_iconst (v := (-1 : Int32)) (show decode _ _ = .ok (.iconst (-1), 1) by decide +kernel) (by decide) ?_
      exact fw_ret (v := some (.int (-1 : Int32))) .ireturn (show decode _ _ = .ok (.ireturn, 1) by decide +kernel) ⟨rfl, Or.inl rfl⟩ ⟨_, rfl, h_10⟩
    · have h_11 := ineg hc77 h_9
      refine fw_iload_n (i := 3) 4 rfl (show decode _ _ = .ok (.iload_n 3, 1) by decide +kernel) ?_
      refine fw_if_lt 33 (show decode _ _ = .ok (.ifCond .lt 8, 3) by decide +kernel) (by decide) (fun hc76 => ?_) (fun hc76 => ?_)
      · have h_12 := ipos hc76 h_11
        refine fw_iconst (v := (-1 : Int32)) (show decode _ _ = .ok (.iconst (-1), 1) by decide +kernel) (by decide) ?_
        exact fw_ret (v := some (.int (-1 : Int32))) .ireturn (show decode _ _ = .ok (.ireturn, 1) by decide +kernel) ⟨rfl, Or.inl rfl⟩ ⟨_, rfl, h_12⟩
      · have h_13 := ineg hc76 h_11
        refine fw_iload_n (i := 3) 4 rfl (show decode _ _ = .ok (.iload_n 3, 1) by decide +kernel) ?_
        refine fw_iconst (v := (4 : Int32)) (show decode _ _ = .ok (.iconst 4, 1) by decide +kernel) (by decide) ?_
        refine fw_icmp_lt 35 (show decode _ _ = .ok (.if_icmp .lt 5, 3) by decide +kernel) (by decide) (fun hc75 => ?_) (fun hc75 => ?_)
        · have h_14 := ipos hc75 h_13
          refine fw_iconst (v := (0 : Int32)) (show decode _ _ = .ok (.iconst 0, 1) by decide +kernel) (by decide) ?_
          refine fw_istore (i := 5) (ls' := [(5, .int (0 : Int32)), (4, .ref y68), (0, .ref p0), (1, .int p1), (2, .int p2), (3, .int p3)]) (show decode _ _ = .ok (.istore 5, 2) by decide +kernel) (by decide) rfl ?_
          refine fw_iconst (v := (0 : Int32)) (show decode _ _ = .ok (.iconst 0, 1) by decide +kernel) (by decide) ?_
          refine fw_istore (i := 6) (ls' := [(6, .int (0 : Int32)), (5, .int (0 : Int32)), (4, .ref y68), (0, .ref p0), (1, .int p1), (2, .int p2), (3, .int p3)]) (show decode _ _ = .ok (.istore 6, 2) by decide +kernel) (by decide) rfl ?_
          refine FW.sub [3, 4, 5, 6, 2, 1, 0] (ls' := [(0, .ref p0), (1, .int p1), (2, .int p2), (3, .int p3), (4, .ref y68), (5, .int (0 : Int32)), (6, .int (0 : Int32))]) rfl ?_
          obtain ⟨nn, h_15⟩ := h_14
          exact sl_X6_trippersAt_41 hd nn h_15
        · have h_16 := ineg hc75 h_13
          refine fw_iconst (v := (-1 : Int32)) (show decode _ _ = .ok (.iconst (-1), 1) by decide +kernel) (by decide) ?_
          exact fw_ret (v := some (.int (-1 : Int32))) .ireturn (show decode _ _ = .ok (.ireturn, 1) by decide +kernel) ⟨rfl, Or.inl rfl⟩ ⟨_, rfl, h_16⟩
def w_X10_trippers (p0 : Nat) (p1 : Int32) (p2 : Int32) (p3 : Int32) (M : fM) (φ : Int32 → fM → Prop) : Prop := isO M p0 10 ∧ dR (mP M p0 6) fun y4 => isO M y4 6 ∧ w_X6_trippersAt y4 p1 p2 p3 M fun x10 M6 => φ x10 M6
set_option maxRecDepth 100000 in
theorem s_X10_trippers {g : GT} {d : Nat} (hd : 5 ≤ d) {p0 : Nat} {p1 : Int32} {p2 : Int32} {p3 : Int32} {M : fM} {φ : Int32 → fM → Prop} (h : w_X10_trippers p0 p1 p2 p3 M φ) : FC g mtX10_trippers d [.ref p0, .int p1, .int p2, .int p3] M 0 0 (rI φ) := by
  obtain ⟨d, rfl⟩ : ∃ e, d = e + 1 := ⟨d - 1, by omega⟩
  unfold w_X10_trippers at h
  refine FC.intro (nL := 4) (by decide) rfl (Nat.le_of_ble_eq_true rfl) ?_
  show FW g mtX10_trippers (d + 1) 0 [(0, .ref p0), (1, .int p1), (2, .int p2), (3, .int p3)] [] M 0 0 (rI φ)
  refine fw_aload_n (i := 0) 0 rfl (show decode _ _ = .ok (.aload_n 0, 1) by decide +kernel) ?_
  obtain ⟨⟨hr2, n1, hs3⟩, h_1⟩ := h
  refine fw_getP (kd := 10) (k := 6) (show decode _ _ = .ok (.getfield 57, 3) by decide +kernel) gf_X10_57 hr2 hs3 rfl ?_
  have h_2 := dR_e h_1
  obtain ⟨y4, hy5, h_3⟩ := h_2
  refine fw_deref hy5 ?_
  refine fw_iload_n (i := 1) 1 rfl (show decode _ _ = .ok (.iload_n 1, 1) by decide +kernel) ?_
  refine fw_iload_n (i := 2) 2 rfl (show decode _ _ = .ok (.iload_n 2, 1) by decide +kernel) ?_
  refine fw_iload_n (i := 3) 3 rfl (show decode _ _ = .ok (.iload_n 3, 1) by decide +kernel) ?_
  obtain ⟨⟨hr8, n7, hs9⟩, h_4⟩ := h_3
  refine fw_callV (mt' := mtX6_trippersAt) (mc := 0) (ms := 0) (As := [.int p1, .int p2, .int p3]) (rest := []) 3 6 n7 (show decode _ _ = .ok (.invokevirtual 258, 3) by decide +kernel) cv_X10_258 ⟨_, rfl, rfl⟩ hr8 hs9 rfl (Nat.le_of_ble_eq_true rfl) (s_X6_trippersAt (d := d) (hd_le hd (by decide)) h_4) (by decide) (by decide) (kI (bc' := 0) (bs' := 0) (by decide) (by decide) (fun x10 M6 h_5 => ?_))
  exact fw_ret (v := some (.int x10)) .ireturn (show decode _ _ = .ok (.ireturn, 1) by decide +kernel) ⟨rfl, Or.inl rfl⟩ ⟨_, rfl, h_5⟩
def b_X5_takeBack_52 (K52 : Nat → Int32 → Int32 → fM → Prop) (φ : Int32 → fM → Prop) (p0 : Nat) (p1 : Int32) (p2 : Int32) (M : fM) : Prop := iF ((8 : Int32) ≤ p2) (isO M p0 5 ∧ dR (mP M p0 10) fun y4 => w_X10_cell y4 (p1 + (8 : Int32)) M fun x7 M6 => isO M6 p0 5 ∧ st (wI M6 p0 6 x7) fun M11 => dR (mP M11 p0 10) fun y13 => w_X10_cell y13 (p1 + (9 : Int32)) M11 fun x16 M15 => isO M15 p0 5 ∧ st (wI M15 p0 5 x16) fun M20 => dR (mP M20 p0 10) fun y22 => w_X10_cell y22 (p1 + (10 : Int32)) M20 fun x25 M24 => isO M24 p0 5 ∧ st (wI M24 p0 9 x25) fun M29 => dR (mP M29 p0 7) fun y31 => inA M29 y31 12 (1 : Int32) ∧ w_X5_houseOf p0 (mI M29 y31 (ix (1 : Int32))) M29 fun o37 M36 => gN o37 (fun y38 => isO M36 p0 5 ∧ dR (mP M36 p0 7) fun y43 => inA M36 y43 12 (3 : Int32) ∧ isO M36 y38 0 ∧ iF ((mI M36 y43 (ix (3 : Int32))) ≤ (mI M36 y38 0)) (φ (mI M36 p0 11) M36) (dR (mP M36 p0 7) fun y51 => nm (mI M36 y38 0) fun x53 => 6 ≤ y51 ∧ inA M36 y51 12 (3 : Int32) ∧ st (wI M36 y51 (ix (3 : Int32)) x53) fun M59 => φ (mI M59 p0 11) M59)) (isO M36 p0 5 ∧ φ (mI M36 p0 11) M36)) (isO M p0 5 ∧ dR (mP M p0 7) fun y68 => dR (mP M p0 10) fun y70 => w_X10_cell y70 (p1 + p2) M fun x73 M72 => 6 ≤ y68 ∧ inA M72 y68 12 p2 ∧ st (wI M72 y68 (ix p2) x73) fun M78 => nm (p2 + (1 : Int32)) fun x80 => K52 p0 p1 x80 M78)
def l_X5_takeBack_52 (φ : Int32 → fM → Prop) : Nat → Nat → Int32 → Int32 → fM → Prop
  | 0, _, _, _, _ => False
  | n + 1, p0, p1, p2, M => b_X5_takeBack_52 (l_X5_takeBack_52 φ n) φ p0 p1 p2 M
set_option maxRecDepth 100000 in
theorem sb_X5_takeBack_52 {g : GT} {d : Nat} (hd : 2 ≤ d + 1) {K52 : Nat → Int32 → Int32 → fM → Prop} {φ : Int32 → fM → Prop} (hK52 : ∀ (p0 : Nat) (p1 : Int32) (p2 : Int32) (M : fM), K52 p0 p1 p2 M → FW g mtX5_takeBack (d + 1) 52 [(0, .ref p0), (1, .int p1), (2, .int p2)] [] M 0 0 (rI φ)) {p0 : Nat} {p1 : Int32} {p2 : Int32} {M : fM} (h : b_X5_takeBack_52 K52 φ p0 p1 p2 M) : FW g mtX5_takeBack (d + 1) 52 [(0, .ref p0), (1, .int p1), (2, .int p2)] [] M 0 0 (rI φ) := by
  unfold b_X5_takeBack_52 at h
  refine fw_iload_n (i := 2) 2 rfl (show decode _ _ = .ok (.iload_n 2, 1) by decide +kernel) ?_
  refine fw_bipush (v := (8 : Int32)) (show decode _ _ = .ok (.bipush 8, 2) by decide +kernel) (by decide) ?_
  refine fw_icmp_ge 80 (show decode _ _ = .ok (.if_icmp .ge 25, 3) by decide +kernel) (by decide) (fun hc82 => ?_) (fun hc82 => ?_)
  · have h_1 := ipos hc82 h
    refine fw_aload_n (i := 0) 0 rfl (show decode _ _ = .ok (.aload_n 0, 1) by decide +kernel) ?_
    refine fw_aload_n (i := 0) 0 rfl (show decode _ _ = .ok (.aload_n 0, 1) by decide +kernel) ?_
    obtain ⟨⟨hr2, n1, hs3⟩, h_2⟩ := h_1
    refine fw_getP (kd := 5) (k := 10) (show decode _ _ = .ok (.getfield 37, 3) by decide +kernel) gf_X5_37 hr2 hs3 rfl ?_
    have h_3 := dR_e h_2
    obtain ⟨y4, hy5, h_4⟩ := h_3
    refine fw_deref hy5 ?_
    refine fw_iload_n (i := 1) 1 rfl (show decode _ _ = .ok (.iload_n 1, 1) by decide +kernel) ?_
    refine fw_bipush (v := (8 : Int32)) (show decode _ _ = .ok (.bipush 8, 2) by decide +kernel) (by decide) ?_
    refine fw_iadd (show decode _ _ = .ok (.iadd, 1) by decide +kernel) ?_
    refine fw_callSN (mt' := mtX10_cell) (mc := 0) (ms := 0) (As := [.ref y4, .int (p1 + (8 : Int32))]) (rest := [.ref p0]) 2 "OneStepMore" (show decode _ _ = .ok (.invokestatic 102, 3) by decide +kernel) ns_X5_102 rfl (Nat.le_of_ble_eq_true rfl) (s_X10_cell (d := d) (hd_le hd (by decide)) h_4) (by decide) (by decide) (kI (bc' := 0) (bs' := 0) (by decide) (by decide) (fun x7 M6 h_5 => ?_))
    obtain ⟨⟨hr9, n8, hs10⟩, h_6⟩ := h_5
    refine fw_putI (kd := 5) (k := 6) (show decode _ _ = .ok (.putfield 109, 3) by decide +kernel) ⟨gf_X5_109, _, rfl, Or.inl rfl⟩ hr9 hs10 rfl ?_
    refine FW.nmM (fun M11 eM12 => ?_)
    have h_7 := h_6 M11 eM12
    refine fw_aload_n (i := 0) 0 rfl (show decode _ _ = .ok (.aload_n 0, 1) by decide +kernel) ?_
    refine fw_aload_n (i := 0) 0 rfl (show decode _ _ = .ok (.aload_n 0, 1) by decide +kernel) ?_
    refine fw_getP (kd := 5) (k := 10) (show decode _ _ = .ok (.getfield 37, 3) by decide +kernel) gf_X5_37 hr9 (mSw_I eM12 hs10) rfl ?_
    have h_8 := dR_e h_7
    obtain ⟨y13, hy14, h_9⟩ := h_8
    refine fw_deref hy14 ?_
    refine fw_iload_n (i := 1) 1 rfl (show decode _ _ = .ok (.iload_n 1, 1) by decide +kernel) ?_
    refine fw_bipush (v := (9 : Int32)) (show decode _ _ = .ok (.bipush 9, 2) by decide +kernel) (by decide) ?_
    refine fw_iadd (show decode _ _ = .ok (.iadd, 1) by decide +kernel) ?_
    refine fw_callSN (mt' := mtX10_cell) (mc := 0) (ms := 0) (As := [.ref y13, .int (p1 + (9 : Int32))]) (rest := [.ref p0]) 2 "OneStepMore" (show decode _ _ = .ok (.invokestatic 102, 3) by decide +kernel) ns_X5_102 rfl (Nat.le_of_ble_eq_true rfl) (s_X10_cell (d := d) (hd_le hd (by decide)) h_9) (by decide) (by decide) (kI (bc' := 0) (bs' := 0) (by decide) (by decide) (fun x16 M15 h_10 => ?_))
    obtain ⟨⟨hr18, n17, hs19⟩, h_11⟩ := h_10
    refine fw_putI (kd := 5) (k := 5) (show decode _ _ = .ok (.putfield 27, 3) by decide +kernel) ⟨gf_X5_27, _, rfl, Or.inl rfl⟩ hr18 hs19 rfl ?_
    refine FW.nmM (fun M20 eM21 => ?_)
    have h_12 := h_11 M20 eM21
    refine fw_aload_n (i := 0) 0 rfl (show decode _ _ = .ok (.aload_n 0, 1) by decide +kernel) ?_
    refine fw_aload_n (i := 0) 0 rfl (show decode _ _ = .ok (.aload_n 0, 1) by decide +kernel) ?_
    refine fw_getP (kd := 5) (k := 10) (show decode _ _ = .ok (.getfield 37, 3) by decide +kernel) gf_X5_37 hr18 (mSw_I eM21 hs19) rfl ?_
    have h_13 := dR_e h_12
    obtain ⟨y22, hy23, h_14⟩ := h_13
    refine fw_deref hy23 ?_
    refine fw_iload_n (i := 1) 1 rfl (show decode _ _ = .ok (.iload_n 1, 1) by decide +kernel) ?_
    refine fw_bipush (v := (10 : Int32)) (show decode _ _ = .ok (.bipush 10, 2) by decide +kernel) (by decide) ?_
    refine fw_iadd (show decode _ _ = .ok (.iadd, 1) by decide +kernel) ?_
    refine fw_callSN (mt' := mtX10_cell) (mc := 0) (ms := 0) (As := [.ref y22, .int (p1 + (10 : Int32))]) (rest := [.ref p0]) 2 "OneStepMore" (show decode _ _ = .ok (.invokestatic 102, 3) by decide +kernel) ns_X5_102 rfl (Nat.le_of_ble_eq_true rfl) (s_X10_cell (d := d) (hd_le hd (by decide)) h_14) (by decide) (by decide) (kI (bc' := 0) (bs' := 0) (by decide) (by decide) (fun x25 M24 h_15 => ?_))
    obtain ⟨⟨hr27, n26, hs28⟩, h_16⟩ := h_15
    refine fw_putI (kd := 5) (k := 9) (show decode _ _ = .ok (.putfield 112, 3) by decide +kernel) ⟨gf_X5_112, _, rfl, Or.inl rfl⟩ hr27 hs28 rfl ?_
    refine FW.nmM (fun M29 eM30 => ?_)
    have h_17 := h_16 M29 eM30
    refine fw_aload_n (i := 0) 0 rfl (show decode _ _ = .ok (.aload_n 0, 1) by decide +kernel) ?_
    refine fw_aload_n (i := 0) 0 rfl (show decode _ _ = .ok (.aload_n 0, 1) by decide +kernel) ?_
    refine fw_getP (kd := 5) (k := 7) (show decode _ _ = .ok (.getfield 31, 3) by decide +kernel) gf_X5_31 hr27 (mSw_I eM30 hs28) rfl ?_
    have h_18 := dR_e h_17
    obtain ⟨y31, hy32, h_19⟩ := h_18
    refine fw_deref hy32 ?_
    refine fw_iconst (v := (1 : Int32)) (show decode _ _ = .ok (.iconst 1, 1) by decide +kernel) (by decide) ?_
    obtain ⟨⟨n33, hs34, hi35⟩, h_20⟩ := h_19
    refine fw_iald (show decode _ _ = .ok (.iaload, 1) by decide +kernel) hs34 hi35 ?_
    refine fw_callV (mt' := mtX5_houseOf) (mc := 0) (ms := 0) (As := [.int (mI M29 y31 (ix (1 : Int32)))]) (rest := []) 1 5 n26 (show decode _ _ = .ok (.invokevirtual 59, 3) by decide +kernel) cv_X5_59 ⟨_, rfl, rfl⟩ hr27 (mSw_I eM30 hs28) rfl (Nat.le_of_ble_eq_true rfl) (s_X5_houseOf (d := d) (hd_le hd (by decide)) h_20) (by decide) (by decide) (kP (bc' := 0) (bs' := 0) (by decide) (by decide) (fun o37 M36 h_21 => ?_))
    refine fw_astoreq_n (i := 2) (ls' := [(2, fr o37), (0, .ref p0), (1, .int p1)]) (show decode _ _ = .ok (.astore_n 2, 1) by decide +kernel) (by decide) rfl ?_
    refine fw_aloadq_n (i := 2) 0 rfl (show decode _ _ = .ok (.aload_n 2, 1) by decide +kernel) ?_
    refine fw_ifnull (x := o37) 163 (show decode _ _ = .ok (.ifnull 26, 3) by decide +kernel) (by decide) (fun hy39 => ?_) (fun y38 hy39 => ?_)
    · have h_22 := gN_n hy39 h_21
      subst hy39
      refine fw_aload_n (i := 0) 1 rfl (show decode _ _ = .ok (.aload_n 0, 1) by decide +kernel) ?_
      obtain ⟨⟨hr63, n62, hs64⟩, h_23⟩ := h_22
      refine fw_getI (kd := 5) (k := 11) (show decode _ _ = .ok (.getfield 115, 3) by decide +kernel) gf_X5_115 hr63 hs64 (Or.inl rfl) ?_
      exact fw_ret (v := some (.int (mI M36 p0 11))) .ireturn (show decode _ _ = .ok (.ireturn, 1) by decide +kernel) ⟨rfl, Or.inl rfl⟩ ⟨_, rfl, h_23⟩
    · have h_24 := gN_s hy39 h_21
      subst hy39
      refine fw_aload_n (i := 0) 1 rfl (show decode _ _ = .ok (.aload_n 0, 1) by decide +kernel) ?_
      obtain ⟨⟨hr41, n40, hs42⟩, h_25⟩ := h_24
      refine fw_getP (kd := 5) (k := 7) (show decode _ _ = .ok (.getfield 31, 3) by decide +kernel) gf_X5_31 hr41 hs42 rfl ?_
      have h_26 := dR_e h_25
      obtain ⟨y43, hy44, h_27⟩ := h_26
      refine fw_deref hy44 ?_
      refine fw_iconst (v := (3 : Int32)) (show decode _ _ = .ok (.iconst 3, 1) by decide +kernel) (by decide) ?_
      obtain ⟨⟨n45, hs46, hi47⟩, h_28⟩ := h_27
      refine fw_iald (show decode _ _ = .ok (.iaload, 1) by decide +kernel) hs46 hi47 ?_
      refine fw_aload_n (i := 2) 0 rfl (show decode _ _ = .ok (.aload_n 2, 1) by decide +kernel) ?_
      obtain ⟨⟨hr49, n48, hs50⟩, h_29⟩ := h_28
      refine fw_getI (kd := 0) (k := 0) (show decode _ _ = .ok (.getfield 124, 3) by decide +kernel) gf_X5_124 hr49 hs50 (Or.inl rfl) ?_
      refine fw_icmp_le 163 (show decode _ _ = .ok (.if_icmp .le 13, 3) by decide +kernel) (by decide) (fun hc61 => ?_) (fun hc61 => ?_)
      · have h_30 := ipos hc61 h_29
        refine fw_aload_n (i := 0) 1 rfl (show decode _ _ = .ok (.aload_n 0, 1) by decide +kernel) ?_
        refine fw_getI (kd := 5) (k := 11) (show decode _ _ = .ok (.getfield 115, 3) by decide +kernel) gf_X5_115 hr41 hs42 (Or.inl rfl) ?_
        exact fw_ret (v := some (.int (mI M36 p0 11))) .ireturn (show decode _ _ = .ok (.ireturn, 1) by decide +kernel) ⟨rfl, Or.inl rfl⟩ ⟨_, rfl, h_30⟩
      · have h_31 := ineg hc61 h_29
        refine fw_aload_n (i := 0) 1 rfl (show decode _ _ = .ok (.aload_n 0, 1) by decide +kernel) ?_
        refine fw_getP (kd := 5) (k := 7) (show decode _ _ = .ok (.getfield 31, 3) by decide +kernel) gf_X5_31 hr41 hs42 rfl ?_
        have h_32 := dR_e h_31
        obtain ⟨y51, hy52, h_33⟩ := h_32
        refine fw_deref hy52 ?_
        refine fw_iconst (v := (3 : Int32)) (show decode _ _ = .ok (.iconst 3, 1) by decide +kernel) (by decide) ?_
        refine fw_aload_n (i := 2) 0 rfl (show decode _ _ = .ok (.aload_n 2, 1) by decide +kernel) ?_
        refine fw_getI (kd := 0) (k := 0) (show decode _ _ = .ok (.getfield 124, 3) by decide +kernel) gf_X5_124 hr49 hs50 (Or.inl rfl) ?_
        refine fw_nmI (fun x53 ex54 => ?_)
        have h_34 := h_33 x53 ex54
        obtain ⟨hr58, ⟨n55, hs56, hi57⟩, h_35⟩ := h_34
        refine fw_iast (show decode _ _ = .ok (.iastore, 1) by decide +kernel) hr58 hs56 hi57 ?_
        refine FW.nmM (fun M59 eM60 => ?_)
        have h_36 := h_35 M59 eM60
        refine fw_aload_n (i := 0) 1 rfl (show decode _ _ = .ok (.aload_n 0, 1) by decide +kernel) ?_
        refine fw_getI (kd := 5) (k := 11) (show decode _ _ = .ok (.getfield 115, 3) by decide +kernel) gf_X5_115 hr41 (mSw_I eM60 hs42) (Or.inl rfl) ?_
        exact fw_ret (v := some (.int (mI M59 p0 11))) .ireturn (show decode _ _ = .ok (.ireturn, 1) by decide +kernel) ⟨rfl, Or.inl rfl⟩ ⟨_, rfl, h_36⟩
  · have h_37 := ineg hc82 h
    refine fw_aload_n (i := 0) 0 rfl (show decode _ _ = .ok (.aload_n 0, 1) by decide +kernel) ?_
    obtain ⟨⟨hr66, n65, hs67⟩, h_38⟩ := h_37
    refine fw_getP (kd := 5) (k := 7) (show decode _ _ = .ok (.getfield 31, 3) by decide +kernel) gf_X5_31 hr66 hs67 rfl ?_
    have h_39 := dR_e h_38
    obtain ⟨y68, hy69, h_40⟩ := h_39
    refine fw_deref hy69 ?_
    refine fw_iload_n (i := 2) 2 rfl (show decode _ _ = .ok (.iload_n 2, 1) by decide +kernel) ?_
    refine fw_aload_n (i := 0) 0 rfl (show decode _ _ = .ok (.aload_n 0, 1) by decide +kernel) ?_
    refine fw_getP (kd := 5) (k := 10) (show decode _ _ = .ok (.getfield 37, 3) by decide +kernel) gf_X5_37 hr66 hs67 rfl ?_
    have h_41 := dR_e h_40
    obtain ⟨y70, hy71, h_42⟩ := h_41
    refine fw_deref hy71 ?_
    refine fw_iload_n (i := 1) 1 rfl (show decode _ _ = .ok (.iload_n 1, 1) by decide +kernel) ?_
    refine fw_iload_n (i := 2) 2 rfl (show decode _ _ = .ok (.iload_n 2, 1) by decide +kernel) ?_
    refine fw_iadd (show decode _ _ = .ok (.iadd, 1) by decide +kernel) ?_
    refine fw_callSN (mt' := mtX10_cell) (mc := 0) (ms := 0) (As := [.ref y70, .int (p1 + p2)]) (rest := [.int p2, .ref y68]) 2 "OneStepMore" (show decode _ _ = .ok (.invokestatic 102, 3) by decide +kernel) ns_X5_102 rfl (Nat.le_of_ble_eq_true rfl) (s_X10_cell (d := d) (hd_le hd (by decide)) h_42) (by decide) (by decide) (kI (bc' := 0) (bs' := 0) (by decide) (by decide) (fun x73 M72 h_43 => ?_))
    obtain ⟨hr77, ⟨n74, hs75, hi76⟩, h_44⟩ := h_43
    refine fw_iast (show decode _ _ = .ok (.iastore, 1) by decide +kernel) hr77 hs75 hi76 ?_
    refine FW.nmM (fun M78 eM79 => ?_)
    have h_45 := h_44 M78 eM79
    obtain ⟨x80, ex81⟩ : ∃ y : Int32, y = p2 + (1 : Int32) := ⟨_, rfl⟩
    have h_46 := h_45 x80 ex81
    refine fw_iinc (i := 2) (x := p2) (v := x80) (ls' := [(2, .int x80), (0, .ref p0), (1, .int p1)]) 2 rfl (show decode _ _ = .ok (.iinc 2 1, 3) by decide +kernel) (by rw [ex81]; rfl) (by decide) rfl ?_
    refine fw_goto 52 (show decode _ _ = .ok (.goto (-25), 3) by decide +kernel) (by decide) ?_
    refine FW.sub [1, 2, 0] (ls' := [(0, .ref p0), (1, .int p1), (2, .int x80)]) rfl ?_
    exact hK52 _ _ _ _ h_46
theorem sl_X5_takeBack_52 {g : GT} {d : Nat} (hd : 2 ≤ d + 1) {φ : Int32 → fM → Prop} : ∀ (n : Nat) {p0 : Nat} {p1 : Int32} {p2 : Int32} {M : fM}, l_X5_takeBack_52 φ n p0 p1 p2 M → FW g mtX5_takeBack (d + 1) 52 [(0, .ref p0), (1, .int p1), (2, .int p2)] [] M 0 0 (rI φ)
  | 0 => fun h => h.elim
  | n + 1 => fun h => sb_X5_takeBack_52 hd (fun _ _ _ _ h => sl_X5_takeBack_52 hd n h) h
def j_X5_takeBack_39 (φ : Int32 → fM → Prop) (p0 : Nat) (s0 : Int32) (s1 : Nat) (M : fM) : Prop := isO M s1 5 ∧ st (wI M s1 12 s0) fun M86 => isO M86 p0 5 ∧ nm ((mI M86 p0 12) * (11 : Int32)) fun x91 => ∃ n, l_X5_takeBack_52 φ n p0 x91 (0 : Int32) M86
set_option maxRecDepth 100000 in
theorem sj_X5_takeBack_39 {g : GT} {d : Nat} (hd : 2 ≤ d + 1) {φ : Int32 → fM → Prop} {p0 : Nat} {s0 : Int32} {s1 : Nat} {M : fM} (h : j_X5_takeBack_39 φ p0 s0 s1 M) : FW g mtX5_takeBack (d + 1) 39 [(0, .ref p0)] [.int s0, .ref s1] M 0 0 (rI φ) := by
  unfold j_X5_takeBack_39 at h
  obtain ⟨⟨hr84, n83, hs85⟩, h_1⟩ := h
  refine fw_putI (kd := 5) (k := 12) (show decode _ _ = .ok (.putfield 106, 3) by decide +kernel) ⟨gf_X5_106, _, rfl, Or.inl rfl⟩ hr84 hs85 rfl ?_
  refine FW.nmM (fun M86 eM87 => ?_)
  have h_2 := h_1 M86 eM87
  refine fw_aload_n (i := 0) 0 rfl (show decode _ _ = .ok (.aload_n 0, 1) by decide +kernel) ?_
  obtain ⟨⟨hr89, n88, hs90⟩, h_3⟩ := h_2
  refine fw_getI (kd := 5) (k := 12) (show decode _ _ = .ok (.getfield 106, 3) by decide +kernel) gf_X5_106 hr89 hs90 (Or.inl rfl) ?_
  refine fw_bipush (v := (11 : Int32)) (show decode _ _ = .ok (.bipush 11, 2) by decide +kernel) (by decide) ?_
  refine fw_imul (show decode _ _ = .ok (.imul, 1) by decide +kernel) ?_
  refine fw_nmI (fun x91 ex92 => ?_)
  have h_4 := h_3 x91 ex92
  refine fw_istore_n (i := 1) (ls' := [(1, .int x91), (0, .ref p0)]) (show decode _ _ = .ok (.istore_n 1, 1) by decide +kernel) (by decide) rfl ?_
  refine fw_iconst (v := (0 : Int32)) (show decode _ _ = .ok (.iconst 0, 1) by decide +kernel) (by decide) ?_
  refine fw_istore_n (i := 2) (ls' := [(2, .int (0 : Int32)), (1, .int x91), (0, .ref p0)]) (show decode _ _ = .ok (.istore_n 2, 1) by decide +kernel) (by decide) rfl ?_
  refine FW.sub [2, 1, 0] (ls' := [(0, .ref p0), (1, .int x91), (2, .int (0 : Int32))]) rfl ?_
  obtain ⟨nn, h_5⟩ := h_4
  exact sl_X5_takeBack_52 hd nn h_5
def w_X5_takeBack (p0 : Nat) (M : fM) (φ : Int32 → fM → Prop) : Prop := isO M p0 5 ∧ iF ((1 : Int32) ≤ (mI M p0 11)) (nm ((mI M p0 11) - (1 : Int32)) fun x96 => st (wI M p0 11 x96) fun M98 => iF ((mI M98 p0 12) ≤ 0) (j_X5_takeBack_39 φ p0 (29 : Int32) p0 M98) (j_X5_takeBack_39 φ p0 ((mI M98 p0 12) - (1 : Int32)) p0 M98)) (φ (-1 : Int32) M)
set_option maxRecDepth 100000 in
theorem s_X5_takeBack {g : GT} {d : Nat} (hd : 2 ≤ d) {p0 : Nat} {M : fM} {φ : Int32 → fM → Prop} (h : w_X5_takeBack p0 M φ) : FC g mtX5_takeBack d [.ref p0] M 0 0 (rI φ) := by
  obtain ⟨d, rfl⟩ : ∃ e, d = e + 1 := ⟨d - 1, by omega⟩
  unfold w_X5_takeBack at h
  refine FC.intro (nL := 3) (by decide) rfl (Nat.le_of_ble_eq_true rfl) ?_
  show FW g mtX5_takeBack (d + 1) 0 [(0, .ref p0)] [] M 0 0 (rI φ)
  refine fw_aload_n (i := 0) 0 rfl (show decode _ _ = .ok (.aload_n 0, 1) by decide +kernel) ?_
  obtain ⟨⟨hr94, n93, hs95⟩, h_1⟩ := h
  refine fw_getI (kd := 5) (k := 11) (show decode _ _ = .ok (.getfield 115, 3) by decide +kernel) gf_X5_115 hr94 hs95 (Or.inl rfl) ?_
  refine fw_iconst (v := (1 : Int32)) (show decode _ _ = .ok (.iconst 1, 1) by decide +kernel) (by decide) ?_
  refine fw_icmp_ge 10 (show decode _ _ = .ok (.if_icmp .ge 5, 3) by decide +kernel) (by decide) (fun hc101 => ?_) (fun hc101 => ?_)
  · have h_2 := ipos hc101 h_1
    refine fw_aload_n (i := 0) 0 rfl (show decode _ _ = .ok (.aload_n 0, 1) by decide +kernel) ?_
    refine fw_dup (show decode _ _ = .ok (.dup, 1) by decide +kernel) rfl ?_
    refine fw_getI (kd := 5) (k := 11) (show decode _ _ = .ok (.getfield 115, 3) by decide +kernel) gf_X5_115 hr94 hs95 (Or.inl rfl) ?_
    refine fw_iconst (v := (1 : Int32)) (show decode _ _ = .ok (.iconst 1, 1) by decide +kernel) (by decide) ?_
    refine fw_isub (show decode _ _ = .ok (.isub, 1) by decide +kernel) ?_
    refine fw_nmI (fun x96 ex97 => ?_)
    have h_3 := h_2 x96 ex97
    refine fw_putI (kd := 5) (k := 11) (show decode _ _ = .ok (.putfield 115, 3) by decide +kernel) ⟨gf_X5_115, _, rfl, Or.inl rfl⟩ hr94 hs95 rfl ?_
    refine FW.nmM (fun M98 eM99 => ?_)
    have h_4 := h_3 M98 eM99
    refine fw_aload_n (i := 0) 0 rfl (show decode _ _ = .ok (.aload_n 0, 1) by decide +kernel) ?_
    refine fw_aload_n (i := 0) 0 rfl (show decode _ _ = .ok (.aload_n 0, 1) by decide +kernel) ?_
    refine fw_getI (kd := 5) (k := 12) (show decode _ _ = .ok (.getfield 106, 3) by decide +kernel) gf_X5_106 hr94 (mSw_I eM99 hs95) (Or.inl rfl) ?_
    refine fw_if_le 37 (show decode _ _ = .ok (.ifCond .le 12, 3) by decide +kernel) (by decide) (fun hc100 => ?_) (fun hc100 => ?_)
    · have h_5 := ipos hc100 h_4
      refine fw_bipush (v := (29 : Int32)) (show decode _ _ = .ok (.bipush 29, 2) by decide +kernel) (by decide) ?_
      refine FW.sub [0] (ls' := [(0, .ref p0)]) rfl ?_
      exact sj_X5_takeBack_39 hd h_5
    · have h_6 := ineg hc100 h_4
      refine fw_aload_n (i := 0) 0 rfl (show decode _ _ = .ok (.aload_n 0, 1) by decide +kernel) ?_
      refine fw_getI (kd := 5) (k := 12) (show decode _ _ = .ok (.getfield 106, 3) by decide +kernel) gf_X5_106 hr94 (mSw_I eM99 hs95) (Or.inl rfl) ?_
      refine fw_iconst (v := (1 : Int32)) (show decode _ _ = .ok (.iconst 1, 1) by decide +kernel) (by decide) ?_
      refine fw_isub (show decode _ _ = .ok (.isub, 1) by decide +kernel) ?_
      refine fw_goto 39 (show decode _ _ = .ok (.goto 5, 3) by decide +kernel) (by decide) ?_
      refine FW.sub [0] (ls' := [(0, .ref p0)]) rfl ?_
      exact sj_X5_takeBack_39 hd h_6
  · have h_7 := ineg hc101 h_1
    refine fw_iconst (v := (-1 : Int32)) (show decode _ _ = .ok (.iconst (-1), 1) by decide +kernel) (by decide) ?_
    exact fw_ret (v := some (.int (-1 : Int32))) .ireturn (show decode _ _ = .ok (.ireturn, 1) by decide +kernel) ⟨rfl, Or.inl rfl⟩ ⟨_, rfl, h_7⟩
def w_X10_undo (p0 : Nat) (M : fM) (φ : Int32 → fM → Prop) : Prop := isO M p0 10 ∧ dR (mP M p0 0) fun y4 => isO M y4 5 ∧ w_X5_takeBack y4 M fun x10 M6 => φ x10 M6
set_option maxRecDepth 100000 in
theorem s_X10_undo {g : GT} {d : Nat} (hd : 3 ≤ d) {p0 : Nat} {M : fM} {φ : Int32 → fM → Prop} (h : w_X10_undo p0 M φ) : FC g mtX10_undo d [.ref p0] M 0 0 (rI φ) := by
  obtain ⟨d, rfl⟩ : ∃ e, d = e + 1 := ⟨d - 1, by omega⟩
  unfold w_X10_undo at h
  refine FC.intro (nL := 1) (by decide) rfl (Nat.le_of_ble_eq_true rfl) ?_
  show FW g mtX10_undo (d + 1) 0 [(0, .ref p0)] [] M 0 0 (rI φ)
  refine fw_aload_n (i := 0) 0 rfl (show decode _ _ = .ok (.aload_n 0, 1) by decide +kernel) ?_
  obtain ⟨⟨hr2, n1, hs3⟩, h_1⟩ := h
  refine fw_getP (kd := 10) (k := 0) (show decode _ _ = .ok (.getfield 13, 3) by decide +kernel) gf_X10_13 hr2 hs3 rfl ?_
  have h_2 := dR_e h_1
  obtain ⟨y4, hy5, h_3⟩ := h_2
  refine fw_deref hy5 ?_
  obtain ⟨⟨hr8, n7, hs9⟩, h_4⟩ := h_3
  refine fw_callV (mt' := mtX5_takeBack) (mc := 0) (ms := 0) (As := []) (rest := []) 0 5 n7 (show decode _ _ = .ok (.invokevirtual 163, 3) by decide +kernel) cv_X10_163 ⟨_, rfl, rfl⟩ hr8 hs9 rfl (Nat.le_of_ble_eq_true rfl) (s_X5_takeBack (d := d) (hd_le hd (by decide)) h_4) (by decide) (by decide) (kI (bc' := 0) (bs' := 0) (by decide) (by decide) (fun x10 M6 h_5 => ?_))
  exact fw_ret (v := some (.int x10)) .ireturn (show decode _ _ = .ok (.ireturn, 1) by decide +kernel) ⟨rfl, Or.inl rfl⟩ ⟨_, rfl, h_5⟩
def w_X5_wayOf (p0 : Nat) (p1 : Int32) (M : fM) (φ : Int32 → fM → Prop) : Prop := iF (p1 < 0) (φ (-1 : Int32) M) (iF ((8 : Int32) ≤ p1) (φ (-1 : Int32) M) (isO M p0 5 ∧ dR (mP M p0 7) fun y4 => inA M y4 12 p1 ∧ φ (mI M y4 (ix p1)) M))
set_option maxRecDepth 100000 in
theorem s_X5_wayOf {g : GT} {d : Nat} (hd : 1 ≤ d) {p0 : Nat} {p1 : Int32} {M : fM} {φ : Int32 → fM → Prop} (h : w_X5_wayOf p0 p1 M φ) : FC g mtX5_wayOf d [.ref p0, .int p1] M 0 0 (rI φ) := by
  obtain ⟨d, rfl⟩ : ∃ e, d = e + 1 := ⟨d - 1, by omega⟩
  unfold w_X5_wayOf at h
  refine FC.intro (nL := 2) (by decide) rfl (Nat.le_of_ble_eq_true rfl) ?_
  show FW g mtX5_wayOf (d + 1) 0 [(0, .ref p0), (1, .int p1)] [] M 0 0 (rI φ)
  refine fw_iload_n (i := 1) 1 rfl (show decode _ _ = .ok (.iload_n 1, 1) by decide +kernel) ?_
  refine fw_if_lt 19 (show decode _ _ = .ok (.ifCond .lt 18, 3) by decide +kernel) (by decide) (fun hc10 => ?_) (fun hc10 => ?_)
  · have h_1 := ipos hc10 h
    refine fw_iconst (v := (-1 : Int32)) (show decode _ _ = .ok (.iconst (-1), 1) by decide +kernel) (by decide) ?_
    exact fw_ret (v := some (.int (-1 : Int32))) .ireturn (show decode _ _ = .ok (.ireturn, 1) by decide +kernel) ⟨rfl, Or.inl rfl⟩ ⟨_, rfl, h_1⟩
  · have h_2 := ineg hc10 h
    refine fw_iload_n (i := 1) 1 rfl (show decode _ _ = .ok (.iload_n 1, 1) by decide +kernel) ?_
    refine fw_bipush (v := (8 : Int32)) (show decode _ _ = .ok (.bipush 8, 2) by decide +kernel) (by decide) ?_
    refine fw_icmp_ge 19 (show decode _ _ = .ok (.if_icmp .ge 12, 3) by decide +kernel) (by decide) (fun hc9 => ?_) (fun hc9 => ?_)
    · have h_3 := ipos hc9 h_2
      refine fw_iconst (v := (-1 : Int32)) (show decode _ _ = .ok (.iconst (-1), 1) by decide +kernel) (by decide) ?_
      exact fw_ret (v := some (.int (-1 : Int32))) .ireturn (show decode _ _ = .ok (.ireturn, 1) by decide +kernel) ⟨rfl, Or.inl rfl⟩ ⟨_, rfl, h_3⟩
    · have h_4 := ineg hc9 h_2
      refine fw_aload_n (i := 0) 0 rfl (show decode _ _ = .ok (.aload_n 0, 1) by decide +kernel) ?_
      obtain ⟨⟨hr2, n1, hs3⟩, h_5⟩ := h_4
      refine fw_getP (kd := 5) (k := 7) (show decode _ _ = .ok (.getfield 31, 3) by decide +kernel) gf_X5_31 hr2 hs3 rfl ?_
      have h_6 := dR_e h_5
      obtain ⟨y4, hy5, h_7⟩ := h_6
      refine fw_deref hy5 ?_
      refine fw_iload_n (i := 1) 1 rfl (show decode _ _ = .ok (.iload_n 1, 1) by decide +kernel) ?_
      obtain ⟨⟨n6, hs7, hi8⟩, h_8⟩ := h_7
      refine fw_iald (show decode _ _ = .ok (.iaload, 1) by decide +kernel) hs7 hi8 ?_
      refine fw_goto 20 (show decode _ _ = .ok (.goto 4, 3) by decide +kernel) (by decide) ?_
      exact fw_ret (v := some (.int (mI M y4 (ix p1)))) .ireturn (show decode _ _ = .ok (.ireturn, 1) by decide +kernel) ⟨rfl, Or.inl rfl⟩ ⟨_, rfl, h_8⟩
def w_X10_way (p0 : Nat) (p1 : Int32) (M : fM) (φ : Int32 → fM → Prop) : Prop := isO M p0 10 ∧ dR (mP M p0 0) fun y4 => isO M y4 5 ∧ w_X5_isOnWay y4 M fun x10 M6 => iF (x10 = 0) (φ (-1 : Int32) M6) (isO M6 p0 10 ∧ dR (mP M6 p0 0) fun y14 => isO M6 y14 5 ∧ w_X5_wayOf y14 p1 M6 fun x20 M16 => φ x20 M16)
set_option maxRecDepth 100000 in
theorem s_X10_way {g : GT} {d : Nat} (hd : 2 ≤ d) {p0 : Nat} {p1 : Int32} {M : fM} {φ : Int32 → fM → Prop} (h : w_X10_way p0 p1 M φ) : FC g mtX10_way d [.ref p0, .int p1] M 0 0 (rI φ) := by
  obtain ⟨d, rfl⟩ : ∃ e, d = e + 1 := ⟨d - 1, by omega⟩
  unfold w_X10_way at h
  refine FC.intro (nL := 2) (by decide) rfl (Nat.le_of_ble_eq_true rfl) ?_
  show FW g mtX10_way (d + 1) 0 [(0, .ref p0), (1, .int p1)] [] M 0 0 (rI φ)
  refine fw_aload_n (i := 0) 0 rfl (show decode _ _ = .ok (.aload_n 0, 1) by decide +kernel) ?_
  obtain ⟨⟨hr2, n1, hs3⟩, h_1⟩ := h
  refine fw_getP (kd := 10) (k := 0) (show decode _ _ = .ok (.getfield 13, 3) by decide +kernel) gf_X10_13 hr2 hs3 rfl ?_
  have h_2 := dR_e h_1
  obtain ⟨y4, hy5, h_3⟩ := h_2
  refine fw_deref hy5 ?_
  obtain ⟨⟨hr8, n7, hs9⟩, h_4⟩ := h_3
  refine fw_callV (mt' := mtX5_isOnWay) (mc := 0) (ms := 0) (As := []) (rest := []) 0 5 n7 (show decode _ _ = .ok (.invokevirtual 166, 3) by decide +kernel) cv_X10_166 ⟨_, rfl, rfl⟩ hr8 hs9 rfl (Nat.le_of_ble_eq_true rfl) (s_X5_isOnWay (d := d) (hd_le hd (by decide)) h_4) (by decide) (by decide) (kI (bc' := 0) (bs' := 0) (by decide) (by decide) (fun x10 M6 h_5 => ?_))
  refine fw_if_eq 21 (show decode _ _ = .ok (.ifCond .eq 14, 3) by decide +kernel) (by decide) (fun hc21 => ?_) (fun hc21 => ?_)
  · have h_6 := ipos hc21 h_5
    refine fw_iconst (v := (-1 : Int32)) (show decode _ _ = .ok (.iconst (-1), 1) by decide +kernel) (by decide) ?_
    exact fw_ret (v := some (.int (-1 : Int32))) .ireturn (show decode _ _ = .ok (.ireturn, 1) by decide +kernel) ⟨rfl, Or.inl rfl⟩ ⟨_, rfl, h_6⟩
  · have h_7 := ineg hc21 h_5
    refine fw_aload_n (i := 0) 0 rfl (show decode _ _ = .ok (.aload_n 0, 1) by decide +kernel) ?_
    obtain ⟨⟨hr12, n11, hs13⟩, h_8⟩ := h_7
    refine fw_getP (kd := 10) (k := 0) (show decode _ _ = .ok (.getfield 13, 3) by decide +kernel) gf_X10_13 hr12 hs13 rfl ?_
    have h_9 := dR_e h_8
    obtain ⟨y14, hy15, h_10⟩ := h_9
    refine fw_deref hy15 ?_
    refine fw_iload_n (i := 1) 1 rfl (show decode _ _ = .ok (.iload_n 1, 1) by decide +kernel) ?_
    obtain ⟨⟨hr18, n17, hs19⟩, h_11⟩ := h_10
    refine fw_callV (mt' := mtX5_wayOf) (mc := 0) (ms := 0) (As := [.int p1]) (rest := []) 1 5 n17 (show decode _ _ = .ok (.invokevirtual 169, 3) by decide +kernel) cv_X10_169 ⟨_, rfl, rfl⟩ hr18 hs19 rfl (Nat.le_of_ble_eq_true rfl) (s_X5_wayOf (d := d) (hd_le hd (by decide)) h_11) (by decide) (by decide) (kI (bc' := 0) (bs' := 0) (by decide) (by decide) (fun x20 M16 h_12 => ?_))
    refine fw_goto 22 (show decode _ _ = .ok (.goto 4, 3) by decide +kernel) (by decide) ?_
    exact fw_ret (v := some (.int x20)) .ireturn (show decode _ _ = .ok (.ireturn, 1) by decide +kernel) ⟨rfl, Or.inl rfl⟩ ⟨_, rfl, h_12⟩
