def j_X11_clause_58 (φ : Int32 → fM → Prop) (p0 : Nat) (p1 : Int32) (M : fM) : Prop := isO M p0 11 ∧ st (wI M p0 20 p1) fun M4 => w_X11_nextToken p0 M4 fun M6 => isO M6 p0 11 ∧ nm (((mI M6 p0 12) + (1 : Int32)) + ((4 : Int32) * (mI M6 p0 13))) fun x10 => dR (mP M6 p0 2) fun y12 => 6 ≤ y12 ∧ inA M6 y12 12 x10 ∧ st (wI M6 y12 (ix x10) p1) fun M18 => w_X11_body p0 p1 x10 M18 fun x21 M20 => iF (x21 = 0) (isO M20 p0 11 ∧ nm ((mI M20 p0 13) + (1 : Int32)) fun x25 => st (wI M20 p0 13 x25) fun M27 => iF ((mI M27 p0 9) = (59 : Int32)) (w_X11_nextToken p0 M27 fun M29 => φ (0 : Int32) M29) (φ (1 : Int32) M27)) (φ x21 M20)
set_option maxRecDepth 100000 in
theorem sj_X11_clause_58 {g : GT} {d : Nat} (hd : 9 ≤ d + 1) {φ : Int32 → fM → Prop} {p0 : Nat} {p1 : Int32} {M : fM} (h : j_X11_clause_58 φ p0 p1 M) : FW g mtX11_clause (d + 1) 58 [(0, .ref p0), (1, .int p1)] [] M 0 0 (rI φ) := by
  unfold j_X11_clause_58 at h
  refine fw_aload_n (i := 0) 0 rfl (show decode _ _ = .ok (.aload_n 0, 1) by decide +kernel) ?_
  refine fw_iload_n (i := 1) 1 rfl (show decode _ _ = .ok (.iload_n 1, 1) by decide +kernel) ?_
  obtain ⟨⟨hr2, n1, hs3⟩, h_1⟩ := h
  refine fw_putI (kd := 11) (k := 20) (show decode _ _ = .ok (.putfield 149, 3) by decide +kernel) ⟨gf_X11_149, _, rfl, Or.inl rfl⟩ hr2 hs3 rfl ?_
  refine FW.nmM (fun M4 eM5 => ?_)
  have h_2 := h_1 M4 eM5
  refine fw_aload_n (i := 0) 0 rfl (show decode _ _ = .ok (.aload_n 0, 1) by decide +kernel) ?_
  refine fw_callV (mt' := mtX11_nextToken) (mc := 0) (ms := 0) (As := []) (rest := []) 0 11 n1 (show decode _ _ = .ok (.invokevirtual 179, 3) by decide +kernel) cv_X11_179 ⟨_, rfl, rfl⟩ hr2 (mSw_I eM5 hs3) rfl (Nat.le_of_ble_eq_true rfl) (s_X11_nextToken (d := d) (hd_le hd (by decide)) h_2) (by decide) (by decide) (kV (bc' := 0) (bs' := 0) (by decide) (by decide) (fun M6 h_3 => ?_))
  refine fw_aload_n (i := 0) 0 rfl (show decode _ _ = .ok (.aload_n 0, 1) by decide +kernel) ?_
  obtain ⟨⟨hr8, n7, hs9⟩, h_4⟩ := h_3
  refine fw_getI (kd := 11) (k := 12) (show decode _ _ = .ok (.getfield 132, 3) by decide +kernel) gf_X11_132 hr8 hs9 (Or.inl rfl) ?_
  refine fw_iconst (v := (1 : Int32)) (show decode _ _ = .ok (.iconst 1, 1) by decide +kernel) (by decide) ?_
  refine fw_iadd (show decode _ _ = .ok (.iadd, 1) by decide +kernel) ?_
  refine fw_iconst (v := (4 : Int32)) (show decode _ _ = .ok (.iconst 4, 1) by decide +kernel) (by decide) ?_
  refine fw_aload_n (i := 0) 0 rfl (show decode _ _ = .ok (.aload_n 0, 1) by decide +kernel) ?_
  refine fw_getI (kd := 11) (k := 13) (show decode _ _ = .ok (.getfield 259, 3) by decide +kernel) gf_X11_259 hr8 hs9 (Or.inl rfl) ?_
  refine fw_imul (show decode _ _ = .ok (.imul, 1) by decide +kernel) ?_
  refine fw_iadd (show decode _ _ = .ok (.iadd, 1) by decide +kernel) ?_
  refine fw_nmI (fun x10 ex11 => ?_)
  have h_5 := h_4 x10 ex11
  refine fw_istore_n (i := 2) (ls' := [(2, .int x10), (0, .ref p0), (1, .int p1)]) (show decode _ _ = .ok (.istore_n 2, 1) by decide +kernel) (by decide) rfl ?_
  refine fw_aload_n (i := 0) 1 rfl (show decode _ _ = .ok (.aload_n 0, 1) by decide +kernel) ?_
  refine fw_getP (kd := 11) (k := 2) (show decode _ _ = .ok (.getfield 16, 3) by decide +kernel) gf_X11_16 hr8 hs9 rfl ?_
  have h_6 := dR_e h_5
  obtain ⟨y12, hy13, h_7⟩ := h_6
  refine fw_deref hy13 ?_
  refine fw_iload_n (i := 2) 0 rfl (show decode _ _ = .ok (.iload_n 2, 1) by decide +kernel) ?_
  refine fw_iload_n (i := 1) 2 rfl (show decode _ _ = .ok (.iload_n 1, 1) by decide +kernel) ?_
  obtain ⟨hr17, ⟨n14, hs15, hi16⟩, h_8⟩ := h_7
  refine fw_iast (show decode _ _ = .ok (.iastore, 1) by decide +kernel) hr17 hs15 hi16 ?_
  refine FW.nmM (fun M18 eM19 => ?_)
  have h_9 := h_8 M18 eM19
  refine fw_aload_n (i := 0) 1 rfl (show decode _ _ = .ok (.aload_n 0, 1) by decide +kernel) ?_
  refine fw_iload_n (i := 1) 2 rfl (show decode _ _ = .ok (.iload_n 1, 1) by decide +kernel) ?_
  refine fw_iload_n (i := 2) 0 rfl (show decode _ _ = .ok (.iload_n 2, 1) by decide +kernel) ?_
  refine fw_callV (mt' := mtX11_body) (mc := 0) (ms := 0) (As := [.int p1, .int x10]) (rest := []) 2 11 n7 (show decode _ _ = .ok (.invokevirtual 262, 3) by decide +kernel) cv_X11_262 ⟨_, rfl, rfl⟩ hr8 (mSw_I eM19 hs9) rfl (Nat.le_of_ble_eq_true rfl) (s_X11_body (d := d) (hd_le hd (by decide)) h_9) (by decide) (by decide) (kI (bc' := 0) (bs' := 0) (by decide) (by decide) (fun x21 M20 h_10 => ?_))
  refine fw_istore_n (i := 3) (ls' := [(3, .int x21), (2, .int x10), (0, .ref p0), (1, .int p1)]) (show decode _ _ = .ok (.istore_n 3, 1) by decide +kernel) (by decide) rfl ?_
  refine fw_iload_n (i := 3) 0 rfl (show decode _ _ = .ok (.iload_n 3, 1) by decide +kernel) ?_
  refine fw_if_eq 101 (show decode _ _ = .ok (.ifCond .eq 5, 3) by decide +kernel) (by decide) (fun hc31 => ?_) (fun hc31 => ?_)
  · have h_11 := ipos hc31 h_10
    refine fw_aload_n (i := 0) 2 rfl (show decode _ _ = .ok (.aload_n 0, 1) by decide +kernel) ?_
    refine fw_dup (show decode _ _ = .ok (.dup, 1) by decide +kernel) rfl ?_
    obtain ⟨⟨hr23, n22, hs24⟩, h_12⟩ := h_11
    refine fw_getI (kd := 11) (k := 13) (show decode _ _ = .ok (.getfield 259, 3) by decide +kernel) gf_X11_259 hr23 hs24 (Or.inl rfl) ?_
    refine fw_iconst (v := (1 : Int32)) (show decode _ _ = .ok (.iconst 1, 1) by decide +kernel) (by decide) ?_
    refine fw_iadd (show decode _ _ = .ok (.iadd, 1) by decide +kernel) ?_
    refine fw_nmI (fun x25 ex26 => ?_)
    have h_13 := h_12 x25 ex26
    refine fw_putI (kd := 11) (k := 13) (show decode _ _ = .ok (.putfield 259, 3) by decide +kernel) ⟨gf_X11_259, _, rfl, Or.inl rfl⟩ hr23 hs24 rfl ?_
    refine FW.nmM (fun M27 eM28 => ?_)
    have h_14 := h_13 M27 eM28
    refine fw_aload_n (i := 0) 2 rfl (show decode _ _ = .ok (.aload_n 0, 1) by decide +kernel) ?_
    refine fw_getI (kd := 11) (k := 9) (show decode _ _ = .ok (.getfield 107, 3) by decide +kernel) gf_X11_107 hr23 (mSw_I eM28 hs24) (Or.inl rfl) ?_
    refine fw_bipush (v := (59 : Int32)) (show decode _ _ = .ok (.bipush 59, 2) by decide +kernel) (by decide) ?_
    refine fw_icmp_eq 122 (show decode _ _ = .ok (.if_icmp .eq 5, 3) by decide +kernel) (by decide) (fun hc30 => ?_) (fun hc30 => ?_)
    · have h_15 := ipos hc30 h_14
      refine fw_aload_n (i := 0) 2 rfl (show decode _ _ = .ok (.aload_n 0, 1) by decide +kernel) ?_
      refine fw_callV (mt' := mtX11_nextToken) (mc := 0) (ms := 0) (As := []) (rest := []) 0 11 n22 (show decode _ _ = .ok (.invokevirtual 179, 3) by decide +kernel) cv_X11_179 ⟨_, rfl, rfl⟩ hr23 (mSw_I eM28 hs24) rfl (Nat.le_of_ble_eq_true rfl) (s_X11_nextToken (d := d) (hd_le hd (by decide)) h_15) (by decide) (by decide) (kV (bc' := 0) (bs' := 0) (by decide) (by decide) (fun M29 h_16 => ?_))
      refine fw_iconst (v := (0 : Int32)) (show decode _ _ = .ok (.iconst 0, 1) by decide +kernel) (by decide) ?_
      exact fw_ret (v := some (.int (0 : Int32))) .ireturn (show decode _ _ = .ok (.ireturn, 1) by decide +kernel) ⟨rfl, Or.inl rfl⟩ ⟨_, rfl, h_16⟩
    · have h_17 := ineg hc30 h_14
      refine fw_iconst (v := (1 : Int32)) (show decode _ _ = .ok (.iconst 1, 1) by decide +kernel) (by decide) ?_
      exact fw_ret (v := some (.int (1 : Int32))) .ireturn (show decode _ _ = .ok (.ireturn, 1) by decide +kernel) ⟨rfl, Or.inl rfl⟩ ⟨_, rfl, h_17⟩
  · have h_18 := ineg hc31 h_10
    refine fw_iload_n (i := 3) 0 rfl (show decode _ _ = .ok (.iload_n 3, 1) by decide +kernel) ?_
    exact fw_ret (v := some (.int x21)) .ireturn (show decode _ _ = .ok (.ireturn, 1) by decide +kernel) ⟨rfl, Or.inl rfl⟩ ⟨_, rfl, h_18⟩
def j_X11_clause_29 (φ : Int32 → fM → Prop) (p0 : Nat) (p1 : Int32) (M : fM) : Prop := isO M p0 11 ∧ iF ((mI M p0 13) = (24 : Int32)) (φ (6 : Int32) M) (iF ((4 : Int32) < p1) (j_X11_clause_58 φ p0 p1 M) (nm ((mI M p0 15) ||| ((1 : Int32) <<< (p1 &&& 31))) fun x35 => st (wI M p0 15 x35) fun M37 => j_X11_clause_58 φ p0 p1 M37))
set_option maxRecDepth 100000 in
theorem sj_X11_clause_29 {g : GT} {d : Nat} (hd : 9 ≤ d + 1) {φ : Int32 → fM → Prop} {p0 : Nat} {p1 : Int32} {M : fM} (h : j_X11_clause_29 φ p0 p1 M) : FW g mtX11_clause (d + 1) 29 [(0, .ref p0), (1, .int p1)] [] M 0 0 (rI φ) := by
  unfold j_X11_clause_29 at h
  refine fw_aload_n (i := 0) 0 rfl (show decode _ _ = .ok (.aload_n 0, 1) by decide +kernel) ?_
  obtain ⟨⟨hr33, n32, hs34⟩, h_1⟩ := h
  refine fw_getI (kd := 11) (k := 13) (show decode _ _ = .ok (.getfield 259, 3) by decide +kernel) gf_X11_259 hr33 hs34 (Or.inl rfl) ?_
  refine fw_bipush (v := (24 : Int32)) (show decode _ _ = .ok (.bipush 24, 2) by decide +kernel) (by decide) ?_
  refine fw_icmp_ne 41 (show decode _ _ = .ok (.if_icmp .ne 6, 3) by decide +kernel) (by decide) (fun hc40 => ?_) (fun hc40 => ?_)
  · have h_2 := ineg hc40 h_1
    refine fw_iload_n (i := 1) 1 rfl (show decode _ _ = .ok (.iload_n 1, 1) by decide +kernel) ?_
    refine fw_iconst (v := (4 : Int32)) (show decode _ _ = .ok (.iconst 4, 1) by decide +kernel) (by decide) ?_
    refine fw_icmp_gt 58 (show decode _ _ = .ok (.if_icmp .gt 15, 3) by decide +kernel) (by decide) (fun hc39 => ?_) (fun hc39 => ?_)
    · have h_3 := ipos hc39 h_2
      refine FW.sub [0, 1] (ls' := [(0, .ref p0), (1, .int p1)]) rfl ?_
      exact sj_X11_clause_58 hd h_3
    · have h_4 := ineg hc39 h_2
      refine fw_aload_n (i := 0) 0 rfl (show decode _ _ = .ok (.aload_n 0, 1) by decide +kernel) ?_
      refine fw_dup (show decode _ _ = .ok (.dup, 1) by decide +kernel) rfl ?_
      refine fw_getI (kd := 11) (k := 15) (show decode _ _ = .ok (.getfield 256, 3) by decide +kernel) gf_X11_256 hr33 hs34 (Or.inl rfl) ?_
      refine fw_iconst (v := (1 : Int32)) (show decode _ _ = .ok (.iconst 1, 1) by decide +kernel) (by decide) ?_
      refine fw_iload_n (i := 1) 1 rfl (show decode _ _ = .ok (.iload_n 1, 1) by decide +kernel) ?_
      refine fw_ishl (show decode _ _ = .ok (.ishl, 1) by decide +kernel) ?_
      refine fw_ior (show decode _ _ = .ok (.ior, 1) by decide +kernel) ?_
      refine fw_nmI (fun x35 ex36 => ?_)
      have h_5 := h_4 x35 ex36
      refine fw_putI (kd := 11) (k := 15) (show decode _ _ = .ok (.putfield 256, 3) by decide +kernel) ⟨gf_X11_256, _, rfl, Or.inl rfl⟩ hr33 hs34 rfl ?_
      refine FW.nmM (fun M37 eM38 => ?_)
      have h_6 := h_5 M37 eM38
      refine FW.sub [0, 1] (ls' := [(0, .ref p0), (1, .int p1)]) rfl ?_
      exact sj_X11_clause_58 hd h_6
  · have h_7 := ipos hc40 h_1
    refine fw_bipush (v := (6 : Int32)) (show decode _ _ = .ok (.bipush 6, 2) by decide +kernel) (by decide) ?_
    exact fw_ret (v := some (.int (6 : Int32))) .ireturn (show decode _ _ = .ok (.ireturn, 1) by decide +kernel) ⟨rfl, Or.inl rfl⟩ ⟨_, rfl, h_7⟩
def w_X11_clause (p0 : Nat) (M : fM) (φ : Int32 → fM → Prop) : Prop := isO M p0 11 ∧ w_X11_sortOf p0 M fun x45 M41 => iF (0 ≤ x45) (iF ((4 : Int32) < x45) (j_X11_clause_29 φ p0 x45 M41) (isO M41 p0 11 ∧ w_X11_has (mI M41 p0 15) x45 M41 fun x50 M49 => iF (x50 = 0) (j_X11_clause_29 φ p0 x45 M49) (φ (4 : Int32) M49))) (φ (1 : Int32) M41)
set_option maxRecDepth 100000 in
theorem s_X11_clause {g : GT} {d : Nat} (hd : 9 ≤ d) {p0 : Nat} {M : fM} {φ : Int32 → fM → Prop} (h : w_X11_clause p0 M φ) : FC g mtX11_clause d [.ref p0] M 0 0 (rI φ) := by
  obtain ⟨d, rfl⟩ : ∃ e, d = e + 1 := ⟨d - 1, by omega⟩
  unfold w_X11_clause at h
  refine FC.intro (nL := 4) (by decide) rfl (Nat.le_of_ble_eq_true rfl) ?_
  show FW g mtX11_clause (d + 1) 0 [(0, .ref p0)] [] M 0 0 (rI φ)
  refine fw_aload_n (i := 0) 0 rfl (show decode _ _ = .ok (.aload_n 0, 1) by decide +kernel) ?_
  obtain ⟨⟨hr43, n42, hs44⟩, h_1⟩ := h
  refine fw_callV (mt' := mtX11_sortOf) (mc := 0) (ms := 0) (As := []) (rest := []) 0 11 n42 (show decode _ _ = .ok (.invokevirtual 253, 3) by decide +kernel) cv_X11_253 ⟨_, rfl, rfl⟩ hr43 hs44 rfl (Nat.le_of_ble_eq_true rfl) (s_X11_sortOf (d := d) (hd_le hd (by decide)) h_1) (by decide) (by decide) (kI (bc' := 0) (bs' := 0) (by decide) (by decide) (fun x45 M41 h_2 => ?_))
  refine fw_istore_n (i := 1) (ls' := [(1, .int x45), (0, .ref p0)]) (show decode _ _ = .ok (.istore_n 1, 1) by decide +kernel) (by decide) rfl ?_
  refine fw_iload_n (i := 1) 0 rfl (show decode _ _ = .ok (.iload_n 1, 1) by decide +kernel) ?_
  refine fw_if_ge 11 (show decode _ _ = .ok (.ifCond .ge 5, 3) by decide +kernel) (by decide) (fun hc53 => ?_) (fun hc53 => ?_)
  · have h_3 := ipos hc53 h_2
    refine fw_iload_n (i := 1) 0 rfl (show decode _ _ = .ok (.iload_n 1, 1) by decide +kernel) ?_
    refine fw_iconst (v := (4 : Int32)) (show decode _ _ = .ok (.iconst 4, 1) by decide +kernel) (by decide) ?_
    refine fw_icmp_gt 29 (show decode _ _ = .ok (.if_icmp .gt 16, 3) by decide +kernel) (by decide) (fun hc52 => ?_) (fun hc52 => ?_)
    · have h_4 := ipos hc52 h_3
      refine FW.sub [1, 0] (ls' := [(0, .ref p0), (1, .int x45)]) rfl ?_
      exact sj_X11_clause_29 hd h_4
    · have h_5 := ineg hc52 h_3
      refine fw_aload_n (i := 0) 1 rfl (show decode _ _ = .ok (.aload_n 0, 1) by decide +kernel) ?_
      obtain ⟨⟨hr47, n46, hs48⟩, h_6⟩ := h_5
      refine fw_getI (kd := 11) (k := 15) (show decode _ _ = .ok (.getfield 256, 3) by decide +kernel) gf_X11_256 hr47 hs48 (Or.inl rfl) ?_
      refine fw_iload_n (i := 1) 0 rfl (show decode _ _ = .ok (.iload_n 1, 1) by decide +kernel) ?_
      refine fw_callS (mt' := mtX11_has) (mc := 0) (ms := 0) (As := [.int (mI M41 p0 15), .int x45]) (rest := []) 2 (show decode _ _ = .ok (.invokestatic 88, 3) by decide +kernel) cs_X11_88 rfl (Nat.le_of_ble_eq_true rfl) (s_X11_has (d := d) (hd_le hd (by decide)) h_6) (by decide) (by decide) (kI (bc' := 0) (bs' := 0) (by decide) (by decide) (fun x50 M49 h_7 => ?_))
      refine fw_if_eq 29 (show decode _ _ = .ok (.ifCond .eq 5, 3) by decide +kernel) (by decide) (fun hc51 => ?_) (fun hc51 => ?_)
      · have h_8 := ipos hc51 h_7
        refine FW.sub [1, 0] (ls' := [(0, .ref p0), (1, .int x45)]) rfl ?_
        exact sj_X11_clause_29 hd h_8
      · have h_9 := ineg hc51 h_7
        refine fw_iconst (v := (4 : Int32)) (show decode _ _ = .ok (.iconst 4, 1) by decide +kernel) (by decide) ?_
        exact fw_ret (v := some (.int (4 : Int32))) .ireturn (show decode _ _ = .ok (.ireturn, 1) by decide +kernel) ⟨rfl, Or.inl rfl⟩ ⟨_, rfl, h_9⟩
  · have h_10 := ineg hc53 h_2
    refine fw_iconst (v := (1 : Int32)) (show decode _ _ = .ok (.iconst 1, 1) by decide +kernel) (by decide) ?_
    exact fw_ret (v := some (.int (1 : Int32))) .ireturn (show decode _ _ = .ok (.ireturn, 1) by decide +kernel) ⟨rfl, Or.inl rfl⟩ ⟨_, rfl, h_10⟩
def w_X11_cost (p0 : Nat) (p1 : Int32) (p2 : Int32) (p3 : Int32) (p4 : Int32) (p5 : Int32) (M : fM) (φ : Int64 → fM → Prop) : Prop := isO M p0 11 ∧ w_X11_isMind p0 p1 p2 p3 M fun x5 M1 => iF (x5 = 0) (φ (-1 : Int64) M1) (w_X11_isIn p4 (0 : Int32) (30 : Int32) M1 fun x7 M6 => iF (x7 = 0) (φ (-1 : Int64) M6) (isO M6 p0 11 ∧ w_X11_reckon p0 p1 p2 p3 p4 (0 : Int32) M6 fun M8 => isO M8 p0 11 ∧ w_X11_stepsOf p0 p2 M8 fun x16 M15 => w_X11_tenTo (x16 + (1 : Int32)) M15 fun x18 M17 => w_X11_part (mJ M8 p0 25) x18 p5 M17 fun x20 M19 => φ x20 M19))
set_option maxRecDepth 100000 in
theorem s_X11_cost {g : GT} {d : Nat} (hd : 8 ≤ d) {p0 : Nat} {p1 : Int32} {p2 : Int32} {p3 : Int32} {p4 : Int32} {p5 : Int32} {M : fM} {φ : Int64 → fM → Prop} (h : w_X11_cost p0 p1 p2 p3 p4 p5 M φ) : FC g mtX11_cost d [.ref p0, .int p1, .int p2, .int p3, .int p4, .int p5] M 0 0 (rJ φ) := by
  obtain ⟨d, rfl⟩ : ∃ e, d = e + 1 := ⟨d - 1, by omega⟩
  unfold w_X11_cost at h
  refine FC.intro (nL := 6) (by decide) rfl (Nat.le_of_ble_eq_true rfl) ?_
  show FW g mtX11_cost (d + 1) 0 [(0, .ref p0), (1, .int p1), (2, .int p2), (3, .int p3), (4, .int p4), (5, .int p5)] [] M 0 0 (rJ φ)
  refine fw_aload_n (i := 0) 0 rfl (show decode _ _ = .ok (.aload_n 0, 1) by decide +kernel) ?_
  refine fw_iload_n (i := 1) 1 rfl (show decode _ _ = .ok (.iload_n 1, 1) by decide +kernel) ?_
  refine fw_iload_n (i := 2) 2 rfl (show decode _ _ = .ok (.iload_n 2, 1) by decide +kernel) ?_
  refine fw_iload_n (i := 3) 3 rfl (show decode _ _ = .ok (.iload_n 3, 1) by decide +kernel) ?_
  obtain ⟨⟨hr3, n2, hs4⟩, h_1⟩ := h
  refine fw_callV (mt' := mtX11_isMind) (mc := 0) (ms := 0) (As := [.int p1, .int p2, .int p3]) (rest := []) 3 11 n2 (show decode _ _ = .ok (.invokevirtual 325, 3) by decide +kernel) cv_X11_325 ⟨_, rfl, rfl⟩ hr3 hs4 rfl (Nat.le_of_ble_eq_true rfl) (s_X11_isMind (d := d) (hd_le hd (by decide)) h_1) (by decide) (by decide) (kI (bc' := 0) (bs' := 0) (by decide) (by decide) (fun x5 M1 h_2 => ?_))
  refine fw_if_eq 21 (show decode _ _ = .ok (.ifCond .eq 14, 3) by decide +kernel) (by decide) (fun hc22 => ?_) (fun hc22 => ?_)
  · have h_3 := ipos hc22 h_2
    refine fw_ldc2 (idx := 432) (v := (-1 : Int64)) (show decode _ _ = .ok (.ldc2_w 432, 3) by decide +kernel) wd1897 ?_
    exact fw_ret (v := some (.long (-1 : Int64))) .lreturn (show decode _ _ = .ok (.lreturn, 1) by decide +kernel) ⟨rfl, rfl⟩ ⟨_, rfl, h_3⟩
  · have h_4 := ineg hc22 h_2
    refine fw_iload (i := 4) 4 rfl (show decode _ _ = .ok (.iload 4, 2) by decide +kernel) ?_
    refine fw_iconst (v := (0 : Int32)) (show decode _ _ = .ok (.iconst 0, 1) by decide +kernel) (by decide) ?_
    refine fw_bipush (v := (30 : Int32)) (show decode _ _ = .ok (.bipush 30, 2) by decide +kernel) (by decide) ?_
    refine fw_callS (mt' := mtX11_isIn) (mc := 0) (ms := 0) (As := [.int p4, .int (0 : Int32), .int (30 : Int32)]) (rest := []) 3 (show decode _ _ = .ok (.invokestatic 66, 3) by decide +kernel) cs_X11_66 rfl (Nat.le_of_ble_eq_true rfl) (s_X11_isIn (d := d) (hd_le hd (by decide)) h_4) (by decide) (by decide) (kI (bc' := 0) (bs' := 0) (by decide) (by decide) (fun x7 M6 h_5 => ?_))
    refine fw_if_ne 25 (show decode _ _ = .ok (.ifCond .ne 7, 3) by decide +kernel) (by decide) (fun hc21 => ?_) (fun hc21 => ?_)
    · have h_6 := ineg hc21 h_5
      refine fw_aload_n (i := 0) 0 rfl (show decode _ _ = .ok (.aload_n 0, 1) by decide +kernel) ?_
      refine fw_iload_n (i := 1) 1 rfl (show decode _ _ = .ok (.iload_n 1, 1) by decide +kernel) ?_
      refine fw_iload_n (i := 2) 2 rfl (show decode _ _ = .ok (.iload_n 2, 1) by decide +kernel) ?_
      refine fw_iload_n (i := 3) 3 rfl (show decode _ _ = .ok (.iload_n 3, 1) by decide +kernel) ?_
      refine fw_iload (i := 4) 4 rfl (show decode _ _ = .ok (.iload 4, 2) by decide +kernel) ?_
      refine fw_iconst (v := (0 : Int32)) (show decode _ _ = .ok (.iconst 0, 1) by decide +kernel) (by decide) ?_
      obtain ⟨⟨hr10, n9, hs11⟩, h_7⟩ := h_6
      refine fw_callV (mt' := mtX11_reckon) (mc := 0) (ms := 0) (As := [.int p1, .int p2, .int p3, .int p4, .int (0 : Int32)]) (rest := []) 5 11 n9 (show decode _ _ = .ok (.invokevirtual 441, 3) by decide +kernel) cv_X11_441 ⟨_, rfl, rfl⟩ hr10 hs11 rfl (Nat.le_of_ble_eq_true rfl) (s_X11_reckon (d := d) (hd_le hd (by decide)) h_7) (by decide) (by decide) (kV (bc' := 0) (bs' := 0) (by decide) (by decide) (fun M8 h_8 => ?_))
      refine fw_aload_n (i := 0) 0 rfl (show decode _ _ = .ok (.aload_n 0, 1) by decide +kernel) ?_
      obtain ⟨⟨hr13, n12, hs14⟩, h_9⟩ := h_8
      refine fw_getJ (kd := 11) (k := 25) (show decode _ _ = .ok (.getfield 422, 3) by decide +kernel) gf_X11_422 hr13 hs14 rfl ?_
      refine fw_aload_n (i := 0) 0 rfl (show decode _ _ = .ok (.aload_n 0, 1) by decide +kernel) ?_
      refine fw_iload_n (i := 2) 2 rfl (show decode _ _ = .ok (.iload_n 2, 1) by decide +kernel) ?_
      refine fw_callV (mt' := mtX11_stepsOf) (mc := 0) (ms := 0) (As := [.int p2]) (rest := [.long (mJ M8 p0 25)]) 1 11 n12 (show decode _ _ = .ok (.invokevirtual 74, 3) by decide +kernel) cv_X11_74 ⟨_, rfl, rfl⟩ hr13 hs14 rfl (Nat.le_of_ble_eq_true rfl) (s_X11_stepsOf (d := d) (hd_le hd (by decide)) h_9) (by decide) (by decide) (kI (bc' := 0) (bs' := 0) (by decide) (by decide) (fun x16 M15 h_10 => ?_))
      refine fw_iconst (v := (1 : Int32)) (show decode _ _ = .ok (.iconst 1, 1) by decide +kernel) (by decide) ?_
      refine fw_iadd (show decode _ _ = .ok (.iadd, 1) by decide +kernel) ?_
      refine fw_callS (mt' := mtX11_tenTo) (mc := 0) (ms := 0) (As := [.int (x16 + (1 : Int32))]) (rest := [.long (mJ M8 p0 25)]) 1 (show decode _ _ = .ok (.invokestatic 428, 3) by decide +kernel) cs_X11_428 rfl (Nat.le_of_ble_eq_true rfl) (s_X11_tenTo (d := d) (hd_le hd (by decide)) h_10) (by decide) (by decide) (kJ (bc' := 0) (bs' := 0) (by decide) (by decide) (fun x18 M17 h_11 => ?_))
      refine fw_iload (i := 5) 5 rfl (show decode _ _ = .ok (.iload 5, 2) by decide +kernel) ?_
      refine fw_callS (mt' := mtX11_part) (mc := 0) (ms := 0) (As := [.long (mJ M8 p0 25), .long x18, .int p5]) (rest := []) 3 (show decode _ _ = .ok (.invokestatic 437, 3) by decide +kernel) cs_X11_437 rfl (Nat.le_of_ble_eq_true rfl) (s_X11_part (d := d) (hd_le hd (by decide)) h_11) (by decide) (by decide) (kJ (bc' := 0) (bs' := 0) (by decide) (by decide) (fun x20 M19 h_12 => ?_))
      exact fw_ret (v := some (.long x20)) .lreturn (show decode _ _ = .ok (.lreturn, 1) by decide +kernel) ⟨rfl, rfl⟩ ⟨_, rfl, h_12⟩
    · have h_13 := ipos hc21 h_5
      refine fw_ldc2 (idx := 432) (v := (-1 : Int64)) (show decode _ _ = .ok (.ldc2_w 432, 3) by decide +kernel) wd1897 ?_
      exact fw_ret (v := some (.long (-1 : Int64))) .lreturn (show decode _ _ = .ok (.lreturn, 1) by decide +kernel) ⟨rfl, rfl⟩ ⟨_, rfl, h_13⟩
def w_X11_end (p0 : Nat) (p1 : Int32) (M : fM) (φ : Int32 → fM → Prop) : Prop := iF (p1 < 0) (φ (-1 : Int32) M) (isO M p0 11 ∧ iF (p1 ≤ (mI M p0 4)) (st (wI M p0 4 p1) fun M4 => φ p1 M4) (φ (-1 : Int32) M))
set_option maxRecDepth 100000 in
theorem s_X11_end {g : GT} {d : Nat} (hd : 1 ≤ d) {p0 : Nat} {p1 : Int32} {M : fM} {φ : Int32 → fM → Prop} (h : w_X11_end p0 p1 M φ) : FC g mtX11_end d [.ref p0, .int p1] M 0 0 (rI φ) := by
  obtain ⟨d, rfl⟩ : ∃ e, d = e + 1 := ⟨d - 1, by omega⟩
  unfold w_X11_end at h
  refine FC.intro (nL := 2) (by decide) rfl (Nat.le_of_ble_eq_true rfl) ?_
  show FW g mtX11_end (d + 1) 0 [(0, .ref p0), (1, .int p1)] [] M 0 0 (rI φ)
  refine fw_iload_n (i := 1) 1 rfl (show decode _ _ = .ok (.iload_n 1, 1) by decide +kernel) ?_
  refine fw_if_lt 12 (show decode _ _ = .ok (.ifCond .lt 11, 3) by decide +kernel) (by decide) (fun hc7 => ?_) (fun hc7 => ?_)
  · have h_1 := ipos hc7 h
    refine fw_iconst (v := (-1 : Int32)) (show decode _ _ = .ok (.iconst (-1), 1) by decide +kernel) (by decide) ?_
    exact fw_ret (v := some (.int (-1 : Int32))) .ireturn (show decode _ _ = .ok (.ireturn, 1) by decide +kernel) ⟨rfl, Or.inl rfl⟩ ⟨_, rfl, h_1⟩
  · have h_2 := ineg hc7 h
    refine fw_iload_n (i := 1) 1 rfl (show decode _ _ = .ok (.iload_n 1, 1) by decide +kernel) ?_
    refine fw_aload_n (i := 0) 0 rfl (show decode _ _ = .ok (.aload_n 0, 1) by decide +kernel) ?_
    obtain ⟨⟨hr2, n1, hs3⟩, h_3⟩ := h_2
    refine fw_getI (kd := 11) (k := 4) (show decode _ _ = .ok (.getfield 91, 3) by decide +kernel) gf_X11_91 hr2 hs3 (Or.inl rfl) ?_
    refine fw_icmp_le 14 (show decode _ _ = .ok (.if_icmp .le 5, 3) by decide +kernel) (by decide) (fun hc6 => ?_) (fun hc6 => ?_)
    · have h_4 := ipos hc6 h_3
      refine fw_aload_n (i := 0) 0 rfl (show decode _ _ = .ok (.aload_n 0, 1) by decide +kernel) ?_
      refine fw_iload_n (i := 1) 1 rfl (show decode _ _ = .ok (.iload_n 1, 1) by decide +kernel) ?_
      refine fw_putI (kd := 11) (k := 4) (show decode _ _ = .ok (.putfield 91, 3) by decide +kernel) ⟨gf_X11_91, _, rfl, Or.inl rfl⟩ hr2 hs3 rfl ?_
      refine FW.nmM (fun M4 eM5 => ?_)
      have h_5 := h_4 M4 eM5
      refine fw_iload_n (i := 1) 1 rfl (show decode _ _ = .ok (.iload_n 1, 1) by decide +kernel) ?_
      exact fw_ret (v := some (.int p1)) .ireturn (show decode _ _ = .ok (.ireturn, 1) by decide +kernel) ⟨rfl, Or.inl rfl⟩ ⟨_, rfl, h_5⟩
    · have h_6 := ineg hc6 h_3
      refine fw_iconst (v := (-1 : Int32)) (show decode _ _ = .ok (.iconst (-1), 1) by decide +kernel) (by decide) ?_
      exact fw_ret (v := some (.int (-1 : Int32))) .ireturn (show decode _ _ = .ok (.ireturn, 1) by decide +kernel) ⟨rfl, Or.inl rfl⟩ ⟨_, rfl, h_6⟩
def w_X11_fault (p0 : Nat) (p1 : Int32) (M : fM) (φ : Int32 → fM → Prop) : Prop := iF (p1 = 0) (isO M p0 11 ∧ φ (mI M p0 5) M) (iF (p1 = (1 : Int32)) (isO M p0 11 ∧ φ (mI M p0 6) M) (φ (-1 : Int32) M))
set_option maxRecDepth 100000 in
theorem s_X11_fault {g : GT} {d : Nat} (hd : 1 ≤ d) {p0 : Nat} {p1 : Int32} {M : fM} {φ : Int32 → fM → Prop} (h : w_X11_fault p0 p1 M φ) : FC g mtX11_fault d [.ref p0, .int p1] M 0 0 (rI φ) := by
  obtain ⟨d, rfl⟩ : ∃ e, d = e + 1 := ⟨d - 1, by omega⟩
  unfold w_X11_fault at h
  refine FC.intro (nL := 2) (by decide) rfl (Nat.le_of_ble_eq_true rfl) ?_
  show FW g mtX11_fault (d + 1) 0 [(0, .ref p0), (1, .int p1)] [] M 0 0 (rI φ)
  refine fw_iload_n (i := 1) 1 rfl (show decode _ _ = .ok (.iload_n 1, 1) by decide +kernel) ?_
  refine fw_if_ne 11 (show decode _ _ = .ok (.ifCond .ne 10, 3) by decide +kernel) (by decide) (fun hc8 => ?_) (fun hc8 => ?_)
  · have h_1 := ineg hc8 h
    refine fw_iload_n (i := 1) 1 rfl (show decode _ _ = .ok (.iload_n 1, 1) by decide +kernel) ?_
    refine fw_iconst (v := (1 : Int32)) (show decode _ _ = .ok (.iconst 1, 1) by decide +kernel) (by decide) ?_
    refine fw_icmp_ne 23 (show decode _ _ = .ok (.if_icmp .ne 10, 3) by decide +kernel) (by decide) (fun hc4 => ?_) (fun hc4 => ?_)
    · have h_2 := ineg hc4 h_1
      refine fw_iconst (v := (-1 : Int32)) (show decode _ _ = .ok (.iconst (-1), 1) by decide +kernel) (by decide) ?_
      exact fw_ret (v := some (.int (-1 : Int32))) .ireturn (show decode _ _ = .ok (.ireturn, 1) by decide +kernel) ⟨rfl, Or.inl rfl⟩ ⟨_, rfl, h_2⟩
    · have h_3 := ipos hc4 h_1
      refine fw_aload_n (i := 0) 0 rfl (show decode _ _ = .ok (.aload_n 0, 1) by decide +kernel) ?_
      obtain ⟨⟨hr2, n1, hs3⟩, h_4⟩ := h_3
      refine fw_getI (kd := 11) (k := 6) (show decode _ _ = .ok (.getfield 26, 3) by decide +kernel) gf_X11_26 hr2 hs3 (Or.inl rfl) ?_
      refine fw_goto 24 (show decode _ _ = .ok (.goto 4, 3) by decide +kernel) (by decide) ?_
      exact fw_ret (v := some (.int (mI M p0 6))) .ireturn (show decode _ _ = .ok (.ireturn, 1) by decide +kernel) ⟨rfl, Or.inl rfl⟩ ⟨_, rfl, h_4⟩
  · have h_5 := ipos hc8 h
    refine fw_aload_n (i := 0) 0 rfl (show decode _ _ = .ok (.aload_n 0, 1) by decide +kernel) ?_
    obtain ⟨⟨hr6, n5, hs7⟩, h_6⟩ := h_5
    refine fw_getI (kd := 11) (k := 5) (show decode _ _ = .ok (.getfield 22, 3) by decide +kernel) gf_X11_22 hr6 hs7 (Or.inl rfl) ?_
    refine fw_goto 24 (show decode _ _ = .ok (.goto 16, 3) by decide +kernel) (by decide) ?_
    exact fw_ret (v := some (.int (mI M p0 5))) .ireturn (show decode _ _ = .ok (.ireturn, 1) by decide +kernel) ⟨rfl, Or.inl rfl⟩ ⟨_, rfl, h_6⟩
def b_X11_four_2 (K2 : Nat → Int32 → Int32 → fM → Prop) (φ : fM → Prop) (p0 : Nat) (p1 : Int32) (p2 : Int32) (M : fM) : Prop := iF (p2 < 0) (φ M) (isO M p0 11 ∧ dR (mP M p0 3) fun y4 => nm ((p1 >>> (((8 : Int32) * p2) &&& 31)) &&& (255 : Int32)) fun x6 => 6 ≤ y4 ∧ inA M y4 12 (mI M p0 4) ∧ st (wI M y4 (ix (mI M p0 4)) x6) fun M12 => nm ((mI M12 p0 4) + (1 : Int32)) fun x14 => st (wI M12 p0 4 x14) fun M16 => nm (p2 + (-1 : Int32)) fun x18 => K2 p0 p1 x18 M16)
def l_X11_four_2 (φ : fM → Prop) : Nat → Nat → Int32 → Int32 → fM → Prop
  | 0, _, _, _, _ => False
  | n + 1, p0, p1, p2, M => b_X11_four_2 (l_X11_four_2 φ n) φ p0 p1 p2 M
set_option maxRecDepth 100000 in
theorem sb_X11_four_2 {g : GT} {d : Nat} (hd : 1 ≤ d + 1) {K2 : Nat → Int32 → Int32 → fM → Prop} {φ : fM → Prop} (hK2 : ∀ (p0 : Nat) (p1 : Int32) (p2 : Int32) (M : fM), K2 p0 p1 p2 M → FW g mtX11_four (d + 1) 2 [(0, .ref p0), (1, .int p1), (2, .int p2)] [] M 0 0 (rV φ)) {p0 : Nat} {p1 : Int32} {p2 : Int32} {M : fM} (h : b_X11_four_2 K2 φ p0 p1 p2 M) : FW g mtX11_four (d + 1) 2 [(0, .ref p0), (1, .int p1), (2, .int p2)] [] M 0 0 (rV φ) := by
  unfold b_X11_four_2 at h
  refine fw_iload_n (i := 2) 2 rfl (show decode _ _ = .ok (.iload_n 2, 1) by decide +kernel) ?_
  refine fw_if_lt 41 (show decode _ _ = .ok (.ifCond .lt 38, 3) by decide +kernel) (by decide) (fun hc20 => ?_) (fun hc20 => ?_)
  · have h_1 := ipos hc20 h
    exact fw_ret (v := none) .return_ (show decode _ _ = .ok (.return_, 1) by decide +kernel) ⟨rfl, rfl⟩ ⟨rfl, h_1⟩
  · have h_2 := ineg hc20 h
    refine fw_aload_n (i := 0) 0 rfl (show decode _ _ = .ok (.aload_n 0, 1) by decide +kernel) ?_
    obtain ⟨⟨hr2, n1, hs3⟩, h_3⟩ := h_2
    refine fw_getP (kd := 11) (k := 3) (show decode _ _ = .ok (.getfield 19, 3) by decide +kernel) gf_X11_19 hr2 hs3 rfl ?_
    have h_4 := dR_e h_3
    obtain ⟨y4, hy5, h_5⟩ := h_4
    refine fw_deref hy5 ?_
    refine fw_aload_n (i := 0) 0 rfl (show decode _ _ = .ok (.aload_n 0, 1) by decide +kernel) ?_
    refine fw_getI (kd := 11) (k := 4) (show decode _ _ = .ok (.getfield 91, 3) by decide +kernel) gf_X11_91 hr2 hs3 (Or.inl rfl) ?_
    refine fw_iload_n (i := 1) 1 rfl (show decode _ _ = .ok (.iload_n 1, 1) by decide +kernel) ?_
    refine fw_bipush (v := (8 : Int32)) (show decode _ _ = .ok (.bipush 8, 2) by decide +kernel) (by decide) ?_
    refine fw_iload_n (i := 2) 2 rfl (show decode _ _ = .ok (.iload_n 2, 1) by decide +kernel) ?_
    refine fw_imul (show decode _ _ = .ok (.imul, 1) by decide +kernel) ?_
    refine fw_ishr (show decode _ _ = .ok (.ishr, 1) by decide +kernel) ?_
    refine fw_sipush (v := (255 : Int32)) (show decode _ _ = .ok (.sipush 255, 3) by decide +kernel) (by decide) ?_
    refine fw_iand (show decode _ _ = .ok (.iand, 1) by decide +kernel) ?_
    refine fw_nmI (fun x6 ex7 => ?_)
    have h_6 := h_5 x6 ex7
    obtain ⟨hr11, ⟨n8, hs9, hi10⟩, h_7⟩ := h_6
    refine fw_iast (show decode _ _ = .ok (.iastore, 1) by decide +kernel) hr11 hs9 hi10 ?_
    refine FW.nmM (fun M12 eM13 => ?_)
    have h_8 := h_7 M12 eM13
    refine fw_aload_n (i := 0) 0 rfl (show decode _ _ = .ok (.aload_n 0, 1) by decide +kernel) ?_
    refine fw_dup (show decode _ _ = .ok (.dup, 1) by decide +kernel) rfl ?_
    refine fw_getI (kd := 11) (k := 4) (show decode _ _ = .ok (.getfield 91, 3) by decide +kernel) gf_X11_91 hr2 (mSw_I eM13 hs3) (Or.inl rfl) ?_
    refine fw_iconst (v := (1 : Int32)) (show decode _ _ = .ok (.iconst 1, 1) by decide +kernel) (by decide) ?_
    refine fw_iadd (show decode _ _ = .ok (.iadd, 1) by decide +kernel) ?_
    refine fw_nmI (fun x14 ex15 => ?_)
    have h_9 := h_8 x14 ex15
    refine fw_putI (kd := 11) (k := 4) (show decode _ _ = .ok (.putfield 91, 3) by decide +kernel) ⟨gf_X11_91, _, rfl, Or.inl rfl⟩ hr2 (mSw_I eM13 hs3) rfl ?_
    refine FW.nmM (fun M16 eM17 => ?_)
    have h_10 := h_9 M16 eM17
    obtain ⟨x18, ex19⟩ : ∃ y : Int32, y = p2 + (-1 : Int32) := ⟨_, rfl⟩
    have h_11 := h_10 x18 ex19
    refine fw_iinc (i := 2) (x := p2) (v := x18) (ls' := [(2, .int x18), (0, .ref p0), (1, .int p1)]) 2 rfl (show decode _ _ = .ok (.iinc 2 (-1), 3) by decide +kernel) (by rw [ex19]; rfl) (by decide) rfl ?_
    refine fw_goto 2 (show decode _ _ = .ok (.goto (-36), 3) by decide +kernel) (by decide) ?_
    refine FW.sub [1, 2, 0] (ls' := [(0, .ref p0), (1, .int p1), (2, .int x18)]) rfl ?_
    exact hK2 _ _ _ _ h_11
theorem sl_X11_four_2 {g : GT} {d : Nat} (hd : 1 ≤ d + 1) {φ : fM → Prop} : ∀ (n : Nat) {p0 : Nat} {p1 : Int32} {p2 : Int32} {M : fM}, l_X11_four_2 φ n p0 p1 p2 M → FW g mtX11_four (d + 1) 2 [(0, .ref p0), (1, .int p1), (2, .int p2)] [] M 0 0 (rV φ)
  | 0 => fun h => h.elim
  | n + 1 => fun h => sb_X11_four_2 hd (fun _ _ _ _ h => sl_X11_four_2 hd n h) h
def w_X11_four (p0 : Nat) (p1 : Int32) (M : fM) (φ : fM → Prop) : Prop := ∃ n, l_X11_four_2 φ n p0 p1 (3 : Int32) M
set_option maxRecDepth 100000 in
theorem s_X11_four {g : GT} {d : Nat} (hd : 1 ≤ d) {p0 : Nat} {p1 : Int32} {M : fM} {φ : fM → Prop} (h : w_X11_four p0 p1 M φ) : FC g mtX11_four d [.ref p0, .int p1] M 0 0 (rV φ) := by
  obtain ⟨d, rfl⟩ : ∃ e, d = e + 1 := ⟨d - 1, by omega⟩
  unfold w_X11_four at h
  refine FC.intro (nL := 3) (by decide) rfl (Nat.le_of_ble_eq_true rfl) ?_
  show FW g mtX11_four (d + 1) 0 [(0, .ref p0), (1, .int p1)] [] M 0 0 (rV φ)
  refine fw_iconst (v := (3 : Int32)) (show decode _ _ = .ok (.iconst 3, 1) by decide +kernel) (by decide) ?_
  refine fw_istore_n (i := 2) (ls' := [(2, .int (3 : Int32)), (0, .ref p0), (1, .int p1)]) (show decode _ _ = .ok (.istore_n 2, 1) by decide +kernel) (by decide) rfl ?_
  refine FW.sub [1, 2, 0] (ls' := [(0, .ref p0), (1, .int p1), (2, .int (3 : Int32))]) rfl ?_
  obtain ⟨nn, h_1⟩ := h
  exact sl_X11_four_2 hd nn h_1
def w_X11_feed (p0 : Nat) (p1 : Int32) (p2 : Int32) (p3 : Int32) (p4 : Int32) (p5 : Int32) (M : fM) (φ : Int32 → fM → Prop) : Prop := isO M p0 11 ∧ iF (((mI M p0 4) + (20 : Int32)) ≤ (300 : Int32)) (w_X11_four p0 p1 M fun M4 => isO M4 p0 11 ∧ w_X11_four p0 p2 M4 fun M5 => isO M5 p0 11 ∧ w_X11_four p0 p3 M5 fun M9 => isO M9 p0 11 ∧ w_X11_four p0 p4 M9 fun M13 => isO M13 p0 11 ∧ w_X11_four p0 p5 M13 fun M17 => isO M17 p0 11 ∧ φ (mI M17 p0 4) M17) (φ (-1 : Int32) M)
set_option maxRecDepth 100000 in
theorem s_X11_feed {g : GT} {d : Nat} (hd : 2 ≤ d) {p0 : Nat} {p1 : Int32} {p2 : Int32} {p3 : Int32} {p4 : Int32} {p5 : Int32} {M : fM} {φ : Int32 → fM → Prop} (h : w_X11_feed p0 p1 p2 p3 p4 p5 M φ) : FC g mtX11_feed d [.ref p0, .int p1, .int p2, .int p3, .int p4, .int p5] M 0 0 (rI φ) := by
  obtain ⟨d, rfl⟩ : ∃ e, d = e + 1 := ⟨d - 1, by omega⟩
  unfold w_X11_feed at h
  refine FC.intro (nL := 6) (by decide) rfl (Nat.le_of_ble_eq_true rfl) ?_
  show FW g mtX11_feed (d + 1) 0 [(0, .ref p0), (1, .int p1), (2, .int p2), (3, .int p3), (4, .int p4), (5, .int p5)] [] M 0 0 (rI φ)
  refine fw_aload_n (i := 0) 0 rfl (show decode _ _ = .ok (.aload_n 0, 1) by decide +kernel) ?_
  obtain ⟨⟨hr2, n1, hs3⟩, h_1⟩ := h
  refine fw_getI (kd := 11) (k := 4) (show decode _ _ = .ok (.getfield 91, 3) by decide +kernel) gf_X11_91 hr2 hs3 (Or.inl rfl) ?_
  refine fw_bipush (v := (20 : Int32)) (show decode _ _ = .ok (.bipush 20, 2) by decide +kernel) (by decide) ?_
  refine fw_iadd (show decode _ _ = .ok (.iadd, 1) by decide +kernel) ?_
  refine fw_sipush (v := (300 : Int32)) (show decode _ _ = .ok (.sipush 300, 3) by decide +kernel) (by decide) ?_
  refine fw_icmp_le 15 (show decode _ _ = .ok (.if_icmp .le 5, 3) by decide +kernel) (by decide) (fun hc24 => ?_) (fun hc24 => ?_)
  · have h_2 := ipos hc24 h_1
    refine fw_aload_n (i := 0) 0 rfl (show decode _ _ = .ok (.aload_n 0, 1) by decide +kernel) ?_
    refine fw_iload_n (i := 1) 1 rfl (show decode _ _ = .ok (.iload_n 1, 1) by decide +kernel) ?_
    refine fw_callV (mt' := mtX11_four) (mc := 0) (ms := 0) (As := [.int p1]) (rest := []) 1 11 n1 (show decode _ _ = .ok (.invokevirtual 94, 3) by decide +kernel) cv_X11_94 ⟨_, rfl, rfl⟩ hr2 hs3 rfl (Nat.le_of_ble_eq_true rfl) (s_X11_four (d := d) (hd_le hd (by decide)) h_2) (by decide) (by decide) (kV (bc' := 0) (bs' := 0) (by decide) (by decide) (fun M4 h_3 => ?_))
    refine fw_aload_n (i := 0) 0 rfl (show decode _ _ = .ok (.aload_n 0, 1) by decide +kernel) ?_
    refine fw_iload_n (i := 2) 2 rfl (show decode _ _ = .ok (.iload_n 2, 1) by decide +kernel) ?_
    obtain ⟨⟨hr7, n6, hs8⟩, h_4⟩ := h_3
    refine fw_callV (mt' := mtX11_four) (mc := 0) (ms := 0) (As := [.int p2]) (rest := []) 1 11 n6 (show decode _ _ = .ok (.invokevirtual 94, 3) by decide +kernel) cv_X11_94 ⟨_, rfl, rfl⟩ hr7 hs8 rfl (Nat.le_of_ble_eq_true rfl) (s_X11_four (d := d) (hd_le hd (by decide)) h_4) (by decide) (by decide) (kV (bc' := 0) (bs' := 0) (by decide) (by decide) (fun M5 h_5 => ?_))
    refine fw_aload_n (i := 0) 0 rfl (show decode _ _ = .ok (.aload_n 0, 1) by decide +kernel) ?_
    refine fw_iload_n (i := 3) 3 rfl (show decode _ _ = .ok (.iload_n 3, 1) by decide +kernel) ?_
    obtain ⟨⟨hr11, n10, hs12⟩, h_6⟩ := h_5
    refine fw_callV (mt' := mtX11_four) (mc := 0) (ms := 0) (As := [.int p3]) (rest := []) 1 11 n10 (show decode _ _ = .ok (.invokevirtual 94, 3) by decide +kernel) cv_X11_94 ⟨_, rfl, rfl⟩ hr11 hs12 rfl (Nat.le_of_ble_eq_true rfl) (s_X11_four (d := d) (hd_le hd (by decide)) h_6) (by decide) (by decide) (kV (bc' := 0) (bs' := 0) (by decide) (by decide) (fun M9 h_7 => ?_))
    refine fw_aload_n (i := 0) 0 rfl (show decode _ _ = .ok (.aload_n 0, 1) by decide +kernel) ?_
    refine fw_iload (i := 4) 4 rfl (show decode _ _ = .ok (.iload 4, 2) by decide +kernel) ?_
    obtain ⟨⟨hr15, n14, hs16⟩, h_8⟩ := h_7
    refine fw_callV (mt' := mtX11_four) (mc := 0) (ms := 0) (As := [.int p4]) (rest := []) 1 11 n14 (show decode _ _ = .ok (.invokevirtual 94, 3) by decide +kernel) cv_X11_94 ⟨_, rfl, rfl⟩ hr15 hs16 rfl (Nat.le_of_ble_eq_true rfl) (s_X11_four (d := d) (hd_le hd (by decide)) h_8) (by decide) (by decide) (kV (bc' := 0) (bs' := 0) (by decide) (by decide) (fun M13 h_9 => ?_))
    refine fw_aload_n (i := 0) 0 rfl (show decode _ _ = .ok (.aload_n 0, 1) by decide +kernel) ?_
    refine fw_iload (i := 5) 5 rfl (show decode _ _ = .ok (.iload 5, 2) by decide +kernel) ?_
    obtain ⟨⟨hr19, n18, hs20⟩, h_10⟩ := h_9
    refine fw_callV (mt' := mtX11_four) (mc := 0) (ms := 0) (As := [.int p5]) (rest := []) 1 11 n18 (show decode _ _ = .ok (.invokevirtual 94, 3) by decide +kernel) cv_X11_94 ⟨_, rfl, rfl⟩ hr19 hs20 rfl (Nat.le_of_ble_eq_true rfl) (s_X11_four (d := d) (hd_le hd (by decide)) h_10) (by decide) (by decide) (kV (bc' := 0) (bs' := 0) (by decide) (by decide) (fun M17 h_11 => ?_))
    refine fw_aload_n (i := 0) 0 rfl (show decode _ _ = .ok (.aload_n 0, 1) by decide +kernel) ?_
    obtain ⟨⟨hr22, n21, hs23⟩, h_12⟩ := h_11
    refine fw_getI (kd := 11) (k := 4) (show decode _ _ = .ok (.getfield 91, 3) by decide +kernel) gf_X11_91 hr22 hs23 (Or.inl rfl) ?_
    exact fw_ret (v := some (.int (mI M17 p0 4))) .ireturn (show decode _ _ = .ok (.ireturn, 1) by decide +kernel) ⟨rfl, Or.inl rfl⟩ ⟨_, rfl, h_12⟩
  · have h_13 := ineg hc24 h_1
    refine fw_iconst (v := (-1 : Int32)) (show decode _ _ = .ok (.iconst (-1), 1) by decide +kernel) (by decide) ?_
    exact fw_ret (v := some (.int (-1 : Int32))) .ireturn (show decode _ _ = .ok (.ireturn, 1) by decide +kernel) ⟨rfl, Or.inl rfl⟩ ⟨_, rfl, h_13⟩
def w_X11_from (p0 : Nat) (p1 : Int32) (p2 : Int32) (p3 : Int32) (M : fM) (φ : Int32 → fM → Prop) : Prop := isO M p0 11 ∧ w_X11_isMind p0 p1 p2 p3 M fun x5 M1 => iF (x5 = 0) (φ (-1 : Int32) M1) (isO M1 p0 11 ∧ w_X11_best p0 p1 p2 p3 (0 : Int32) M1 fun x10 M6 => φ x10 M6)
set_option maxRecDepth 100000 in
theorem s_X11_from {g : GT} {d : Nat} (hd : 9 ≤ d) {p0 : Nat} {p1 : Int32} {p2 : Int32} {p3 : Int32} {M : fM} {φ : Int32 → fM → Prop} (h : w_X11_from p0 p1 p2 p3 M φ) : FC g mtX11_from d [.ref p0, .int p1, .int p2, .int p3] M 0 0 (rI φ) := by
  obtain ⟨d, rfl⟩ : ∃ e, d = e + 1 := ⟨d - 1, by omega⟩
  unfold w_X11_from at h
  refine FC.intro (nL := 4) (by decide) rfl (Nat.le_of_ble_eq_true rfl) ?_
  show FW g mtX11_from (d + 1) 0 [(0, .ref p0), (1, .int p1), (2, .int p2), (3, .int p3)] [] M 0 0 (rI φ)
  refine fw_aload_n (i := 0) 0 rfl (show decode _ _ = .ok (.aload_n 0, 1) by decide +kernel) ?_
  refine fw_iload_n (i := 1) 1 rfl (show decode _ _ = .ok (.iload_n 1, 1) by decide +kernel) ?_
  refine fw_iload_n (i := 2) 2 rfl (show decode _ _ = .ok (.iload_n 2, 1) by decide +kernel) ?_
  refine fw_iload_n (i := 3) 3 rfl (show decode _ _ = .ok (.iload_n 3, 1) by decide +kernel) ?_
  obtain ⟨⟨hr3, n2, hs4⟩, h_1⟩ := h
  refine fw_callV (mt' := mtX11_isMind) (mc := 0) (ms := 0) (As := [.int p1, .int p2, .int p3]) (rest := []) 3 11 n2 (show decode _ _ = .ok (.invokevirtual 325, 3) by decide +kernel) cv_X11_325 ⟨_, rfl, rfl⟩ hr3 hs4 rfl (Nat.le_of_ble_eq_true rfl) (s_X11_isMind (d := d) (hd_le hd (by decide)) h_1) (by decide) (by decide) (kI (bc' := 0) (bs' := 0) (by decide) (by decide) (fun x5 M1 h_2 => ?_))
  refine fw_if_eq 21 (show decode _ _ = .ok (.ifCond .eq 14, 3) by decide +kernel) (by decide) (fun hc11 => ?_) (fun hc11 => ?_)
  · have h_3 := ipos hc11 h_2
    refine fw_iconst (v := (-1 : Int32)) (show decode _ _ = .ok (.iconst (-1), 1) by decide +kernel) (by decide) ?_
    exact fw_ret (v := some (.int (-1 : Int32))) .ireturn (show decode _ _ = .ok (.ireturn, 1) by decide +kernel) ⟨rfl, Or.inl rfl⟩ ⟨_, rfl, h_3⟩
  · have h_4 := ineg hc11 h_2
    refine fw_aload_n (i := 0) 0 rfl (show decode _ _ = .ok (.aload_n 0, 1) by decide +kernel) ?_
    refine fw_iload_n (i := 1) 1 rfl (show decode _ _ = .ok (.iload_n 1, 1) by decide +kernel) ?_
    refine fw_iload_n (i := 2) 2 rfl (show decode _ _ = .ok (.iload_n 2, 1) by decide +kernel) ?_
    refine fw_iload_n (i := 3) 3 rfl (show decode _ _ = .ok (.iload_n 3, 1) by decide +kernel) ?_
    refine fw_iconst (v := (0 : Int32)) (show decode _ _ = .ok (.iconst 0, 1) by decide +kernel) (by decide) ?_
    obtain ⟨⟨hr8, n7, hs9⟩, h_5⟩ := h_4
    refine fw_callV (mt' := mtX11_best) (mc := 0) (ms := 0) (As := [.int p1, .int p2, .int p3, .int (0 : Int32)]) (rest := []) 4 11 n7 (show decode _ _ = .ok (.invokevirtual 450, 3) by decide +kernel) cv_X11_450 ⟨_, rfl, rfl⟩ hr8 hs9 rfl (Nat.le_of_ble_eq_true rfl) (s_X11_best (d := d) (hd_le hd (by decide)) h_5) (by decide) (by decide) (kI (bc' := 0) (bs' := 0) (by decide) (by decide) (fun x10 M6 h_6 => ?_))
    refine fw_goto 22 (show decode _ _ = .ok (.goto 4, 3) by decide +kernel) (by decide) ?_
    exact fw_ret (v := some (.int x10)) .ireturn (show decode _ _ = .ok (.ireturn, 1) by decide +kernel) ⟨rfl, Or.inl rfl⟩ ⟨_, rfl, h_6⟩
def b_X11_goAll_47 (K8 : Nat → Int32 → Int32 → Int32 → Int32 → fM → Prop) (K47 : Nat → Int32 → Int32 → Int32 → Int32 → Int32 → Int32 → Int32 → fM → Prop) (φ : fM → Prop) (p0 : Nat) (p1 : Int32) (p2 : Int32) (p3 : Int32) (p4 : Int32) (p5 : Int32) (p6 : Int32) (p7 : Int32) (M : fM) : Prop := iF ((30 : Int32) ≤ p7) (nm (p4 + (1 : Int32)) fun x1 => K8 p0 p1 p2 p3 x1 M) (isO M p0 11 ∧ dR (mP M p0 24) fun y6 => w_X11_cell p4 p7 M fun x9 M8 => inA M8 y6 13 x9 ∧ iF ((lg_cmp (mJ M8 y6 (ix x9)) (0 : Int64)) ≤ 0) (nm (p7 + (1 : Int32)) fun x13 => K47 p0 p1 p2 p3 p4 p5 p6 x13 M8) (isO M8 p0 11 ∧ w_X11_goOn p0 p2 p3 p4 p7 p5 p6 M8 fun M15 => nm (p7 + (1 : Int32)) fun x19 => K47 p0 p1 p2 p3 p4 p5 p6 x19 M15))
def l_X11_goAll_47 (K8 : Nat → Int32 → Int32 → Int32 → Int32 → fM → Prop) (φ : fM → Prop) : Nat → Nat → Int32 → Int32 → Int32 → Int32 → Int32 → Int32 → Int32 → fM → Prop
  | 0, _, _, _, _, _, _, _, _, _ => False
  | n + 1, p0, p1, p2, p3, p4, p5, p6, p7, M => b_X11_goAll_47 K8 (l_X11_goAll_47 K8 φ n) φ p0 p1 p2 p3 p4 p5 p6 p7 M
set_option maxRecDepth 100000 in
theorem sb_X11_goAll_47 {g : GT} {d : Nat} (hd : 7 ≤ d + 1) {K8 : Nat → Int32 → Int32 → Int32 → Int32 → fM → Prop} {K47 : Nat → Int32 → Int32 → Int32 → Int32 → Int32 → Int32 → Int32 → fM → Prop} {φ : fM → Prop} (hK8 : ∀ (p0 : Nat) (p1 : Int32) (p2 : Int32) (p3 : Int32) (p4 : Int32) (M : fM), K8 p0 p1 p2 p3 p4 M → FW g mtX11_goAll (d + 1) 8 [(0, .ref p0), (1, .int p1), (2, .int p2), (3, .int p3), (4, .int p4)] [] M 0 0 (rV φ)) (hK47 : ∀ (p0 : Nat) (p1 : Int32) (p2 : Int32) (p3 : Int32) (p4 : Int32) (p5 : Int32) (p6 : Int32) (p7 : Int32) (M : fM), K47 p0 p1 p2 p3 p4 p5 p6 p7 M → FW g mtX11_goAll (d + 1) 47 [(0, .ref p0), (1, .int p1), (2, .int p2), (3, .int p3), (4, .int p4), (5, .int p5), (6, .int p6), (7, .int p7)] [] M 0 0 (rV φ)) {p0 : Nat} {p1 : Int32} {p2 : Int32} {p3 : Int32} {p4 : Int32} {p5 : Int32} {p6 : Int32} {p7 : Int32} {M : fM} (h : b_X11_goAll_47 K8 K47 φ p0 p1 p2 p3 p4 p5 p6 p7 M) : FW g mtX11_goAll (d + 1) 47 [(0, .ref p0), (1, .int p1), (2, .int p2), (3, .int p3), (4, .int p4), (5, .int p5), (6, .int p6), (7, .int p7)] [] M 0 0 (rV φ) := by
  unfold b_X11_goAll_47 at h
  refine fw_iload (i := 7) 7 rfl (show decode _ _ = .ok (.iload 7, 2) by decide +kernel) ?_
  refine fw_bipush (v := (30 : Int32)) (show decode _ _ = .ok (.bipush 30, 2) by decide +kernel) (by decide) ?_
  refine fw_icmp_ge 91 (show decode _ _ = .ok (.if_icmp .ge 40, 3) by decide +kernel) (by decide) (fun hc22 => ?_) (fun hc22 => ?_)
  · have h_1 := ipos hc22 h
    obtain ⟨x1, ex2⟩ : ∃ y : Int32, y = p4 + (1 : Int32) := ⟨_, rfl⟩
    have h_2 := h_1 x1 ex2
    refine fw_iinc (i := 4) (x := p4) (v := x1) (ls' := [(4, .int x1), (0, .ref p0), (1, .int p1), (2, .int p2), (3, .int p3), (5, .int p5), (6, .int p6), (7, .int p7)]) 4 rfl (show decode _ _ = .ok (.iinc 4 1, 3) by decide +kernel) (by rw [ex2]; rfl) (by decide) rfl ?_
    refine fw_goto 8 (show decode _ _ = .ok (.goto (-86), 3) by decide +kernel) (by decide) ?_
    refine FW.sub [1, 2, 3, 4, 0] (ls' := [(0, .ref p0), (1, .int p1), (2, .int p2), (3, .int p3), (4, .int x1)]) rfl ?_
    exact hK8 _ _ _ _ _ _ h_2
  · have h_3 := ineg hc22 h
    refine fw_aload_n (i := 0) 0 rfl (show decode _ _ = .ok (.aload_n 0, 1) by decide +kernel) ?_
    obtain ⟨⟨hr4, n3, hs5⟩, h_4⟩ := h_3
    refine fw_getP (kd := 11) (k := 24) (show decode _ _ = .ok (.getfield 43, 3) by decide +kernel) gf_X11_43 hr4 hs5 rfl ?_
    have h_5 := dR_e h_4
    obtain ⟨y6, hy7, h_6⟩ := h_5
    refine fw_deref hy7 ?_
    refine fw_iload (i := 4) 4 rfl (show decode _ _ = .ok (.iload 4, 2) by decide +kernel) ?_
    refine fw_iload (i := 7) 7 rfl (show decode _ _ = .ok (.iload 7, 2) by decide +kernel) ?_
    refine fw_callS (mt' := mtX11_cell) (mc := 0) (ms := 0) (As := [.int p4, .int p7]) (rest := [.ref y6]) 2 (show decode _ _ = .ok (.invokestatic 408, 3) by decide +kernel) cs_X11_408 rfl (Nat.le_of_ble_eq_true rfl) (s_X11_cell (d := d) (hd_le hd (by decide)) h_6) (by decide) (by decide) (kI (bc' := 0) (bs' := 0) (by decide) (by decide) (fun x9 M8 h_7 => ?_))
    obtain ⟨⟨n10, hs11, hi12⟩, h_8⟩ := h_7
    refine fw_lald (show decode _ _ = .ok (.laload, 1) by decide +kernel) hs11 hi12 ?_
    refine fw_lconst (v := (0 : Int64)) (show decode _ _ = .ok (.lconst 0, 1) by decide +kernel) (by decide) ?_
    refine fw_lcmp (show decode _ _ = .ok (.lcmp, 1) by decide +kernel) ?_
    refine fw_if_le 85 (show decode _ _ = .ok (.ifCond .le 17, 3) by decide +kernel) (by decide) (fun hc21 => ?_) (fun hc21 => ?_)
    · have h_9 := ipos hc21 h_8
      obtain ⟨x13, ex14⟩ : ∃ y : Int32, y = p7 + (1 : Int32) := ⟨_, rfl⟩
      have h_10 := h_9 x13 ex14
      refine fw_iinc (i := 7) (x := p7) (v := x13) (ls' := [(7, .int x13), (0, .ref p0), (1, .int p1), (2, .int p2), (3, .int p3), (4, .int p4), (5, .int p5), (6, .int p6)]) 7 rfl (show decode _ _ = .ok (.iinc 7 1, 3) by decide +kernel) (by rw [ex14]; rfl) (by decide) rfl ?_
      refine fw_goto 47 (show decode _ _ = .ok (.goto (-41), 3) by decide +kernel) (by decide) ?_
      refine FW.sub [1, 2, 3, 4, 5, 6, 7, 0] (ls' := [(0, .ref p0), (1, .int p1), (2, .int p2), (3, .int p3), (4, .int p4), (5, .int p5), (6, .int p6), (7, .int x13)]) rfl ?_
      exact hK47 _ _ _ _ _ _ _ _ _ h_10
    · have h_11 := ineg hc21 h_8
      refine fw_aload_n (i := 0) 0 rfl (show decode _ _ = .ok (.aload_n 0, 1) by decide +kernel) ?_
      refine fw_iload_n (i := 2) 2 rfl (show decode _ _ = .ok (.iload_n 2, 1) by decide +kernel) ?_
      refine fw_iload_n (i := 3) 3 rfl (show decode _ _ = .ok (.iload_n 3, 1) by decide +kernel) ?_
      refine fw_iload (i := 4) 4 rfl (show decode _ _ = .ok (.iload 4, 2) by decide +kernel) ?_
      refine fw_iload (i := 7) 7 rfl (show decode _ _ = .ok (.iload 7, 2) by decide +kernel) ?_
      refine fw_iload (i := 5) 5 rfl (show decode _ _ = .ok (.iload 5, 2) by decide +kernel) ?_
      refine fw_iload (i := 6) 6 rfl (show decode _ _ = .ok (.iload 6, 2) by decide +kernel) ?_
      obtain ⟨⟨hr17, n16, hs18⟩, h_12⟩ := h_11
      refine fw_callV (mt' := mtX11_goOn) (mc := 0) (ms := 0) (As := [.int p2, .int p3, .int p4, .int p7, .int p5, .int p6]) (rest := []) 6 11 n16 (show decode _ _ = .ok (.invokevirtual 414, 3) by decide +kernel) cv_X11_414 ⟨_, rfl, rfl⟩ hr17 hs18 rfl (Nat.le_of_ble_eq_true rfl) (s_X11_goOn (d := d) (hd_le hd (by decide)) h_12) (by decide) (by decide) (kV (bc' := 0) (bs' := 0) (by decide) (by decide) (fun M15 h_13 => ?_))
      obtain ⟨x19, ex20⟩ : ∃ y : Int32, y = p7 + (1 : Int32) := ⟨_, rfl⟩
      have h_14 := h_13 x19 ex20
      refine fw_iinc (i := 7) (x := p7) (v := x19) (ls' := [(7, .int x19), (0, .ref p0), (1, .int p1), (2, .int p2), (3, .int p3), (4, .int p4), (5, .int p5), (6, .int p6)]) 7 rfl (show decode _ _ = .ok (.iinc 7 1, 3) by decide +kernel) (by rw [ex20]; rfl) (by decide) rfl ?_
      refine fw_goto 47 (show decode _ _ = .ok (.goto (-41), 3) by decide +kernel) (by decide) ?_
      refine FW.sub [1, 2, 3, 4, 5, 6, 7, 0] (ls' := [(0, .ref p0), (1, .int p1), (2, .int p2), (3, .int p3), (4, .int p4), (5, .int p5), (6, .int p6), (7, .int x19)]) rfl ?_
      exact hK47 _ _ _ _ _ _ _ _ _ h_14
theorem sl_X11_goAll_47 {g : GT} {d : Nat} (hd : 7 ≤ d + 1) {K8 : Nat → Int32 → Int32 → Int32 → Int32 → fM → Prop} {φ : fM → Prop} (hK8 : ∀ (p0 : Nat) (p1 : Int32) (p2 : Int32) (p3 : Int32) (p4 : Int32) (M : fM), K8 p0 p1 p2 p3 p4 M → FW g mtX11_goAll (d + 1) 8 [(0, .ref p0), (1, .int p1), (2, .int p2), (3, .int p3), (4, .int p4)] [] M 0 0 (rV φ)) : ∀ (n : Nat) {p0 : Nat} {p1 : Int32} {p2 : Int32} {p3 : Int32} {p4 : Int32} {p5 : Int32} {p6 : Int32} {p7 : Int32} {M : fM}, l_X11_goAll_47 K8 φ n p0 p1 p2 p3 p4 p5 p6 p7 M → FW g mtX11_goAll (d + 1) 47 [(0, .ref p0), (1, .int p1), (2, .int p2), (3, .int p3), (4, .int p4), (5, .int p5), (6, .int p6), (7, .int p7)] [] M 0 0 (rV φ)
  | 0 => fun h => h.elim
  | n + 1 => fun h => sb_X11_goAll_47 hd hK8 (fun _ _ _ _ _ _ _ _ _ h => sl_X11_goAll_47 hd hK8 n h) h
def b_X11_goAll_8 (K8 : Nat → Int32 → Int32 → Int32 → Int32 → fM → Prop) (φ : fM → Prop) (p0 : Nat) (p1 : Int32) (p2 : Int32) (p3 : Int32) (p4 : Int32) (M : fM) : Prop := isO M p0 11 ∧ w_X11_stepsOf p0 p2 M fun x27 M23 => iF (x27 ≤ p4) (φ M23) (isO M23 p0 11 ∧ w_X11_noneAt p0 p1 p2 p3 (p4 + (1 : Int32)) M23 fun x32 M28 => isO M28 p0 11 ∧ w_X11_twiceAt p0 p1 p2 p3 (p4 + (1 : Int32)) M28 fun x37 M33 => ∃ n, l_X11_goAll_47 K8 φ n p0 p1 p2 p3 p4 x32 x37 (0 : Int32) M33)
def l_X11_goAll_8 (φ : fM → Prop) : Nat → Nat → Int32 → Int32 → Int32 → Int32 → fM → Prop
  | 0, _, _, _, _, _, _ => False
  | n + 1, p0, p1, p2, p3, p4, M => b_X11_goAll_8 (l_X11_goAll_8 φ n) φ p0 p1 p2 p3 p4 M
set_option maxRecDepth 100000 in
theorem sb_X11_goAll_8 {g : GT} {d : Nat} (hd : 7 ≤ d + 1) {K8 : Nat → Int32 → Int32 → Int32 → Int32 → fM → Prop} {φ : fM → Prop} (hK8 : ∀ (p0 : Nat) (p1 : Int32) (p2 : Int32) (p3 : Int32) (p4 : Int32) (M : fM), K8 p0 p1 p2 p3 p4 M → FW g mtX11_goAll (d + 1) 8 [(0, .ref p0), (1, .int p1), (2, .int p2), (3, .int p3), (4, .int p4)] [] M 0 0 (rV φ)) {p0 : Nat} {p1 : Int32} {p2 : Int32} {p3 : Int32} {p4 : Int32} {M : fM} (h : b_X11_goAll_8 K8 φ p0 p1 p2 p3 p4 M) : FW g mtX11_goAll (d + 1) 8 [(0, .ref p0), (1, .int p1), (2, .int p2), (3, .int p3), (4, .int p4)] [] M 0 0 (rV φ) := by
  unfold b_X11_goAll_8 at h
  refine fw_iload (i := 4) 4 rfl (show decode _ _ = .ok (.iload 4, 2) by decide +kernel) ?_
  refine fw_aload_n (i := 0) 0 rfl (show decode _ _ = .ok (.aload_n 0, 1) by decide +kernel) ?_
  refine fw_iload_n (i := 2) 2 rfl (show decode _ _ = .ok (.iload_n 2, 1) by decide +kernel) ?_
  obtain ⟨⟨hr25, n24, hs26⟩, h_1⟩ := h
  refine fw_callV (mt' := mtX11_stepsOf) (mc := 0) (ms := 0) (As := [.int p2]) (rest := [.int p4]) 1 11 n24 (show decode _ _ = .ok (.invokevirtual 74, 3) by decide +kernel) cv_X11_74 ⟨_, rfl, rfl⟩ hr25 hs26 rfl (Nat.le_of_ble_eq_true rfl) (s_X11_stepsOf (d := d) (hd_le hd (by decide)) h_1) (by decide) (by decide) (kI (bc' := 0) (bs' := 0) (by decide) (by decide) (fun x27 M23 h_2 => ?_))
  refine fw_icmp_ge 97 (show decode _ _ = .ok (.if_icmp .ge 82, 3) by decide +kernel) (by decide) (fun hc38 => ?_) (fun hc38 => ?_)
  · have h_3 := ipos hc38 h_2
    exact fw_ret (v := none) .return_ (show decode _ _ = .ok (.return_, 1) by decide +kernel) ⟨rfl, rfl⟩ ⟨rfl, h_3⟩
  · have h_4 := ineg hc38 h_2
    refine fw_aload_n (i := 0) 0 rfl (show decode _ _ = .ok (.aload_n 0, 1) by decide +kernel) ?_
    refine fw_iload_n (i := 1) 1 rfl (show decode _ _ = .ok (.iload_n 1, 1) by decide +kernel) ?_
    refine fw_iload_n (i := 2) 2 rfl (show decode _ _ = .ok (.iload_n 2, 1) by decide +kernel) ?_
    refine fw_iload_n (i := 3) 3 rfl (show decode _ _ = .ok (.iload_n 3, 1) by decide +kernel) ?_
    refine fw_iload (i := 4) 4 rfl (show decode _ _ = .ok (.iload 4, 2) by decide +kernel) ?_
    refine fw_iconst (v := (1 : Int32)) (show decode _ _ = .ok (.iconst 1, 1) by decide +kernel) (by decide) ?_
    refine fw_iadd (show decode _ _ = .ok (.iadd, 1) by decide +kernel) ?_
    obtain ⟨⟨hr30, n29, hs31⟩, h_5⟩ := h_4
    refine fw_callV (mt' := mtX11_noneAt) (mc := 0) (ms := 0) (As := [.int p1, .int p2, .int p3, .int (p4 + (1 : Int32))]) (rest := []) 4 11 n29 (show decode _ _ = .ok (.invokevirtual 314, 3) by decide +kernel) cv_X11_314 ⟨_, rfl, rfl⟩ hr30 hs31 rfl (Nat.le_of_ble_eq_true rfl) (s_X11_noneAt (d := d) (hd_le hd (by decide)) h_5) (by decide) (by decide) (kI (bc' := 0) (bs' := 0) (by decide) (by decide) (fun x32 M28 h_6 => ?_))
    refine fw_istore (i := 5) (ls' := [(5, .int x32), (0, .ref p0), (1, .int p1), (2, .int p2), (3, .int p3), (4, .int p4)]) (show decode _ _ = .ok (.istore 5, 2) by decide +kernel) (by decide) rfl ?_
    refine fw_aload_n (i := 0) 1 rfl (show decode _ _ = .ok (.aload_n 0, 1) by decide +kernel) ?_
    refine fw_iload_n (i := 1) 2 rfl (show decode _ _ = .ok (.iload_n 1, 1) by decide +kernel) ?_
    refine fw_iload_n (i := 2) 3 rfl (show decode _ _ = .ok (.iload_n 2, 1) by decide +kernel) ?_
    refine fw_iload_n (i := 3) 4 rfl (show decode _ _ = .ok (.iload_n 3, 1) by decide +kernel) ?_
    refine fw_iload (i := 4) 5 rfl (show decode _ _ = .ok (.iload 4, 2) by decide +kernel) ?_
    refine fw_iconst (v := (1 : Int32)) (show decode _ _ = .ok (.iconst 1, 1) by decide +kernel) (by decide) ?_
    refine fw_iadd (show decode _ _ = .ok (.iadd, 1) by decide +kernel) ?_
    obtain ⟨⟨hr35, n34, hs36⟩, h_7⟩ := h_6
    refine fw_callV (mt' := mtX11_twiceAt) (mc := 0) (ms := 0) (As := [.int p1, .int p2, .int p3, .int (p4 + (1 : Int32))]) (rest := []) 4 11 n34 (show decode _ _ = .ok (.invokevirtual 328, 3) by decide +kernel) cv_X11_328 ⟨_, rfl, rfl⟩ hr35 hs36 rfl (Nat.le_of_ble_eq_true rfl) (s_X11_twiceAt (d := d) (hd_le hd (by decide)) h_7) (by decide) (by decide) (kI (bc' := 0) (bs' := 0) (by decide) (by decide) (fun x37 M33 h_8 => ?_))
    refine fw_istore (i := 6) (ls' := [(6, .int x37), (5, .int x32), (0, .ref p0), (1, .int p1), (2, .int p2), (3, .int p3), (4, .int p4)]) (show decode _ _ = .ok (.istore 6, 2) by decide +kernel) (by decide) rfl ?_
    refine fw_iconst (v := (0 : Int32)) (show decode _ _ = .ok (.iconst 0, 1) by decide +kernel) (by decide) ?_
    refine fw_istore (i := 7) (ls' := [(7, .int (0 : Int32)), (6, .int x37), (5, .int x32), (0, .ref p0), (1, .int p1), (2, .int p2), (3, .int p3), (4, .int p4)]) (show decode _ _ = .ok (.istore 7, 2) by decide +kernel) (by decide) rfl ?_
    refine FW.sub [3, 4, 5, 6, 7, 2, 1, 0] (ls' := [(0, .ref p0), (1, .int p1), (2, .int p2), (3, .int p3), (4, .int p4), (5, .int x32), (6, .int x37), (7, .int (0 : Int32))]) rfl ?_
    obtain ⟨nn, h_9⟩ := h_8
    exact sl_X11_goAll_47 hd hK8 nn h_9
theorem sl_X11_goAll_8 {g : GT} {d : Nat} (hd : 7 ≤ d + 1) {φ : fM → Prop} : ∀ (n : Nat) {p0 : Nat} {p1 : Int32} {p2 : Int32} {p3 : Int32} {p4 : Int32} {M : fM}, l_X11_goAll_8 φ n p0 p1 p2 p3 p4 M → FW g mtX11_goAll (d + 1) 8 [(0, .ref p0), (1, .int p1), (2, .int p2), (3, .int p3), (4, .int p4)] [] M 0 0 (rV φ)
  | 0 => fun h => h.elim
  | n + 1 => fun h => sb_X11_goAll_8 hd (fun _ _ _ _ _ _ h => sl_X11_goAll_8 hd n h) h
def w_X11_goAll (p0 : Nat) (p1 : Int32) (p2 : Int32) (p3 : Int32) (M : fM) (φ : fM → Prop) : Prop := isO M p0 11 ∧ st (wI M p0 27 (0 : Int32)) fun M42 => ∃ n, l_X11_goAll_8 φ n p0 p1 p2 p3 (0 : Int32) M42
set_option maxRecDepth 100000 in
theorem s_X11_goAll {g : GT} {d : Nat} (hd : 7 ≤ d) {p0 : Nat} {p1 : Int32} {p2 : Int32} {p3 : Int32} {M : fM} {φ : fM → Prop} (h : w_X11_goAll p0 p1 p2 p3 M φ) : FC g mtX11_goAll d [.ref p0, .int p1, .int p2, .int p3] M 0 0 (rV φ) := by
  obtain ⟨d, rfl⟩ : ∃ e, d = e + 1 := ⟨d - 1, by omega⟩
  unfold w_X11_goAll at h
  refine FC.intro (nL := 8) (by decide) rfl (Nat.le_of_ble_eq_true rfl) ?_
  show FW g mtX11_goAll (d + 1) 0 [(0, .ref p0), (1, .int p1), (2, .int p2), (3, .int p3)] [] M 0 0 (rV φ)
  refine fw_aload_n (i := 0) 0 rfl (show decode _ _ = .ok (.aload_n 0, 1) by decide +kernel) ?_
  refine fw_iconst (v := (0 : Int32)) (show decode _ _ = .ok (.iconst 0, 1) by decide +kernel) (by decide) ?_
  obtain ⟨⟨hr40, n39, hs41⟩, h_1⟩ := h
  refine fw_putI (kd := 11) (k := 27) (show decode _ _ = .ok (.putfield 411, 3) by decide +kernel) ⟨gf_X11_411, _, rfl, Or.inl rfl⟩ hr40 hs41 rfl ?_
  refine FW.nmM (fun M42 eM43 => ?_)
  have h_2 := h_1 M42 eM43
  refine fw_iconst (v := (0 : Int32)) (show decode _ _ = .ok (.iconst 0, 1) by decide +kernel) (by decide) ?_
  refine fw_istore (i := 4) (ls' := [(4, .int (0 : Int32)), (0, .ref p0), (1, .int p1), (2, .int p2), (3, .int p3)]) (show decode _ _ = .ok (.istore 4, 2) by decide +kernel) (by decide) rfl ?_
  refine FW.sub [1, 2, 3, 4, 0] (ls' := [(0, .ref p0), (1, .int p1), (2, .int p2), (3, .int p3), (4, .int (0 : Int32))]) rfl ?_
  obtain ⟨nn, h_3⟩ := h_2
  exact sl_X11_goAll_8 hd nn h_3
def w_X11_goes (p0 : Nat) (p1 : Int32) (p2 : Int32) (M : fM) (φ : Int32 → fM → Prop) : Prop := isO M p0 11 ∧ w_X11_isMind p0 p1 p2 (0 : Int32) M fun x5 M1 => iF (x5 = 0) (φ (-1 : Int32) M1) (isO M1 p0 11 ∧ w_X11_best p0 p1 p2 (1 : Int32) (0 : Int32) M1 fun x10 M6 => isO M6 p0 11 ∧ nm (mJ M6 p0 28) fun x14 => w_X11_best p0 p1 p2 (0 : Int32) (0 : Int32) M6 fun x17 M16 => isO M16 p0 11 ∧ iF (0 ≤ (lg_cmp ((2 : Int64) * (mJ M16 p0 28)) x14)) (iF ((lg_cmp ((2 : Int64) * (mJ M16 p0 28)) x14) = 0) (φ (2 : Int32) M16) (φ (0 : Int32) M16)) (φ (1 : Int32) M16))
set_option maxRecDepth 100000 in
theorem s_X11_goes {g : GT} {d : Nat} (hd : 9 ≤ d) {p0 : Nat} {p1 : Int32} {p2 : Int32} {M : fM} {φ : Int32 → fM → Prop} (h : w_X11_goes p0 p1 p2 M φ) : FC g mtX11_goes d [.ref p0, .int p1, .int p2] M 0 0 (rI φ) := by
  obtain ⟨d, rfl⟩ : ∃ e, d = e + 1 := ⟨d - 1, by omega⟩
  unfold w_X11_goes at h
  refine FC.intro (nL := 6) (by decide) rfl (Nat.le_of_ble_eq_true rfl) ?_
  show FW g mtX11_goes (d + 1) 0 [(0, .ref p0), (1, .int p1), (2, .int p2)] [] M 0 0 (rI φ)
  refine fw_aload_n (i := 0) 0 rfl (show decode _ _ = .ok (.aload_n 0, 1) by decide +kernel) ?_
  refine fw_iload_n (i := 1) 1 rfl (show decode _ _ = .ok (.iload_n 1, 1) by decide +kernel) ?_
  refine fw_iload_n (i := 2) 2 rfl (show decode _ _ = .ok (.iload_n 2, 1) by decide +kernel) ?_
  refine fw_iconst (v := (0 : Int32)) (show decode _ _ = .ok (.iconst 0, 1) by decide +kernel) (by decide) ?_
  obtain ⟨⟨hr3, n2, hs4⟩, h_1⟩ := h
  refine fw_callV (mt' := mtX11_isMind) (mc := 0) (ms := 0) (As := [.int p1, .int p2, .int (0 : Int32)]) (rest := []) 3 11 n2 (show decode _ _ = .ok (.invokevirtual 325, 3) by decide +kernel) cv_X11_325 ⟨_, rfl, rfl⟩ hr3 hs4 rfl (Nat.le_of_ble_eq_true rfl) (s_X11_isMind (d := d) (hd_le hd (by decide)) h_1) (by decide) (by decide) (kI (bc' := 0) (bs' := 0) (by decide) (by decide) (fun x5 M1 h_2 => ?_))
  refine fw_if_ne 12 (show decode _ _ = .ok (.ifCond .ne 5, 3) by decide +kernel) (by decide) (fun hc23 => ?_) (fun hc23 => ?_)
  · have h_3 := ineg hc23 h_2
    refine fw_aload_n (i := 0) 0 rfl (show decode _ _ = .ok (.aload_n 0, 1) by decide +kernel) ?_
    refine fw_iload_n (i := 1) 1 rfl (show decode _ _ = .ok (.iload_n 1, 1) by decide +kernel) ?_
    refine fw_iload_n (i := 2) 2 rfl (show decode _ _ = .ok (.iload_n 2, 1) by decide +kernel) ?_
    refine fw_iconst (v := (1 : Int32)) (show decode _ _ = .ok (.iconst 1, 1) by decide +kernel) (by decide) ?_
    refine fw_iconst (v := (0 : Int32)) (show decode _ _ = .ok (.iconst 0, 1) by decide +kernel) (by decide) ?_
    obtain ⟨⟨hr8, n7, hs9⟩, h_4⟩ := h_3
    refine fw_callV (mt' := mtX11_best) (mc := 0) (ms := 0) (As := [.int p1, .int p2, .int (1 : Int32), .int (0 : Int32)]) (rest := []) 4 11 n7 (show decode _ _ = .ok (.invokevirtual 450, 3) by decide +kernel) cv_X11_450 ⟨_, rfl, rfl⟩ hr8 hs9 rfl (Nat.le_of_ble_eq_true rfl) (s_X11_best (d := d) (hd_le hd (by decide)) h_4) (by decide) (by decide) (kI (bc' := 0) (bs' := 0) (by decide) (by decide) (fun x10 M6 h_5 => ?_))
    refine fw_istore_n (i := 3) (ls' := [(3, .int x10), (0, .ref p0), (1, .int p1), (2, .int p2)]) (show decode _ _ = .ok (.istore_n 3, 1) by decide +kernel) (by decide) rfl ?_
    refine fw_aload_n (i := 0) 1 rfl (show decode _ _ = .ok (.aload_n 0, 1) by decide +kernel) ?_
    obtain ⟨⟨hr12, n11, hs13⟩, h_6⟩ := h_5
    refine fw_getJ (kd := 11) (k := 28) (show decode _ _ = .ok (.getfield 444, 3) by decide +kernel) gf_X11_444 hr12 hs13 rfl ?_
    refine fw_nmJ (fun x14 ex15 => ?_)
    have h_7 := h_6 x14 ex15
    refine fw_lstore (i := 4) (ls' := [(4, .long x14), (3, .int x10), (0, .ref p0), (1, .int p1), (2, .int p2)]) (show decode _ _ = .ok (.lstore 4, 2) by decide +kernel) (by decide) rfl ?_
    refine fw_aload_n (i := 0) 2 rfl (show decode _ _ = .ok (.aload_n 0, 1) by decide +kernel) ?_
    refine fw_iload_n (i := 1) 3 rfl (show decode _ _ = .ok (.iload_n 1, 1) by decide +kernel) ?_
    refine fw_iload_n (i := 2) 4 rfl (show decode _ _ = .ok (.iload_n 2, 1) by decide +kernel) ?_
    refine fw_iconst (v := (0 : Int32)) (show decode _ _ = .ok (.iconst 0, 1) by decide +kernel) (by decide) ?_
    refine fw_iconst (v := (0 : Int32)) (show decode _ _ = .ok (.iconst 0, 1) by decide +kernel) (by decide) ?_
    refine fw_callV (mt' := mtX11_best) (mc := 0) (ms := 0) (As := [.int p1, .int p2, .int (0 : Int32), .int (0 : Int32)]) (rest := []) 4 11 n11 (show decode _ _ = .ok (.invokevirtual 450, 3) by decide +kernel) cv_X11_450 ⟨_, rfl, rfl⟩ hr12 hs13 rfl (Nat.le_of_ble_eq_true rfl) (s_X11_best (d := d) (hd_le hd (by decide)) h_7) (by decide) (by decide) (kI (bc' := 0) (bs' := 0) (by decide) (by decide) (fun x17 M16 h_8 => ?_))
    refine fw_istore_n (i := 3) (ls' := [(3, .int x17), (4, .long x14), (0, .ref p0), (1, .int p1), (2, .int p2)]) (show decode _ _ = .ok (.istore_n 3, 1) by decide +kernel) (by decide) rfl ?_
    refine fw_ldc2 (idx := 453) (v := (2 : Int64)) (show decode _ _ = .ok (.ldc2_w 453, 3) by decide +kernel) wd1947 ?_
    refine fw_aload_n (i := 0) 2 rfl (show decode _ _ = .ok (.aload_n 0, 1) by decide +kernel) ?_
    obtain ⟨⟨hr19, n18, hs20⟩, h_9⟩ := h_8
    refine fw_getJ (kd := 11) (k := 28) (show decode _ _ = .ok (.getfield 444, 3) by decide +kernel) gf_X11_444 hr19 hs20 rfl ?_
    refine fw_lmul (show decode _ _ = .ok (.lmul, 1) by decide +kernel) ?_
    refine fw_lload (i := 4) 1 rfl (show decode _ _ = .ok (.lload 4, 2) by decide +kernel) ?_
    refine fw_lcmp (show decode _ _ = .ok (.lcmp, 1) by decide +kernel) ?_
    refine fw_if_ge 54 (show decode _ _ = .ok (.ifCond .ge 7, 3) by decide +kernel) (by decide) (fun hc22 => ?_) (fun hc22 => ?_)
    · have h_10 := ipos hc22 h_9
      refine fw_ldc2 (idx := 453) (v := (2 : Int64)) (show decode _ _ = .ok (.ldc2_w 453, 3) by decide +kernel) wd1947 ?_
      refine fw_aload_n (i := 0) 2 rfl (show decode _ _ = .ok (.aload_n 0, 1) by decide +kernel) ?_
      refine fw_getJ (kd := 11) (k := 28) (show decode _ _ = .ok (.getfield 444, 3) by decide +kernel) gf_X11_444 hr19 hs20 rfl ?_
      refine fw_lmul (show decode _ _ = .ok (.lmul, 1) by decide +kernel) ?_
      refine fw_lload (i := 4) 1 rfl (show decode _ _ = .ok (.lload 4, 2) by decide +kernel) ?_
      refine fw_lcmp (show decode _ _ = .ok (.lcmp, 1) by decide +kernel) ?_
      refine fw_if_ne 72 (show decode _ _ = .ok (.ifCond .ne 7, 3) by decide +kernel) (by decide) (fun hc21 => ?_) (fun hc21 => ?_)
      · have h_11 := ineg hc21 h_10
        refine fw_iconst (v := (0 : Int32)) (show decode _ _ = .ok (.iconst 0, 1) by decide +kernel) (by decide) ?_
        exact fw_ret (v := some (.int (0 : Int32))) .ireturn (show decode _ _ = .ok (.ireturn, 1) by decide +kernel) ⟨rfl, Or.inl rfl⟩ ⟨_, rfl, h_11⟩
      · have h_12 := ipos hc21 h_10
        refine fw_iconst (v := (2 : Int32)) (show decode _ _ = .ok (.iconst 2, 1) by decide +kernel) (by decide) ?_
        refine fw_goto 73 (show decode _ _ = .ok (.goto 4, 3) by decide +kernel) (by decide) ?_
        exact fw_ret (v := some (.int (2 : Int32))) .ireturn (show decode _ _ = .ok (.ireturn, 1) by decide +kernel) ⟨rfl, Or.inl rfl⟩ ⟨_, rfl, h_12⟩
    · have h_13 := ineg hc22 h_9
      refine fw_iconst (v := (1 : Int32)) (show decode _ _ = .ok (.iconst 1, 1) by decide +kernel) (by decide) ?_
      refine fw_goto 73 (show decode _ _ = .ok (.goto 22, 3) by decide +kernel) (by decide) ?_
      exact fw_ret (v := some (.int (1 : Int32))) .ireturn (show decode _ _ = .ok (.ireturn, 1) by decide +kernel) ⟨rfl, Or.inl rfl⟩ ⟨_, rfl, h_13⟩
  · have h_14 := ipos hc23 h_2
    refine fw_iconst (v := (-1 : Int32)) (show decode _ _ = .ok (.iconst (-1), 1) by decide +kernel) (by decide) ?_
    exact fw_ret (v := some (.int (-1 : Int32))) .ireturn (show decode _ _ = .ok (.ireturn, 1) by decide +kernel) ⟨rfl, Or.inl rfl⟩ ⟨_, rfl, h_14⟩
def w_X11_told (p0 : Nat) (p1 : Int32) (M : fM) (φ : Int32 → fM → Prop) : Prop := isO M p0 11 ∧ dR (mP M p0 0) fun y4 => inA M y4 12 (7 : Int32) ∧ nm ((mI M y4 (ix (7 : Int32))) ||| ((1 : Int32) <<< (p1 &&& 31))) fun x9 => 6 ≤ y4 ∧ inA M y4 12 (7 : Int32) ∧ st (wI M y4 (ix (7 : Int32)) x9) fun M15 => φ (1 : Int32) M15
set_option maxRecDepth 100000 in
theorem s_X11_told {g : GT} {d : Nat} (hd : 1 ≤ d) {p0 : Nat} {p1 : Int32} {M : fM} {φ : Int32 → fM → Prop} (h : w_X11_told p0 p1 M φ) : FC g mtX11_told d [.ref p0, .int p1] M 0 0 (rI φ) := by
  obtain ⟨d, rfl⟩ : ∃ e, d = e + 1 := ⟨d - 1, by omega⟩
  unfold w_X11_told at h
  refine FC.intro (nL := 2) (by decide) rfl (Nat.le_of_ble_eq_true rfl) ?_
  show FW g mtX11_told (d + 1) 0 [(0, .ref p0), (1, .int p1)] [] M 0 0 (rI φ)
  refine fw_aload_n (i := 0) 0 rfl (show decode _ _ = .ok (.aload_n 0, 1) by decide +kernel) ?_
  obtain ⟨⟨hr2, n1, hs3⟩, h_1⟩ := h
  refine fw_getP (kd := 11) (k := 0) (show decode _ _ = .ok (.getfield 7, 3) by decide +kernel) gf_X11_7 hr2 hs3 rfl ?_
  have h_2 := dR_e h_1
  obtain ⟨y4, hy5, h_3⟩ := h_2
  refine fw_deref hy5 ?_
  refine fw_bipush (v := (7 : Int32)) (show decode _ _ = .ok (.bipush 7, 2) by decide +kernel) (by decide) ?_
  refine fw_dup2_11 (show decode _ _ = .ok (.dup2, 1) by decide +kernel) rfl rfl ?_
  obtain ⟨⟨n6, hs7, hi8⟩, h_4⟩ := h_3
  refine fw_iald (show decode _ _ = .ok (.iaload, 1) by decide +kernel) hs7 hi8 ?_
  refine fw_iconst (v := (1 : Int32)) (show decode _ _ = .ok (.iconst 1, 1) by decide +kernel) (by decide) ?_
  refine fw_iload_n (i := 1) 1 rfl (show decode _ _ = .ok (.iload_n 1, 1) by decide +kernel) ?_
  refine fw_ishl (show decode _ _ = .ok (.ishl, 1) by decide +kernel) ?_
  refine fw_ior (show decode _ _ = .ok (.ior, 1) by decide +kernel) ?_
  refine fw_nmI (fun x9 ex10 => ?_)
  have h_5 := h_4 x9 ex10
  obtain ⟨hr14, ⟨n11, hs12, hi13⟩, h_6⟩ := h_5
  refine fw_iast (show decode _ _ = .ok (.iastore, 1) by decide +kernel) hr14 hs12 hi13 ?_
  refine FW.nmM (fun M15 eM16 => ?_)
  have h_7 := h_6 M15 eM16
  refine fw_iconst (v := (1 : Int32)) (show decode _ _ = .ok (.iconst 1, 1) by decide +kernel) (by decide) ?_
  exact fw_ret (v := some (.int (1 : Int32))) .ireturn (show decode _ _ = .ok (.ireturn, 1) by decide +kernel) ⟨rfl, Or.inr (Or.inl ⟨rfl, rfl⟩)⟩ ⟨_, rfl, h_7⟩
def w_X11_height (p0 : Nat) (p1 : Int32) (p2 : Int32) (p3 : Int32) (M : fM) (φ : Int32 → fM → Prop) : Prop := isO M p0 11 ∧ w_X11_isStep p0 p1 p2 M fun x5 M1 => iF (x5 = 0) (φ (0 : Int32) M1) (w_X11_isIn p3 (1 : Int32) (9 : Int32) M1 fun x7 M6 => iF (x7 = 0) (φ (0 : Int32) M6) (isO M6 p0 11 ∧ dR (mP M6 p0 0) fun y11 => 6 ≤ y11 ∧ inA M6 y11 12 ((((10 : Int32) + ((18 : Int32) * p1)) + (3 : Int32)) + p2) ∧ st (wI M6 y11 (ix ((((10 : Int32) + ((18 : Int32) * p1)) + (3 : Int32)) + p2)) p3) fun M17 => w_X11_told p0 p1 M17 fun x20 M19 => isB x20 ∧ φ x20 M19))
set_option maxRecDepth 100000 in
theorem s_X11_height {g : GT} {d : Nat} (hd : 4 ≤ d) {p0 : Nat} {p1 : Int32} {p2 : Int32} {p3 : Int32} {M : fM} {φ : Int32 → fM → Prop} (h : w_X11_height p0 p1 p2 p3 M φ) : FC g mtX11_height d [.ref p0, .int p1, .int p2, .int p3] M 0 0 (rI φ) := by
  obtain ⟨d, rfl⟩ : ∃ e, d = e + 1 := ⟨d - 1, by omega⟩
  unfold w_X11_height at h
  refine FC.intro (nL := 4) (by decide) rfl (Nat.le_of_ble_eq_true rfl) ?_
  show FW g mtX11_height (d + 1) 0 [(0, .ref p0), (1, .int p1), (2, .int p2), (3, .int p3)] [] M 0 0 (rI φ)
  refine fw_aload_n (i := 0) 0 rfl (show decode _ _ = .ok (.aload_n 0, 1) by decide +kernel) ?_
  refine fw_iload_n (i := 1) 1 rfl (show decode _ _ = .ok (.iload_n 1, 1) by decide +kernel) ?_
  refine fw_iload_n (i := 2) 2 rfl (show decode _ _ = .ok (.iload_n 2, 1) by decide +kernel) ?_
  obtain ⟨⟨hr3, n2, hs4⟩, h_1⟩ := h
  refine fw_callV (mt' := mtX11_isStep) (mc := 0) (ms := 0) (As := [.int p1, .int p2]) (rest := []) 2 11 n2 (show decode _ _ = .ok (.invokevirtual 81, 3) by decide +kernel) cv_X11_81 ⟨_, rfl, rfl⟩ hr3 hs4 rfl (Nat.le_of_ble_eq_true rfl) (s_X11_isStep (d := d) (hd_le hd (by decide)) h_1) (by decide) (by decide) (kI (bc' := 0) (bs' := 0) (by decide) (by decide) (fun x5 M1 h_2 => ?_))
  refine fw_if_eq 19 (show decode _ _ = .ok (.ifCond .eq 13, 3) by decide +kernel) (by decide) (fun hc22 => ?_) (fun hc22 => ?_)
  · have h_3 := ipos hc22 h_2
    refine fw_iconst (v := (0 : Int32)) (show decode _ _ = .ok (.iconst 0, 1) by decide +kernel) (by decide) ?_
    exact fw_ret (v := some (.int (0 : Int32))) .ireturn (show decode _ _ = .ok (.ireturn, 1) by decide +kernel) ⟨rfl, Or.inr (Or.inl ⟨rfl, rfl⟩)⟩ ⟨_, rfl, h_3⟩
  · have h_4 := ineg hc22 h_2
    refine fw_iload_n (i := 3) 3 rfl (show decode _ _ = .ok (.iload_n 3, 1) by decide +kernel) ?_
    refine fw_iconst (v := (1 : Int32)) (show decode _ _ = .ok (.iconst 1, 1) by decide +kernel) (by decide) ?_
    refine fw_bipush (v := (9 : Int32)) (show decode _ _ = .ok (.bipush 9, 2) by decide +kernel) (by decide) ?_
    refine fw_callS (mt' := mtX11_isIn) (mc := 0) (ms := 0) (As := [.int p3, .int (1 : Int32), .int (9 : Int32)]) (rest := []) 3 (show decode _ _ = .ok (.invokestatic 66, 3) by decide +kernel) cs_X11_66 rfl (Nat.le_of_ble_eq_true rfl) (s_X11_isIn (d := d) (hd_le hd (by decide)) h_4) (by decide) (by decide) (kI (bc' := 0) (bs' := 0) (by decide) (by decide) (fun x7 M6 h_5 => ?_))
    refine fw_if_ne 21 (show decode _ _ = .ok (.ifCond .ne 5, 3) by decide +kernel) (by decide) (fun hc21 => ?_) (fun hc21 => ?_)
    · have h_6 := ineg hc21 h_5
      refine fw_aload_n (i := 0) 0 rfl (show decode _ _ = .ok (.aload_n 0, 1) by decide +kernel) ?_
      obtain ⟨⟨hr9, n8, hs10⟩, h_7⟩ := h_6
      refine fw_getP (kd := 11) (k := 0) (show decode _ _ = .ok (.getfield 7, 3) by decide +kernel) gf_X11_7 hr9 hs10 rfl ?_
      have h_8 := dR_e h_7
      obtain ⟨y11, hy12, h_9⟩ := h_8
      refine fw_deref hy12 ?_
      refine fw_bipush (v := (10 : Int32)) (show decode _ _ = .ok (.bipush 10, 2) by decide +kernel) (by decide) ?_
      refine fw_bipush (v := (18 : Int32)) (show decode _ _ = .ok (.bipush 18, 2) by decide +kernel) (by decide) ?_
      refine fw_iload_n (i := 1) 1 rfl (show decode _ _ = .ok (.iload_n 1, 1) by decide +kernel) ?_
      refine fw_imul (show decode _ _ = .ok (.imul, 1) by decide +kernel) ?_
      refine fw_iadd (show decode _ _ = .ok (.iadd, 1) by decide +kernel) ?_
      refine fw_iconst (v := (3 : Int32)) (show decode _ _ = .ok (.iconst 3, 1) by decide +kernel) (by decide) ?_
      refine fw_iadd (show decode _ _ = .ok (.iadd, 1) by decide +kernel) ?_
      refine fw_iload_n (i := 2) 2 rfl (show decode _ _ = .ok (.iload_n 2, 1) by decide +kernel) ?_
      refine fw_iadd (show decode _ _ = .ok (.iadd, 1) by decide +kernel) ?_
      refine fw_iload_n (i := 3) 3 rfl (show decode _ _ = .ok (.iload_n 3, 1) by decide +kernel) ?_
      obtain ⟨hr16, ⟨n13, hs14, hi15⟩, h_10⟩ := h_9
      refine fw_iast (show decode _ _ = .ok (.iastore, 1) by decide +kernel) hr16 hs14 hi15 ?_
      refine FW.nmM (fun M17 eM18 => ?_)
      have h_11 := h_10 M17 eM18
      refine fw_aload_n (i := 0) 0 rfl (show decode _ _ = .ok (.aload_n 0, 1) by decide +kernel) ?_
      refine fw_iload_n (i := 1) 1 rfl (show decode _ _ = .ok (.iload_n 1, 1) by decide +kernel) ?_
      refine fw_callV (mt' := mtX11_told) (mc := 0) (ms := 0) (As := [.int p1]) (rest := []) 1 11 n8 (show decode _ _ = .ok (.invokevirtual 78, 3) by decide +kernel) cv_X11_78 ⟨_, rfl, rfl⟩ hr9 (mSw_I eM18 hs10) rfl (Nat.le_of_ble_eq_true rfl) (s_X11_told (d := d) (hd_le hd (by decide)) h_11) (by decide) (by decide) (kI (bc' := 0) (bs' := 0) (by decide) (by decide) (fun x20 M19 h_12 => ?_))
      obtain ⟨hbb, h_13⟩ := h_12
      exact fw_ret (v := some (.int x20)) .ireturn (show decode _ _ = .ok (.ireturn, 1) by decide +kernel) ⟨rfl, Or.inr (Or.inl ⟨rfl, hbb⟩)⟩ ⟨_, rfl, h_13⟩
    · have h_14 := ipos hc21 h_5
      refine fw_iconst (v := (0 : Int32)) (show decode _ _ = .ok (.iconst 0, 1) by decide +kernel) (by decide) ?_
      exact fw_ret (v := some (.int (0 : Int32))) .ireturn (show decode _ _ = .ok (.ireturn, 1) by decide +kernel) ⟨rfl, Or.inr (Or.inl ⟨rfl, rfl⟩)⟩ ⟨_, rfl, h_14⟩
def w_X11_house (p0 : Nat) (p1 : Int32) (p2 : Int32) (M : fM) (φ : Int32 → fM → Prop) : Prop := w_X11_isHouse p1 M fun x2 M1 => iF (x2 = 0) (φ (-1 : Int32) M1) (isO M1 p0 11 ∧ w_X11_stepsOf p0 p1 M1 fun x7 M3 => w_X11_isIn p2 (11 : Int32) ((10 : Int32) + x7) M3 fun x9 M8 => iF (x9 = 0) (w_X11_isIn p2 (0 : Int32) (2 : Int32) M8 fun x11 M10 => iF (x11 = 0) (φ (-1 : Int32) M10) (isO M10 p0 11 ∧ dR (mP M10 p0 0) fun y15 => inA M10 y15 12 (((10 : Int32) + ((18 : Int32) * p1)) + p2) ∧ φ (mI M10 y15 (ix (((10 : Int32) + ((18 : Int32) * p1)) + p2))) M10)) (isO M8 p0 11 ∧ w_X11_heightOf p0 p1 (p2 - (10 : Int32)) M8 fun x25 M21 => φ x25 M21))
set_option maxRecDepth 100000 in
theorem s_X11_house {g : GT} {d : Nat} (hd : 3 ≤ d) {p0 : Nat} {p1 : Int32} {p2 : Int32} {M : fM} {φ : Int32 → fM → Prop} (h : w_X11_house p0 p1 p2 M φ) : FC g mtX11_house d [.ref p0, .int p1, .int p2] M 0 0 (rI φ) := by
  obtain ⟨d, rfl⟩ : ∃ e, d = e + 1 := ⟨d - 1, by omega⟩
  unfold w_X11_house at h
  refine FC.intro (nL := 3) (by decide) rfl (Nat.le_of_ble_eq_true rfl) ?_
  show FW g mtX11_house (d + 1) 0 [(0, .ref p0), (1, .int p1), (2, .int p2)] [] M 0 0 (rI φ)
  refine fw_iload_n (i := 1) 1 rfl (show decode _ _ = .ok (.iload_n 1, 1) by decide +kernel) ?_
  refine fw_callS (mt' := mtX11_isHouse) (mc := 0) (ms := 0) (As := [.int p1]) (rest := []) 1 (show decode _ _ = .ok (.invokestatic 70, 3) by decide +kernel) cs_X11_70 rfl (Nat.le_of_ble_eq_true rfl) (s_X11_isHouse (d := d) (hd_le hd (by decide)) h) (by decide) (by decide) (kI (bc' := 0) (bs' := 0) (by decide) (by decide) (fun x2 M1 h_1 => ?_))
  refine fw_if_ne 9 (show decode _ _ = .ok (.ifCond .ne 5, 3) by decide +kernel) (by decide) (fun hc27 => ?_) (fun hc27 => ?_)
  · have h_2 := ineg hc27 h_1
    refine fw_iload_n (i := 2) 2 rfl (show decode _ _ = .ok (.iload_n 2, 1) by decide +kernel) ?_
    refine fw_bipush (v := (11 : Int32)) (show decode _ _ = .ok (.bipush 11, 2) by decide +kernel) (by decide) ?_
    refine fw_bipush (v := (10 : Int32)) (show decode _ _ = .ok (.bipush 10, 2) by decide +kernel) (by decide) ?_
    refine fw_aload_n (i := 0) 0 rfl (show decode _ _ = .ok (.aload_n 0, 1) by decide +kernel) ?_
    refine fw_iload_n (i := 1) 1 rfl (show decode _ _ = .ok (.iload_n 1, 1) by decide +kernel) ?_
    obtain ⟨⟨hr5, n4, hs6⟩, h_3⟩ := h_2
    refine fw_callV (mt' := mtX11_stepsOf) (mc := 0) (ms := 0) (As := [.int p1]) (rest := [.int (10 : Int32), .int (11 : Int32), .int p2]) 1 11 n4 (show decode _ _ = .ok (.invokevirtual 74, 3) by decide +kernel) cv_X11_74 ⟨_, rfl, rfl⟩ hr5 hs6 rfl (Nat.le_of_ble_eq_true rfl) (s_X11_stepsOf (d := d) (hd_le hd (by decide)) h_3) (by decide) (by decide) (kI (bc' := 0) (bs' := 0) (by decide) (by decide) (fun x7 M3 h_4 => ?_))
    refine fw_iadd (show decode _ _ = .ok (.iadd, 1) by decide +kernel) ?_
    refine fw_callS (mt' := mtX11_isIn) (mc := 0) (ms := 0) (As := [.int p2, .int (11 : Int32), .int ((10 : Int32) + x7)]) (rest := []) 3 (show decode _ _ = .ok (.invokestatic 66, 3) by decide +kernel) cs_X11_66 rfl (Nat.le_of_ble_eq_true rfl) (s_X11_isIn (d := d) (hd_le hd (by decide)) h_4) (by decide) (by decide) (kI (bc' := 0) (bs' := 0) (by decide) (by decide) (fun x9 M8 h_5 => ?_))
    refine fw_if_eq 36 (show decode _ _ = .ok (.ifCond .eq 13, 3) by decide +kernel) (by decide) (fun hc26 => ?_) (fun hc26 => ?_)
    · have h_6 := ipos hc26 h_5
      refine fw_iload_n (i := 2) 2 rfl (show decode _ _ = .ok (.iload_n 2, 1) by decide +kernel) ?_
      refine fw_iconst (v := (0 : Int32)) (show decode _ _ = .ok (.iconst 0, 1) by decide +kernel) (by decide) ?_
      refine fw_iconst (v := (2 : Int32)) (show decode _ _ = .ok (.iconst 2, 1) by decide +kernel) (by decide) ?_
      refine fw_callS (mt' := mtX11_isIn) (mc := 0) (ms := 0) (As := [.int p2, .int (0 : Int32), .int (2 : Int32)]) (rest := []) 3 (show decode _ _ = .ok (.invokestatic 66, 3) by decide +kernel) cs_X11_66 rfl (Nat.le_of_ble_eq_true rfl) (s_X11_isIn (d := d) (hd_le hd (by decide)) h_6) (by decide) (by decide) (kI (bc' := 0) (bs' := 0) (by decide) (by decide) (fun x11 M10 h_7 => ?_))
      refine fw_if_eq 62 (show decode _ _ = .ok (.ifCond .eq 20, 3) by decide +kernel) (by decide) (fun hc20 => ?_) (fun hc20 => ?_)
      · have h_8 := ipos hc20 h_7
        refine fw_iconst (v := (-1 : Int32)) (show decode _ _ = .ok (.iconst (-1), 1) by decide +kernel) (by decide) ?_
        exact fw_ret (v := some (.int (-1 : Int32))) .ireturn (show decode _ _ = .ok (.ireturn, 1) by decide +kernel) ⟨rfl, Or.inl rfl⟩ ⟨_, rfl, h_8⟩
      · have h_9 := ineg hc20 h_7
        refine fw_aload_n (i := 0) 0 rfl (show decode _ _ = .ok (.aload_n 0, 1) by decide +kernel) ?_
        obtain ⟨⟨hr13, n12, hs14⟩, h_10⟩ := h_9
        refine fw_getP (kd := 11) (k := 0) (show decode _ _ = .ok (.getfield 7, 3) by decide +kernel) gf_X11_7 hr13 hs14 rfl ?_
        have h_11 := dR_e h_10
        obtain ⟨y15, hy16, h_12⟩ := h_11
        refine fw_deref hy16 ?_
        refine fw_bipush (v := (10 : Int32)) (show decode _ _ = .ok (.bipush 10, 2) by decide +kernel) (by decide) ?_
        refine fw_bipush (v := (18 : Int32)) (show decode _ _ = .ok (.bipush 18, 2) by decide +kernel) (by decide) ?_
        refine fw_iload_n (i := 1) 1 rfl (show decode _ _ = .ok (.iload_n 1, 1) by decide +kernel) ?_
        refine fw_imul (show decode _ _ = .ok (.imul, 1) by decide +kernel) ?_
        refine fw_iadd (show decode _ _ = .ok (.iadd, 1) by decide +kernel) ?_
        refine fw_iload_n (i := 2) 2 rfl (show decode _ _ = .ok (.iload_n 2, 1) by decide +kernel) ?_
        refine fw_iadd (show decode _ _ = .ok (.iadd, 1) by decide +kernel) ?_
        obtain ⟨⟨n17, hs18, hi19⟩, h_13⟩ := h_12
        refine fw_iald (show decode _ _ = .ok (.iaload, 1) by decide +kernel) hs18 hi19 ?_
        refine fw_goto 63 (show decode _ _ = .ok (.goto 4, 3) by decide +kernel) (by decide) ?_
        exact fw_ret (v := some (.int (mI M10 y15 (ix (((10 : Int32) + ((18 : Int32) * p1)) + p2))))) .ireturn (show decode _ _ = .ok (.ireturn, 1) by decide +kernel) ⟨rfl, Or.inl rfl⟩ ⟨_, rfl, h_13⟩
    · have h_14 := ineg hc26 h_5
      refine fw_aload_n (i := 0) 0 rfl (show decode _ _ = .ok (.aload_n 0, 1) by decide +kernel) ?_
      refine fw_iload_n (i := 1) 1 rfl (show decode _ _ = .ok (.iload_n 1, 1) by decide +kernel) ?_
      refine fw_iload_n (i := 2) 2 rfl (show decode _ _ = .ok (.iload_n 2, 1) by decide +kernel) ?_
      refine fw_bipush (v := (10 : Int32)) (show decode _ _ = .ok (.bipush 10, 2) by decide +kernel) (by decide) ?_
      refine fw_isub (show decode _ _ = .ok (.isub, 1) by decide +kernel) ?_
      obtain ⟨⟨hr23, n22, hs24⟩, h_15⟩ := h_14
      refine fw_callV (mt' := mtX11_heightOf) (mc := 0) (ms := 0) (As := [.int p1, .int (p2 - (10 : Int32))]) (rest := []) 2 11 n22 (show decode _ _ = .ok (.invokevirtual 300, 3) by decide +kernel) cv_X11_300 ⟨_, rfl, rfl⟩ hr23 hs24 rfl (Nat.le_of_ble_eq_true rfl) (s_X11_heightOf (d := d) (hd_le hd (by decide)) h_15) (by decide) (by decide) (kI (bc' := 0) (bs' := 0) (by decide) (by decide) (fun x25 M21 h_16 => ?_))
      exact fw_ret (v := some (.int x25)) .ireturn (show decode _ _ = .ok (.ireturn, 1) by decide +kernel) ⟨rfl, Or.inl rfl⟩ ⟨_, rfl, h_16⟩
  · have h_17 := ipos hc27 h_1
    refine fw_iconst (v := (-1 : Int32)) (show decode _ _ = .ok (.iconst (-1), 1) by decide +kernel) (by decide) ?_
    exact fw_ret (v := some (.int (-1 : Int32))) .ireturn (show decode _ _ = .ok (.ireturn, 1) by decide +kernel) ⟨rfl, Or.inl rfl⟩ ⟨_, rfl, h_17⟩
def w_X11_image (p0 : Nat) (M : fM) (φ : Int32 → fM → Prop) : Prop := isO M p0 11 ∧ dR (mP M p0 0) fun y4 => dR (mP M p0 1) fun y6 => w_X11_copy y4 y6 M fun M8 => isO M8 p0 11 ∧ dR (mP M8 p0 0) fun y12 => inA M8 y12 12 (1 : Int32) ∧ φ (mI M8 y12 (ix (1 : Int32))) M8
set_option maxRecDepth 100000 in
theorem s_X11_image {g : GT} {d : Nat} (hd : 2 ≤ d) {p0 : Nat} {M : fM} {φ : Int32 → fM → Prop} (h : w_X11_image p0 M φ) : FC g mtX11_image d [.ref p0] M 0 0 (rI φ) := by
  obtain ⟨d, rfl⟩ : ∃ e, d = e + 1 := ⟨d - 1, by omega⟩
  unfold w_X11_image at h
  refine FC.intro (nL := 1) (by decide) rfl (Nat.le_of_ble_eq_true rfl) ?_
  show FW g mtX11_image (d + 1) 0 [(0, .ref p0)] [] M 0 0 (rI φ)
  refine fw_aload_n (i := 0) 0 rfl (show decode _ _ = .ok (.aload_n 0, 1) by decide +kernel) ?_
  obtain ⟨⟨hr2, n1, hs3⟩, h_1⟩ := h
  refine fw_getP (kd := 11) (k := 0) (show decode _ _ = .ok (.getfield 7, 3) by decide +kernel) gf_X11_7 hr2 hs3 rfl ?_
  have h_2 := dR_e h_1
  obtain ⟨y4, hy5, h_3⟩ := h_2
  refine fw_deref hy5 ?_
  refine fw_aload_n (i := 0) 0 rfl (show decode _ _ = .ok (.aload_n 0, 1) by decide +kernel) ?_
  refine fw_getP (kd := 11) (k := 1) (show decode _ _ = .ok (.getfield 13, 3) by decide +kernel) gf_X11_13 hr2 hs3 rfl ?_
  have h_4 := dR_e h_3
  obtain ⟨y6, hy7, h_5⟩ := h_4
  refine fw_deref hy7 ?_
  refine fw_callS (mt' := mtX11_copy) (mc := 0) (ms := 0) (As := [.ref y4, .ref y6]) (rest := []) 2 (show decode _ _ = .ok (.invokestatic 56, 3) by decide +kernel) cs_X11_56 rfl (Nat.le_of_ble_eq_true rfl) (s_X11_copy (d := d) (hd_le hd (by decide)) h_5) (by decide) (by decide) (kV (bc' := 0) (bs' := 0) (by decide) (by decide) (fun M8 h_6 => ?_))
  refine fw_aload_n (i := 0) 0 rfl (show decode _ _ = .ok (.aload_n 0, 1) by decide +kernel) ?_
  obtain ⟨⟨hr10, n9, hs11⟩, h_7⟩ := h_6
  refine fw_getP (kd := 11) (k := 0) (show decode _ _ = .ok (.getfield 7, 3) by decide +kernel) gf_X11_7 hr10 hs11 rfl ?_
  have h_8 := dR_e h_7
  obtain ⟨y12, hy13, h_9⟩ := h_8
  refine fw_deref hy13 ?_
  refine fw_iconst (v := (1 : Int32)) (show decode _ _ = .ok (.iconst 1, 1) by decide +kernel) (by decide) ?_
  obtain ⟨⟨n14, hs15, hi16⟩, h_10⟩ := h_9
  refine fw_iald (show decode _ _ = .ok (.iaload, 1) by decide +kernel) hs15 hi16 ?_
  exact fw_ret (v := some (.int (mI M8 y12 (ix (1 : Int32))))) .ireturn (show decode _ _ = .ok (.ireturn, 1) by decide +kernel) ⟨rfl, Or.inl rfl⟩ ⟨_, rfl, h_10⟩
def b_X11_init_128 (K128 : Nat → Int32 → fM → Prop) (φ : fM → Prop) (p0 : Nat) (p1 : Int32) (M : fM) : Prop := iF ((4 : Int32) ≤ p1) (isO M p0 11 ∧ dR (mP M p0 0) fun y4 => dR (mP M p0 1) fun y6 => w_X11_copy y4 y6 M fun M8 => φ M8) (isO M p0 11 ∧ w_X11_build p0 p1 (12 : Int32) M fun M9 => nm (p1 + (1 : Int32)) fun x13 => K128 p0 x13 M9)
def l_X11_init_128 (φ : fM → Prop) : Nat → Nat → Int32 → fM → Prop
  | 0, _, _, _ => False
  | n + 1, p0, p1, M => b_X11_init_128 (l_X11_init_128 φ n) φ p0 p1 M
set_option maxRecDepth 100000 in
theorem sb_X11_init_128 {g : GT} {d : Nat} (hd : 2 ≤ d + 1) {K128 : Nat → Int32 → fM → Prop} {φ : fM → Prop} (hK128 : ∀ (p0 : Nat) (p1 : Int32) (M : fM), K128 p0 p1 M → FW g mtX11_init (d + 1) 128 [(0, .ref p0), (1, .int p1)] [] M 0 0 (rV φ)) {p0 : Nat} {p1 : Int32} {M : fM} (h : b_X11_init_128 K128 φ p0 p1 M) : FW g mtX11_init (d + 1) 128 [(0, .ref p0), (1, .int p1)] [] M 0 0 (rV φ) := by
  unfold b_X11_init_128 at h
  refine fw_iload_n (i := 1) 1 rfl (show decode _ _ = .ok (.iload_n 1, 1) by decide +kernel) ?_
  refine fw_iconst (v := (4 : Int32)) (show decode _ _ = .ok (.iconst 4, 1) by decide +kernel) (by decide) ?_
  refine fw_icmp_ge 146 (show decode _ _ = .ok (.if_icmp .ge 16, 3) by decide +kernel) (by decide) (fun hc15 => ?_) (fun hc15 => ?_)
  · have h_1 := ipos hc15 h
    refine fw_aload_n (i := 0) 0 rfl (show decode _ _ = .ok (.aload_n 0, 1) by decide +kernel) ?_
    obtain ⟨⟨hr2, n1, hs3⟩, h_2⟩ := h_1
    refine fw_getP (kd := 11) (k := 0) (show decode _ _ = .ok (.getfield 7, 3) by decide +kernel) gf_X11_7 hr2 hs3 rfl ?_
    have h_3 := dR_e h_2
    obtain ⟨y4, hy5, h_4⟩ := h_3
    refine fw_deref hy5 ?_
    refine fw_aload_n (i := 0) 0 rfl (show decode _ _ = .ok (.aload_n 0, 1) by decide +kernel) ?_
    refine fw_getP (kd := 11) (k := 1) (show decode _ _ = .ok (.getfield 13, 3) by decide +kernel) gf_X11_13 hr2 hs3 rfl ?_
    have h_5 := dR_e h_4
    obtain ⟨y6, hy7, h_6⟩ := h_5
    refine fw_deref hy7 ?_
    refine fw_callS (mt' := mtX11_copy) (mc := 0) (ms := 0) (As := [.ref y4, .ref y6]) (rest := []) 2 (show decode _ _ = .ok (.invokestatic 56, 3) by decide +kernel) cs_X11_56 rfl (Nat.le_of_ble_eq_true rfl) (s_X11_copy (d := d) (hd_le hd (by decide)) h_6) (by decide) (by decide) (kV (bc' := 0) (bs' := 0) (by decide) (by decide) (fun M8 h_7 => ?_))
    exact fw_ret (v := none) .return_ (show decode _ _ = .ok (.return_, 1) by decide +kernel) ⟨rfl, rfl⟩ ⟨rfl, h_7⟩
  · have h_8 := ineg hc15 h
    refine fw_aload_n (i := 0) 0 rfl (show decode _ _ = .ok (.aload_n 0, 1) by decide +kernel) ?_
    refine fw_iload_n (i := 1) 1 rfl (show decode _ _ = .ok (.iload_n 1, 1) by decide +kernel) ?_
    refine fw_bipush (v := (12 : Int32)) (show decode _ _ = .ok (.bipush 12, 2) by decide +kernel) (by decide) ?_
    obtain ⟨⟨hr11, n10, hs12⟩, h_9⟩ := h_8
    refine fw_callV (mt' := mtX11_build) (mc := 0) (ms := 0) (As := [.int p1, .int (12 : Int32)]) (rest := []) 2 11 n10 (show decode _ _ = .ok (.invokevirtual 52, 3) by decide +kernel) cv_X11_52 ⟨_, rfl, rfl⟩ hr11 hs12 rfl (Nat.le_of_ble_eq_true rfl) (s_X11_build (d := d) (hd_le hd (by decide)) h_9) (by decide) (by decide) (kV (bc' := 0) (bs' := 0) (by decide) (by decide) (fun M9 h_10 => ?_))
    obtain ⟨x13, ex14⟩ : ∃ y : Int32, y = p1 + (1 : Int32) := ⟨_, rfl⟩
    have h_11 := h_10 x13 ex14
    refine fw_iinc (i := 1) (x := p1) (v := x13) (ls' := [(1, .int x13), (0, .ref p0)]) 1 rfl (show decode _ _ = .ok (.iinc 1 1, 3) by decide +kernel) (by rw [ex14]; rfl) (by decide) rfl ?_
    refine fw_goto 128 (show decode _ _ = .ok (.goto (-15), 3) by decide +kernel) (by decide) ?_
    refine FW.sub [1, 0] (ls' := [(0, .ref p0), (1, .int x13)]) rfl ?_
    exact hK128 _ _ _ h_11
theorem sl_X11_init_128 {g : GT} {d : Nat} (hd : 2 ≤ d + 1) {φ : fM → Prop} : ∀ (n : Nat) {p0 : Nat} {p1 : Int32} {M : fM}, l_X11_init_128 φ n p0 p1 M → FW g mtX11_init (d + 1) 128 [(0, .ref p0), (1, .int p1)] [] M 0 0 (rV φ)
  | 0 => fun h => h.elim
  | n + 1 => fun h => sb_X11_init_128 hd (fun _ _ _ h => sl_X11_init_128 hd n h) h
def w_X11_init (p0 : Nat) (M : fM) (φ : fM → Prop) : Prop := nw M 12 (ix (2565 : Int32)) fun q16 M18 => isO M18 p0 11 ∧ st (wP M18 p0 0 (some q16)) fun M23 => nw M23 12 (ix (2565 : Int32)) fun q25 M27 => st (wP M27 p0 1 (some q25)) fun M29 => nw M29 12 (ix (2820 : Int32)) fun q31 M33 => st (wP M33 p0 2 (some q31)) fun M35 => nw M35 12 (ix (300 : Int32)) fun q37 M39 => st (wP M39 p0 3 (some q37)) fun M41 => st (wI M41 p0 5 (-1 : Int32)) fun M43 => st (wI M43 p0 6 (-1 : Int32)) fun M45 => nw M45 12 (ix (160 : Int32)) fun q47 M49 => st (wP M49 p0 16 (some q47)) fun M51 => nw M51 12 (ix (10 : Int32)) fun q53 M55 => st (wP M55 p0 21 (some q53)) fun M57 => nw M57 13 (ix (330 : Int32)) fun q59 M61 => st (wP M61 p0 22 (some q59)) fun M63 => nw M63 14 (ix (330 : Int32)) fun q65 M67 => st (wP M67 p0 23 (some q65)) fun M69 => nw M69 13 (ix (480 : Int32)) fun q71 M73 => st (wP M73 p0 24 (some q71)) fun M75 => nw M75 13 (ix (17 : Int32)) fun q77 M79 => st (wP M79 p0 30 (some q77)) fun M81 => nw M81 12 (ix (160 : Int32)) fun q83 M85 => st (wP M85 p0 31 (some q83)) fun M87 => dR (mP M87 p0 0) fun y89 => 6 ≤ y89 ∧ inA M87 y89 12 (2 : Int32) ∧ st (wI M87 y89 (ix (2 : Int32)) (13 : Int32)) fun M95 => dR (mP M95 p0 0) fun y97 => 6 ≤ y97 ∧ inA M95 y97 12 (4 : Int32) ∧ st (wI M95 y97 (ix (4 : Int32)) (-1 : Int32)) fun M103 => ∃ n, l_X11_init_128 φ n p0 (0 : Int32) M103
set_option maxRecDepth 100000 in
theorem s_X11_init {g : GT} {d : Nat} (hd : 2 ≤ d) {p0 : Nat} {M : fM} {φ : fM → Prop} (h : w_X11_init p0 M φ) : FC g mtX11_init d [.ref p0] M 11 9737 (rV φ) := by
  obtain ⟨d, rfl⟩ : ∃ e, d = e + 1 := ⟨d - 1, by omega⟩
  unfold w_X11_init at h
  refine FC.intro (nL := 2) (by decide) rfl (Nat.le_of_ble_eq_true rfl) ?_
  show FW g mtX11_init (d + 1) 0 [(0, .ref p0)] [] M 11 9737 (rV φ)
  refine fw_aload_n (i := 0) 0 rfl (show decode _ _ = .ok (.aload_n 0, 1) by decide +kernel) ?_
  refine fw_objInit (idx := 1) (rest := []) (show decode _ _ = .ok (.invokespecial 1, 3) by decide +kernel) ⟨wd1384, wd155, wd156⟩ (Nat.le_of_ble_eq_true rfl) ?_
  refine fw_aload_n (i := 0) 0 rfl (show decode _ _ = .ok (.aload_n 0, 1) by decide +kernel) ?_
  refine fw_sipush (v := (2565 : Int32)) (show decode _ _ = .ok (.sipush 2565, 3) by decide +kernel) (by decide) ?_
  refine fw_newa 12 (show decode _ _ = .ok (.newarray .int, 2) by decide +kernel) (by decide) (by decide) (by decide) (by decide) (by decide) wd179 ?_
  refine FW.room (bc' := 10) (bs' := 7172) (by decide) (by decide) ?_
  refine FW.nmN (fun q16 eq17 => ?_)
  refine FW.nmM (fun M18 eM19 => ?_)
  have h_1 := h q16 M18 eq17 eM19
  obtain ⟨⟨hr21, n20, hs22⟩, h_2⟩ := h_1
  refine fw_putP (x := (some q16)) (kd := 11) (k := 0) (show decode _ _ = .ok (.putfield 7, 3) by decide +kernel) ⟨gf_X11_7, _, rfl, Or.inr ⟨rfl, rfl, rfl⟩⟩ hr21 hs22 rfl ?_
  refine FW.nmM (fun M23 eM24 => ?_)
  have h_3 := h_2 M23 eM24
  refine fw_aload_n (i := 0) 0 rfl (show decode _ _ = .ok (.aload_n 0, 1) by decide +kernel) ?_
  refine fw_sipush (v := (2565 : Int32)) (show decode _ _ = .ok (.sipush 2565, 3) by decide +kernel) (by decide) ?_
  refine fw_newa 12 (show decode _ _ = .ok (.newarray .int, 2) by decide +kernel) (by decide) (by decide) (by decide) (by decide) (by decide) wd179 ?_
  refine FW.room (bc' := 9) (bs' := 4607) (by decide) (by decide) ?_
  refine FW.nmN (fun q25 eq26 => ?_)
  refine FW.nmM (fun M27 eM28 => ?_)
  have h_4 := h_3 q25 M27 eq26 eM28
  refine fw_putP (x := (some q25)) (kd := 11) (k := 1) (show decode _ _ = .ok (.putfield 13, 3) by decide +kernel) ⟨gf_X11_13, _, rfl, Or.inr ⟨rfl, rfl, rfl⟩⟩ hr21 (mSw_N eM28 (mSw_P eM24 hs22)) rfl ?_
  refine FW.nmM (fun M29 eM30 => ?_)
  have h_5 := h_4 M29 eM30
  refine fw_aload_n (i := 0) 0 rfl (show decode _ _ = .ok (.aload_n 0, 1) by decide +kernel) ?_
  refine fw_sipush (v := (2820 : Int32)) (show decode _ _ = .ok (.sipush 2820, 3) by decide +kernel) (by decide) ?_
  refine fw_newa 12 (show decode _ _ = .ok (.newarray .int, 2) by decide +kernel) (by decide) (by decide) (by decide) (by decide) (by decide) wd179 ?_
  refine FW.room (bc' := 8) (bs' := 1787) (by decide) (by decide) ?_
  refine FW.nmN (fun q31 eq32 => ?_)
  refine FW.nmM (fun M33 eM34 => ?_)
  have h_6 := h_5 q31 M33 eq32 eM34
  refine fw_putP (x := (some q31)) (kd := 11) (k := 2) (show decode _ _ = .ok (.putfield 16, 3) by decide +kernel) ⟨gf_X11_16, _, rfl, Or.inr ⟨rfl, rfl, rfl⟩⟩ hr21 (mSw_N eM34 (mSw_P eM30 (mSw_N eM28 (mSw_P eM24 hs22)))) rfl ?_
  refine FW.nmM (fun M35 eM36 => ?_)
  have h_7 := h_6 M35 eM36
  refine fw_aload_n (i := 0) 0 rfl (show decode _ _ = .ok (.aload_n 0, 1) by decide +kernel) ?_
  refine fw_sipush (v := (300 : Int32)) (show decode _ _ = .ok (.sipush 300, 3) by decide +kernel) (by decide) ?_
  refine fw_newa 12 (show decode _ _ = .ok (.newarray .int, 2) by decide +kernel) (by decide) (by decide) (by decide) (by decide) (by decide) wd179 ?_
  refine FW.room (bc' := 7) (bs' := 1487) (by decide) (by decide) ?_
  refine FW.nmN (fun q37 eq38 => ?_)
  refine FW.nmM (fun M39 eM40 => ?_)
  have h_8 := h_7 q37 M39 eq38 eM40
  refine fw_putP (x := (some q37)) (kd := 11) (k := 3) (show decode _ _ = .ok (.putfield 19, 3) by decide +kernel) ⟨gf_X11_19, _, rfl, Or.inr ⟨rfl, rfl, rfl⟩⟩ hr21 (mSw_N eM40 (mSw_P eM36 (mSw_N eM34 (mSw_P eM30 (mSw_N eM28 (mSw_P eM24 hs22)))))) rfl ?_
  refine FW.nmM (fun M41 eM42 => ?_)
  have h_9 := h_8 M41 eM42
  refine fw_aload_n (i := 0) 0 rfl (show decode _ _ = .ok (.aload_n 0, 1) by decide +kernel) ?_
  refine fw_iconst (v := (-1 : Int32)) (show decode _ _ = .ok (.iconst (-1), 1) by decide +kernel) (by decide) ?_
  refine fw_putI (kd := 11) (k := 5) (show decode _ _ = .ok (.putfield 22, 3) by decide +kernel) ⟨gf_X11_22, _, rfl, Or.inl rfl⟩ hr21 (mSw_P eM42 (mSw_N eM40 (mSw_P eM36 (mSw_N eM34 (mSw_P eM30 (mSw_N eM28 (mSw_P eM24 hs22))))))) rfl ?_
  refine FW.nmM (fun M43 eM44 => ?_)
  have h_10 := h_9 M43 eM44
  refine fw_aload_n (i := 0) 0 rfl (show decode _ _ = .ok (.aload_n 0, 1) by decide +kernel) ?_
  refine fw_iconst (v := (-1 : Int32)) (show decode _ _ = .ok (.iconst (-1), 1) by decide +kernel) (by decide) ?_
  refine fw_putI (kd := 11) (k := 6) (show decode _ _ = .ok (.putfield 26, 3) by decide +kernel) ⟨gf_X11_26, _, rfl, Or.inl rfl⟩ hr21 (mSw_I eM44 (mSw_P eM42 (mSw_N eM40 (mSw_P eM36 (mSw_N eM34 (mSw_P eM30 (mSw_N eM28 (mSw_P eM24 hs22)))))))) rfl ?_
  refine FW.nmM (fun M45 eM46 => ?_)
  have h_11 := h_10 M45 eM46
  refine fw_aload_n (i := 0) 0 rfl (show decode _ _ = .ok (.aload_n 0, 1) by decide +kernel) ?_
  refine fw_sipush (v := (160 : Int32)) (show decode _ _ = .ok (.sipush 160, 3) by decide +kernel) (by decide) ?_
  refine fw_newa 12 (show decode _ _ = .ok (.newarray .int, 2) by decide +kernel) (by decide) (by decide) (by decide) (by decide) (by decide) wd179 ?_
  refine FW.room (bc' := 6) (bs' := 1327) (by decide) (by decide) ?_
  refine FW.nmN (fun q47 eq48 => ?_)
  refine FW.nmM (fun M49 eM50 => ?_)
  have h_12 := h_11 q47 M49 eq48 eM50
  refine fw_putP (x := (some q47)) (kd := 11) (k := 16) (show decode _ _ = .ok (.putfield 29, 3) by decide +kernel) ⟨gf_X11_29, _, rfl, Or.inr ⟨rfl, rfl, rfl⟩⟩ hr21 (mSw_N eM50 (mSw_I eM46 (mSw_I eM44 (mSw_P eM42 (mSw_N eM40 (mSw_P eM36 (mSw_N eM34 (mSw_P eM30 (mSw_N eM28 (mSw_P eM24 hs22)))))))))) rfl ?_
  refine FW.nmM (fun M51 eM52 => ?_)
  have h_13 := h_12 M51 eM52
  refine fw_aload_n (i := 0) 0 rfl (show decode _ _ = .ok (.aload_n 0, 1) by decide +kernel) ?_
  refine fw_bipush (v := (10 : Int32)) (show decode _ _ = .ok (.bipush 10, 2) by decide +kernel) (by decide) ?_
  refine fw_newa 12 (show decode _ _ = .ok (.newarray .int, 2) by decide +kernel) (by decide) (by decide) (by decide) (by decide) (by decide) wd179 ?_
  refine FW.room (bc' := 5) (bs' := 1317) (by decide) (by decide) ?_
  refine FW.nmN (fun q53 eq54 => ?_)
  refine FW.nmM (fun M55 eM56 => ?_)
  have h_14 := h_13 q53 M55 eq54 eM56
  refine fw_putP (x := (some q53)) (kd := 11) (k := 21) (show decode _ _ = .ok (.putfield 32, 3) by decide +kernel) ⟨gf_X11_32, _, rfl, Or.inr ⟨rfl, rfl, rfl⟩⟩ hr21 (mSw_N eM56 (mSw_P eM52 (mSw_N eM50 (mSw_I eM46 (mSw_I eM44 (mSw_P eM42 (mSw_N eM40 (mSw_P eM36 (mSw_N eM34 (mSw_P eM30 (mSw_N eM28 (mSw_P eM24 hs22)))))))))))) rfl ?_
  refine FW.nmM (fun M57 eM58 => ?_)
  have h_15 := h_14 M57 eM58
  refine fw_aload_n (i := 0) 0 rfl (show decode _ _ = .ok (.aload_n 0, 1) by decide +kernel) ?_
  refine fw_sipush (v := (330 : Int32)) (show decode _ _ = .ok (.sipush 330, 3) by decide +kernel) (by decide) ?_
  refine fw_newa 13 (show decode _ _ = .ok (.newarray .long, 2) by decide +kernel) (by decide) (by decide) (by decide) (by decide) (by decide) wd450 ?_
  refine FW.room (bc' := 4) (bs' := 987) (by decide) (by decide) ?_
  refine FW.nmN (fun q59 eq60 => ?_)
  refine FW.nmM (fun M61 eM62 => ?_)
  have h_16 := h_15 q59 M61 eq60 eM62
  refine fw_putP (x := (some q59)) (kd := 11) (k := 22) (show decode _ _ = .ok (.putfield 35, 3) by decide +kernel) ⟨gf_X11_35, _, rfl, Or.inr ⟨rfl, rfl, rfl⟩⟩ hr21 (mSw_N eM62 (mSw_P eM58 (mSw_N eM56 (mSw_P eM52 (mSw_N eM50 (mSw_I eM46 (mSw_I eM44 (mSw_P eM42 (mSw_N eM40 (mSw_P eM36 (mSw_N eM34 (mSw_P eM30 (mSw_N eM28 (mSw_P eM24 hs22)))))))))))))) rfl ?_
  refine FW.nmM (fun M63 eM64 => ?_)
  have h_17 := h_16 M63 eM64
  refine fw_aload_n (i := 0) 0 rfl (show decode _ _ = .ok (.aload_n 0, 1) by decide +kernel) ?_
  refine fw_sipush (v := (330 : Int32)) (show decode _ _ = .ok (.sipush 330, 3) by decide +kernel) (by decide) ?_
  refine fw_newa 14 (show decode _ _ = .ok (.newarray .boolean, 2) by decide +kernel) (by decide) (by decide) (by decide) (by decide) (by decide) wd1489 ?_
  refine FW.room (bc' := 3) (bs' := 657) (by decide) (by decide) ?_
  refine FW.nmN (fun q65 eq66 => ?_)
  refine FW.nmM (fun M67 eM68 => ?_)
  have h_18 := h_17 q65 M67 eq66 eM68
  refine fw_putP (x := (some q65)) (kd := 11) (k := 23) (show decode _ _ = .ok (.putfield 39, 3) by decide +kernel) ⟨gf_X11_39, _, rfl, Or.inr ⟨rfl, rfl, rfl⟩⟩ hr21 (mSw_N eM68 (mSw_P eM64 (mSw_N eM62 (mSw_P eM58 (mSw_N eM56 (mSw_P eM52 (mSw_N eM50 (mSw_I eM46 (mSw_I eM44 (mSw_P eM42 (mSw_N eM40 (mSw_P eM36 (mSw_N eM34 (mSw_P eM30 (mSw_N eM28 (mSw_P eM24 hs22)))))))))))))))) rfl ?_
  refine FW.nmM (fun M69 eM70 => ?_)
  have h_19 := h_18 M69 eM70
  refine fw_aload_n (i := 0) 0 rfl (show decode _ _ = .ok (.aload_n 0, 1) by decide +kernel) ?_
  refine fw_sipush (v := (480 : Int32)) (show decode _ _ = .ok (.sipush 480, 3) by decide +kernel) (by decide) ?_
  refine fw_newa 13 (show decode _ _ = .ok (.newarray .long, 2) by decide +kernel) (by decide) (by decide) (by decide) (by decide) (by decide) wd450 ?_
  refine FW.room (bc' := 2) (bs' := 177) (by decide) (by decide) ?_
  refine FW.nmN (fun q71 eq72 => ?_)
  refine FW.nmM (fun M73 eM74 => ?_)
  have h_20 := h_19 q71 M73 eq72 eM74
  refine fw_putP (x := (some q71)) (kd := 11) (k := 24) (show decode _ _ = .ok (.putfield 43, 3) by decide +kernel) ⟨gf_X11_43, _, rfl, Or.inr ⟨rfl, rfl, rfl⟩⟩ hr21 (mSw_N eM74 (mSw_P eM70 (mSw_N eM68 (mSw_P eM64 (mSw_N eM62 (mSw_P eM58 (mSw_N eM56 (mSw_P eM52 (mSw_N eM50 (mSw_I eM46 (mSw_I eM44 (mSw_P eM42 (mSw_N eM40 (mSw_P eM36 (mSw_N eM34 (mSw_P eM30 (mSw_N eM28 (mSw_P eM24 hs22)))))))))))))))))) rfl ?_
  refine FW.nmM (fun M75 eM76 => ?_)
  have h_21 := h_20 M75 eM76
  refine fw_aload_n (i := 0) 0 rfl (show decode _ _ = .ok (.aload_n 0, 1) by decide +kernel) ?_
  refine fw_bipush (v := (17 : Int32)) (show decode _ _ = .ok (.bipush 17, 2) by decide +kernel) (by decide) ?_
  refine fw_newa 13 (show decode _ _ = .ok (.newarray .long, 2) by decide +kernel) (by decide) (by decide) (by decide) (by decide) (by decide) wd450 ?_
  refine FW.room (bc' := 1) (bs' := 160) (by decide) (by decide) ?_
  refine FW.nmN (fun q77 eq78 => ?_)
  refine FW.nmM (fun M79 eM80 => ?_)
  have h_22 := h_21 q77 M79 eq78 eM80
  refine fw_putP (x := (some q77)) (kd := 11) (k := 30) (show decode _ _ = .ok (.putfield 46, 3) by decide +kernel) ⟨gf_X11_46, _, rfl, Or.inr ⟨rfl, rfl, rfl⟩⟩ hr21 (mSw_N eM80 (mSw_P eM76 (mSw_N eM74 (mSw_P eM70 (mSw_N eM68 (mSw_P eM64 (mSw_N eM62 (mSw_P eM58 (mSw_N eM56 (mSw_P eM52 (mSw_N eM50 (mSw_I eM46 (mSw_I eM44 (mSw_P eM42 (mSw_N eM40 (mSw_P eM36 (mSw_N eM34 (mSw_P eM30 (mSw_N eM28 (mSw_P eM24 hs22)))))))))))))))))))) rfl ?_
  refine FW.nmM (fun M81 eM82 => ?_)
  have h_23 := h_22 M81 eM82
  refine fw_aload_n (i := 0) 0 rfl (show decode _ _ = .ok (.aload_n 0, 1) by decide +kernel) ?_
  refine fw_sipush (v := (160 : Int32)) (show decode _ _ = .ok (.sipush 160, 3) by decide +kernel) (by decide) ?_
  refine fw_newa 12 (show decode _ _ = .ok (.newarray .int, 2) by decide +kernel) (by decide) (by decide) (by decide) (by decide) (by decide) wd179 ?_
  refine FW.room (bc' := 0) (bs' := 0) (by decide) (by decide) ?_
  refine FW.nmN (fun q83 eq84 => ?_)
  refine FW.nmM (fun M85 eM86 => ?_)
  have h_24 := h_23 q83 M85 eq84 eM86
  refine fw_putP (x := (some q83)) (kd := 11) (k := 31) (show decode _ _ = .ok (.putfield 49, 3) by decide +kernel) ⟨gf_X11_49, _, rfl, Or.inr ⟨rfl, rfl, rfl⟩⟩ hr21 (mSw_N eM86 (mSw_P eM82 (mSw_N eM80 (mSw_P eM76 (mSw_N eM74 (mSw_P eM70 (mSw_N eM68 (mSw_P eM64 (mSw_N eM62 (mSw_P eM58 (mSw_N eM56 (mSw_P eM52 (mSw_N eM50 (mSw_I eM46 (mSw_I eM44 (mSw_P eM42 (mSw_N eM40 (mSw_P eM36 (mSw_N eM34 (mSw_P eM30 (mSw_N eM28 (mSw_P eM24 hs22)))))))))))))))))))))) rfl ?_
  refine FW.nmM (fun M87 eM88 => ?_)
  have h_25 := h_24 M87 eM88
  refine fw_aload_n (i := 0) 0 rfl (show decode _ _ = .ok (.aload_n 0, 1) by decide +kernel) ?_
  refine fw_getP (kd := 11) (k := 0) (show decode _ _ = .ok (.getfield 7, 3) by decide +kernel) gf_X11_7 hr21 (mSw_P eM88 (mSw_N eM86 (mSw_P eM82 (mSw_N eM80 (mSw_P eM76 (mSw_N eM74 (mSw_P eM70 (mSw_N eM68 (mSw_P eM64 (mSw_N eM62 (mSw_P eM58 (mSw_N eM56 (mSw_P eM52 (mSw_N eM50 (mSw_I eM46 (mSw_I eM44 (mSw_P eM42 (mSw_N eM40 (mSw_P eM36 (mSw_N eM34 (mSw_P eM30 (mSw_N eM28 (mSw_P eM24 hs22))))))))))))))))))))))) rfl ?_
  have h_26 := dR_e h_25
  obtain ⟨y89, hy90, h_27⟩ := h_26
  refine fw_deref hy90 ?_
  refine fw_iconst (v := (2 : Int32)) (show decode _ _ = .ok (.iconst 2, 1) by decide +kernel) (by decide) ?_
  refine fw_bipush (v := (13 : Int32)) (show decode _ _ = .ok (.bipush 13, 2) by decide +kernel) (by decide) ?_
  obtain ⟨hr94, ⟨n91, hs92, hi93⟩, h_28⟩ := h_27
  refine fw_iast (show decode _ _ = .ok (.iastore, 1) by decide +kernel) hr94 hs92 hi93 ?_
  refine FW.nmM (fun M95 eM96 => ?_)
  have h_29 := h_28 M95 eM96
  refine fw_aload_n (i := 0) 0 rfl (show decode _ _ = .ok (.aload_n 0, 1) by decide +kernel) ?_
  refine fw_getP (kd := 11) (k := 0) (show decode _ _ = .ok (.getfield 7, 3) by decide +kernel) gf_X11_7 hr21 (mSw_I eM96 (mSw_P eM88 (mSw_N eM86 (mSw_P eM82 (mSw_N eM80 (mSw_P eM76 (mSw_N eM74 (mSw_P eM70 (mSw_N eM68 (mSw_P eM64 (mSw_N eM62 (mSw_P eM58 (mSw_N eM56 (mSw_P eM52 (mSw_N eM50 (mSw_I eM46 (mSw_I eM44 (mSw_P eM42 (mSw_N eM40 (mSw_P eM36 (mSw_N eM34 (mSw_P eM30 (mSw_N eM28 (mSw_P eM24 hs22)))))))))))))))))))))))) rfl ?_
  have h_30 := dR_e h_29
  obtain ⟨y97, hy98, h_31⟩ := h_30
  refine fw_deref hy98 ?_
  refine fw_iconst (v := (4 : Int32)) (show decode _ _ = .ok (.iconst 4, 1) by decide +kernel) (by decide) ?_
  refine fw_iconst (v := (-1 : Int32)) (show decode _ _ = .ok (.iconst (-1), 1) by decide +kernel) (by decide) ?_
  obtain ⟨hr102, ⟨n99, hs100, hi101⟩, h_32⟩ := h_31
  refine fw_iast (show decode _ _ = .ok (.iastore, 1) by decide +kernel) hr102 hs100 hi101 ?_
  refine FW.nmM (fun M103 eM104 => ?_)
  have h_33 := h_32 M103 eM104
  refine fw_iconst (v := (0 : Int32)) (show decode _ _ = .ok (.iconst 0, 1) by decide +kernel) (by decide) ?_
  refine fw_istore_n (i := 1) (ls' := [(1, .int (0 : Int32)), (0, .ref p0)]) (show decode _ _ = .ok (.istore_n 1, 1) by decide +kernel) (by decide) rfl ?_
  refine FW.sub [1, 0] (ls' := [(0, .ref p0), (1, .int (0 : Int32))]) rfl ?_
  obtain ⟨nn, h_34⟩ := h_33
  exact sl_X11_init_128 hd nn h_34
def j_X11_isNoLess_109 (φ : Int32 → fM → Prop) (p16 : Int32) (s0 : Int32) (M : fM) : Prop := iF (s0 = p16) (φ (0 : Int32) M) (φ (1 : Int32) M)
set_option maxRecDepth 100000 in
theorem sj_X11_isNoLess_109 {g : GT} {d : Nat} (hd : 1 ≤ d + 1) {φ : Int32 → fM → Prop} {p16 : Int32} {s0 : Int32} {M : fM} (h : j_X11_isNoLess_109 φ p16 s0 M) : FW g mtX11_isNoLess (d + 1) 109 [(16, .int p16)] [.int s0] M 0 0 (rI φ) := by
  unfold j_X11_isNoLess_109 at h
  refine fw_iload (i := 16) 0 rfl (show decode _ _ = .ok (.iload 16, 2) by decide +kernel) ?_
  refine fw_icmp_eq 118 (show decode _ _ = .ok (.if_icmp .eq 7, 3) by decide +kernel) (by decide) (fun hc1 => ?_) (fun hc1 => ?_)
  · have h_1 := ipos hc1 h
    refine fw_iconst (v := (0 : Int32)) (show decode _ _ = .ok (.iconst 0, 1) by decide +kernel) (by decide) ?_
    exact fw_ret (v := some (.int (0 : Int32))) .ireturn (show decode _ _ = .ok (.ireturn, 1) by decide +kernel) ⟨rfl, Or.inr (Or.inl ⟨rfl, rfl⟩)⟩ ⟨_, rfl, h_1⟩
  · have h_2 := ineg hc1 h
    refine fw_iconst (v := (1 : Int32)) (show decode _ _ = .ok (.iconst 1, 1) by decide +kernel) (by decide) ?_
    refine fw_goto 119 (show decode _ _ = .ok (.goto 4, 3) by decide +kernel) (by decide) ?_
    exact fw_ret (v := some (.int (1 : Int32))) .ireturn (show decode _ _ = .ok (.ireturn, 1) by decide +kernel) ⟨rfl, Or.inr (Or.inl ⟨rfl, rfl⟩)⟩ ⟨_, rfl, h_2⟩
def j_X11_isNoLess_89 (φ : Int32 → fM → Prop) (p16 : Int32) (p17 : Int64) (p19 : Int64) (M : fM) : Prop := iF ((lg_cmp p17 p19) = 0) (φ (1 : Int32) M) (iF ((lg_cmp p17 (0 : Int64)) ≤ 0) (j_X11_isNoLess_109 φ p16 (0 : Int32) M) (j_X11_isNoLess_109 φ p16 (1 : Int32) M))
set_option maxRecDepth 100000 in
theorem sj_X11_isNoLess_89 {g : GT} {d : Nat} (hd : 1 ≤ d + 1) {φ : Int32 → fM → Prop} {p16 : Int32} {p17 : Int64} {p19 : Int64} {M : fM} (h : j_X11_isNoLess_89 φ p16 p17 p19 M) : FW g mtX11_isNoLess (d + 1) 89 [(16, .int p16), (17, .long p17), (19, .long p19)] [] M 0 0 (rI φ) := by
  unfold j_X11_isNoLess_89 at h
  refine fw_lload (i := 17) 1 rfl (show decode _ _ = .ok (.lload 17, 2) by decide +kernel) ?_
  refine fw_lload (i := 19) 2 rfl (show decode _ _ = .ok (.lload 19, 2) by decide +kernel) ?_
  refine fw_lcmp (show decode _ _ = .ok (.lcmp, 1) by decide +kernel) ?_
  refine fw_if_eq 114 (show decode _ _ = .ok (.ifCond .eq 20, 3) by decide +kernel) (by decide) (fun hc3 => ?_) (fun hc3 => ?_)
  · have h_1 := ipos hc3 h
    refine fw_iconst (v := (1 : Int32)) (show decode _ _ = .ok (.iconst 1, 1) by decide +kernel) (by decide) ?_
    refine fw_goto 119 (show decode _ _ = .ok (.goto 4, 3) by decide +kernel) (by decide) ?_
    exact fw_ret (v := some (.int (1 : Int32))) .ireturn (show decode _ _ = .ok (.ireturn, 1) by decide +kernel) ⟨rfl, Or.inr (Or.inl ⟨rfl, rfl⟩)⟩ ⟨_, rfl, h_1⟩
  · have h_2 := ineg hc3 h
    refine fw_lload (i := 17) 1 rfl (show decode _ _ = .ok (.lload 17, 2) by decide +kernel) ?_
    refine fw_lconst (v := (0 : Int64)) (show decode _ _ = .ok (.lconst 0, 1) by decide +kernel) (by decide) ?_
    refine fw_lcmp (show decode _ _ = .ok (.lcmp, 1) by decide +kernel) ?_
    refine fw_if_le 108 (show decode _ _ = .ok (.ifCond .le 7, 3) by decide +kernel) (by decide) (fun hc2 => ?_) (fun hc2 => ?_)
    · have h_3 := ipos hc2 h_2
      refine fw_iconst (v := (0 : Int32)) (show decode _ _ = .ok (.iconst 0, 1) by decide +kernel) (by decide) ?_
      refine FW.sub [0] (ls' := [(16, .int p16)]) rfl ?_
      exact sj_X11_isNoLess_109 hd h_3
    · have h_4 := ineg hc2 h_2
      refine fw_iconst (v := (1 : Int32)) (show decode _ _ = .ok (.iconst 1, 1) by decide +kernel) (by decide) ?_
      refine fw_goto 109 (show decode _ _ = .ok (.goto 4, 3) by decide +kernel) (by decide) ?_
      refine FW.sub [0] (ls' := [(16, .int p16)]) rfl ?_
      exact sj_X11_isNoLess_109 hd h_4
def j_X11_isNoLess_50 (φ : Int32 → fM → Prop) (p16 : Int32) (s0 : Int32) (M : fM) : Prop := iF (s0 = p16) (φ (0 : Int32) M) (φ (1 : Int32) M)
set_option maxRecDepth 100000 in
theorem sj_X11_isNoLess_50 {g : GT} {d : Nat} (hd : 1 ≤ d + 1) {φ : Int32 → fM → Prop} {p16 : Int32} {s0 : Int32} {M : fM} (h : j_X11_isNoLess_50 φ p16 s0 M) : FW g mtX11_isNoLess (d + 1) 50 [(16, .int p16)] [.int s0] M 0 0 (rI φ) := by
  unfold j_X11_isNoLess_50 at h
  refine fw_iload (i := 16) 0 rfl (show decode _ _ = .ok (.iload 16, 2) by decide +kernel) ?_
  refine fw_icmp_eq 59 (show decode _ _ = .ok (.if_icmp .eq 7, 3) by decide +kernel) (by decide) (fun hc4 => ?_) (fun hc4 => ?_)
  · have h_1 := ipos hc4 h
    refine fw_iconst (v := (0 : Int32)) (show decode _ _ = .ok (.iconst 0, 1) by decide +kernel) (by decide) ?_
    exact fw_ret (v := some (.int (0 : Int32))) .ireturn (show decode _ _ = .ok (.ireturn, 1) by decide +kernel) ⟨rfl, Or.inr (Or.inl ⟨rfl, rfl⟩)⟩ ⟨_, rfl, h_1⟩
  · have h_2 := ineg hc4 h
    refine fw_iconst (v := (1 : Int32)) (show decode _ _ = .ok (.iconst 1, 1) by decide +kernel) (by decide) ?_
    refine fw_goto 60 (show decode _ _ = .ok (.goto 4, 3) by decide +kernel) (by decide) ?_
    exact fw_ret (v := some (.int (1 : Int32))) .ireturn (show decode _ _ = .ok (.ireturn, 1) by decide +kernel) ⟨rfl, Or.inr (Or.inl ⟨rfl, rfl⟩)⟩ ⟨_, rfl, h_2⟩
def b_X11_isNoLess_17 (K17 : Int64 → Int64 → Int64 → Int64 → Int32 → fM → Prop) (φ : Int32 → fM → Prop) (p8 : Int64) (p10 : Int64) (p12 : Int64) (p14 : Int64) (p16 : Int32) (M : fM) : Prop := ¬ p10 = 0 ∧ ¬ p14 = 0 ∧ iF ((lg_cmp (p8 / p10) (p12 / p14)) = 0) (¬ p10 = 0 ∧ nm (p8 % p10) fun x8 => ¬ p14 = 0 ∧ nm (p12 % p14) fun x11 => iF ((lg_cmp x8 (0 : Int64)) = 0) (j_X11_isNoLess_89 φ p16 x8 x11 M) (iF ((lg_cmp x11 (0 : Int64)) = 0) (j_X11_isNoLess_89 φ p16 x8 x11 M) (iF (p16 = 0) (K17 p10 x8 p14 x11 (1 : Int32) M) (K17 p10 x8 p14 x11 (0 : Int32) M)))) (¬ p10 = 0 ∧ ¬ p14 = 0 ∧ iF ((lg_cmp (p8 / p10) (p12 / p14)) ≤ 0) (j_X11_isNoLess_50 φ p16 (0 : Int32) M) (j_X11_isNoLess_50 φ p16 (1 : Int32) M))
def l_X11_isNoLess_17 (φ : Int32 → fM → Prop) : Nat → Int64 → Int64 → Int64 → Int64 → Int32 → fM → Prop
  | 0, _, _, _, _, _, _ => False
  | n + 1, p8, p10, p12, p14, p16, M => b_X11_isNoLess_17 (l_X11_isNoLess_17 φ n) φ p8 p10 p12 p14 p16 M
set_option maxRecDepth 100000 in
theorem sb_X11_isNoLess_17 {g : GT} {d : Nat} (hd : 1 ≤ d + 1) {K17 : Int64 → Int64 → Int64 → Int64 → Int32 → fM → Prop} {φ : Int32 → fM → Prop} (hK17 : ∀ (p8 : Int64) (p10 : Int64) (p12 : Int64) (p14 : Int64) (p16 : Int32) (M : fM), K17 p8 p10 p12 p14 p16 M → FW g mtX11_isNoLess (d + 1) 17 [(8, .long p8), (10, .long p10), (12, .long p12), (14, .long p14), (16, .int p16)] [] M 0 0 (rI φ)) {p8 : Int64} {p10 : Int64} {p12 : Int64} {p14 : Int64} {p16 : Int32} {M : fM} (h : b_X11_isNoLess_17 K17 φ p8 p10 p12 p14 p16 M) : FW g mtX11_isNoLess (d + 1) 17 [(8, .long p8), (10, .long p10), (12, .long p12), (14, .long p14), (16, .int p16)] [] M 0 0 (rI φ) := by
  unfold b_X11_isNoLess_17 at h
  refine fw_lload (i := 8) 0 rfl (show decode _ _ = .ok (.lload 8, 2) by decide +kernel) ?_
  refine fw_lload (i := 10) 1 rfl (show decode _ _ = .ok (.lload 10, 2) by decide +kernel) ?_
  obtain ⟨hne5, h_1⟩ := h
  refine fw_ldiv (show decode _ _ = .ok (.ldiv, 1) by decide +kernel) hne5 ?_
  refine fw_lload (i := 12) 2 rfl (show decode _ _ = .ok (.lload 12, 2) by decide +kernel) ?_
  refine fw_lload (i := 14) 3 rfl (show decode _ _ = .ok (.lload 14, 2) by decide +kernel) ?_
  obtain ⟨hne6, h_2⟩ := h_1
  refine fw_ldiv (show decode _ _ = .ok (.ldiv, 1) by decide +kernel) hne6 ?_
  refine fw_lcmp (show decode _ _ = .ok (.lcmp, 1) by decide +kernel) ?_
  refine fw_if_eq 61 (show decode _ _ = .ok (.ifCond .eq 33, 3) by decide +kernel) (by decide) (fun hc19 => ?_) (fun hc19 => ?_)
  · have h_3 := ipos hc19 h_2
    refine fw_lload (i := 8) 0 rfl (show decode _ _ = .ok (.lload 8, 2) by decide +kernel) ?_
    refine fw_lload (i := 10) 1 rfl (show decode _ _ = .ok (.lload 10, 2) by decide +kernel) ?_
    obtain ⟨hne7, h_4⟩ := h_3
    refine fw_lrem (show decode _ _ = .ok (.lrem, 1) by decide +kernel) hne7 ?_
    refine fw_nmJ (fun x8 ex9 => ?_)
    have h_5 := h_4 x8 ex9
    refine fw_lstore (i := 17) (ls' := [(17, .long x8), (8, .long p8), (10, .long p10), (12, .long p12), (14, .long p14), (16, .int p16)]) (show decode _ _ = .ok (.lstore 17, 2) by decide +kernel) (by decide) rfl ?_
    refine fw_lload (i := 12) 3 rfl (show decode _ _ = .ok (.lload 12, 2) by decide +kernel) ?_
    refine fw_lload (i := 14) 4 rfl (show decode _ _ = .ok (.lload 14, 2) by decide +kernel) ?_
    obtain ⟨hne10, h_6⟩ := h_5
    refine fw_lrem (show decode _ _ = .ok (.lrem, 1) by decide +kernel) hne10 ?_
    refine fw_nmJ (fun x11 ex12 => ?_)
    have h_7 := h_6 x11 ex12
    refine fw_lstore (i := 19) (ls' := [(19, .long x11), (17, .long x8), (8, .long p8), (10, .long p10), (12, .long p12), (14, .long p14), (16, .int p16)]) (show decode _ _ = .ok (.lstore 19, 2) by decide +kernel) (by decide) rfl ?_
    refine fw_lload (i := 17) 1 rfl (show decode _ _ = .ok (.lload 17, 2) by decide +kernel) ?_
    refine fw_lconst (v := (0 : Int64)) (show decode _ _ = .ok (.lconst 0, 1) by decide +kernel) (by decide) ?_
    refine fw_lcmp (show decode _ _ = .ok (.lcmp, 1) by decide +kernel) ?_
    refine fw_if_eq 89 (show decode _ _ = .ok (.ifCond .eq 10, 3) by decide +kernel) (by decide) (fun hc15 => ?_) (fun hc15 => ?_)
    · have h_8 := ipos hc15 h_7
      refine FW.sub [6, 1, 0] (ls' := [(16, .int p16), (17, .long x8), (19, .long x11)]) rfl ?_
      exact sj_X11_isNoLess_89 hd h_8
    · have h_9 := ineg hc15 h_7
      refine fw_lload (i := 19) 0 rfl (show decode _ _ = .ok (.lload 19, 2) by decide +kernel) ?_
      refine fw_lconst (v := (0 : Int64)) (show decode _ _ = .ok (.lconst 0, 1) by decide +kernel) (by decide) ?_
      refine fw_lcmp (show decode _ _ = .ok (.lcmp, 1) by decide +kernel) ?_
      refine fw_if_ne 120 (show decode _ _ = .ok (.ifCond .ne 34, 3) by decide +kernel) (by decide) (fun hc14 => ?_) (fun hc14 => ?_)
      · have h_10 := ineg hc14 h_9
        refine fw_lload (i := 10) 3 rfl (show decode _ _ = .ok (.lload 10, 2) by decide +kernel) ?_
        refine fw_lstore (i := 8) (ls' := [(8, .long p10), (19, .long x11), (17, .long x8), (10, .long p10), (12, .long p12), (14, .long p14), (16, .int p16)]) (show decode _ _ = .ok (.lstore 8, 2) by decide +kernel) (by decide) rfl ?_
        refine fw_lload (i := 17) 2 rfl (show decode _ _ = .ok (.lload 17, 2) by decide +kernel) ?_
        refine fw_lstore (i := 10) (ls' := [(10, .long x8), (8, .long p10), (19, .long x11), (17, .long x8), (12, .long p12), (14, .long p14), (16, .int p16)]) (show decode _ _ = .ok (.lstore 10, 2) by decide +kernel) (by decide) rfl ?_
        refine fw_lload (i := 14) 5 rfl (show decode _ _ = .ok (.lload 14, 2) by decide +kernel) ?_
        refine fw_lstore (i := 12) (ls' := [(12, .long p14), (10, .long x8), (8, .long p10), (19, .long x11), (17, .long x8), (14, .long p14), (16, .int p16)]) (show decode _ _ = .ok (.lstore 12, 2) by decide +kernel) (by decide) rfl ?_
        refine fw_lload (i := 19) 3 rfl (show decode _ _ = .ok (.lload 19, 2) by decide +kernel) ?_
        refine fw_lstore (i := 14) (ls' := [(14, .long x11), (12, .long p14), (10, .long x8), (8, .long p10), (19, .long x11), (17, .long x8), (16, .int p16)]) (show decode _ _ = .ok (.lstore 14, 2) by decide +kernel) (by decide) rfl ?_
        refine fw_iload (i := 16) 6 rfl (show decode _ _ = .ok (.iload 16, 2) by decide +kernel) ?_
        refine fw_if_ne 145 (show decode _ _ = .ok (.ifCond .ne 7, 3) by decide +kernel) (by decide) (fun hc13 => ?_) (fun hc13 => ?_)
        · have h_11 := ineg hc13 h_10
          refine fw_iconst (v := (0 : Int32)) (show decode _ _ = .ok (.iconst 0, 1) by decide +kernel) (by decide) ?_
          refine fw_istore (i := 16) (ls' := [(16, .int (0 : Int32)), (14, .long x11), (12, .long p14), (10, .long x8), (8, .long p10), (19, .long x11), (17, .long x8)]) (show decode _ _ = .ok (.istore 16, 2) by decide +kernel) (by decide) rfl ?_
          refine fw_goto 17 (show decode _ _ = .ok (.goto (-131), 3) by decide +kernel) (by decide) ?_
          refine FW.sub [4, 3, 2, 1, 0] (ls' := [(8, .long p10), (10, .long x8), (12, .long p14), (14, .long x11), (16, .int (0 : Int32))]) rfl ?_
          exact hK17 _ _ _ _ _ _ h_11
        · have h_12 := ipos hc13 h_10
          refine fw_iconst (v := (1 : Int32)) (show decode _ _ = .ok (.iconst 1, 1) by decide +kernel) (by decide) ?_
          refine fw_goto 146 (show decode _ _ = .ok (.goto 4, 3) by decide +kernel) (by decide) ?_
          refine fw_istore (i := 16) (ls' := [(16, .int (1 : Int32)), (14, .long x11), (12, .long p14), (10, .long x8), (8, .long p10), (19, .long x11), (17, .long x8)]) (show decode _ _ = .ok (.istore 16, 2) by decide +kernel) (by decide) rfl ?_
          refine fw_goto 17 (show decode _ _ = .ok (.goto (-131), 3) by decide +kernel) (by decide) ?_
          refine FW.sub [4, 3, 2, 1, 0] (ls' := [(8, .long p10), (10, .long x8), (12, .long p14), (14, .long x11), (16, .int (1 : Int32))]) rfl ?_
          exact hK17 _ _ _ _ _ _ h_12
      · have h_13 := ipos hc14 h_9
        refine FW.sub [6, 1, 0] (ls' := [(16, .int p16), (17, .long x8), (19, .long x11)]) rfl ?_
        exact sj_X11_isNoLess_89 hd h_13
  · have h_14 := ineg hc19 h_2
    refine fw_lload (i := 8) 0 rfl (show decode _ _ = .ok (.lload 8, 2) by decide +kernel) ?_
    refine fw_lload (i := 10) 1 rfl (show decode _ _ = .ok (.lload 10, 2) by decide +kernel) ?_
    obtain ⟨hne16, h_15⟩ := h_14
    refine fw_ldiv (show decode _ _ = .ok (.ldiv, 1) by decide +kernel) hne16 ?_
    refine fw_lload (i := 12) 2 rfl (show decode _ _ = .ok (.lload 12, 2) by decide +kernel) ?_
    refine fw_lload (i := 14) 3 rfl (show decode _ _ = .ok (.lload 14, 2) by decide +kernel) ?_
    obtain ⟨hne17, h_16⟩ := h_15
    refine fw_ldiv (show decode _ _ = .ok (.ldiv, 1) by decide +kernel) hne17 ?_
    refine fw_lcmp (show decode _ _ = .ok (.lcmp, 1) by decide +kernel) ?_
    refine fw_if_le 49 (show decode _ _ = .ok (.ifCond .le 7, 3) by decide +kernel) (by decide) (fun hc18 => ?_) (fun hc18 => ?_)
    · have h_17 := ipos hc18 h_16
      refine fw_iconst (v := (0 : Int32)) (show decode _ _ = .ok (.iconst 0, 1) by decide +kernel) (by decide) ?_
      refine FW.sub [4] (ls' := [(16, .int p16)]) rfl ?_
      exact sj_X11_isNoLess_50 hd h_17
    · have h_18 := ineg hc18 h_16
      refine fw_iconst (v := (1 : Int32)) (show decode _ _ = .ok (.iconst 1, 1) by decide +kernel) (by decide) ?_
      refine fw_goto 50 (show decode _ _ = .ok (.goto 4, 3) by decide +kernel) (by decide) ?_
      refine FW.sub [4] (ls' := [(16, .int p16)]) rfl ?_
      exact sj_X11_isNoLess_50 hd h_18
theorem sl_X11_isNoLess_17 {g : GT} {d : Nat} (hd : 1 ≤ d + 1) {φ : Int32 → fM → Prop} : ∀ (n : Nat) {p8 : Int64} {p10 : Int64} {p12 : Int64} {p14 : Int64} {p16 : Int32} {M : fM}, l_X11_isNoLess_17 φ n p8 p10 p12 p14 p16 M → FW g mtX11_isNoLess (d + 1) 17 [(8, .long p8), (10, .long p10), (12, .long p12), (14, .long p14), (16, .int p16)] [] M 0 0 (rI φ)
  | 0 => fun h => h.elim
  | n + 1 => fun h => sb_X11_isNoLess_17 hd (fun _ _ _ _ _ _ h => sl_X11_isNoLess_17 hd n h) h
def w_X11_isNoLess (p0 : Int64) (p2 : Int64) (p4 : Int64) (p6 : Int64) (M : fM) (φ : Int32 → fM → Prop) : Prop := ∃ n, l_X11_isNoLess_17 φ n p0 p2 p4 p6 (0 : Int32) M
set_option maxRecDepth 100000 in
theorem s_X11_isNoLess {g : GT} {d : Nat} (hd : 1 ≤ d) {p0 : Int64} {p2 : Int64} {p4 : Int64} {p6 : Int64} {M : fM} {φ : Int32 → fM → Prop} (h : w_X11_isNoLess p0 p2 p4 p6 M φ) : FC g mtX11_isNoLess d [.long p0, .long p2, .long p4, .long p6] M 0 0 (rI φ) := by
  obtain ⟨d, rfl⟩ : ∃ e, d = e + 1 := ⟨d - 1, by omega⟩
  unfold w_X11_isNoLess at h
  refine FC.intro (nL := 21) (by decide) rfl (Nat.le_of_ble_eq_true rfl) ?_
  show FW g mtX11_isNoLess (d + 1) 0 [(0, .long p0), (2, .long p2), (4, .long p4), (6, .long p6)] [] M 0 0 (rI φ)
  refine fw_lload_n (i := 0) 0 rfl (show decode _ _ = .ok (.lload_n 0, 1) by decide +kernel) ?_
  refine fw_lstore (i := 8) (ls' := [(8, .long p0), (0, .long p0), (2, .long p2), (4, .long p4), (6, .long p6)]) (show decode _ _ = .ok (.lstore 8, 2) by decide +kernel) (by decide) rfl ?_
  refine fw_lload_n (i := 2) 2 rfl (show decode _ _ = .ok (.lload_n 2, 1) by decide +kernel) ?_
  refine fw_lstore (i := 10) (ls' := [(10, .long p2), (8, .long p0), (0, .long p0), (2, .long p2), (4, .long p4), (6, .long p6)]) (show decode _ _ = .ok (.lstore 10, 2) by decide +kernel) (by decide) rfl ?_
  refine fw_lload (i := 4) 4 rfl (show decode _ _ = .ok (.lload 4, 2) by decide +kernel) ?_
  refine fw_lstore (i := 12) (ls' := [(12, .long p4), (10, .long p2), (8, .long p0), (0, .long p0), (2, .long p2), (4, .long p4), (6, .long p6)]) (show decode _ _ = .ok (.lstore 12, 2) by decide +kernel) (by decide) rfl ?_
  refine fw_lload (i := 6) 6 rfl (show decode _ _ = .ok (.lload 6, 2) by decide +kernel) ?_
  refine fw_lstore (i := 14) (ls' := [(14, .long p6), (12, .long p4), (10, .long p2), (8, .long p0), (0, .long p0), (2, .long p2), (4, .long p4), (6, .long p6)]) (show decode _ _ = .ok (.lstore 14, 2) by decide +kernel) (by decide) rfl ?_
  refine fw_iconst (v := (0 : Int32)) (show decode _ _ = .ok (.iconst 0, 1) by decide +kernel) (by decide) ?_
  refine fw_istore (i := 16) (ls' := [(16, .int (0 : Int32)), (14, .long p6), (12, .long p4), (10, .long p2), (8, .long p0), (0, .long p0), (2, .long p2), (4, .long p4), (6, .long p6)]) (show decode _ _ = .ok (.istore 16, 2) by decide +kernel) (by decide) rfl ?_
  refine FW.sub [4, 3, 2, 1, 0] (ls' := [(8, .long p0), (10, .long p2), (12, .long p4), (14, .long p6), (16, .int (0 : Int32))]) rfl ?_
  obtain ⟨nn, h_1⟩ := h
  exact sl_X11_isNoLess_17 hd nn h_1
