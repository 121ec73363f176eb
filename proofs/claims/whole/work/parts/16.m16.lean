def b_X6_mostOften_80 (K80 : Nat → Int32 → Int32 → Int32 → fM → Prop) (φ : Int32 → fM → Prop) (p0 : Nat) (p1 : Int32) (p2 : Int32) (p3 : Int32) (M : fM) : Prop := iF (p3 < 0) (φ p2 M) (isO M p0 6 ∧ dR (mP M p0 0) fun y4 => isO M y4 5 ∧ w_X5_lineOf y4 p3 (1 : Int32) M fun x10 M6 => isO M6 p0 6 ∧ dR (mP M6 p0 0) fun y14 => isO M6 y14 5 ∧ w_X5_lineOf y14 p3 (0 : Int32) M6 fun x20 M16 => iF (x20 = p1) (iF (p2 = (-1 : Int32)) (nm (p3 + (-1 : Int32)) fun x23 => K80 p0 p1 x10 x23 M16) (isO M16 p0 6 ∧ dR (mP M16 p0 2) fun y28 => w_X10_cell y28 x10 M16 fun x31 M30 => isO M30 p0 6 ∧ dR (mP M30 p0 2) fun y35 => w_X10_cell y35 p2 M30 fun x38 M37 => iF (x31 ≤ x38) (nm (p3 + (-1 : Int32)) fun x39 => K80 p0 p1 p2 x39 M37) (nm (p3 + (-1 : Int32)) fun x41 => K80 p0 p1 x10 x41 M37))) (nm (p3 + (-1 : Int32)) fun x21 => K80 p0 p1 p2 x21 M16))
def l_X6_mostOften_80 (φ : Int32 → fM → Prop) : Nat → Nat → Int32 → Int32 → Int32 → fM → Prop
  | 0, _, _, _, _, _ => False
  | n + 1, p0, p1, p2, p3, M => b_X6_mostOften_80 (l_X6_mostOften_80 φ n) φ p0 p1 p2 p3 M
set_option maxRecDepth 100000 in
theorem sb_X6_mostOften_80 {g : GT} {d : Nat} (hd : 3 ≤ d + 1) {K80 : Nat → Int32 → Int32 → Int32 → fM → Prop} {φ : Int32 → fM → Prop} (hK80 : ∀ (p0 : Nat) (p1 : Int32) (p2 : Int32) (p3 : Int32) (M : fM), K80 p0 p1 p2 p3 M → FW g mtX6_mostOften (d + 1) 80 [(0, .ref p0), (1, .int p1), (2, .int p2), (3, .int p3)] [] M 0 0 (rI φ)) {p0 : Nat} {p1 : Int32} {p2 : Int32} {p3 : Int32} {M : fM} (h : b_X6_mostOften_80 K80 φ p0 p1 p2 p3 M) : FW g mtX6_mostOften (d + 1) 80 [(0, .ref p0), (1, .int p1), (2, .int p2), (3, .int p3)] [] M 0 0 (rI φ) := by
  unfold b_X6_mostOften_80 at h
  refine fw_iload_n (i := 3) 3 rfl (show decode _ _ = .ok (.iload_n 3, 1) by decide +kernel) ?_
  refine fw_if_lt 142 (show decode _ _ = .ok (.ifCond .lt 61, 3) by decide +kernel) (by decide) (fun hc46 => ?_) (fun hc46 => ?_)
  · have h_1 := ipos hc46 h
    refine fw_iload_n (i := 2) 2 rfl (show decode _ _ = .ok (.iload_n 2, 1) by decide +kernel) ?_
    exact fw_ret (v := some (.int p2)) .ireturn (show decode _ _ = .ok (.ireturn, 1) by decide +kernel) ⟨rfl, Or.inl rfl⟩ ⟨_, rfl, h_1⟩
  · have h_2 := ineg hc46 h
    refine fw_aload_n (i := 0) 0 rfl (show decode _ _ = .ok (.aload_n 0, 1) by decide +kernel) ?_
    obtain ⟨⟨hr2, n1, hs3⟩, h_3⟩ := h_2
    refine fw_getP (kd := 6) (k := 0) (show decode _ _ = .ok (.getfield 15, 3) by decide +kernel) gf_X6_15 hr2 hs3 rfl ?_
    have h_4 := dR_e h_3
    obtain ⟨y4, hy5, h_5⟩ := h_4
    refine fw_deref hy5 ?_
    refine fw_iload_n (i := 3) 3 rfl (show decode _ _ = .ok (.iload_n 3, 1) by decide +kernel) ?_
    refine fw_iconst (v := (1 : Int32)) (show decode _ _ = .ok (.iconst 1, 1) by decide +kernel) (by decide) ?_
    obtain ⟨⟨hr8, n7, hs9⟩, h_6⟩ := h_5
    refine fw_callV (mt' := mtX5_lineOf) (mc := 0) (ms := 0) (As := [.int p3, .int (1 : Int32)]) (rest := []) 2 5 n7 (show decode _ _ = .ok (.invokevirtual 77, 3) by decide +kernel) cv_X6_77 ⟨_, rfl, rfl⟩ hr8 hs9 rfl (Nat.le_of_ble_eq_true rfl) (s_X5_lineOf (d := d) (hd_le hd (by decide)) h_6) (by decide) (by decide) (kI (bc' := 0) (bs' := 0) (by decide) (by decide) (fun x10 M6 h_7 => ?_))
    refine fw_istore (i := 4) (ls' := [(4, .int x10), (0, .ref p0), (1, .int p1), (2, .int p2), (3, .int p3)]) (show decode _ _ = .ok (.istore 4, 2) by decide +kernel) (by decide) rfl ?_
    refine fw_aload_n (i := 0) 1 rfl (show decode _ _ = .ok (.aload_n 0, 1) by decide +kernel) ?_
    obtain ⟨⟨hr12, n11, hs13⟩, h_8⟩ := h_7
    refine fw_getP (kd := 6) (k := 0) (show decode _ _ = .ok (.getfield 15, 3) by decide +kernel) gf_X6_15 hr12 hs13 rfl ?_
    have h_9 := dR_e h_8
    obtain ⟨y14, hy15, h_10⟩ := h_9
    refine fw_deref hy15 ?_
    refine fw_iload_n (i := 3) 4 rfl (show decode _ _ = .ok (.iload_n 3, 1) by decide +kernel) ?_
    refine fw_iconst (v := (0 : Int32)) (show decode _ _ = .ok (.iconst 0, 1) by decide +kernel) (by decide) ?_
    obtain ⟨⟨hr18, n17, hs19⟩, h_11⟩ := h_10
    refine fw_callV (mt' := mtX5_lineOf) (mc := 0) (ms := 0) (As := [.int p3, .int (0 : Int32)]) (rest := []) 2 5 n17 (show decode _ _ = .ok (.invokevirtual 77, 3) by decide +kernel) cv_X6_77 ⟨_, rfl, rfl⟩ hr18 hs19 rfl (Nat.le_of_ble_eq_true rfl) (s_X5_lineOf (d := d) (hd_le hd (by decide)) h_11) (by decide) (by decide) (kI (bc' := 0) (bs' := 0) (by decide) (by decide) (fun x20 M16 h_12 => ?_))
    refine fw_iload_n (i := 1) 2 rfl (show decode _ _ = .ok (.iload_n 1, 1) by decide +kernel) ?_
    refine fw_icmp_ne 136 (show decode _ _ = .ok (.if_icmp .ne 31, 3) by decide +kernel) (by decide) (fun hc45 => ?_) (fun hc45 => ?_)
    · have h_13 := ineg hc45 h_12
      obtain ⟨x21, ex22⟩ : ∃ y : Int32, y = p3 + (-1 : Int32) := ⟨_, rfl⟩
      have h_14 := h_13 x21 ex22
      refine fw_iinc (i := 3) (x := p3) (v := x21) (ls' := [(3, .int x21), (4, .int x10), (0, .ref p0), (1, .int p1), (2, .int p2)]) 4 rfl (show decode _ _ = .ok (.iinc 3 (-1), 3) by decide +kernel) (by rw [ex22]; rfl) (by decide) rfl ?_
      refine fw_goto 80 (show decode _ _ = .ok (.goto (-59), 3) by decide +kernel) (by decide) ?_
      refine FW.sub [2, 3, 4, 0] (ls' := [(0, .ref p0), (1, .int p1), (2, .int p2), (3, .int x21)]) rfl ?_
      exact hK80 _ _ _ _ _ h_14
    · have h_15 := ipos hc45 h_12
      refine fw_iload_n (i := 2) 3 rfl (show decode _ _ = .ok (.iload_n 2, 1) by decide +kernel) ?_
      refine fw_iconst (v := (-1 : Int32)) (show decode _ _ = .ok (.iconst (-1), 1) by decide +kernel) (by decide) ?_
      refine fw_icmp_eq 133 (show decode _ _ = .ok (.if_icmp .eq 23, 3) by decide +kernel) (by decide) (fun hc44 => ?_) (fun hc44 => ?_)
      · have h_16 := ipos hc44 h_15
        refine fw_iload (i := 4) 0 rfl (show decode _ _ = .ok (.iload 4, 2) by decide +kernel) ?_
        refine fw_istore_n (i := 2) (ls' := [(2, .int x10), (4, .int x10), (0, .ref p0), (1, .int p1), (3, .int p3)]) (show decode _ _ = .ok (.istore_n 2, 1) by decide +kernel) (by decide) rfl ?_
        obtain ⟨x23, ex24⟩ : ∃ y : Int32, y = p3 + (-1 : Int32) := ⟨_, rfl⟩
        have h_17 := h_16 x23 ex24
        refine fw_iinc (i := 3) (x := p3) (v := x23) (ls' := [(3, .int x23), (2, .int x10), (4, .int x10), (0, .ref p0), (1, .int p1)]) 4 rfl (show decode _ _ = .ok (.iinc 3 (-1), 3) by decide +kernel) (by rw [ex24]; rfl) (by decide) rfl ?_
        refine fw_goto 80 (show decode _ _ = .ok (.goto (-59), 3) by decide +kernel) (by decide) ?_
        refine FW.sub [3, 4, 1, 0] (ls' := [(0, .ref p0), (1, .int p1), (2, .int x10), (3, .int x23)]) rfl ?_
        exact hK80 _ _ _ _ _ h_17
      · have h_18 := ineg hc44 h_15
        refine fw_aload_n (i := 0) 1 rfl (show decode _ _ = .ok (.aload_n 0, 1) by decide +kernel) ?_
        obtain ⟨⟨hr26, n25, hs27⟩, h_19⟩ := h_18
        refine fw_getP (kd := 6) (k := 2) (show decode _ _ = .ok (.getfield 9, 3) by decide +kernel) gf_X6_9 hr26 hs27 rfl ?_
        have h_20 := dR_e h_19
        obtain ⟨y28, hy29, h_21⟩ := h_20
        refine fw_deref hy29 ?_
        refine fw_iload (i := 4) 0 rfl (show decode _ _ = .ok (.iload 4, 2) by decide +kernel) ?_
        refine fw_callSN (mt' := mtX10_cell) (mc := 0) (ms := 0) (As := [.ref y28, .int x10]) (rest := []) 2 "OneStepMore" (show decode _ _ = .ok (.invokestatic 96, 3) by decide +kernel) ns_X6_96 rfl (Nat.le_of_ble_eq_true rfl) (s_X10_cell (d := d) (hd_le hd (by decide)) h_21) (by decide) (by decide) (kI (bc' := 0) (bs' := 0) (by decide) (by decide) (fun x31 M30 h_22 => ?_))
        refine fw_aload_n (i := 0) 1 rfl (show decode _ _ = .ok (.aload_n 0, 1) by decide +kernel) ?_
        obtain ⟨⟨hr33, n32, hs34⟩, h_23⟩ := h_22
        refine fw_getP (kd := 6) (k := 2) (show decode _ _ = .ok (.getfield 9, 3) by decide +kernel) gf_X6_9 hr33 hs34 rfl ?_
        have h_24 := dR_e h_23
        obtain ⟨y35, hy36, h_25⟩ := h_24
        refine fw_deref hy36 ?_
        refine fw_iload_n (i := 2) 3 rfl (show decode _ _ = .ok (.iload_n 2, 1) by decide +kernel) ?_
        refine fw_callSN (mt' := mtX10_cell) (mc := 0) (ms := 0) (As := [.ref y35, .int p2]) (rest := [.int x31]) 2 "OneStepMore" (show decode _ _ = .ok (.invokestatic 96, 3) by decide +kernel) ns_X6_96 rfl (Nat.le_of_ble_eq_true rfl) (s_X10_cell (d := d) (hd_le hd (by decide)) h_25) (by decide) (by decide) (kI (bc' := 0) (bs' := 0) (by decide) (by decide) (fun x38 M37 h_26 => ?_))
        refine fw_icmp_le 136 (show decode _ _ = .ok (.if_icmp .le 6, 3) by decide +kernel) (by decide) (fun hc43 => ?_) (fun hc43 => ?_)
        · have h_27 := ipos hc43 h_26
          obtain ⟨x39, ex40⟩ : ∃ y : Int32, y = p3 + (-1 : Int32) := ⟨_, rfl⟩
          have h_28 := h_27 x39 ex40
          refine fw_iinc (i := 3) (x := p3) (v := x39) (ls' := [(3, .int x39), (4, .int x10), (0, .ref p0), (1, .int p1), (2, .int p2)]) 4 rfl (show decode _ _ = .ok (.iinc 3 (-1), 3) by decide +kernel) (by rw [ex40]; rfl) (by decide) rfl ?_
          refine fw_goto 80 (show decode _ _ = .ok (.goto (-59), 3) by decide +kernel) (by decide) ?_
          refine FW.sub [2, 3, 4, 0] (ls' := [(0, .ref p0), (1, .int p1), (2, .int p2), (3, .int x39)]) rfl ?_
          exact hK80 _ _ _ _ _ h_28
        · have h_29 := ineg hc43 h_26
          refine fw_iload (i := 4) 0 rfl (show decode _ _ = .ok (.iload 4, 2) by decide +kernel) ?_
          refine fw_istore_n (i := 2) (ls' := [(2, .int x10), (4, .int x10), (0, .ref p0), (1, .int p1), (3, .int p3)]) (show decode _ _ = .ok (.istore_n 2, 1) by decide +kernel) (by decide) rfl ?_
          obtain ⟨x41, ex42⟩ : ∃ y : Int32, y = p3 + (-1 : Int32) := ⟨_, rfl⟩
          have h_30 := h_29 x41 ex42
          refine fw_iinc (i := 3) (x := p3) (v := x41) (ls' := [(3, .int x41), (2, .int x10), (4, .int x10), (0, .ref p0), (1, .int p1)]) 4 rfl (show decode _ _ = .ok (.iinc 3 (-1), 3) by decide +kernel) (by rw [ex42]; rfl) (by decide) rfl ?_
          refine fw_goto 80 (show decode _ _ = .ok (.goto (-59), 3) by decide +kernel) (by decide) ?_
          refine FW.sub [3, 4, 1, 0] (ls' := [(0, .ref p0), (1, .int p1), (2, .int x10), (3, .int x41)]) rfl ?_
          exact hK80 _ _ _ _ _ h_30
theorem sl_X6_mostOften_80 {g : GT} {d : Nat} (hd : 3 ≤ d + 1) {φ : Int32 → fM → Prop} : ∀ (n : Nat) {p0 : Nat} {p1 : Int32} {p2 : Int32} {p3 : Int32} {M : fM}, l_X6_mostOften_80 φ n p0 p1 p2 p3 M → FW g mtX6_mostOften (d + 1) 80 [(0, .ref p0), (1, .int p1), (2, .int p2), (3, .int p3)] [] M 0 0 (rI φ)
  | 0 => fun h => h.elim
  | n + 1 => fun h => sb_X6_mostOften_80 hd (fun _ _ _ _ _ h => sl_X6_mostOften_80 hd n h) h
def b_X6_mostOften_10 (K10 : Nat → Int32 → Int32 → fM → Prop) (φ : Int32 → fM → Prop) (p0 : Nat) (p1 : Int32) (p2 : Int32) (M : fM) : Prop := isO M p0 6 ∧ dR (mP M p0 0) fun y50 => isO M y50 5 ∧ w_X5_lines y50 M fun x56 M52 => iF (x56 ≤ p2) (isO M52 p0 6 ∧ dR (mP M52 p0 0) fun y60 => isO M52 y60 5 ∧ w_X5_lines y60 M52 fun x66 M62 => nm (x66 - (1 : Int32)) fun x67 => ∃ n, l_X6_mostOften_80 φ n p0 p1 (-1 : Int32) x67 M62) (isO M52 p0 6 ∧ dR (mP M52 p0 0) fun y72 => isO M52 y72 5 ∧ w_X5_lineOf y72 p2 (0 : Int32) M52 fun x78 M74 => iF (x78 = p1) (isO M74 p0 6 ∧ dR (mP M74 p0 0) fun y84 => isO M74 y84 5 ∧ w_X5_lineOf y84 p2 (1 : Int32) M74 fun x90 M86 => isO M86 p0 6 ∧ dR (mP M86 p0 2) fun y94 => dR (mP M86 p0 2) fun y96 => w_X10_cell y96 x90 M86 fun x99 M98 => w_X10_put y94 x90 (x99 + (1 : Int32)) M98 fun M100 => nm (p2 + (1 : Int32)) fun x101 => K10 p0 p1 x101 M100) (nm (p2 + (1 : Int32)) fun x79 => K10 p0 p1 x79 M74))
def l_X6_mostOften_10 (φ : Int32 → fM → Prop) : Nat → Nat → Int32 → Int32 → fM → Prop
  | 0, _, _, _, _ => False
  | n + 1, p0, p1, p2, M => b_X6_mostOften_10 (l_X6_mostOften_10 φ n) φ p0 p1 p2 M
set_option maxRecDepth 100000 in
theorem sb_X6_mostOften_10 {g : GT} {d : Nat} (hd : 3 ≤ d + 1) {K10 : Nat → Int32 → Int32 → fM → Prop} {φ : Int32 → fM → Prop} (hK10 : ∀ (p0 : Nat) (p1 : Int32) (p2 : Int32) (M : fM), K10 p0 p1 p2 M → FW g mtX6_mostOften (d + 1) 10 [(0, .ref p0), (1, .int p1), (2, .int p2)] [] M 0 0 (rI φ)) {p0 : Nat} {p1 : Int32} {p2 : Int32} {M : fM} (h : b_X6_mostOften_10 K10 φ p0 p1 p2 M) : FW g mtX6_mostOften (d + 1) 10 [(0, .ref p0), (1, .int p1), (2, .int p2)] [] M 0 0 (rI φ) := by
  unfold b_X6_mostOften_10 at h
  refine fw_iload_n (i := 2) 2 rfl (show decode _ _ = .ok (.iload_n 2, 1) by decide +kernel) ?_
  refine fw_aload_n (i := 0) 0 rfl (show decode _ _ = .ok (.aload_n 0, 1) by decide +kernel) ?_
  obtain ⟨⟨hr48, n47, hs49⟩, h_1⟩ := h
  refine fw_getP (kd := 6) (k := 0) (show decode _ _ = .ok (.getfield 15, 3) by decide +kernel) gf_X6_15 hr48 hs49 rfl ?_
  have h_2 := dR_e h_1
  obtain ⟨y50, hy51, h_3⟩ := h_2
  refine fw_deref hy51 ?_
  obtain ⟨⟨hr54, n53, hs55⟩, h_4⟩ := h_3
  refine fw_callV (mt' := mtX5_lines) (mc := 0) (ms := 0) (As := []) (rest := [.int p2]) 0 5 n53 (show decode _ _ = .ok (.invokevirtual 74, 3) by decide +kernel) cv_X6_74 ⟨_, rfl, rfl⟩ hr54 hs55 rfl (Nat.le_of_ble_eq_true rfl) (s_X5_lines (d := d) (hd_le hd (by decide)) h_4) (by decide) (by decide) (kI (bc' := 0) (bs' := 0) (by decide) (by decide) (fun x56 M52 h_5 => ?_))
  refine fw_icmp_ge 68 (show decode _ _ = .ok (.if_icmp .ge 50, 3) by decide +kernel) (by decide) (fun hc104 => ?_) (fun hc104 => ?_)
  · have h_6 := ipos hc104 h_5
    refine fw_iconst (v := (-1 : Int32)) (show decode _ _ = .ok (.iconst (-1), 1) by decide +kernel) (by decide) ?_
    refine fw_istore_n (i := 2) (ls' := [(2, .int (-1 : Int32)), (0, .ref p0), (1, .int p1)]) (show decode _ _ = .ok (.istore_n 2, 1) by decide +kernel) (by decide) rfl ?_
    refine fw_aload_n (i := 0) 1 rfl (show decode _ _ = .ok (.aload_n 0, 1) by decide +kernel) ?_
    obtain ⟨⟨hr58, n57, hs59⟩, h_7⟩ := h_6
    refine fw_getP (kd := 6) (k := 0) (show decode _ _ = .ok (.getfield 15, 3) by decide +kernel) gf_X6_15 hr58 hs59 rfl ?_
    have h_8 := dR_e h_7
    obtain ⟨y60, hy61, h_9⟩ := h_8
    refine fw_deref hy61 ?_
    obtain ⟨⟨hr64, n63, hs65⟩, h_10⟩ := h_9
    refine fw_callV (mt' := mtX5_lines) (mc := 0) (ms := 0) (As := []) (rest := []) 0 5 n63 (show decode _ _ = .ok (.invokevirtual 74, 3) by decide +kernel) cv_X6_74 ⟨_, rfl, rfl⟩ hr64 hs65 rfl (Nat.le_of_ble_eq_true rfl) (s_X5_lines (d := d) (hd_le hd (by decide)) h_10) (by decide) (by decide) (kI (bc' := 0) (bs' := 0) (by decide) (by decide) (fun x66 M62 h_11 => ?_))
    refine fw_iconst (v := (1 : Int32)) (show decode _ _ = .ok (.iconst 1, 1) by decide +kernel) (by decide) ?_
    refine fw_isub (show decode _ _ = .ok (.isub, 1) by decide +kernel) ?_
    refine fw_nmI (fun x67 ex68 => ?_)
    have h_12 := h_11 x67 ex68
    refine fw_istore_n (i := 3) (ls' := [(3, .int x67), (2, .int (-1 : Int32)), (0, .ref p0), (1, .int p1)]) (show decode _ _ = .ok (.istore_n 3, 1) by decide +kernel) (by decide) rfl ?_
    refine FW.sub [2, 3, 1, 0] (ls' := [(0, .ref p0), (1, .int p1), (2, .int (-1 : Int32)), (3, .int x67)]) rfl ?_
    obtain ⟨nn, h_13⟩ := h_12
    exact sl_X6_mostOften_80 hd nn h_13
  · have h_14 := ineg hc104 h_5
    refine fw_aload_n (i := 0) 0 rfl (show decode _ _ = .ok (.aload_n 0, 1) by decide +kernel) ?_
    obtain ⟨⟨hr70, n69, hs71⟩, h_15⟩ := h_14
    refine fw_getP (kd := 6) (k := 0) (show decode _ _ = .ok (.getfield 15, 3) by decide +kernel) gf_X6_15 hr70 hs71 rfl ?_
    have h_16 := dR_e h_15
    obtain ⟨y72, hy73, h_17⟩ := h_16
    refine fw_deref hy73 ?_
    refine fw_iload_n (i := 2) 2 rfl (show decode _ _ = .ok (.iload_n 2, 1) by decide +kernel) ?_
    refine fw_iconst (v := (0 : Int32)) (show decode _ _ = .ok (.iconst 0, 1) by decide +kernel) (by decide) ?_
    obtain ⟨⟨hr76, n75, hs77⟩, h_18⟩ := h_17
    refine fw_callV (mt' := mtX5_lineOf) (mc := 0) (ms := 0) (As := [.int p2, .int (0 : Int32)]) (rest := []) 2 5 n75 (show decode _ _ = .ok (.invokevirtual 77, 3) by decide +kernel) cv_X6_77 ⟨_, rfl, rfl⟩ hr76 hs77 rfl (Nat.le_of_ble_eq_true rfl) (s_X5_lineOf (d := d) (hd_le hd (by decide)) h_18) (by decide) (by decide) (kI (bc' := 0) (bs' := 0) (by decide) (by decide) (fun x78 M74 h_19 => ?_))
    refine fw_iload_n (i := 1) 1 rfl (show decode _ _ = .ok (.iload_n 1, 1) by decide +kernel) ?_
    refine fw_icmp_ne 62 (show decode _ _ = .ok (.if_icmp .ne 31, 3) by decide +kernel) (by decide) (fun hc103 => ?_) (fun hc103 => ?_)
    · have h_20 := ineg hc103 h_19
      obtain ⟨x79, ex80⟩ : ∃ y : Int32, y = p2 + (1 : Int32) := ⟨_, rfl⟩
      have h_21 := h_20 x79 ex80
      refine fw_iinc (i := 2) (x := p2) (v := x79) (ls' := [(2, .int x79), (0, .ref p0), (1, .int p1)]) 2 rfl (show decode _ _ = .ok (.iinc 2 1, 3) by decide +kernel) (by rw [ex80]; rfl) (by decide) rfl ?_
      refine fw_goto 10 (show decode _ _ = .ok (.goto (-55), 3) by decide +kernel) (by decide) ?_
      refine FW.sub [1, 2, 0] (ls' := [(0, .ref p0), (1, .int p1), (2, .int x79)]) rfl ?_
      exact hK10 _ _ _ _ h_21
    · have h_22 := ipos hc103 h_19
      refine fw_aload_n (i := 0) 0 rfl (show decode _ _ = .ok (.aload_n 0, 1) by decide +kernel) ?_
      obtain ⟨⟨hr82, n81, hs83⟩, h_23⟩ := h_22
      refine fw_getP (kd := 6) (k := 0) (show decode _ _ = .ok (.getfield 15, 3) by decide +kernel) gf_X6_15 hr82 hs83 rfl ?_
      have h_24 := dR_e h_23
      obtain ⟨y84, hy85, h_25⟩ := h_24
      refine fw_deref hy85 ?_
      refine fw_iload_n (i := 2) 2 rfl (show decode _ _ = .ok (.iload_n 2, 1) by decide +kernel) ?_
      refine fw_iconst (v := (1 : Int32)) (show decode _ _ = .ok (.iconst 1, 1) by decide +kernel) (by decide) ?_
      obtain ⟨⟨hr88, n87, hs89⟩, h_26⟩ := h_25
      refine fw_callV (mt' := mtX5_lineOf) (mc := 0) (ms := 0) (As := [.int p2, .int (1 : Int32)]) (rest := []) 2 5 n87 (show decode _ _ = .ok (.invokevirtual 77, 3) by decide +kernel) cv_X6_77 ⟨_, rfl, rfl⟩ hr88 hs89 rfl (Nat.le_of_ble_eq_true rfl) (s_X5_lineOf (d := d) (hd_le hd (by decide)) h_26) (by decide) (by decide) (kI (bc' := 0) (bs' := 0) (by decide) (by decide) (fun x90 M86 h_27 => ?_))
      refine fw_istore_n (i := 3) (ls' := [(3, .int x90), (0, .ref p0), (1, .int p1), (2, .int p2)]) (show decode _ _ = .ok (.istore_n 3, 1) by decide +kernel) (by decide) rfl ?_
      refine fw_aload_n (i := 0) 1 rfl (show decode _ _ = .ok (.aload_n 0, 1) by decide +kernel) ?_
      obtain ⟨⟨hr92, n91, hs93⟩, h_28⟩ := h_27
      refine fw_getP (kd := 6) (k := 2) (show decode _ _ = .ok (.getfield 9, 3) by decide +kernel) gf_X6_9 hr92 hs93 rfl ?_
      have h_29 := dR_e h_28
      obtain ⟨y94, hy95, h_30⟩ := h_29
      refine fw_deref hy95 ?_
      refine fw_iload_n (i := 3) 0 rfl (show decode _ _ = .ok (.iload_n 3, 1) by decide +kernel) ?_
      refine fw_aload_n (i := 0) 1 rfl (show decode _ _ = .ok (.aload_n 0, 1) by decide +kernel) ?_
      refine fw_getP (kd := 6) (k := 2) (show decode _ _ = .ok (.getfield 9, 3) by decide +kernel) gf_X6_9 hr92 hs93 rfl ?_
      have h_31 := dR_e h_30
      obtain ⟨y96, hy97, h_32⟩ := h_31
      refine fw_deref hy97 ?_
      refine fw_iload_n (i := 3) 0 rfl (show decode _ _ = .ok (.iload_n 3, 1) by decide +kernel) ?_
      refine fw_callSN (mt' := mtX10_cell) (mc := 0) (ms := 0) (As := [.ref y96, .int x90]) (rest := [.int x90, .ref y94]) 2 "OneStepMore" (show decode _ _ = .ok (.invokestatic 96, 3) by decide +kernel) ns_X6_96 rfl (Nat.le_of_ble_eq_true rfl) (s_X10_cell (d := d) (hd_le hd (by decide)) h_32) (by decide) (by decide) (kI (bc' := 0) (bs' := 0) (by decide) (by decide) (fun x99 M98 h_33 => ?_))
      refine fw_iconst (v := (1 : Int32)) (show decode _ _ = .ok (.iconst 1, 1) by decide +kernel) (by decide) ?_
      refine fw_iadd (show decode _ _ = .ok (.iadd, 1) by decide +kernel) ?_
      refine fw_callSN (mt' := mtX10_put) (mc := 0) (ms := 0) (As := [.ref y94, .int x90, .int (x99 + (1 : Int32))]) (rest := []) 3 "OneStepMore" (show decode _ _ = .ok (.invokestatic 100, 3) by decide +kernel) ns_X6_100 rfl (Nat.le_of_ble_eq_true rfl) (s_X10_put (d := d) (hd_le hd (by decide)) h_33) (by decide) (by decide) (kV (bc' := 0) (bs' := 0) (by decide) (by decide) (fun M100 h_34 => ?_))
      obtain ⟨x101, ex102⟩ : ∃ y : Int32, y = p2 + (1 : Int32) := ⟨_, rfl⟩
      have h_35 := h_34 x101 ex102
      refine fw_iinc (i := 2) (x := p2) (v := x101) (ls' := [(2, .int x101), (3, .int x90), (0, .ref p0), (1, .int p1)]) 3 rfl (show decode _ _ = .ok (.iinc 2 1, 3) by decide +kernel) (by rw [ex102]; rfl) (by decide) rfl ?_
      refine fw_goto 10 (show decode _ _ = .ok (.goto (-55), 3) by decide +kernel) (by decide) ?_
      refine FW.sub [2, 3, 0] (ls' := [(0, .ref p0), (1, .int p1), (2, .int x101)]) rfl ?_
      exact hK10 _ _ _ _ h_35
theorem sl_X6_mostOften_10 {g : GT} {d : Nat} (hd : 3 ≤ d + 1) {φ : Int32 → fM → Prop} : ∀ (n : Nat) {p0 : Nat} {p1 : Int32} {p2 : Int32} {M : fM}, l_X6_mostOften_10 φ n p0 p1 p2 M → FW g mtX6_mostOften (d + 1) 10 [(0, .ref p0), (1, .int p1), (2, .int p2)] [] M 0 0 (rI φ)
  | 0 => fun h => h.elim
  | n + 1 => fun h => sb_X6_mostOften_10 hd (fun _ _ _ _ h => sl_X6_mostOften_10 hd n h) h
def w_X6_mostOften (p0 : Nat) (p1 : Int32) (M : fM) (φ : Int32 → fM → Prop) : Prop := isO M p0 6 ∧ dR (mP M p0 2) fun y108 => w_J7_fill_53178 y108 (0 : Int32) M fun M110 => ∃ n, l_X6_mostOften_10 φ n p0 p1 (0 : Int32) M110
set_option maxRecDepth 100000 in
theorem s_X6_mostOften {g : GT} {d : Nat} (hd : 3 ≤ d) {p0 : Nat} {p1 : Int32} {M : fM} {φ : Int32 → fM → Prop} (h : w_X6_mostOften p0 p1 M φ) : FC g mtX6_mostOften d [.ref p0, .int p1] M 0 0 (rI φ) := by
  obtain ⟨d, rfl⟩ : ∃ e, d = e + 1 := ⟨d - 1, by omega⟩
  unfold w_X6_mostOften at h
  refine FC.intro (nL := 5) (by decide) rfl (Nat.le_of_ble_eq_true rfl) ?_
  show FW g mtX6_mostOften (d + 1) 0 [(0, .ref p0), (1, .int p1)] [] M 0 0 (rI φ)
  refine fw_aload_n (i := 0) 0 rfl (show decode _ _ = .ok (.aload_n 0, 1) by decide +kernel) ?_
  obtain ⟨⟨hr106, n105, hs107⟩, h_1⟩ := h
  refine fw_getP (kd := 6) (k := 2) (show decode _ _ = .ok (.getfield 9, 3) by decide +kernel) gf_X6_9 hr106 hs107 rfl ?_
  have h_2 := dR_e h_1
  obtain ⟨y108, hy109, h_3⟩ := h_2
  refine fw_deref hy109 ?_
  refine fw_iconst (v := (0 : Int32)) (show decode _ _ = .ok (.iconst 0, 1) by decide +kernel) (by decide) ?_
  refine fw_callS (mt' := mtJ7_fill_53178) (mc := 0) (ms := 0) (As := [.ref y108, .int (0 : Int32)]) (rest := []) 2 (show decode _ _ = .ok (.invokestatic 90, 3) by decide +kernel) cs_X6_90 rfl (Nat.le_of_ble_eq_true rfl) (s_J7_fill_53178 (d := d) (hd_le hd (by decide)) h_3) (by decide) (by decide) (kV (bc' := 0) (bs' := 0) (by decide) (by decide) (fun M110 h_4 => ?_))
  refine fw_iconst (v := (0 : Int32)) (show decode _ _ = .ok (.iconst 0, 1) by decide +kernel) (by decide) ?_
  refine fw_istore_n (i := 2) (ls' := [(2, .int (0 : Int32)), (0, .ref p0), (1, .int p1)]) (show decode _ _ = .ok (.istore_n 2, 1) by decide +kernel) (by decide) rfl ?_
  refine FW.sub [1, 2, 0] (ls' := [(0, .ref p0), (1, .int p1), (2, .int (0 : Int32))]) rfl ?_
  obtain ⟨nn, h_5⟩ := h_4
  exact sl_X6_mostOften_10 hd nn h_5
def j_X6_legsOf_32 (φ : Int32 → fM → Prop) (p0 : Nat) (p1 : Int32) (p3 : Option Nat) (M : fM) : Prop := isO M p0 6 ∧ dR (mP M p0 0) fun y4 => w_X6_mostOften p0 p1 M fun x7 M6 => isO M6 y4 5 ∧ w_X5_houseOf y4 x7 M6 fun o12 M8 => gN p3 (fun y13 => gN o12 (fun y15 => isO M8 y15 0 ∧ isO M8 y13 0 ∧ φ ((mI M8 y15 0) - (mI M8 y13 0)) M8) (φ (-100 : Int32) M8)) (gN o12 (fun y23 => isO M8 y23 0 ∧ φ (mI M8 y23 0) M8) (φ (-1 : Int32) M8))
set_option maxRecDepth 100000 in
theorem sj_X6_legsOf_32 {g : GT} {d : Nat} (hd : 4 ≤ d + 1) {φ : Int32 → fM → Prop} {p0 : Nat} {p1 : Int32} {p3 : Option Nat} {M : fM} (h : j_X6_legsOf_32 φ p0 p1 p3 M) : FW g mtX6_legsOf (d + 1) 32 [(0, .ref p0), (1, .int p1), (3, fr p3)] [] M 0 0 (rI φ) := by
  unfold j_X6_legsOf_32 at h
  refine fw_aload_n (i := 0) 0 rfl (show decode _ _ = .ok (.aload_n 0, 1) by decide +kernel) ?_
  obtain ⟨⟨hr2, n1, hs3⟩, h_1⟩ := h
  refine fw_getP (kd := 6) (k := 0) (show decode _ _ = .ok (.getfield 15, 3) by decide +kernel) gf_X6_15 hr2 hs3 rfl ?_
  have h_2 := dR_e h_1
  obtain ⟨y4, hy5, h_3⟩ := h_2
  refine fw_deref hy5 ?_
  refine fw_aload_n (i := 0) 0 rfl (show decode _ _ = .ok (.aload_n 0, 1) by decide +kernel) ?_
  refine fw_iload_n (i := 1) 1 rfl (show decode _ _ = .ok (.iload_n 1, 1) by decide +kernel) ?_
  refine fw_callV (mt' := mtX6_mostOften) (mc := 0) (ms := 0) (As := [.int p1]) (rest := [.ref y4]) 1 6 n1 (show decode _ _ = .ok (.invokevirtual 84, 3) by decide +kernel) cv_X6_84 ⟨_, rfl, rfl⟩ hr2 hs3 rfl (Nat.le_of_ble_eq_true rfl) (s_X6_mostOften (d := d) (hd_le hd (by decide)) h_3) (by decide) (by decide) (kI (bc' := 0) (bs' := 0) (by decide) (by decide) (fun x7 M6 h_4 => ?_))
  obtain ⟨⟨hr10, n9, hs11⟩, h_5⟩ := h_4
  refine fw_callV (mt' := mtX5_houseOf) (mc := 0) (ms := 0) (As := [.int x7]) (rest := []) 1 5 n9 (show decode _ _ = .ok (.invokevirtual 23, 3) by decide +kernel) cv_X6_23 ⟨_, rfl, rfl⟩ hr10 hs11 rfl (Nat.le_of_ble_eq_true rfl) (s_X5_houseOf (d := d) (hd_le hd (by decide)) h_5) (by decide) (by decide) (kP (bc' := 0) (bs' := 0) (by decide) (by decide) (fun o12 M8 h_6 => ?_))
  refine fw_astoreq (i := 4) (ls' := [(4, fr o12), (0, .ref p0), (1, .int p1), (3, fr p3)]) (show decode _ _ = .ok (.astore 4, 2) by decide +kernel) (by decide) (by cases p3 <;> rfl) ?_
  refine fw_aloadq_n (i := 3) 3 rfl (show decode _ _ = .ok (.aload_n 3, 1) by decide +kernel) ?_
  refine fw_ifnonnull (x := p3) 65 (show decode _ _ = .ok (.ifnonnull 18, 3) by decide +kernel) (by decide) (fun y13 hy14 => ?_) (fun hy14 => ?_)
  · have h_7 := gN_s hy14 h_6
    subst hy14
    refine fw_aloadq (i := 4) 0 rfl (show decode _ _ = .ok (.aload 4, 2) by decide +kernel) ?_
    refine fw_ifnonnull (x := o12) 75 (show decode _ _ = .ok (.ifnonnull 8, 3) by decide +kernel) (by decide) (fun y15 hy16 => ?_) (fun hy16 => ?_)
    · have h_8 := gN_s hy16 h_7
      subst hy16
      refine fw_aload (i := 4) 0 rfl (show decode _ _ = .ok (.aload 4, 2) by decide +kernel) ?_
      obtain ⟨⟨hr18, n17, hs19⟩, h_9⟩ := h_8
      refine fw_getI (kd := 0) (k := 0) (show decode _ _ = .ok (.getfield 87, 3) by decide +kernel) gf_X6_87 hr18 hs19 (Or.inl rfl) ?_
      refine fw_aload_n (i := 3) 3 rfl (show decode _ _ = .ok (.aload_n 3, 1) by decide +kernel) ?_
      obtain ⟨⟨hr21, n20, hs22⟩, h_10⟩ := h_9
      refine fw_getI (kd := 0) (k := 0) (show decode _ _ = .ok (.getfield 87, 3) by decide +kernel) gf_X6_87 hr21 hs22 (Or.inl rfl) ?_
      refine fw_isub (show decode _ _ = .ok (.isub, 1) by decide +kernel) ?_
      exact fw_ret (v := some (.int ((mI M8 y15 0) - (mI M8 y13 0)))) .ireturn (show decode _ _ = .ok (.ireturn, 1) by decide +kernel) ⟨rfl, Or.inl rfl⟩ ⟨_, rfl, h_10⟩
    · have h_11 := gN_n hy16 h_7
      subst hy16
      refine fw_bipush (v := (-100 : Int32)) (show decode _ _ = .ok (.bipush (-100), 2) by decide +kernel) (by decide) ?_
      refine fw_goto 85 (show decode _ _ = .ok (.goto 13, 3) by decide +kernel) (by decide) ?_
      exact fw_ret (v := some (.int (-100 : Int32))) .ireturn (show decode _ _ = .ok (.ireturn, 1) by decide +kernel) ⟨rfl, Or.inl rfl⟩ ⟨_, rfl, h_11⟩
  · have h_12 := gN_n hy14 h_6
    subst hy14
    refine fw_aloadq (i := 4) 0 rfl (show decode _ _ = .ok (.aload 4, 2) by decide +kernel) ?_
    refine fw_ifnonnull (x := o12) 59 (show decode _ _ = .ok (.ifnonnull 7, 3) by decide +kernel) (by decide) (fun y23 hy24 => ?_) (fun hy24 => ?_)
    · have h_13 := gN_s hy24 h_12
      subst hy24
      refine fw_aload (i := 4) 0 rfl (show decode _ _ = .ok (.aload 4, 2) by decide +kernel) ?_
      obtain ⟨⟨hr26, n25, hs27⟩, h_14⟩ := h_13
      refine fw_getI (kd := 0) (k := 0) (show decode _ _ = .ok (.getfield 87, 3) by decide +kernel) gf_X6_87 hr26 hs27 (Or.inl rfl) ?_
      exact fw_ret (v := some (.int (mI M8 y23 0))) .ireturn (show decode _ _ = .ok (.ireturn, 1) by decide +kernel) ⟨rfl, Or.inl rfl⟩ ⟨_, rfl, h_14⟩
    · have h_15 := gN_n hy24 h_12
      subst hy24
      refine fw_iconst (v := (-1 : Int32)) (show decode _ _ = .ok (.iconst (-1), 1) by decide +kernel) (by decide) ?_
      refine fw_goto 64 (show decode _ _ = .ok (.goto 8, 3) by decide +kernel) (by decide) ?_
      exact fw_ret (v := some (.int (-1 : Int32))) .ireturn (show decode _ _ = .ok (.ireturn, 1) by decide +kernel) ⟨rfl, Or.inl rfl⟩ ⟨_, rfl, h_15⟩
def w_X6_legsOf (p0 : Nat) (p1 : Int32) (p2 : Int32) (M : fM) (φ : Int32 → fM → Prop) : Prop := isO M p0 6 ∧ dR (mP M p0 0) fun y31 => isO M y31 5 ∧ w_X5_houseOf y31 p2 M fun o37 M33 => isO M33 p0 6 ∧ dR (mP M33 p0 0) fun y41 => isO M33 y41 5 ∧ w_X5_isPerson y41 p1 M33 fun x47 M43 => iF (x47 = 0) (φ (-100 : Int32) M43) (gN o37 (fun y48 => j_X6_legsOf_32 φ p0 p1 (some y48) M43) (iF (p2 = (-1 : Int32)) (j_X6_legsOf_32 φ p0 p1 none M43) (φ (-100 : Int32) M43)))
set_option maxRecDepth 100000 in
theorem s_X6_legsOf {g : GT} {d : Nat} (hd : 4 ≤ d) {p0 : Nat} {p1 : Int32} {p2 : Int32} {M : fM} {φ : Int32 → fM → Prop} (h : w_X6_legsOf p0 p1 p2 M φ) : FC g mtX6_legsOf d [.ref p0, .int p1, .int p2] M 0 0 (rI φ) := by
  obtain ⟨d, rfl⟩ : ∃ e, d = e + 1 := ⟨d - 1, by omega⟩
  unfold w_X6_legsOf at h
  refine FC.intro (nL := 5) (by decide) rfl (Nat.le_of_ble_eq_true rfl) ?_
  show FW g mtX6_legsOf (d + 1) 0 [(0, .ref p0), (1, .int p1), (2, .int p2)] [] M 0 0 (rI φ)
  refine fw_aload_n (i := 0) 0 rfl (show decode _ _ = .ok (.aload_n 0, 1) by decide +kernel) ?_
  obtain ⟨⟨hr29, n28, hs30⟩, h_1⟩ := h
  refine fw_getP (kd := 6) (k := 0) (show decode _ _ = .ok (.getfield 15, 3) by decide +kernel) gf_X6_15 hr29 hs30 rfl ?_
  have h_2 := dR_e h_1
  obtain ⟨y31, hy32, h_3⟩ := h_2
  refine fw_deref hy32 ?_
  refine fw_iload_n (i := 2) 2 rfl (show decode _ _ = .ok (.iload_n 2, 1) by decide +kernel) ?_
  obtain ⟨⟨hr35, n34, hs36⟩, h_4⟩ := h_3
  refine fw_callV (mt' := mtX5_houseOf) (mc := 0) (ms := 0) (As := [.int p2]) (rest := []) 1 5 n34 (show decode _ _ = .ok (.invokevirtual 23, 3) by decide +kernel) cv_X6_23 ⟨_, rfl, rfl⟩ hr35 hs36 rfl (Nat.le_of_ble_eq_true rfl) (s_X5_houseOf (d := d) (hd_le hd (by decide)) h_4) (by decide) (by decide) (kP (bc' := 0) (bs' := 0) (by decide) (by decide) (fun o37 M33 h_5 => ?_))
  refine fw_astoreq_n (i := 3) (ls' := [(3, fr o37), (0, .ref p0), (1, .int p1), (2, .int p2)]) (show decode _ _ = .ok (.astore_n 3, 1) by decide +kernel) (by decide) rfl ?_
  refine fw_aload_n (i := 0) 1 rfl (show decode _ _ = .ok (.aload_n 0, 1) by decide +kernel) ?_
  obtain ⟨⟨hr39, n38, hs40⟩, h_6⟩ := h_5
  refine fw_getP (kd := 6) (k := 0) (show decode _ _ = .ok (.getfield 15, 3) by decide +kernel) gf_X6_15 hr39 hs40 rfl ?_
  have h_7 := dR_e h_6
  obtain ⟨y41, hy42, h_8⟩ := h_7
  refine fw_deref hy42 ?_
  refine fw_iload_n (i := 1) 2 rfl (show decode _ _ = .ok (.iload_n 1, 1) by decide +kernel) ?_
  obtain ⟨⟨hr45, n44, hs46⟩, h_9⟩ := h_8
  refine fw_callV (mt' := mtX5_isPerson) (mc := 0) (ms := 0) (As := [.int p1]) (rest := []) 1 5 n44 (show decode _ _ = .ok (.invokevirtual 35, 3) by decide +kernel) cv_X6_35 ⟨_, rfl, rfl⟩ hr45 hs46 rfl (Nat.le_of_ble_eq_true rfl) (s_X5_isPerson (d := d) (hd_le hd (by decide)) h_9) (by decide) (by decide) (kI (bc' := 0) (bs' := 0) (by decide) (by decide) (fun x47 M43 h_10 => ?_))
  refine fw_if_eq 29 (show decode _ _ = .ok (.ifCond .eq 12, 3) by decide +kernel) (by decide) (fun hc51 => ?_) (fun hc51 => ?_)
  · have h_11 := ipos hc51 h_10
    refine fw_bipush (v := (-100 : Int32)) (show decode _ _ = .ok (.bipush (-100), 2) by decide +kernel) (by decide) ?_
    exact fw_ret (v := some (.int (-100 : Int32))) .ireturn (show decode _ _ = .ok (.ireturn, 1) by decide +kernel) ⟨rfl, Or.inl rfl⟩ ⟨_, rfl, h_11⟩
  · have h_12 := ineg hc51 h_10
    refine fw_aloadq_n (i := 3) 0 rfl (show decode _ _ = .ok (.aload_n 3, 1) by decide +kernel) ?_
    refine fw_ifnonnull (x := o37) 32 (show decode _ _ = .ok (.ifnonnull 11, 3) by decide +kernel) (by decide) (fun y48 hy49 => ?_) (fun hy49 => ?_)
    · have h_13 := gN_s hy49 h_12
      subst hy49
      refine FW.sub [1, 2, 0] (ls' := [(0, .ref p0), (1, .int p1), (3, .ref y48)]) rfl ?_
      exact sj_X6_legsOf_32 hd h_13
    · have h_14 := gN_n hy49 h_12
      subst hy49
      refine fw_iload_n (i := 2) 3 rfl (show decode _ _ = .ok (.iload_n 2, 1) by decide +kernel) ?_
      refine fw_iconst (v := (-1 : Int32)) (show decode _ _ = .ok (.iconst (-1), 1) by decide +kernel) (by decide) ?_
      refine fw_icmp_eq 32 (show decode _ _ = .ok (.if_icmp .eq 6, 3) by decide +kernel) (by decide) (fun hc50 => ?_) (fun hc50 => ?_)
      · have h_15 := ipos hc50 h_14
        refine FW.sub [1, 2, 0] (ls' := [(0, .ref p0), (1, .int p1), (3, fr none)]) rfl ?_
        exact sj_X6_legsOf_32 hd h_15
      · have h_16 := ineg hc50 h_14
        refine fw_bipush (v := (-100 : Int32)) (show decode _ _ = .ok (.bipush (-100), 2) by decide +kernel) (by decide) ?_
        exact fw_ret (v := some (.int (-100 : Int32))) .ireturn (show decode _ _ = .ok (.ireturn, 1) by decide +kernel) ⟨rfl, Or.inl rfl⟩ ⟨_, rfl, h_16⟩
def w_X10_legs (p0 : Nat) (p1 : Int32) (p2 : Int32) (M : fM) (φ : Int32 → fM → Prop) : Prop := isO M p0 10 ∧ dR (mP M p0 6) fun y4 => isO M y4 6 ∧ w_X6_legsOf y4 p1 p2 M fun x10 M6 => φ x10 M6
set_option maxRecDepth 100000 in
theorem s_X10_legs {g : GT} {d : Nat} (hd : 5 ≤ d) {p0 : Nat} {p1 : Int32} {p2 : Int32} {M : fM} {φ : Int32 → fM → Prop} (h : w_X10_legs p0 p1 p2 M φ) : FC g mtX10_legs d [.ref p0, .int p1, .int p2] M 0 0 (rI φ) := by
  obtain ⟨d, rfl⟩ : ∃ e, d = e + 1 := ⟨d - 1, by omega⟩
  unfold w_X10_legs at h
  refine FC.intro (nL := 3) (by decide) rfl (Nat.le_of_ble_eq_true rfl) ?_
  show FW g mtX10_legs (d + 1) 0 [(0, .ref p0), (1, .int p1), (2, .int p2)] [] M 0 0 (rI φ)
  refine fw_aload_n (i := 0) 0 rfl (show decode _ _ = .ok (.aload_n 0, 1) by decide +kernel) ?_
  obtain ⟨⟨hr2, n1, hs3⟩, h_1⟩ := h
  refine fw_getP (kd := 10) (k := 6) (show decode _ _ = .ok (.getfield 57, 3) by decide +kernel) gf_X10_57 hr2 hs3 rfl ?_
  have h_2 := dR_e h_1
  obtain ⟨y4, hy5, h_3⟩ := h_2
  refine fw_deref hy5 ?_
  refine fw_iload_n (i := 1) 1 rfl (show decode _ _ = .ok (.iload_n 1, 1) by decide +kernel) ?_
  refine fw_iload_n (i := 2) 2 rfl (show decode _ _ = .ok (.iload_n 2, 1) by decide +kernel) ?_
  obtain ⟨⟨hr8, n7, hs9⟩, h_4⟩ := h_3
  refine fw_callV (mt' := mtX6_legsOf) (mc := 0) (ms := 0) (As := [.int p1, .int p2]) (rest := []) 2 6 n7 (show decode _ _ = .ok (.invokevirtual 255, 3) by decide +kernel) cv_X10_255 ⟨_, rfl, rfl⟩ hr8 hs9 rfl (Nat.le_of_ble_eq_true rfl) (s_X6_legsOf (d := d) (hd_le hd (by decide)) h_4) (by decide) (by decide) (kI (bc' := 0) (bs' := 0) (by decide) (by decide) (fun x10 M6 h_5 => ?_))
  exact fw_ret (v := some (.int x10)) .ireturn (show decode _ _ = .ok (.ireturn, 1) by decide +kernel) ⟨rfl, Or.inl rfl⟩ ⟨_, rfl, h_5⟩
def w_X5_tellMark (p0 : Nat) (p1 : Int32) (p2 : Int32) (p3 : Int32) (M : fM) (φ : Int32 → fM → Prop) : Prop := isO M p0 5 ∧ w_X5_houseOf p0 p1 M fun o5 M1 => gN o5 (fun y6 => isO M1 y6 0 ∧ w_X0_hasStep y6 p2 M1 fun x12 M8 => iF (x12 = 0) (φ (0 : Int32) M8) (isO M8 y6 0 ∧ w_X0_hasMark y6 p2 M8 fun x17 M13 => iF (x17 = p3) (φ (0 : Int32) M13) (isO M13 y6 0 ∧ nm ((mI M13 y6 2) ^^^ ((1 : Int32) <<< (p2 &&& 31))) fun x21 => st (wI M13 y6 2 x21) fun M23 => st (wI M23 y6 4 (1 : Int32)) fun M25 => φ (1 : Int32) M25))) (φ (0 : Int32) M1)
set_option maxRecDepth 100000 in
theorem s_X5_tellMark {g : GT} {d : Nat} (hd : 3 ≤ d) {p0 : Nat} {p1 : Int32} {p2 : Int32} {p3 : Int32} {M : fM} {φ : Int32 → fM → Prop} (h : w_X5_tellMark p0 p1 p2 p3 M φ) : FC g mtX5_tellMark d [.ref p0, .int p1, .int p2, .int p3] M 0 0 (rI φ) := by
  obtain ⟨d, rfl⟩ : ∃ e, d = e + 1 := ⟨d - 1, by omega⟩
  unfold w_X5_tellMark at h
  refine FC.intro (nL := 5) (by decide) rfl (Nat.le_of_ble_eq_true rfl) ?_
  show FW g mtX5_tellMark (d + 1) 0 [(0, .ref p0), (1, .int p1), (2, .int p2), (3, .int p3)] [] M 0 0 (rI φ)
  refine fw_aload_n (i := 0) 0 rfl (show decode _ _ = .ok (.aload_n 0, 1) by decide +kernel) ?_
  refine fw_iload_n (i := 1) 1 rfl (show decode _ _ = .ok (.iload_n 1, 1) by decide +kernel) ?_
  obtain ⟨⟨hr3, n2, hs4⟩, h_1⟩ := h
  refine fw_callV (mt' := mtX5_houseOf) (mc := 0) (ms := 0) (As := [.int p1]) (rest := []) 1 5 n2 (show decode _ _ = .ok (.invokevirtual 59, 3) by decide +kernel) cv_X5_59 ⟨_, rfl, rfl⟩ hr3 hs4 rfl (Nat.le_of_ble_eq_true rfl) (s_X5_houseOf (d := d) (hd_le hd (by decide)) h_1) (by decide) (by decide) (kP (bc' := 0) (bs' := 0) (by decide) (by decide) (fun o5 M1 h_2 => ?_))
  refine fw_astoreq (i := 4) (ls' := [(4, fr o5), (0, .ref p0), (1, .int p1), (2, .int p2), (3, .int p3)]) (show decode _ _ = .ok (.astore 4, 2) by decide +kernel) (by decide) rfl ?_
  refine fw_aloadq (i := 4) 0 rfl (show decode _ _ = .ok (.aload 4, 2) by decide +kernel) ?_
  refine fw_ifnull (x := o5) 31 (show decode _ _ = .ok (.ifnull 22, 3) by decide +kernel) (by decide) (fun hy7 => ?_) (fun y6 hy7 => ?_)
  · have h_3 := gN_n hy7 h_2
    subst hy7
    refine fw_iconst (v := (0 : Int32)) (show decode _ _ = .ok (.iconst 0, 1) by decide +kernel) (by decide) ?_
    exact fw_ret (v := some (.int (0 : Int32))) .ireturn (show decode _ _ = .ok (.ireturn, 1) by decide +kernel) ⟨rfl, Or.inr (Or.inl ⟨rfl, rfl⟩)⟩ ⟨_, rfl, h_3⟩
  · have h_4 := gN_s hy7 h_2
    subst hy7
    refine fw_aload (i := 4) 0 rfl (show decode _ _ = .ok (.aload 4, 2) by decide +kernel) ?_
    refine fw_iload_n (i := 2) 3 rfl (show decode _ _ = .ok (.iload_n 2, 1) by decide +kernel) ?_
    obtain ⟨⟨hr10, n9, hs11⟩, h_5⟩ := h_4
    refine fw_callV (mt' := mtX0_hasStep) (mc := 0) (ms := 0) (As := [.int p2]) (rest := []) 1 0 n9 (show decode _ _ = .ok (.invokevirtual 75, 3) by decide +kernel) cv_X5_75 ⟨_, rfl, rfl⟩ hr10 hs11 rfl (Nat.le_of_ble_eq_true rfl) (s_X0_hasStep (d := d) (hd_le hd (by decide)) h_5) (by decide) (by decide) (kI (bc' := 0) (bs' := 0) (by decide) (by decide) (fun x12 M8 h_6 => ?_))
    refine fw_if_eq 31 (show decode _ _ = .ok (.ifCond .eq 13, 3) by decide +kernel) (by decide) (fun hc28 => ?_) (fun hc28 => ?_)
    · have h_7 := ipos hc28 h_6
      refine fw_iconst (v := (0 : Int32)) (show decode _ _ = .ok (.iconst 0, 1) by decide +kernel) (by decide) ?_
      exact fw_ret (v := some (.int (0 : Int32))) .ireturn (show decode _ _ = .ok (.ireturn, 1) by decide +kernel) ⟨rfl, Or.inr (Or.inl ⟨rfl, rfl⟩)⟩ ⟨_, rfl, h_7⟩
    · have h_8 := ineg hc28 h_6
      refine fw_aload (i := 4) 0 rfl (show decode _ _ = .ok (.aload 4, 2) by decide +kernel) ?_
      refine fw_iload_n (i := 2) 3 rfl (show decode _ _ = .ok (.iload_n 2, 1) by decide +kernel) ?_
      obtain ⟨⟨hr15, n14, hs16⟩, h_9⟩ := h_8
      refine fw_callV (mt' := mtX0_hasMark) (mc := 0) (ms := 0) (As := [.int p2]) (rest := []) 1 0 n14 (show decode _ _ = .ok (.invokevirtual 86, 3) by decide +kernel) cv_X5_86 ⟨_, rfl, rfl⟩ hr15 hs16 rfl (Nat.le_of_ble_eq_true rfl) (s_X0_hasMark (d := d) (hd_le hd (by decide)) h_9) (by decide) (by decide) (kI (bc' := 0) (bs' := 0) (by decide) (by decide) (fun x17 M13 h_10 => ?_))
      refine fw_iload_n (i := 3) 4 rfl (show decode _ _ = .ok (.iload_n 3, 1) by decide +kernel) ?_
      refine fw_icmp_ne 33 (show decode _ _ = .ok (.if_icmp .ne 5, 3) by decide +kernel) (by decide) (fun hc27 => ?_) (fun hc27 => ?_)
      · have h_11 := ineg hc27 h_10
        refine fw_aload (i := 4) 0 rfl (show decode _ _ = .ok (.aload 4, 2) by decide +kernel) ?_
        refine fw_dup (show decode _ _ = .ok (.dup, 1) by decide +kernel) rfl ?_
        obtain ⟨⟨hr19, n18, hs20⟩, h_12⟩ := h_11
        refine fw_getI (kd := 0) (k := 2) (show decode _ _ = .ok (.getfield 89, 3) by decide +kernel) gf_X5_89 hr19 hs20 (Or.inl rfl) ?_
        refine fw_iconst (v := (1 : Int32)) (show decode _ _ = .ok (.iconst 1, 1) by decide +kernel) (by decide) ?_
        refine fw_iload_n (i := 2) 3 rfl (show decode _ _ = .ok (.iload_n 2, 1) by decide +kernel) ?_
        refine fw_ishl (show decode _ _ = .ok (.ishl, 1) by decide +kernel) ?_
        refine fw_ixor (show decode _ _ = .ok (.ixor, 1) by decide +kernel) ?_
        refine fw_nmI (fun x21 ex22 => ?_)
        have h_13 := h_12 x21 ex22
        refine fw_putI (kd := 0) (k := 2) (show decode _ _ = .ok (.putfield 89, 3) by decide +kernel) ⟨gf_X5_89, _, rfl, Or.inl rfl⟩ hr19 hs20 rfl ?_
        refine FW.nmM (fun M23 eM24 => ?_)
        have h_14 := h_13 M23 eM24
        refine fw_aload (i := 4) 0 rfl (show decode _ _ = .ok (.aload 4, 2) by decide +kernel) ?_
        refine fw_iconst (v := (1 : Int32)) (show decode _ _ = .ok (.iconst 1, 1) by decide +kernel) (by decide) ?_
        refine fw_putZ (kd := 0) (k := 4) (show decode _ _ = .ok (.putfield 71, 3) by decide +kernel) ⟨gf_X5_71, _, rfl, Or.inl rfl⟩ hr19 (mSw_I eM24 hs20) rfl rfl ?_
        refine FW.nmM (fun M25 eM26 => ?_)
        have h_15 := h_14 M25 eM26
        refine fw_iconst (v := (1 : Int32)) (show decode _ _ = .ok (.iconst 1, 1) by decide +kernel) (by decide) ?_
        exact fw_ret (v := some (.int (1 : Int32))) .ireturn (show decode _ _ = .ok (.ireturn, 1) by decide +kernel) ⟨rfl, Or.inr (Or.inl ⟨rfl, rfl⟩)⟩ ⟨_, rfl, h_15⟩
      · have h_16 := ipos hc27 h_10
        refine fw_iconst (v := (0 : Int32)) (show decode _ _ = .ok (.iconst 0, 1) by decide +kernel) (by decide) ?_
        exact fw_ret (v := some (.int (0 : Int32))) .ireturn (show decode _ _ = .ok (.ireturn, 1) by decide +kernel) ⟨rfl, Or.inr (Or.inl ⟨rfl, rfl⟩)⟩ ⟨_, rfl, h_16⟩
def w_X10_mark (p0 : Nat) (p1 : Int32) (p2 : Int32) (p3 : Int32) (M : fM) (φ : Int32 → fM → Prop) : Prop := isO M p0 10 ∧ dR (mP M p0 0) fun y4 => isO M y4 5 ∧ w_X5_tellMark y4 p1 p2 p3 M fun x10 M6 => isB x10 ∧ φ x10 M6
set_option maxRecDepth 100000 in
theorem s_X10_mark {g : GT} {d : Nat} (hd : 4 ≤ d) {p0 : Nat} {p1 : Int32} {p2 : Int32} {p3 : Int32} {M : fM} {φ : Int32 → fM → Prop} (h : w_X10_mark p0 p1 p2 p3 M φ) : FC g mtX10_mark d [.ref p0, .int p1, .int p2, .int p3] M 0 0 (rI φ) := by
  obtain ⟨d, rfl⟩ : ∃ e, d = e + 1 := ⟨d - 1, by omega⟩
  unfold w_X10_mark at h
  refine FC.intro (nL := 4) (by decide) rfl (Nat.le_of_ble_eq_true rfl) ?_
  show FW g mtX10_mark (d + 1) 0 [(0, .ref p0), (1, .int p1), (2, .int p2), (3, .int p3)] [] M 0 0 (rI φ)
  refine fw_aload_n (i := 0) 0 rfl (show decode _ _ = .ok (.aload_n 0, 1) by decide +kernel) ?_
  obtain ⟨⟨hr2, n1, hs3⟩, h_1⟩ := h
  refine fw_getP (kd := 10) (k := 0) (show decode _ _ = .ok (.getfield 13, 3) by decide +kernel) gf_X10_13 hr2 hs3 rfl ?_
  have h_2 := dR_e h_1
  obtain ⟨y4, hy5, h_3⟩ := h_2
  refine fw_deref hy5 ?_
  refine fw_iload_n (i := 1) 1 rfl (show decode _ _ = .ok (.iload_n 1, 1) by decide +kernel) ?_
  refine fw_iload_n (i := 2) 2 rfl (show decode _ _ = .ok (.iload_n 2, 1) by decide +kernel) ?_
  refine fw_iload_n (i := 3) 3 rfl (show decode _ _ = .ok (.iload_n 3, 1) by decide +kernel) ?_
  obtain ⟨⟨hr8, n7, hs9⟩, h_4⟩ := h_3
  refine fw_callV (mt' := mtX5_tellMark) (mc := 0) (ms := 0) (As := [.int p1, .int p2, .int p3]) (rest := []) 3 5 n7 (show decode _ _ = .ok (.invokevirtual 76, 3) by decide +kernel) cv_X10_76 ⟨_, rfl, rfl⟩ hr8 hs9 rfl (Nat.le_of_ble_eq_true rfl) (s_X5_tellMark (d := d) (hd_le hd (by decide)) h_4) (by decide) (by decide) (kI (bc' := 0) (bs' := 0) (by decide) (by decide) (fun x10 M6 h_5 => ?_))
  obtain ⟨hbb, h_6⟩ := h_5
  exact fw_ret (v := some (.int x10)) .ireturn (show decode _ _ = .ok (.ireturn, 1) by decide +kernel) ⟨rfl, Or.inr (Or.inl ⟨rfl, hbb⟩)⟩ ⟨_, rfl, h_6⟩
def w_X9_nightAct (p0 : Nat) (M : fM) (φ : Int32 → fM → Prop) : Prop := isO M p0 9 ∧ dR (mP M p0 0) fun y4 => isO M y4 5 ∧ iF ((mI M y4 6) < (999 : Int32)) (dR (mP M p0 0) fun y9 => isO M y9 5 ∧ w_X5_remember y9 M fun M11 => isO M11 p0 9 ∧ dR (mP M11 p0 0) fun y18 => isO M11 y18 5 ∧ nm ((mI M11 y18 6) + (1 : Int32)) fun x23 => st (wI M11 y18 6 x23) fun M25 => dR (mP M25 p0 0) fun y27 => isO M25 y27 5 ∧ φ (mI M25 y27 6) M25) (φ (-1 : Int32) M)
set_option maxRecDepth 100000 in
theorem s_X9_nightAct {g : GT} {d : Nat} (hd : 3 ≤ d) {p0 : Nat} {M : fM} {φ : Int32 → fM → Prop} (h : w_X9_nightAct p0 M φ) : FC g mtX9_nightAct d [.ref p0] M 0 0 (rI φ) := by
  obtain ⟨d, rfl⟩ : ∃ e, d = e + 1 := ⟨d - 1, by omega⟩
  unfold w_X9_nightAct at h
  refine FC.intro (nL := 1) (by decide) rfl (Nat.le_of_ble_eq_true rfl) ?_
  show FW g mtX9_nightAct (d + 1) 0 [(0, .ref p0)] [] M 0 0 (rI φ)
  refine fw_aload_n (i := 0) 0 rfl (show decode _ _ = .ok (.aload_n 0, 1) by decide +kernel) ?_
  obtain ⟨⟨hr2, n1, hs3⟩, h_1⟩ := h
  refine fw_getP (kd := 9) (k := 0) (show decode _ _ = .ok (.getfield 9, 3) by decide +kernel) gf_X9_9 hr2 hs3 rfl ?_
  have h_2 := dR_e h_1
  obtain ⟨y4, hy5, h_3⟩ := h_2
  refine fw_deref hy5 ?_
  obtain ⟨⟨hr7, n6, hs8⟩, h_4⟩ := h_3
  refine fw_getI (kd := 5) (k := 6) (show decode _ _ = .ok (.getfield 67, 3) by decide +kernel) gf_X9_67 hr7 hs8 (Or.inl rfl) ?_
  refine fw_sipush (v := (999 : Int32)) (show decode _ _ = .ok (.sipush 999, 3) by decide +kernel) (by decide) ?_
  refine fw_icmp_lt 15 (show decode _ _ = .ok (.if_icmp .lt 5, 3) by decide +kernel) (by decide) (fun hc32 => ?_) (fun hc32 => ?_)
  · have h_5 := ipos hc32 h_4
    refine fw_aload_n (i := 0) 0 rfl (show decode _ _ = .ok (.aload_n 0, 1) by decide +kernel) ?_
    refine fw_getP (kd := 9) (k := 0) (show decode _ _ = .ok (.getfield 9, 3) by decide +kernel) gf_X9_9 hr2 hs3 rfl ?_
    have h_6 := dR_e h_5
    obtain ⟨y9, hy10, h_7⟩ := h_6
    refine fw_deref hy10 ?_
    obtain ⟨⟨hr13, n12, hs14⟩, h_8⟩ := h_7
    refine fw_callV (mt' := mtX5_remember) (mc := 0) (ms := 0) (As := []) (rest := []) 0 5 n12 (show decode _ _ = .ok (.invokevirtual 29, 3) by decide +kernel) cv_X9_29 ⟨_, rfl, rfl⟩ hr13 hs14 rfl (Nat.le_of_ble_eq_true rfl) (s_X5_remember (d := d) (hd_le hd (by decide)) h_8) (by decide) (by decide) (kV (bc' := 0) (bs' := 0) (by decide) (by decide) (fun M11 h_9 => ?_))
    refine fw_aload_n (i := 0) 0 rfl (show decode _ _ = .ok (.aload_n 0, 1) by decide +kernel) ?_
    obtain ⟨⟨hr16, n15, hs17⟩, h_10⟩ := h_9
    refine fw_getP (kd := 9) (k := 0) (show decode _ _ = .ok (.getfield 9, 3) by decide +kernel) gf_X9_9 hr16 hs17 rfl ?_
    have h_11 := dR_e h_10
    obtain ⟨y18, hy19, h_12⟩ := h_11
    refine fw_deref hy19 ?_
    refine fw_dup (show decode _ _ = .ok (.dup, 1) by decide +kernel) rfl ?_
    obtain ⟨⟨hr21, n20, hs22⟩, h_13⟩ := h_12
    refine fw_getI (kd := 5) (k := 6) (show decode _ _ = .ok (.getfield 67, 3) by decide +kernel) gf_X9_67 hr21 hs22 (Or.inl rfl) ?_
    refine fw_iconst (v := (1 : Int32)) (show decode _ _ = .ok (.iconst 1, 1) by decide +kernel) (by decide) ?_
    refine fw_iadd (show decode _ _ = .ok (.iadd, 1) by decide +kernel) ?_
    refine fw_nmI (fun x23 ex24 => ?_)
    have h_14 := h_13 x23 ex24
    refine fw_putI (kd := 5) (k := 6) (show decode _ _ = .ok (.putfield 67, 3) by decide +kernel) ⟨gf_X9_67, _, rfl, Or.inl rfl⟩ hr21 hs22 rfl ?_
    refine FW.nmM (fun M25 eM26 => ?_)
    have h_15 := h_14 M25 eM26
    refine fw_aload_n (i := 0) 0 rfl (show decode _ _ = .ok (.aload_n 0, 1) by decide +kernel) ?_
    refine fw_getP (kd := 9) (k := 0) (show decode _ _ = .ok (.getfield 9, 3) by decide +kernel) gf_X9_9 hr16 (mSw_I eM26 hs17) rfl ?_
    have h_16 := dR_e h_15
    obtain ⟨y27, hy28, h_17⟩ := h_16
    refine fw_deref hy28 ?_
    obtain ⟨⟨hr30, n29, hs31⟩, h_18⟩ := h_17
    refine fw_getI (kd := 5) (k := 6) (show decode _ _ = .ok (.getfield 67, 3) by decide +kernel) gf_X9_67 hr30 hs31 (Or.inl rfl) ?_
    exact fw_ret (v := some (.int (mI M25 y27 6))) .ireturn (show decode _ _ = .ok (.ireturn, 1) by decide +kernel) ⟨rfl, Or.inl rfl⟩ ⟨_, rfl, h_18⟩
  · have h_19 := ineg hc32 h_4
    refine fw_iconst (v := (-1 : Int32)) (show decode _ _ = .ok (.iconst (-1), 1) by decide +kernel) (by decide) ?_
    exact fw_ret (v := some (.int (-1 : Int32))) .ireturn (show decode _ _ = .ok (.ireturn, 1) by decide +kernel) ⟨rfl, Or.inl rfl⟩ ⟨_, rfl, h_19⟩
def b_X10_night_30 (K30 : Nat → Int32 → Int32 → fM → Prop) (φ : Int32 → fM → Prop) (p0 : Nat) (p1 : Int32) (p2 : Int32) (M : fM) : Prop := iF (p1 ≤ p2) (isO M p0 10 ∧ dR (mP M p0 0) fun y4 => isO M y4 5 ∧ φ (mI M y4 6) M) (isO M p0 10 ∧ dR (mP M p0 4) fun y12 => isO M y12 9 ∧ w_X9_nightAct y12 M fun x18 M14 => nm (p2 + (1 : Int32)) fun x19 => K30 p0 p1 x19 M14)
def l_X10_night_30 (φ : Int32 → fM → Prop) : Nat → Nat → Int32 → Int32 → fM → Prop
  | 0, _, _, _, _ => False
  | n + 1, p0, p1, p2, M => b_X10_night_30 (l_X10_night_30 φ n) φ p0 p1 p2 M
set_option maxRecDepth 100000 in
theorem sb_X10_night_30 {g : GT} {d : Nat} (hd : 4 ≤ d + 1) {K30 : Nat → Int32 → Int32 → fM → Prop} {φ : Int32 → fM → Prop} (hK30 : ∀ (p0 : Nat) (p1 : Int32) (p2 : Int32) (M : fM), K30 p0 p1 p2 M → FW g mtX10_night (d + 1) 30 [(0, .ref p0), (1, .int p1), (2, .int p2)] [] M 0 0 (rI φ)) {p0 : Nat} {p1 : Int32} {p2 : Int32} {M : fM} (h : b_X10_night_30 K30 φ p0 p1 p2 M) : FW g mtX10_night (d + 1) 30 [(0, .ref p0), (1, .int p1), (2, .int p2)] [] M 0 0 (rI φ) := by
  unfold b_X10_night_30 at h
  refine fw_iload_n (i := 2) 2 rfl (show decode _ _ = .ok (.iload_n 2, 1) by decide +kernel) ?_
  refine fw_iload_n (i := 1) 1 rfl (show decode _ _ = .ok (.iload_n 1, 1) by decide +kernel) ?_
  refine fw_icmp_ge 49 (show decode _ _ = .ok (.if_icmp .ge 17, 3) by decide +kernel) (by decide) (fun hc21 => ?_) (fun hc21 => ?_)
  · have h_1 := ipos hc21 h
    refine fw_aload_n (i := 0) 0 rfl (show decode _ _ = .ok (.aload_n 0, 1) by decide +kernel) ?_
    obtain ⟨⟨hr2, n1, hs3⟩, h_2⟩ := h_1
    refine fw_getP (kd := 10) (k := 0) (show decode _ _ = .ok (.getfield 13, 3) by decide +kernel) gf_X10_13 hr2 hs3 rfl ?_
    have h_3 := dR_e h_2
    obtain ⟨y4, hy5, h_4⟩ := h_3
    refine fw_deref hy5 ?_
    obtain ⟨⟨hr7, n6, hs8⟩, h_5⟩ := h_4
    refine fw_getI (kd := 5) (k := 6) (show decode _ _ = .ok (.getfield 147, 3) by decide +kernel) gf_X10_147 hr7 hs8 (Or.inl rfl) ?_
    exact fw_ret (v := some (.int (mI M y4 6))) .ireturn (show decode _ _ = .ok (.ireturn, 1) by decide +kernel) ⟨rfl, Or.inl rfl⟩ ⟨_, rfl, h_5⟩
  · have h_6 := ineg hc21 h
    refine fw_aload_n (i := 0) 0 rfl (show decode _ _ = .ok (.aload_n 0, 1) by decide +kernel) ?_
    obtain ⟨⟨hr10, n9, hs11⟩, h_7⟩ := h_6
    refine fw_getP (kd := 10) (k := 4) (show decode _ _ = .ok (.getfield 43, 3) by decide +kernel) gf_X10_43 hr10 hs11 rfl ?_
    have h_8 := dR_e h_7
    obtain ⟨y12, hy13, h_9⟩ := h_8
    refine fw_deref hy13 ?_
    obtain ⟨⟨hr16, n15, hs17⟩, h_10⟩ := h_9
    refine fw_callV (mt' := mtX9_nightAct) (mc := 0) (ms := 0) (As := []) (rest := []) 0 9 n15 (show decode _ _ = .ok (.invokevirtual 150, 3) by decide +kernel) cv_X10_150 ⟨_, rfl, rfl⟩ hr16 hs17 rfl (Nat.le_of_ble_eq_true rfl) (s_X9_nightAct (d := d) (hd_le hd (by decide)) h_10) (by decide) (by decide) (kI (bc' := 0) (bs' := 0) (by decide) (by decide) (fun x18 M14 h_11 => ?_))
    refine fw_pop (show decode _ _ = .ok (.pop, 1) by decide +kernel) rfl ?_
    obtain ⟨x19, ex20⟩ : ∃ y : Int32, y = p2 + (1 : Int32) := ⟨_, rfl⟩
    have h_12 := h_11 x19 ex20
    refine fw_iinc (i := 2) (x := p2) (v := x19) (ls' := [(2, .int x19), (0, .ref p0), (1, .int p1)]) 2 rfl (show decode _ _ = .ok (.iinc 2 1, 3) by decide +kernel) (by rw [ex20]; rfl) (by decide) rfl ?_
    refine fw_goto 30 (show decode _ _ = .ok (.goto (-16), 3) by decide +kernel) (by decide) ?_
    refine FW.sub [1, 2, 0] (ls' := [(0, .ref p0), (1, .int p1), (2, .int x19)]) rfl ?_
    exact hK30 _ _ _ _ h_12
theorem sl_X10_night_30 {g : GT} {d : Nat} (hd : 4 ≤ d + 1) {φ : Int32 → fM → Prop} : ∀ (n : Nat) {p0 : Nat} {p1 : Int32} {p2 : Int32} {M : fM}, l_X10_night_30 φ n p0 p1 p2 M → FW g mtX10_night (d + 1) 30 [(0, .ref p0), (1, .int p1), (2, .int p2)] [] M 0 0 (rI φ)
  | 0 => fun h => h.elim
  | n + 1 => fun h => sb_X10_night_30 hd (fun _ _ _ _ h => sl_X10_night_30 hd n h) h
def w_X10_night (p0 : Nat) (p1 : Int32) (M : fM) (φ : Int32 → fM → Prop) : Prop := iF (p1 < (1 : Int32)) (φ (-1 : Int32) M) (iF ((99 : Int32) < p1) (φ (-1 : Int32) M) (isO M p0 10 ∧ dR (mP M p0 0) fun y25 => isO M y25 5 ∧ iF (((mI M y25 6) + p1) ≤ (999 : Int32)) (∃ n, l_X10_night_30 φ n p0 p1 (0 : Int32) M) (φ (-1 : Int32) M)))
set_option maxRecDepth 100000 in
theorem s_X10_night {g : GT} {d : Nat} (hd : 4 ≤ d) {p0 : Nat} {p1 : Int32} {M : fM} {φ : Int32 → fM → Prop} (h : w_X10_night p0 p1 M φ) : FC g mtX10_night d [.ref p0, .int p1] M 0 0 (rI φ) := by
  obtain ⟨d, rfl⟩ : ∃ e, d = e + 1 := ⟨d - 1, by omega⟩
  unfold w_X10_night at h
  refine FC.intro (nL := 3) (by decide) rfl (Nat.le_of_ble_eq_true rfl) ?_
  show FW g mtX10_night (d + 1) 0 [(0, .ref p0), (1, .int p1)] [] M 0 0 (rI φ)
  refine fw_iload_n (i := 1) 1 rfl (show decode _ _ = .ok (.iload_n 1, 1) by decide +kernel) ?_
  refine fw_iconst (v := (1 : Int32)) (show decode _ _ = .ok (.iconst 1, 1) by decide +kernel) (by decide) ?_
  refine fw_icmp_lt 26 (show decode _ _ = .ok (.if_icmp .lt 24, 3) by decide +kernel) (by decide) (fun hc32 => ?_) (fun hc32 => ?_)
  · have h_1 := ipos hc32 h
    refine fw_iconst (v := (-1 : Int32)) (show decode _ _ = .ok (.iconst (-1), 1) by decide +kernel) (by decide) ?_
    exact fw_ret (v := some (.int (-1 : Int32))) .ireturn (show decode _ _ = .ok (.ireturn, 1) by decide +kernel) ⟨rfl, Or.inl rfl⟩ ⟨_, rfl, h_1⟩
  · have h_2 := ineg hc32 h
    refine fw_iload_n (i := 1) 1 rfl (show decode _ _ = .ok (.iload_n 1, 1) by decide +kernel) ?_
    refine fw_bipush (v := (99 : Int32)) (show decode _ _ = .ok (.bipush 99, 2) by decide +kernel) (by decide) ?_
    refine fw_icmp_gt 26 (show decode _ _ = .ok (.if_icmp .gt 18, 3) by decide +kernel) (by decide) (fun hc31 => ?_) (fun hc31 => ?_)
    · have h_3 := ipos hc31 h_2
      refine fw_iconst (v := (-1 : Int32)) (show decode _ _ = .ok (.iconst (-1), 1) by decide +kernel) (by decide) ?_
      exact fw_ret (v := some (.int (-1 : Int32))) .ireturn (show decode _ _ = .ok (.ireturn, 1) by decide +kernel) ⟨rfl, Or.inl rfl⟩ ⟨_, rfl, h_3⟩
    · have h_4 := ineg hc31 h_2
      refine fw_aload_n (i := 0) 0 rfl (show decode _ _ = .ok (.aload_n 0, 1) by decide +kernel) ?_
      obtain ⟨⟨hr23, n22, hs24⟩, h_5⟩ := h_4
      refine fw_getP (kd := 10) (k := 0) (show decode _ _ = .ok (.getfield 13, 3) by decide +kernel) gf_X10_13 hr23 hs24 rfl ?_
      have h_6 := dR_e h_5
      obtain ⟨y25, hy26, h_7⟩ := h_6
      refine fw_deref hy26 ?_
      obtain ⟨⟨hr28, n27, hs29⟩, h_8⟩ := h_7
      refine fw_getI (kd := 5) (k := 6) (show decode _ _ = .ok (.getfield 147, 3) by decide +kernel) gf_X10_147 hr28 hs29 (Or.inl rfl) ?_
      refine fw_iload_n (i := 1) 1 rfl (show decode _ _ = .ok (.iload_n 1, 1) by decide +kernel) ?_
      refine fw_iadd (show decode _ _ = .ok (.iadd, 1) by decide +kernel) ?_
      refine fw_sipush (v := (999 : Int32)) (show decode _ _ = .ok (.sipush 999, 3) by decide +kernel) (by decide) ?_
      refine fw_icmp_le 28 (show decode _ _ = .ok (.if_icmp .le 5, 3) by decide +kernel) (by decide) (fun hc30 => ?_) (fun hc30 => ?_)
      · have h_9 := ipos hc30 h_8
        refine fw_iconst (v := (0 : Int32)) (show decode _ _ = .ok (.iconst 0, 1) by decide +kernel) (by decide) ?_
        refine fw_istore_n (i := 2) (ls' := [(2, .int (0 : Int32)), (0, .ref p0), (1, .int p1)]) (show decode _ _ = .ok (.istore_n 2, 1) by decide +kernel) (by decide) rfl ?_
        refine FW.sub [1, 2, 0] (ls' := [(0, .ref p0), (1, .int p1), (2, .int (0 : Int32))]) rfl ?_
        obtain ⟨nn, h_10⟩ := h_9
        exact sl_X10_night_30 hd nn h_10
      · have h_11 := ineg hc30 h_8
        refine fw_iconst (v := (-1 : Int32)) (show decode _ _ = .ok (.iconst (-1), 1) by decide +kernel) (by decide) ?_
        exact fw_ret (v := some (.int (-1 : Int32))) .ireturn (show decode _ _ = .ok (.ireturn, 1) by decide +kernel) ⟨rfl, Or.inl rfl⟩ ⟨_, rfl, h_11⟩
def w_X5_tellPerson (p0 : Nat) (p1 : Int32) (p2 : Int32) (p3 : Int32) (M : fM) (φ : Int32 → fM → Prop) : Prop := iF (p1 < 0) (φ (-1 : Int32) M) (iF ((10 : Int32) < p1) (φ (-1 : Int32) M) (iF (p2 < 0) (φ (-1 : Int32) M) (iF (((10 : Int32) - p1) < p2) (φ (-1 : Int32) M) (iF (p3 < 0) (φ (-1 : Int32) M) (iF (p3 ≤ (10 : Int32)) (isO M p0 5 ∧ iF ((mI M p0 4) < (6 : Int32)) (dR (mP M p0 1) fun y4 => w_X10_put y4 (mI M p0 4) p1 M fun M6 => isO M6 p0 5 ∧ dR (mP M6 p0 2) fun y10 => w_X10_put y10 (mI M6 p0 4) p2 M6 fun M12 => isO M12 p0 5 ∧ dR (mP M12 p0 3) fun y16 => w_X10_put y16 (mI M12 p0 4) p3 M12 fun M18 => isO M18 p0 5 ∧ nm ((mI M18 p0 4) + (1 : Int32)) fun x22 => st (wI M18 p0 4 x22) fun M24 => φ ((mI M24 p0 4) - (1 : Int32)) M24) (φ (-1 : Int32) M)) (φ (-1 : Int32) M))))))
set_option maxRecDepth 100000 in
theorem s_X5_tellPerson {g : GT} {d : Nat} (hd : 2 ≤ d) {p0 : Nat} {p1 : Int32} {p2 : Int32} {p3 : Int32} {M : fM} {φ : Int32 → fM → Prop} (h : w_X5_tellPerson p0 p1 p2 p3 M φ) : FC g mtX5_tellPerson d [.ref p0, .int p1, .int p2, .int p3] M 0 0 (rI φ) := by
  obtain ⟨d, rfl⟩ : ∃ e, d = e + 1 := ⟨d - 1, by omega⟩
  unfold w_X5_tellPerson at h
  refine FC.intro (nL := 4) (by decide) rfl (Nat.le_of_ble_eq_true rfl) ?_
  show FW g mtX5_tellPerson (d + 1) 0 [(0, .ref p0), (1, .int p1), (2, .int p2), (3, .int p3)] [] M 0 0 (rI φ)
  refine fw_iload_n (i := 1) 1 rfl (show decode _ _ = .ok (.iload_n 1, 1) by decide +kernel) ?_
  refine fw_if_lt 32 (show decode _ _ = .ok (.ifCond .lt 31, 3) by decide +kernel) (by decide) (fun hc32 => ?_) (fun hc32 => ?_)
  · have h_1 := ipos hc32 h
    refine fw_iconst (v := (-1 : Int32)) (show decode _ _ = .ok (.iconst (-1), 1) by decide +kernel) (by decide) ?_
    exact fw_ret (v := some (.int (-1 : Int32))) .ireturn (show decode _ _ = .ok (.ireturn, 1) by decide +kernel) ⟨rfl, Or.inl rfl⟩ ⟨_, rfl, h_1⟩
  · have h_2 := ineg hc32 h
    refine fw_iload_n (i := 1) 1 rfl (show decode _ _ = .ok (.iload_n 1, 1) by decide +kernel) ?_
    refine fw_bipush (v := (10 : Int32)) (show decode _ _ = .ok (.bipush 10, 2) by decide +kernel) (by decide) ?_
    refine fw_icmp_gt 32 (show decode _ _ = .ok (.if_icmp .gt 25, 3) by decide +kernel) (by decide) (fun hc31 => ?_) (fun hc31 => ?_)
    · have h_3 := ipos hc31 h_2
      refine fw_iconst (v := (-1 : Int32)) (show decode _ _ = .ok (.iconst (-1), 1) by decide +kernel) (by decide) ?_
      exact fw_ret (v := some (.int (-1 : Int32))) .ireturn (show decode _ _ = .ok (.ireturn, 1) by decide +kernel) ⟨rfl, Or.inl rfl⟩ ⟨_, rfl, h_3⟩
    · have h_4 := ineg hc31 h_2
      refine fw_iload_n (i := 2) 2 rfl (show decode _ _ = .ok (.iload_n 2, 1) by decide +kernel) ?_
      refine fw_if_lt 32 (show decode _ _ = .ok (.ifCond .lt 21, 3) by decide +kernel) (by decide) (fun hc30 => ?_) (fun hc30 => ?_)
      · have h_5 := ipos hc30 h_4
        refine fw_iconst (v := (-1 : Int32)) (show decode _ _ = .ok (.iconst (-1), 1) by decide +kernel) (by decide) ?_
        exact fw_ret (v := some (.int (-1 : Int32))) .ireturn (show decode _ _ = .ok (.ireturn, 1) by decide +kernel) ⟨rfl, Or.inl rfl⟩ ⟨_, rfl, h_5⟩
      · have h_6 := ineg hc30 h_4
        refine fw_iload_n (i := 2) 2 rfl (show decode _ _ = .ok (.iload_n 2, 1) by decide +kernel) ?_
        refine fw_bipush (v := (10 : Int32)) (show decode _ _ = .ok (.bipush 10, 2) by decide +kernel) (by decide) ?_
        refine fw_iload_n (i := 1) 1 rfl (show decode _ _ = .ok (.iload_n 1, 1) by decide +kernel) ?_
        refine fw_isub (show decode _ _ = .ok (.isub, 1) by decide +kernel) ?_
        refine fw_icmp_gt 32 (show decode _ _ = .ok (.if_icmp .gt 13, 3) by decide +kernel) (by decide) (fun hc29 => ?_) (fun hc29 => ?_)
        · have h_7 := ipos hc29 h_6
          refine fw_iconst (v := (-1 : Int32)) (show decode _ _ = .ok (.iconst (-1), 1) by decide +kernel) (by decide) ?_
          exact fw_ret (v := some (.int (-1 : Int32))) .ireturn (show decode _ _ = .ok (.ireturn, 1) by decide +kernel) ⟨rfl, Or.inl rfl⟩ ⟨_, rfl, h_7⟩
        · have h_8 := ineg hc29 h_6
          refine fw_iload_n (i := 3) 3 rfl (show decode _ _ = .ok (.iload_n 3, 1) by decide +kernel) ?_
          refine fw_if_lt 32 (show decode _ _ = .ok (.ifCond .lt 9, 3) by decide +kernel) (by decide) (fun hc28 => ?_) (fun hc28 => ?_)
          · have h_9 := ipos hc28 h_8
            refine fw_iconst (v := (-1 : Int32)) (show decode _ _ = .ok (.iconst (-1), 1) by decide +kernel) (by decide) ?_
            exact fw_ret (v := some (.int (-1 : Int32))) .ireturn (show decode _ _ = .ok (.ireturn, 1) by decide +kernel) ⟨rfl, Or.inl rfl⟩ ⟨_, rfl, h_9⟩
          · have h_10 := ineg hc28 h_8
            refine fw_iload_n (i := 3) 3 rfl (show decode _ _ = .ok (.iload_n 3, 1) by decide +kernel) ?_
            refine fw_bipush (v := (10 : Int32)) (show decode _ _ = .ok (.bipush 10, 2) by decide +kernel) (by decide) ?_
            refine fw_icmp_le 34 (show decode _ _ = .ok (.if_icmp .le 5, 3) by decide +kernel) (by decide) (fun hc27 => ?_) (fun hc27 => ?_)
            · have h_11 := ipos hc27 h_10
              refine fw_aload_n (i := 0) 0 rfl (show decode _ _ = .ok (.aload_n 0, 1) by decide +kernel) ?_
              obtain ⟨⟨hr2, n1, hs3⟩, h_12⟩ := h_11
              refine fw_getI (kd := 5) (k := 4) (show decode _ _ = .ok (.getfield 53, 3) by decide +kernel) gf_X5_53 hr2 hs3 (Or.inl rfl) ?_
              refine fw_bipush (v := (6 : Int32)) (show decode _ _ = .ok (.bipush 6, 2) by decide +kernel) (by decide) ?_
              refine fw_icmp_lt 45 (show decode _ _ = .ok (.if_icmp .lt 5, 3) by decide +kernel) (by decide) (fun hc26 => ?_) (fun hc26 => ?_)
              · have h_13 := ipos hc26 h_12
                refine fw_aload_n (i := 0) 0 rfl (show decode _ _ = .ok (.aload_n 0, 1) by decide +kernel) ?_
                refine fw_getP (kd := 5) (k := 1) (show decode _ _ = .ok (.getfield 17, 3) by decide +kernel) gf_X5_17 hr2 hs3 rfl ?_
                have h_14 := dR_e h_13
                obtain ⟨y4, hy5, h_15⟩ := h_14
                refine fw_deref hy5 ?_
                refine fw_aload_n (i := 0) 0 rfl (show decode _ _ = .ok (.aload_n 0, 1) by decide +kernel) ?_
                refine fw_getI (kd := 5) (k := 4) (show decode _ _ = .ok (.getfield 53, 3) by decide +kernel) gf_X5_53 hr2 hs3 (Or.inl rfl) ?_
                refine fw_iload_n (i := 1) 1 rfl (show decode _ _ = .ok (.iload_n 1, 1) by decide +kernel) ?_
                refine fw_callSN (mt' := mtX10_put) (mc := 0) (ms := 0) (As := [.ref y4, .int (mI M p0 4), .int p1]) (rest := []) 3 "OneStepMore" (show decode _ _ = .ok (.invokestatic 82, 3) by decide +kernel) ns_X5_82 rfl (Nat.le_of_ble_eq_true rfl) (s_X10_put (d := d) (hd_le hd (by decide)) h_15) (by decide) (by decide) (kV (bc' := 0) (bs' := 0) (by decide) (by decide) (fun M6 h_16 => ?_))
                refine fw_aload_n (i := 0) 0 rfl (show decode _ _ = .ok (.aload_n 0, 1) by decide +kernel) ?_
                obtain ⟨⟨hr8, n7, hs9⟩, h_17⟩ := h_16
                refine fw_getP (kd := 5) (k := 2) (show decode _ _ = .ok (.getfield 21, 3) by decide +kernel) gf_X5_21 hr8 hs9 rfl ?_
                have h_18 := dR_e h_17
                obtain ⟨y10, hy11, h_19⟩ := h_18
                refine fw_deref hy11 ?_
                refine fw_aload_n (i := 0) 0 rfl (show decode _ _ = .ok (.aload_n 0, 1) by decide +kernel) ?_
                refine fw_getI (kd := 5) (k := 4) (show decode _ _ = .ok (.getfield 53, 3) by decide +kernel) gf_X5_53 hr8 hs9 (Or.inl rfl) ?_
                refine fw_iload_n (i := 2) 2 rfl (show decode _ _ = .ok (.iload_n 2, 1) by decide +kernel) ?_
                refine fw_callSN (mt' := mtX10_put) (mc := 0) (ms := 0) (As := [.ref y10, .int (mI M6 p0 4), .int p2]) (rest := []) 3 "OneStepMore" (show decode _ _ = .ok (.invokestatic 82, 3) by decide +kernel) ns_X5_82 rfl (Nat.le_of_ble_eq_true rfl) (s_X10_put (d := d) (hd_le hd (by decide)) h_19) (by decide) (by decide) (kV (bc' := 0) (bs' := 0) (by decide) (by decide) (fun M12 h_20 => ?_))
                refine fw_aload_n (i := 0) 0 rfl (show decode _ _ = .ok (.aload_n 0, 1) by decide +kernel) ?_
                obtain ⟨⟨hr14, n13, hs15⟩, h_21⟩ := h_20
                refine fw_getP (kd := 5) (k := 3) (show decode _ _ = .ok (.getfield 24, 3) by decide +kernel) gf_X5_24 hr14 hs15 rfl ?_
                have h_22 := dR_e h_21
                obtain ⟨y16, hy17, h_23⟩ := h_22
                refine fw_deref hy17 ?_
                refine fw_aload_n (i := 0) 0 rfl (show decode _ _ = .ok (.aload_n 0, 1) by decide +kernel) ?_
                refine fw_getI (kd := 5) (k := 4) (show decode _ _ = .ok (.getfield 53, 3) by decide +kernel) gf_X5_53 hr14 hs15 (Or.inl rfl) ?_
                refine fw_iload_n (i := 3) 3 rfl (show decode _ _ = .ok (.iload_n 3, 1) by decide +kernel) ?_
                refine fw_callSN (mt' := mtX10_put) (mc := 0) (ms := 0) (As := [.ref y16, .int (mI M12 p0 4), .int p3]) (rest := []) 3 "OneStepMore" (show decode _ _ = .ok (.invokestatic 82, 3) by decide +kernel) ns_X5_82 rfl (Nat.le_of_ble_eq_true rfl) (s_X10_put (d := d) (hd_le hd (by decide)) h_23) (by decide) (by decide) (kV (bc' := 0) (bs' := 0) (by decide) (by decide) (fun M18 h_24 => ?_))
                refine fw_aload_n (i := 0) 0 rfl (show decode _ _ = .ok (.aload_n 0, 1) by decide +kernel) ?_
                refine fw_dup (show decode _ _ = .ok (.dup, 1) by decide +kernel) rfl ?_
                obtain ⟨⟨hr20, n19, hs21⟩, h_25⟩ := h_24
                refine fw_getI (kd := 5) (k := 4) (show decode _ _ = .ok (.getfield 53, 3) by decide +kernel) gf_X5_53 hr20 hs21 (Or.inl rfl) ?_
                refine fw_iconst (v := (1 : Int32)) (show decode _ _ = .ok (.iconst 1, 1) by decide +kernel) (by decide) ?_
                refine fw_iadd (show decode _ _ = .ok (.iadd, 1) by decide +kernel) ?_
                refine fw_nmI (fun x22 ex23 => ?_)
                have h_26 := h_25 x22 ex23
                refine fw_putI (kd := 5) (k := 4) (show decode _ _ = .ok (.putfield 53, 3) by decide +kernel) ⟨gf_X5_53, _, rfl, Or.inl rfl⟩ hr20 hs21 rfl ?_
                refine FW.nmM (fun M24 eM25 => ?_)
                have h_27 := h_26 M24 eM25
                refine fw_aload_n (i := 0) 0 rfl (show decode _ _ = .ok (.aload_n 0, 1) by decide +kernel) ?_
                refine fw_getI (kd := 5) (k := 4) (show decode _ _ = .ok (.getfield 53, 3) by decide +kernel) gf_X5_53 hr20 (mSw_I eM25 hs21) (Or.inl rfl) ?_
                refine fw_iconst (v := (1 : Int32)) (show decode _ _ = .ok (.iconst 1, 1) by decide +kernel) (by decide) ?_
                refine fw_isub (show decode _ _ = .ok (.isub, 1) by decide +kernel) ?_
                exact fw_ret (v := some (.int ((mI M24 p0 4) - (1 : Int32)))) .ireturn (show decode _ _ = .ok (.ireturn, 1) by decide +kernel) ⟨rfl, Or.inl rfl⟩ ⟨_, rfl, h_27⟩
              · have h_28 := ineg hc26 h_12
                refine fw_iconst (v := (-1 : Int32)) (show decode _ _ = .ok (.iconst (-1), 1) by decide +kernel) (by decide) ?_
                exact fw_ret (v := some (.int (-1 : Int32))) .ireturn (show decode _ _ = .ok (.ireturn, 1) by decide +kernel) ⟨rfl, Or.inl rfl⟩ ⟨_, rfl, h_28⟩
            · have h_29 := ineg hc27 h_10
              refine fw_iconst (v := (-1 : Int32)) (show decode _ _ = .ok (.iconst (-1), 1) by decide +kernel) (by decide) ?_
              exact fw_ret (v := some (.int (-1 : Int32))) .ireturn (show decode _ _ = .ok (.ireturn, 1) by decide +kernel) ⟨rfl, Or.inl rfl⟩ ⟨_, rfl, h_29⟩
def w_X10_person (p0 : Nat) (p1 : Int32) (p2 : Int32) (p3 : Int32) (M : fM) (φ : Int32 → fM → Prop) : Prop := isO M p0 10 ∧ dR (mP M p0 0) fun y4 => isO M y4 5 ∧ w_X5_tellPerson y4 p1 p2 p3 M fun x10 M6 => φ x10 M6
set_option maxRecDepth 100000 in
theorem s_X10_person {g : GT} {d : Nat} (hd : 3 ≤ d) {p0 : Nat} {p1 : Int32} {p2 : Int32} {p3 : Int32} {M : fM} {φ : Int32 → fM → Prop} (h : w_X10_person p0 p1 p2 p3 M φ) : FC g mtX10_person d [.ref p0, .int p1, .int p2, .int p3] M 0 0 (rI φ) := by
  obtain ⟨d, rfl⟩ : ∃ e, d = e + 1 := ⟨d - 1, by omega⟩
  unfold w_X10_person at h
  refine FC.intro (nL := 4) (by decide) rfl (Nat.le_of_ble_eq_true rfl) ?_
  show FW g mtX10_person (d + 1) 0 [(0, .ref p0), (1, .int p1), (2, .int p2), (3, .int p3)] [] M 0 0 (rI φ)
  refine fw_aload_n (i := 0) 0 rfl (show decode _ _ = .ok (.aload_n 0, 1) by decide +kernel) ?_
  obtain ⟨⟨hr2, n1, hs3⟩, h_1⟩ := h
  refine fw_getP (kd := 10) (k := 0) (show decode _ _ = .ok (.getfield 13, 3) by decide +kernel) gf_X10_13 hr2 hs3 rfl ?_
  have h_2 := dR_e h_1
  obtain ⟨y4, hy5, h_3⟩ := h_2
  refine fw_deref hy5 ?_
  refine fw_iload_n (i := 1) 1 rfl (show decode _ _ = .ok (.iload_n 1, 1) by decide +kernel) ?_
  refine fw_iload_n (i := 2) 2 rfl (show decode _ _ = .ok (.iload_n 2, 1) by decide +kernel) ?_
  refine fw_iload_n (i := 3) 3 rfl (show decode _ _ = .ok (.iload_n 3, 1) by decide +kernel) ?_
  obtain ⟨⟨hr8, n7, hs9⟩, h_4⟩ := h_3
  refine fw_callV (mt' := mtX5_tellPerson) (mc := 0) (ms := 0) (As := [.int p1, .int p2, .int p3]) (rest := []) 3 5 n7 (show decode _ _ = .ok (.invokevirtual 83, 3) by decide +kernel) cv_X10_83 ⟨_, rfl, rfl⟩ hr8 hs9 rfl (Nat.le_of_ble_eq_true rfl) (s_X5_tellPerson (d := d) (hd_le hd (by decide)) h_4) (by decide) (by decide) (kI (bc' := 0) (bs' := 0) (by decide) (by decide) (fun x10 M6 h_5 => ?_))
  exact fw_ret (v := some (.int x10)) .ireturn (show decode _ _ = .ok (.ireturn, 1) by decide +kernel) ⟨rfl, Or.inl rfl⟩ ⟨_, rfl, h_5⟩
def w_X8_numberOf (p0 : Nat) (p1 : Int32) (p2 : Int32) (M : fM) (φ : Int32 → fM → Prop) : Prop := isO M p0 8 ∧ dR (mP M p0 4) fun y4 => w_X10_cell y4 ((p1 * (3 : Int32)) + p2) M fun x7 M6 => φ x7 M6
set_option maxRecDepth 100000 in
theorem s_X8_numberOf {g : GT} {d : Nat} (hd : 2 ≤ d) {p0 : Nat} {p1 : Int32} {p2 : Int32} {M : fM} {φ : Int32 → fM → Prop} (h : w_X8_numberOf p0 p1 p2 M φ) : FC g mtX8_numberOf d [.ref p0, .int p1, .int p2] M 0 0 (rI φ) := by
  obtain ⟨d, rfl⟩ : ∃ e, d = e + 1 := ⟨d - 1, by omega⟩
  unfold w_X8_numberOf at h
  refine FC.intro (nL := 3) (by decide) rfl (Nat.le_of_ble_eq_true rfl) ?_
  show FW g mtX8_numberOf (d + 1) 0 [(0, .ref p0), (1, .int p1), (2, .int p2)] [] M 0 0 (rI φ)
  refine fw_aload_n (i := 0) 0 rfl (show decode _ _ = .ok (.aload_n 0, 1) by decide +kernel) ?_
  obtain ⟨⟨hr2, n1, hs3⟩, h_1⟩ := h
  refine fw_getP (kd := 8) (k := 4) (show decode _ _ = .ok (.getfield 24, 3) by decide +kernel) gf_X8_24 hr2 hs3 rfl ?_
  have h_2 := dR_e h_1
  obtain ⟨y4, hy5, h_3⟩ := h_2
  refine fw_deref hy5 ?_
  refine fw_iload_n (i := 1) 1 rfl (show decode _ _ = .ok (.iload_n 1, 1) by decide +kernel) ?_
  refine fw_iconst (v := (3 : Int32)) (show decode _ _ = .ok (.iconst 3, 1) by decide +kernel) (by decide) ?_
  refine fw_imul (show decode _ _ = .ok (.imul, 1) by decide +kernel) ?_
  refine fw_iload_n (i := 2) 2 rfl (show decode _ _ = .ok (.iload_n 2, 1) by decide +kernel) ?_
  refine fw_iadd (show decode _ _ = .ok (.iadd, 1) by decide +kernel) ?_
  refine fw_callSN (mt' := mtX10_cell) (mc := 0) (ms := 0) (As := [.ref y4, .int ((p1 * (3 : Int32)) + p2)]) (rest := []) 2 "OneStepMore" (show decode _ _ = .ok (.invokestatic 27, 3) by decide +kernel) ns_X8_27 rfl (Nat.le_of_ble_eq_true rfl) (s_X10_cell (d := d) (hd_le hd (by decide)) h_3) (by decide) (by decide) (kI (bc' := 0) (bs' := 0) (by decide) (by decide) (fun x7 M6 h_4 => ?_))
  exact fw_ret (v := some (.int x7)) .ireturn (show decode _ _ = .ok (.ireturn, 1) by decide +kernel) ⟨rfl, Or.inl rfl⟩ ⟨_, rfl, h_4⟩
def w_X5_isOnWay (p0 : Nat) (M : fM) (φ : Int32 → fM → Prop) : Prop := isO M p0 5 ∧ dR (mP M p0 7) fun y4 => inA M y4 12 (0 : Int32) ∧ iF ((mI M y4 (ix (0 : Int32))) = (-1 : Int32)) (φ (0 : Int32) M) (φ (1 : Int32) M)
set_option maxRecDepth 100000 in
theorem s_X5_isOnWay {g : GT} {d : Nat} (hd : 1 ≤ d) {p0 : Nat} {M : fM} {φ : Int32 → fM → Prop} (h : w_X5_isOnWay p0 M φ) : FC g mtX5_isOnWay d [.ref p0] M 0 0 (rI φ) := by
  obtain ⟨d, rfl⟩ : ∃ e, d = e + 1 := ⟨d - 1, by omega⟩
  unfold w_X5_isOnWay at h
  refine FC.intro (nL := 1) (by decide) rfl (Nat.le_of_ble_eq_true rfl) ?_
  show FW g mtX5_isOnWay (d + 1) 0 [(0, .ref p0)] [] M 0 0 (rI φ)
  refine fw_aload_n (i := 0) 0 rfl (show decode _ _ = .ok (.aload_n 0, 1) by decide +kernel) ?_
  obtain ⟨⟨hr2, n1, hs3⟩, h_1⟩ := h
  refine fw_getP (kd := 5) (k := 7) (show decode _ _ = .ok (.getfield 31, 3) by decide +kernel) gf_X5_31 hr2 hs3 rfl ?_
  have h_2 := dR_e h_1
  obtain ⟨y4, hy5, h_3⟩ := h_2
  refine fw_deref hy5 ?_
  refine fw_iconst (v := (0 : Int32)) (show decode _ _ = .ok (.iconst 0, 1) by decide +kernel) (by decide) ?_
  obtain ⟨⟨n6, hs7, hi8⟩, h_4⟩ := h_3
  refine fw_iald (show decode _ _ = .ok (.iaload, 1) by decide +kernel) hs7 hi8 ?_
  refine fw_iconst (v := (-1 : Int32)) (show decode _ _ = .ok (.iconst (-1), 1) by decide +kernel) (by decide) ?_
  refine fw_icmp_eq 14 (show decode _ _ = .ok (.if_icmp .eq 7, 3) by decide +kernel) (by decide) (fun hc9 => ?_) (fun hc9 => ?_)
  · have h_5 := ipos hc9 h_4
    refine fw_iconst (v := (0 : Int32)) (show decode _ _ = .ok (.iconst 0, 1) by decide +kernel) (by decide) ?_
    exact fw_ret (v := some (.int (0 : Int32))) .ireturn (show decode _ _ = .ok (.ireturn, 1) by decide +kernel) ⟨rfl, Or.inr (Or.inl ⟨rfl, rfl⟩)⟩ ⟨_, rfl, h_5⟩
  · have h_6 := ineg hc9 h_4
    refine fw_iconst (v := (1 : Int32)) (show decode _ _ = .ok (.iconst 1, 1) by decide +kernel) (by decide) ?_
    refine fw_goto 15 (show decode _ _ = .ok (.goto 4, 3) by decide +kernel) (by decide) ?_
    exact fw_ret (v := some (.int (1 : Int32))) .ireturn (show decode _ _ = .ok (.ireturn, 1) by decide +kernel) ⟨rfl, Or.inr (Or.inl ⟨rfl, rfl⟩)⟩ ⟨_, rfl, h_6⟩
def j_X5_tellStairs_40 (φ : Int32 → fM → Prop) (p2 : Int32) (p3 : Nat) (M : fM) : Prop := isO M p3 0 ∧ w_X0_build p3 p2 M fun M1 => isO M1 p3 0 ∧ st (wI M1 p3 4 (1 : Int32)) fun M8 => φ (1 : Int32) M8
set_option maxRecDepth 100000 in
theorem sj_X5_tellStairs_40 {g : GT} {d : Nat} (hd : 3 ≤ d + 1) {φ : Int32 → fM → Prop} {p2 : Int32} {p3 : Nat} {M : fM} (h : j_X5_tellStairs_40 φ p2 p3 M) : FW g mtX5_tellStairs (d + 1) 40 [(2, .int p2), (3, .ref p3)] [] M 0 0 (rI φ) := by
  unfold j_X5_tellStairs_40 at h
  refine fw_aload_n (i := 3) 1 rfl (show decode _ _ = .ok (.aload_n 3, 1) by decide +kernel) ?_
  refine fw_iload_n (i := 2) 0 rfl (show decode _ _ = .ok (.iload_n 2, 1) by decide +kernel) ?_
  obtain ⟨⟨hr3, n2, hs4⟩, h_1⟩ := h
  refine fw_callV (mt' := mtX0_build) (mc := 0) (ms := 0) (As := [.int p2]) (rest := []) 1 0 n2 (show decode _ _ = .ok (.invokevirtual 67, 3) by decide +kernel) cv_X5_67 ⟨_, rfl, rfl⟩ hr3 hs4 rfl (Nat.le_of_ble_eq_true rfl) (s_X0_build (d := d) (hd_le hd (by decide)) h_1) (by decide) (by decide) (kV (bc' := 0) (bs' := 0) (by decide) (by decide) (fun M1 h_2 => ?_))
  refine fw_aload_n (i := 3) 1 rfl (show decode _ _ = .ok (.aload_n 3, 1) by decide +kernel) ?_
  refine fw_iconst (v := (1 : Int32)) (show decode _ _ = .ok (.iconst 1, 1) by decide +kernel) (by decide) ?_
  obtain ⟨⟨hr6, n5, hs7⟩, h_3⟩ := h_2
  refine fw_putZ (kd := 0) (k := 4) (show decode _ _ = .ok (.putfield 71, 3) by decide +kernel) ⟨gf_X5_71, _, rfl, Or.inl rfl⟩ hr6 hs7 rfl rfl ?_
  refine FW.nmM (fun M8 eM9 => ?_)
  have h_4 := h_3 M8 eM9
  refine fw_iconst (v := (1 : Int32)) (show decode _ _ = .ok (.iconst 1, 1) by decide +kernel) (by decide) ?_
  exact fw_ret (v := some (.int (1 : Int32))) .ireturn (show decode _ _ = .ok (.ireturn, 1) by decide +kernel) ⟨rfl, Or.inr (Or.inl ⟨rfl, rfl⟩)⟩ ⟨_, rfl, h_4⟩
def w_X5_tellStairs (p0 : Nat) (p1 : Int32) (p2 : Int32) (M : fM) (φ : Int32 → fM → Prop) : Prop := isO M p0 5 ∧ w_X5_houseOf p0 p1 M fun o14 M10 => gN o14 (fun y15 => iF (p2 < (1 : Int32)) (φ (0 : Int32) M10) (iF ((14 : Int32) < p2) (φ (0 : Int32) M10) (isO M10 p0 5 ∧ w_X5_isOnWay p0 M10 fun x21 M17 => iF (x21 = 0) (j_X5_tellStairs_40 φ p2 y15 M17) (isO M17 p0 5 ∧ dR (mP M17 p0 7) fun y25 => inA M17 y25 12 (1 : Int32) ∧ iF ((mI M17 y25 (ix (1 : Int32))) = p1) (φ (0 : Int32) M17) (j_X5_tellStairs_40 φ p2 y15 M17))))) (φ (0 : Int32) M10)
set_option maxRecDepth 100000 in
theorem s_X5_tellStairs {g : GT} {d : Nat} (hd : 3 ≤ d) {p0 : Nat} {p1 : Int32} {p2 : Int32} {M : fM} {φ : Int32 → fM → Prop} (h : w_X5_tellStairs p0 p1 p2 M φ) : FC g mtX5_tellStairs d [.ref p0, .int p1, .int p2] M 0 0 (rI φ) := by
  obtain ⟨d, rfl⟩ : ∃ e, d = e + 1 := ⟨d - 1, by omega⟩
  unfold w_X5_tellStairs at h
  refine FC.intro (nL := 4) (by decide) rfl (Nat.le_of_ble_eq_true rfl) ?_
  show FW g mtX5_tellStairs (d + 1) 0 [(0, .ref p0), (1, .int p1), (2, .int p2)] [] M 0 0 (rI φ)
  refine fw_aload_n (i := 0) 0 rfl (show decode _ _ = .ok (.aload_n 0, 1) by decide +kernel) ?_
  refine fw_iload_n (i := 1) 1 rfl (show decode _ _ = .ok (.iload_n 1, 1) by decide +kernel) ?_
  obtain ⟨⟨hr12, n11, hs13⟩, h_1⟩ := h
  refine fw_callV (mt' := mtX5_houseOf) (mc := 0) (ms := 0) (As := [.int p1]) (rest := []) 1 5 n11 (show decode _ _ = .ok (.invokevirtual 59, 3) by decide +kernel) cv_X5_59 ⟨_, rfl, rfl⟩ hr12 hs13 rfl (Nat.le_of_ble_eq_true rfl) (s_X5_houseOf (d := d) (hd_le hd (by decide)) h_1) (by decide) (by decide) (kP (bc' := 0) (bs' := 0) (by decide) (by decide) (fun o14 M10 h_2 => ?_))
  refine fw_astoreq_n (i := 3) (ls' := [(3, fr o14), (0, .ref p0), (1, .int p1), (2, .int p2)]) (show decode _ _ = .ok (.astore_n 3, 1) by decide +kernel) (by decide) rfl ?_
  refine fw_aloadq_n (i := 3) 0 rfl (show decode _ _ = .ok (.aload_n 3, 1) by decide +kernel) ?_
  refine fw_ifnull (x := o14) 38 (show decode _ _ = .ok (.ifnull 31, 3) by decide +kernel) (by decide) (fun hy16 => ?_) (fun y15 hy16 => ?_)
  · have h_3 := gN_n hy16 h_2
    subst hy16
    refine fw_iconst (v := (0 : Int32)) (show decode _ _ = .ok (.iconst 0, 1) by decide +kernel) (by decide) ?_
    exact fw_ret (v := some (.int (0 : Int32))) .ireturn (show decode _ _ = .ok (.ireturn, 1) by decide +kernel) ⟨rfl, Or.inr (Or.inl ⟨rfl, rfl⟩)⟩ ⟨_, rfl, h_3⟩
  · have h_4 := gN_s hy16 h_2
    subst hy16
    refine fw_iload_n (i := 2) 3 rfl (show decode _ _ = .ok (.iload_n 2, 1) by decide +kernel) ?_
    refine fw_iconst (v := (1 : Int32)) (show decode _ _ = .ok (.iconst 1, 1) by decide +kernel) (by decide) ?_
    refine fw_icmp_lt 38 (show decode _ _ = .ok (.if_icmp .lt 26, 3) by decide +kernel) (by decide) (fun hc33 => ?_) (fun hc33 => ?_)
    · have h_5 := ipos hc33 h_4
      refine fw_iconst (v := (0 : Int32)) (show decode _ _ = .ok (.iconst 0, 1) by decide +kernel) (by decide) ?_
      exact fw_ret (v := some (.int (0 : Int32))) .ireturn (show decode _ _ = .ok (.ireturn, 1) by decide +kernel) ⟨rfl, Or.inr (Or.inl ⟨rfl, rfl⟩)⟩ ⟨_, rfl, h_5⟩
    · have h_6 := ineg hc33 h_4
      refine fw_iload_n (i := 2) 3 rfl (show decode _ _ = .ok (.iload_n 2, 1) by decide +kernel) ?_
      refine fw_bipush (v := (14 : Int32)) (show decode _ _ = .ok (.bipush 14, 2) by decide +kernel) (by decide) ?_
      refine fw_icmp_gt 38 (show decode _ _ = .ok (.if_icmp .gt 20, 3) by decide +kernel) (by decide) (fun hc32 => ?_) (fun hc32 => ?_)
      · have h_7 := ipos hc32 h_6
        refine fw_iconst (v := (0 : Int32)) (show decode _ _ = .ok (.iconst 0, 1) by decide +kernel) (by decide) ?_
        exact fw_ret (v := some (.int (0 : Int32))) .ireturn (show decode _ _ = .ok (.ireturn, 1) by decide +kernel) ⟨rfl, Or.inr (Or.inl ⟨rfl, rfl⟩)⟩ ⟨_, rfl, h_7⟩
      · have h_8 := ineg hc32 h_6
        refine fw_aload_n (i := 0) 1 rfl (show decode _ _ = .ok (.aload_n 0, 1) by decide +kernel) ?_
        obtain ⟨⟨hr19, n18, hs20⟩, h_9⟩ := h_8
        refine fw_callV (mt' := mtX5_isOnWay) (mc := 0) (ms := 0) (As := []) (rest := []) 0 5 n18 (show decode _ _ = .ok (.invokevirtual 63, 3) by decide +kernel) cv_X5_63 ⟨_, rfl, rfl⟩ hr19 hs20 rfl (Nat.le_of_ble_eq_true rfl) (s_X5_isOnWay (d := d) (hd_le hd (by decide)) h_9) (by decide) (by decide) (kI (bc' := 0) (bs' := 0) (by decide) (by decide) (fun x21 M17 h_10 => ?_))
        refine fw_if_eq 40 (show decode _ _ = .ok (.ifCond .eq 15, 3) by decide +kernel) (by decide) (fun hc31 => ?_) (fun hc31 => ?_)
        · have h_11 := ipos hc31 h_10
          refine FW.sub [3, 0] (ls' := [(2, .int p2), (3, .ref y15)]) rfl ?_
          exact sj_X5_tellStairs_40 hd h_11
        · have h_12 := ineg hc31 h_10
          refine fw_aload_n (i := 0) 1 rfl (show decode _ _ = .ok (.aload_n 0, 1) by decide +kernel) ?_
          obtain ⟨⟨hr23, n22, hs24⟩, h_13⟩ := h_12
          refine fw_getP (kd := 5) (k := 7) (show decode _ _ = .ok (.getfield 31, 3) by decide +kernel) gf_X5_31 hr23 hs24 rfl ?_
          have h_14 := dR_e h_13
          obtain ⟨y25, hy26, h_15⟩ := h_14
          refine fw_deref hy26 ?_
          refine fw_iconst (v := (1 : Int32)) (show decode _ _ = .ok (.iconst 1, 1) by decide +kernel) (by decide) ?_
          obtain ⟨⟨n27, hs28, hi29⟩, h_16⟩ := h_15
          refine fw_iald (show decode _ _ = .ok (.iaload, 1) by decide +kernel) hs28 hi29 ?_
          refine fw_iload_n (i := 1) 2 rfl (show decode _ _ = .ok (.iload_n 1, 1) by decide +kernel) ?_
          refine fw_icmp_ne 40 (show decode _ _ = .ok (.if_icmp .ne 5, 3) by decide +kernel) (by decide) (fun hc30 => ?_) (fun hc30 => ?_)
          · have h_17 := ineg hc30 h_16
            refine FW.sub [3, 0] (ls' := [(2, .int p2), (3, .ref y15)]) rfl ?_
            exact sj_X5_tellStairs_40 hd h_17
          · have h_18 := ipos hc30 h_16
            refine fw_iconst (v := (0 : Int32)) (show decode _ _ = .ok (.iconst 0, 1) by decide +kernel) (by decide) ?_
            exact fw_ret (v := some (.int (0 : Int32))) .ireturn (show decode _ _ = .ok (.ireturn, 1) by decide +kernel) ⟨rfl, Or.inr (Or.inl ⟨rfl, rfl⟩)⟩ ⟨_, rfl, h_18⟩
def j_X5_turnMark_26 (φ : Int32 → fM → Prop) (s0 : Int32) (s1 : Int32) (s2 : Int32) (s3 : Nat) (M : fM) : Prop := isO M s3 5 ∧ w_X5_tellMark s3 s2 s1 s0 M fun x5 M1 => iF (x5 = 0) (φ (0 : Int32) M1) (φ (1 : Int32) M1)
set_option maxRecDepth 100000 in
theorem sj_X5_turnMark_26 {g : GT} {d : Nat} (hd : 4 ≤ d + 1) {φ : Int32 → fM → Prop} {s0 : Int32} {s1 : Int32} {s2 : Int32} {s3 : Nat} {M : fM} (h : j_X5_turnMark_26 φ s0 s1 s2 s3 M) : FW g mtX5_turnMark (d + 1) 26 [] [.int s0, .int s1, .int s2, .ref s3] M 0 0 (rI φ) := by
  unfold j_X5_turnMark_26 at h
  obtain ⟨⟨hr3, n2, hs4⟩, h_1⟩ := h
  refine fw_callV (mt' := mtX5_tellMark) (mc := 0) (ms := 0) (As := [.int s2, .int s1, .int s0]) (rest := []) 3 5 n2 (show decode _ _ = .ok (.invokevirtual 92, 3) by decide +kernel) cv_X5_92 ⟨_, rfl, rfl⟩ hr3 hs4 rfl (Nat.le_of_ble_eq_true rfl) (s_X5_tellMark (d := d) (hd_le hd (by decide)) h_1) (by decide) (by decide) (kI (bc' := 0) (bs' := 0) (by decide) (by decide) (fun x5 M1 h_2 => ?_))
  refine fw_if_eq 36 (show decode _ _ = .ok (.ifCond .eq 7, 3) by decide +kernel) (by decide) (fun hc6 => ?_) (fun hc6 => ?_)
  · have h_3 := ipos hc6 h_2
    refine fw_iconst (v := (0 : Int32)) (show decode _ _ = .ok (.iconst 0, 1) by decide +kernel) (by decide) ?_
    exact fw_ret (v := some (.int (0 : Int32))) .ireturn (show decode _ _ = .ok (.ireturn, 1) by decide +kernel) ⟨rfl, Or.inr (Or.inl ⟨rfl, rfl⟩)⟩ ⟨_, rfl, h_3⟩
  · have h_4 := ineg hc6 h_2
    refine fw_iconst (v := (1 : Int32)) (show decode _ _ = .ok (.iconst 1, 1) by decide +kernel) (by decide) ?_
    refine fw_goto 37 (show decode _ _ = .ok (.goto 4, 3) by decide +kernel) (by decide) ?_
    exact fw_ret (v := some (.int (1 : Int32))) .ireturn (show decode _ _ = .ok (.ireturn, 1) by decide +kernel) ⟨rfl, Or.inr (Or.inl ⟨rfl, rfl⟩)⟩ ⟨_, rfl, h_4⟩
def w_X5_turnMark (p0 : Nat) (p1 : Int32) (p2 : Int32) (M : fM) (φ : Int32 → fM → Prop) : Prop := isO M p0 5 ∧ w_X5_houseOf p0 p1 M fun o11 M7 => gN o11 (fun y12 => isO M7 y12 0 ∧ w_X0_hasMark y12 p2 M7 fun x18 M14 => iF (x18 = 0) (j_X5_turnMark_26 φ (1 : Int32) p2 p1 p0 M14) (j_X5_turnMark_26 φ (0 : Int32) p2 p1 p0 M14)) (φ (0 : Int32) M7)
set_option maxRecDepth 100000 in
theorem s_X5_turnMark {g : GT} {d : Nat} (hd : 4 ≤ d) {p0 : Nat} {p1 : Int32} {p2 : Int32} {M : fM} {φ : Int32 → fM → Prop} (h : w_X5_turnMark p0 p1 p2 M φ) : FC g mtX5_turnMark d [.ref p0, .int p1, .int p2] M 0 0 (rI φ) := by
  obtain ⟨d, rfl⟩ : ∃ e, d = e + 1 := ⟨d - 1, by omega⟩
  unfold w_X5_turnMark at h
  refine FC.intro (nL := 4) (by decide) rfl (Nat.le_of_ble_eq_true rfl) ?_
  show FW g mtX5_turnMark (d + 1) 0 [(0, .ref p0), (1, .int p1), (2, .int p2)] [] M 0 0 (rI φ)
  refine fw_aload_n (i := 0) 0 rfl (show decode _ _ = .ok (.aload_n 0, 1) by decide +kernel) ?_
  refine fw_iload_n (i := 1) 1 rfl (show decode _ _ = .ok (.iload_n 1, 1) by decide +kernel) ?_
  obtain ⟨⟨hr9, n8, hs10⟩, h_1⟩ := h
  refine fw_callV (mt' := mtX5_houseOf) (mc := 0) (ms := 0) (As := [.int p1]) (rest := []) 1 5 n8 (show decode _ _ = .ok (.invokevirtual 59, 3) by decide +kernel) cv_X5_59 ⟨_, rfl, rfl⟩ hr9 hs10 rfl (Nat.le_of_ble_eq_true rfl) (s_X5_houseOf (d := d) (hd_le hd (by decide)) h_1) (by decide) (by decide) (kP (bc' := 0) (bs' := 0) (by decide) (by decide) (fun o11 M7 h_2 => ?_))
  refine fw_astoreq_n (i := 3) (ls' := [(3, fr o11), (0, .ref p0), (1, .int p1), (2, .int p2)]) (show decode _ _ = .ok (.astore_n 3, 1) by decide +kernel) (by decide) rfl ?_
  refine fw_aloadq_n (i := 3) 0 rfl (show decode _ _ = .ok (.aload_n 3, 1) by decide +kernel) ?_
  refine fw_ifnull (x := o11) 36 (show decode _ _ = .ok (.ifnull 29, 3) by decide +kernel) (by decide) (fun hy13 => ?_) (fun y12 hy13 => ?_)
  · have h_3 := gN_n hy13 h_2
    subst hy13
    refine fw_iconst (v := (0 : Int32)) (show decode _ _ = .ok (.iconst 0, 1) by decide +kernel) (by decide) ?_
    exact fw_ret (v := some (.int (0 : Int32))) .ireturn (show decode _ _ = .ok (.ireturn, 1) by decide +kernel) ⟨rfl, Or.inr (Or.inl ⟨rfl, rfl⟩)⟩ ⟨_, rfl, h_3⟩
  · have h_4 := gN_s hy13 h_2
    subst hy13
    refine fw_aload_n (i := 0) 1 rfl (show decode _ _ = .ok (.aload_n 0, 1) by decide +kernel) ?_
    refine fw_iload_n (i := 1) 2 rfl (show decode _ _ = .ok (.iload_n 1, 1) by decide +kernel) ?_
    refine fw_iload_n (i := 2) 3 rfl (show decode _ _ = .ok (.iload_n 2, 1) by decide +kernel) ?_
    refine fw_aload_n (i := 3) 0 rfl (show decode _ _ = .ok (.aload_n 3, 1) by decide +kernel) ?_
    refine fw_iload_n (i := 2) 3 rfl (show decode _ _ = .ok (.iload_n 2, 1) by decide +kernel) ?_
    obtain ⟨⟨hr16, n15, hs17⟩, h_5⟩ := h_4
    refine fw_callV (mt' := mtX0_hasMark) (mc := 0) (ms := 0) (As := [.int p2]) (rest := [.int p2, .int p1, .ref p0]) 1 0 n15 (show decode _ _ = .ok (.invokevirtual 86, 3) by decide +kernel) cv_X5_86 ⟨_, rfl, rfl⟩ hr16 hs17 rfl (Nat.le_of_ble_eq_true rfl) (s_X0_hasMark (d := d) (hd_le hd (by decide)) h_5) (by decide) (by decide) (kI (bc' := 0) (bs' := 0) (by decide) (by decide) (fun x18 M14 h_6 => ?_))
    refine fw_if_ne 25 (show decode _ _ = .ok (.ifCond .ne 7, 3) by decide +kernel) (by decide) (fun hc19 => ?_) (fun hc19 => ?_)
    · have h_7 := ineg hc19 h_6
      refine fw_iconst (v := (0 : Int32)) (show decode _ _ = .ok (.iconst 0, 1) by decide +kernel) (by decide) ?_
      refine FW.sub [] (ls' := []) rfl ?_
      exact sj_X5_turnMark_26 hd h_7
    · have h_8 := ipos hc19 h_6
      refine fw_iconst (v := (1 : Int32)) (show decode _ _ = .ok (.iconst 1, 1) by decide +kernel) (by decide) ?_
      refine fw_goto 26 (show decode _ _ = .ok (.goto 4, 3) by decide +kernel) (by decide) ?_
      refine FW.sub [] (ls' := []) rfl ?_
      exact sj_X5_turnMark_26 hd h_8
def j_X5_tellRail_24 (φ : Int32 → fM → Prop) (p2 : Int32) (p3 : Nat) (M : fM) : Prop := isO M p3 0 ∧ st (wI M p3 3 p2) fun M4 => st (wI M4 p3 4 (1 : Int32)) fun M6 => φ (1 : Int32) M6
set_option maxRecDepth 100000 in
theorem sj_X5_tellRail_24 {g : GT} {d : Nat} (hd : 2 ≤ d + 1) {φ : Int32 → fM → Prop} {p2 : Int32} {p3 : Nat} {M : fM} (h : j_X5_tellRail_24 φ p2 p3 M) : FW g mtX5_tellRail (d + 1) 24 [(2, .int p2), (3, .ref p3)] [] M 0 0 (rI φ) := by
  unfold j_X5_tellRail_24 at h
  refine fw_aload_n (i := 3) 1 rfl (show decode _ _ = .ok (.aload_n 3, 1) by decide +kernel) ?_
  refine fw_iload_n (i := 2) 0 rfl (show decode _ _ = .ok (.iload_n 2, 1) by decide +kernel) ?_
  obtain ⟨⟨hr2, n1, hs3⟩, h_1⟩ := h
  refine fw_putI (kd := 0) (k := 3) (show decode _ _ = .ok (.putfield 96, 3) by decide +kernel) ⟨gf_X5_96, _, rfl, Or.inl rfl⟩ hr2 hs3 rfl ?_
  refine FW.nmM (fun M4 eM5 => ?_)
  have h_2 := h_1 M4 eM5
  refine fw_aload_n (i := 3) 1 rfl (show decode _ _ = .ok (.aload_n 3, 1) by decide +kernel) ?_
  refine fw_iconst (v := (1 : Int32)) (show decode _ _ = .ok (.iconst 1, 1) by decide +kernel) (by decide) ?_
  refine fw_putZ (kd := 0) (k := 4) (show decode _ _ = .ok (.putfield 71, 3) by decide +kernel) ⟨gf_X5_71, _, rfl, Or.inl rfl⟩ hr2 (mSw_I eM5 hs3) rfl rfl ?_
  refine FW.nmM (fun M6 eM7 => ?_)
  have h_3 := h_2 M6 eM7
  refine fw_iconst (v := (1 : Int32)) (show decode _ _ = .ok (.iconst 1, 1) by decide +kernel) (by decide) ?_
  exact fw_ret (v := some (.int (1 : Int32))) .ireturn (show decode _ _ = .ok (.ireturn, 1) by decide +kernel) ⟨rfl, Or.inr (Or.inl ⟨rfl, rfl⟩)⟩ ⟨_, rfl, h_3⟩
def w_X5_tellRail (p0 : Nat) (p1 : Int32) (p2 : Int32) (M : fM) (φ : Int32 → fM → Prop) : Prop := isO M p0 5 ∧ w_X5_houseOf p0 p1 M fun o12 M8 => gN o12 (fun y13 => iF (p2 = 0) (j_X5_tellRail_24 φ p2 y13 M8) (isO M8 y13 0 ∧ w_X0_hasStep y13 p2 M8 fun x19 M15 => iF (x19 = 0) (φ (0 : Int32) M15) (j_X5_tellRail_24 φ p2 y13 M15))) (φ (0 : Int32) M8)
set_option maxRecDepth 100000 in
theorem s_X5_tellRail {g : GT} {d : Nat} (hd : 2 ≤ d) {p0 : Nat} {p1 : Int32} {p2 : Int32} {M : fM} {φ : Int32 → fM → Prop} (h : w_X5_tellRail p0 p1 p2 M φ) : FC g mtX5_tellRail d [.ref p0, .int p1, .int p2] M 0 0 (rI φ) := by
  obtain ⟨d, rfl⟩ : ∃ e, d = e + 1 := ⟨d - 1, by omega⟩
  unfold w_X5_tellRail at h
  refine FC.intro (nL := 4) (by decide) rfl (Nat.le_of_ble_eq_true rfl) ?_
  show FW g mtX5_tellRail (d + 1) 0 [(0, .ref p0), (1, .int p1), (2, .int p2)] [] M 0 0 (rI φ)
  refine fw_aload_n (i := 0) 0 rfl (show decode _ _ = .ok (.aload_n 0, 1) by decide +kernel) ?_
  refine fw_iload_n (i := 1) 1 rfl (show decode _ _ = .ok (.iload_n 1, 1) by decide +kernel) ?_
  obtain ⟨⟨hr10, n9, hs11⟩, h_1⟩ := h
  refine fw_callV (mt' := mtX5_houseOf) (mc := 0) (ms := 0) (As := [.int p1]) (rest := []) 1 5 n9 (show decode _ _ = .ok (.invokevirtual 59, 3) by decide +kernel) cv_X5_59 ⟨_, rfl, rfl⟩ hr10 hs11 rfl (Nat.le_of_ble_eq_true rfl) (s_X5_houseOf (d := d) (hd_le hd (by decide)) h_1) (by decide) (by decide) (kP (bc' := 0) (bs' := 0) (by decide) (by decide) (fun o12 M8 h_2 => ?_))
  refine fw_astoreq_n (i := 3) (ls' := [(3, fr o12), (0, .ref p0), (1, .int p1), (2, .int p2)]) (show decode _ _ = .ok (.astore_n 3, 1) by decide +kernel) (by decide) rfl ?_
  refine fw_aloadq_n (i := 3) 0 rfl (show decode _ _ = .ok (.aload_n 3, 1) by decide +kernel) ?_
  refine fw_ifnull (x := o12) 22 (show decode _ _ = .ok (.ifnull 15, 3) by decide +kernel) (by decide) (fun hy14 => ?_) (fun y13 hy14 => ?_)
  · have h_3 := gN_n hy14 h_2
    subst hy14
    refine fw_iconst (v := (0 : Int32)) (show decode _ _ = .ok (.iconst 0, 1) by decide +kernel) (by decide) ?_
    exact fw_ret (v := some (.int (0 : Int32))) .ireturn (show decode _ _ = .ok (.ireturn, 1) by decide +kernel) ⟨rfl, Or.inr (Or.inl ⟨rfl, rfl⟩)⟩ ⟨_, rfl, h_3⟩
  · have h_4 := gN_s hy14 h_2
    subst hy14
    refine fw_iload_n (i := 2) 3 rfl (show decode _ _ = .ok (.iload_n 2, 1) by decide +kernel) ?_
    refine fw_if_eq 24 (show decode _ _ = .ok (.ifCond .eq 13, 3) by decide +kernel) (by decide) (fun hc21 => ?_) (fun hc21 => ?_)
    · have h_5 := ipos hc21 h_4
      refine FW.sub [3, 0] (ls' := [(2, .int p2), (3, .ref y13)]) rfl ?_
      exact sj_X5_tellRail_24 hd h_5
    · have h_6 := ineg hc21 h_4
      refine fw_aload_n (i := 3) 0 rfl (show decode _ _ = .ok (.aload_n 3, 1) by decide +kernel) ?_
      refine fw_iload_n (i := 2) 3 rfl (show decode _ _ = .ok (.iload_n 2, 1) by decide +kernel) ?_
      obtain ⟨⟨hr17, n16, hs18⟩, h_7⟩ := h_6
      refine fw_callV (mt' := mtX0_hasStep) (mc := 0) (ms := 0) (As := [.int p2]) (rest := []) 1 0 n16 (show decode _ _ = .ok (.invokevirtual 75, 3) by decide +kernel) cv_X5_75 ⟨_, rfl, rfl⟩ hr17 hs18 rfl (Nat.le_of_ble_eq_true rfl) (s_X0_hasStep (d := d) (hd_le hd (by decide)) h_7) (by decide) (by decide) (kI (bc' := 0) (bs' := 0) (by decide) (by decide) (fun x19 M15 h_8 => ?_))
      refine fw_if_ne 24 (show decode _ _ = .ok (.ifCond .ne 5, 3) by decide +kernel) (by decide) (fun hc20 => ?_) (fun hc20 => ?_)
      · have h_9 := ineg hc20 h_8
        refine FW.sub [3, 0] (ls' := [(2, .int p2), (3, .ref y13)]) rfl ?_
        exact sj_X5_tellRail_24 hd h_9
      · have h_10 := ipos hc20 h_8
        refine fw_iconst (v := (0 : Int32)) (show decode _ _ = .ok (.iconst 0, 1) by decide +kernel) (by decide) ?_
        exact fw_ret (v := some (.int (0 : Int32))) .ireturn (show decode _ _ = .ok (.ireturn, 1) by decide +kernel) ⟨rfl, Or.inr (Or.inl ⟨rfl, rfl⟩)⟩ ⟨_, rfl, h_10⟩
def w_X9_turnToWay (p0 : Nat) (M : fM) (φ : fM → Prop) : Prop := isO M p0 9 ∧ dR (mP M p0 1) fun y4 => dR (mP M p0 0) fun y6 => dR (mP M p0 0) fun y8 => dR (mP M p0 0) fun y10 => isO M y10 5 ∧ isO M y8 5 ∧ w_X5_textOf y8 (mI M y10 15) M fun o19 M15 => isO M15 p0 9 ∧ dR (mP M15 p0 0) fun y23 => isO M15 y23 5 ∧ dR (mP M15 y23 7) fun y28 => inA M15 y28 12 (0 : Int32) ∧ dR (mP M15 p0 0) fun y33 => isO M15 y33 5 ∧ dR (mP M15 y33 7) fun y38 => inA M15 y38 12 (1 : Int32) ∧ dR (mP M15 p0 0) fun y43 => isO M15 y43 5 ∧ dR (mP M15 y43 7) fun y48 => inA M15 y48 12 (2 : Int32) ∧ isO M15 y4 1 ∧ w_X1_turnTo y4 y6 o19 (mI M15 y28 (ix (0 : Int32))) (mI M15 y38 (ix (1 : Int32))) (mI M15 y48 (ix (2 : Int32))) M15 fun M53 => φ M53
set_option maxRecDepth 100000 in
theorem s_X9_turnToWay {g : GT} {d : Nat} (hd : 3 ≤ d) {p0 : Nat} {M : fM} {φ : fM → Prop} (h : w_X9_turnToWay p0 M φ) : FC g mtX9_turnToWay d [.ref p0] M 0 0 (rV φ) := by
  obtain ⟨d, rfl⟩ : ∃ e, d = e + 1 := ⟨d - 1, by omega⟩
  unfold w_X9_turnToWay at h
  refine FC.intro (nL := 1) (by decide) rfl (Nat.le_of_ble_eq_true rfl) ?_
  show FW g mtX9_turnToWay (d + 1) 0 [(0, .ref p0)] [] M 0 0 (rV φ)
  refine fw_aload_n (i := 0) 0 rfl (show decode _ _ = .ok (.aload_n 0, 1) by decide +kernel) ?_
  obtain ⟨⟨hr2, n1, hs3⟩, h_1⟩ := h
  refine fw_getP (kd := 9) (k := 1) (show decode _ _ = .ok (.getfield 15, 3) by decide +kernel) gf_X9_15 hr2 hs3 rfl ?_
  have h_2 := dR_e h_1
  obtain ⟨y4, hy5, h_3⟩ := h_2
  refine fw_deref hy5 ?_
  refine fw_aload_n (i := 0) 0 rfl (show decode _ _ = .ok (.aload_n 0, 1) by decide +kernel) ?_
  refine fw_getP (kd := 9) (k := 0) (show decode _ _ = .ok (.getfield 9, 3) by decide +kernel) gf_X9_9 hr2 hs3 rfl ?_
  have h_4 := dR_e h_3
  obtain ⟨y6, hy7, h_5⟩ := h_4
  refine fw_deref hy7 ?_
  refine fw_aload_n (i := 0) 0 rfl (show decode _ _ = .ok (.aload_n 0, 1) by decide +kernel) ?_
  refine fw_getP (kd := 9) (k := 0) (show decode _ _ = .ok (.getfield 9, 3) by decide +kernel) gf_X9_9 hr2 hs3 rfl ?_
  have h_6 := dR_e h_5
  obtain ⟨y8, hy9, h_7⟩ := h_6
  refine fw_deref hy9 ?_
  refine fw_aload_n (i := 0) 0 rfl (show decode _ _ = .ok (.aload_n 0, 1) by decide +kernel) ?_
  refine fw_getP (kd := 9) (k := 0) (show decode _ _ = .ok (.getfield 9, 3) by decide +kernel) gf_X9_9 hr2 hs3 rfl ?_
  have h_8 := dR_e h_7
  obtain ⟨y10, hy11, h_9⟩ := h_8
  refine fw_deref hy11 ?_
  obtain ⟨⟨hr13, n12, hs14⟩, h_10⟩ := h_9
  refine fw_getI (kd := 5) (k := 15) (show decode _ _ = .ok (.getfield 152, 3) by decide +kernel) gf_X9_152 hr13 hs14 (Or.inl rfl) ?_
  obtain ⟨⟨hr17, n16, hs18⟩, h_11⟩ := h_10
  refine fw_callV (mt' := mtX5_textOf) (mc := 0) (ms := 0) (As := [.int (mI M y10 15)]) (rest := [.ref y6, .ref y4]) 1 5 n16 (show decode _ _ = .ok (.invokevirtual 155, 3) by decide +kernel) cv_X9_155 ⟨_, rfl, rfl⟩ hr17 hs18 rfl (Nat.le_of_ble_eq_true rfl) (s_X5_textOf (d := d) (hd_le hd (by decide)) h_11) (by decide) (by decide) (kP (bc' := 0) (bs' := 0) (by decide) (by decide) (fun o19 M15 h_12 => ?_))
  refine fw_aload_n (i := 0) 0 rfl (show decode _ _ = .ok (.aload_n 0, 1) by decide +kernel) ?_
  obtain ⟨⟨hr21, n20, hs22⟩, h_13⟩ := h_12
  refine fw_getP (kd := 9) (k := 0) (show decode _ _ = .ok (.getfield 9, 3) by decide +kernel) gf_X9_9 hr21 hs22 rfl ?_
  have h_14 := dR_e h_13
  obtain ⟨y23, hy24, h_15⟩ := h_14
  refine fw_deref hy24 ?_
  obtain ⟨⟨hr26, n25, hs27⟩, h_16⟩ := h_15
  refine fw_getP (kd := 5) (k := 7) (show decode _ _ = .ok (.getfield 36, 3) by decide +kernel) gf_X9_36 hr26 hs27 rfl ?_
  have h_17 := dR_e h_16
  obtain ⟨y28, hy29, h_18⟩ := h_17
  refine fw_deref hy29 ?_
  refine fw_iconst (v := (0 : Int32)) (show decode _ _ = .ok (.iconst 0, 1) by decide +kernel) (by decide) ?_
  obtain ⟨⟨n30, hs31, hi32⟩, h_19⟩ := h_18
  refine fw_iald (show decode _ _ = .ok (.iaload, 1) by decide +kernel) hs31 hi32 ?_
  refine fw_aload_n (i := 0) 0 rfl (show decode _ _ = .ok (.aload_n 0, 1) by decide +kernel) ?_
  refine fw_getP (kd := 9) (k := 0) (show decode _ _ = .ok (.getfield 9, 3) by decide +kernel) gf_X9_9 hr21 hs22 rfl ?_
  have h_20 := dR_e h_19
  obtain ⟨y33, hy34, h_21⟩ := h_20
  refine fw_deref hy34 ?_
  obtain ⟨⟨hr36, n35, hs37⟩, h_22⟩ := h_21
  refine fw_getP (kd := 5) (k := 7) (show decode _ _ = .ok (.getfield 36, 3) by decide +kernel) gf_X9_36 hr36 hs37 rfl ?_
  have h_23 := dR_e h_22
  obtain ⟨y38, hy39, h_24⟩ := h_23
  refine fw_deref hy39 ?_
  refine fw_iconst (v := (1 : Int32)) (show decode _ _ = .ok (.iconst 1, 1) by decide +kernel) (by decide) ?_
  obtain ⟨⟨n40, hs41, hi42⟩, h_25⟩ := h_24
  refine fw_iald (show decode _ _ = .ok (.iaload, 1) by decide +kernel) hs41 hi42 ?_
  refine fw_aload_n (i := 0) 0 rfl (show decode _ _ = .ok (.aload_n 0, 1) by decide +kernel) ?_
  refine fw_getP (kd := 9) (k := 0) (show decode _ _ = .ok (.getfield 9, 3) by decide +kernel) gf_X9_9 hr21 hs22 rfl ?_
  have h_26 := dR_e h_25
  obtain ⟨y43, hy44, h_27⟩ := h_26
  refine fw_deref hy44 ?_
  obtain ⟨⟨hr46, n45, hs47⟩, h_28⟩ := h_27
  refine fw_getP (kd := 5) (k := 7) (show decode _ _ = .ok (.getfield 36, 3) by decide +kernel) gf_X9_36 hr46 hs47 rfl ?_
  have h_29 := dR_e h_28
  obtain ⟨y48, hy49, h_30⟩ := h_29
  refine fw_deref hy49 ?_
  refine fw_iconst (v := (2 : Int32)) (show decode _ _ = .ok (.iconst 2, 1) by decide +kernel) (by decide) ?_
  obtain ⟨⟨n50, hs51, hi52⟩, h_31⟩ := h_30
  refine fw_iald (show decode _ _ = .ok (.iaload, 1) by decide +kernel) hs51 hi52 ?_
  obtain ⟨⟨hr55, n54, hs56⟩, h_32⟩ := h_31
  refine fw_callV (mt' := mtX1_turnTo) (mc := 0) (ms := 0) (As := [.ref y6, fr o19, .int (mI M15 y28 (ix (0 : Int32))), .int (mI M15 y38 (ix (1 : Int32))), .int (mI M15 y48 (ix (2 : Int32)))]) (rest := []) 5 1 n54 (show decode _ _ = .ok (.invokevirtual 159, 3) by decide +kernel) cv_X9_159 ⟨_, rfl, rfl⟩ hr55 hs56 rfl (Nat.le_of_ble_eq_true rfl) (s_X1_turnTo (d := d) (hd_le hd (by decide)) h_32) (by decide) (by decide) (kV (bc' := 0) (bs' := 0) (by decide) (by decide) (fun M53 h_33 => ?_))
  exact fw_ret (v := none) .return_ (show decode _ _ = .ok (.return_, 1) by decide +kernel) ⟨rfl, rfl⟩ ⟨rfl, h_33⟩
def w_X5_writeDown (p0 : Nat) (p1 : Int32) (M : fM) (φ : fM → Prop) : Prop := isO M p0 5 ∧ nm (((mI M p0 9) % (256 : Int32)) * (8 : Int32)) fun x4 => dR (mP M p0 8) fun y6 => dR (mP M p0 7) fun y8 => inA M y8 12 (0 : Int32) ∧ w_X10_put y6 (x4 + (0 : Int32)) (mI M y8 (ix (0 : Int32))) M fun M13 => isO M13 p0 5 ∧ dR (mP M13 p0 8) fun y17 => dR (mP M13 p0 7) fun y19 => inA M13 y19 12 (1 : Int32) ∧ w_X10_put y17 (x4 + (1 : Int32)) (mI M13 y19 (ix (1 : Int32))) M13 fun M24 => isO M24 p0 5 ∧ dR (mP M24 p0 8) fun y28 => w_X10_put y28 (x4 + (2 : Int32)) (mI M24 p0 6) M24 fun M30 => isO M30 p0 5 ∧ dR (mP M30 p0 8) fun y34 => dR (mP M30 p0 7) fun y36 => inA M30 y36 12 (4 : Int32) ∧ w_X10_put y34 (x4 + (3 : Int32)) (mI M30 y36 (ix (4 : Int32))) M30 fun M41 => isO M41 p0 5 ∧ dR (mP M41 p0 8) fun y45 => dR (mP M41 p0 7) fun y47 => inA M41 y47 12 (5 : Int32) ∧ w_X10_put y45 (x4 + (4 : Int32)) (mI M41 y47 (ix (5 : Int32))) M41 fun M52 => isO M52 p0 5 ∧ dR (mP M52 p0 8) fun y56 => dR (mP M52 p0 7) fun y58 => inA M52 y58 12 (6 : Int32) ∧ w_X10_put y56 (x4 + (5 : Int32)) (mI M52 y58 (ix (6 : Int32))) M52 fun M63 => isO M63 p0 5 ∧ dR (mP M63 p0 8) fun y67 => w_X10_put y67 (x4 + (6 : Int32)) p1 M63 fun M69 => isO M69 p0 5 ∧ dR (mP M69 p0 8) fun y73 => dR (mP M69 p0 7) fun y75 => inA M69 y75 12 (7 : Int32) ∧ w_X10_put y73 (x4 + (7 : Int32)) (mI M69 y75 (ix (7 : Int32))) M69 fun M80 => isO M80 p0 5 ∧ nm ((mI M80 p0 9) + (1 : Int32)) fun x84 => st (wI M80 p0 9 x84) fun M86 => φ M86
set_option maxRecDepth 100000 in
theorem s_X5_writeDown {g : GT} {d : Nat} (hd : 2 ≤ d) {p0 : Nat} {p1 : Int32} {M : fM} {φ : fM → Prop} (h : w_X5_writeDown p0 p1 M φ) : FC g mtX5_writeDown d [.ref p0, .int p1] M 0 0 (rV φ) := by
  obtain ⟨d, rfl⟩ : ∃ e, d = e + 1 := ⟨d - 1, by omega⟩
  unfold w_X5_writeDown at h
  refine FC.intro (nL := 3) (by decide) rfl (Nat.le_of_ble_eq_true rfl) ?_
  show FW g mtX5_writeDown (d + 1) 0 [(0, .ref p0), (1, .int p1)] [] M 0 0 (rV φ)
  refine fw_aload_n (i := 0) 0 rfl (show decode _ _ = .ok (.aload_n 0, 1) by decide +kernel) ?_
  obtain ⟨⟨hr2, n1, hs3⟩, h_1⟩ := h
  refine fw_getI (kd := 5) (k := 9) (show decode _ _ = .ok (.getfield 112, 3) by decide +kernel) gf_X5_112 hr2 hs3 (Or.inl rfl) ?_
  refine fw_sipush (v := (256 : Int32)) (show decode _ _ = .ok (.sipush 256, 3) by decide +kernel) (by decide) ?_
  refine fw_irem (show decode _ _ = .ok (.irem, 1) by decide +kernel) (by decide) ?_
  refine fw_bipush (v := (8 : Int32)) (show decode _ _ = .ok (.bipush 8, 2) by decide +kernel) (by decide) ?_
  refine fw_imul (show decode _ _ = .ok (.imul, 1) by decide +kernel) ?_
  refine fw_nmI (fun x4 ex5 => ?_)
  have h_2 := h_1 x4 ex5
  refine fw_istore_n (i := 2) (ls' := [(2, .int x4), (0, .ref p0), (1, .int p1)]) (show decode _ _ = .ok (.istore_n 2, 1) by decide +kernel) (by decide) rfl ?_
  refine fw_aload_n (i := 0) 1 rfl (show decode _ _ = .ok (.aload_n 0, 1) by decide +kernel) ?_
  refine fw_getP (kd := 5) (k := 8) (show decode _ _ = .ok (.getfield 34, 3) by decide +kernel) gf_X5_34 hr2 hs3 rfl ?_
  have h_3 := dR_e h_2
  obtain ⟨y6, hy7, h_4⟩ := h_3
  refine fw_deref hy7 ?_
  refine fw_iload_n (i := 2) 0 rfl (show decode _ _ = .ok (.iload_n 2, 1) by decide +kernel) ?_
  refine fw_iconst (v := (0 : Int32)) (show decode _ _ = .ok (.iconst 0, 1) by decide +kernel) (by decide) ?_
  refine fw_iadd (show decode _ _ = .ok (.iadd, 1) by decide +kernel) ?_
  refine fw_aload_n (i := 0) 1 rfl (show decode _ _ = .ok (.aload_n 0, 1) by decide +kernel) ?_
  refine fw_getP (kd := 5) (k := 7) (show decode _ _ = .ok (.getfield 31, 3) by decide +kernel) gf_X5_31 hr2 hs3 rfl ?_
  have h_5 := dR_e h_4
  obtain ⟨y8, hy9, h_6⟩ := h_5
  refine fw_deref hy9 ?_
  refine fw_iconst (v := (0 : Int32)) (show decode _ _ = .ok (.iconst 0, 1) by decide +kernel) (by decide) ?_
  obtain ⟨⟨n10, hs11, hi12⟩, h_7⟩ := h_6
  refine fw_iald (show decode _ _ = .ok (.iaload, 1) by decide +kernel) hs11 hi12 ?_
  refine fw_callSN (mt' := mtX10_put) (mc := 0) (ms := 0) (As := [.ref y6, .int (x4 + (0 : Int32)), .int (mI M y8 (ix (0 : Int32)))]) (rest := []) 3 "OneStepMore" (show decode _ _ = .ok (.invokestatic 82, 3) by decide +kernel) ns_X5_82 rfl (Nat.le_of_ble_eq_true rfl) (s_X10_put (d := d) (hd_le hd (by decide)) h_7) (by decide) (by decide) (kV (bc' := 0) (bs' := 0) (by decide) (by decide) (fun M13 h_8 => ?_))
  refine fw_aload_n (i := 0) 1 rfl (show decode _ _ = .ok (.aload_n 0, 1) by decide +kernel) ?_
  obtain ⟨⟨hr15, n14, hs16⟩, h_9⟩ := h_8
  refine fw_getP (kd := 5) (k := 8) (show decode _ _ = .ok (.getfield 34, 3) by decide +kernel) gf_X5_34 hr15 hs16 rfl ?_
  have h_10 := dR_e h_9
  obtain ⟨y17, hy18, h_11⟩ := h_10
  refine fw_deref hy18 ?_
  refine fw_iload_n (i := 2) 0 rfl (show decode _ _ = .ok (.iload_n 2, 1) by decide +kernel) ?_
  refine fw_iconst (v := (1 : Int32)) (show decode _ _ = .ok (.iconst 1, 1) by decide +kernel) (by decide) ?_
  refine fw_iadd (show decode _ _ = .ok (.iadd, 1) by decide +kernel) ?_
  refine fw_aload_n (i := 0) 1 rfl (show decode _ _ = .ok (.aload_n 0, 1) by decide +kernel) ?_
  refine fw_getP (kd := 5) (k := 7) (show decode _ _ = .ok (.getfield 31, 3) by decide +kernel) gf_X5_31 hr15 hs16 rfl ?_
  have h_12 := dR_e h_11
  obtain ⟨y19, hy20, h_13⟩ := h_12
  refine fw_deref hy20 ?_
  refine fw_iconst (v := (1 : Int32)) (show decode _ _ = .ok (.iconst 1, 1) by decide +kernel) (by decide) ?_
  obtain ⟨⟨n21, hs22, hi23⟩, h_14⟩ := h_13
  refine fw_iald (show decode _ _ = .ok (.iaload, 1) by decide +kernel) hs22 hi23 ?_
  refine fw_callSN (mt' := mtX10_put) (mc := 0) (ms := 0) (As := [.ref y17, .int (x4 + (1 : Int32)), .int (mI M13 y19 (ix (1 : Int32)))]) (rest := []) 3 "OneStepMore" (show decode _ _ = .ok (.invokestatic 82, 3) by decide +kernel) ns_X5_82 rfl (Nat.le_of_ble_eq_true rfl) (s_X10_put (d := d) (hd_le hd (by decide)) h_14) (by decide) (by decide) (kV (bc' := 0) (bs' := 0) (by decide) (by decide) (fun M24 h_15 => ?_))
  refine fw_aload_n (i := 0) 1 rfl (show decode _ _ = .ok (.aload_n 0, 1) by decide +kernel) ?_
  obtain ⟨⟨hr26, n25, hs27⟩, h_16⟩ := h_15
  refine fw_getP (kd := 5) (k := 8) (show decode _ _ = .ok (.getfield 34, 3) by decide +kernel) gf_X5_34 hr26 hs27 rfl ?_
  have h_17 := dR_e h_16
  obtain ⟨y28, hy29, h_18⟩ := h_17
  refine fw_deref hy29 ?_
  refine fw_iload_n (i := 2) 0 rfl (show decode _ _ = .ok (.iload_n 2, 1) by decide +kernel) ?_
  refine fw_iconst (v := (2 : Int32)) (show decode _ _ = .ok (.iconst 2, 1) by decide +kernel) (by decide) ?_
  refine fw_iadd (show decode _ _ = .ok (.iadd, 1) by decide +kernel) ?_
  refine fw_aload_n (i := 0) 1 rfl (show decode _ _ = .ok (.aload_n 0, 1) by decide +kernel) ?_
  refine fw_getI (kd := 5) (k := 6) (show decode _ _ = .ok (.getfield 109, 3) by decide +kernel) gf_X5_109 hr26 hs27 (Or.inl rfl) ?_
  refine fw_callSN (mt' := mtX10_put) (mc := 0) (ms := 0) (As := [.ref y28, .int (x4 + (2 : Int32)), .int (mI M24 p0 6)]) (rest := []) 3 "OneStepMore" (show decode _ _ = .ok (.invokestatic 82, 3) by decide +kernel) ns_X5_82 rfl (Nat.le_of_ble_eq_true rfl) (s_X10_put (d := d) (hd_le hd (by decide)) h_18) (by decide) (by decide) (kV (bc' := 0) (bs' := 0) (by decide) (by decide) (fun M30 h_19 => ?_))
  refine fw_aload_n (i := 0) 1 rfl (show decode _ _ = .ok (.aload_n 0, 1) by decide +kernel) ?_
  obtain ⟨⟨hr32, n31, hs33⟩, h_20⟩ := h_19
  refine fw_getP (kd := 5) (k := 8) (show decode _ _ = .ok (.getfield 34, 3) by decide +kernel) gf_X5_34 hr32 hs33 rfl ?_
  have h_21 := dR_e h_20
  obtain ⟨y34, hy35, h_22⟩ := h_21
  refine fw_deref hy35 ?_
  refine fw_iload_n (i := 2) 0 rfl (show decode _ _ = .ok (.iload_n 2, 1) by decide +kernel) ?_
  refine fw_iconst (v := (3 : Int32)) (show decode _ _ = .ok (.iconst 3, 1) by decide +kernel) (by decide) ?_
  refine fw_iadd (show decode _ _ = .ok (.iadd, 1) by decide +kernel) ?_
  refine fw_aload_n (i := 0) 1 rfl (show decode _ _ = .ok (.aload_n 0, 1) by decide +kernel) ?_
  refine fw_getP (kd := 5) (k := 7) (show decode _ _ = .ok (.getfield 31, 3) by decide +kernel) gf_X5_31 hr32 hs33 rfl ?_
  have h_23 := dR_e h_22
  obtain ⟨y36, hy37, h_24⟩ := h_23
  refine fw_deref hy37 ?_
  refine fw_iconst (v := (4 : Int32)) (show decode _ _ = .ok (.iconst 4, 1) by decide +kernel) (by decide) ?_
  obtain ⟨⟨n38, hs39, hi40⟩, h_25⟩ := h_24
  refine fw_iald (show decode _ _ = .ok (.iaload, 1) by decide +kernel) hs39 hi40 ?_
  refine fw_callSN (mt' := mtX10_put) (mc := 0) (ms := 0) (As := [.ref y34, .int (x4 + (3 : Int32)), .int (mI M30 y36 (ix (4 : Int32)))]) (rest := []) 3 "OneStepMore" (show decode _ _ = .ok (.invokestatic 82, 3) by decide +kernel) ns_X5_82 rfl (Nat.le_of_ble_eq_true rfl) (s_X10_put (d := d) (hd_le hd (by decide)) h_25) (by decide) (by decide) (kV (bc' := 0) (bs' := 0) (by decide) (by decide) (fun M41 h_26 => ?_))
  refine fw_aload_n (i := 0) 1 rfl (show decode _ _ = .ok (.aload_n 0, 1) by decide +kernel) ?_
  obtain ⟨⟨hr43, n42, hs44⟩, h_27⟩ := h_26
  refine fw_getP (kd := 5) (k := 8) (show decode _ _ = .ok (.getfield 34, 3) by decide +kernel) gf_X5_34 hr43 hs44 rfl ?_
  have h_28 := dR_e h_27
  obtain ⟨y45, hy46, h_29⟩ := h_28
  refine fw_deref hy46 ?_
  refine fw_iload_n (i := 2) 0 rfl (show decode _ _ = .ok (.iload_n 2, 1) by decide +kernel) ?_
  refine fw_iconst (v := (4 : Int32)) (show decode _ _ = .ok (.iconst 4, 1) by decide +kernel) (by decide) ?_
  refine fw_iadd (show decode _ _ = .ok (.iadd, 1) by decide +kernel) ?_
  refine fw_aload_n (i := 0) 1 rfl (show decode _ _ = .ok (.aload_n 0, 1) by decide +kernel) ?_
  refine fw_getP (kd := 5) (k := 7) (show decode _ _ = .ok (.getfield 31, 3) by decide +kernel) gf_X5_31 hr43 hs44 rfl ?_
  have h_30 := dR_e h_29
  obtain ⟨y47, hy48, h_31⟩ := h_30
  refine fw_deref hy48 ?_
  refine fw_iconst (v := (5 : Int32)) (show decode _ _ = .ok (.iconst 5, 1) by decide +kernel) (by decide) ?_
  obtain ⟨⟨n49, hs50, hi51⟩, h_32⟩ := h_31
  refine fw_iald (show decode _ _ = .ok (.iaload, 1) by decide +kernel) hs50 hi51 ?_
  refine fw_callSN (mt' := mtX10_put) (mc := 0) (ms := 0) (As := [.ref y45, .int (x4 + (4 : Int32)), .int (mI M41 y47 (ix (5 : Int32)))]) (rest := []) 3 "OneStepMore" (show decode _ _ = .ok (.invokestatic 82, 3) by decide +kernel) ns_X5_82 rfl (Nat.le_of_ble_eq_true rfl) (s_X10_put (d := d) (hd_le hd (by decide)) h_32) (by decide) (by decide) (kV (bc' := 0) (bs' := 0) (by decide) (by decide) (fun M52 h_33 => ?_))
  refine fw_aload_n (i := 0) 1 rfl (show decode _ _ = .ok (.aload_n 0, 1) by decide +kernel) ?_
  obtain ⟨⟨hr54, n53, hs55⟩, h_34⟩ := h_33
  refine fw_getP (kd := 5) (k := 8) (show decode _ _ = .ok (.getfield 34, 3) by decide +kernel) gf_X5_34 hr54 hs55 rfl ?_
  have h_35 := dR_e h_34
  obtain ⟨y56, hy57, h_36⟩ := h_35
  refine fw_deref hy57 ?_
  refine fw_iload_n (i := 2) 0 rfl (show decode _ _ = .ok (.iload_n 2, 1) by decide +kernel) ?_
  refine fw_iconst (v := (5 : Int32)) (show decode _ _ = .ok (.iconst 5, 1) by decide +kernel) (by decide) ?_
  refine fw_iadd (show decode _ _ = .ok (.iadd, 1) by decide +kernel) ?_
  refine fw_aload_n (i := 0) 1 rfl (show decode _ _ = .ok (.aload_n 0, 1) by decide +kernel) ?_
  refine fw_getP (kd := 5) (k := 7) (show decode _ _ = .ok (.getfield 31, 3) by decide +kernel) gf_X5_31 hr54 hs55 rfl ?_
  have h_37 := dR_e h_36
  obtain ⟨y58, hy59, h_38⟩ := h_37
  refine fw_deref hy59 ?_
  refine fw_bipush (v := (6 : Int32)) (show decode _ _ = .ok (.bipush 6, 2) by decide +kernel) (by decide) ?_
  obtain ⟨⟨n60, hs61, hi62⟩, h_39⟩ := h_38
  refine fw_iald (show decode _ _ = .ok (.iaload, 1) by decide +kernel) hs61 hi62 ?_
  refine fw_callSN (mt' := mtX10_put) (mc := 0) (ms := 0) (As := [.ref y56, .int (x4 + (5 : Int32)), .int (mI M52 y58 (ix (6 : Int32)))]) (rest := []) 3 "OneStepMore" (show decode _ _ = .ok (.invokestatic 82, 3) by decide +kernel) ns_X5_82 rfl (Nat.le_of_ble_eq_true rfl) (s_X10_put (d := d) (hd_le hd (by decide)) h_39) (by decide) (by decide) (kV (bc' := 0) (bs' := 0) (by decide) (by decide) (fun M63 h_40 => ?_))
  refine fw_aload_n (i := 0) 1 rfl (show decode _ _ = .ok (.aload_n 0, 1) by decide +kernel) ?_
  obtain ⟨⟨hr65, n64, hs66⟩, h_41⟩ := h_40
  refine fw_getP (kd := 5) (k := 8) (show decode _ _ = .ok (.getfield 34, 3) by decide +kernel) gf_X5_34 hr65 hs66 rfl ?_
  have h_42 := dR_e h_41
  obtain ⟨y67, hy68, h_43⟩ := h_42
  refine fw_deref hy68 ?_
  refine fw_iload_n (i := 2) 0 rfl (show decode _ _ = .ok (.iload_n 2, 1) by decide +kernel) ?_
  refine fw_bipush (v := (6 : Int32)) (show decode _ _ = .ok (.bipush 6, 2) by decide +kernel) (by decide) ?_
  refine fw_iadd (show decode _ _ = .ok (.iadd, 1) by decide +kernel) ?_
  refine fw_iload_n (i := 1) 2 rfl (show decode _ _ = .ok (.iload_n 1, 1) by decide +kernel) ?_
  refine fw_callSN (mt' := mtX10_put) (mc := 0) (ms := 0) (As := [.ref y67, .int (x4 + (6 : Int32)), .int p1]) (rest := []) 3 "OneStepMore" (show decode _ _ = .ok (.invokestatic 82, 3) by decide +kernel) ns_X5_82 rfl (Nat.le_of_ble_eq_true rfl) (s_X10_put (d := d) (hd_le hd (by decide)) h_43) (by decide) (by decide) (kV (bc' := 0) (bs' := 0) (by decide) (by decide) (fun M69 h_44 => ?_))
  refine fw_aload_n (i := 0) 1 rfl (show decode _ _ = .ok (.aload_n 0, 1) by decide +kernel) ?_
  obtain ⟨⟨hr71, n70, hs72⟩, h_45⟩ := h_44
  refine fw_getP (kd := 5) (k := 8) (show decode _ _ = .ok (.getfield 34, 3) by decide +kernel) gf_X5_34 hr71 hs72 rfl ?_
  have h_46 := dR_e h_45
  obtain ⟨y73, hy74, h_47⟩ := h_46
  refine fw_deref hy74 ?_
  refine fw_iload_n (i := 2) 0 rfl (show decode _ _ = .ok (.iload_n 2, 1) by decide +kernel) ?_
  refine fw_bipush (v := (7 : Int32)) (show decode _ _ = .ok (.bipush 7, 2) by decide +kernel) (by decide) ?_
  refine fw_iadd (show decode _ _ = .ok (.iadd, 1) by decide +kernel) ?_
  refine fw_aload_n (i := 0) 1 rfl (show decode _ _ = .ok (.aload_n 0, 1) by decide +kernel) ?_
  refine fw_getP (kd := 5) (k := 7) (show decode _ _ = .ok (.getfield 31, 3) by decide +kernel) gf_X5_31 hr71 hs72 rfl ?_
  have h_48 := dR_e h_47
  obtain ⟨y75, hy76, h_49⟩ := h_48
  refine fw_deref hy76 ?_
  refine fw_bipush (v := (7 : Int32)) (show decode _ _ = .ok (.bipush 7, 2) by decide +kernel) (by decide) ?_
  obtain ⟨⟨n77, hs78, hi79⟩, h_50⟩ := h_49
  refine fw_iald (show decode _ _ = .ok (.iaload, 1) by decide +kernel) hs78 hi79 ?_
  refine fw_callSN (mt' := mtX10_put) (mc := 0) (ms := 0) (As := [.ref y73, .int (x4 + (7 : Int32)), .int (mI M69 y75 (ix (7 : Int32)))]) (rest := []) 3 "OneStepMore" (show decode _ _ = .ok (.invokestatic 82, 3) by decide +kernel) ns_X5_82 rfl (Nat.le_of_ble_eq_true rfl) (s_X10_put (d := d) (hd_le hd (by decide)) h_50) (by decide) (by decide) (kV (bc' := 0) (bs' := 0) (by decide) (by decide) (fun M80 h_51 => ?_))
  refine fw_aload_n (i := 0) 1 rfl (show decode _ _ = .ok (.aload_n 0, 1) by decide +kernel) ?_
  refine fw_dup (show decode _ _ = .ok (.dup, 1) by decide +kernel) rfl ?_
  obtain ⟨⟨hr82, n81, hs83⟩, h_52⟩ := h_51
  refine fw_getI (kd := 5) (k := 9) (show decode _ _ = .ok (.getfield 112, 3) by decide +kernel) gf_X5_112 hr82 hs83 (Or.inl rfl) ?_
  refine fw_iconst (v := (1 : Int32)) (show decode _ _ = .ok (.iconst 1, 1) by decide +kernel) (by decide) ?_
  refine fw_iadd (show decode _ _ = .ok (.iadd, 1) by decide +kernel) ?_
  refine fw_nmI (fun x84 ex85 => ?_)
  have h_53 := h_52 x84 ex85
  refine fw_putI (kd := 5) (k := 9) (show decode _ _ = .ok (.putfield 112, 3) by decide +kernel) ⟨gf_X5_112, _, rfl, Or.inl rfl⟩ hr82 hs83 rfl ?_
  refine FW.nmM (fun M86 eM87 => ?_)
  have h_54 := h_53 M86 eM87
  exact fw_ret (v := none) .return_ (show decode _ _ = .ok (.return_, 1) by decide +kernel) ⟨rfl, rfl⟩ ⟨rfl, h_54⟩
def w_X9_down (p0 : Nat) (p1 : Int32) (M : fM) (φ : fM → Prop) : Prop := isO M p0 9 ∧ dR (mP M p0 0) fun y4 => isO M y4 5 ∧ w_X5_writeDown y4 p1 M fun M6 => isO M6 p0 9 ∧ dR (mP M6 p0 0) fun y13 => isO M6 y13 5 ∧ dR (mP M6 y13 7) fun y18 => 6 ≤ y18 ∧ inA M6 y18 12 (0 : Int32) ∧ st (wI M6 y18 (ix (0 : Int32)) (-1 : Int32)) fun M24 => φ M24
set_option maxRecDepth 100000 in
theorem s_X9_down {g : GT} {d : Nat} (hd : 3 ≤ d) {p0 : Nat} {p1 : Int32} {M : fM} {φ : fM → Prop} (h : w_X9_down p0 p1 M φ) : FC g mtX9_down d [.ref p0, .int p1] M 0 0 (rV φ) := by
  obtain ⟨d, rfl⟩ : ∃ e, d = e + 1 := ⟨d - 1, by omega⟩
  unfold w_X9_down at h
  refine FC.intro (nL := 2) (by decide) rfl (Nat.le_of_ble_eq_true rfl) ?_
  show FW g mtX9_down (d + 1) 0 [(0, .ref p0), (1, .int p1)] [] M 0 0 (rV φ)
  refine fw_aload_n (i := 0) 0 rfl (show decode _ _ = .ok (.aload_n 0, 1) by decide +kernel) ?_
  obtain ⟨⟨hr2, n1, hs3⟩, h_1⟩ := h
  refine fw_getP (kd := 9) (k := 0) (show decode _ _ = .ok (.getfield 9, 3) by decide +kernel) gf_X9_9 hr2 hs3 rfl ?_
  have h_2 := dR_e h_1
  obtain ⟨y4, hy5, h_3⟩ := h_2
  refine fw_deref hy5 ?_
  refine fw_iload_n (i := 1) 1 rfl (show decode _ _ = .ok (.iload_n 1, 1) by decide +kernel) ?_
  obtain ⟨⟨hr8, n7, hs9⟩, h_4⟩ := h_3
  refine fw_callV (mt' := mtX5_writeDown) (mc := 0) (ms := 0) (As := [.int p1]) (rest := []) 1 5 n7 (show decode _ _ = .ok (.invokevirtual 183, 3) by decide +kernel) cv_X9_183 ⟨_, rfl, rfl⟩ hr8 hs9 rfl (Nat.le_of_ble_eq_true rfl) (s_X5_writeDown (d := d) (hd_le hd (by decide)) h_4) (by decide) (by decide) (kV (bc' := 0) (bs' := 0) (by decide) (by decide) (fun M6 h_5 => ?_))
  refine fw_aload_n (i := 0) 0 rfl (show decode _ _ = .ok (.aload_n 0, 1) by decide +kernel) ?_
  obtain ⟨⟨hr11, n10, hs12⟩, h_6⟩ := h_5
  refine fw_getP (kd := 9) (k := 0) (show decode _ _ = .ok (.getfield 9, 3) by decide +kernel) gf_X9_9 hr11 hs12 rfl ?_
  have h_7 := dR_e h_6
  obtain ⟨y13, hy14, h_8⟩ := h_7
  refine fw_deref hy14 ?_
  obtain ⟨⟨hr16, n15, hs17⟩, h_9⟩ := h_8
  refine fw_getP (kd := 5) (k := 7) (show decode _ _ = .ok (.getfield 36, 3) by decide +kernel) gf_X9_36 hr16 hs17 rfl ?_
  have h_10 := dR_e h_9
  obtain ⟨y18, hy19, h_11⟩ := h_10
  refine fw_deref hy19 ?_
  refine fw_iconst (v := (0 : Int32)) (show decode _ _ = .ok (.iconst 0, 1) by decide +kernel) (by decide) ?_
  refine fw_iconst (v := (-1 : Int32)) (show decode _ _ = .ok (.iconst (-1), 1) by decide +kernel) (by decide) ?_
  obtain ⟨hr23, ⟨n20, hs21, hi22⟩, h_12⟩ := h_11
  refine fw_iast (show decode _ _ = .ok (.iastore, 1) by decide +kernel) hr23 hs21 hi22 ?_
  refine FW.nmM (fun M24 eM25 => ?_)
  have h_13 := h_12 M24 eM25
  exact fw_ret (v := none) .return_ (show decode _ _ = .ok (.return_, 1) by decide +kernel) ⟨rfl, rfl⟩ ⟨rfl, h_13⟩
