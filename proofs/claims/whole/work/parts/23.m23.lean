def w_X11_about (p0 : Nat) (p1 : Int32) (M : fM) (φ : Int32 → fM → Prop) : Prop := isO M p0 11 ∧ dR (mP M p0 0) fun y4 => inA M y4 12 (0 : Int32) ∧ w_X11_isIn p1 (10 : Int32) ((9 : Int32) + (mI M y4 (ix (0 : Int32)))) M fun x10 M9 => iF (x10 = 0) (isO M9 p0 11 ∧ dR (mP M9 p0 0) fun y14 => inA M9 y14 12 (0 : Int32) ∧ w_X11_isIn p1 (20 : Int32) ((19 : Int32) + (mI M9 y14 (ix (0 : Int32)))) M9 fun x20 M19 => iF (x20 = 0) (isO M19 p0 11 ∧ dR (mP M19 p0 0) fun y24 => inA M19 y24 12 (0 : Int32) ∧ w_X11_isIn p1 (30 : Int32) ((29 : Int32) + (mI M19 y24 (ix (0 : Int32)))) M19 fun x30 M29 => iF (x30 = 0) (w_X11_isIn p1 (0 : Int32) (7 : Int32) M29 fun x32 M31 => iF (x32 = 0) (iF (p1 = (8 : Int32)) (isO M31 p0 11 ∧ φ (mI M31 p0 4) M31) (φ (-2 : Int32) M31)) (isO M31 p0 11 ∧ dR (mP M31 p0 0) fun y40 => inA M31 y40 12 p1 ∧ φ (mI M31 y40 (ix p1)) M31)) (isO M29 p0 11 ∧ dR (mP M29 p0 0) fun y49 => inA M29 y49 12 (((82 : Int32) + ((3 : Int32) * (p1 - (30 : Int32)))) + (2 : Int32)) ∧ φ (mI M29 y49 (ix (((82 : Int32) + ((3 : Int32) * (p1 - (30 : Int32)))) + (2 : Int32)))) M29)) (isO M19 p0 11 ∧ dR (mP M19 p0 0) fun y58 => inA M19 y58 12 (((82 : Int32) + ((3 : Int32) * (p1 - (20 : Int32)))) + (1 : Int32)) ∧ φ (mI M19 y58 (ix (((82 : Int32) + ((3 : Int32) * (p1 - (20 : Int32)))) + (1 : Int32)))) M19)) (isO M9 p0 11 ∧ dR (mP M9 p0 0) fun y67 => inA M9 y67 12 ((82 : Int32) + ((3 : Int32) * (p1 - (10 : Int32)))) ∧ φ (mI M9 y67 (ix ((82 : Int32) + ((3 : Int32) * (p1 - (10 : Int32)))))) M9)
set_option maxRecDepth 100000 in
theorem s_X11_about {g : GT} {d : Nat} (hd : 2 ≤ d) {p0 : Nat} {p1 : Int32} {M : fM} {φ : Int32 → fM → Prop} (h : w_X11_about p0 p1 M φ) : FC g mtX11_about d [.ref p0, .int p1] M 0 0 (rI φ) := by
  obtain ⟨d, rfl⟩ : ∃ e, d = e + 1 := ⟨d - 1, by omega⟩
  unfold w_X11_about at h
  refine FC.intro (nL := 2) (by decide) rfl (Nat.le_of_ble_eq_true rfl) ?_
  show FW g mtX11_about (d + 1) 0 [(0, .ref p0), (1, .int p1)] [] M 0 0 (rI φ)
  refine fw_iload_n (i := 1) 1 rfl (show decode _ _ = .ok (.iload_n 1, 1) by decide +kernel) ?_
  refine fw_bipush (v := (10 : Int32)) (show decode _ _ = .ok (.bipush 10, 2) by decide +kernel) (by decide) ?_
  refine fw_bipush (v := (9 : Int32)) (show decode _ _ = .ok (.bipush 9, 2) by decide +kernel) (by decide) ?_
  refine fw_aload_n (i := 0) 0 rfl (show decode _ _ = .ok (.aload_n 0, 1) by decide +kernel) ?_
  obtain ⟨⟨hr2, n1, hs3⟩, h_1⟩ := h
  refine fw_getP (kd := 11) (k := 0) (show decode _ _ = .ok (.getfield 7, 3) by decide +kernel) gf_X11_7 hr2 hs3 rfl ?_
  have h_2 := dR_e h_1
  obtain ⟨y4, hy5, h_3⟩ := h_2
  refine fw_deref hy5 ?_
  refine fw_iconst (v := (0 : Int32)) (show decode _ _ = .ok (.iconst 0, 1) by decide +kernel) (by decide) ?_
  obtain ⟨⟨n6, hs7, hi8⟩, h_4⟩ := h_3
  refine fw_iald (show decode _ _ = .ok (.iaload, 1) by decide +kernel) hs7 hi8 ?_
  refine fw_iadd (show decode _ _ = .ok (.iadd, 1) by decide +kernel) ?_
  refine fw_callS (mt' := mtX11_isIn) (mc := 0) (ms := 0) (As := [.int p1, .int (10 : Int32), .int ((9 : Int32) + (mI M y4 (ix (0 : Int32))))]) (rest := []) 3 (show decode _ _ = .ok (.invokestatic 66, 3) by decide +kernel) cs_X11_66 rfl (Nat.le_of_ble_eq_true rfl) (s_X11_isIn (d := d) (hd_le hd (by decide)) h_4) (by decide) (by decide) (kI (bc' := 0) (bs' := 0) (by decide) (by decide) (fun x10 M9 h_5 => ?_))
  refine fw_if_eq 33 (show decode _ _ = .ok (.ifCond .eq 18, 3) by decide +kernel) (by decide) (fun hc72 => ?_) (fun hc72 => ?_)
  · have h_6 := ipos hc72 h_5
    refine fw_iload_n (i := 1) 1 rfl (show decode _ _ = .ok (.iload_n 1, 1) by decide +kernel) ?_
    refine fw_bipush (v := (20 : Int32)) (show decode _ _ = .ok (.bipush 20, 2) by decide +kernel) (by decide) ?_
    refine fw_bipush (v := (19 : Int32)) (show decode _ _ = .ok (.bipush 19, 2) by decide +kernel) (by decide) ?_
    refine fw_aload_n (i := 0) 0 rfl (show decode _ _ = .ok (.aload_n 0, 1) by decide +kernel) ?_
    obtain ⟨⟨hr12, n11, hs13⟩, h_7⟩ := h_6
    refine fw_getP (kd := 11) (k := 0) (show decode _ _ = .ok (.getfield 7, 3) by decide +kernel) gf_X11_7 hr12 hs13 rfl ?_
    have h_8 := dR_e h_7
    obtain ⟨y14, hy15, h_9⟩ := h_8
    refine fw_deref hy15 ?_
    refine fw_iconst (v := (0 : Int32)) (show decode _ _ = .ok (.iconst 0, 1) by decide +kernel) (by decide) ?_
    obtain ⟨⟨n16, hs17, hi18⟩, h_10⟩ := h_9
    refine fw_iald (show decode _ _ = .ok (.iaload, 1) by decide +kernel) hs17 hi18 ?_
    refine fw_iadd (show decode _ _ = .ok (.iadd, 1) by decide +kernel) ?_
    refine fw_callS (mt' := mtX11_isIn) (mc := 0) (ms := 0) (As := [.int p1, .int (20 : Int32), .int ((19 : Int32) + (mI M9 y14 (ix (0 : Int32))))]) (rest := []) 3 (show decode _ _ = .ok (.invokestatic 66, 3) by decide +kernel) cs_X11_66 rfl (Nat.le_of_ble_eq_true rfl) (s_X11_isIn (d := d) (hd_le hd (by decide)) h_10) (by decide) (by decide) (kI (bc' := 0) (bs' := 0) (by decide) (by decide) (fun x20 M19 h_11 => ?_))
    refine fw_if_eq 68 (show decode _ _ = .ok (.ifCond .eq 20, 3) by decide +kernel) (by decide) (fun hc63 => ?_) (fun hc63 => ?_)
    · have h_12 := ipos hc63 h_11
      refine fw_iload_n (i := 1) 1 rfl (show decode _ _ = .ok (.iload_n 1, 1) by decide +kernel) ?_
      refine fw_bipush (v := (30 : Int32)) (show decode _ _ = .ok (.bipush 30, 2) by decide +kernel) (by decide) ?_
      refine fw_bipush (v := (29 : Int32)) (show decode _ _ = .ok (.bipush 29, 2) by decide +kernel) (by decide) ?_
      refine fw_aload_n (i := 0) 0 rfl (show decode _ _ = .ok (.aload_n 0, 1) by decide +kernel) ?_
      obtain ⟨⟨hr22, n21, hs23⟩, h_13⟩ := h_12
      refine fw_getP (kd := 11) (k := 0) (show decode _ _ = .ok (.getfield 7, 3) by decide +kernel) gf_X11_7 hr22 hs23 rfl ?_
      have h_14 := dR_e h_13
      obtain ⟨y24, hy25, h_15⟩ := h_14
      refine fw_deref hy25 ?_
      refine fw_iconst (v := (0 : Int32)) (show decode _ _ = .ok (.iconst 0, 1) by decide +kernel) (by decide) ?_
      obtain ⟨⟨n26, hs27, hi28⟩, h_16⟩ := h_15
      refine fw_iald (show decode _ _ = .ok (.iaload, 1) by decide +kernel) hs27 hi28 ?_
      refine fw_iadd (show decode _ _ = .ok (.iadd, 1) by decide +kernel) ?_
      refine fw_callS (mt' := mtX11_isIn) (mc := 0) (ms := 0) (As := [.int p1, .int (30 : Int32), .int ((29 : Int32) + (mI M19 y24 (ix (0 : Int32))))]) (rest := []) 3 (show decode _ _ = .ok (.invokestatic 66, 3) by decide +kernel) cs_X11_66 rfl (Nat.le_of_ble_eq_true rfl) (s_X11_isIn (d := d) (hd_le hd (by decide)) h_16) (by decide) (by decide) (kI (bc' := 0) (bs' := 0) (by decide) (by decide) (fun x30 M29 h_17 => ?_))
      refine fw_if_eq 103 (show decode _ _ = .ok (.ifCond .eq 20, 3) by decide +kernel) (by decide) (fun hc54 => ?_) (fun hc54 => ?_)
      · have h_18 := ipos hc54 h_17
        refine fw_iload_n (i := 1) 1 rfl (show decode _ _ = .ok (.iload_n 1, 1) by decide +kernel) ?_
        refine fw_iconst (v := (0 : Int32)) (show decode _ _ = .ok (.iconst 0, 1) by decide +kernel) (by decide) ?_
        refine fw_bipush (v := (7 : Int32)) (show decode _ _ = .ok (.bipush 7, 2) by decide +kernel) (by decide) ?_
        refine fw_callS (mt' := mtX11_isIn) (mc := 0) (ms := 0) (As := [.int p1, .int (0 : Int32), .int (7 : Int32)]) (rest := []) 3 (show decode _ _ = .ok (.invokestatic 66, 3) by decide +kernel) cs_X11_66 rfl (Nat.le_of_ble_eq_true rfl) (s_X11_isIn (d := d) (hd_le hd (by decide)) h_18) (by decide) (by decide) (kI (bc' := 0) (bs' := 0) (by decide) (by decide) (fun x32 M31 h_19 => ?_))
        refine fw_if_eq 122 (show decode _ _ = .ok (.ifCond .eq 12, 3) by decide +kernel) (by decide) (fun hc45 => ?_) (fun hc45 => ?_)
        · have h_20 := ipos hc45 h_19
          refine fw_iload_n (i := 1) 1 rfl (show decode _ _ = .ok (.iload_n 1, 1) by decide +kernel) ?_
          refine fw_bipush (v := (8 : Int32)) (show decode _ _ = .ok (.bipush 8, 2) by decide +kernel) (by decide) ?_
          refine fw_icmp_ne 135 (show decode _ _ = .ok (.if_icmp .ne 10, 3) by decide +kernel) (by decide) (fun hc36 => ?_) (fun hc36 => ?_)
          · have h_21 := ineg hc36 h_20
            refine fw_bipush (v := (-2 : Int32)) (show decode _ _ = .ok (.bipush (-2), 2) by decide +kernel) (by decide) ?_
            exact fw_ret (v := some (.int (-2 : Int32))) .ireturn (show decode _ _ = .ok (.ireturn, 1) by decide +kernel) ⟨rfl, Or.inl rfl⟩ ⟨_, rfl, h_21⟩
          · have h_22 := ipos hc36 h_20
            refine fw_aload_n (i := 0) 0 rfl (show decode _ _ = .ok (.aload_n 0, 1) by decide +kernel) ?_
            obtain ⟨⟨hr34, n33, hs35⟩, h_23⟩ := h_22
            refine fw_getI (kd := 11) (k := 4) (show decode _ _ = .ok (.getfield 91, 3) by decide +kernel) gf_X11_91 hr34 hs35 (Or.inl rfl) ?_
            refine fw_goto 137 (show decode _ _ = .ok (.goto 5, 3) by decide +kernel) (by decide) ?_
            exact fw_ret (v := some (.int (mI M31 p0 4))) .ireturn (show decode _ _ = .ok (.ireturn, 1) by decide +kernel) ⟨rfl, Or.inl rfl⟩ ⟨_, rfl, h_23⟩
        · have h_24 := ineg hc45 h_19
          refine fw_aload_n (i := 0) 0 rfl (show decode _ _ = .ok (.aload_n 0, 1) by decide +kernel) ?_
          obtain ⟨⟨hr38, n37, hs39⟩, h_25⟩ := h_24
          refine fw_getP (kd := 11) (k := 0) (show decode _ _ = .ok (.getfield 7, 3) by decide +kernel) gf_X11_7 hr38 hs39 rfl ?_
          have h_26 := dR_e h_25
          obtain ⟨y40, hy41, h_27⟩ := h_26
          refine fw_deref hy41 ?_
          refine fw_iload_n (i := 1) 1 rfl (show decode _ _ = .ok (.iload_n 1, 1) by decide +kernel) ?_
          obtain ⟨⟨n42, hs43, hi44⟩, h_28⟩ := h_27
          refine fw_iald (show decode _ _ = .ok (.iaload, 1) by decide +kernel) hs43 hi44 ?_
          refine fw_goto 137 (show decode _ _ = .ok (.goto 18, 3) by decide +kernel) (by decide) ?_
          exact fw_ret (v := some (.int (mI M31 y40 (ix p1)))) .ireturn (show decode _ _ = .ok (.ireturn, 1) by decide +kernel) ⟨rfl, Or.inl rfl⟩ ⟨_, rfl, h_28⟩
      · have h_29 := ineg hc54 h_17
        refine fw_aload_n (i := 0) 0 rfl (show decode _ _ = .ok (.aload_n 0, 1) by decide +kernel) ?_
        obtain ⟨⟨hr47, n46, hs48⟩, h_30⟩ := h_29
        refine fw_getP (kd := 11) (k := 0) (show decode _ _ = .ok (.getfield 7, 3) by decide +kernel) gf_X11_7 hr47 hs48 rfl ?_
        have h_31 := dR_e h_30
        obtain ⟨y49, hy50, h_32⟩ := h_31
        refine fw_deref hy50 ?_
        refine fw_bipush (v := (82 : Int32)) (show decode _ _ = .ok (.bipush 82, 2) by decide +kernel) (by decide) ?_
        refine fw_iconst (v := (3 : Int32)) (show decode _ _ = .ok (.iconst 3, 1) by decide +kernel) (by decide) ?_
        refine fw_iload_n (i := 1) 1 rfl (show decode _ _ = .ok (.iload_n 1, 1) by decide +kernel) ?_
        refine fw_bipush (v := (30 : Int32)) (show decode _ _ = .ok (.bipush 30, 2) by decide +kernel) (by decide) ?_
        refine fw_isub (show decode _ _ = .ok (.isub, 1) by decide +kernel) ?_
        refine fw_imul (show decode _ _ = .ok (.imul, 1) by decide +kernel) ?_
        refine fw_iadd (show decode _ _ = .ok (.iadd, 1) by decide +kernel) ?_
        refine fw_iconst (v := (2 : Int32)) (show decode _ _ = .ok (.iconst 2, 1) by decide +kernel) (by decide) ?_
        refine fw_iadd (show decode _ _ = .ok (.iadd, 1) by decide +kernel) ?_
        obtain ⟨⟨n51, hs52, hi53⟩, h_33⟩ := h_32
        refine fw_iald (show decode _ _ = .ok (.iaload, 1) by decide +kernel) hs52 hi53 ?_
        exact fw_ret (v := some (.int (mI M29 y49 (ix (((82 : Int32) + ((3 : Int32) * (p1 - (30 : Int32)))) + (2 : Int32)))))) .ireturn (show decode _ _ = .ok (.ireturn, 1) by decide +kernel) ⟨rfl, Or.inl rfl⟩ ⟨_, rfl, h_33⟩
    · have h_34 := ineg hc63 h_11
      refine fw_aload_n (i := 0) 0 rfl (show decode _ _ = .ok (.aload_n 0, 1) by decide +kernel) ?_
      obtain ⟨⟨hr56, n55, hs57⟩, h_35⟩ := h_34
      refine fw_getP (kd := 11) (k := 0) (show decode _ _ = .ok (.getfield 7, 3) by decide +kernel) gf_X11_7 hr56 hs57 rfl ?_
      have h_36 := dR_e h_35
      obtain ⟨y58, hy59, h_37⟩ := h_36
      refine fw_deref hy59 ?_
      refine fw_bipush (v := (82 : Int32)) (show decode _ _ = .ok (.bipush 82, 2) by decide +kernel) (by decide) ?_
      refine fw_iconst (v := (3 : Int32)) (show decode _ _ = .ok (.iconst 3, 1) by decide +kernel) (by decide) ?_
      refine fw_iload_n (i := 1) 1 rfl (show decode _ _ = .ok (.iload_n 1, 1) by decide +kernel) ?_
      refine fw_bipush (v := (20 : Int32)) (show decode _ _ = .ok (.bipush 20, 2) by decide +kernel) (by decide) ?_
      refine fw_isub (show decode _ _ = .ok (.isub, 1) by decide +kernel) ?_
      refine fw_imul (show decode _ _ = .ok (.imul, 1) by decide +kernel) ?_
      refine fw_iadd (show decode _ _ = .ok (.iadd, 1) by decide +kernel) ?_
      refine fw_iconst (v := (1 : Int32)) (show decode _ _ = .ok (.iconst 1, 1) by decide +kernel) (by decide) ?_
      refine fw_iadd (show decode _ _ = .ok (.iadd, 1) by decide +kernel) ?_
      obtain ⟨⟨n60, hs61, hi62⟩, h_38⟩ := h_37
      refine fw_iald (show decode _ _ = .ok (.iaload, 1) by decide +kernel) hs61 hi62 ?_
      exact fw_ret (v := some (.int (mI M19 y58 (ix (((82 : Int32) + ((3 : Int32) * (p1 - (20 : Int32)))) + (1 : Int32)))))) .ireturn (show decode _ _ = .ok (.ireturn, 1) by decide +kernel) ⟨rfl, Or.inl rfl⟩ ⟨_, rfl, h_38⟩
  · have h_39 := ineg hc72 h_5
    refine fw_aload_n (i := 0) 0 rfl (show decode _ _ = .ok (.aload_n 0, 1) by decide +kernel) ?_
    obtain ⟨⟨hr65, n64, hs66⟩, h_40⟩ := h_39
    refine fw_getP (kd := 11) (k := 0) (show decode _ _ = .ok (.getfield 7, 3) by decide +kernel) gf_X11_7 hr65 hs66 rfl ?_
    have h_41 := dR_e h_40
    obtain ⟨y67, hy68, h_42⟩ := h_41
    refine fw_deref hy68 ?_
    refine fw_bipush (v := (82 : Int32)) (show decode _ _ = .ok (.bipush 82, 2) by decide +kernel) (by decide) ?_
    refine fw_iconst (v := (3 : Int32)) (show decode _ _ = .ok (.iconst 3, 1) by decide +kernel) (by decide) ?_
    refine fw_iload_n (i := 1) 1 rfl (show decode _ _ = .ok (.iload_n 1, 1) by decide +kernel) ?_
    refine fw_bipush (v := (10 : Int32)) (show decode _ _ = .ok (.bipush 10, 2) by decide +kernel) (by decide) ?_
    refine fw_isub (show decode _ _ = .ok (.isub, 1) by decide +kernel) ?_
    refine fw_imul (show decode _ _ = .ok (.imul, 1) by decide +kernel) ?_
    refine fw_iadd (show decode _ _ = .ok (.iadd, 1) by decide +kernel) ?_
    obtain ⟨⟨n69, hs70, hi71⟩, h_43⟩ := h_42
    refine fw_iald (show decode _ _ = .ok (.iaload, 1) by decide +kernel) hs70 hi71 ?_
    exact fw_ret (v := some (.int (mI M9 y67 (ix ((82 : Int32) + ((3 : Int32) * (p1 - (10 : Int32)))))))) .ireturn (show decode _ _ = .ok (.ireturn, 1) by decide +kernel) ⟨rfl, Or.inl rfl⟩ ⟨_, rfl, h_43⟩
def w_X11_isHouse (p0 : Int32) (M : fM) (φ : Int32 → fM → Prop) : Prop := w_X11_isIn p0 (0 : Int32) (3 : Int32) M fun x2 M1 => isB x2 ∧ φ x2 M1
set_option maxRecDepth 100000 in
theorem s_X11_isHouse {g : GT} {d : Nat} (hd : 2 ≤ d) {p0 : Int32} {M : fM} {φ : Int32 → fM → Prop} (h : w_X11_isHouse p0 M φ) : FC g mtX11_isHouse d [.int p0] M 0 0 (rI φ) := by
  obtain ⟨d, rfl⟩ : ∃ e, d = e + 1 := ⟨d - 1, by omega⟩
  unfold w_X11_isHouse at h
  refine FC.intro (nL := 1) (by decide) rfl (Nat.le_of_ble_eq_true rfl) ?_
  show FW g mtX11_isHouse (d + 1) 0 [(0, .int p0)] [] M 0 0 (rI φ)
  refine fw_iload_n (i := 0) 0 rfl (show decode _ _ = .ok (.iload_n 0, 1) by decide +kernel) ?_
  refine fw_iconst (v := (0 : Int32)) (show decode _ _ = .ok (.iconst 0, 1) by decide +kernel) (by decide) ?_
  refine fw_iconst (v := (3 : Int32)) (show decode _ _ = .ok (.iconst 3, 1) by decide +kernel) (by decide) ?_
  refine fw_callS (mt' := mtX11_isIn) (mc := 0) (ms := 0) (As := [.int p0, .int (0 : Int32), .int (3 : Int32)]) (rest := []) 3 (show decode _ _ = .ok (.invokestatic 66, 3) by decide +kernel) cs_X11_66 rfl (Nat.le_of_ble_eq_true rfl) (s_X11_isIn (d := d) (hd_le hd (by decide)) h) (by decide) (by decide) (kI (bc' := 0) (bs' := 0) (by decide) (by decide) (fun x2 M1 h_1 => ?_))
  obtain ⟨hbb, h_2⟩ := h_1
  exact fw_ret (v := some (.int x2)) .ireturn (show decode _ _ = .ok (.ireturn, 1) by decide +kernel) ⟨rfl, Or.inr (Or.inl ⟨rfl, hbb⟩)⟩ ⟨_, rfl, h_2⟩
def w_X11_stepsOf (p0 : Nat) (p1 : Int32) (M : fM) (φ : Int32 → fM → Prop) : Prop := isO M p0 11 ∧ dR (mP M p0 0) fun y4 => inA M y4 12 ((10 : Int32) + ((18 : Int32) * p1)) ∧ φ (mI M y4 (ix ((10 : Int32) + ((18 : Int32) * p1)))) M
set_option maxRecDepth 100000 in
theorem s_X11_stepsOf {g : GT} {d : Nat} (hd : 1 ≤ d) {p0 : Nat} {p1 : Int32} {M : fM} {φ : Int32 → fM → Prop} (h : w_X11_stepsOf p0 p1 M φ) : FC g mtX11_stepsOf d [.ref p0, .int p1] M 0 0 (rI φ) := by
  obtain ⟨d, rfl⟩ : ∃ e, d = e + 1 := ⟨d - 1, by omega⟩
  unfold w_X11_stepsOf at h
  refine FC.intro (nL := 2) (by decide) rfl (Nat.le_of_ble_eq_true rfl) ?_
  show FW g mtX11_stepsOf (d + 1) 0 [(0, .ref p0), (1, .int p1)] [] M 0 0 (rI φ)
  refine fw_aload_n (i := 0) 0 rfl (show decode _ _ = .ok (.aload_n 0, 1) by decide +kernel) ?_
  obtain ⟨⟨hr2, n1, hs3⟩, h_1⟩ := h
  refine fw_getP (kd := 11) (k := 0) (show decode _ _ = .ok (.getfield 7, 3) by decide +kernel) gf_X11_7 hr2 hs3 rfl ?_
  have h_2 := dR_e h_1
  obtain ⟨y4, hy5, h_3⟩ := h_2
  refine fw_deref hy5 ?_
  refine fw_bipush (v := (10 : Int32)) (show decode _ _ = .ok (.bipush 10, 2) by decide +kernel) (by decide) ?_
  refine fw_bipush (v := (18 : Int32)) (show decode _ _ = .ok (.bipush 18, 2) by decide +kernel) (by decide) ?_
  refine fw_iload_n (i := 1) 1 rfl (show decode _ _ = .ok (.iload_n 1, 1) by decide +kernel) ?_
  refine fw_imul (show decode _ _ = .ok (.imul, 1) by decide +kernel) ?_
  refine fw_iadd (show decode _ _ = .ok (.iadd, 1) by decide +kernel) ?_
  obtain ⟨⟨n6, hs7, hi8⟩, h_4⟩ := h_3
  refine fw_iald (show decode _ _ = .ok (.iaload, 1) by decide +kernel) hs7 hi8 ?_
  exact fw_ret (v := some (.int (mI M y4 (ix ((10 : Int32) + ((18 : Int32) * p1)))))) .ireturn (show decode _ _ = .ok (.ireturn, 1) by decide +kernel) ⟨rfl, Or.inl rfl⟩ ⟨_, rfl, h_4⟩
def w_X11_isStep (p0 : Nat) (p1 : Int32) (p2 : Int32) (M : fM) (φ : Int32 → fM → Prop) : Prop := w_X11_isHouse p1 M fun x2 M1 => iF (x2 = 0) (φ (0 : Int32) M1) (isO M1 p0 11 ∧ w_X11_stepsOf p0 p1 M1 fun x7 M3 => w_X11_isIn p2 (1 : Int32) x7 M3 fun x9 M8 => iF (x9 = 0) (φ (0 : Int32) M8) (φ (1 : Int32) M8))
set_option maxRecDepth 100000 in
theorem s_X11_isStep {g : GT} {d : Nat} (hd : 3 ≤ d) {p0 : Nat} {p1 : Int32} {p2 : Int32} {M : fM} {φ : Int32 → fM → Prop} (h : w_X11_isStep p0 p1 p2 M φ) : FC g mtX11_isStep d [.ref p0, .int p1, .int p2] M 0 0 (rI φ) := by
  obtain ⟨d, rfl⟩ : ∃ e, d = e + 1 := ⟨d - 1, by omega⟩
  unfold w_X11_isStep at h
  refine FC.intro (nL := 3) (by decide) rfl (Nat.le_of_ble_eq_true rfl) ?_
  show FW g mtX11_isStep (d + 1) 0 [(0, .ref p0), (1, .int p1), (2, .int p2)] [] M 0 0 (rI φ)
  refine fw_iload_n (i := 1) 1 rfl (show decode _ _ = .ok (.iload_n 1, 1) by decide +kernel) ?_
  refine fw_callS (mt' := mtX11_isHouse) (mc := 0) (ms := 0) (As := [.int p1]) (rest := []) 1 (show decode _ _ = .ok (.invokestatic 70, 3) by decide +kernel) cs_X11_70 rfl (Nat.le_of_ble_eq_true rfl) (s_X11_isHouse (d := d) (hd_le hd (by decide)) h) (by decide) (by decide) (kI (bc' := 0) (bs' := 0) (by decide) (by decide) (fun x2 M1 h_1 => ?_))
  refine fw_if_eq 24 (show decode _ _ = .ok (.ifCond .eq 20, 3) by decide +kernel) (by decide) (fun hc11 => ?_) (fun hc11 => ?_)
  · have h_2 := ipos hc11 h_1
    refine fw_iconst (v := (0 : Int32)) (show decode _ _ = .ok (.iconst 0, 1) by decide +kernel) (by decide) ?_
    exact fw_ret (v := some (.int (0 : Int32))) .ireturn (show decode _ _ = .ok (.ireturn, 1) by decide +kernel) ⟨rfl, Or.inr (Or.inl ⟨rfl, rfl⟩)⟩ ⟨_, rfl, h_2⟩
  · have h_3 := ineg hc11 h_1
    refine fw_iload_n (i := 2) 2 rfl (show decode _ _ = .ok (.iload_n 2, 1) by decide +kernel) ?_
    refine fw_iconst (v := (1 : Int32)) (show decode _ _ = .ok (.iconst 1, 1) by decide +kernel) (by decide) ?_
    refine fw_aload_n (i := 0) 0 rfl (show decode _ _ = .ok (.aload_n 0, 1) by decide +kernel) ?_
    refine fw_iload_n (i := 1) 1 rfl (show decode _ _ = .ok (.iload_n 1, 1) by decide +kernel) ?_
    obtain ⟨⟨hr5, n4, hs6⟩, h_4⟩ := h_3
    refine fw_callV (mt' := mtX11_stepsOf) (mc := 0) (ms := 0) (As := [.int p1]) (rest := [.int (1 : Int32), .int p2]) 1 11 n4 (show decode _ _ = .ok (.invokevirtual 74, 3) by decide +kernel) cv_X11_74 ⟨_, rfl, rfl⟩ hr5 hs6 rfl (Nat.le_of_ble_eq_true rfl) (s_X11_stepsOf (d := d) (hd_le hd (by decide)) h_4) (by decide) (by decide) (kI (bc' := 0) (bs' := 0) (by decide) (by decide) (fun x7 M3 h_5 => ?_))
    refine fw_callS (mt' := mtX11_isIn) (mc := 0) (ms := 0) (As := [.int p2, .int (1 : Int32), .int x7]) (rest := []) 3 (show decode _ _ = .ok (.invokestatic 66, 3) by decide +kernel) cs_X11_66 rfl (Nat.le_of_ble_eq_true rfl) (s_X11_isIn (d := d) (hd_le hd (by decide)) h_5) (by decide) (by decide) (kI (bc' := 0) (bs' := 0) (by decide) (by decide) (fun x9 M8 h_6 => ?_))
    refine fw_if_eq 24 (show decode _ _ = .ok (.ifCond .eq 7, 3) by decide +kernel) (by decide) (fun hc10 => ?_) (fun hc10 => ?_)
    · have h_7 := ipos hc10 h_6
      refine fw_iconst (v := (0 : Int32)) (show decode _ _ = .ok (.iconst 0, 1) by decide +kernel) (by decide) ?_
      exact fw_ret (v := some (.int (0 : Int32))) .ireturn (show decode _ _ = .ok (.ireturn, 1) by decide +kernel) ⟨rfl, Or.inr (Or.inl ⟨rfl, rfl⟩)⟩ ⟨_, rfl, h_7⟩
    · have h_8 := ineg hc10 h_6
      refine fw_iconst (v := (1 : Int32)) (show decode _ _ = .ok (.iconst 1, 1) by decide +kernel) (by decide) ?_
      refine fw_goto 25 (show decode _ _ = .ok (.goto 4, 3) by decide +kernel) (by decide) ?_
      exact fw_ret (v := some (.int (1 : Int32))) .ireturn (show decode _ _ = .ok (.ireturn, 1) by decide +kernel) ⟨rfl, Or.inr (Or.inl ⟨rfl, rfl⟩)⟩ ⟨_, rfl, h_8⟩
def b_X11_clauseOf_2 (K2 : Nat → Int32 → Int32 → Int32 → fM → Prop) (φ : Int32 → fM → Prop) (p0 : Nat) (p1 : Int32) (p2 : Int32) (p3 : Int32) (M : fM) : Prop := iF (p1 < 0) (φ (-1 : Int32) M) (isO M p0 11 ∧ dR (mP M p0 2) fun y4 => inA M y4 12 ((705 : Int32) * p1) ∧ iF ((mI M y4 (ix ((705 : Int32) * p1))) ≤ p3) (φ (-1 : Int32) M) (dR (mP M p0 2) fun y9 => inA M y9 12 ((((705 : Int32) * p1) + (1 : Int32)) + ((4 : Int32) * p3)) ∧ iF ((mI M y9 (ix ((((705 : Int32) * p1) + (1 : Int32)) + ((4 : Int32) * p3)))) = p2) (φ p3 M) (nm (p3 + (1 : Int32)) fun x14 => K2 p0 p1 p2 x14 M)))
def l_X11_clauseOf_2 (φ : Int32 → fM → Prop) : Nat → Nat → Int32 → Int32 → Int32 → fM → Prop
  | 0, _, _, _, _, _ => False
  | n + 1, p0, p1, p2, p3, M => b_X11_clauseOf_2 (l_X11_clauseOf_2 φ n) φ p0 p1 p2 p3 M
set_option maxRecDepth 100000 in
theorem sb_X11_clauseOf_2 {g : GT} {d : Nat} (hd : 1 ≤ d + 1) {K2 : Nat → Int32 → Int32 → Int32 → fM → Prop} {φ : Int32 → fM → Prop} (hK2 : ∀ (p0 : Nat) (p1 : Int32) (p2 : Int32) (p3 : Int32) (M : fM), K2 p0 p1 p2 p3 M → FW g mtX11_clauseOf (d + 1) 2 [(0, .ref p0), (1, .int p1), (2, .int p2), (3, .int p3)] [] M 0 0 (rI φ)) {p0 : Nat} {p1 : Int32} {p2 : Int32} {p3 : Int32} {M : fM} (h : b_X11_clauseOf_2 K2 φ p0 p1 p2 p3 M) : FW g mtX11_clauseOf (d + 1) 2 [(0, .ref p0), (1, .int p1), (2, .int p2), (3, .int p3)] [] M 0 0 (rI φ) := by
  unfold b_X11_clauseOf_2 at h
  refine fw_iload_n (i := 1) 1 rfl (show decode _ _ = .ok (.iload_n 1, 1) by decide +kernel) ?_
  refine fw_if_lt 48 (show decode _ _ = .ok (.ifCond .lt 45, 3) by decide +kernel) (by decide) (fun hc18 => ?_) (fun hc18 => ?_)
  · have h_1 := ipos hc18 h
    refine fw_iconst (v := (-1 : Int32)) (show decode _ _ = .ok (.iconst (-1), 1) by decide +kernel) (by decide) ?_
    exact fw_ret (v := some (.int (-1 : Int32))) .ireturn (show decode _ _ = .ok (.ireturn, 1) by decide +kernel) ⟨rfl, Or.inl rfl⟩ ⟨_, rfl, h_1⟩
  · have h_2 := ineg hc18 h
    refine fw_iload_n (i := 3) 3 rfl (show decode _ _ = .ok (.iload_n 3, 1) by decide +kernel) ?_
    refine fw_aload_n (i := 0) 0 rfl (show decode _ _ = .ok (.aload_n 0, 1) by decide +kernel) ?_
    obtain ⟨⟨hr2, n1, hs3⟩, h_3⟩ := h_2
    refine fw_getP (kd := 11) (k := 2) (show decode _ _ = .ok (.getfield 16, 3) by decide +kernel) gf_X11_16 hr2 hs3 rfl ?_
    have h_4 := dR_e h_3
    obtain ⟨y4, hy5, h_5⟩ := h_4
    refine fw_deref hy5 ?_
    refine fw_sipush (v := (705 : Int32)) (show decode _ _ = .ok (.sipush 705, 3) by decide +kernel) (by decide) ?_
    refine fw_iload_n (i := 1) 1 rfl (show decode _ _ = .ok (.iload_n 1, 1) by decide +kernel) ?_
    refine fw_imul (show decode _ _ = .ok (.imul, 1) by decide +kernel) ?_
    obtain ⟨⟨n6, hs7, hi8⟩, h_6⟩ := h_5
    refine fw_iald (show decode _ _ = .ok (.iaload, 1) by decide +kernel) hs7 hi8 ?_
    refine fw_icmp_ge 48 (show decode _ _ = .ok (.if_icmp .ge 31, 3) by decide +kernel) (by decide) (fun hc17 => ?_) (fun hc17 => ?_)
    · have h_7 := ipos hc17 h_6
      refine fw_iconst (v := (-1 : Int32)) (show decode _ _ = .ok (.iconst (-1), 1) by decide +kernel) (by decide) ?_
      exact fw_ret (v := some (.int (-1 : Int32))) .ireturn (show decode _ _ = .ok (.ireturn, 1) by decide +kernel) ⟨rfl, Or.inl rfl⟩ ⟨_, rfl, h_7⟩
    · have h_8 := ineg hc17 h_6
      refine fw_aload_n (i := 0) 0 rfl (show decode _ _ = .ok (.aload_n 0, 1) by decide +kernel) ?_
      refine fw_getP (kd := 11) (k := 2) (show decode _ _ = .ok (.getfield 16, 3) by decide +kernel) gf_X11_16 hr2 hs3 rfl ?_
      have h_9 := dR_e h_8
      obtain ⟨y9, hy10, h_10⟩ := h_9
      refine fw_deref hy10 ?_
      refine fw_sipush (v := (705 : Int32)) (show decode _ _ = .ok (.sipush 705, 3) by decide +kernel) (by decide) ?_
      refine fw_iload_n (i := 1) 1 rfl (show decode _ _ = .ok (.iload_n 1, 1) by decide +kernel) ?_
      refine fw_imul (show decode _ _ = .ok (.imul, 1) by decide +kernel) ?_
      refine fw_iconst (v := (1 : Int32)) (show decode _ _ = .ok (.iconst 1, 1) by decide +kernel) (by decide) ?_
      refine fw_iadd (show decode _ _ = .ok (.iadd, 1) by decide +kernel) ?_
      refine fw_iconst (v := (4 : Int32)) (show decode _ _ = .ok (.iconst 4, 1) by decide +kernel) (by decide) ?_
      refine fw_iload_n (i := 3) 3 rfl (show decode _ _ = .ok (.iload_n 3, 1) by decide +kernel) ?_
      refine fw_imul (show decode _ _ = .ok (.imul, 1) by decide +kernel) ?_
      refine fw_iadd (show decode _ _ = .ok (.iadd, 1) by decide +kernel) ?_
      obtain ⟨⟨n11, hs12, hi13⟩, h_11⟩ := h_10
      refine fw_iald (show decode _ _ = .ok (.iaload, 1) by decide +kernel) hs12 hi13 ?_
      refine fw_iload_n (i := 2) 2 rfl (show decode _ _ = .ok (.iload_n 2, 1) by decide +kernel) ?_
      refine fw_icmp_ne 42 (show decode _ _ = .ok (.if_icmp .ne 5, 3) by decide +kernel) (by decide) (fun hc16 => ?_) (fun hc16 => ?_)
      · have h_12 := ineg hc16 h_11
        obtain ⟨x14, ex15⟩ : ∃ y : Int32, y = p3 + (1 : Int32) := ⟨_, rfl⟩
        have h_13 := h_12 x14 ex15
        refine fw_iinc (i := 3) (x := p3) (v := x14) (ls' := [(3, .int x14), (0, .ref p0), (1, .int p1), (2, .int p2)]) 3 rfl (show decode _ _ = .ok (.iinc 3 1, 3) by decide +kernel) (by rw [ex15]; rfl) (by decide) rfl ?_
        refine fw_goto 2 (show decode _ _ = .ok (.goto (-43), 3) by decide +kernel) (by decide) ?_
        refine FW.sub [1, 2, 3, 0] (ls' := [(0, .ref p0), (1, .int p1), (2, .int p2), (3, .int x14)]) rfl ?_
        exact hK2 _ _ _ _ _ h_13
      · have h_14 := ipos hc16 h_11
        refine fw_iload_n (i := 3) 3 rfl (show decode _ _ = .ok (.iload_n 3, 1) by decide +kernel) ?_
        exact fw_ret (v := some (.int p3)) .ireturn (show decode _ _ = .ok (.ireturn, 1) by decide +kernel) ⟨rfl, Or.inl rfl⟩ ⟨_, rfl, h_14⟩
theorem sl_X11_clauseOf_2 {g : GT} {d : Nat} (hd : 1 ≤ d + 1) {φ : Int32 → fM → Prop} : ∀ (n : Nat) {p0 : Nat} {p1 : Int32} {p2 : Int32} {p3 : Int32} {M : fM}, l_X11_clauseOf_2 φ n p0 p1 p2 p3 M → FW g mtX11_clauseOf (d + 1) 2 [(0, .ref p0), (1, .int p1), (2, .int p2), (3, .int p3)] [] M 0 0 (rI φ)
  | 0 => fun h => h.elim
  | n + 1 => fun h => sb_X11_clauseOf_2 hd (fun _ _ _ _ _ h => sl_X11_clauseOf_2 hd n h) h
def w_X11_clauseOf (p0 : Nat) (p1 : Int32) (p2 : Int32) (M : fM) (φ : Int32 → fM → Prop) : Prop := ∃ n, l_X11_clauseOf_2 φ n p0 p1 p2 (0 : Int32) M
set_option maxRecDepth 100000 in
theorem s_X11_clauseOf {g : GT} {d : Nat} (hd : 1 ≤ d) {p0 : Nat} {p1 : Int32} {p2 : Int32} {M : fM} {φ : Int32 → fM → Prop} (h : w_X11_clauseOf p0 p1 p2 M φ) : FC g mtX11_clauseOf d [.ref p0, .int p1, .int p2] M 0 0 (rI φ) := by
  obtain ⟨d, rfl⟩ : ∃ e, d = e + 1 := ⟨d - 1, by omega⟩
  unfold w_X11_clauseOf at h
  refine FC.intro (nL := 4) (by decide) rfl (Nat.le_of_ble_eq_true rfl) ?_
  show FW g mtX11_clauseOf (d + 1) 0 [(0, .ref p0), (1, .int p1), (2, .int p2)] [] M 0 0 (rI φ)
  refine fw_iconst (v := (0 : Int32)) (show decode _ _ = .ok (.iconst 0, 1) by decide +kernel) (by decide) ?_
  refine fw_istore_n (i := 3) (ls' := [(3, .int (0 : Int32)), (0, .ref p0), (1, .int p1), (2, .int p2)]) (show decode _ _ = .ok (.istore_n 3, 1) by decide +kernel) (by decide) rfl ?_
  refine FW.sub [1, 2, 3, 0] (ls' := [(0, .ref p0), (1, .int p1), (2, .int p2), (3, .int (0 : Int32))]) rfl ?_
  obtain ⟨nn, h_1⟩ := h
  exact sl_X11_clauseOf_2 hd nn h_1
def j_X11_name_40 (φ : fM → Prop) (p0 : Nat) (p3 : Int32) (s0 : Int32) (s1 : Int32) (s2 : Nat) (M : fM) : Prop := 6 ≤ s2 ∧ inA M s2 12 s1 ∧ st (wI M s2 (ix s1) s0) fun M5 => isO M5 p0 11 ∧ dR (mP M5 p0 21) fun y10 => nm (p3 % (2 : Int32)) fun x12 => 6 ≤ y10 ∧ inA M5 y10 12 (4 : Int32) ∧ st (wI M5 y10 (ix (4 : Int32)) x12) fun M18 => dR (mP M18 p0 21) fun y20 => dR (mP M18 p0 0) fun y22 => inA M18 y22 12 (1 : Int32) ∧ nm (mI M18 y22 (ix (1 : Int32))) fun x27 => 6 ≤ y20 ∧ inA M18 y20 12 (5 : Int32) ∧ st (wI M18 y20 (ix (5 : Int32)) x27) fun M33 => φ M33
set_option maxRecDepth 100000 in
theorem sj_X11_name_40 {g : GT} {d : Nat} (hd : 2 ≤ d + 1) {φ : fM → Prop} {p0 : Nat} {p3 : Int32} {s0 : Int32} {s1 : Int32} {s2 : Nat} {M : fM} (h : j_X11_name_40 φ p0 p3 s0 s1 s2 M) : FW g mtX11_name (d + 1) 40 [(0, .ref p0), (3, .int p3)] [.int s0, .int s1, .ref s2] M 0 0 (rV φ) := by
  unfold j_X11_name_40 at h
  obtain ⟨hr4, ⟨n1, hs2, hi3⟩, h_1⟩ := h
  refine fw_iast (show decode _ _ = .ok (.iastore, 1) by decide +kernel) hr4 hs2 hi3 ?_
  refine FW.nmM (fun M5 eM6 => ?_)
  have h_2 := h_1 M5 eM6
  refine fw_aload_n (i := 0) 0 rfl (show decode _ _ = .ok (.aload_n 0, 1) by decide +kernel) ?_
  obtain ⟨⟨hr8, n7, hs9⟩, h_3⟩ := h_2
  refine fw_getP (kd := 11) (k := 21) (show decode _ _ = .ok (.getfield 32, 3) by decide +kernel) gf_X11_32 hr8 hs9 rfl ?_
  have h_4 := dR_e h_3
  obtain ⟨y10, hy11, h_5⟩ := h_4
  refine fw_deref hy11 ?_
  refine fw_iconst (v := (4 : Int32)) (show decode _ _ = .ok (.iconst 4, 1) by decide +kernel) (by decide) ?_
  refine fw_iload_n (i := 3) 1 rfl (show decode _ _ = .ok (.iload_n 3, 1) by decide +kernel) ?_
  refine fw_iconst (v := (2 : Int32)) (show decode _ _ = .ok (.iconst 2, 1) by decide +kernel) (by decide) ?_
  refine fw_irem (show decode _ _ = .ok (.irem, 1) by decide +kernel) (by decide) ?_
  refine fw_nmI (fun x12 ex13 => ?_)
  have h_6 := h_5 x12 ex13
  obtain ⟨hr17, ⟨n14, hs15, hi16⟩, h_7⟩ := h_6
  refine fw_iast (show decode _ _ = .ok (.iastore, 1) by decide +kernel) hr17 hs15 hi16 ?_
  refine FW.nmM (fun M18 eM19 => ?_)
  have h_8 := h_7 M18 eM19
  refine fw_aload_n (i := 0) 0 rfl (show decode _ _ = .ok (.aload_n 0, 1) by decide +kernel) ?_
  refine fw_getP (kd := 11) (k := 21) (show decode _ _ = .ok (.getfield 32, 3) by decide +kernel) gf_X11_32 hr8 (mSw_I eM19 hs9) rfl ?_
  have h_9 := dR_e h_8
  obtain ⟨y20, hy21, h_10⟩ := h_9
  refine fw_deref hy21 ?_
  refine fw_iconst (v := (5 : Int32)) (show decode _ _ = .ok (.iconst 5, 1) by decide +kernel) (by decide) ?_
  refine fw_aload_n (i := 0) 0 rfl (show decode _ _ = .ok (.aload_n 0, 1) by decide +kernel) ?_
  refine fw_getP (kd := 11) (k := 0) (show decode _ _ = .ok (.getfield 7, 3) by decide +kernel) gf_X11_7 hr8 (mSw_I eM19 hs9) rfl ?_
  have h_11 := dR_e h_10
  obtain ⟨y22, hy23, h_12⟩ := h_11
  refine fw_deref hy23 ?_
  refine fw_iconst (v := (1 : Int32)) (show decode _ _ = .ok (.iconst 1, 1) by decide +kernel) (by decide) ?_
  obtain ⟨⟨n24, hs25, hi26⟩, h_13⟩ := h_12
  refine fw_iald (show decode _ _ = .ok (.iaload, 1) by decide +kernel) hs25 hi26 ?_
  refine fw_nmI (fun x27 ex28 => ?_)
  have h_14 := h_13 x27 ex28
  obtain ⟨hr32, ⟨n29, hs30, hi31⟩, h_15⟩ := h_14
  refine fw_iast (show decode _ _ = .ok (.iastore, 1) by decide +kernel) hr32 hs30 hi31 ?_
  refine FW.nmM (fun M33 eM34 => ?_)
  have h_16 := h_15 M33 eM34
  exact fw_ret (v := none) .return_ (show decode _ _ = .ok (.return_, 1) by decide +kernel) ⟨rfl, rfl⟩ ⟨rfl, h_16⟩
def w_X11_name (p0 : Nat) (p1 : Int32) (p2 : Int32) (p3 : Int32) (M : fM) (φ : fM → Prop) : Prop := isO M p0 11 ∧ dR (mP M p0 21) fun y38 => 6 ≤ y38 ∧ inA M y38 12 (0 : Int32) ∧ st (wI M y38 (ix (0 : Int32)) p1) fun M44 => dR (mP M44 p0 21) fun y46 => 6 ≤ y46 ∧ inA M44 y46 12 (1 : Int32) ∧ st (wI M44 y46 (ix (1 : Int32)) p2) fun M52 => dR (mP M52 p0 21) fun y54 => w_X11_stepsOf p0 p2 M52 fun x57 M56 => 6 ≤ y54 ∧ inA M56 y54 12 (2 : Int32) ∧ st (wI M56 y54 (ix (2 : Int32)) x57) fun M62 => isO M62 p0 11 ∧ dR (mP M62 p0 21) fun y67 => iF (p3 < (2 : Int32)) (j_X11_name_40 φ p0 p3 (0 : Int32) (3 : Int32) y67 M62) (j_X11_name_40 φ p0 p3 (1 : Int32) (3 : Int32) y67 M62)
set_option maxRecDepth 100000 in
theorem s_X11_name {g : GT} {d : Nat} (hd : 2 ≤ d) {p0 : Nat} {p1 : Int32} {p2 : Int32} {p3 : Int32} {M : fM} {φ : fM → Prop} (h : w_X11_name p0 p1 p2 p3 M φ) : FC g mtX11_name d [.ref p0, .int p1, .int p2, .int p3] M 0 0 (rV φ) := by
  obtain ⟨d, rfl⟩ : ∃ e, d = e + 1 := ⟨d - 1, by omega⟩
  unfold w_X11_name at h
  refine FC.intro (nL := 4) (by decide) rfl (Nat.le_of_ble_eq_true rfl) ?_
  show FW g mtX11_name (d + 1) 0 [(0, .ref p0), (1, .int p1), (2, .int p2), (3, .int p3)] [] M 0 0 (rV φ)
  refine fw_aload_n (i := 0) 0 rfl (show decode _ _ = .ok (.aload_n 0, 1) by decide +kernel) ?_
  obtain ⟨⟨hr36, n35, hs37⟩, h_1⟩ := h
  refine fw_getP (kd := 11) (k := 21) (show decode _ _ = .ok (.getfield 32, 3) by decide +kernel) gf_X11_32 hr36 hs37 rfl ?_
  have h_2 := dR_e h_1
  obtain ⟨y38, hy39, h_3⟩ := h_2
  refine fw_deref hy39 ?_
  refine fw_iconst (v := (0 : Int32)) (show decode _ _ = .ok (.iconst 0, 1) by decide +kernel) (by decide) ?_
  refine fw_iload_n (i := 1) 1 rfl (show decode _ _ = .ok (.iload_n 1, 1) by decide +kernel) ?_
  obtain ⟨hr43, ⟨n40, hs41, hi42⟩, h_4⟩ := h_3
  refine fw_iast (show decode _ _ = .ok (.iastore, 1) by decide +kernel) hr43 hs41 hi42 ?_
  refine FW.nmM (fun M44 eM45 => ?_)
  have h_5 := h_4 M44 eM45
  refine fw_aload_n (i := 0) 0 rfl (show decode _ _ = .ok (.aload_n 0, 1) by decide +kernel) ?_
  refine fw_getP (kd := 11) (k := 21) (show decode _ _ = .ok (.getfield 32, 3) by decide +kernel) gf_X11_32 hr36 (mSw_I eM45 hs37) rfl ?_
  have h_6 := dR_e h_5
  obtain ⟨y46, hy47, h_7⟩ := h_6
  refine fw_deref hy47 ?_
  refine fw_iconst (v := (1 : Int32)) (show decode _ _ = .ok (.iconst 1, 1) by decide +kernel) (by decide) ?_
  refine fw_iload_n (i := 2) 2 rfl (show decode _ _ = .ok (.iload_n 2, 1) by decide +kernel) ?_
  obtain ⟨hr51, ⟨n48, hs49, hi50⟩, h_8⟩ := h_7
  refine fw_iast (show decode _ _ = .ok (.iastore, 1) by decide +kernel) hr51 hs49 hi50 ?_
  refine FW.nmM (fun M52 eM53 => ?_)
  have h_9 := h_8 M52 eM53
  refine fw_aload_n (i := 0) 0 rfl (show decode _ _ = .ok (.aload_n 0, 1) by decide +kernel) ?_
  refine fw_getP (kd := 11) (k := 21) (show decode _ _ = .ok (.getfield 32, 3) by decide +kernel) gf_X11_32 hr36 (mSw_I eM53 (mSw_I eM45 hs37)) rfl ?_
  have h_10 := dR_e h_9
  obtain ⟨y54, hy55, h_11⟩ := h_10
  refine fw_deref hy55 ?_
  refine fw_iconst (v := (2 : Int32)) (show decode _ _ = .ok (.iconst 2, 1) by decide +kernel) (by decide) ?_
  refine fw_aload_n (i := 0) 0 rfl (show decode _ _ = .ok (.aload_n 0, 1) by decide +kernel) ?_
  refine fw_iload_n (i := 2) 2 rfl (show decode _ _ = .ok (.iload_n 2, 1) by decide +kernel) ?_
  refine fw_callV (mt' := mtX11_stepsOf) (mc := 0) (ms := 0) (As := [.int p2]) (rest := [.int (2 : Int32), .ref y54]) 1 11 n35 (show decode _ _ = .ok (.invokevirtual 74, 3) by decide +kernel) cv_X11_74 ⟨_, rfl, rfl⟩ hr36 (mSw_I eM53 (mSw_I eM45 hs37)) rfl (Nat.le_of_ble_eq_true rfl) (s_X11_stepsOf (d := d) (hd_le hd (by decide)) h_11) (by decide) (by decide) (kI (bc' := 0) (bs' := 0) (by decide) (by decide) (fun x57 M56 h_12 => ?_))
  obtain ⟨hr61, ⟨n58, hs59, hi60⟩, h_13⟩ := h_12
  refine fw_iast (show decode _ _ = .ok (.iastore, 1) by decide +kernel) hr61 hs59 hi60 ?_
  refine FW.nmM (fun M62 eM63 => ?_)
  have h_14 := h_13 M62 eM63
  refine fw_aload_n (i := 0) 0 rfl (show decode _ _ = .ok (.aload_n 0, 1) by decide +kernel) ?_
  obtain ⟨⟨hr65, n64, hs66⟩, h_15⟩ := h_14
  refine fw_getP (kd := 11) (k := 21) (show decode _ _ = .ok (.getfield 32, 3) by decide +kernel) gf_X11_32 hr65 hs66 rfl ?_
  have h_16 := dR_e h_15
  obtain ⟨y67, hy68, h_17⟩ := h_16
  refine fw_deref hy68 ?_
  refine fw_iconst (v := (3 : Int32)) (show decode _ _ = .ok (.iconst 3, 1) by decide +kernel) (by decide) ?_
  refine fw_iload_n (i := 3) 3 rfl (show decode _ _ = .ok (.iload_n 3, 1) by decide +kernel) ?_
  refine fw_iconst (v := (2 : Int32)) (show decode _ _ = .ok (.iconst 2, 1) by decide +kernel) (by decide) ?_
  refine fw_icmp_lt 39 (show decode _ _ = .ok (.if_icmp .lt 7, 3) by decide +kernel) (by decide) (fun hc69 => ?_) (fun hc69 => ?_)
  · have h_18 := ipos hc69 h_17
    refine fw_iconst (v := (0 : Int32)) (show decode _ _ = .ok (.iconst 0, 1) by decide +kernel) (by decide) ?_
    refine FW.sub [0, 3] (ls' := [(0, .ref p0), (3, .int p3)]) rfl ?_
    exact sj_X11_name_40 hd h_18
  · have h_19 := ineg hc69 h_17
    refine fw_iconst (v := (1 : Int32)) (show decode _ _ = .ok (.iconst 1, 1) by decide +kernel) (by decide) ?_
    refine fw_goto 40 (show decode _ _ = .ok (.goto 4, 3) by decide +kernel) (by decide) ?_
    refine FW.sub [0, 3] (ls' := [(0, .ref p0), (3, .int p3)]) rfl ?_
    exact sj_X11_name_40 hd h_19
def w_X11_railOf (p0 : Nat) (p1 : Int32) (M : fM) (φ : Int32 → fM → Prop) : Prop := isO M p0 11 ∧ dR (mP M p0 0) fun y4 => inA M y4 12 (((10 : Int32) + ((18 : Int32) * p1)) + (2 : Int32)) ∧ φ (mI M y4 (ix (((10 : Int32) + ((18 : Int32) * p1)) + (2 : Int32)))) M
set_option maxRecDepth 100000 in
theorem s_X11_railOf {g : GT} {d : Nat} (hd : 1 ≤ d) {p0 : Nat} {p1 : Int32} {M : fM} {φ : Int32 → fM → Prop} (h : w_X11_railOf p0 p1 M φ) : FC g mtX11_railOf d [.ref p0, .int p1] M 0 0 (rI φ) := by
  obtain ⟨d, rfl⟩ : ∃ e, d = e + 1 := ⟨d - 1, by omega⟩
  unfold w_X11_railOf at h
  refine FC.intro (nL := 2) (by decide) rfl (Nat.le_of_ble_eq_true rfl) ?_
  show FW g mtX11_railOf (d + 1) 0 [(0, .ref p0), (1, .int p1)] [] M 0 0 (rI φ)
  refine fw_aload_n (i := 0) 0 rfl (show decode _ _ = .ok (.aload_n 0, 1) by decide +kernel) ?_
  obtain ⟨⟨hr2, n1, hs3⟩, h_1⟩ := h
  refine fw_getP (kd := 11) (k := 0) (show decode _ _ = .ok (.getfield 7, 3) by decide +kernel) gf_X11_7 hr2 hs3 rfl ?_
  have h_2 := dR_e h_1
  obtain ⟨y4, hy5, h_3⟩ := h_2
  refine fw_deref hy5 ?_
  refine fw_bipush (v := (10 : Int32)) (show decode _ _ = .ok (.bipush 10, 2) by decide +kernel) (by decide) ?_
  refine fw_bipush (v := (18 : Int32)) (show decode _ _ = .ok (.bipush 18, 2) by decide +kernel) (by decide) ?_
  refine fw_iload_n (i := 1) 1 rfl (show decode _ _ = .ok (.iload_n 1, 1) by decide +kernel) ?_
  refine fw_imul (show decode _ _ = .ok (.imul, 1) by decide +kernel) ?_
  refine fw_iadd (show decode _ _ = .ok (.iadd, 1) by decide +kernel) ?_
  refine fw_iconst (v := (2 : Int32)) (show decode _ _ = .ok (.iconst 2, 1) by decide +kernel) (by decide) ?_
  refine fw_iadd (show decode _ _ = .ok (.iadd, 1) by decide +kernel) ?_
  obtain ⟨⟨n6, hs7, hi8⟩, h_4⟩ := h_3
  refine fw_iald (show decode _ _ = .ok (.iaload, 1) by decide +kernel) hs7 hi8 ?_
  exact fw_ret (v := some (.int (mI M y4 (ix (((10 : Int32) + ((18 : Int32) * p1)) + (2 : Int32)))))) .ireturn (show decode _ _ = .ok (.ireturn, 1) by decide +kernel) ⟨rfl, Or.inl rfl⟩ ⟨_, rfl, h_4⟩
def j_X11_nameStep_53 (φ : fM → Prop) (s0 : Int32) (s1 : Int32) (s2 : Nat) (M : fM) : Prop := 6 ≤ s2 ∧ inA M s2 12 s1 ∧ st (wI M s2 (ix s1) s0) fun M5 => φ M5
set_option maxRecDepth 100000 in
theorem sj_X11_nameStep_53 {g : GT} {d : Nat} (hd : 2 ≤ d + 1) {φ : fM → Prop} {s0 : Int32} {s1 : Int32} {s2 : Nat} {M : fM} (h : j_X11_nameStep_53 φ s0 s1 s2 M) : FW g mtX11_nameStep (d + 1) 53 [] [.int s0, .int s1, .ref s2] M 0 0 (rV φ) := by
  unfold j_X11_nameStep_53 at h
  obtain ⟨hr4, ⟨n1, hs2, hi3⟩, h_1⟩ := h
  refine fw_iast (show decode _ _ = .ok (.iastore, 1) by decide +kernel) hr4 hs2 hi3 ?_
  refine FW.nmM (fun M5 eM6 => ?_)
  have h_2 := h_1 M5 eM6
  exact fw_ret (v := none) .return_ (show decode _ _ = .ok (.return_, 1) by decide +kernel) ⟨rfl, rfl⟩ ⟨rfl, h_2⟩
def j_X11_nameStep_52 (φ : fM → Prop) (s0 : Int32) (s1 : Nat) (M : fM) : Prop := j_X11_nameStep_53 φ (0 : Int32) s0 s1 M
set_option maxRecDepth 100000 in
theorem sj_X11_nameStep_52 {g : GT} {d : Nat} (hd : 2 ≤ d + 1) {φ : fM → Prop} {s0 : Int32} {s1 : Nat} {M : fM} (h : j_X11_nameStep_52 φ s0 s1 M) : FW g mtX11_nameStep (d + 1) 52 [] [.int s0, .ref s1] M 0 0 (rV φ) := by
  unfold j_X11_nameStep_52 at h
  refine fw_iconst (v := (0 : Int32)) (show decode _ _ = .ok (.iconst 0, 1) by decide +kernel) (by decide) ?_
  refine FW.sub [] (ls' := []) rfl ?_
  exact sj_X11_nameStep_53 hd h
def w_X11_nameStep (p0 : Nat) (p1 : Int32) (p2 : Int32) (p3 : Int32) (p4 : Int32) (p5 : Int32) (M : fM) (φ : fM → Prop) : Prop := isO M p0 11 ∧ dR (mP M p0 21) fun y10 => 6 ≤ y10 ∧ inA M y10 12 (6 : Int32) ∧ st (wI M y10 (ix (6 : Int32)) p3) fun M16 => dR (mP M16 p0 21) fun y18 => 6 ≤ y18 ∧ inA M16 y18 12 (7 : Int32) ∧ st (wI M16 y18 (ix (7 : Int32)) p4) fun M24 => dR (mP M24 p0 21) fun y26 => 6 ≤ y26 ∧ inA M24 y26 12 (8 : Int32) ∧ st (wI M24 y26 (ix (8 : Int32)) p5) fun M32 => dR (mP M32 p0 21) fun y34 => w_X11_railOf p0 p1 M32 fun x37 M36 => iF (x37 < p3) (j_X11_nameStep_52 φ (9 : Int32) y34 M36) (iF ((p2 % (2 : Int32)) = (1 : Int32)) (j_X11_nameStep_52 φ (9 : Int32) y34 M36) (j_X11_nameStep_53 φ (1 : Int32) (9 : Int32) y34 M36))
set_option maxRecDepth 100000 in
theorem s_X11_nameStep {g : GT} {d : Nat} (hd : 2 ≤ d) {p0 : Nat} {p1 : Int32} {p2 : Int32} {p3 : Int32} {p4 : Int32} {p5 : Int32} {M : fM} {φ : fM → Prop} (h : w_X11_nameStep p0 p1 p2 p3 p4 p5 M φ) : FC g mtX11_nameStep d [.ref p0, .int p1, .int p2, .int p3, .int p4, .int p5] M 0 0 (rV φ) := by
  obtain ⟨d, rfl⟩ : ∃ e, d = e + 1 := ⟨d - 1, by omega⟩
  unfold w_X11_nameStep at h
  refine FC.intro (nL := 6) (by decide) rfl (Nat.le_of_ble_eq_true rfl) ?_
  show FW g mtX11_nameStep (d + 1) 0 [(0, .ref p0), (1, .int p1), (2, .int p2), (3, .int p3), (4, .int p4), (5, .int p5)] [] M 0 0 (rV φ)
  refine fw_aload_n (i := 0) 0 rfl (show decode _ _ = .ok (.aload_n 0, 1) by decide +kernel) ?_
  obtain ⟨⟨hr8, n7, hs9⟩, h_1⟩ := h
  refine fw_getP (kd := 11) (k := 21) (show decode _ _ = .ok (.getfield 32, 3) by decide +kernel) gf_X11_32 hr8 hs9 rfl ?_
  have h_2 := dR_e h_1
  obtain ⟨y10, hy11, h_3⟩ := h_2
  refine fw_deref hy11 ?_
  refine fw_bipush (v := (6 : Int32)) (show decode _ _ = .ok (.bipush 6, 2) by decide +kernel) (by decide) ?_
  refine fw_iload_n (i := 3) 3 rfl (show decode _ _ = .ok (.iload_n 3, 1) by decide +kernel) ?_
  obtain ⟨hr15, ⟨n12, hs13, hi14⟩, h_4⟩ := h_3
  refine fw_iast (show decode _ _ = .ok (.iastore, 1) by decide +kernel) hr15 hs13 hi14 ?_
  refine FW.nmM (fun M16 eM17 => ?_)
  have h_5 := h_4 M16 eM17
  refine fw_aload_n (i := 0) 0 rfl (show decode _ _ = .ok (.aload_n 0, 1) by decide +kernel) ?_
  refine fw_getP (kd := 11) (k := 21) (show decode _ _ = .ok (.getfield 32, 3) by decide +kernel) gf_X11_32 hr8 (mSw_I eM17 hs9) rfl ?_
  have h_6 := dR_e h_5
  obtain ⟨y18, hy19, h_7⟩ := h_6
  refine fw_deref hy19 ?_
  refine fw_bipush (v := (7 : Int32)) (show decode _ _ = .ok (.bipush 7, 2) by decide +kernel) (by decide) ?_
  refine fw_iload (i := 4) 4 rfl (show decode _ _ = .ok (.iload 4, 2) by decide +kernel) ?_
  obtain ⟨hr23, ⟨n20, hs21, hi22⟩, h_8⟩ := h_7
  refine fw_iast (show decode _ _ = .ok (.iastore, 1) by decide +kernel) hr23 hs21 hi22 ?_
  refine FW.nmM (fun M24 eM25 => ?_)
  have h_9 := h_8 M24 eM25
  refine fw_aload_n (i := 0) 0 rfl (show decode _ _ = .ok (.aload_n 0, 1) by decide +kernel) ?_
  refine fw_getP (kd := 11) (k := 21) (show decode _ _ = .ok (.getfield 32, 3) by decide +kernel) gf_X11_32 hr8 (mSw_I eM25 (mSw_I eM17 hs9)) rfl ?_
  have h_10 := dR_e h_9
  obtain ⟨y26, hy27, h_11⟩ := h_10
  refine fw_deref hy27 ?_
  refine fw_bipush (v := (8 : Int32)) (show decode _ _ = .ok (.bipush 8, 2) by decide +kernel) (by decide) ?_
  refine fw_iload (i := 5) 5 rfl (show decode _ _ = .ok (.iload 5, 2) by decide +kernel) ?_
  obtain ⟨hr31, ⟨n28, hs29, hi30⟩, h_12⟩ := h_11
  refine fw_iast (show decode _ _ = .ok (.iastore, 1) by decide +kernel) hr31 hs29 hi30 ?_
  refine FW.nmM (fun M32 eM33 => ?_)
  have h_13 := h_12 M32 eM33
  refine fw_aload_n (i := 0) 0 rfl (show decode _ _ = .ok (.aload_n 0, 1) by decide +kernel) ?_
  refine fw_getP (kd := 11) (k := 21) (show decode _ _ = .ok (.getfield 32, 3) by decide +kernel) gf_X11_32 hr8 (mSw_I eM33 (mSw_I eM25 (mSw_I eM17 hs9))) rfl ?_
  have h_14 := dR_e h_13
  obtain ⟨y34, hy35, h_15⟩ := h_14
  refine fw_deref hy35 ?_
  refine fw_bipush (v := (9 : Int32)) (show decode _ _ = .ok (.bipush 9, 2) by decide +kernel) (by decide) ?_
  refine fw_iload_n (i := 3) 3 rfl (show decode _ _ = .ok (.iload_n 3, 1) by decide +kernel) ?_
  refine fw_aload_n (i := 0) 0 rfl (show decode _ _ = .ok (.aload_n 0, 1) by decide +kernel) ?_
  refine fw_iload_n (i := 1) 1 rfl (show decode _ _ = .ok (.iload_n 1, 1) by decide +kernel) ?_
  refine fw_callV (mt' := mtX11_railOf) (mc := 0) (ms := 0) (As := [.int p1]) (rest := [.int p3, .int (9 : Int32), .ref y34]) 1 11 n7 (show decode _ _ = .ok (.invokevirtual 287, 3) by decide +kernel) cv_X11_287 ⟨_, rfl, rfl⟩ hr8 (mSw_I eM33 (mSw_I eM25 (mSw_I eM17 hs9))) rfl (Nat.le_of_ble_eq_true rfl) (s_X11_railOf (d := d) (hd_le hd (by decide)) h_15) (by decide) (by decide) (kI (bc' := 0) (bs' := 0) (by decide) (by decide) (fun x37 M36 h_16 => ?_))
  refine fw_icmp_gt 52 (show decode _ _ = .ok (.if_icmp .gt 14, 3) by decide +kernel) (by decide) (fun hc39 => ?_) (fun hc39 => ?_)
  · have h_17 := ipos hc39 h_16
    refine FW.sub [] (ls' := []) rfl ?_
    exact sj_X11_nameStep_52 hd h_17
  · have h_18 := ineg hc39 h_16
    refine fw_iload_n (i := 2) 2 rfl (show decode _ _ = .ok (.iload_n 2, 1) by decide +kernel) ?_
    refine fw_iconst (v := (2 : Int32)) (show decode _ _ = .ok (.iconst 2, 1) by decide +kernel) (by decide) ?_
    refine fw_irem (show decode _ _ = .ok (.irem, 1) by decide +kernel) (by decide) ?_
    refine fw_iconst (v := (1 : Int32)) (show decode _ _ = .ok (.iconst 1, 1) by decide +kernel) (by decide) ?_
    refine fw_icmp_eq 52 (show decode _ _ = .ok (.if_icmp .eq 7, 3) by decide +kernel) (by decide) (fun hc38 => ?_) (fun hc38 => ?_)
    · have h_19 := ipos hc38 h_18
      refine FW.sub [] (ls' := []) rfl ?_
      exact sj_X11_nameStep_52 hd h_19
    · have h_20 := ineg hc38 h_18
      refine fw_iconst (v := (1 : Int32)) (show decode _ _ = .ok (.iconst 1, 1) by decide +kernel) (by decide) ?_
      refine fw_goto 53 (show decode _ _ = .ok (.goto 4, 3) by decide +kernel) (by decide) ?_
      refine FW.sub [] (ls' := []) rfl ?_
      exact sj_X11_nameStep_53 hd h_20
def w_X11_clip (p0 : Int64) (M : fM) (φ : Int64 → fM → Prop) : Prop := iF ((lg_cmp p0 (1000000 : Int64)) ≤ 0) (iF (0 ≤ (lg_cmp p0 (-1000000 : Int64))) (φ p0 M) (φ (-1000000 : Int64) M)) (φ (1000000 : Int64) M)
set_option maxRecDepth 100000 in
theorem s_X11_clip {g : GT} {d : Nat} (hd : 1 ≤ d) {p0 : Int64} {M : fM} {φ : Int64 → fM → Prop} (h : w_X11_clip p0 M φ) : FC g mtX11_clip d [.long p0] M 0 0 (rJ φ) := by
  obtain ⟨d, rfl⟩ : ∃ e, d = e + 1 := ⟨d - 1, by omega⟩
  unfold w_X11_clip at h
  refine FC.intro (nL := 2) (by decide) rfl (Nat.le_of_ble_eq_true rfl) ?_
  show FW g mtX11_clip (d + 1) 0 [(0, .long p0)] [] M 0 0 (rJ φ)
  refine fw_lload_n (i := 0) 0 rfl (show decode _ _ = .ok (.lload_n 0, 1) by decide +kernel) ?_
  refine fw_ldc2 (idx := 271) (v := (1000000 : Int64)) (show decode _ _ = .ok (.ldc2_w 271, 3) by decide +kernel) wd1763 ?_
  refine fw_lcmp (show decode _ _ = .ok (.lcmp, 1) by decide +kernel) ?_
  refine fw_if_le 14 (show decode _ _ = .ok (.ifCond .le 9, 3) by decide +kernel) (by decide) (fun hc2 => ?_) (fun hc2 => ?_)
  · have h_1 := ipos hc2 h
    refine fw_lload_n (i := 0) 0 rfl (show decode _ _ = .ok (.lload_n 0, 1) by decide +kernel) ?_
    refine fw_ldc2 (idx := 273) (v := (-1000000 : Int64)) (show decode _ _ = .ok (.ldc2_w 273, 3) by decide +kernel) wd1764 ?_
    refine fw_lcmp (show decode _ _ = .ok (.lcmp, 1) by decide +kernel) ?_
    refine fw_if_ge 28 (show decode _ _ = .ok (.ifCond .ge 9, 3) by decide +kernel) (by decide) (fun hc1 => ?_) (fun hc1 => ?_)
    · have h_2 := ipos hc1 h_1
      refine fw_lload_n (i := 0) 0 rfl (show decode _ _ = .ok (.lload_n 0, 1) by decide +kernel) ?_
      exact fw_ret (v := some (.long p0)) .lreturn (show decode _ _ = .ok (.lreturn, 1) by decide +kernel) ⟨rfl, rfl⟩ ⟨_, rfl, h_2⟩
    · have h_3 := ineg hc1 h_1
      refine fw_ldc2 (idx := 273) (v := (-1000000 : Int64)) (show decode _ _ = .ok (.ldc2_w 273, 3) by decide +kernel) wd1764 ?_
      refine fw_goto 29 (show decode _ _ = .ok (.goto 4, 3) by decide +kernel) (by decide) ?_
      exact fw_ret (v := some (.long (-1000000 : Int64))) .lreturn (show decode _ _ = .ok (.lreturn, 1) by decide +kernel) ⟨rfl, rfl⟩ ⟨_, rfl, h_3⟩
  · have h_4 := ineg hc2 h
    refine fw_ldc2 (idx := 271) (v := (1000000 : Int64)) (show decode _ _ = .ok (.ldc2_w 271, 3) by decide +kernel) wd1763 ?_
    refine fw_goto 29 (show decode _ _ = .ok (.goto 18, 3) by decide +kernel) (by decide) ?_
    exact fw_ret (v := some (.long (1000000 : Int64))) .lreturn (show decode _ _ = .ok (.lreturn, 1) by decide +kernel) ⟨rfl, rfl⟩ ⟨_, rfl, h_4⟩
def w_X11_two (p0 : Int32) (p1 : Int64) (p3 : Int64) (M : fM) (φ : Int64 → fM → Prop) : Prop := iF (p0 = (4 : Int32)) (w_X11_clip (p1 + p3) M fun x2 M1 => φ x2 M1) (iF (p0 = (5 : Int32)) (w_X11_clip (p1 - p3) M fun x5 M4 => φ x5 M4) (iF (p0 = (6 : Int32)) (w_X11_clip (p1 * p3) M fun x8 M7 => φ x8 M7) (iF ((lg_cmp p3 (0 : Int64)) = 0) (φ (0 : Int64) M) (¬ p3 = 0 ∧ w_X11_clip (p1 / p3) M fun x12 M11 => φ x12 M11))))
set_option maxRecDepth 100000 in
theorem s_X11_two {g : GT} {d : Nat} (hd : 2 ≤ d) {p0 : Int32} {p1 : Int64} {p3 : Int64} {M : fM} {φ : Int64 → fM → Prop} (h : w_X11_two p0 p1 p3 M φ) : FC g mtX11_two d [.int p0, .long p1, .long p3] M 0 0 (rJ φ) := by
  obtain ⟨d, rfl⟩ : ∃ e, d = e + 1 := ⟨d - 1, by omega⟩
  unfold w_X11_two at h
  refine FC.intro (nL := 5) (by decide) rfl (Nat.le_of_ble_eq_true rfl) ?_
  show FW g mtX11_two (d + 1) 0 [(0, .int p0), (1, .long p1), (3, .long p3)] [] M 0 0 (rJ φ)
  refine fw_iload_n (i := 0) 0 rfl (show decode _ _ = .ok (.iload_n 0, 1) by decide +kernel) ?_
  by_cases hc3 : p0 = (4 : Int32)
  · have h_1 := ipos hc3 h
    refine fw_tin (off := 27) 28 (show decode _ _ = .ok (.tableswitch 48 4 6 #[27, 34, 41], 27) by decide +kernel) (by rw [hc3]; decide) (by rw [hc3]; decide) (by rw [hc3]; rfl) (by decide) ?_
    refine fw_lload_n (i := 1) 1 rfl (show decode _ _ = .ok (.lload_n 1, 1) by decide +kernel) ?_
    refine fw_lload_n (i := 3) 2 rfl (show decode _ _ = .ok (.lload_n 3, 1) by decide +kernel) ?_
    refine fw_ladd (show decode _ _ = .ok (.ladd, 1) by decide +kernel) ?_
    refine fw_callS (mt' := mtX11_clip) (mc := 0) (ms := 0) (As := [.long (p1 + p3)]) (rest := []) 1 (show decode _ _ = .ok (.invokestatic 275, 3) by decide +kernel) cs_X11_275 rfl (Nat.le_of_ble_eq_true rfl) (s_X11_clip (d := d) (hd_le hd (by decide)) h_1) (by decide) (by decide) (kJ (bc' := 0) (bs' := 0) (by decide) (by decide) (fun x2 M1 h_2 => ?_))
    exact fw_ret (v := some (.long x2)) .lreturn (show decode _ _ = .ok (.lreturn, 1) by decide +kernel) ⟨rfl, rfl⟩ ⟨_, rfl, h_2⟩
  have h_3 := ineg hc3 h
  by_cases hc6 : p0 = (5 : Int32)
  · have h_4 := ipos hc6 h_3
    refine fw_tin (off := 34) 35 (show decode _ _ = .ok (.tableswitch 48 4 6 #[27, 34, 41], 27) by decide +kernel) (by rw [hc6]; decide) (by rw [hc6]; decide) (by rw [hc6]; rfl) (by decide) ?_
    refine fw_lload_n (i := 1) 1 rfl (show decode _ _ = .ok (.lload_n 1, 1) by decide +kernel) ?_
    refine fw_lload_n (i := 3) 2 rfl (show decode _ _ = .ok (.lload_n 3, 1) by decide +kernel) ?_
    refine fw_lsub (show decode _ _ = .ok (.lsub, 1) by decide +kernel) ?_
    refine fw_callS (mt' := mtX11_clip) (mc := 0) (ms := 0) (As := [.long (p1 - p3)]) (rest := []) 1 (show decode _ _ = .ok (.invokestatic 275, 3) by decide +kernel) cs_X11_275 rfl (Nat.le_of_ble_eq_true rfl) (s_X11_clip (d := d) (hd_le hd (by decide)) h_4) (by decide) (by decide) (kJ (bc' := 0) (bs' := 0) (by decide) (by decide) (fun x5 M4 h_5 => ?_))
    exact fw_ret (v := some (.long x5)) .lreturn (show decode _ _ = .ok (.lreturn, 1) by decide +kernel) ⟨rfl, rfl⟩ ⟨_, rfl, h_5⟩
  have h_6 := ineg hc6 h_3
  by_cases hc9 : p0 = (6 : Int32)
  · have h_7 := ipos hc9 h_6
    refine fw_tin (off := 41) 42 (show decode _ _ = .ok (.tableswitch 48 4 6 #[27, 34, 41], 27) by decide +kernel) (by rw [hc9]; decide) (by rw [hc9]; decide) (by rw [hc9]; rfl) (by decide) ?_
    refine fw_lload_n (i := 1) 1 rfl (show decode _ _ = .ok (.lload_n 1, 1) by decide +kernel) ?_
    refine fw_lload_n (i := 3) 2 rfl (show decode _ _ = .ok (.lload_n 3, 1) by decide +kernel) ?_
    refine fw_lmul (show decode _ _ = .ok (.lmul, 1) by decide +kernel) ?_
    refine fw_callS (mt' := mtX11_clip) (mc := 0) (ms := 0) (As := [.long (p1 * p3)]) (rest := []) 1 (show decode _ _ = .ok (.invokestatic 275, 3) by decide +kernel) cs_X11_275 rfl (Nat.le_of_ble_eq_true rfl) (s_X11_clip (d := d) (hd_le hd (by decide)) h_7) (by decide) (by decide) (kJ (bc' := 0) (bs' := 0) (by decide) (by decide) (fun x8 M7 h_8 => ?_))
    exact fw_ret (v := some (.long x8)) .lreturn (show decode _ _ = .ok (.lreturn, 1) by decide +kernel) ⟨rfl, rfl⟩ ⟨_, rfl, h_8⟩
  have h_9 := ineg hc9 h_6
  by_cases ho14 : Int32.toInt p0 < 4 ∨ 6 < Int32.toInt p0
  · refine fw_tout 49 (show decode _ _ = .ok (.tableswitch 48 4 6 #[27, 34, 41], 27) by decide +kernel) ho14 (by decide) ?_
    refine fw_lload_n (i := 3) 2 rfl (show decode _ _ = .ok (.lload_n 3, 1) by decide +kernel) ?_
    refine fw_lconst (v := (0 : Int64)) (show decode _ _ = .ok (.lconst 0, 1) by decide +kernel) (by decide) ?_
    refine fw_lcmp (show decode _ _ = .ok (.lcmp, 1) by decide +kernel) ?_
    refine fw_if_ne 59 (show decode _ _ = .ok (.ifCond .ne 7, 3) by decide +kernel) (by decide) (fun hc13 => ?_) (fun hc13 => ?_)
    · have h_10 := ineg hc13 h_9
      refine fw_lload_n (i := 1) 1 rfl (show decode _ _ = .ok (.lload_n 1, 1) by decide +kernel) ?_
      refine fw_lload_n (i := 3) 2 rfl (show decode _ _ = .ok (.lload_n 3, 1) by decide +kernel) ?_
      obtain ⟨hne10, h_11⟩ := h_10
      refine fw_ldiv (show decode _ _ = .ok (.ldiv, 1) by decide +kernel) hne10 ?_
      refine fw_callS (mt' := mtX11_clip) (mc := 0) (ms := 0) (As := [.long (p1 / p3)]) (rest := []) 1 (show decode _ _ = .ok (.invokestatic 275, 3) by decide +kernel) cs_X11_275 rfl (Nat.le_of_ble_eq_true rfl) (s_X11_clip (d := d) (hd_le hd (by decide)) h_11) (by decide) (by decide) (kJ (bc' := 0) (bs' := 0) (by decide) (by decide) (fun x12 M11 h_12 => ?_))
      exact fw_ret (v := some (.long x12)) .lreturn (show decode _ _ = .ok (.lreturn, 1) by decide +kernel) ⟨rfl, rfl⟩ ⟨_, rfl, h_12⟩
    · have h_13 := ipos hc13 h_9
      refine fw_lconst (v := (0 : Int64)) (show decode _ _ = .ok (.lconst 0, 1) by decide +kernel) (by decide) ?_
      refine fw_goto 65 (show decode _ _ = .ok (.goto 9, 3) by decide +kernel) (by decide) ?_
      exact fw_ret (v := some (.long (0 : Int64))) .lreturn (show decode _ _ = .ok (.lreturn, 1) by decide +kernel) ⟨rfl, rfl⟩ ⟨_, rfl, h_13⟩
  have e15 := tsx_4_6 (Int32.toInt p0) ho14
  rcases e15 with e15 | e15 | e15
  · exact absurd (Int32.toInt_inj.mp (Eq.trans e15 rfl)) hc3
  · exact absurd (Int32.toInt_inj.mp (Eq.trans e15 rfl)) hc6
  · exact absurd (Int32.toInt_inj.mp (Eq.trans e15 rfl)) hc9
def w_X11_isAsked (p0 : Int32) (p1 : Int64) (p3 : Int64) (M : fM) (φ : Int32 → fM → Prop) : Prop := iF (p0 = (10 : Int32)) (iF (0 ≤ (lg_cmp p1 p3)) (φ (0 : Int32) M) (φ (1 : Int32) M)) (iF (p0 = (11 : Int32)) (iF (0 < (lg_cmp p1 p3)) (φ (0 : Int32) M) (φ (1 : Int32) M)) (iF (p0 = (12 : Int32)) (iF ((lg_cmp p1 p3) ≤ 0) (φ (0 : Int32) M) (φ (1 : Int32) M)) (iF (p0 = (13 : Int32)) (iF ((lg_cmp p1 p3) < 0) (φ (0 : Int32) M) (φ (1 : Int32) M)) (iF (p0 = (14 : Int32)) (iF ((lg_cmp p1 p3) = 0) (φ (1 : Int32) M) (φ (0 : Int32) M)) (iF ((lg_cmp p1 p3) = 0) (φ (0 : Int32) M) (φ (1 : Int32) M))))))
set_option maxRecDepth 100000 in
theorem s_X11_isAsked {g : GT} {d : Nat} (hd : 1 ≤ d) {p0 : Int32} {p1 : Int64} {p3 : Int64} {M : fM} {φ : Int32 → fM → Prop} (h : w_X11_isAsked p0 p1 p3 M φ) : FC g mtX11_isAsked d [.int p0, .long p1, .long p3] M 0 0 (rI φ) := by
  obtain ⟨d, rfl⟩ : ∃ e, d = e + 1 := ⟨d - 1, by omega⟩
  unfold w_X11_isAsked at h
  refine FC.intro (nL := 5) (by decide) rfl (Nat.le_of_ble_eq_true rfl) ?_
  show FW g mtX11_isAsked (d + 1) 0 [(0, .int p0), (1, .long p1), (3, .long p3)] [] M 0 0 (rI φ)
  refine fw_iload_n (i := 0) 0 rfl (show decode _ _ = .ok (.iload_n 0, 1) by decide +kernel) ?_
  refine fw_bipush (v := (10 : Int32)) (show decode _ _ = .ok (.bipush 10, 2) by decide +kernel) (by decide) ?_
  refine fw_icmp_ne 20 (show decode _ _ = .ok (.if_icmp .ne 17, 3) by decide +kernel) (by decide) (fun hc11 => ?_) (fun hc11 => ?_)
  · have h_1 := ineg hc11 h
    refine fw_iload_n (i := 0) 0 rfl (show decode _ _ = .ok (.iload_n 0, 1) by decide +kernel) ?_
    refine fw_bipush (v := (11 : Int32)) (show decode _ _ = .ok (.bipush 11, 2) by decide +kernel) (by decide) ?_
    refine fw_icmp_ne 40 (show decode _ _ = .ok (.if_icmp .ne 17, 3) by decide +kernel) (by decide) (fun hc9 => ?_) (fun hc9 => ?_)
    · have h_2 := ineg hc9 h_1
      refine fw_iload_n (i := 0) 0 rfl (show decode _ _ = .ok (.iload_n 0, 1) by decide +kernel) ?_
      refine fw_bipush (v := (12 : Int32)) (show decode _ _ = .ok (.bipush 12, 2) by decide +kernel) (by decide) ?_
      refine fw_icmp_ne 60 (show decode _ _ = .ok (.if_icmp .ne 17, 3) by decide +kernel) (by decide) (fun hc7 => ?_) (fun hc7 => ?_)
      · have h_3 := ineg hc7 h_2
        refine fw_iload_n (i := 0) 0 rfl (show decode _ _ = .ok (.iload_n 0, 1) by decide +kernel) ?_
        refine fw_bipush (v := (13 : Int32)) (show decode _ _ = .ok (.bipush 13, 2) by decide +kernel) (by decide) ?_
        refine fw_icmp_ne 80 (show decode _ _ = .ok (.if_icmp .ne 17, 3) by decide +kernel) (by decide) (fun hc5 => ?_) (fun hc5 => ?_)
        · have h_4 := ineg hc5 h_3
          refine fw_iload_n (i := 0) 0 rfl (show decode _ _ = .ok (.iload_n 0, 1) by decide +kernel) ?_
          refine fw_bipush (v := (14 : Int32)) (show decode _ _ = .ok (.bipush 14, 2) by decide +kernel) (by decide) ?_
          refine fw_icmp_ne 100 (show decode _ _ = .ok (.if_icmp .ne 17, 3) by decide +kernel) (by decide) (fun hc3 => ?_) (fun hc3 => ?_)
          · have h_5 := ineg hc3 h_4
            refine fw_lload_n (i := 1) 1 rfl (show decode _ _ = .ok (.lload_n 1, 1) by decide +kernel) ?_
            refine fw_lload_n (i := 3) 2 rfl (show decode _ _ = .ok (.lload_n 3, 1) by decide +kernel) ?_
            refine fw_lcmp (show decode _ _ = .ok (.lcmp, 1) by decide +kernel) ?_
            refine fw_if_eq 110 (show decode _ _ = .ok (.ifCond .eq 7, 3) by decide +kernel) (by decide) (fun hc1 => ?_) (fun hc1 => ?_)
            · have h_6 := ipos hc1 h_5
              refine fw_iconst (v := (0 : Int32)) (show decode _ _ = .ok (.iconst 0, 1) by decide +kernel) (by decide) ?_
              exact fw_ret (v := some (.int (0 : Int32))) .ireturn (show decode _ _ = .ok (.ireturn, 1) by decide +kernel) ⟨rfl, Or.inr (Or.inl ⟨rfl, rfl⟩)⟩ ⟨_, rfl, h_6⟩
            · have h_7 := ineg hc1 h_5
              refine fw_iconst (v := (1 : Int32)) (show decode _ _ = .ok (.iconst 1, 1) by decide +kernel) (by decide) ?_
              refine fw_goto 111 (show decode _ _ = .ok (.goto 4, 3) by decide +kernel) (by decide) ?_
              exact fw_ret (v := some (.int (1 : Int32))) .ireturn (show decode _ _ = .ok (.ireturn, 1) by decide +kernel) ⟨rfl, Or.inr (Or.inl ⟨rfl, rfl⟩)⟩ ⟨_, rfl, h_7⟩
          · have h_8 := ipos hc3 h_4
            refine fw_lload_n (i := 1) 1 rfl (show decode _ _ = .ok (.lload_n 1, 1) by decide +kernel) ?_
            refine fw_lload_n (i := 3) 2 rfl (show decode _ _ = .ok (.lload_n 3, 1) by decide +kernel) ?_
            refine fw_lcmp (show decode _ _ = .ok (.lcmp, 1) by decide +kernel) ?_
            refine fw_if_ne 96 (show decode _ _ = .ok (.ifCond .ne 7, 3) by decide +kernel) (by decide) (fun hc2 => ?_) (fun hc2 => ?_)
            · have h_9 := ineg hc2 h_8
              refine fw_iconst (v := (0 : Int32)) (show decode _ _ = .ok (.iconst 0, 1) by decide +kernel) (by decide) ?_
              refine fw_goto 111 (show decode _ _ = .ok (.goto 14, 3) by decide +kernel) (by decide) ?_
              exact fw_ret (v := some (.int (0 : Int32))) .ireturn (show decode _ _ = .ok (.ireturn, 1) by decide +kernel) ⟨rfl, Or.inr (Or.inl ⟨rfl, rfl⟩)⟩ ⟨_, rfl, h_9⟩
            · have h_10 := ipos hc2 h_8
              refine fw_iconst (v := (1 : Int32)) (show decode _ _ = .ok (.iconst 1, 1) by decide +kernel) (by decide) ?_
              refine fw_goto 111 (show decode _ _ = .ok (.goto 18, 3) by decide +kernel) (by decide) ?_
              exact fw_ret (v := some (.int (1 : Int32))) .ireturn (show decode _ _ = .ok (.ireturn, 1) by decide +kernel) ⟨rfl, Or.inr (Or.inl ⟨rfl, rfl⟩)⟩ ⟨_, rfl, h_10⟩
        · have h_11 := ipos hc5 h_3
          refine fw_lload_n (i := 1) 1 rfl (show decode _ _ = .ok (.lload_n 1, 1) by decide +kernel) ?_
          refine fw_lload_n (i := 3) 2 rfl (show decode _ _ = .ok (.lload_n 3, 1) by decide +kernel) ?_
          refine fw_lcmp (show decode _ _ = .ok (.lcmp, 1) by decide +kernel) ?_
          refine fw_if_lt 76 (show decode _ _ = .ok (.ifCond .lt 7, 3) by decide +kernel) (by decide) (fun hc4 => ?_) (fun hc4 => ?_)
          · have h_12 := ipos hc4 h_11
            refine fw_iconst (v := (0 : Int32)) (show decode _ _ = .ok (.iconst 0, 1) by decide +kernel) (by decide) ?_
            refine fw_goto 111 (show decode _ _ = .ok (.goto 34, 3) by decide +kernel) (by decide) ?_
            exact fw_ret (v := some (.int (0 : Int32))) .ireturn (show decode _ _ = .ok (.ireturn, 1) by decide +kernel) ⟨rfl, Or.inr (Or.inl ⟨rfl, rfl⟩)⟩ ⟨_, rfl, h_12⟩
          · have h_13 := ineg hc4 h_11
            refine fw_iconst (v := (1 : Int32)) (show decode _ _ = .ok (.iconst 1, 1) by decide +kernel) (by decide) ?_
            refine fw_goto 111 (show decode _ _ = .ok (.goto 38, 3) by decide +kernel) (by decide) ?_
            exact fw_ret (v := some (.int (1 : Int32))) .ireturn (show decode _ _ = .ok (.ireturn, 1) by decide +kernel) ⟨rfl, Or.inr (Or.inl ⟨rfl, rfl⟩)⟩ ⟨_, rfl, h_13⟩
      · have h_14 := ipos hc7 h_2
        refine fw_lload_n (i := 1) 1 rfl (show decode _ _ = .ok (.lload_n 1, 1) by decide +kernel) ?_
        refine fw_lload_n (i := 3) 2 rfl (show decode _ _ = .ok (.lload_n 3, 1) by decide +kernel) ?_
        refine fw_lcmp (show decode _ _ = .ok (.lcmp, 1) by decide +kernel) ?_
        refine fw_if_le 56 (show decode _ _ = .ok (.ifCond .le 7, 3) by decide +kernel) (by decide) (fun hc6 => ?_) (fun hc6 => ?_)
        · have h_15 := ipos hc6 h_14
          refine fw_iconst (v := (0 : Int32)) (show decode _ _ = .ok (.iconst 0, 1) by decide +kernel) (by decide) ?_
          refine fw_goto 111 (show decode _ _ = .ok (.goto 54, 3) by decide +kernel) (by decide) ?_
          exact fw_ret (v := some (.int (0 : Int32))) .ireturn (show decode _ _ = .ok (.ireturn, 1) by decide +kernel) ⟨rfl, Or.inr (Or.inl ⟨rfl, rfl⟩)⟩ ⟨_, rfl, h_15⟩
        · have h_16 := ineg hc6 h_14
          refine fw_iconst (v := (1 : Int32)) (show decode _ _ = .ok (.iconst 1, 1) by decide +kernel) (by decide) ?_
          refine fw_goto 111 (show decode _ _ = .ok (.goto 58, 3) by decide +kernel) (by decide) ?_
          exact fw_ret (v := some (.int (1 : Int32))) .ireturn (show decode _ _ = .ok (.ireturn, 1) by decide +kernel) ⟨rfl, Or.inr (Or.inl ⟨rfl, rfl⟩)⟩ ⟨_, rfl, h_16⟩
    · have h_17 := ipos hc9 h_1
      refine fw_lload_n (i := 1) 1 rfl (show decode _ _ = .ok (.lload_n 1, 1) by decide +kernel) ?_
      refine fw_lload_n (i := 3) 2 rfl (show decode _ _ = .ok (.lload_n 3, 1) by decide +kernel) ?_
      refine fw_lcmp (show decode _ _ = .ok (.lcmp, 1) by decide +kernel) ?_
      refine fw_if_gt 36 (show decode _ _ = .ok (.ifCond .gt 7, 3) by decide +kernel) (by decide) (fun hc8 => ?_) (fun hc8 => ?_)
      · have h_18 := ipos hc8 h_17
        refine fw_iconst (v := (0 : Int32)) (show decode _ _ = .ok (.iconst 0, 1) by decide +kernel) (by decide) ?_
        refine fw_goto 111 (show decode _ _ = .ok (.goto 74, 3) by decide +kernel) (by decide) ?_
        exact fw_ret (v := some (.int (0 : Int32))) .ireturn (show decode _ _ = .ok (.ireturn, 1) by decide +kernel) ⟨rfl, Or.inr (Or.inl ⟨rfl, rfl⟩)⟩ ⟨_, rfl, h_18⟩
      · have h_19 := ineg hc8 h_17
        refine fw_iconst (v := (1 : Int32)) (show decode _ _ = .ok (.iconst 1, 1) by decide +kernel) (by decide) ?_
        refine fw_goto 111 (show decode _ _ = .ok (.goto 78, 3) by decide +kernel) (by decide) ?_
        exact fw_ret (v := some (.int (1 : Int32))) .ireturn (show decode _ _ = .ok (.ireturn, 1) by decide +kernel) ⟨rfl, Or.inr (Or.inl ⟨rfl, rfl⟩)⟩ ⟨_, rfl, h_19⟩
  · have h_20 := ipos hc11 h
    refine fw_lload_n (i := 1) 1 rfl (show decode _ _ = .ok (.lload_n 1, 1) by decide +kernel) ?_
    refine fw_lload_n (i := 3) 2 rfl (show decode _ _ = .ok (.lload_n 3, 1) by decide +kernel) ?_
    refine fw_lcmp (show decode _ _ = .ok (.lcmp, 1) by decide +kernel) ?_
    refine fw_if_ge 16 (show decode _ _ = .ok (.ifCond .ge 7, 3) by decide +kernel) (by decide) (fun hc10 => ?_) (fun hc10 => ?_)
    · have h_21 := ipos hc10 h_20
      refine fw_iconst (v := (0 : Int32)) (show decode _ _ = .ok (.iconst 0, 1) by decide +kernel) (by decide) ?_
      refine fw_goto 111 (show decode _ _ = .ok (.goto 94, 3) by decide +kernel) (by decide) ?_
      exact fw_ret (v := some (.int (0 : Int32))) .ireturn (show decode _ _ = .ok (.ireturn, 1) by decide +kernel) ⟨rfl, Or.inr (Or.inl ⟨rfl, rfl⟩)⟩ ⟨_, rfl, h_21⟩
    · have h_22 := ineg hc10 h_20
      refine fw_iconst (v := (1 : Int32)) (show decode _ _ = .ok (.iconst 1, 1) by decide +kernel) (by decide) ?_
      refine fw_goto 111 (show decode _ _ = .ok (.goto 98, 3) by decide +kernel) (by decide) ?_
      exact fw_ret (v := some (.int (1 : Int32))) .ireturn (show decode _ _ = .ok (.ireturn, 1) by decide +kernel) ⟨rfl, Or.inr (Or.inl ⟨rfl, rfl⟩)⟩ ⟨_, rfl, h_22⟩
def j_X11_work_386 (K38 : Nat → Int32 → Int32 → Int32 → Int32 → Int32 → fM → Prop) (φ : fM → Prop) (p0 : Nat) (p3 : Int32) (p4 : Int32) (p5 : Int32) (p6 : Int32) (p7 : Int32) (s0 : Int32) (s1 : Int32) (s2 : Nat) (M : fM) : Prop := 6 ≤ s2 ∧ inA M s2 14 s1 ∧ isB s0 ∧ st (wI M s2 (ix s1) s0) fun M5 => nm (p7 + (1 : Int32)) fun x8 => K38 p0 p3 p4 p5 p6 x8 M5
set_option maxRecDepth 100000 in
theorem sj_X11_work_386 {g : GT} {d : Nat} (hd : 3 ≤ d + 1) {K38 : Nat → Int32 → Int32 → Int32 → Int32 → Int32 → fM → Prop} {φ : fM → Prop} (hK38 : ∀ (p0 : Nat) (p3 : Int32) (p4 : Int32) (p5 : Int32) (p6 : Int32) (p7 : Int32) (M : fM), K38 p0 p3 p4 p5 p6 p7 M → FW g mtX11_work (d + 1) 38 [(0, .ref p0), (3, .int p3), (4, .int p4), (5, .int p5), (6, .int p6), (7, .int p7)] [] M 0 0 (rV φ)) {p0 : Nat} {p3 : Int32} {p4 : Int32} {p5 : Int32} {p6 : Int32} {p7 : Int32} {s0 : Int32} {s1 : Int32} {s2 : Nat} {M : fM} (h : j_X11_work_386 K38 φ p0 p3 p4 p5 p6 p7 s0 s1 s2 M) : FW g mtX11_work (d + 1) 386 [(0, .ref p0), (3, .int p3), (4, .int p4), (5, .int p5), (6, .int p6), (7, .int p7)] [.int s0, .int s1, .ref s2] M 0 0 (rV φ) := by
  unfold j_X11_work_386 at h
  obtain ⟨hr4, ⟨n1, hs2, hi3⟩, h_1⟩ := h
  obtain ⟨hb7, h_2⟩ := h_1
  refine fw_zast (show decode _ _ = .ok (.bastore, 1) by decide +kernel) hr4 hs2 hi3 hb7 ?_
  refine FW.nmM (fun M5 eM6 => ?_)
  have h_3 := h_2 M5 eM6
  obtain ⟨x8, ex9⟩ : ∃ y : Int32, y = p7 + (1 : Int32) := ⟨_, rfl⟩
  have h_4 := h_3 x8 ex9
  refine fw_iinc (i := 7) (x := p7) (v := x8) (ls' := [(7, .int x8), (0, .ref p0), (3, .int p3), (4, .int p4), (5, .int p5), (6, .int p6)]) 5 rfl (show decode _ _ = .ok (.iinc 7 1, 3) by decide +kernel) (by rw [ex9]; rfl) (by decide) rfl ?_
  refine fw_goto 38 (show decode _ _ = .ok (.goto (-352), 3) by decide +kernel) (by decide) ?_
  refine FW.sub [1, 2, 3, 4, 5, 0] (ls' := [(0, .ref p0), (3, .int p3), (4, .int p4), (5, .int p5), (6, .int p6), (7, .int x8)]) rfl ?_
  exact hK38 _ _ _ _ _ _ _ h_4
def j_X11_work_381 (K38 : Nat → Int32 → Int32 → Int32 → Int32 → Int32 → fM → Prop) (φ : fM → Prop) (p0 : Nat) (p3 : Int32) (p4 : Int32) (p5 : Int32) (p6 : Int32) (p7 : Int32) (s0 : Int32) (s1 : Nat) (M : fM) : Prop := j_X11_work_386 K38 φ p0 p3 p4 p5 p6 p7 (1 : Int32) s0 s1 M
set_option maxRecDepth 100000 in
theorem sj_X11_work_381 {g : GT} {d : Nat} (hd : 3 ≤ d + 1) {K38 : Nat → Int32 → Int32 → Int32 → Int32 → Int32 → fM → Prop} {φ : fM → Prop} (hK38 : ∀ (p0 : Nat) (p3 : Int32) (p4 : Int32) (p5 : Int32) (p6 : Int32) (p7 : Int32) (M : fM), K38 p0 p3 p4 p5 p6 p7 M → FW g mtX11_work (d + 1) 38 [(0, .ref p0), (3, .int p3), (4, .int p4), (5, .int p5), (6, .int p6), (7, .int p7)] [] M 0 0 (rV φ)) {p0 : Nat} {p3 : Int32} {p4 : Int32} {p5 : Int32} {p6 : Int32} {p7 : Int32} {s0 : Int32} {s1 : Nat} {M : fM} (h : j_X11_work_381 K38 φ p0 p3 p4 p5 p6 p7 s0 s1 M) : FW g mtX11_work (d + 1) 381 [(0, .ref p0), (3, .int p3), (4, .int p4), (5, .int p5), (6, .int p6), (7, .int p7)] [.int s0, .ref s1] M 0 0 (rV φ) := by
  unfold j_X11_work_381 at h
  refine fw_iconst (v := (1 : Int32)) (show decode _ _ = .ok (.iconst 1, 1) by decide +kernel) (by decide) ?_
  refine fw_goto 386 (show decode _ _ = .ok (.goto 4, 3) by decide +kernel) (by decide) ?_
  refine FW.sub [0, 1, 2, 3, 4, 5] (ls' := [(0, .ref p0), (3, .int p3), (4, .int p4), (5, .int p5), (6, .int p6), (7, .int p7)]) rfl ?_
  exact sj_X11_work_386 hd hK38 h
def j_X11_work_355 (K38 : Nat → Int32 → Int32 → Int32 → Int32 → Int32 → fM → Prop) (φ : fM → Prop) (p0 : Nat) (p3 : Int32) (p4 : Int32) (p5 : Int32) (p6 : Int32) (p7 : Int32) (s0 : Int32) (s1 : Nat) (M : fM) : Prop := j_X11_work_386 K38 φ p0 p3 p4 p5 p6 p7 (0 : Int32) s0 s1 M
set_option maxRecDepth 100000 in
theorem sj_X11_work_355 {g : GT} {d : Nat} (hd : 3 ≤ d + 1) {K38 : Nat → Int32 → Int32 → Int32 → Int32 → Int32 → fM → Prop} {φ : fM → Prop} (hK38 : ∀ (p0 : Nat) (p3 : Int32) (p4 : Int32) (p5 : Int32) (p6 : Int32) (p7 : Int32) (M : fM), K38 p0 p3 p4 p5 p6 p7 M → FW g mtX11_work (d + 1) 38 [(0, .ref p0), (3, .int p3), (4, .int p4), (5, .int p5), (6, .int p6), (7, .int p7)] [] M 0 0 (rV φ)) {p0 : Nat} {p3 : Int32} {p4 : Int32} {p5 : Int32} {p6 : Int32} {p7 : Int32} {s0 : Int32} {s1 : Nat} {M : fM} (h : j_X11_work_355 K38 φ p0 p3 p4 p5 p6 p7 s0 s1 M) : FW g mtX11_work (d + 1) 355 [(0, .ref p0), (3, .int p3), (4, .int p4), (5, .int p5), (6, .int p6), (7, .int p7)] [.int s0, .ref s1] M 0 0 (rV φ) := by
  unfold j_X11_work_355 at h
  refine fw_iconst (v := (0 : Int32)) (show decode _ _ = .ok (.iconst 0, 1) by decide +kernel) (by decide) ?_
  refine fw_goto 386 (show decode _ _ = .ok (.goto 30, 3) by decide +kernel) (by decide) ?_
  refine FW.sub [0, 1, 2, 3, 4, 5] (ls' := [(0, .ref p0), (3, .int p3), (4, .int p4), (5, .int p5), (6, .int p6), (7, .int p7)]) rfl ?_
  exact sj_X11_work_386 hd hK38 h
def j_X11_work_307 (K38 : Nat → Int32 → Int32 → Int32 → Int32 → Int32 → fM → Prop) (φ : fM → Prop) (p0 : Nat) (p3 : Int32) (p4 : Int32) (p5 : Int32) (p6 : Int32) (p7 : Int32) (s0 : Int32) (s1 : Int32) (s2 : Nat) (M : fM) : Prop := 6 ≤ s2 ∧ inA M s2 14 s1 ∧ isB s0 ∧ st (wI M s2 (ix s1) s0) fun M14 => nm (p7 + (1 : Int32)) fun x17 => K38 p0 p3 p4 p5 p6 x17 M14
set_option maxRecDepth 100000 in
theorem sj_X11_work_307 {g : GT} {d : Nat} (hd : 3 ≤ d + 1) {K38 : Nat → Int32 → Int32 → Int32 → Int32 → Int32 → fM → Prop} {φ : fM → Prop} (hK38 : ∀ (p0 : Nat) (p3 : Int32) (p4 : Int32) (p5 : Int32) (p6 : Int32) (p7 : Int32) (M : fM), K38 p0 p3 p4 p5 p6 p7 M → FW g mtX11_work (d + 1) 38 [(0, .ref p0), (3, .int p3), (4, .int p4), (5, .int p5), (6, .int p6), (7, .int p7)] [] M 0 0 (rV φ)) {p0 : Nat} {p3 : Int32} {p4 : Int32} {p5 : Int32} {p6 : Int32} {p7 : Int32} {s0 : Int32} {s1 : Int32} {s2 : Nat} {M : fM} (h : j_X11_work_307 K38 φ p0 p3 p4 p5 p6 p7 s0 s1 s2 M) : FW g mtX11_work (d + 1) 307 [(0, .ref p0), (3, .int p3), (4, .int p4), (5, .int p5), (6, .int p6), (7, .int p7)] [.int s0, .int s1, .ref s2] M 0 0 (rV φ) := by
  unfold j_X11_work_307 at h
  obtain ⟨hr13, ⟨n10, hs11, hi12⟩, h_1⟩ := h
  obtain ⟨hb16, h_2⟩ := h_1
  refine fw_zast (show decode _ _ = .ok (.bastore, 1) by decide +kernel) hr13 hs11 hi12 hb16 ?_
  refine FW.nmM (fun M14 eM15 => ?_)
  have h_3 := h_2 M14 eM15
  refine fw_goto 387 (show decode _ _ = .ok (.goto 79, 3) by decide +kernel) (by decide) ?_
  obtain ⟨x17, ex18⟩ : ∃ y : Int32, y = p7 + (1 : Int32) := ⟨_, rfl⟩
  have h_4 := h_3 x17 ex18
  refine fw_iinc (i := 7) (x := p7) (v := x17) (ls' := [(7, .int x17), (0, .ref p0), (3, .int p3), (4, .int p4), (5, .int p5), (6, .int p6)]) 5 rfl (show decode _ _ = .ok (.iinc 7 1, 3) by decide +kernel) (by rw [ex18]; rfl) (by decide) rfl ?_
  refine fw_goto 38 (show decode _ _ = .ok (.goto (-352), 3) by decide +kernel) (by decide) ?_
  refine FW.sub [1, 2, 3, 4, 5, 0] (ls' := [(0, .ref p0), (3, .int p3), (4, .int p4), (5, .int p5), (6, .int p6), (7, .int x17)]) rfl ?_
  exact hK38 _ _ _ _ _ _ _ h_4
def j_X11_work_112 (K38 : Nat → Int32 → Int32 → Int32 → Int32 → Int32 → fM → Prop) (φ : fM → Prop) (p0 : Nat) (p3 : Int32) (p4 : Int32) (p5 : Int32) (p6 : Int32) (p7 : Int32) (s0 : Int64) (s1 : Int32) (s2 : Nat) (M : fM) : Prop := 6 ≤ s2 ∧ inA M s2 13 s1 ∧ st (wJ M s2 (ix s1) s0) fun M23 => nm (p5 + (1 : Int32)) fun x25 => nm (p7 + (1 : Int32)) fun x27 => K38 p0 p3 p4 x25 p6 x27 M23
set_option maxRecDepth 100000 in
theorem sj_X11_work_112 {g : GT} {d : Nat} (hd : 3 ≤ d + 1) {K38 : Nat → Int32 → Int32 → Int32 → Int32 → Int32 → fM → Prop} {φ : fM → Prop} (hK38 : ∀ (p0 : Nat) (p3 : Int32) (p4 : Int32) (p5 : Int32) (p6 : Int32) (p7 : Int32) (M : fM), K38 p0 p3 p4 p5 p6 p7 M → FW g mtX11_work (d + 1) 38 [(0, .ref p0), (3, .int p3), (4, .int p4), (5, .int p5), (6, .int p6), (7, .int p7)] [] M 0 0 (rV φ)) {p0 : Nat} {p3 : Int32} {p4 : Int32} {p5 : Int32} {p6 : Int32} {p7 : Int32} {s0 : Int64} {s1 : Int32} {s2 : Nat} {M : fM} (h : j_X11_work_112 K38 φ p0 p3 p4 p5 p6 p7 s0 s1 s2 M) : FW g mtX11_work (d + 1) 112 [(0, .ref p0), (3, .int p3), (4, .int p4), (5, .int p5), (6, .int p6), (7, .int p7)] [.long s0, .int s1, .ref s2] M 0 0 (rV φ) := by
  unfold j_X11_work_112 at h
  obtain ⟨hr22, ⟨n19, hs20, hi21⟩, h_1⟩ := h
  refine fw_last (show decode _ _ = .ok (.lastore, 1) by decide +kernel) hr22 hs20 hi21 ?_
  refine FW.nmM (fun M23 eM24 => ?_)
  have h_2 := h_1 M23 eM24
  obtain ⟨x25, ex26⟩ : ∃ y : Int32, y = p5 + (1 : Int32) := ⟨_, rfl⟩
  have h_3 := h_2 x25 ex26
  refine fw_iinc (i := 5) (x := p5) (v := x25) (ls' := [(5, .int x25), (0, .ref p0), (3, .int p3), (4, .int p4), (6, .int p6), (7, .int p7)]) 3 rfl (show decode _ _ = .ok (.iinc 5 1, 3) by decide +kernel) (by rw [ex26]; rfl) (by decide) rfl ?_
  refine fw_goto 387 (show decode _ _ = .ok (.goto 271, 3) by decide +kernel) (by decide) ?_
  obtain ⟨x27, ex28⟩ : ∃ y : Int32, y = p7 + (1 : Int32) := ⟨_, rfl⟩
  have h_4 := h_3 x27 ex28
  refine fw_iinc (i := 7) (x := p7) (v := x27) (ls' := [(7, .int x27), (5, .int x25), (0, .ref p0), (3, .int p3), (4, .int p4), (6, .int p6)]) 5 rfl (show decode _ _ = .ok (.iinc 7 1, 3) by decide +kernel) (by rw [ex28]; rfl) (by decide) rfl ?_
  refine fw_goto 38 (show decode _ _ = .ok (.goto (-352), 3) by decide +kernel) (by decide) ?_
  refine FW.sub [2, 3, 4, 1, 5, 0] (ls' := [(0, .ref p0), (3, .int p3), (4, .int p4), (5, .int x25), (6, .int p6), (7, .int x27)]) rfl ?_
  exact hK38 _ _ _ _ _ _ _ h_4
def b_X11_work_38 (K38 : Nat → Int32 → Int32 → Int32 → Int32 → Int32 → fM → Prop) (φ : fM → Prop) (p0 : Nat) (p3 : Int32) (p4 : Int32) (p5 : Int32) (p6 : Int32) (p7 : Int32) (M : fM) : Prop := isO M p0 11 ∧ dR (mP M p0 2) fun y32 => inA M y32 12 (p3 + (3 : Int32)) ∧ iF ((mI M y32 (ix (p3 + (3 : Int32)))) ≤ p7) (φ M) (dR (mP M p0 2) fun y37 => inA M y37 12 (p4 + ((2 : Int32) * p7)) ∧ nm (mI M y37 (ix (p4 + ((2 : Int32) * p7)))) fun x42 => dR (mP M p0 2) fun y44 => inA M y44 12 ((p4 + ((2 : Int32) * p7)) + (1 : Int32)) ∧ nm (mI M y44 (ix ((p4 + ((2 : Int32) * p7)) + (1 : Int32)))) fun x49 => iF ((1 : Int32) < x42) (iF (x42 = (2 : Int32)) (nm (p5 + (-1 : Int32)) fun x160 => nm (p6 + (-1 : Int32)) fun x162 => dR (mP M p0 23) fun y164 => inA M y164 14 x162 ∧ iF ((mI M y164 (ix x162)) = 0) (dR (mP M p0 22) fun y171 => dR (mP M p0 22) fun y173 => inA M y173 13 x160 ∧ nm (mJ M y173 (ix x160)) fun x178 => 6 ≤ y171 ∧ inA M y171 13 (x160 - (1 : Int32)) ∧ st (wJ M y171 (ix (x160 - (1 : Int32))) x178) fun M184 => nm (p7 + (1 : Int32)) fun x186 => K38 p0 p3 p4 x160 x162 x186 M184) (nm (p7 + (1 : Int32)) fun x169 => K38 p0 p3 p4 x160 x162 x169 M)) (iF (x42 = (3 : Int32)) (dR (mP M p0 22) fun y142 => dR (mP M p0 22) fun y144 => inA M y144 13 (p5 - (1 : Int32)) ∧ nm (-(mJ M y144 (ix (p5 - (1 : Int32))))) fun x149 => 6 ≤ y142 ∧ inA M y142 13 (p5 - (1 : Int32)) ∧ st (wJ M y142 (ix (p5 - (1 : Int32))) x149) fun M155 => nm (p7 + (1 : Int32)) fun x157 => K38 p0 p3 p4 p5 p6 x157 M155) (iF ((10 : Int32) ≤ x42) (iF ((20 : Int32) ≤ x42) (iF (x42 = (20 : Int32)) (dR (mP M p0 23) fun y80 => dR (mP M p0 23) fun y82 => inA M y82 14 (p6 - (1 : Int32)) ∧ iF ((mI M y82 (ix (p6 - (1 : Int32)))) = 0) (j_X11_work_307 K38 φ p0 p3 p4 p5 p6 p7 (1 : Int32) (p6 - (1 : Int32)) y80 M) (j_X11_work_307 K38 φ p0 p3 p4 p5 p6 p7 (0 : Int32) (p6 - (1 : Int32)) y80 M)) (nm (p6 + (-1 : Int32)) fun x51 => dR (mP M p0 23) fun y53 => iF (x42 = (21 : Int32)) (dR (mP M p0 23) fun y67 => inA M y67 14 (x51 - (1 : Int32)) ∧ iF ((mI M y67 (ix (x51 - (1 : Int32)))) = 0) (j_X11_work_355 K38 φ p0 p3 p4 p5 x51 p7 (x51 - (1 : Int32)) y53 M) (dR (mP M p0 23) fun y72 => inA M y72 14 x51 ∧ iF ((mI M y72 (ix x51)) = 0) (j_X11_work_355 K38 φ p0 p3 p4 p5 x51 p7 (x51 - (1 : Int32)) y53 M) (j_X11_work_386 K38 φ p0 p3 p4 p5 x51 p7 (1 : Int32) (x51 - (1 : Int32)) y53 M))) (dR (mP M p0 23) fun y55 => inA M y55 14 (x51 - (1 : Int32)) ∧ iF ((mI M y55 (ix (x51 - (1 : Int32)))) = 0) (dR (mP M p0 23) fun y60 => inA M y60 14 x51 ∧ iF ((mI M y60 (ix x51)) = 0) (j_X11_work_386 K38 φ p0 p3 p4 p5 x51 p7 (0 : Int32) (x51 - (1 : Int32)) y53 M) (j_X11_work_381 K38 φ p0 p3 p4 p5 x51 p7 (x51 - (1 : Int32)) y53 M)) (j_X11_work_381 K38 φ p0 p3 p4 p5 x51 p7 (x51 - (1 : Int32)) y53 M)))) (nm (p5 + (-2 : Int32)) fun x89 => dR (mP M p0 23) fun y91 => dR (mP M p0 22) fun y93 => inA M y93 13 x89 ∧ dR (mP M p0 22) fun y98 => inA M y98 13 (x89 + (1 : Int32)) ∧ w_X11_isAsked x42 (mJ M y93 (ix x89)) (mJ M y98 (ix (x89 + (1 : Int32)))) M fun x104 M103 => 6 ≤ y91 ∧ inA M103 y91 14 p6 ∧ isB x104 ∧ st (wI M103 y91 (ix p6) x104) fun M109 => nm (p6 + (1 : Int32)) fun x112 => nm (p7 + (1 : Int32)) fun x114 => K38 p0 p3 p4 x89 x112 x114 M109)) (nm (p5 + (-1 : Int32)) fun x117 => dR (mP M p0 22) fun y119 => dR (mP M p0 22) fun y121 => inA M y121 13 (x117 - (1 : Int32)) ∧ dR (mP M p0 22) fun y126 => inA M y126 13 x117 ∧ w_X11_two x42 (mJ M y121 (ix (x117 - (1 : Int32)))) (mJ M y126 (ix x117)) M fun x132 M131 => 6 ≤ y119 ∧ inA M131 y119 13 (x117 - (1 : Int32)) ∧ st (wJ M131 y119 (ix (x117 - (1 : Int32))) x132) fun M137 => nm (p7 + (1 : Int32)) fun x139 => K38 p0 p3 p4 x117 p6 x139 M137)))) (dR (mP M p0 22) fun y190 => iF (x42 = 0) (j_X11_work_112 K38 φ p0 p3 p4 p5 p6 p7 (Int32.toInt64 x49) p5 y190 M) (dR (mP M p0 21) fun y192 => inA M y192 12 x49 ∧ j_X11_work_112 K38 φ p0 p3 p4 p5 p6 p7 (Int32.toInt64 (mI M y192 (ix x49))) p5 y190 M)))
def l_X11_work_38 (φ : fM → Prop) : Nat → Nat → Int32 → Int32 → Int32 → Int32 → Int32 → fM → Prop
  | 0, _, _, _, _, _, _, _ => False
  | n + 1, p0, p3, p4, p5, p6, p7, M => b_X11_work_38 (l_X11_work_38 φ n) φ p0 p3 p4 p5 p6 p7 M
set_option maxRecDepth 100000 in
theorem sb_X11_work_38 {g : GT} {d : Nat} (hd : 3 ≤ d + 1) {K38 : Nat → Int32 → Int32 → Int32 → Int32 → Int32 → fM → Prop} {φ : fM → Prop} (hK38 : ∀ (p0 : Nat) (p3 : Int32) (p4 : Int32) (p5 : Int32) (p6 : Int32) (p7 : Int32) (M : fM), K38 p0 p3 p4 p5 p6 p7 M → FW g mtX11_work (d + 1) 38 [(0, .ref p0), (3, .int p3), (4, .int p4), (5, .int p5), (6, .int p6), (7, .int p7)] [] M 0 0 (rV φ)) {p0 : Nat} {p3 : Int32} {p4 : Int32} {p5 : Int32} {p6 : Int32} {p7 : Int32} {M : fM} (h : b_X11_work_38 K38 φ p0 p3 p4 p5 p6 p7 M) : FW g mtX11_work (d + 1) 38 [(0, .ref p0), (3, .int p3), (4, .int p4), (5, .int p5), (6, .int p6), (7, .int p7)] [] M 0 0 (rV φ) := by
  unfold b_X11_work_38 at h
  refine fw_iload (i := 7) 5 rfl (show decode _ _ = .ok (.iload 7, 2) by decide +kernel) ?_
  refine fw_aload_n (i := 0) 0 rfl (show decode _ _ = .ok (.aload_n 0, 1) by decide +kernel) ?_
  obtain ⟨⟨hr30, n29, hs31⟩, h_1⟩ := h
  refine fw_getP (kd := 11) (k := 2) (show decode _ _ = .ok (.getfield 16, 3) by decide +kernel) gf_X11_16 hr30 hs31 rfl ?_
  have h_2 := dR_e h_1
  obtain ⟨y32, hy33, h_3⟩ := h_2
  refine fw_deref hy33 ?_
  refine fw_iload_n (i := 3) 1 rfl (show decode _ _ = .ok (.iload_n 3, 1) by decide +kernel) ?_
  refine fw_iconst (v := (3 : Int32)) (show decode _ _ = .ok (.iconst 3, 1) by decide +kernel) (by decide) ?_
  refine fw_iadd (show decode _ _ = .ok (.iadd, 1) by decide +kernel) ?_
  obtain ⟨⟨n34, hs35, hi36⟩, h_4⟩ := h_3
  refine fw_iald (show decode _ _ = .ok (.iaload, 1) by decide +kernel) hs35 hi36 ?_
  refine fw_icmp_ge 393 (show decode _ _ = .ok (.if_icmp .ge 345, 3) by decide +kernel) (by decide) (fun hc199 => ?_) (fun hc199 => ?_)
  · have h_5 := ipos hc199 h_4
    exact fw_ret (v := none) .return_ (show decode _ _ = .ok (.return_, 1) by decide +kernel) ⟨rfl, rfl⟩ ⟨rfl, h_5⟩
  · have h_6 := ineg hc199 h_4
    refine fw_aload_n (i := 0) 0 rfl (show decode _ _ = .ok (.aload_n 0, 1) by decide +kernel) ?_
    refine fw_getP (kd := 11) (k := 2) (show decode _ _ = .ok (.getfield 16, 3) by decide +kernel) gf_X11_16 hr30 hs31 rfl ?_
    have h_7 := dR_e h_6
    obtain ⟨y37, hy38, h_8⟩ := h_7
    refine fw_deref hy38 ?_
    refine fw_iload (i := 4) 2 rfl (show decode _ _ = .ok (.iload 4, 2) by decide +kernel) ?_
    refine fw_iconst (v := (2 : Int32)) (show decode _ _ = .ok (.iconst 2, 1) by decide +kernel) (by decide) ?_
    refine fw_iload (i := 7) 5 rfl (show decode _ _ = .ok (.iload 7, 2) by decide +kernel) ?_
    refine fw_imul (show decode _ _ = .ok (.imul, 1) by decide +kernel) ?_
    refine fw_iadd (show decode _ _ = .ok (.iadd, 1) by decide +kernel) ?_
    obtain ⟨⟨n39, hs40, hi41⟩, h_9⟩ := h_8
    refine fw_iald (show decode _ _ = .ok (.iaload, 1) by decide +kernel) hs40 hi41 ?_
    refine fw_nmI (fun x42 ex43 => ?_)
    have h_10 := h_9 x42 ex43
    refine fw_istore (i := 8) (ls' := [(8, .int x42), (0, .ref p0), (3, .int p3), (4, .int p4), (5, .int p5), (6, .int p6), (7, .int p7)]) (show decode _ _ = .ok (.istore 8, 2) by decide +kernel) (by decide) rfl ?_
    refine fw_aload_n (i := 0) 1 rfl (show decode _ _ = .ok (.aload_n 0, 1) by decide +kernel) ?_
    refine fw_getP (kd := 11) (k := 2) (show decode _ _ = .ok (.getfield 16, 3) by decide +kernel) gf_X11_16 hr30 hs31 rfl ?_
    have h_11 := dR_e h_10
    obtain ⟨y44, hy45, h_12⟩ := h_11
    refine fw_deref hy45 ?_
    refine fw_iload (i := 4) 3 rfl (show decode _ _ = .ok (.iload 4, 2) by decide +kernel) ?_
    refine fw_iconst (v := (2 : Int32)) (show decode _ _ = .ok (.iconst 2, 1) by decide +kernel) (by decide) ?_
    refine fw_iload (i := 7) 6 rfl (show decode _ _ = .ok (.iload 7, 2) by decide +kernel) ?_
    refine fw_imul (show decode _ _ = .ok (.imul, 1) by decide +kernel) ?_
    refine fw_iadd (show decode _ _ = .ok (.iadd, 1) by decide +kernel) ?_
    refine fw_iconst (v := (1 : Int32)) (show decode _ _ = .ok (.iconst 1, 1) by decide +kernel) (by decide) ?_
    refine fw_iadd (show decode _ _ = .ok (.iadd, 1) by decide +kernel) ?_
    obtain ⟨⟨n46, hs47, hi48⟩, h_13⟩ := h_12
    refine fw_iald (show decode _ _ = .ok (.iaload, 1) by decide +kernel) hs47 hi48 ?_
    refine fw_nmI (fun x49 ex50 => ?_)
    have h_14 := h_13 x49 ex50
    refine fw_istore (i := 9) (ls' := [(9, .int x49), (8, .int x42), (0, .ref p0), (3, .int p3), (4, .int p4), (5, .int p5), (6, .int p6), (7, .int p7)]) (show decode _ _ = .ok (.istore 9, 2) by decide +kernel) (by decide) rfl ?_
    refine fw_iload (i := 8) 1 rfl (show decode _ _ = .ok (.iload 8, 2) by decide +kernel) ?_
    refine fw_iconst (v := (1 : Int32)) (show decode _ _ = .ok (.iconst 1, 1) by decide +kernel) (by decide) ?_
    refine fw_icmp_gt 119 (show decode _ _ = .ok (.if_icmp .gt 35, 3) by decide +kernel) (by decide) (fun hc198 => ?_) (fun hc198 => ?_)
    · have h_15 := ipos hc198 h_14
      refine fw_iload (i := 8) 1 rfl (show decode _ _ = .ok (.iload 8, 2) by decide +kernel) ?_
      refine fw_iconst (v := (2 : Int32)) (show decode _ _ = .ok (.iconst 2, 1) by decide +kernel) (by decide) ?_
      refine fw_icmp_ne 160 (show decode _ _ = .ok (.if_icmp .ne 38, 3) by decide +kernel) (by decide) (fun hc189 => ?_) (fun hc189 => ?_)
      · have h_16 := ineg hc189 h_15
        refine fw_iload (i := 8) 1 rfl (show decode _ _ = .ok (.iload 8, 2) by decide +kernel) ?_
        refine fw_iconst (v := (3 : Int32)) (show decode _ _ = .ok (.iconst 3, 1) by decide +kernel) (by decide) ?_
        refine fw_icmp_ne 188 (show decode _ _ = .ok (.if_icmp .ne 25, 3) by decide +kernel) (by decide) (fun hc159 => ?_) (fun hc159 => ?_)
        · have h_17 := ineg hc159 h_16
          refine fw_iload (i := 8) 1 rfl (show decode _ _ = .ok (.iload 8, 2) by decide +kernel) ?_
          refine fw_bipush (v := (10 : Int32)) (show decode _ _ = .ok (.bipush 10, 2) by decide +kernel) (by decide) ?_
          refine fw_icmp_ge 231 (show decode _ _ = .ok (.if_icmp .ge 39, 3) by decide +kernel) (by decide) (fun hc141 => ?_) (fun hc141 => ?_)
          · have h_18 := ipos hc141 h_17
            refine fw_iload (i := 8) 1 rfl (show decode _ _ = .ok (.iload 8, 2) by decide +kernel) ?_
            refine fw_bipush (v := (20 : Int32)) (show decode _ _ = .ok (.bipush 20, 2) by decide +kernel) (by decide) ?_
            refine fw_icmp_ge 275 (show decode _ _ = .ok (.if_icmp .ge 40, 3) by decide +kernel) (by decide) (fun hc116 => ?_) (fun hc116 => ?_)
            · have h_19 := ipos hc116 h_18
              refine fw_iload (i := 8) 1 rfl (show decode _ _ = .ok (.iload 8, 2) by decide +kernel) ?_
              refine fw_bipush (v := (20 : Int32)) (show decode _ _ = .ok (.bipush 20, 2) by decide +kernel) (by decide) ?_
              refine fw_icmp_ne 311 (show decode _ _ = .ok (.if_icmp .ne 32, 3) by decide +kernel) (by decide) (fun hc88 => ?_) (fun hc88 => ?_)
              · have h_20 := ineg hc88 h_19
                obtain ⟨x51, ex52⟩ : ∃ y : Int32, y = p6 + (-1 : Int32) := ⟨_, rfl⟩
                have h_21 := h_20 x51 ex52
                refine fw_iinc (i := 6) (x := p6) (v := x51) (ls' := [(6, .int x51), (9, .int x49), (8, .int x42), (0, .ref p0), (3, .int p3), (4, .int p4), (5, .int p5), (7, .int p7)]) 6 rfl (show decode _ _ = .ok (.iinc 6 (-1), 3) by decide +kernel) (by rw [ex52]; rfl) (by decide) rfl ?_
                refine fw_aload_n (i := 0) 3 rfl (show decode _ _ = .ok (.aload_n 0, 1) by decide +kernel) ?_
                refine fw_getP (kd := 11) (k := 23) (show decode _ _ = .ok (.getfield 39, 3) by decide +kernel) gf_X11_39 hr30 hs31 rfl ?_
                have h_22 := dR_e h_21
                obtain ⟨y53, hy54, h_23⟩ := h_22
                refine fw_deref hy54 ?_
                refine fw_iload (i := 6) 0 rfl (show decode _ _ = .ok (.iload 6, 2) by decide +kernel) ?_
                refine fw_iconst (v := (1 : Int32)) (show decode _ _ = .ok (.iconst 1, 1) by decide +kernel) (by decide) ?_
                refine fw_isub (show decode _ _ = .ok (.isub, 1) by decide +kernel) ?_
                refine fw_iload (i := 8) 2 rfl (show decode _ _ = .ok (.iload 8, 2) by decide +kernel) ?_
                refine fw_bipush (v := (21 : Int32)) (show decode _ _ = .ok (.bipush 21, 2) by decide +kernel) (by decide) ?_
                refine fw_icmp_ne 359 (show decode _ _ = .ok (.if_icmp .ne 33, 3) by decide +kernel) (by decide) (fun hc79 => ?_) (fun hc79 => ?_)
                · have h_24 := ineg hc79 h_23
                  refine fw_aload_n (i := 0) 3 rfl (show decode _ _ = .ok (.aload_n 0, 1) by decide +kernel) ?_
                  refine fw_getP (kd := 11) (k := 23) (show decode _ _ = .ok (.getfield 39, 3) by decide +kernel) gf_X11_39 hr30 hs31 rfl ?_
                  have h_25 := dR_e h_24
                  obtain ⟨y55, hy56, h_26⟩ := h_25
                  refine fw_deref hy56 ?_
                  refine fw_iload (i := 6) 0 rfl (show decode _ _ = .ok (.iload 6, 2) by decide +kernel) ?_
                  refine fw_iconst (v := (1 : Int32)) (show decode _ _ = .ok (.iconst 1, 1) by decide +kernel) (by decide) ?_
                  refine fw_isub (show decode _ _ = .ok (.isub, 1) by decide +kernel) ?_
                  obtain ⟨⟨n57, hs58, hi59⟩, h_27⟩ := h_26
                  refine fw_zald (show decode _ _ = .ok (.baload, 1) by decide +kernel) hs58 hi59 ?_
                  refine fw_if_ne 381 (show decode _ _ = .ok (.ifCond .ne 13, 3) by decide +kernel) (by decide) (fun hc66 => ?_) (fun hc66 => ?_)
                  · have h_28 := ineg hc66 h_27
                    refine FW.sub [3, 4, 5, 6, 0, 7] (ls' := [(0, .ref p0), (3, .int p3), (4, .int p4), (5, .int p5), (6, .int x51), (7, .int p7)]) rfl ?_
                    exact sj_X11_work_381 hd hK38 h_28
                  · have h_29 := ipos hc66 h_27
                    refine fw_aload_n (i := 0) 3 rfl (show decode _ _ = .ok (.aload_n 0, 1) by decide +kernel) ?_
                    refine fw_getP (kd := 11) (k := 23) (show decode _ _ = .ok (.getfield 39, 3) by decide +kernel) gf_X11_39 hr30 hs31 rfl ?_
                    have h_30 := dR_e h_29
                    obtain ⟨y60, hy61, h_31⟩ := h_30
                    refine fw_deref hy61 ?_
                    refine fw_iload (i := 6) 0 rfl (show decode _ _ = .ok (.iload 6, 2) by decide +kernel) ?_
                    obtain ⟨⟨n62, hs63, hi64⟩, h_32⟩ := h_31
                    refine fw_zald (show decode _ _ = .ok (.baload, 1) by decide +kernel) hs63 hi64 ?_
                    refine fw_if_eq 385 (show decode _ _ = .ok (.ifCond .eq 7, 3) by decide +kernel) (by decide) (fun hc65 => ?_) (fun hc65 => ?_)
                    · have h_33 := ipos hc65 h_32
                      refine fw_iconst (v := (0 : Int32)) (show decode _ _ = .ok (.iconst 0, 1) by decide +kernel) (by decide) ?_
                      refine FW.sub [3, 4, 5, 6, 0, 7] (ls' := [(0, .ref p0), (3, .int p3), (4, .int p4), (5, .int p5), (6, .int x51), (7, .int p7)]) rfl ?_
                      exact sj_X11_work_386 hd hK38 h_33
                    · have h_34 := ineg hc65 h_32
                      refine FW.sub [3, 4, 5, 6, 0, 7] (ls' := [(0, .ref p0), (3, .int p3), (4, .int p4), (5, .int p5), (6, .int x51), (7, .int p7)]) rfl ?_
                      exact sj_X11_work_381 hd hK38 h_34
                · have h_35 := ipos hc79 h_23
                  refine fw_aload_n (i := 0) 3 rfl (show decode _ _ = .ok (.aload_n 0, 1) by decide +kernel) ?_
                  refine fw_getP (kd := 11) (k := 23) (show decode _ _ = .ok (.getfield 39, 3) by decide +kernel) gf_X11_39 hr30 hs31 rfl ?_
                  have h_36 := dR_e h_35
                  obtain ⟨y67, hy68, h_37⟩ := h_36
                  refine fw_deref hy68 ?_
                  refine fw_iload (i := 6) 0 rfl (show decode _ _ = .ok (.iload 6, 2) by decide +kernel) ?_
                  refine fw_iconst (v := (1 : Int32)) (show decode _ _ = .ok (.iconst 1, 1) by decide +kernel) (by decide) ?_
                  refine fw_isub (show decode _ _ = .ok (.isub, 1) by decide +kernel) ?_
                  obtain ⟨⟨n69, hs70, hi71⟩, h_38⟩ := h_37
                  refine fw_zald (show decode _ _ = .ok (.baload, 1) by decide +kernel) hs70 hi71 ?_
                  refine fw_if_eq 355 (show decode _ _ = .ok (.ifCond .eq 17, 3) by decide +kernel) (by decide) (fun hc78 => ?_) (fun hc78 => ?_)
                  · have h_39 := ipos hc78 h_38
                    refine FW.sub [3, 4, 5, 6, 0, 7] (ls' := [(0, .ref p0), (3, .int p3), (4, .int p4), (5, .int p5), (6, .int x51), (7, .int p7)]) rfl ?_
                    exact sj_X11_work_355 hd hK38 h_39
                  · have h_40 := ineg hc78 h_38
                    refine fw_aload_n (i := 0) 3 rfl (show decode _ _ = .ok (.aload_n 0, 1) by decide +kernel) ?_
                    refine fw_getP (kd := 11) (k := 23) (show decode _ _ = .ok (.getfield 39, 3) by decide +kernel) gf_X11_39 hr30 hs31 rfl ?_
                    have h_41 := dR_e h_40
                    obtain ⟨y72, hy73, h_42⟩ := h_41
                    refine fw_deref hy73 ?_
                    refine fw_iload (i := 6) 0 rfl (show decode _ _ = .ok (.iload 6, 2) by decide +kernel) ?_
                    obtain ⟨⟨n74, hs75, hi76⟩, h_43⟩ := h_42
                    refine fw_zald (show decode _ _ = .ok (.baload, 1) by decide +kernel) hs75 hi76 ?_
                    refine fw_if_eq 355 (show decode _ _ = .ok (.ifCond .eq 7, 3) by decide +kernel) (by decide) (fun hc77 => ?_) (fun hc77 => ?_)
                    · have h_44 := ipos hc77 h_43
                      refine FW.sub [3, 4, 5, 6, 0, 7] (ls' := [(0, .ref p0), (3, .int p3), (4, .int p4), (5, .int p5), (6, .int x51), (7, .int p7)]) rfl ?_
                      exact sj_X11_work_355 hd hK38 h_44
                    · have h_45 := ineg hc77 h_43
                      refine fw_iconst (v := (1 : Int32)) (show decode _ _ = .ok (.iconst 1, 1) by decide +kernel) (by decide) ?_
                      refine fw_goto 386 (show decode _ _ = .ok (.goto 34, 3) by decide +kernel) (by decide) ?_
                      refine FW.sub [3, 4, 5, 6, 0, 7] (ls' := [(0, .ref p0), (3, .int p3), (4, .int p4), (5, .int p5), (6, .int x51), (7, .int p7)]) rfl ?_
                      exact sj_X11_work_386 hd hK38 h_45
              · have h_46 := ipos hc88 h_19
                refine fw_aload_n (i := 0) 2 rfl (show decode _ _ = .ok (.aload_n 0, 1) by decide +kernel) ?_
                refine fw_getP (kd := 11) (k := 23) (show decode _ _ = .ok (.getfield 39, 3) by decide +kernel) gf_X11_39 hr30 hs31 rfl ?_
                have h_47 := dR_e h_46
                obtain ⟨y80, hy81, h_48⟩ := h_47
                refine fw_deref hy81 ?_
                refine fw_iload (i := 6) 6 rfl (show decode _ _ = .ok (.iload 6, 2) by decide +kernel) ?_
                refine fw_iconst (v := (1 : Int32)) (show decode _ _ = .ok (.iconst 1, 1) by decide +kernel) (by decide) ?_
                refine fw_isub (show decode _ _ = .ok (.isub, 1) by decide +kernel) ?_
                refine fw_aload_n (i := 0) 2 rfl (show decode _ _ = .ok (.aload_n 0, 1) by decide +kernel) ?_
                refine fw_getP (kd := 11) (k := 23) (show decode _ _ = .ok (.getfield 39, 3) by decide +kernel) gf_X11_39 hr30 hs31 rfl ?_
                have h_49 := dR_e h_48
                obtain ⟨y82, hy83, h_50⟩ := h_49
                refine fw_deref hy83 ?_
                refine fw_iload (i := 6) 6 rfl (show decode _ _ = .ok (.iload 6, 2) by decide +kernel) ?_
                refine fw_iconst (v := (1 : Int32)) (show decode _ _ = .ok (.iconst 1, 1) by decide +kernel) (by decide) ?_
                refine fw_isub (show decode _ _ = .ok (.isub, 1) by decide +kernel) ?_
                obtain ⟨⟨n84, hs85, hi86⟩, h_51⟩ := h_50
                refine fw_zald (show decode _ _ = .ok (.baload, 1) by decide +kernel) hs85 hi86 ?_
                refine fw_if_ne 306 (show decode _ _ = .ok (.ifCond .ne 7, 3) by decide +kernel) (by decide) (fun hc87 => ?_) (fun hc87 => ?_)
                · have h_52 := ineg hc87 h_51
                  refine fw_iconst (v := (0 : Int32)) (show decode _ _ = .ok (.iconst 0, 1) by decide +kernel) (by decide) ?_
                  refine FW.sub [2, 3, 4, 5, 6, 7] (ls' := [(0, .ref p0), (3, .int p3), (4, .int p4), (5, .int p5), (6, .int p6), (7, .int p7)]) rfl ?_
                  exact sj_X11_work_307 hd hK38 h_52
                · have h_53 := ipos hc87 h_51
                  refine fw_iconst (v := (1 : Int32)) (show decode _ _ = .ok (.iconst 1, 1) by decide +kernel) (by decide) ?_
                  refine fw_goto 307 (show decode _ _ = .ok (.goto 4, 3) by decide +kernel) (by decide) ?_
                  refine FW.sub [2, 3, 4, 5, 6, 7] (ls' := [(0, .ref p0), (3, .int p3), (4, .int p4), (5, .int p5), (6, .int p6), (7, .int p7)]) rfl ?_
                  exact sj_X11_work_307 hd hK38 h_53
            · have h_54 := ineg hc116 h_18
              obtain ⟨x89, ex90⟩ : ∃ y : Int32, y = p5 + (-2 : Int32) := ⟨_, rfl⟩
              have h_55 := h_54 x89 ex90
              refine fw_iinc (i := 5) (x := p5) (v := x89) (ls' := [(5, .int x89), (9, .int x49), (8, .int x42), (0, .ref p0), (3, .int p3), (4, .int p4), (6, .int p6), (7, .int p7)]) 5 rfl (show decode _ _ = .ok (.iinc 5 (-2), 3) by decide +kernel) (by rw [ex90]; rfl) (by decide) rfl ?_
              refine fw_aload_n (i := 0) 3 rfl (show decode _ _ = .ok (.aload_n 0, 1) by decide +kernel) ?_
              refine fw_getP (kd := 11) (k := 23) (show decode _ _ = .ok (.getfield 39, 3) by decide +kernel) gf_X11_39 hr30 hs31 rfl ?_
              have h_56 := dR_e h_55
              obtain ⟨y91, hy92, h_57⟩ := h_56
              refine fw_deref hy92 ?_
              refine fw_iload (i := 6) 6 rfl (show decode _ _ = .ok (.iload 6, 2) by decide +kernel) ?_
              refine fw_iload (i := 8) 2 rfl (show decode _ _ = .ok (.iload 8, 2) by decide +kernel) ?_
              refine fw_aload_n (i := 0) 3 rfl (show decode _ _ = .ok (.aload_n 0, 1) by decide +kernel) ?_
              refine fw_getP (kd := 11) (k := 22) (show decode _ _ = .ok (.getfield 35, 3) by decide +kernel) gf_X11_35 hr30 hs31 rfl ?_
              have h_58 := dR_e h_57
              obtain ⟨y93, hy94, h_59⟩ := h_58
              refine fw_deref hy94 ?_
              refine fw_iload (i := 5) 0 rfl (show decode _ _ = .ok (.iload 5, 2) by decide +kernel) ?_
              obtain ⟨⟨n95, hs96, hi97⟩, h_60⟩ := h_59
              refine fw_lald (show decode _ _ = .ok (.laload, 1) by decide +kernel) hs96 hi97 ?_
              refine fw_aload_n (i := 0) 3 rfl (show decode _ _ = .ok (.aload_n 0, 1) by decide +kernel) ?_
              refine fw_getP (kd := 11) (k := 22) (show decode _ _ = .ok (.getfield 35, 3) by decide +kernel) gf_X11_35 hr30 hs31 rfl ?_
              have h_61 := dR_e h_60
              obtain ⟨y98, hy99, h_62⟩ := h_61
              refine fw_deref hy99 ?_
              refine fw_iload (i := 5) 0 rfl (show decode _ _ = .ok (.iload 5, 2) by decide +kernel) ?_
              refine fw_iconst (v := (1 : Int32)) (show decode _ _ = .ok (.iconst 1, 1) by decide +kernel) (by decide) ?_
              refine fw_iadd (show decode _ _ = .ok (.iadd, 1) by decide +kernel) ?_
              obtain ⟨⟨n100, hs101, hi102⟩, h_63⟩ := h_62
              refine fw_lald (show decode _ _ = .ok (.laload, 1) by decide +kernel) hs101 hi102 ?_
              refine fw_callS (mt' := mtX11_isAsked) (mc := 0) (ms := 0) (As := [.int x42, .long (mJ M y93 (ix x89)), .long (mJ M y98 (ix (x89 + (1 : Int32))))]) (rest := [.int p6, .ref y91]) 3 (show decode _ _ = .ok (.invokestatic 283, 3) by decide +kernel) cs_X11_283 rfl (Nat.le_of_ble_eq_true rfl) (s_X11_isAsked (d := d) (hd_le hd (by decide)) h_63) (by decide) (by decide) (kI (bc' := 0) (bs' := 0) (by decide) (by decide) (fun x104 M103 h_64 => ?_))
              obtain ⟨hr108, ⟨n105, hs106, hi107⟩, h_65⟩ := h_64
              obtain ⟨hb111, h_66⟩ := h_65
              refine fw_zast (show decode _ _ = .ok (.bastore, 1) by decide +kernel) hr108 hs106 hi107 hb111 ?_
              refine FW.nmM (fun M109 eM110 => ?_)
              have h_67 := h_66 M109 eM110
              obtain ⟨x112, ex113⟩ : ∃ y : Int32, y = p6 + (1 : Int32) := ⟨_, rfl⟩
              have h_68 := h_67 x112 ex113
              refine fw_iinc (i := 6) (x := p6) (v := x112) (ls' := [(6, .int x112), (5, .int x89), (9, .int x49), (8, .int x42), (0, .ref p0), (3, .int p3), (4, .int p4), (7, .int p7)]) 6 rfl (show decode _ _ = .ok (.iinc 6 1, 3) by decide +kernel) (by rw [ex113]; rfl) (by decide) rfl ?_
              refine fw_goto 387 (show decode _ _ = .ok (.goto 115, 3) by decide +kernel) (by decide) ?_
              obtain ⟨x114, ex115⟩ : ∃ y : Int32, y = p7 + (1 : Int32) := ⟨_, rfl⟩
              have h_69 := h_68 x114 ex115
              refine fw_iinc (i := 7) (x := p7) (v := x114) (ls' := [(7, .int x114), (6, .int x112), (5, .int x89), (9, .int x49), (8, .int x42), (0, .ref p0), (3, .int p3), (4, .int p4)]) 7 rfl (show decode _ _ = .ok (.iinc 7 1, 3) by decide +kernel) (by rw [ex115]; rfl) (by decide) rfl ?_
              refine fw_goto 38 (show decode _ _ = .ok (.goto (-352), 3) by decide +kernel) (by decide) ?_
              refine FW.sub [5, 6, 7, 2, 1, 0] (ls' := [(0, .ref p0), (3, .int p3), (4, .int p4), (5, .int x89), (6, .int x112), (7, .int x114)]) rfl ?_
              exact hK38 _ _ _ _ _ _ _ h_69
          · have h_70 := ineg hc141 h_17
            obtain ⟨x117, ex118⟩ : ∃ y : Int32, y = p5 + (-1 : Int32) := ⟨_, rfl⟩
            have h_71 := h_70 x117 ex118
            refine fw_iinc (i := 5) (x := p5) (v := x117) (ls' := [(5, .int x117), (9, .int x49), (8, .int x42), (0, .ref p0), (3, .int p3), (4, .int p4), (6, .int p6), (7, .int p7)]) 5 rfl (show decode _ _ = .ok (.iinc 5 (-1), 3) by decide +kernel) (by rw [ex118]; rfl) (by decide) rfl ?_
            refine fw_aload_n (i := 0) 3 rfl (show decode _ _ = .ok (.aload_n 0, 1) by decide +kernel) ?_
            refine fw_getP (kd := 11) (k := 22) (show decode _ _ = .ok (.getfield 35, 3) by decide +kernel) gf_X11_35 hr30 hs31 rfl ?_
            have h_72 := dR_e h_71
            obtain ⟨y119, hy120, h_73⟩ := h_72
            refine fw_deref hy120 ?_
            refine fw_iload (i := 5) 0 rfl (show decode _ _ = .ok (.iload 5, 2) by decide +kernel) ?_
            refine fw_iconst (v := (1 : Int32)) (show decode _ _ = .ok (.iconst 1, 1) by decide +kernel) (by decide) ?_
            refine fw_isub (show decode _ _ = .ok (.isub, 1) by decide +kernel) ?_
            refine fw_iload (i := 8) 2 rfl (show decode _ _ = .ok (.iload 8, 2) by decide +kernel) ?_
            refine fw_aload_n (i := 0) 3 rfl (show decode _ _ = .ok (.aload_n 0, 1) by decide +kernel) ?_
            refine fw_getP (kd := 11) (k := 22) (show decode _ _ = .ok (.getfield 35, 3) by decide +kernel) gf_X11_35 hr30 hs31 rfl ?_
            have h_74 := dR_e h_73
            obtain ⟨y121, hy122, h_75⟩ := h_74
            refine fw_deref hy122 ?_
            refine fw_iload (i := 5) 0 rfl (show decode _ _ = .ok (.iload 5, 2) by decide +kernel) ?_
            refine fw_iconst (v := (1 : Int32)) (show decode _ _ = .ok (.iconst 1, 1) by decide +kernel) (by decide) ?_
            refine fw_isub (show decode _ _ = .ok (.isub, 1) by decide +kernel) ?_
            obtain ⟨⟨n123, hs124, hi125⟩, h_76⟩ := h_75
            refine fw_lald (show decode _ _ = .ok (.laload, 1) by decide +kernel) hs124 hi125 ?_
            refine fw_aload_n (i := 0) 3 rfl (show decode _ _ = .ok (.aload_n 0, 1) by decide +kernel) ?_
            refine fw_getP (kd := 11) (k := 22) (show decode _ _ = .ok (.getfield 35, 3) by decide +kernel) gf_X11_35 hr30 hs31 rfl ?_
            have h_77 := dR_e h_76
            obtain ⟨y126, hy127, h_78⟩ := h_77
            refine fw_deref hy127 ?_
            refine fw_iload (i := 5) 0 rfl (show decode _ _ = .ok (.iload 5, 2) by decide +kernel) ?_
            obtain ⟨⟨n128, hs129, hi130⟩, h_79⟩ := h_78
            refine fw_lald (show decode _ _ = .ok (.laload, 1) by decide +kernel) hs129 hi130 ?_
            refine fw_callS (mt' := mtX11_two) (mc := 0) (ms := 0) (As := [.int x42, .long (mJ M y121 (ix (x117 - (1 : Int32)))), .long (mJ M y126 (ix x117))]) (rest := [.int (x117 - (1 : Int32)), .ref y119]) 3 (show decode _ _ = .ok (.invokestatic 279, 3) by decide +kernel) cs_X11_279 rfl (Nat.le_of_ble_eq_true rfl) (s_X11_two (d := d) (hd_le hd (by decide)) h_79) (by decide) (by decide) (kJ (bc' := 0) (bs' := 0) (by decide) (by decide) (fun x132 M131 h_80 => ?_))
            obtain ⟨hr136, ⟨n133, hs134, hi135⟩, h_81⟩ := h_80
            refine fw_last (show decode _ _ = .ok (.lastore, 1) by decide +kernel) hr136 hs134 hi135 ?_
            refine FW.nmM (fun M137 eM138 => ?_)
            have h_82 := h_81 M137 eM138
            refine fw_goto 387 (show decode _ _ = .ok (.goto 159, 3) by decide +kernel) (by decide) ?_
            obtain ⟨x139, ex140⟩ : ∃ y : Int32, y = p7 + (1 : Int32) := ⟨_, rfl⟩
            have h_83 := h_82 x139 ex140
            refine fw_iinc (i := 7) (x := p7) (v := x139) (ls' := [(7, .int x139), (5, .int x117), (9, .int x49), (8, .int x42), (0, .ref p0), (3, .int p3), (4, .int p4), (6, .int p6)]) 7 rfl (show decode _ _ = .ok (.iinc 7 1, 3) by decide +kernel) (by rw [ex140]; rfl) (by decide) rfl ?_
            refine fw_goto 38 (show decode _ _ = .ok (.goto (-352), 3) by decide +kernel) (by decide) ?_
            refine FW.sub [4, 5, 6, 1, 7, 0] (ls' := [(0, .ref p0), (3, .int p3), (4, .int p4), (5, .int x117), (6, .int p6), (7, .int x139)]) rfl ?_
            exact hK38 _ _ _ _ _ _ _ h_83
        · have h_84 := ipos hc159 h_16
          refine fw_aload_n (i := 0) 2 rfl (show decode _ _ = .ok (.aload_n 0, 1) by decide +kernel) ?_
          refine fw_getP (kd := 11) (k := 22) (show decode _ _ = .ok (.getfield 35, 3) by decide +kernel) gf_X11_35 hr30 hs31 rfl ?_
          have h_85 := dR_e h_84
          obtain ⟨y142, hy143, h_86⟩ := h_85
          refine fw_deref hy143 ?_
          refine fw_iload (i := 5) 5 rfl (show decode _ _ = .ok (.iload 5, 2) by decide +kernel) ?_
          refine fw_iconst (v := (1 : Int32)) (show decode _ _ = .ok (.iconst 1, 1) by decide +kernel) (by decide) ?_
          refine fw_isub (show decode _ _ = .ok (.isub, 1) by decide +kernel) ?_
          refine fw_aload_n (i := 0) 2 rfl (show decode _ _ = .ok (.aload_n 0, 1) by decide +kernel) ?_
          refine fw_getP (kd := 11) (k := 22) (show decode _ _ = .ok (.getfield 35, 3) by decide +kernel) gf_X11_35 hr30 hs31 rfl ?_
          have h_87 := dR_e h_86
          obtain ⟨y144, hy145, h_88⟩ := h_87
          refine fw_deref hy145 ?_
          refine fw_iload (i := 5) 5 rfl (show decode _ _ = .ok (.iload 5, 2) by decide +kernel) ?_
          refine fw_iconst (v := (1 : Int32)) (show decode _ _ = .ok (.iconst 1, 1) by decide +kernel) (by decide) ?_
          refine fw_isub (show decode _ _ = .ok (.isub, 1) by decide +kernel) ?_
          obtain ⟨⟨n146, hs147, hi148⟩, h_89⟩ := h_88
          refine fw_lald (show decode _ _ = .ok (.laload, 1) by decide +kernel) hs147 hi148 ?_
          refine fw_lneg (show decode _ _ = .ok (.lneg, 1) by decide +kernel) ?_
          refine fw_nmJ (fun x149 ex150 => ?_)
          have h_90 := h_89 x149 ex150
          obtain ⟨hr154, ⟨n151, hs152, hi153⟩, h_91⟩ := h_90
          refine fw_last (show decode _ _ = .ok (.lastore, 1) by decide +kernel) hr154 hs152 hi153 ?_
          refine FW.nmM (fun M155 eM156 => ?_)
          have h_92 := h_91 M155 eM156
          refine fw_goto 387 (show decode _ _ = .ok (.goto 202, 3) by decide +kernel) (by decide) ?_
          obtain ⟨x157, ex158⟩ : ∃ y : Int32, y = p7 + (1 : Int32) := ⟨_, rfl⟩
          have h_93 := h_92 x157 ex158
          refine fw_iinc (i := 7) (x := p7) (v := x157) (ls' := [(7, .int x157), (9, .int x49), (8, .int x42), (0, .ref p0), (3, .int p3), (4, .int p4), (5, .int p5), (6, .int p6)]) 7 rfl (show decode _ _ = .ok (.iinc 7 1, 3) by decide +kernel) (by rw [ex158]; rfl) (by decide) rfl ?_
          refine fw_goto 38 (show decode _ _ = .ok (.goto (-352), 3) by decide +kernel) (by decide) ?_
          refine FW.sub [3, 4, 5, 6, 7, 0] (ls' := [(0, .ref p0), (3, .int p3), (4, .int p4), (5, .int p5), (6, .int p6), (7, .int x157)]) rfl ?_
          exact hK38 _ _ _ _ _ _ _ h_93
      · have h_94 := ipos hc189 h_15
        obtain ⟨x160, ex161⟩ : ∃ y : Int32, y = p5 + (-1 : Int32) := ⟨_, rfl⟩
        have h_95 := h_94 x160 ex161
        refine fw_iinc (i := 5) (x := p5) (v := x160) (ls' := [(5, .int x160), (9, .int x49), (8, .int x42), (0, .ref p0), (3, .int p3), (4, .int p4), (6, .int p6), (7, .int p7)]) 5 rfl (show decode _ _ = .ok (.iinc 5 (-1), 3) by decide +kernel) (by rw [ex161]; rfl) (by decide) rfl ?_
        obtain ⟨x162, ex163⟩ : ∃ y : Int32, y = p6 + (-1 : Int32) := ⟨_, rfl⟩
        have h_96 := h_95 x162 ex163
        refine fw_iinc (i := 6) (x := p6) (v := x162) (ls' := [(6, .int x162), (5, .int x160), (9, .int x49), (8, .int x42), (0, .ref p0), (3, .int p3), (4, .int p4), (7, .int p7)]) 6 rfl (show decode _ _ = .ok (.iinc 6 (-1), 3) by decide +kernel) (by rw [ex163]; rfl) (by decide) rfl ?_
        refine fw_aload_n (i := 0) 4 rfl (show decode _ _ = .ok (.aload_n 0, 1) by decide +kernel) ?_
        refine fw_getP (kd := 11) (k := 23) (show decode _ _ = .ok (.getfield 39, 3) by decide +kernel) gf_X11_39 hr30 hs31 rfl ?_
        have h_97 := dR_e h_96
        obtain ⟨y164, hy165, h_98⟩ := h_97
        refine fw_deref hy165 ?_
        refine fw_iload (i := 6) 0 rfl (show decode _ _ = .ok (.iload 6, 2) by decide +kernel) ?_
        obtain ⟨⟨n166, hs167, hi168⟩, h_99⟩ := h_98
        refine fw_zald (show decode _ _ = .ok (.baload, 1) by decide +kernel) hs167 hi168 ?_
        refine fw_if_ne 387 (show decode _ _ = .ok (.ifCond .ne 249, 3) by decide +kernel) (by decide) (fun hc188 => ?_) (fun hc188 => ?_)
        · have h_100 := ineg hc188 h_99
          obtain ⟨x169, ex170⟩ : ∃ y : Int32, y = p7 + (1 : Int32) := ⟨_, rfl⟩
          have h_101 := h_100 x169 ex170
          refine fw_iinc (i := 7) (x := p7) (v := x169) (ls' := [(7, .int x169), (6, .int x162), (5, .int x160), (9, .int x49), (8, .int x42), (0, .ref p0), (3, .int p3), (4, .int p4)]) 7 rfl (show decode _ _ = .ok (.iinc 7 1, 3) by decide +kernel) (by rw [ex170]; rfl) (by decide) rfl ?_
          refine fw_goto 38 (show decode _ _ = .ok (.goto (-352), 3) by decide +kernel) (by decide) ?_
          refine FW.sub [5, 6, 7, 2, 1, 0] (ls' := [(0, .ref p0), (3, .int p3), (4, .int p4), (5, .int x160), (6, .int x162), (7, .int x169)]) rfl ?_
          exact hK38 _ _ _ _ _ _ _ h_101
        · have h_102 := ipos hc188 h_99
          refine fw_aload_n (i := 0) 4 rfl (show decode _ _ = .ok (.aload_n 0, 1) by decide +kernel) ?_
          refine fw_getP (kd := 11) (k := 22) (show decode _ _ = .ok (.getfield 35, 3) by decide +kernel) gf_X11_35 hr30 hs31 rfl ?_
          have h_103 := dR_e h_102
          obtain ⟨y171, hy172, h_104⟩ := h_103
          refine fw_deref hy172 ?_
          refine fw_iload (i := 5) 1 rfl (show decode _ _ = .ok (.iload 5, 2) by decide +kernel) ?_
          refine fw_iconst (v := (1 : Int32)) (show decode _ _ = .ok (.iconst 1, 1) by decide +kernel) (by decide) ?_
          refine fw_isub (show decode _ _ = .ok (.isub, 1) by decide +kernel) ?_
          refine fw_aload_n (i := 0) 4 rfl (show decode _ _ = .ok (.aload_n 0, 1) by decide +kernel) ?_
          refine fw_getP (kd := 11) (k := 22) (show decode _ _ = .ok (.getfield 35, 3) by decide +kernel) gf_X11_35 hr30 hs31 rfl ?_
          have h_105 := dR_e h_104
          obtain ⟨y173, hy174, h_106⟩ := h_105
          refine fw_deref hy174 ?_
          refine fw_iload (i := 5) 1 rfl (show decode _ _ = .ok (.iload 5, 2) by decide +kernel) ?_
          obtain ⟨⟨n175, hs176, hi177⟩, h_107⟩ := h_106
          refine fw_lald (show decode _ _ = .ok (.laload, 1) by decide +kernel) hs176 hi177 ?_
          refine fw_nmJ (fun x178 ex179 => ?_)
          have h_108 := h_107 x178 ex179
          obtain ⟨hr183, ⟨n180, hs181, hi182⟩, h_109⟩ := h_108
          refine fw_last (show decode _ _ = .ok (.lastore, 1) by decide +kernel) hr183 hs181 hi182 ?_
          refine FW.nmM (fun M184 eM185 => ?_)
          have h_110 := h_109 M184 eM185
          refine fw_goto 387 (show decode _ _ = .ok (.goto 230, 3) by decide +kernel) (by decide) ?_
          obtain ⟨x186, ex187⟩ : ∃ y : Int32, y = p7 + (1 : Int32) := ⟨_, rfl⟩
          have h_111 := h_110 x186 ex187
          refine fw_iinc (i := 7) (x := p7) (v := x186) (ls' := [(7, .int x186), (6, .int x162), (5, .int x160), (9, .int x49), (8, .int x42), (0, .ref p0), (3, .int p3), (4, .int p4)]) 7 rfl (show decode _ _ = .ok (.iinc 7 1, 3) by decide +kernel) (by rw [ex187]; rfl) (by decide) rfl ?_
          refine fw_goto 38 (show decode _ _ = .ok (.goto (-352), 3) by decide +kernel) (by decide) ?_
          refine FW.sub [5, 6, 7, 2, 1, 0] (ls' := [(0, .ref p0), (3, .int p3), (4, .int p4), (5, .int x160), (6, .int x162), (7, .int x186)]) rfl ?_
          exact hK38 _ _ _ _ _ _ _ h_111
    · have h_112 := ineg hc198 h_14
      refine fw_aload_n (i := 0) 2 rfl (show decode _ _ = .ok (.aload_n 0, 1) by decide +kernel) ?_
      refine fw_getP (kd := 11) (k := 22) (show decode _ _ = .ok (.getfield 35, 3) by decide +kernel) gf_X11_35 hr30 hs31 rfl ?_
      have h_113 := dR_e h_112
      obtain ⟨y190, hy191, h_114⟩ := h_113
      refine fw_deref hy191 ?_
      refine fw_iload (i := 5) 5 rfl (show decode _ _ = .ok (.iload 5, 2) by decide +kernel) ?_
      refine fw_iload (i := 8) 1 rfl (show decode _ _ = .ok (.iload 8, 2) by decide +kernel) ?_
      refine fw_if_ne 104 (show decode _ _ = .ok (.ifCond .ne 9, 3) by decide +kernel) (by decide) (fun hc197 => ?_) (fun hc197 => ?_)
      · have h_115 := ineg hc197 h_114
        refine fw_aload_n (i := 0) 2 rfl (show decode _ _ = .ok (.aload_n 0, 1) by decide +kernel) ?_
        refine fw_getP (kd := 11) (k := 21) (show decode _ _ = .ok (.getfield 32, 3) by decide +kernel) gf_X11_32 hr30 hs31 rfl ?_
        have h_116 := dR_e h_115
        obtain ⟨y192, hy193, h_117⟩ := h_116
        refine fw_deref hy193 ?_
        refine fw_iload (i := 9) 0 rfl (show decode _ _ = .ok (.iload 9, 2) by decide +kernel) ?_
        obtain ⟨⟨n194, hs195, hi196⟩, h_118⟩ := h_117
        refine fw_iald (show decode _ _ = .ok (.iaload, 1) by decide +kernel) hs195 hi196 ?_
        refine fw_i2l (show decode _ _ = .ok (.i2l, 1) by decide +kernel) ?_
        refine FW.sub [2, 3, 4, 5, 6, 7] (ls' := [(0, .ref p0), (3, .int p3), (4, .int p4), (5, .int p5), (6, .int p6), (7, .int p7)]) rfl ?_
        exact sj_X11_work_112 hd hK38 h_118
      · have h_119 := ipos hc197 h_114
        refine fw_iload (i := 9) 0 rfl (show decode _ _ = .ok (.iload 9, 2) by decide +kernel) ?_
        refine fw_i2l (show decode _ _ = .ok (.i2l, 1) by decide +kernel) ?_
        refine fw_goto 112 (show decode _ _ = .ok (.goto 11, 3) by decide +kernel) (by decide) ?_
        refine FW.sub [2, 3, 4, 5, 6, 7] (ls' := [(0, .ref p0), (3, .int p3), (4, .int p4), (5, .int p5), (6, .int p6), (7, .int p7)]) rfl ?_
        exact sj_X11_work_112 hd hK38 h_119
theorem sl_X11_work_38 {g : GT} {d : Nat} (hd : 3 ≤ d + 1) {φ : fM → Prop} : ∀ (n : Nat) {p0 : Nat} {p3 : Int32} {p4 : Int32} {p5 : Int32} {p6 : Int32} {p7 : Int32} {M : fM}, l_X11_work_38 φ n p0 p3 p4 p5 p6 p7 M → FW g mtX11_work (d + 1) 38 [(0, .ref p0), (3, .int p3), (4, .int p4), (5, .int p5), (6, .int p6), (7, .int p7)] [] M 0 0 (rV φ)
  | 0 => fun h => h.elim
  | n + 1 => fun h => sb_X11_work_38 hd (fun _ _ _ _ _ _ _ h => sl_X11_work_38 hd n h) h
def w_X11_work (p0 : Nat) (p1 : Int32) (p2 : Int32) (M : fM) (φ : fM → Prop) : Prop := nm ((((705 : Int32) * p1) + (1 : Int32)) + ((4 : Int32) * p2)) fun x200 => nm (((705 : Int32) * p1) + (97 : Int32)) fun x202 => isO M p0 11 ∧ dR (mP M p0 2) fun y207 => inA M y207 12 (x200 + (2 : Int32)) ∧ nm (mI M y207 (ix (x200 + (2 : Int32)))) fun x212 => ∃ n, l_X11_work_38 φ n p0 x200 x202 (0 : Int32) (0 : Int32) x212 M
set_option maxRecDepth 100000 in
theorem s_X11_work {g : GT} {d : Nat} (hd : 3 ≤ d) {p0 : Nat} {p1 : Int32} {p2 : Int32} {M : fM} {φ : fM → Prop} (h : w_X11_work p0 p1 p2 M φ) : FC g mtX11_work d [.ref p0, .int p1, .int p2] M 0 0 (rV φ) := by
  obtain ⟨d, rfl⟩ : ∃ e, d = e + 1 := ⟨d - 1, by omega⟩
  unfold w_X11_work at h
  refine FC.intro (nL := 10) (by decide) rfl (Nat.le_of_ble_eq_true rfl) ?_
  show FW g mtX11_work (d + 1) 0 [(0, .ref p0), (1, .int p1), (2, .int p2)] [] M 0 0 (rV φ)
  refine fw_sipush (v := (705 : Int32)) (show decode _ _ = .ok (.sipush 705, 3) by decide +kernel) (by decide) ?_
  refine fw_iload_n (i := 1) 1 rfl (show decode _ _ = .ok (.iload_n 1, 1) by decide +kernel) ?_
  refine fw_imul (show decode _ _ = .ok (.imul, 1) by decide +kernel) ?_
  refine fw_iconst (v := (1 : Int32)) (show decode _ _ = .ok (.iconst 1, 1) by decide +kernel) (by decide) ?_
  refine fw_iadd (show decode _ _ = .ok (.iadd, 1) by decide +kernel) ?_
  refine fw_iconst (v := (4 : Int32)) (show decode _ _ = .ok (.iconst 4, 1) by decide +kernel) (by decide) ?_
  refine fw_iload_n (i := 2) 2 rfl (show decode _ _ = .ok (.iload_n 2, 1) by decide +kernel) ?_
  refine fw_imul (show decode _ _ = .ok (.imul, 1) by decide +kernel) ?_
  refine fw_iadd (show decode _ _ = .ok (.iadd, 1) by decide +kernel) ?_
  refine fw_nmI (fun x200 ex201 => ?_)
  have h_1 := h x200 ex201
  refine fw_istore_n (i := 3) (ls' := [(3, .int x200), (0, .ref p0), (1, .int p1), (2, .int p2)]) (show decode _ _ = .ok (.istore_n 3, 1) by decide +kernel) (by decide) rfl ?_
  refine fw_sipush (v := (705 : Int32)) (show decode _ _ = .ok (.sipush 705, 3) by decide +kernel) (by decide) ?_
  refine fw_iload_n (i := 1) 2 rfl (show decode _ _ = .ok (.iload_n 1, 1) by decide +kernel) ?_
  refine fw_imul (show decode _ _ = .ok (.imul, 1) by decide +kernel) ?_
  refine fw_bipush (v := (97 : Int32)) (show decode _ _ = .ok (.bipush 97, 2) by decide +kernel) (by decide) ?_
  refine fw_iadd (show decode _ _ = .ok (.iadd, 1) by decide +kernel) ?_
  refine fw_nmI (fun x202 ex203 => ?_)
  have h_2 := h_1 x202 ex203
  refine fw_istore (i := 4) (ls' := [(4, .int x202), (3, .int x200), (0, .ref p0), (1, .int p1), (2, .int p2)]) (show decode _ _ = .ok (.istore 4, 2) by decide +kernel) (by decide) rfl ?_
  refine fw_iconst (v := (0 : Int32)) (show decode _ _ = .ok (.iconst 0, 1) by decide +kernel) (by decide) ?_
  refine fw_istore (i := 5) (ls' := [(5, .int (0 : Int32)), (4, .int x202), (3, .int x200), (0, .ref p0), (1, .int p1), (2, .int p2)]) (show decode _ _ = .ok (.istore 5, 2) by decide +kernel) (by decide) rfl ?_
  refine fw_iconst (v := (0 : Int32)) (show decode _ _ = .ok (.iconst 0, 1) by decide +kernel) (by decide) ?_
  refine fw_istore (i := 6) (ls' := [(6, .int (0 : Int32)), (5, .int (0 : Int32)), (4, .int x202), (3, .int x200), (0, .ref p0), (1, .int p1), (2, .int p2)]) (show decode _ _ = .ok (.istore 6, 2) by decide +kernel) (by decide) rfl ?_
  refine fw_aload_n (i := 0) 4 rfl (show decode _ _ = .ok (.aload_n 0, 1) by decide +kernel) ?_
  obtain ⟨⟨hr205, n204, hs206⟩, h_3⟩ := h_2
  refine fw_getP (kd := 11) (k := 2) (show decode _ _ = .ok (.getfield 16, 3) by decide +kernel) gf_X11_16 hr205 hs206 rfl ?_
  have h_4 := dR_e h_3
  obtain ⟨y207, hy208, h_5⟩ := h_4
  refine fw_deref hy208 ?_
  refine fw_iload_n (i := 3) 3 rfl (show decode _ _ = .ok (.iload_n 3, 1) by decide +kernel) ?_
  refine fw_iconst (v := (2 : Int32)) (show decode _ _ = .ok (.iconst 2, 1) by decide +kernel) (by decide) ?_
  refine fw_iadd (show decode _ _ = .ok (.iadd, 1) by decide +kernel) ?_
  obtain ⟨⟨n209, hs210, hi211⟩, h_6⟩ := h_5
  refine fw_iald (show decode _ _ = .ok (.iaload, 1) by decide +kernel) hs210 hi211 ?_
  refine fw_nmI (fun x212 ex213 => ?_)
  have h_7 := h_6 x212 ex213
  refine fw_istore (i := 7) (ls' := [(7, .int x212), (6, .int (0 : Int32)), (5, .int (0 : Int32)), (4, .int x202), (3, .int x200), (0, .ref p0), (1, .int p1), (2, .int p2)]) (show decode _ _ = .ok (.istore 7, 2) by decide +kernel) (by decide) rfl ?_
  refine FW.sub [5, 4, 3, 2, 1, 0] (ls' := [(0, .ref p0), (3, .int x200), (4, .int x202), (5, .int (0 : Int32)), (6, .int (0 : Int32)), (7, .int x212)]) rfl ?_
  obtain ⟨nn, h_8⟩ := h_7
  exact sl_X11_work_38 hd nn h_8
