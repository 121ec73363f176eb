def w_X6_saidOf (p0 : Nat) (p1 : Int32) (p2 : Int32) (p3 : Int32) (p4 : Int32) (p5 : Int32) (M : fM) (φ : Int32 → fM → Prop) : Prop := isO M p0 6 ∧ dR (mP M p0 0) fun y4 => isO M y4 5 ∧ w_X5_houseOf y4 p2 M fun o10 M6 => gN o10 (fun y11 => isO M6 y11 0 ∧ w_X0_hasStep y11 p4 M6 fun x17 M13 => iF (x17 = 0) (φ (-1 : Int32) M13) (isO M13 p0 6 ∧ dR (mP M13 p0 0) fun y21 => isO M13 y21 5 ∧ w_X5_isPerson y21 p1 M13 fun x27 M23 => iF (x27 = 0) (φ (-1 : Int32) M23) (iF (p3 < 0) (φ (-1 : Int32) M23) (iF (p3 < (4 : Int32)) (isO M23 p0 6 ∧ dR (mP M23 p0 1) fun y31 => dR (mP M23 p0 0) fun y33 => dR (mP M23 p0 0) fun y35 => dR (mP M23 p0 0) fun y37 => isO M23 y37 5 ∧ isO M23 y35 5 ∧ w_X5_textOf y35 (mI M23 y37 15) M23 fun o46 M42 => isO M42 y31 1 ∧ w_X1_turnTo y31 y33 o46 p1 p2 p3 M42 fun M47 => isO M47 p0 6 ∧ dR (mP M47 p0 1) fun y54 => isO M47 y54 1 ∧ w_X1_face y54 y11 p4 M47 fun M56 => iF (p5 = (0 : Int32)) (isO M56 p0 6 ∧ dR (mP M56 p0 1) fun y63 => isO M56 y63 1 ∧ w_X1_noneNow y63 M56 fun x69 M65 => φ x69 M65) (iF (p5 = (1 : Int32)) (isO M56 p0 6 ∧ dR (mP M56 p0 1) fun y74 => dR (mP M56 p0 1) fun y76 => isO M56 y76 1 ∧ w_X1_noneNow y76 M56 fun x82 M78 => isO M78 y74 1 ∧ w_X1_twiceNow y74 x82 M78 fun x87 M83 => φ x87 M83) (iF (p5 = (2 : Int32)) (isO M56 p0 6 ∧ dR (mP M56 p0 1) fun y92 => isO M56 y92 1 ∧ w_X1_tripsNow y92 M56 fun x98 M94 => iF (x98 = 0) (φ (0 : Int32) M94) (φ (1 : Int32) M94)) (iF (p5 = (3 : Int32)) (isO M56 p0 6 ∧ dR (mP M56 p0 1) fun y104 => isO M56 y104 1 ∧ w_X1_jarNow y104 M56 fun x110 M106 => φ x110 M106) (iF (p5 = (4 : Int32)) (isO M56 p0 6 ∧ dR (mP M56 p0 1) fun y115 => isO M56 y115 1 ∧ w_X1_fallNow y115 M56 fun x121 M117 => φ x121 M117) (φ (-1 : Int32) M56)))))) (φ (-1 : Int32) M23))))) (φ (-1 : Int32) M6)
set_option maxRecDepth 100000 in
theorem s_X6_saidOf {g : GT} {d : Nat} (hd : 4 ≤ d) {p0 : Nat} {p1 : Int32} {p2 : Int32} {p3 : Int32} {p4 : Int32} {p5 : Int32} {M : fM} {φ : Int32 → fM → Prop} (h : w_X6_saidOf p0 p1 p2 p3 p4 p5 M φ) : FC g mtX6_saidOf d [.ref p0, .int p1, .int p2, .int p3, .int p4, .int p5] M 0 0 (rI φ) := by
  obtain ⟨d, rfl⟩ : ∃ e, d = e + 1 := ⟨d - 1, by omega⟩
  unfold w_X6_saidOf at h
  refine FC.intro (nL := 7) (by decide) rfl (Nat.le_of_ble_eq_true rfl) ?_
  show FW g mtX6_saidOf (d + 1) 0 [(0, .ref p0), (1, .int p1), (2, .int p2), (3, .int p3), (4, .int p4), (5, .int p5)] [] M 0 0 (rI φ)
  refine fw_aload_n (i := 0) 0 rfl (show decode _ _ = .ok (.aload_n 0, 1) by decide +kernel) ?_
  obtain ⟨⟨hr2, n1, hs3⟩, h_1⟩ := h
  refine fw_getP (kd := 6) (k := 0) (show decode _ _ = .ok (.getfield 15, 3) by decide +kernel) gf_X6_15 hr2 hs3 rfl ?_
  have h_2 := dR_e h_1
  obtain ⟨y4, hy5, h_3⟩ := h_2
  refine fw_deref hy5 ?_
  refine fw_iload_n (i := 2) 2 rfl (show decode _ _ = .ok (.iload_n 2, 1) by decide +kernel) ?_
  obtain ⟨⟨hr8, n7, hs9⟩, h_4⟩ := h_3
  refine fw_callV (mt' := mtX5_houseOf) (mc := 0) (ms := 0) (As := [.int p2]) (rest := []) 1 5 n7 (show decode _ _ = .ok (.invokevirtual 23, 3) by decide +kernel) cv_X6_23 ⟨_, rfl, rfl⟩ hr8 hs9 rfl (Nat.le_of_ble_eq_true rfl) (s_X5_houseOf (d := d) (hd_le hd (by decide)) h_4) (by decide) (by decide) (kP (bc' := 0) (bs' := 0) (by decide) (by decide) (fun o10 M6 h_5 => ?_))
  refine fw_astoreq (i := 6) (ls' := [(6, fr o10), (0, .ref p0), (1, .int p1), (2, .int p2), (3, .int p3), (4, .int p4), (5, .int p5)]) (show decode _ _ = .ok (.astore 6, 2) by decide +kernel) (by decide) rfl ?_
  refine fw_aloadq (i := 6) 0 rfl (show decode _ _ = .ok (.aload 6, 2) by decide +kernel) ?_
  refine fw_ifnull (x := o10) 45 (show decode _ _ = .ok (.ifnull 33, 3) by decide +kernel) (by decide) (fun hy12 => ?_) (fun y11 hy12 => ?_)
  · have h_6 := gN_n hy12 h_5
    subst hy12
    refine fw_iconst (v := (-1 : Int32)) (show decode _ _ = .ok (.iconst (-1), 1) by decide +kernel) (by decide) ?_
    exact fw_ret (v := some (.int (-1 : Int32))) .ireturn (show decode _ _ = .ok (.ireturn, 1) by decide +kernel) ⟨rfl, Or.inl rfl⟩ ⟨_, rfl, h_6⟩
  · have h_7 := gN_s hy12 h_5
    subst hy12
    refine fw_aload (i := 6) 0 rfl (show decode _ _ = .ok (.aload 6, 2) by decide +kernel) ?_
    refine fw_iload (i := 4) 5 rfl (show decode _ _ = .ok (.iload 4, 2) by decide +kernel) ?_
    obtain ⟨⟨hr15, n14, hs16⟩, h_8⟩ := h_7
    refine fw_callV (mt' := mtX0_hasStep) (mc := 0) (ms := 0) (As := [.int p4]) (rest := []) 1 0 n14 (show decode _ _ = .ok (.invokevirtual 29, 3) by decide +kernel) cv_X6_29 ⟨_, rfl, rfl⟩ hr15 hs16 rfl (Nat.le_of_ble_eq_true rfl) (s_X0_hasStep (d := d) (hd_le hd (by decide)) h_8) (by decide) (by decide) (kI (bc' := 0) (bs' := 0) (by decide) (by decide) (fun x17 M13 h_9 => ?_))
    refine fw_if_eq 45 (show decode _ _ = .ok (.ifCond .eq 23, 3) by decide +kernel) (by decide) (fun hc128 => ?_) (fun hc128 => ?_)
    · have h_10 := ipos hc128 h_9
      refine fw_iconst (v := (-1 : Int32)) (show decode _ _ = .ok (.iconst (-1), 1) by decide +kernel) (by decide) ?_
      exact fw_ret (v := some (.int (-1 : Int32))) .ireturn (show decode _ _ = .ok (.ireturn, 1) by decide +kernel) ⟨rfl, Or.inl rfl⟩ ⟨_, rfl, h_10⟩
    · have h_11 := ineg hc128 h_9
      refine fw_aload_n (i := 0) 1 rfl (show decode _ _ = .ok (.aload_n 0, 1) by decide +kernel) ?_
      obtain ⟨⟨hr19, n18, hs20⟩, h_12⟩ := h_11
      refine fw_getP (kd := 6) (k := 0) (show decode _ _ = .ok (.getfield 15, 3) by decide +kernel) gf_X6_15 hr19 hs20 rfl ?_
      have h_13 := dR_e h_12
      obtain ⟨y21, hy22, h_14⟩ := h_13
      refine fw_deref hy22 ?_
      refine fw_iload_n (i := 1) 2 rfl (show decode _ _ = .ok (.iload_n 1, 1) by decide +kernel) ?_
      obtain ⟨⟨hr25, n24, hs26⟩, h_15⟩ := h_14
      refine fw_callV (mt' := mtX5_isPerson) (mc := 0) (ms := 0) (As := [.int p1]) (rest := []) 1 5 n24 (show decode _ _ = .ok (.invokevirtual 35, 3) by decide +kernel) cv_X6_35 ⟨_, rfl, rfl⟩ hr25 hs26 rfl (Nat.le_of_ble_eq_true rfl) (s_X5_isPerson (d := d) (hd_le hd (by decide)) h_15) (by decide) (by decide) (kI (bc' := 0) (bs' := 0) (by decide) (by decide) (fun x27 M23 h_16 => ?_))
      refine fw_if_eq 45 (show decode _ _ = .ok (.ifCond .eq 12, 3) by decide +kernel) (by decide) (fun hc127 => ?_) (fun hc127 => ?_)
      · have h_17 := ipos hc127 h_16
        refine fw_iconst (v := (-1 : Int32)) (show decode _ _ = .ok (.iconst (-1), 1) by decide +kernel) (by decide) ?_
        exact fw_ret (v := some (.int (-1 : Int32))) .ireturn (show decode _ _ = .ok (.ireturn, 1) by decide +kernel) ⟨rfl, Or.inl rfl⟩ ⟨_, rfl, h_17⟩
      · have h_18 := ineg hc127 h_16
        refine fw_iload_n (i := 3) 4 rfl (show decode _ _ = .ok (.iload_n 3, 1) by decide +kernel) ?_
        refine fw_if_lt 45 (show decode _ _ = .ok (.ifCond .lt 8, 3) by decide +kernel) (by decide) (fun hc126 => ?_) (fun hc126 => ?_)
        · have h_19 := ipos hc126 h_18
          refine fw_iconst (v := (-1 : Int32)) (show decode _ _ = .ok (.iconst (-1), 1) by decide +kernel) (by decide) ?_
          exact fw_ret (v := some (.int (-1 : Int32))) .ireturn (show decode _ _ = .ok (.ireturn, 1) by decide +kernel) ⟨rfl, Or.inl rfl⟩ ⟨_, rfl, h_19⟩
        · have h_20 := ineg hc126 h_18
          refine fw_iload_n (i := 3) 4 rfl (show decode _ _ = .ok (.iload_n 3, 1) by decide +kernel) ?_
          refine fw_iconst (v := (4 : Int32)) (show decode _ _ = .ok (.iconst 4, 1) by decide +kernel) (by decide) ?_
          refine fw_icmp_lt 47 (show decode _ _ = .ok (.if_icmp .lt 5, 3) by decide +kernel) (by decide) (fun hc125 => ?_) (fun hc125 => ?_)
          · have h_21 := ipos hc125 h_20
            refine fw_aload_n (i := 0) 1 rfl (show decode _ _ = .ok (.aload_n 0, 1) by decide +kernel) ?_
            obtain ⟨⟨hr29, n28, hs30⟩, h_22⟩ := h_21
            refine fw_getP (kd := 6) (k := 1) (show decode _ _ = .ok (.getfield 19, 3) by decide +kernel) gf_X6_19 hr29 hs30 rfl ?_
            have h_23 := dR_e h_22
            obtain ⟨y31, hy32, h_24⟩ := h_23
            refine fw_deref hy32 ?_
            refine fw_aload_n (i := 0) 1 rfl (show decode _ _ = .ok (.aload_n 0, 1) by decide +kernel) ?_
            refine fw_getP (kd := 6) (k := 0) (show decode _ _ = .ok (.getfield 15, 3) by decide +kernel) gf_X6_15 hr29 hs30 rfl ?_
            have h_25 := dR_e h_24
            obtain ⟨y33, hy34, h_26⟩ := h_25
            refine fw_deref hy34 ?_
            refine fw_aload_n (i := 0) 1 rfl (show decode _ _ = .ok (.aload_n 0, 1) by decide +kernel) ?_
            refine fw_getP (kd := 6) (k := 0) (show decode _ _ = .ok (.getfield 15, 3) by decide +kernel) gf_X6_15 hr29 hs30 rfl ?_
            have h_27 := dR_e h_26
            obtain ⟨y35, hy36, h_28⟩ := h_27
            refine fw_deref hy36 ?_
            refine fw_aload_n (i := 0) 1 rfl (show decode _ _ = .ok (.aload_n 0, 1) by decide +kernel) ?_
            refine fw_getP (kd := 6) (k := 0) (show decode _ _ = .ok (.getfield 15, 3) by decide +kernel) gf_X6_15 hr29 hs30 rfl ?_
            have h_29 := dR_e h_28
            obtain ⟨y37, hy38, h_30⟩ := h_29
            refine fw_deref hy38 ?_
            obtain ⟨⟨hr40, n39, hs41⟩, h_31⟩ := h_30
            refine fw_getI (kd := 5) (k := 15) (show decode _ _ = .ok (.getfield 38, 3) by decide +kernel) gf_X6_38 hr40 hs41 (Or.inl rfl) ?_
            obtain ⟨⟨hr44, n43, hs45⟩, h_32⟩ := h_31
            refine fw_callV (mt' := mtX5_textOf) (mc := 0) (ms := 0) (As := [.int (mI M23 y37 15)]) (rest := [.ref y33, .ref y31]) 1 5 n43 (show decode _ _ = .ok (.invokevirtual 42, 3) by decide +kernel) cv_X6_42 ⟨_, rfl, rfl⟩ hr44 hs45 rfl (Nat.le_of_ble_eq_true rfl) (s_X5_textOf (d := d) (hd_le hd (by decide)) h_32) (by decide) (by decide) (kP (bc' := 0) (bs' := 0) (by decide) (by decide) (fun o46 M42 h_33 => ?_))
            refine fw_iload_n (i := 1) 2 rfl (show decode _ _ = .ok (.iload_n 1, 1) by decide +kernel) ?_
            refine fw_iload_n (i := 2) 3 rfl (show decode _ _ = .ok (.iload_n 2, 1) by decide +kernel) ?_
            refine fw_iload_n (i := 3) 4 rfl (show decode _ _ = .ok (.iload_n 3, 1) by decide +kernel) ?_
            obtain ⟨⟨hr49, n48, hs50⟩, h_34⟩ := h_33
            refine fw_callV (mt' := mtX1_turnTo) (mc := 0) (ms := 0) (As := [.ref y33, fr o46, .int p1, .int p2, .int p3]) (rest := []) 5 1 n48 (show decode _ _ = .ok (.invokevirtual 46, 3) by decide +kernel) cv_X6_46 ⟨_, rfl, rfl⟩ hr49 hs50 rfl (Nat.le_of_ble_eq_true rfl) (s_X1_turnTo (d := d) (hd_le hd (by decide)) h_34) (by decide) (by decide) (kV (bc' := 0) (bs' := 0) (by decide) (by decide) (fun M47 h_35 => ?_))
            refine fw_aload_n (i := 0) 1 rfl (show decode _ _ = .ok (.aload_n 0, 1) by decide +kernel) ?_
            obtain ⟨⟨hr52, n51, hs53⟩, h_36⟩ := h_35
            refine fw_getP (kd := 6) (k := 1) (show decode _ _ = .ok (.getfield 19, 3) by decide +kernel) gf_X6_19 hr52 hs53 rfl ?_
            have h_37 := dR_e h_36
            obtain ⟨y54, hy55, h_38⟩ := h_37
            refine fw_deref hy55 ?_
            refine fw_aload (i := 6) 0 rfl (show decode _ _ = .ok (.aload 6, 2) by decide +kernel) ?_
            refine fw_iload (i := 4) 5 rfl (show decode _ _ = .ok (.iload 4, 2) by decide +kernel) ?_
            obtain ⟨⟨hr58, n57, hs59⟩, h_39⟩ := h_38
            refine fw_callV (mt' := mtX1_face) (mc := 0) (ms := 0) (As := [.ref y11, .int p4]) (rest := []) 2 1 n57 (show decode _ _ = .ok (.invokevirtual 52, 3) by decide +kernel) cv_X6_52 ⟨_, rfl, rfl⟩ hr58 hs59 rfl (Nat.le_of_ble_eq_true rfl) (s_X1_face (d := d) (hd_le hd (by decide)) h_39) (by decide) (by decide) (kV (bc' := 0) (bs' := 0) (by decide) (by decide) (fun M56 h_40 => ?_))
            refine fw_iload (i := 5) 6 rfl (show decode _ _ = .ok (.iload 5, 2) by decide +kernel) ?_
            by_cases hc70 : p5 = (0 : Int32)
            · have h_41 := ipos hc70 h_40
              refine fw_tin (off := 36) 124 (show decode _ _ = .ok (.tableswitch 91 0 4 #[36, 44, 59, 75, 83], 36) by decide +kernel) (by rw [hc70]; decide) (by rw [hc70]; decide) (by rw [hc70]; rfl) (by decide) ?_
              refine fw_aload_n (i := 0) 1 rfl (show decode _ _ = .ok (.aload_n 0, 1) by decide +kernel) ?_
              obtain ⟨⟨hr61, n60, hs62⟩, h_42⟩ := h_41
              refine fw_getP (kd := 6) (k := 1) (show decode _ _ = .ok (.getfield 19, 3) by decide +kernel) gf_X6_19 hr61 hs62 rfl ?_
              have h_43 := dR_e h_42
              obtain ⟨y63, hy64, h_44⟩ := h_43
              refine fw_deref hy64 ?_
              obtain ⟨⟨hr67, n66, hs68⟩, h_45⟩ := h_44
              refine fw_callV (mt' := mtX1_noneNow) (mc := 0) (ms := 0) (As := []) (rest := []) 0 1 n66 (show decode _ _ = .ok (.invokevirtual 56, 3) by decide +kernel) cv_X6_56 ⟨_, rfl, rfl⟩ hr67 hs68 rfl (Nat.le_of_ble_eq_true rfl) (s_X1_noneNow (d := d) (hd_le hd (by decide)) h_45) (by decide) (by decide) (kI (bc' := 0) (bs' := 0) (by decide) (by decide) (fun x69 M65 h_46 => ?_))
              exact fw_ret (v := some (.int x69)) .ireturn (show decode _ _ = .ok (.ireturn, 1) by decide +kernel) ⟨rfl, Or.inl rfl⟩ ⟨_, rfl, h_46⟩
            have h_47 := ineg hc70 h_40
            by_cases hc88 : p5 = (1 : Int32)
            · have h_48 := ipos hc88 h_47
              refine fw_tin (off := 44) 132 (show decode _ _ = .ok (.tableswitch 91 0 4 #[36, 44, 59, 75, 83], 36) by decide +kernel) (by rw [hc88]; decide) (by rw [hc88]; decide) (by rw [hc88]; rfl) (by decide) ?_
              refine fw_aload_n (i := 0) 1 rfl (show decode _ _ = .ok (.aload_n 0, 1) by decide +kernel) ?_
              obtain ⟨⟨hr72, n71, hs73⟩, h_49⟩ := h_48
              refine fw_getP (kd := 6) (k := 1) (show decode _ _ = .ok (.getfield 19, 3) by decide +kernel) gf_X6_19 hr72 hs73 rfl ?_
              have h_50 := dR_e h_49
              obtain ⟨y74, hy75, h_51⟩ := h_50
              refine fw_deref hy75 ?_
              refine fw_aload_n (i := 0) 1 rfl (show decode _ _ = .ok (.aload_n 0, 1) by decide +kernel) ?_
              refine fw_getP (kd := 6) (k := 1) (show decode _ _ = .ok (.getfield 19, 3) by decide +kernel) gf_X6_19 hr72 hs73 rfl ?_
              have h_52 := dR_e h_51
              obtain ⟨y76, hy77, h_53⟩ := h_52
              refine fw_deref hy77 ?_
              obtain ⟨⟨hr80, n79, hs81⟩, h_54⟩ := h_53
              refine fw_callV (mt' := mtX1_noneNow) (mc := 0) (ms := 0) (As := []) (rest := [.ref y74]) 0 1 n79 (show decode _ _ = .ok (.invokevirtual 56, 3) by decide +kernel) cv_X6_56 ⟨_, rfl, rfl⟩ hr80 hs81 rfl (Nat.le_of_ble_eq_true rfl) (s_X1_noneNow (d := d) (hd_le hd (by decide)) h_54) (by decide) (by decide) (kI (bc' := 0) (bs' := 0) (by decide) (by decide) (fun x82 M78 h_55 => ?_))
              obtain ⟨⟨hr85, n84, hs86⟩, h_56⟩ := h_55
              refine fw_callV (mt' := mtX1_twiceNow) (mc := 0) (ms := 0) (As := [.int x82]) (rest := []) 1 1 n84 (show decode _ _ = .ok (.invokevirtual 60, 3) by decide +kernel) cv_X6_60 ⟨_, rfl, rfl⟩ hr85 hs86 rfl (Nat.le_of_ble_eq_true rfl) (s_X1_twiceNow (d := d) (hd_le hd (by decide)) h_56) (by decide) (by decide) (kI (bc' := 0) (bs' := 0) (by decide) (by decide) (fun x87 M83 h_57 => ?_))
              exact fw_ret (v := some (.int x87)) .ireturn (show decode _ _ = .ok (.ireturn, 1) by decide +kernel) ⟨rfl, Or.inl rfl⟩ ⟨_, rfl, h_57⟩
            have h_58 := ineg hc88 h_47
            by_cases hc100 : p5 = (2 : Int32)
            · have h_59 := ipos hc100 h_58
              refine fw_tin (off := 59) 147 (show decode _ _ = .ok (.tableswitch 91 0 4 #[36, 44, 59, 75, 83], 36) by decide +kernel) (by rw [hc100]; decide) (by rw [hc100]; decide) (by rw [hc100]; rfl) (by decide) ?_
              refine fw_aload_n (i := 0) 1 rfl (show decode _ _ = .ok (.aload_n 0, 1) by decide +kernel) ?_
              obtain ⟨⟨hr90, n89, hs91⟩, h_60⟩ := h_59
              refine fw_getP (kd := 6) (k := 1) (show decode _ _ = .ok (.getfield 19, 3) by decide +kernel) gf_X6_19 hr90 hs91 rfl ?_
              have h_61 := dR_e h_60
              obtain ⟨y92, hy93, h_62⟩ := h_61
              refine fw_deref hy93 ?_
              obtain ⟨⟨hr96, n95, hs97⟩, h_63⟩ := h_62
              refine fw_callV (mt' := mtX1_tripsNow) (mc := 0) (ms := 0) (As := []) (rest := []) 0 1 n95 (show decode _ _ = .ok (.invokevirtual 64, 3) by decide +kernel) cv_X6_64 ⟨_, rfl, rfl⟩ hr96 hs97 rfl (Nat.le_of_ble_eq_true rfl) (s_X1_tripsNow (d := d) (hd_le hd (by decide)) h_63) (by decide) (by decide) (kI (bc' := 0) (bs' := 0) (by decide) (by decide) (fun x98 M94 h_64 => ?_))
              refine fw_if_eq 161 (show decode _ _ = .ok (.ifCond .eq 7, 3) by decide +kernel) (by decide) (fun hc99 => ?_) (fun hc99 => ?_)
              · have h_65 := ipos hc99 h_64
                refine fw_iconst (v := (0 : Int32)) (show decode _ _ = .ok (.iconst 0, 1) by decide +kernel) (by decide) ?_
                exact fw_ret (v := some (.int (0 : Int32))) .ireturn (show decode _ _ = .ok (.ireturn, 1) by decide +kernel) ⟨rfl, Or.inl rfl⟩ ⟨_, rfl, h_65⟩
              · have h_66 := ineg hc99 h_64
                refine fw_iconst (v := (1 : Int32)) (show decode _ _ = .ok (.iconst 1, 1) by decide +kernel) (by decide) ?_
                refine fw_goto 162 (show decode _ _ = .ok (.goto 4, 3) by decide +kernel) (by decide) ?_
                exact fw_ret (v := some (.int (1 : Int32))) .ireturn (show decode _ _ = .ok (.ireturn, 1) by decide +kernel) ⟨rfl, Or.inl rfl⟩ ⟨_, rfl, h_66⟩
            have h_67 := ineg hc100 h_58
            by_cases hc111 : p5 = (3 : Int32)
            · have h_68 := ipos hc111 h_67
              refine fw_tin (off := 75) 163 (show decode _ _ = .ok (.tableswitch 91 0 4 #[36, 44, 59, 75, 83], 36) by decide +kernel) (by rw [hc111]; decide) (by rw [hc111]; decide) (by rw [hc111]; rfl) (by decide) ?_
              refine fw_aload_n (i := 0) 1 rfl (show decode _ _ = .ok (.aload_n 0, 1) by decide +kernel) ?_
              obtain ⟨⟨hr102, n101, hs103⟩, h_69⟩ := h_68
              refine fw_getP (kd := 6) (k := 1) (show decode _ _ = .ok (.getfield 19, 3) by decide +kernel) gf_X6_19 hr102 hs103 rfl ?_
              have h_70 := dR_e h_69
              obtain ⟨y104, hy105, h_71⟩ := h_70
              refine fw_deref hy105 ?_
              obtain ⟨⟨hr108, n107, hs109⟩, h_72⟩ := h_71
              refine fw_callV (mt' := mtX1_jarNow) (mc := 0) (ms := 0) (As := []) (rest := []) 0 1 n107 (show decode _ _ = .ok (.invokevirtual 68, 3) by decide +kernel) cv_X6_68 ⟨_, rfl, rfl⟩ hr108 hs109 rfl (Nat.le_of_ble_eq_true rfl) (s_X1_jarNow (d := d) (hd_le hd (by decide)) h_72) (by decide) (by decide) (kI (bc' := 0) (bs' := 0) (by decide) (by decide) (fun x110 M106 h_73 => ?_))
              exact fw_ret (v := some (.int x110)) .ireturn (show decode _ _ = .ok (.ireturn, 1) by decide +kernel) ⟨rfl, Or.inl rfl⟩ ⟨_, rfl, h_73⟩
            have h_74 := ineg hc111 h_67
            by_cases hc122 : p5 = (4 : Int32)
            · have h_75 := ipos hc122 h_74
              refine fw_tin (off := 83) 171 (show decode _ _ = .ok (.tableswitch 91 0 4 #[36, 44, 59, 75, 83], 36) by decide +kernel) (by rw [hc122]; decide) (by rw [hc122]; decide) (by rw [hc122]; rfl) (by decide) ?_
              refine fw_aload_n (i := 0) 1 rfl (show decode _ _ = .ok (.aload_n 0, 1) by decide +kernel) ?_
              obtain ⟨⟨hr113, n112, hs114⟩, h_76⟩ := h_75
              refine fw_getP (kd := 6) (k := 1) (show decode _ _ = .ok (.getfield 19, 3) by decide +kernel) gf_X6_19 hr113 hs114 rfl ?_
              have h_77 := dR_e h_76
              obtain ⟨y115, hy116, h_78⟩ := h_77
              refine fw_deref hy116 ?_
              obtain ⟨⟨hr119, n118, hs120⟩, h_79⟩ := h_78
              refine fw_callV (mt' := mtX1_fallNow) (mc := 0) (ms := 0) (As := []) (rest := []) 0 1 n118 (show decode _ _ = .ok (.invokevirtual 71, 3) by decide +kernel) cv_X6_71 ⟨_, rfl, rfl⟩ hr119 hs120 rfl (Nat.le_of_ble_eq_true rfl) (s_X1_fallNow (d := d) (hd_le hd (by decide)) h_79) (by decide) (by decide) (kI (bc' := 0) (bs' := 0) (by decide) (by decide) (fun x121 M117 h_80 => ?_))
              exact fw_ret (v := some (.int x121)) .ireturn (show decode _ _ = .ok (.ireturn, 1) by decide +kernel) ⟨rfl, Or.inl rfl⟩ ⟨_, rfl, h_80⟩
            have h_81 := ineg hc122 h_74
            by_cases ho123 : Int32.toInt p5 < 0 ∨ 4 < Int32.toInt p5
            · refine fw_tout 179 (show decode _ _ = .ok (.tableswitch 91 0 4 #[36, 44, 59, 75, 83], 36) by decide +kernel) ho123 (by decide) ?_
              refine fw_iconst (v := (-1 : Int32)) (show decode _ _ = .ok (.iconst (-1), 1) by decide +kernel) (by decide) ?_
              exact fw_ret (v := some (.int (-1 : Int32))) .ireturn (show decode _ _ = .ok (.ireturn, 1) by decide +kernel) ⟨rfl, Or.inl rfl⟩ ⟨_, rfl, h_81⟩
            have e124 := tsx_0_4 (Int32.toInt p5) ho123
            rcases e124 with e124 | e124 | e124 | e124 | e124
            · exact absurd (Int32.toInt_inj.mp (Eq.trans e124 rfl)) hc70
            · exact absurd (Int32.toInt_inj.mp (Eq.trans e124 rfl)) hc88
            · exact absurd (Int32.toInt_inj.mp (Eq.trans e124 rfl)) hc100
            · exact absurd (Int32.toInt_inj.mp (Eq.trans e124 rfl)) hc111
            · exact absurd (Int32.toInt_inj.mp (Eq.trans e124 rfl)) hc122
          · have h_82 := ineg hc125 h_20
            refine fw_iconst (v := (-1 : Int32)) (show decode _ _ = .ok (.iconst (-1), 1) by decide +kernel) (by decide) ?_
            exact fw_ret (v := some (.int (-1 : Int32))) .ireturn (show decode _ _ = .ok (.ireturn, 1) by decide +kernel) ⟨rfl, Or.inl rfl⟩ ⟨_, rfl, h_82⟩
def w_X10_says (p0 : Nat) (p1 : Int32) (p2 : Int32) (p3 : Int32) (p4 : Int32) (p5 : Int32) (M : fM) (φ : Int32 → fM → Prop) : Prop := isO M p0 10 ∧ dR (mP M p0 6) fun y4 => isO M y4 6 ∧ w_X6_saidOf y4 p1 p2 p3 p4 p5 M fun x10 M6 => φ x10 M6
set_option maxRecDepth 100000 in
theorem s_X10_says {g : GT} {d : Nat} (hd : 5 ≤ d) {p0 : Nat} {p1 : Int32} {p2 : Int32} {p3 : Int32} {p4 : Int32} {p5 : Int32} {M : fM} {φ : Int32 → fM → Prop} (h : w_X10_says p0 p1 p2 p3 p4 p5 M φ) : FC g mtX10_says d [.ref p0, .int p1, .int p2, .int p3, .int p4, .int p5] M 0 0 (rI φ) := by
  obtain ⟨d, rfl⟩ : ∃ e, d = e + 1 := ⟨d - 1, by omega⟩
  unfold w_X10_says at h
  refine FC.intro (nL := 6) (by decide) rfl (Nat.le_of_ble_eq_true rfl) ?_
  show FW g mtX10_says (d + 1) 0 [(0, .ref p0), (1, .int p1), (2, .int p2), (3, .int p3), (4, .int p4), (5, .int p5)] [] M 0 0 (rI φ)
  refine fw_aload_n (i := 0) 0 rfl (show decode _ _ = .ok (.aload_n 0, 1) by decide +kernel) ?_
  obtain ⟨⟨hr2, n1, hs3⟩, h_1⟩ := h
  refine fw_getP (kd := 10) (k := 6) (show decode _ _ = .ok (.getfield 57, 3) by decide +kernel) gf_X10_57 hr2 hs3 rfl ?_
  have h_2 := dR_e h_1
  obtain ⟨y4, hy5, h_3⟩ := h_2
  refine fw_deref hy5 ?_
  refine fw_iload_n (i := 1) 1 rfl (show decode _ _ = .ok (.iload_n 1, 1) by decide +kernel) ?_
  refine fw_iload_n (i := 2) 2 rfl (show decode _ _ = .ok (.iload_n 2, 1) by decide +kernel) ?_
  refine fw_iload_n (i := 3) 3 rfl (show decode _ _ = .ok (.iload_n 3, 1) by decide +kernel) ?_
  refine fw_iload (i := 4) 4 rfl (show decode _ _ = .ok (.iload 4, 2) by decide +kernel) ?_
  refine fw_iload (i := 5) 5 rfl (show decode _ _ = .ok (.iload 5, 2) by decide +kernel) ?_
  obtain ⟨⟨hr8, n7, hs9⟩, h_4⟩ := h_3
  refine fw_callV (mt' := mtX6_saidOf) (mc := 0) (ms := 0) (As := [.int p1, .int p2, .int p3, .int p4, .int p5]) (rest := []) 5 6 n7 (show decode _ _ = .ok (.invokevirtual 193, 3) by decide +kernel) cv_X10_193 ⟨_, rfl, rfl⟩ hr8 hs9 rfl (Nat.le_of_ble_eq_true rfl) (s_X6_saidOf (d := d) (hd_le hd (by decide)) h_4) (by decide) (by decide) (kI (bc' := 0) (bs' := 0) (by decide) (by decide) (fun x10 M6 h_5 => ?_))
  exact fw_ret (v := some (.int x10)) .ireturn (show decode _ _ = .ok (.ireturn, 1) by decide +kernel) ⟨rfl, Or.inl rfl⟩ ⟨_, rfl, h_5⟩
def w_X10_seeded (p0 : Int32) (M : fM) (φ : Int32 → fM → Prop) : Prop := φ ((p0 * (3 : Int32)) + (13 : Int32)) M
set_option maxRecDepth 100000 in
theorem s_X10_seeded {g : GT} {d : Nat} (hd : 1 ≤ d) {p0 : Int32} {M : fM} {φ : Int32 → fM → Prop} (h : w_X10_seeded p0 M φ) : FC g mtX10_seeded d [.int p0] M 0 0 (rI φ) := by
  obtain ⟨d, rfl⟩ : ∃ e, d = e + 1 := ⟨d - 1, by omega⟩
  unfold w_X10_seeded at h
  refine FC.intro (nL := 1) (by decide) rfl (Nat.le_of_ble_eq_true rfl) ?_
  show FW g mtX10_seeded (d + 1) 0 [(0, .int p0)] [] M 0 0 (rI φ)
  refine fw_iload_n (i := 0) 0 rfl (show decode _ _ = .ok (.iload_n 0, 1) by decide +kernel) ?_
  refine fw_iconst (v := (3 : Int32)) (show decode _ _ = .ok (.iconst 3, 1) by decide +kernel) (by decide) ?_
  refine fw_imul (show decode _ _ = .ok (.imul, 1) by decide +kernel) ?_
  refine fw_bipush (v := (13 : Int32)) (show decode _ _ = .ok (.bipush 13, 2) by decide +kernel) (by decide) ?_
  refine fw_iadd (show decode _ _ = .ok (.iadd, 1) by decide +kernel) ?_
  exact fw_ret (v := some (.int ((p0 * (3 : Int32)) + (13 : Int32)))) .ireturn (show decode _ _ = .ok (.ireturn, 1) by decide +kernel) ⟨rfl, Or.inl rfl⟩ ⟨_, rfl, h⟩
def w_X10_seed (p0 : Nat) (p1 : Int32) (M : fM) (φ : Int32 → fM → Prop) : Prop := w_X10_isSeed p1 M fun x2 M1 => iF (x2 = 0) (φ (0 : Int32) M1) (isO M1 p0 10 ∧ dR (mP M1 p0 0) fun y6 => w_X10_seeded p1 M1 fun x9 M8 => isO M8 y6 5 ∧ st (wI M8 y6 5 x9) fun M13 => φ (1 : Int32) M13)
set_option maxRecDepth 100000 in
theorem s_X10_seed {g : GT} {d : Nat} (hd : 2 ≤ d) {p0 : Nat} {p1 : Int32} {M : fM} {φ : Int32 → fM → Prop} (h : w_X10_seed p0 p1 M φ) : FC g mtX10_seed d [.ref p0, .int p1] M 0 0 (rI φ) := by
  obtain ⟨d, rfl⟩ : ∃ e, d = e + 1 := ⟨d - 1, by omega⟩
  unfold w_X10_seed at h
  refine FC.intro (nL := 2) (by decide) rfl (Nat.le_of_ble_eq_true rfl) ?_
  show FW g mtX10_seed (d + 1) 0 [(0, .ref p0), (1, .int p1)] [] M 0 0 (rI φ)
  refine fw_iload_n (i := 1) 1 rfl (show decode _ _ = .ok (.iload_n 1, 1) by decide +kernel) ?_
  refine fw_callS (mt' := mtX10_isSeed) (mc := 0) (ms := 0) (As := [.int p1]) (rest := []) 1 (show decode _ _ = .ok (.invokestatic 87, 3) by decide +kernel) cs_X10_87 rfl (Nat.le_of_ble_eq_true rfl) (s_X10_isSeed (d := d) (hd_le hd (by decide)) h) (by decide) (by decide) (kI (bc' := 0) (bs' := 0) (by decide) (by decide) (fun x2 M1 h_1 => ?_))
  refine fw_if_ne 9 (show decode _ _ = .ok (.ifCond .ne 5, 3) by decide +kernel) (by decide) (fun hc15 => ?_) (fun hc15 => ?_)
  · have h_2 := ineg hc15 h_1
    refine fw_aload_n (i := 0) 0 rfl (show decode _ _ = .ok (.aload_n 0, 1) by decide +kernel) ?_
    obtain ⟨⟨hr4, n3, hs5⟩, h_3⟩ := h_2
    refine fw_getP (kd := 10) (k := 0) (show decode _ _ = .ok (.getfield 13, 3) by decide +kernel) gf_X10_13 hr4 hs5 rfl ?_
    have h_4 := dR_e h_3
    obtain ⟨y6, hy7, h_5⟩ := h_4
    refine fw_deref hy7 ?_
    refine fw_iload_n (i := 1) 1 rfl (show decode _ _ = .ok (.iload_n 1, 1) by decide +kernel) ?_
    refine fw_callS (mt' := mtX10_seeded) (mc := 0) (ms := 0) (As := [.int p1]) (rest := [.ref y6]) 1 (show decode _ _ = .ok (.invokestatic 91, 3) by decide +kernel) cs_X10_91 rfl (Nat.le_of_ble_eq_true rfl) (s_X10_seeded (d := d) (hd_le hd (by decide)) h_5) (by decide) (by decide) (kI (bc' := 0) (bs' := 0) (by decide) (by decide) (fun x9 M8 h_6 => ?_))
    obtain ⟨⟨hr11, n10, hs12⟩, h_7⟩ := h_6
    refine fw_putI (kd := 5) (k := 5) (show decode _ _ = .ok (.putfield 95, 3) by decide +kernel) ⟨gf_X10_95, _, rfl, Or.inl rfl⟩ hr11 hs12 rfl ?_
    refine FW.nmM (fun M13 eM14 => ?_)
    have h_8 := h_7 M13 eM14
    refine fw_iconst (v := (1 : Int32)) (show decode _ _ = .ok (.iconst 1, 1) by decide +kernel) (by decide) ?_
    exact fw_ret (v := some (.int (1 : Int32))) .ireturn (show decode _ _ = .ok (.ireturn, 1) by decide +kernel) ⟨rfl, Or.inr (Or.inl ⟨rfl, rfl⟩)⟩ ⟨_, rfl, h_8⟩
  · have h_9 := ipos hc15 h_1
    refine fw_iconst (v := (0 : Int32)) (show decode _ _ = .ok (.iconst 0, 1) by decide +kernel) (by decide) ?_
    exact fw_ret (v := some (.int (0 : Int32))) .ireturn (show decode _ _ = .ok (.ireturn, 1) by decide +kernel) ⟨rfl, Or.inr (Or.inl ⟨rfl, rfl⟩)⟩ ⟨_, rfl, h_9⟩
def j_X6_see_140 (φ : Int32 → fM → Prop) (p0 : Nat) (s0 : Int32) (s1 : Int32) (s2 : Nat) (M : fM) : Prop := w_X10_put s2 s1 s0 M fun M1 => isO M1 p0 6 ∧ dR (mP M1 p0 0) fun y5 => isO M1 y5 5 ∧ nm ((mI M1 y5 17) + (1 : Int32)) fun x10 => st (wI M1 y5 17 x10) fun M12 => dR (mP M12 p0 0) fun y14 => isO M12 y14 5 ∧ φ (mI M12 y14 17) M12
set_option maxRecDepth 100000 in
theorem sj_X6_see_140 {g : GT} {d : Nat} (hd : 2 ≤ d + 1) {φ : Int32 → fM → Prop} {p0 : Nat} {s0 : Int32} {s1 : Int32} {s2 : Nat} {M : fM} (h : j_X6_see_140 φ p0 s0 s1 s2 M) : FW g mtX6_see (d + 1) 140 [(0, .ref p0)] [.int s0, .int s1, .ref s2] M 0 0 (rI φ) := by
  unfold j_X6_see_140 at h
  refine fw_callSN (mt' := mtX10_put) (mc := 0) (ms := 0) (As := [.ref s2, .int s1, .int s0]) (rest := []) 3 "OneStepMore" (show decode _ _ = .ok (.invokestatic 100, 3) by decide +kernel) ns_X6_100 rfl (Nat.le_of_ble_eq_true rfl) (s_X10_put (d := d) (hd_le hd (by decide)) h) (by decide) (by decide) (kV (bc' := 0) (bs' := 0) (by decide) (by decide) (fun M1 h_1 => ?_))
  refine fw_aload_n (i := 0) 0 rfl (show decode _ _ = .ok (.aload_n 0, 1) by decide +kernel) ?_
  obtain ⟨⟨hr3, n2, hs4⟩, h_2⟩ := h_1
  refine fw_getP (kd := 6) (k := 0) (show decode _ _ = .ok (.getfield 15, 3) by decide +kernel) gf_X6_15 hr3 hs4 rfl ?_
  have h_3 := dR_e h_2
  obtain ⟨y5, hy6, h_4⟩ := h_3
  refine fw_deref hy6 ?_
  refine fw_dup (show decode _ _ = .ok (.dup, 1) by decide +kernel) rfl ?_
  obtain ⟨⟨hr8, n7, hs9⟩, h_5⟩ := h_4
  refine fw_getI (kd := 5) (k := 17) (show decode _ _ = .ok (.getfield 107, 3) by decide +kernel) gf_X6_107 hr8 hs9 (Or.inl rfl) ?_
  refine fw_iconst (v := (1 : Int32)) (show decode _ _ = .ok (.iconst 1, 1) by decide +kernel) (by decide) ?_
  refine fw_iadd (show decode _ _ = .ok (.iadd, 1) by decide +kernel) ?_
  refine fw_nmI (fun x10 ex11 => ?_)
  have h_6 := h_5 x10 ex11
  refine fw_putI (kd := 5) (k := 17) (show decode _ _ = .ok (.putfield 107, 3) by decide +kernel) ⟨gf_X6_107, _, rfl, Or.inl rfl⟩ hr8 hs9 rfl ?_
  refine FW.nmM (fun M12 eM13 => ?_)
  have h_7 := h_6 M12 eM13
  refine fw_aload_n (i := 0) 0 rfl (show decode _ _ = .ok (.aload_n 0, 1) by decide +kernel) ?_
  refine fw_getP (kd := 6) (k := 0) (show decode _ _ = .ok (.getfield 15, 3) by decide +kernel) gf_X6_15 hr3 (mSw_I eM13 hs4) rfl ?_
  have h_8 := dR_e h_7
  obtain ⟨y14, hy15, h_9⟩ := h_8
  refine fw_deref hy15 ?_
  obtain ⟨⟨hr17, n16, hs18⟩, h_10⟩ := h_9
  refine fw_getI (kd := 5) (k := 17) (show decode _ _ = .ok (.getfield 107, 3) by decide +kernel) gf_X6_107 hr17 hs18 (Or.inl rfl) ?_
  exact fw_ret (v := some (.int (mI M12 y14 17))) .ireturn (show decode _ _ = .ok (.ireturn, 1) by decide +kernel) ⟨rfl, Or.inl rfl⟩ ⟨_, rfl, h_10⟩
def w_X6_see (p0 : Nat) (p1 : Int32) (p2 : Int32) (p3 : Int32) (p4 : Int32) (M : fM) (φ : Int32 → fM → Prop) : Prop := iF (p1 = (-1 : Int32)) (isO M p0 6 ∧ dR (mP M p0 0) fun y108 => isO M y108 5 ∧ st (wI M y108 17 (0 : Int32)) fun M113 => φ (0 : Int32) M113) (isO M p0 6 ∧ dR (mP M p0 0) fun y22 => isO M y22 5 ∧ w_X5_houseOf y22 p2 M fun o28 M24 => isO M24 p0 6 ∧ dR (mP M24 p0 0) fun y32 => isO M24 y32 5 ∧ w_X5_isPerson y32 p1 M24 fun x38 M34 => iF (x38 = 0) (φ (-2 : Int32) M34) (gN o28 (fun y39 => isO M34 y39 0 ∧ w_X0_hasStep y39 p3 M34 fun x45 M41 => iF (x45 = 0) (φ (-2 : Int32) M41) (isO M41 p0 6 ∧ dR (mP M41 p0 0) fun y49 => isO M41 y49 5 ∧ iF ((mI M41 y49 17) < (12 : Int32)) (dR (mP M41 p0 0) fun y54 => isO M41 y54 5 ∧ nm ((mI M41 y54 17) * (4 : Int32)) fun x59 => dR (mP M41 p0 0) fun y61 => isO M41 y61 5 ∧ dR (mP M41 y61 16) fun y66 => w_X10_put y66 x59 p1 M41 fun M68 => isO M68 p0 6 ∧ dR (mP M68 p0 0) fun y72 => isO M68 y72 5 ∧ dR (mP M68 y72 16) fun y77 => w_X10_put y77 (x59 + (1 : Int32)) p2 M68 fun M79 => isO M79 p0 6 ∧ dR (mP M79 p0 0) fun y83 => isO M79 y83 5 ∧ dR (mP M79 y83 16) fun y88 => w_X10_put y88 (x59 + (2 : Int32)) p3 M79 fun M90 => isO M90 p0 6 ∧ dR (mP M90 p0 0) fun y94 => isO M90 y94 5 ∧ dR (mP M90 y94 16) fun y99 => iF (p4 = 0) (j_X6_see_140 φ p0 (0 : Int32) (x59 + (3 : Int32)) y99 M90) (j_X6_see_140 φ p0 (1 : Int32) (x59 + (3 : Int32)) y99 M90)) (φ (-2 : Int32) M41))) (φ (-2 : Int32) M34)))
set_option maxRecDepth 100000 in
theorem s_X6_see {g : GT} {d : Nat} (hd : 2 ≤ d) {p0 : Nat} {p1 : Int32} {p2 : Int32} {p3 : Int32} {p4 : Int32} {M : fM} {φ : Int32 → fM → Prop} (h : w_X6_see p0 p1 p2 p3 p4 M φ) : FC g mtX6_see d [.ref p0, .int p1, .int p2, .int p3, .int p4] M 0 0 (rI φ) := by
  obtain ⟨d, rfl⟩ : ∃ e, d = e + 1 := ⟨d - 1, by omega⟩
  unfold w_X6_see at h
  refine FC.intro (nL := 7) (by decide) rfl (Nat.le_of_ble_eq_true rfl) ?_
  show FW g mtX6_see (d + 1) 0 [(0, .ref p0), (1, .int p1), (2, .int p2), (3, .int p3), (4, .int p4)] [] M 0 0 (rI φ)
  refine fw_iload_n (i := 1) 1 rfl (show decode _ _ = .ok (.iload_n 1, 1) by decide +kernel) ?_
  refine fw_iconst (v := (-1 : Int32)) (show decode _ _ = .ok (.iconst (-1), 1) by decide +kernel) (by decide) ?_
  refine fw_icmp_ne 15 (show decode _ _ = .ok (.if_icmp .ne 13, 3) by decide +kernel) (by decide) (fun hc115 => ?_) (fun hc115 => ?_)
  · have h_1 := ineg hc115 h
    refine fw_aload_n (i := 0) 0 rfl (show decode _ _ = .ok (.aload_n 0, 1) by decide +kernel) ?_
    obtain ⟨⟨hr20, n19, hs21⟩, h_2⟩ := h_1
    refine fw_getP (kd := 6) (k := 0) (show decode _ _ = .ok (.getfield 15, 3) by decide +kernel) gf_X6_15 hr20 hs21 rfl ?_
    have h_3 := dR_e h_2
    obtain ⟨y22, hy23, h_4⟩ := h_3
    refine fw_deref hy23 ?_
    refine fw_iload_n (i := 2) 2 rfl (show decode _ _ = .ok (.iload_n 2, 1) by decide +kernel) ?_
    obtain ⟨⟨hr26, n25, hs27⟩, h_5⟩ := h_4
    refine fw_callV (mt' := mtX5_houseOf) (mc := 0) (ms := 0) (As := [.int p2]) (rest := []) 1 5 n25 (show decode _ _ = .ok (.invokevirtual 23, 3) by decide +kernel) cv_X6_23 ⟨_, rfl, rfl⟩ hr26 hs27 rfl (Nat.le_of_ble_eq_true rfl) (s_X5_houseOf (d := d) (hd_le hd (by decide)) h_5) (by decide) (by decide) (kP (bc' := 0) (bs' := 0) (by decide) (by decide) (fun o28 M24 h_6 => ?_))
    refine fw_astoreq (i := 5) (ls' := [(5, fr o28), (0, .ref p0), (1, .int p1), (2, .int p2), (3, .int p3), (4, .int p4)]) (show decode _ _ = .ok (.astore 5, 2) by decide +kernel) (by decide) rfl ?_
    refine fw_aload_n (i := 0) 1 rfl (show decode _ _ = .ok (.aload_n 0, 1) by decide +kernel) ?_
    obtain ⟨⟨hr30, n29, hs31⟩, h_7⟩ := h_6
    refine fw_getP (kd := 6) (k := 0) (show decode _ _ = .ok (.getfield 15, 3) by decide +kernel) gf_X6_15 hr30 hs31 rfl ?_
    have h_8 := dR_e h_7
    obtain ⟨y32, hy33, h_9⟩ := h_8
    refine fw_deref hy33 ?_
    refine fw_iload_n (i := 1) 2 rfl (show decode _ _ = .ok (.iload_n 1, 1) by decide +kernel) ?_
    obtain ⟨⟨hr36, n35, hs37⟩, h_10⟩ := h_9
    refine fw_callV (mt' := mtX5_isPerson) (mc := 0) (ms := 0) (As := [.int p1]) (rest := []) 1 5 n35 (show decode _ _ = .ok (.invokevirtual 35, 3) by decide +kernel) cv_X6_35 ⟨_, rfl, rfl⟩ hr36 hs37 rfl (Nat.le_of_ble_eq_true rfl) (s_X5_isPerson (d := d) (hd_le hd (by decide)) h_10) (by decide) (by decide) (kI (bc' := 0) (bs' := 0) (by decide) (by decide) (fun x38 M34 h_11 => ?_))
    refine fw_if_eq 62 (show decode _ _ = .ok (.ifCond .eq 29, 3) by decide +kernel) (by decide) (fun hc104 => ?_) (fun hc104 => ?_)
    · have h_12 := ipos hc104 h_11
      refine fw_bipush (v := (-2 : Int32)) (show decode _ _ = .ok (.bipush (-2), 2) by decide +kernel) (by decide) ?_
      exact fw_ret (v := some (.int (-2 : Int32))) .ireturn (show decode _ _ = .ok (.ireturn, 1) by decide +kernel) ⟨rfl, Or.inl rfl⟩ ⟨_, rfl, h_12⟩
    · have h_13 := ineg hc104 h_11
      refine fw_aloadq (i := 5) 0 rfl (show decode _ _ = .ok (.aload 5, 2) by decide +kernel) ?_
      refine fw_ifnull (x := o28) 62 (show decode _ _ = .ok (.ifnull 24, 3) by decide +kernel) (by decide) (fun hy40 => ?_) (fun y39 hy40 => ?_)
      · have h_14 := gN_n hy40 h_13
        subst hy40
        refine fw_bipush (v := (-2 : Int32)) (show decode _ _ = .ok (.bipush (-2), 2) by decide +kernel) (by decide) ?_
        exact fw_ret (v := some (.int (-2 : Int32))) .ireturn (show decode _ _ = .ok (.ireturn, 1) by decide +kernel) ⟨rfl, Or.inl rfl⟩ ⟨_, rfl, h_14⟩
      · have h_15 := gN_s hy40 h_13
        subst hy40
        refine fw_aload (i := 5) 0 rfl (show decode _ _ = .ok (.aload 5, 2) by decide +kernel) ?_
        refine fw_iload_n (i := 3) 4 rfl (show decode _ _ = .ok (.iload_n 3, 1) by decide +kernel) ?_
        obtain ⟨⟨hr43, n42, hs44⟩, h_16⟩ := h_15
        refine fw_callV (mt' := mtX0_hasStep) (mc := 0) (ms := 0) (As := [.int p3]) (rest := []) 1 0 n42 (show decode _ _ = .ok (.invokevirtual 29, 3) by decide +kernel) cv_X6_29 ⟨_, rfl, rfl⟩ hr43 hs44 rfl (Nat.le_of_ble_eq_true rfl) (s_X0_hasStep (d := d) (hd_le hd (by decide)) h_16) (by decide) (by decide) (kI (bc' := 0) (bs' := 0) (by decide) (by decide) (fun x45 M41 h_17 => ?_))
        refine fw_if_eq 62 (show decode _ _ = .ok (.ifCond .eq 15, 3) by decide +kernel) (by decide) (fun hc103 => ?_) (fun hc103 => ?_)
        · have h_18 := ipos hc103 h_17
          refine fw_bipush (v := (-2 : Int32)) (show decode _ _ = .ok (.bipush (-2), 2) by decide +kernel) (by decide) ?_
          exact fw_ret (v := some (.int (-2 : Int32))) .ireturn (show decode _ _ = .ok (.ireturn, 1) by decide +kernel) ⟨rfl, Or.inl rfl⟩ ⟨_, rfl, h_18⟩
        · have h_19 := ineg hc103 h_17
          refine fw_aload_n (i := 0) 1 rfl (show decode _ _ = .ok (.aload_n 0, 1) by decide +kernel) ?_
          obtain ⟨⟨hr47, n46, hs48⟩, h_20⟩ := h_19
          refine fw_getP (kd := 6) (k := 0) (show decode _ _ = .ok (.getfield 15, 3) by decide +kernel) gf_X6_15 hr47 hs48 rfl ?_
          have h_21 := dR_e h_20
          obtain ⟨y49, hy50, h_22⟩ := h_21
          refine fw_deref hy50 ?_
          obtain ⟨⟨hr52, n51, hs53⟩, h_23⟩ := h_22
          refine fw_getI (kd := 5) (k := 17) (show decode _ _ = .ok (.getfield 107, 3) by decide +kernel) gf_X6_107 hr52 hs53 (Or.inl rfl) ?_
          refine fw_bipush (v := (12 : Int32)) (show decode _ _ = .ok (.bipush 12, 2) by decide +kernel) (by decide) ?_
          refine fw_icmp_lt 65 (show decode _ _ = .ok (.if_icmp .lt 6, 3) by decide +kernel) (by decide) (fun hc102 => ?_) (fun hc102 => ?_)
          · have h_24 := ipos hc102 h_23
            refine fw_aload_n (i := 0) 1 rfl (show decode _ _ = .ok (.aload_n 0, 1) by decide +kernel) ?_
            refine fw_getP (kd := 6) (k := 0) (show decode _ _ = .ok (.getfield 15, 3) by decide +kernel) gf_X6_15 hr47 hs48 rfl ?_
            have h_25 := dR_e h_24
            obtain ⟨y54, hy55, h_26⟩ := h_25
            refine fw_deref hy55 ?_
            obtain ⟨⟨hr57, n56, hs58⟩, h_27⟩ := h_26
            refine fw_getI (kd := 5) (k := 17) (show decode _ _ = .ok (.getfield 107, 3) by decide +kernel) gf_X6_107 hr57 hs58 (Or.inl rfl) ?_
            refine fw_iconst (v := (4 : Int32)) (show decode _ _ = .ok (.iconst 4, 1) by decide +kernel) (by decide) ?_
            refine fw_imul (show decode _ _ = .ok (.imul, 1) by decide +kernel) ?_
            refine fw_nmI (fun x59 ex60 => ?_)
            have h_28 := h_27 x59 ex60
            refine fw_istore (i := 6) (ls' := [(6, .int x59), (5, .ref y39), (0, .ref p0), (1, .int p1), (2, .int p2), (3, .int p3), (4, .int p4)]) (show decode _ _ = .ok (.istore 6, 2) by decide +kernel) (by decide) rfl ?_
            refine fw_aload_n (i := 0) 2 rfl (show decode _ _ = .ok (.aload_n 0, 1) by decide +kernel) ?_
            refine fw_getP (kd := 6) (k := 0) (show decode _ _ = .ok (.getfield 15, 3) by decide +kernel) gf_X6_15 hr47 hs48 rfl ?_
            have h_29 := dR_e h_28
            obtain ⟨y61, hy62, h_30⟩ := h_29
            refine fw_deref hy62 ?_
            obtain ⟨⟨hr64, n63, hs65⟩, h_31⟩ := h_30
            refine fw_getP (kd := 5) (k := 16) (show decode _ _ = .ok (.getfield 110, 3) by decide +kernel) gf_X6_110 hr64 hs65 rfl ?_
            have h_32 := dR_e h_31
            obtain ⟨y66, hy67, h_33⟩ := h_32
            refine fw_deref hy67 ?_
            refine fw_iload (i := 6) 0 rfl (show decode _ _ = .ok (.iload 6, 2) by decide +kernel) ?_
            refine fw_iload_n (i := 1) 3 rfl (show decode _ _ = .ok (.iload_n 1, 1) by decide +kernel) ?_
            refine fw_callSN (mt' := mtX10_put) (mc := 0) (ms := 0) (As := [.ref y66, .int x59, .int p1]) (rest := []) 3 "OneStepMore" (show decode _ _ = .ok (.invokestatic 100, 3) by decide +kernel) ns_X6_100 rfl (Nat.le_of_ble_eq_true rfl) (s_X10_put (d := d) (hd_le hd (by decide)) h_33) (by decide) (by decide) (kV (bc' := 0) (bs' := 0) (by decide) (by decide) (fun M68 h_34 => ?_))
            refine fw_aload_n (i := 0) 2 rfl (show decode _ _ = .ok (.aload_n 0, 1) by decide +kernel) ?_
            obtain ⟨⟨hr70, n69, hs71⟩, h_35⟩ := h_34
            refine fw_getP (kd := 6) (k := 0) (show decode _ _ = .ok (.getfield 15, 3) by decide +kernel) gf_X6_15 hr70 hs71 rfl ?_
            have h_36 := dR_e h_35
            obtain ⟨y72, hy73, h_37⟩ := h_36
            refine fw_deref hy73 ?_
            obtain ⟨⟨hr75, n74, hs76⟩, h_38⟩ := h_37
            refine fw_getP (kd := 5) (k := 16) (show decode _ _ = .ok (.getfield 110, 3) by decide +kernel) gf_X6_110 hr75 hs76 rfl ?_
            have h_39 := dR_e h_38
            obtain ⟨y77, hy78, h_40⟩ := h_39
            refine fw_deref hy78 ?_
            refine fw_iload (i := 6) 0 rfl (show decode _ _ = .ok (.iload 6, 2) by decide +kernel) ?_
            refine fw_iconst (v := (1 : Int32)) (show decode _ _ = .ok (.iconst 1, 1) by decide +kernel) (by decide) ?_
            refine fw_iadd (show decode _ _ = .ok (.iadd, 1) by decide +kernel) ?_
            refine fw_iload_n (i := 2) 4 rfl (show decode _ _ = .ok (.iload_n 2, 1) by decide +kernel) ?_
            refine fw_callSN (mt' := mtX10_put) (mc := 0) (ms := 0) (As := [.ref y77, .int (x59 + (1 : Int32)), .int p2]) (rest := []) 3 "OneStepMore" (show decode _ _ = .ok (.invokestatic 100, 3) by decide +kernel) ns_X6_100 rfl (Nat.le_of_ble_eq_true rfl) (s_X10_put (d := d) (hd_le hd (by decide)) h_40) (by decide) (by decide) (kV (bc' := 0) (bs' := 0) (by decide) (by decide) (fun M79 h_41 => ?_))
            refine fw_aload_n (i := 0) 2 rfl (show decode _ _ = .ok (.aload_n 0, 1) by decide +kernel) ?_
            obtain ⟨⟨hr81, n80, hs82⟩, h_42⟩ := h_41
            refine fw_getP (kd := 6) (k := 0) (show decode _ _ = .ok (.getfield 15, 3) by decide +kernel) gf_X6_15 hr81 hs82 rfl ?_
            have h_43 := dR_e h_42
            obtain ⟨y83, hy84, h_44⟩ := h_43
            refine fw_deref hy84 ?_
            obtain ⟨⟨hr86, n85, hs87⟩, h_45⟩ := h_44
            refine fw_getP (kd := 5) (k := 16) (show decode _ _ = .ok (.getfield 110, 3) by decide +kernel) gf_X6_110 hr86 hs87 rfl ?_
            have h_46 := dR_e h_45
            obtain ⟨y88, hy89, h_47⟩ := h_46
            refine fw_deref hy89 ?_
            refine fw_iload (i := 6) 0 rfl (show decode _ _ = .ok (.iload 6, 2) by decide +kernel) ?_
            refine fw_iconst (v := (2 : Int32)) (show decode _ _ = .ok (.iconst 2, 1) by decide +kernel) (by decide) ?_
            refine fw_iadd (show decode _ _ = .ok (.iadd, 1) by decide +kernel) ?_
            refine fw_iload_n (i := 3) 5 rfl (show decode _ _ = .ok (.iload_n 3, 1) by decide +kernel) ?_
            refine fw_callSN (mt' := mtX10_put) (mc := 0) (ms := 0) (As := [.ref y88, .int (x59 + (2 : Int32)), .int p3]) (rest := []) 3 "OneStepMore" (show decode _ _ = .ok (.invokestatic 100, 3) by decide +kernel) ns_X6_100 rfl (Nat.le_of_ble_eq_true rfl) (s_X10_put (d := d) (hd_le hd (by decide)) h_47) (by decide) (by decide) (kV (bc' := 0) (bs' := 0) (by decide) (by decide) (fun M90 h_48 => ?_))
            refine fw_aload_n (i := 0) 2 rfl (show decode _ _ = .ok (.aload_n 0, 1) by decide +kernel) ?_
            obtain ⟨⟨hr92, n91, hs93⟩, h_49⟩ := h_48
            refine fw_getP (kd := 6) (k := 0) (show decode _ _ = .ok (.getfield 15, 3) by decide +kernel) gf_X6_15 hr92 hs93 rfl ?_
            have h_50 := dR_e h_49
            obtain ⟨y94, hy95, h_51⟩ := h_50
            refine fw_deref hy95 ?_
            obtain ⟨⟨hr97, n96, hs98⟩, h_52⟩ := h_51
            refine fw_getP (kd := 5) (k := 16) (show decode _ _ = .ok (.getfield 110, 3) by decide +kernel) gf_X6_110 hr97 hs98 rfl ?_
            have h_53 := dR_e h_52
            obtain ⟨y99, hy100, h_54⟩ := h_53
            refine fw_deref hy100 ?_
            refine fw_iload (i := 6) 0 rfl (show decode _ _ = .ok (.iload 6, 2) by decide +kernel) ?_
            refine fw_iconst (v := (3 : Int32)) (show decode _ _ = .ok (.iconst 3, 1) by decide +kernel) (by decide) ?_
            refine fw_iadd (show decode _ _ = .ok (.iadd, 1) by decide +kernel) ?_
            refine fw_iload (i := 4) 6 rfl (show decode _ _ = .ok (.iload 4, 2) by decide +kernel) ?_
            refine fw_if_eq 139 (show decode _ _ = .ok (.ifCond .eq 7, 3) by decide +kernel) (by decide) (fun hc101 => ?_) (fun hc101 => ?_)
            · have h_55 := ipos hc101 h_54
              refine fw_iconst (v := (0 : Int32)) (show decode _ _ = .ok (.iconst 0, 1) by decide +kernel) (by decide) ?_
              refine FW.sub [2] (ls' := [(0, .ref p0)]) rfl ?_
              exact sj_X6_see_140 hd h_55
            · have h_56 := ineg hc101 h_54
              refine fw_iconst (v := (1 : Int32)) (show decode _ _ = .ok (.iconst 1, 1) by decide +kernel) (by decide) ?_
              refine fw_goto 140 (show decode _ _ = .ok (.goto 4, 3) by decide +kernel) (by decide) ?_
              refine FW.sub [2] (ls' := [(0, .ref p0)]) rfl ?_
              exact sj_X6_see_140 hd h_56
          · have h_57 := ineg hc102 h_23
            refine fw_bipush (v := (-2 : Int32)) (show decode _ _ = .ok (.bipush (-2), 2) by decide +kernel) (by decide) ?_
            exact fw_ret (v := some (.int (-2 : Int32))) .ireturn (show decode _ _ = .ok (.ireturn, 1) by decide +kernel) ⟨rfl, Or.inl rfl⟩ ⟨_, rfl, h_57⟩
  · have h_58 := ipos hc115 h
    refine fw_aload_n (i := 0) 0 rfl (show decode _ _ = .ok (.aload_n 0, 1) by decide +kernel) ?_
    obtain ⟨⟨hr106, n105, hs107⟩, h_59⟩ := h_58
    refine fw_getP (kd := 6) (k := 0) (show decode _ _ = .ok (.getfield 15, 3) by decide +kernel) gf_X6_15 hr106 hs107 rfl ?_
    have h_60 := dR_e h_59
    obtain ⟨y108, hy109, h_61⟩ := h_60
    refine fw_deref hy109 ?_
    refine fw_iconst (v := (0 : Int32)) (show decode _ _ = .ok (.iconst 0, 1) by decide +kernel) (by decide) ?_
    obtain ⟨⟨hr111, n110, hs112⟩, h_62⟩ := h_61
    refine fw_putI (kd := 5) (k := 17) (show decode _ _ = .ok (.putfield 107, 3) by decide +kernel) ⟨gf_X6_107, _, rfl, Or.inl rfl⟩ hr111 hs112 rfl ?_
    refine FW.nmM (fun M113 eM114 => ?_)
    have h_63 := h_62 M113 eM114
    refine fw_iconst (v := (0 : Int32)) (show decode _ _ = .ok (.iconst 0, 1) by decide +kernel) (by decide) ?_
    exact fw_ret (v := some (.int (0 : Int32))) .ireturn (show decode _ _ = .ok (.ireturn, 1) by decide +kernel) ⟨rfl, Or.inl rfl⟩ ⟨_, rfl, h_63⟩
def w_X10_seen (p0 : Nat) (p1 : Int32) (p2 : Int32) (p3 : Int32) (p4 : Int32) (M : fM) (φ : Int32 → fM → Prop) : Prop := isO M p0 10 ∧ dR (mP M p0 6) fun y4 => isO M y4 6 ∧ w_X6_see y4 p1 p2 p3 p4 M fun x10 M6 => φ x10 M6
set_option maxRecDepth 100000 in
theorem s_X10_seen {g : GT} {d : Nat} (hd : 3 ≤ d) {p0 : Nat} {p1 : Int32} {p2 : Int32} {p3 : Int32} {p4 : Int32} {M : fM} {φ : Int32 → fM → Prop} (h : w_X10_seen p0 p1 p2 p3 p4 M φ) : FC g mtX10_seen d [.ref p0, .int p1, .int p2, .int p3, .int p4] M 0 0 (rI φ) := by
  obtain ⟨d, rfl⟩ : ∃ e, d = e + 1 := ⟨d - 1, by omega⟩
  unfold w_X10_seen at h
  refine FC.intro (nL := 5) (by decide) rfl (Nat.le_of_ble_eq_true rfl) ?_
  show FW g mtX10_seen (d + 1) 0 [(0, .ref p0), (1, .int p1), (2, .int p2), (3, .int p3), (4, .int p4)] [] M 0 0 (rI φ)
  refine fw_aload_n (i := 0) 0 rfl (show decode _ _ = .ok (.aload_n 0, 1) by decide +kernel) ?_
  obtain ⟨⟨hr2, n1, hs3⟩, h_1⟩ := h
  refine fw_getP (kd := 10) (k := 6) (show decode _ _ = .ok (.getfield 57, 3) by decide +kernel) gf_X10_57 hr2 hs3 rfl ?_
  have h_2 := dR_e h_1
  obtain ⟨y4, hy5, h_3⟩ := h_2
  refine fw_deref hy5 ?_
  refine fw_iload_n (i := 1) 1 rfl (show decode _ _ = .ok (.iload_n 1, 1) by decide +kernel) ?_
  refine fw_iload_n (i := 2) 2 rfl (show decode _ _ = .ok (.iload_n 2, 1) by decide +kernel) ?_
  refine fw_iload_n (i := 3) 3 rfl (show decode _ _ = .ok (.iload_n 3, 1) by decide +kernel) ?_
  refine fw_iload (i := 4) 4 rfl (show decode _ _ = .ok (.iload 4, 2) by decide +kernel) ?_
  obtain ⟨⟨hr8, n7, hs9⟩, h_4⟩ := h_3
  refine fw_callV (mt' := mtX6_see) (mc := 0) (ms := 0) (As := [.int p1, .int p2, .int p3, .int p4]) (rest := []) 4 6 n7 (show decode _ _ = .ok (.invokevirtual 261, 3) by decide +kernel) cv_X10_261 ⟨_, rfl, rfl⟩ hr8 hs9 rfl (Nat.le_of_ble_eq_true rfl) (s_X6_see (d := d) (hd_le hd (by decide)) h_4) (by decide) (by decide) (kI (bc' := 0) (bs' := 0) (by decide) (by decide) (fun x10 M6 h_5 => ?_))
  exact fw_ret (v := some (.int x10)) .ireturn (show decode _ _ = .ok (.ireturn, 1) by decide +kernel) ⟨rfl, Or.inl rfl⟩ ⟨_, rfl, h_5⟩
def w_X10_stair (p0 : Nat) (p1 : Int32) (p2 : Int32) (M : fM) (φ : Int32 → fM → Prop) : Prop := isO M p0 10 ∧ dR (mP M p0 0) fun y4 => isO M y4 5 ∧ w_X5_tellStairs y4 p1 p2 M fun x10 M6 => isB x10 ∧ φ x10 M6
set_option maxRecDepth 100000 in
theorem s_X10_stair {g : GT} {d : Nat} (hd : 4 ≤ d) {p0 : Nat} {p1 : Int32} {p2 : Int32} {M : fM} {φ : Int32 → fM → Prop} (h : w_X10_stair p0 p1 p2 M φ) : FC g mtX10_stair d [.ref p0, .int p1, .int p2] M 0 0 (rI φ) := by
  obtain ⟨d, rfl⟩ : ∃ e, d = e + 1 := ⟨d - 1, by omega⟩
  unfold w_X10_stair at h
  refine FC.intro (nL := 3) (by decide) rfl (Nat.le_of_ble_eq_true rfl) ?_
  show FW g mtX10_stair (d + 1) 0 [(0, .ref p0), (1, .int p1), (2, .int p2)] [] M 0 0 (rI φ)
  refine fw_aload_n (i := 0) 0 rfl (show decode _ _ = .ok (.aload_n 0, 1) by decide +kernel) ?_
  obtain ⟨⟨hr2, n1, hs3⟩, h_1⟩ := h
  refine fw_getP (kd := 10) (k := 0) (show decode _ _ = .ok (.getfield 13, 3) by decide +kernel) gf_X10_13 hr2 hs3 rfl ?_
  have h_2 := dR_e h_1
  obtain ⟨y4, hy5, h_3⟩ := h_2
  refine fw_deref hy5 ?_
  refine fw_iload_n (i := 1) 1 rfl (show decode _ _ = .ok (.iload_n 1, 1) by decide +kernel) ?_
  refine fw_iload_n (i := 2) 2 rfl (show decode _ _ = .ok (.iload_n 2, 1) by decide +kernel) ?_
  obtain ⟨⟨hr8, n7, hs9⟩, h_4⟩ := h_3
  refine fw_callV (mt' := mtX5_tellStairs) (mc := 0) (ms := 0) (As := [.int p1, .int p2]) (rest := []) 2 5 n7 (show decode _ _ = .ok (.invokevirtual 68, 3) by decide +kernel) cv_X10_68 ⟨_, rfl, rfl⟩ hr8 hs9 rfl (Nat.le_of_ble_eq_true rfl) (s_X5_tellStairs (d := d) (hd_le hd (by decide)) h_4) (by decide) (by decide) (kI (bc' := 0) (bs' := 0) (by decide) (by decide) (fun x10 M6 h_5 => ?_))
  obtain ⟨hbb, h_6⟩ := h_5
  exact fw_ret (v := some (.int x10)) .ireturn (show decode _ _ = .ok (.ireturn, 1) by decide +kernel) ⟨rfl, Or.inr (Or.inl ⟨rfl, hbb⟩)⟩ ⟨_, rfl, h_6⟩
def w_X10_step (p0 : Nat) (M : fM) (φ : Int32 → fM → Prop) : Prop := isO M p0 10 ∧ dR (mP M p0 4) fun y4 => isO M y4 9 ∧ w_X9_stepAct y4 M fun x10 M6 => φ x10 M6
set_option maxRecDepth 100000 in
theorem s_X10_step {g : GT} {d : Nat} (hd : 6 ≤ d) {p0 : Nat} {M : fM} {φ : Int32 → fM → Prop} (h : w_X10_step p0 M φ) : FC g mtX10_step d [.ref p0] M 0 0 (rI φ) := by
  obtain ⟨d, rfl⟩ : ∃ e, d = e + 1 := ⟨d - 1, by omega⟩
  unfold w_X10_step at h
  refine FC.intro (nL := 1) (by decide) rfl (Nat.le_of_ble_eq_true rfl) ?_
  show FW g mtX10_step (d + 1) 0 [(0, .ref p0)] [] M 0 0 (rI φ)
  refine fw_aload_n (i := 0) 0 rfl (show decode _ _ = .ok (.aload_n 0, 1) by decide +kernel) ?_
  obtain ⟨⟨hr2, n1, hs3⟩, h_1⟩ := h
  refine fw_getP (kd := 10) (k := 4) (show decode _ _ = .ok (.getfield 43, 3) by decide +kernel) gf_X10_43 hr2 hs3 rfl ?_
  have h_2 := dR_e h_1
  obtain ⟨y4, hy5, h_3⟩ := h_2
  refine fw_deref hy5 ?_
  obtain ⟨⟨hr8, n7, hs9⟩, h_4⟩ := h_3
  refine fw_callV (mt' := mtX9_stepAct) (mc := 0) (ms := 0) (As := []) (rest := []) 0 9 n7 (show decode _ _ = .ok (.invokevirtual 137, 3) by decide +kernel) cv_X10_137 ⟨_, rfl, rfl⟩ hr8 hs9 rfl (Nat.le_of_ble_eq_true rfl) (s_X9_stepAct (d := d) (hd_le hd (by decide)) h_4) (by decide) (by decide) (kI (bc' := 0) (bs' := 0) (by decide) (by decide) (fun x10 M6 h_5 => ?_))
  exact fw_ret (v := some (.int x10)) .ireturn (show decode _ _ = .ok (.ireturn, 1) by decide +kernel) ⟨rfl, Or.inl rfl⟩ ⟨_, rfl, h_5⟩
def w_X10_stop (p0 : Nat) (M : fM) (φ : Int32 → fM → Prop) : Prop := isO M p0 10 ∧ dR (mP M p0 4) fun y4 => isO M y4 9 ∧ w_X9_stopAct y4 M fun x10 M6 => φ x10 M6
set_option maxRecDepth 100000 in
theorem s_X10_stop {g : GT} {d : Nat} (hd : 5 ≤ d) {p0 : Nat} {M : fM} {φ : Int32 → fM → Prop} (h : w_X10_stop p0 M φ) : FC g mtX10_stop d [.ref p0] M 0 0 (rI φ) := by
  obtain ⟨d, rfl⟩ : ∃ e, d = e + 1 := ⟨d - 1, by omega⟩
  unfold w_X10_stop at h
  refine FC.intro (nL := 1) (by decide) rfl (Nat.le_of_ble_eq_true rfl) ?_
  show FW g mtX10_stop (d + 1) 0 [(0, .ref p0)] [] M 0 0 (rI φ)
  refine fw_aload_n (i := 0) 0 rfl (show decode _ _ = .ok (.aload_n 0, 1) by decide +kernel) ?_
  obtain ⟨⟨hr2, n1, hs3⟩, h_1⟩ := h
  refine fw_getP (kd := 10) (k := 4) (show decode _ _ = .ok (.getfield 43, 3) by decide +kernel) gf_X10_43 hr2 hs3 rfl ?_
  have h_2 := dR_e h_1
  obtain ⟨y4, hy5, h_3⟩ := h_2
  refine fw_deref hy5 ?_
  obtain ⟨⟨hr8, n7, hs9⟩, h_4⟩ := h_3
  refine fw_callV (mt' := mtX9_stopAct) (mc := 0) (ms := 0) (As := []) (rest := []) 0 9 n7 (show decode _ _ = .ok (.invokevirtual 144, 3) by decide +kernel) cv_X10_144 ⟨_, rfl, rfl⟩ hr8 hs9 rfl (Nat.le_of_ble_eq_true rfl) (s_X9_stopAct (d := d) (hd_le hd (by decide)) h_4) (by decide) (by decide) (kI (bc' := 0) (bs' := 0) (by decide) (by decide) (fun x10 M6 h_5 => ?_))
  exact fw_ret (v := some (.int x10)) .ireturn (show decode _ _ = .ok (.ireturn, 1) by decide +kernel) ⟨rfl, Or.inl rfl⟩ ⟨_, rfl, h_5⟩
def j_X3_oddsOfSure_97 (K18 : Nat → Int32 → Int32 → Int32 → Int32 → Int32 → fM → Prop) (K37 : Nat → Int32 → Int32 → Int32 → Int32 → Int32 → Int32 → fM → Prop) (φ : Int64 → fM → Prop) (p0 : Nat) (p1 : Int32) (p2 : Int32) (p3 : Int32) (p4 : Int32) (p5 : Int32) (p6 : Int32) (s0 : Int64) (s1 : Int64) (s2 : Int32) (s3 : Nat) (M : fM) : Prop := nm (s1 + s0) fun x1 => 6 ≤ s3 ∧ inA M s3 13 s2 ∧ st (wJ M s3 (ix s2) x1) fun M7 => nm (p6 + (-1 : Int32)) fun x9 => K37 p0 p1 p2 p3 p4 p5 x9 M7
set_option maxRecDepth 100000 in
theorem sj_X3_oddsOfSure_97 {g : GT} {d : Nat} (hd : 2 ≤ d + 1) {K18 : Nat → Int32 → Int32 → Int32 → Int32 → Int32 → fM → Prop} {K37 : Nat → Int32 → Int32 → Int32 → Int32 → Int32 → Int32 → fM → Prop} {φ : Int64 → fM → Prop} (hK18 : ∀ (p0 : Nat) (p1 : Int32) (p2 : Int32) (p3 : Int32) (p4 : Int32) (p5 : Int32) (M : fM), K18 p0 p1 p2 p3 p4 p5 M → FW g mtX3_oddsOfSure (d + 1) 18 [(0, .ref p0), (1, .int p1), (2, .int p2), (3, .int p3), (4, .int p4), (5, .int p5)] [] M 0 0 (rJ φ)) (hK37 : ∀ (p0 : Nat) (p1 : Int32) (p2 : Int32) (p3 : Int32) (p4 : Int32) (p5 : Int32) (p6 : Int32) (M : fM), K37 p0 p1 p2 p3 p4 p5 p6 M → FW g mtX3_oddsOfSure (d + 1) 37 [(0, .ref p0), (1, .int p1), (2, .int p2), (3, .int p3), (4, .int p4), (5, .int p5), (6, .int p6)] [] M 0 0 (rJ φ)) {p0 : Nat} {p1 : Int32} {p2 : Int32} {p3 : Int32} {p4 : Int32} {p5 : Int32} {p6 : Int32} {s0 : Int64} {s1 : Int64} {s2 : Int32} {s3 : Nat} {M : fM} (h : j_X3_oddsOfSure_97 K18 K37 φ p0 p1 p2 p3 p4 p5 p6 s0 s1 s2 s3 M) : FW g mtX3_oddsOfSure (d + 1) 97 [(0, .ref p0), (1, .int p1), (2, .int p2), (3, .int p3), (4, .int p4), (5, .int p5), (6, .int p6)] [.long s0, .long s1, .int s2, .ref s3] M 0 0 (rJ φ) := by
  unfold j_X3_oddsOfSure_97 at h
  refine fw_ladd (show decode _ _ = .ok (.ladd, 1) by decide +kernel) ?_
  refine fw_nmJ (fun x1 ex2 => ?_)
  have h_1 := h x1 ex2
  obtain ⟨hr6, ⟨n3, hs4, hi5⟩, h_2⟩ := h_1
  refine fw_last (show decode _ _ = .ok (.lastore, 1) by decide +kernel) hr6 hs4 hi5 ?_
  refine FW.nmM (fun M7 eM8 => ?_)
  have h_3 := h_2 M7 eM8
  obtain ⟨x9, ex10⟩ : ∃ y : Int32, y = p6 + (-1 : Int32) := ⟨_, rfl⟩
  have h_4 := h_3 x9 ex10
  refine fw_iinc (i := 6) (x := p6) (v := x9) (ls' := [(6, .int x9), (0, .ref p0), (1, .int p1), (2, .int p2), (3, .int p3), (4, .int p4), (5, .int p5)]) 6 rfl (show decode _ _ = .ok (.iinc 6 (-1), 3) by decide +kernel) (by rw [ex10]; rfl) (by decide) rfl ?_
  refine fw_goto 37 (show decode _ _ = .ok (.goto (-65), 3) by decide +kernel) (by decide) ?_
  refine FW.sub [1, 2, 3, 4, 5, 6, 0] (ls' := [(0, .ref p0), (1, .int p1), (2, .int p2), (3, .int p3), (4, .int p4), (5, .int p5), (6, .int x9)]) rfl ?_
  exact hK37 _ _ _ _ _ _ _ _ h_4
def j_X3_oddsOfSure_64 (K18 : Nat → Int32 → Int32 → Int32 → Int32 → Int32 → fM → Prop) (K37 : Nat → Int32 → Int32 → Int32 → Int32 → Int32 → Int32 → fM → Prop) (φ : Int64 → fM → Prop) (p0 : Nat) (p1 : Int32) (p2 : Int32) (p3 : Int32) (p4 : Int32) (p5 : Int32) (p6 : Int32) (s0 : Int32) (s1 : Int64) (M : fM) : Prop := nm (s1 * (Int32.toInt64 s0)) fun x11 => isO M p0 3 ∧ dR (mP M p0 11) fun y16 => iF (p6 ≤ 0) (j_X3_oddsOfSure_97 K18 K37 φ p0 p1 p2 p3 p4 p5 p6 (0 : Int64) x11 p6 y16 M) (dR (mP M p0 11) fun y18 => inA M y18 13 (p6 - (1 : Int32)) ∧ j_X3_oddsOfSure_97 K18 K37 φ p0 p1 p2 p3 p4 p5 p6 ((mJ M y18 (ix (p6 - (1 : Int32)))) * (Int32.toInt64 p2)) x11 p6 y16 M)
set_option maxRecDepth 100000 in
theorem sj_X3_oddsOfSure_64 {g : GT} {d : Nat} (hd : 2 ≤ d + 1) {K18 : Nat → Int32 → Int32 → Int32 → Int32 → Int32 → fM → Prop} {K37 : Nat → Int32 → Int32 → Int32 → Int32 → Int32 → Int32 → fM → Prop} {φ : Int64 → fM → Prop} (hK18 : ∀ (p0 : Nat) (p1 : Int32) (p2 : Int32) (p3 : Int32) (p4 : Int32) (p5 : Int32) (M : fM), K18 p0 p1 p2 p3 p4 p5 M → FW g mtX3_oddsOfSure (d + 1) 18 [(0, .ref p0), (1, .int p1), (2, .int p2), (3, .int p3), (4, .int p4), (5, .int p5)] [] M 0 0 (rJ φ)) (hK37 : ∀ (p0 : Nat) (p1 : Int32) (p2 : Int32) (p3 : Int32) (p4 : Int32) (p5 : Int32) (p6 : Int32) (M : fM), K37 p0 p1 p2 p3 p4 p5 p6 M → FW g mtX3_oddsOfSure (d + 1) 37 [(0, .ref p0), (1, .int p1), (2, .int p2), (3, .int p3), (4, .int p4), (5, .int p5), (6, .int p6)] [] M 0 0 (rJ φ)) {p0 : Nat} {p1 : Int32} {p2 : Int32} {p3 : Int32} {p4 : Int32} {p5 : Int32} {p6 : Int32} {s0 : Int32} {s1 : Int64} {M : fM} (h : j_X3_oddsOfSure_64 K18 K37 φ p0 p1 p2 p3 p4 p5 p6 s0 s1 M) : FW g mtX3_oddsOfSure (d + 1) 64 [(0, .ref p0), (1, .int p1), (2, .int p2), (3, .int p3), (4, .int p4), (5, .int p5), (6, .int p6)] [.int s0, .long s1] M 0 0 (rJ φ) := by
  unfold j_X3_oddsOfSure_64 at h
  refine fw_i2l (show decode _ _ = .ok (.i2l, 1) by decide +kernel) ?_
  refine fw_lmul (show decode _ _ = .ok (.lmul, 1) by decide +kernel) ?_
  refine fw_nmJ (fun x11 ex12 => ?_)
  have h_1 := h x11 ex12
  refine fw_lstore (i := 7) (ls' := [(7, .long x11), (0, .ref p0), (1, .int p1), (2, .int p2), (3, .int p3), (4, .int p4), (5, .int p5), (6, .int p6)]) (show decode _ _ = .ok (.lstore 7, 2) by decide +kernel) (by decide) rfl ?_
  refine fw_aload_n (i := 0) 1 rfl (show decode _ _ = .ok (.aload_n 0, 1) by decide +kernel) ?_
  obtain ⟨⟨hr14, n13, hs15⟩, h_2⟩ := h_1
  refine fw_getP (kd := 3) (k := 11) (show decode _ _ = .ok (.getfield 25, 3) by decide +kernel) gf_X3_25 hr14 hs15 rfl ?_
  have h_3 := dR_e h_2
  obtain ⟨y16, hy17, h_4⟩ := h_3
  refine fw_deref hy17 ?_
  refine fw_iload (i := 6) 7 rfl (show decode _ _ = .ok (.iload 6, 2) by decide +kernel) ?_
  refine fw_lload (i := 7) 0 rfl (show decode _ _ = .ok (.lload 7, 2) by decide +kernel) ?_
  refine fw_iload (i := 6) 7 rfl (show decode _ _ = .ok (.iload 6, 2) by decide +kernel) ?_
  refine fw_if_le 96 (show decode _ _ = .ok (.ifCond .le 18, 3) by decide +kernel) (by decide) (fun hc23 => ?_) (fun hc23 => ?_)
  · have h_5 := ipos hc23 h_4
    refine fw_lconst (v := (0 : Int64)) (show decode _ _ = .ok (.lconst 0, 1) by decide +kernel) (by decide) ?_
    refine FW.sub [1, 2, 3, 4, 5, 6, 7] (ls' := [(0, .ref p0), (1, .int p1), (2, .int p2), (3, .int p3), (4, .int p4), (5, .int p5), (6, .int p6)]) rfl ?_
    exact sj_X3_oddsOfSure_97 hd hK18 hK37 h_5
  · have h_6 := ineg hc23 h_4
    refine fw_aload_n (i := 0) 1 rfl (show decode _ _ = .ok (.aload_n 0, 1) by decide +kernel) ?_
    refine fw_getP (kd := 3) (k := 11) (show decode _ _ = .ok (.getfield 25, 3) by decide +kernel) gf_X3_25 hr14 hs15 rfl ?_
    have h_7 := dR_e h_6
    obtain ⟨y18, hy19, h_8⟩ := h_7
    refine fw_deref hy19 ?_
    refine fw_iload (i := 6) 7 rfl (show decode _ _ = .ok (.iload 6, 2) by decide +kernel) ?_
    refine fw_iconst (v := (1 : Int32)) (show decode _ _ = .ok (.iconst 1, 1) by decide +kernel) (by decide) ?_
    refine fw_isub (show decode _ _ = .ok (.isub, 1) by decide +kernel) ?_
    obtain ⟨⟨n20, hs21, hi22⟩, h_9⟩ := h_8
    refine fw_lald (show decode _ _ = .ok (.laload, 1) by decide +kernel) hs21 hi22 ?_
    refine fw_iload_n (i := 2) 3 rfl (show decode _ _ = .ok (.iload_n 2, 1) by decide +kernel) ?_
    refine fw_i2l (show decode _ _ = .ok (.i2l, 1) by decide +kernel) ?_
    refine fw_lmul (show decode _ _ = .ok (.lmul, 1) by decide +kernel) ?_
    refine fw_goto 97 (show decode _ _ = .ok (.goto 4, 3) by decide +kernel) (by decide) ?_
    refine FW.sub [1, 2, 3, 4, 5, 6, 7] (ls' := [(0, .ref p0), (1, .int p1), (2, .int p2), (3, .int p3), (4, .int p4), (5, .int p5), (6, .int p6)]) rfl ?_
    exact sj_X3_oddsOfSure_97 hd hK18 hK37 h_9
def b_X3_oddsOfSure_37 (K18 : Nat → Int32 → Int32 → Int32 → Int32 → Int32 → fM → Prop) (K37 : Nat → Int32 → Int32 → Int32 → Int32 → Int32 → Int32 → fM → Prop) (φ : Int64 → fM → Prop) (p0 : Nat) (p1 : Int32) (p2 : Int32) (p3 : Int32) (p4 : Int32) (p5 : Int32) (p6 : Int32) (M : fM) : Prop := iF (p6 < 0) (nm (p5 + (1 : Int32)) fun x24 => K18 p0 p1 p2 p3 p4 x24 M) (isO M p0 3 ∧ dR (mP M p0 11) fun y29 => inA M y29 13 p6 ∧ iF (p6 = p1) (j_X3_oddsOfSure_64 K18 K37 φ p0 p1 p2 p3 p4 p5 p6 (10 : Int32) (mJ M y29 (ix p6)) M) (j_X3_oddsOfSure_64 K18 K37 φ p0 p1 p2 p3 p4 p5 p6 ((10 : Int32) - p2) (mJ M y29 (ix p6)) M))
def l_X3_oddsOfSure_37 (K18 : Nat → Int32 → Int32 → Int32 → Int32 → Int32 → fM → Prop) (φ : Int64 → fM → Prop) : Nat → Nat → Int32 → Int32 → Int32 → Int32 → Int32 → Int32 → fM → Prop
  | 0, _, _, _, _, _, _, _, _ => False
  | n + 1, p0, p1, p2, p3, p4, p5, p6, M => b_X3_oddsOfSure_37 K18 (l_X3_oddsOfSure_37 K18 φ n) φ p0 p1 p2 p3 p4 p5 p6 M
set_option maxRecDepth 100000 in
theorem sb_X3_oddsOfSure_37 {g : GT} {d : Nat} (hd : 2 ≤ d + 1) {K18 : Nat → Int32 → Int32 → Int32 → Int32 → Int32 → fM → Prop} {K37 : Nat → Int32 → Int32 → Int32 → Int32 → Int32 → Int32 → fM → Prop} {φ : Int64 → fM → Prop} (hK18 : ∀ (p0 : Nat) (p1 : Int32) (p2 : Int32) (p3 : Int32) (p4 : Int32) (p5 : Int32) (M : fM), K18 p0 p1 p2 p3 p4 p5 M → FW g mtX3_oddsOfSure (d + 1) 18 [(0, .ref p0), (1, .int p1), (2, .int p2), (3, .int p3), (4, .int p4), (5, .int p5)] [] M 0 0 (rJ φ)) (hK37 : ∀ (p0 : Nat) (p1 : Int32) (p2 : Int32) (p3 : Int32) (p4 : Int32) (p5 : Int32) (p6 : Int32) (M : fM), K37 p0 p1 p2 p3 p4 p5 p6 M → FW g mtX3_oddsOfSure (d + 1) 37 [(0, .ref p0), (1, .int p1), (2, .int p2), (3, .int p3), (4, .int p4), (5, .int p5), (6, .int p6)] [] M 0 0 (rJ φ)) {p0 : Nat} {p1 : Int32} {p2 : Int32} {p3 : Int32} {p4 : Int32} {p5 : Int32} {p6 : Int32} {M : fM} (h : b_X3_oddsOfSure_37 K18 K37 φ p0 p1 p2 p3 p4 p5 p6 M) : FW g mtX3_oddsOfSure (d + 1) 37 [(0, .ref p0), (1, .int p1), (2, .int p2), (3, .int p3), (4, .int p4), (5, .int p5), (6, .int p6)] [] M 0 0 (rJ φ) := by
  unfold b_X3_oddsOfSure_37 at h
  refine fw_iload (i := 6) 6 rfl (show decode _ _ = .ok (.iload 6, 2) by decide +kernel) ?_
  refine fw_if_lt 105 (show decode _ _ = .ok (.ifCond .lt 66, 3) by decide +kernel) (by decide) (fun hc35 => ?_) (fun hc35 => ?_)
  · have h_1 := ipos hc35 h
    obtain ⟨x24, ex25⟩ : ∃ y : Int32, y = p5 + (1 : Int32) := ⟨_, rfl⟩
    have h_2 := h_1 x24 ex25
    refine fw_iinc (i := 5) (x := p5) (v := x24) (ls' := [(5, .int x24), (0, .ref p0), (1, .int p1), (2, .int p2), (3, .int p3), (4, .int p4), (6, .int p6)]) 5 rfl (show decode _ _ = .ok (.iinc 5 1, 3) by decide +kernel) (by rw [ex25]; rfl) (by decide) rfl ?_
    refine fw_goto 18 (show decode _ _ = .ok (.goto (-90), 3) by decide +kernel) (by decide) ?_
    refine FW.sub [1, 2, 3, 4, 5, 0] (ls' := [(0, .ref p0), (1, .int p1), (2, .int p2), (3, .int p3), (4, .int p4), (5, .int x24)]) rfl ?_
    exact hK18 _ _ _ _ _ _ _ h_2
  · have h_3 := ineg hc35 h
    refine fw_aload_n (i := 0) 0 rfl (show decode _ _ = .ok (.aload_n 0, 1) by decide +kernel) ?_
    obtain ⟨⟨hr27, n26, hs28⟩, h_4⟩ := h_3
    refine fw_getP (kd := 3) (k := 11) (show decode _ _ = .ok (.getfield 25, 3) by decide +kernel) gf_X3_25 hr27 hs28 rfl ?_
    have h_5 := dR_e h_4
    obtain ⟨y29, hy30, h_6⟩ := h_5
    refine fw_deref hy30 ?_
    refine fw_iload (i := 6) 6 rfl (show decode _ _ = .ok (.iload 6, 2) by decide +kernel) ?_
    obtain ⟨⟨n31, hs32, hi33⟩, h_7⟩ := h_6
    refine fw_lald (show decode _ _ = .ok (.laload, 1) by decide +kernel) hs32 hi33 ?_
    refine fw_iload (i := 6) 6 rfl (show decode _ _ = .ok (.iload 6, 2) by decide +kernel) ?_
    refine fw_iload_n (i := 1) 1 rfl (show decode _ _ = .ok (.iload_n 1, 1) by decide +kernel) ?_
    refine fw_icmp_ne 60 (show decode _ _ = .ok (.if_icmp .ne 8, 3) by decide +kernel) (by decide) (fun hc34 => ?_) (fun hc34 => ?_)
    · have h_8 := ineg hc34 h_7
      refine fw_bipush (v := (10 : Int32)) (show decode _ _ = .ok (.bipush 10, 2) by decide +kernel) (by decide) ?_
      refine fw_iload_n (i := 2) 2 rfl (show decode _ _ = .ok (.iload_n 2, 1) by decide +kernel) ?_
      refine fw_isub (show decode _ _ = .ok (.isub, 1) by decide +kernel) ?_
      refine FW.sub [0, 1, 2, 3, 4, 5, 6] (ls' := [(0, .ref p0), (1, .int p1), (2, .int p2), (3, .int p3), (4, .int p4), (5, .int p5), (6, .int p6)]) rfl ?_
      exact sj_X3_oddsOfSure_64 hd hK18 hK37 h_8
    · have h_9 := ipos hc34 h_7
      refine fw_bipush (v := (10 : Int32)) (show decode _ _ = .ok (.bipush 10, 2) by decide +kernel) (by decide) ?_
      refine fw_goto 64 (show decode _ _ = .ok (.goto 7, 3) by decide +kernel) (by decide) ?_
      refine FW.sub [0, 1, 2, 3, 4, 5, 6] (ls' := [(0, .ref p0), (1, .int p1), (2, .int p2), (3, .int p3), (4, .int p4), (5, .int p5), (6, .int p6)]) rfl ?_
      exact sj_X3_oddsOfSure_64 hd hK18 hK37 h_9
theorem sl_X3_oddsOfSure_37 {g : GT} {d : Nat} (hd : 2 ≤ d + 1) {K18 : Nat → Int32 → Int32 → Int32 → Int32 → Int32 → fM → Prop} {φ : Int64 → fM → Prop} (hK18 : ∀ (p0 : Nat) (p1 : Int32) (p2 : Int32) (p3 : Int32) (p4 : Int32) (p5 : Int32) (M : fM), K18 p0 p1 p2 p3 p4 p5 M → FW g mtX3_oddsOfSure (d + 1) 18 [(0, .ref p0), (1, .int p1), (2, .int p2), (3, .int p3), (4, .int p4), (5, .int p5)] [] M 0 0 (rJ φ)) : ∀ (n : Nat) {p0 : Nat} {p1 : Int32} {p2 : Int32} {p3 : Int32} {p4 : Int32} {p5 : Int32} {p6 : Int32} {M : fM}, l_X3_oddsOfSure_37 K18 φ n p0 p1 p2 p3 p4 p5 p6 M → FW g mtX3_oddsOfSure (d + 1) 37 [(0, .ref p0), (1, .int p1), (2, .int p2), (3, .int p3), (4, .int p4), (5, .int p5), (6, .int p6)] [] M 0 0 (rJ φ)
  | 0 => fun h => h.elim
  | n + 1 => fun h => sb_X3_oddsOfSure_37 hd hK18 (fun _ _ _ _ _ _ _ _ h => sl_X3_oddsOfSure_37 hd hK18 n h) h
def b_X3_oddsOfSure_18 (K18 : Nat → Int32 → Int32 → Int32 → Int32 → Int32 → fM → Prop) (φ : Int64 → fM → Prop) (p0 : Nat) (p1 : Int32) (p2 : Int32) (p3 : Int32) (p4 : Int32) (p5 : Int32) (M : fM) : Prop := iF (p3 ≤ p5) (iF (p1 < 0) (φ (-1 : Int64) M) (isO M p0 3 ∧ dR (mP M p0 11) fun y39 => lenA M y39 13 fun n41 => iF ((nI n41) ≤ p1) (φ (-1 : Int64) M) (dR (mP M p0 11) fun y43 => inA M y43 13 p1 ∧ w_X3_power p3 M fun x49 M48 => w_X10_part (mJ M y43 (ix p1)) x49 p4 M48 fun x51 M50 => φ x51 M50))) (isO M p0 3 ∧ dR (mP M p0 11) fun y57 => lenA M y57 13 fun n59 => nm (imin p1 ((nI n59) - (1 : Int32))) fun x61 => ∃ n, l_X3_oddsOfSure_37 K18 φ n p0 p1 p2 p3 p4 p5 x61 M)
def l_X3_oddsOfSure_18 (φ : Int64 → fM → Prop) : Nat → Nat → Int32 → Int32 → Int32 → Int32 → Int32 → fM → Prop
  | 0, _, _, _, _, _, _, _ => False
  | n + 1, p0, p1, p2, p3, p4, p5, M => b_X3_oddsOfSure_18 (l_X3_oddsOfSure_18 φ n) φ p0 p1 p2 p3 p4 p5 M
set_option maxRecDepth 100000 in
theorem sb_X3_oddsOfSure_18 {g : GT} {d : Nat} (hd : 2 ≤ d + 1) {K18 : Nat → Int32 → Int32 → Int32 → Int32 → Int32 → fM → Prop} {φ : Int64 → fM → Prop} (hK18 : ∀ (p0 : Nat) (p1 : Int32) (p2 : Int32) (p3 : Int32) (p4 : Int32) (p5 : Int32) (M : fM), K18 p0 p1 p2 p3 p4 p5 M → FW g mtX3_oddsOfSure (d + 1) 18 [(0, .ref p0), (1, .int p1), (2, .int p2), (3, .int p3), (4, .int p4), (5, .int p5)] [] M 0 0 (rJ φ)) {p0 : Nat} {p1 : Int32} {p2 : Int32} {p3 : Int32} {p4 : Int32} {p5 : Int32} {M : fM} (h : b_X3_oddsOfSure_18 K18 φ p0 p1 p2 p3 p4 p5 M) : FW g mtX3_oddsOfSure (d + 1) 18 [(0, .ref p0), (1, .int p1), (2, .int p2), (3, .int p3), (4, .int p4), (5, .int p5)] [] M 0 0 (rJ φ) := by
  unfold b_X3_oddsOfSure_18 at h
  refine fw_iload (i := 5) 5 rfl (show decode _ _ = .ok (.iload 5, 2) by decide +kernel) ?_
  refine fw_iload_n (i := 3) 3 rfl (show decode _ _ = .ok (.iload_n 3, 1) by decide +kernel) ?_
  refine fw_icmp_ge 111 (show decode _ _ = .ok (.if_icmp .ge 90, 3) by decide +kernel) (by decide) (fun hc63 => ?_) (fun hc63 => ?_)
  · have h_1 := ipos hc63 h
    refine fw_iload_n (i := 1) 1 rfl (show decode _ _ = .ok (.iload_n 1, 1) by decide +kernel) ?_
    refine fw_if_lt 142 (show decode _ _ = .ok (.ifCond .lt 30, 3) by decide +kernel) (by decide) (fun hc53 => ?_) (fun hc53 => ?_)
    · have h_2 := ipos hc53 h_1
      refine fw_ldc2 (idx := 143) (v := (-1 : Int64)) (show decode _ _ = .ok (.ldc2_w 143, 3) by decide +kernel) wd1110 ?_
      exact fw_ret (v := some (.long (-1 : Int64))) .lreturn (show decode _ _ = .ok (.lreturn, 1) by decide +kernel) ⟨rfl, rfl⟩ ⟨_, rfl, h_2⟩
    · have h_3 := ineg hc53 h_1
      refine fw_iload_n (i := 1) 1 rfl (show decode _ _ = .ok (.iload_n 1, 1) by decide +kernel) ?_
      refine fw_aload_n (i := 0) 0 rfl (show decode _ _ = .ok (.aload_n 0, 1) by decide +kernel) ?_
      obtain ⟨⟨hr37, n36, hs38⟩, h_4⟩ := h_3
      refine fw_getP (kd := 3) (k := 11) (show decode _ _ = .ok (.getfield 25, 3) by decide +kernel) gf_X3_25 hr37 hs38 rfl ?_
      have h_5 := dR_e h_4
      obtain ⟨y39, hy40, h_6⟩ := h_5
      refine fw_deref hy40 ?_
      obtain ⟨n41, hs42, h_7⟩ := h_6
      refine fw_alen (show decode _ _ = .ok (.arraylength, 1) by decide +kernel) hs42 (by decide) (by decide) (by decide) (fun h_7 => absurd h_7 (by decide)) ?_
      refine fw_icmp_ge 142 (show decode _ _ = .ok (.if_icmp .ge 21, 3) by decide +kernel) (by decide) (fun hc52 => ?_) (fun hc52 => ?_)
      · have h_8 := ipos hc52 h_7
        refine fw_ldc2 (idx := 143) (v := (-1 : Int64)) (show decode _ _ = .ok (.ldc2_w 143, 3) by decide +kernel) wd1110 ?_
        exact fw_ret (v := some (.long (-1 : Int64))) .lreturn (show decode _ _ = .ok (.lreturn, 1) by decide +kernel) ⟨rfl, rfl⟩ ⟨_, rfl, h_8⟩
      · have h_9 := ineg hc52 h_7
        refine fw_aload_n (i := 0) 0 rfl (show decode _ _ = .ok (.aload_n 0, 1) by decide +kernel) ?_
        refine fw_getP (kd := 3) (k := 11) (show decode _ _ = .ok (.getfield 25, 3) by decide +kernel) gf_X3_25 hr37 hs38 rfl ?_
        have h_10 := dR_e h_9
        obtain ⟨y43, hy44, h_11⟩ := h_10
        refine fw_deref hy44 ?_
        refine fw_iload_n (i := 1) 1 rfl (show decode _ _ = .ok (.iload_n 1, 1) by decide +kernel) ?_
        obtain ⟨⟨n45, hs46, hi47⟩, h_12⟩ := h_11
        refine fw_lald (show decode _ _ = .ok (.laload, 1) by decide +kernel) hs46 hi47 ?_
        refine fw_iload_n (i := 3) 3 rfl (show decode _ _ = .ok (.iload_n 3, 1) by decide +kernel) ?_
        refine fw_callS (mt' := mtX3_power) (mc := 0) (ms := 0) (As := [.int p3]) (rest := [.long (mJ M y43 (ix p1))]) 1 (show decode _ _ = .ok (.invokestatic 136, 3) by decide +kernel) cs_X3_136 rfl (Nat.le_of_ble_eq_true rfl) (s_X3_power (d := d) (hd_le hd (by decide)) h_12) (by decide) (by decide) (kJ (bc' := 0) (bs' := 0) (by decide) (by decide) (fun x49 M48 h_13 => ?_))
        refine fw_iload (i := 4) 4 rfl (show decode _ _ = .ok (.iload 4, 2) by decide +kernel) ?_
        refine fw_callSN (mt' := mtX10_part) (mc := 0) (ms := 0) (As := [.long (mJ M y43 (ix p1)), .long x49, .int p4]) (rest := []) 3 "OneStepMore" (show decode _ _ = .ok (.invokestatic 151, 3) by decide +kernel) ns_X3_151 rfl (Nat.le_of_ble_eq_true rfl) (s_X10_part (d := d) (hd_le hd (by decide)) h_13) (by decide) (by decide) (kJ (bc' := 0) (bs' := 0) (by decide) (by decide) (fun x51 M50 h_14 => ?_))
        refine fw_goto 145 (show decode _ _ = .ok (.goto 6, 3) by decide +kernel) (by decide) ?_
        exact fw_ret (v := some (.long x51)) .lreturn (show decode _ _ = .ok (.lreturn, 1) by decide +kernel) ⟨rfl, rfl⟩ ⟨_, rfl, h_14⟩
  · have h_15 := ineg hc63 h
    refine fw_iload_n (i := 1) 1 rfl (show decode _ _ = .ok (.iload_n 1, 1) by decide +kernel) ?_
    refine fw_aload_n (i := 0) 0 rfl (show decode _ _ = .ok (.aload_n 0, 1) by decide +kernel) ?_
    obtain ⟨⟨hr55, n54, hs56⟩, h_16⟩ := h_15
    refine fw_getP (kd := 3) (k := 11) (show decode _ _ = .ok (.getfield 25, 3) by decide +kernel) gf_X3_25 hr55 hs56 rfl ?_
    have h_17 := dR_e h_16
    obtain ⟨y57, hy58, h_18⟩ := h_17
    refine fw_deref hy58 ?_
    obtain ⟨n59, hs60, h_19⟩ := h_18
    refine fw_alen (show decode _ _ = .ok (.arraylength, 1) by decide +kernel) hs60 (by decide) (by decide) (by decide) (fun h_19 => absurd h_19 (by decide)) ?_
    refine fw_iconst (v := (1 : Int32)) (show decode _ _ = .ok (.iconst 1, 1) by decide +kernel) (by decide) ?_
    refine fw_isub (show decode _ _ = .ok (.isub, 1) by decide +kernel) ?_
    refine fw_mmin (idx := 190) (rest := []) (show decode _ _ = .ok (.invokestatic 190, 3) by decide +kernel) ⟨wd1237, wd641, wd142, wd642⟩ (Nat.le_of_ble_eq_true rfl) ?_
    refine fw_nmI (fun x61 ex62 => ?_)
    have h_20 := h_19 x61 ex62
    refine fw_istore (i := 6) (ls' := [(6, .int x61), (0, .ref p0), (1, .int p1), (2, .int p2), (3, .int p3), (4, .int p4), (5, .int p5)]) (show decode _ _ = .ok (.istore 6, 2) by decide +kernel) (by decide) rfl ?_
    refine FW.sub [1, 2, 3, 4, 5, 6, 0] (ls' := [(0, .ref p0), (1, .int p1), (2, .int p2), (3, .int p3), (4, .int p4), (5, .int p5), (6, .int x61)]) rfl ?_
    obtain ⟨nn, h_21⟩ := h_20
    exact sl_X3_oddsOfSure_37 hd hK18 nn h_21
theorem sl_X3_oddsOfSure_18 {g : GT} {d : Nat} (hd : 2 ≤ d + 1) {φ : Int64 → fM → Prop} : ∀ (n : Nat) {p0 : Nat} {p1 : Int32} {p2 : Int32} {p3 : Int32} {p4 : Int32} {p5 : Int32} {M : fM}, l_X3_oddsOfSure_18 φ n p0 p1 p2 p3 p4 p5 M → FW g mtX3_oddsOfSure (d + 1) 18 [(0, .ref p0), (1, .int p1), (2, .int p2), (3, .int p3), (4, .int p4), (5, .int p5)] [] M 0 0 (rJ φ)
  | 0 => fun h => h.elim
  | n + 1 => fun h => sb_X3_oddsOfSure_18 hd (fun _ _ _ _ _ _ _ h => sl_X3_oddsOfSure_18 hd n h) h
def w_X3_oddsOfSure (p0 : Nat) (p1 : Int32) (p2 : Int32) (p3 : Int32) (p4 : Int32) (M : fM) (φ : Int64 → fM → Prop) : Prop := isO M p0 3 ∧ dR (mP M p0 11) fun y67 => w_J7_fill_d0a16 y67 (0 : Int64) M fun M69 => isO M69 p0 3 ∧ dR (mP M69 p0 11) fun y73 => 6 ≤ y73 ∧ inA M69 y73 13 (0 : Int32) ∧ st (wJ M69 y73 (ix (0 : Int32)) (1 : Int64)) fun M79 => ∃ n, l_X3_oddsOfSure_18 φ n p0 p1 p2 p3 p4 (0 : Int32) M79
set_option maxRecDepth 100000 in
theorem s_X3_oddsOfSure {g : GT} {d : Nat} (hd : 2 ≤ d) {p0 : Nat} {p1 : Int32} {p2 : Int32} {p3 : Int32} {p4 : Int32} {M : fM} {φ : Int64 → fM → Prop} (h : w_X3_oddsOfSure p0 p1 p2 p3 p4 M φ) : FC g mtX3_oddsOfSure d [.ref p0, .int p1, .int p2, .int p3, .int p4] M 0 0 (rJ φ) := by
  obtain ⟨d, rfl⟩ : ∃ e, d = e + 1 := ⟨d - 1, by omega⟩
  unfold w_X3_oddsOfSure at h
  refine FC.intro (nL := 9) (by decide) rfl (Nat.le_of_ble_eq_true rfl) ?_
  show FW g mtX3_oddsOfSure (d + 1) 0 [(0, .ref p0), (1, .int p1), (2, .int p2), (3, .int p3), (4, .int p4)] [] M 0 0 (rJ φ)
  refine fw_aload_n (i := 0) 0 rfl (show decode _ _ = .ok (.aload_n 0, 1) by decide +kernel) ?_
  obtain ⟨⟨hr65, n64, hs66⟩, h_1⟩ := h
  refine fw_getP (kd := 3) (k := 11) (show decode _ _ = .ok (.getfield 25, 3) by decide +kernel) gf_X3_25 hr65 hs66 rfl ?_
  have h_2 := dR_e h_1
  obtain ⟨y67, hy68, h_3⟩ := h_2
  refine fw_deref hy68 ?_
  refine fw_lconst (v := (0 : Int64)) (show decode _ _ = .ok (.lconst 0, 1) by decide +kernel) (by decide) ?_
  refine fw_callS (mt' := mtJ7_fill_d0a16) (mc := 0) (ms := 0) (As := [.ref y67, .long (0 : Int64)]) (rest := []) 2 (show decode _ _ = .ok (.invokestatic 113, 3) by decide +kernel) cs_X3_113 rfl (Nat.le_of_ble_eq_true rfl) (s_J7_fill_d0a16 (d := d) (hd_le hd (by decide)) h_3) (by decide) (by decide) (kV (bc' := 0) (bs' := 0) (by decide) (by decide) (fun M69 h_4 => ?_))
  refine fw_aload_n (i := 0) 0 rfl (show decode _ _ = .ok (.aload_n 0, 1) by decide +kernel) ?_
  obtain ⟨⟨hr71, n70, hs72⟩, h_5⟩ := h_4
  refine fw_getP (kd := 3) (k := 11) (show decode _ _ = .ok (.getfield 25, 3) by decide +kernel) gf_X3_25 hr71 hs72 rfl ?_
  have h_6 := dR_e h_5
  obtain ⟨y73, hy74, h_7⟩ := h_6
  refine fw_deref hy74 ?_
  refine fw_iconst (v := (0 : Int32)) (show decode _ _ = .ok (.iconst 0, 1) by decide +kernel) (by decide) ?_
  refine fw_lconst (v := (1 : Int64)) (show decode _ _ = .ok (.lconst 1, 1) by decide +kernel) (by decide) ?_
  obtain ⟨hr78, ⟨n75, hs76, hi77⟩, h_8⟩ := h_7
  refine fw_last (show decode _ _ = .ok (.lastore, 1) by decide +kernel) hr78 hs76 hi77 ?_
  refine FW.nmM (fun M79 eM80 => ?_)
  have h_9 := h_8 M79 eM80
  refine fw_iconst (v := (0 : Int32)) (show decode _ _ = .ok (.iconst 0, 1) by decide +kernel) (by decide) ?_
  refine fw_istore (i := 5) (ls' := [(5, .int (0 : Int32)), (0, .ref p0), (1, .int p1), (2, .int p2), (3, .int p3), (4, .int p4)]) (show decode _ _ = .ok (.istore 5, 2) by decide +kernel) (by decide) rfl ?_
  refine FW.sub [1, 2, 3, 4, 5, 0] (ls' := [(0, .ref p0), (1, .int p1), (2, .int p2), (3, .int p3), (4, .int p4), (5, .int (0 : Int32))]) rfl ?_
  obtain ⟨nn, h_10⟩ := h_9
  exact sl_X3_oddsOfSure_18 hd nn h_10
def w_X10_sure (p0 : Nat) (p1 : Int32) (p2 : Int32) (p3 : Int32) (p4 : Int32) (M : fM) (φ : Int64 → fM → Prop) : Prop := iF (p1 < (1 : Int32)) (φ (-1 : Int64) M) (iF ((9 : Int32) < p1) (φ (-1 : Int64) M) (iF (p2 < (1 : Int32)) (φ (-1 : Int64) M) (iF ((10 : Int32) < p2) (φ (-1 : Int64) M) (iF (p3 < 0) (φ (-1 : Int64) M) (lenA M 2 13 fun n1 => iF (p3 < (nI n1)) (isO M p0 10 ∧ dR (mP M p0 5) fun y6 => isO M y6 3 ∧ w_X3_oddsOfSure y6 p1 p2 p3 p4 M fun x12 M8 => φ x12 M8) (φ (-1 : Int64) M))))))
set_option maxRecDepth 100000 in
theorem s_X10_sure {g : GT} {d : Nat} (hd : 3 ≤ d) {p0 : Nat} {p1 : Int32} {p2 : Int32} {p3 : Int32} {p4 : Int32} {M : fM} {φ : Int64 → fM → Prop} (h : w_X10_sure p0 p1 p2 p3 p4 M φ) : FC g mtX10_sure d [.ref p0, .int p1, .int p2, .int p3, .int p4] M 0 0 (rJ φ) := by
  obtain ⟨d, rfl⟩ : ∃ e, d = e + 1 := ⟨d - 1, by omega⟩
  unfold w_X10_sure at h
  refine FC.intro (nL := 5) (by decide) rfl (Nat.le_of_ble_eq_true rfl) ?_
  show FW g mtX10_sure (d + 1) 0 [(0, .ref p0), (1, .int p1), (2, .int p2), (3, .int p3), (4, .int p4)] [] M 0 0 (rJ φ)
  refine fw_iload_n (i := 1) 1 rfl (show decode _ _ = .ok (.iload_n 1, 1) by decide +kernel) ?_
  refine fw_iconst (v := (1 : Int32)) (show decode _ _ = .ok (.iconst 1, 1) by decide +kernel) (by decide) ?_
  refine fw_icmp_lt 34 (show decode _ _ = .ok (.if_icmp .lt 32, 3) by decide +kernel) (by decide) (fun hc18 => ?_) (fun hc18 => ?_)
  · have h_1 := ipos hc18 h
    refine fw_ldc2 (idx := 210) (v := (-1 : Int64)) (show decode _ _ = .ok (.ldc2_w 210, 3) by decide +kernel) wd1151 ?_
    exact fw_ret (v := some (.long (-1 : Int64))) .lreturn (show decode _ _ = .ok (.lreturn, 1) by decide +kernel) ⟨rfl, rfl⟩ ⟨_, rfl, h_1⟩
  · have h_2 := ineg hc18 h
    refine fw_iload_n (i := 1) 1 rfl (show decode _ _ = .ok (.iload_n 1, 1) by decide +kernel) ?_
    refine fw_bipush (v := (9 : Int32)) (show decode _ _ = .ok (.bipush 9, 2) by decide +kernel) (by decide) ?_
    refine fw_icmp_gt 34 (show decode _ _ = .ok (.if_icmp .gt 26, 3) by decide +kernel) (by decide) (fun hc17 => ?_) (fun hc17 => ?_)
    · have h_3 := ipos hc17 h_2
      refine fw_ldc2 (idx := 210) (v := (-1 : Int64)) (show decode _ _ = .ok (.ldc2_w 210, 3) by decide +kernel) wd1151 ?_
      exact fw_ret (v := some (.long (-1 : Int64))) .lreturn (show decode _ _ = .ok (.lreturn, 1) by decide +kernel) ⟨rfl, rfl⟩ ⟨_, rfl, h_3⟩
    · have h_4 := ineg hc17 h_2
      refine fw_iload_n (i := 2) 2 rfl (show decode _ _ = .ok (.iload_n 2, 1) by decide +kernel) ?_
      refine fw_iconst (v := (1 : Int32)) (show decode _ _ = .ok (.iconst 1, 1) by decide +kernel) (by decide) ?_
      refine fw_icmp_lt 34 (show decode _ _ = .ok (.if_icmp .lt 21, 3) by decide +kernel) (by decide) (fun hc16 => ?_) (fun hc16 => ?_)
      · have h_5 := ipos hc16 h_4
        refine fw_ldc2 (idx := 210) (v := (-1 : Int64)) (show decode _ _ = .ok (.ldc2_w 210, 3) by decide +kernel) wd1151 ?_
        exact fw_ret (v := some (.long (-1 : Int64))) .lreturn (show decode _ _ = .ok (.lreturn, 1) by decide +kernel) ⟨rfl, rfl⟩ ⟨_, rfl, h_5⟩
      · have h_6 := ineg hc16 h_4
        refine fw_iload_n (i := 2) 2 rfl (show decode _ _ = .ok (.iload_n 2, 1) by decide +kernel) ?_
        refine fw_bipush (v := (10 : Int32)) (show decode _ _ = .ok (.bipush 10, 2) by decide +kernel) (by decide) ?_
        refine fw_icmp_gt 34 (show decode _ _ = .ok (.if_icmp .gt 15, 3) by decide +kernel) (by decide) (fun hc15 => ?_) (fun hc15 => ?_)
        · have h_7 := ipos hc15 h_6
          refine fw_ldc2 (idx := 210) (v := (-1 : Int64)) (show decode _ _ = .ok (.ldc2_w 210, 3) by decide +kernel) wd1151 ?_
          exact fw_ret (v := some (.long (-1 : Int64))) .lreturn (show decode _ _ = .ok (.lreturn, 1) by decide +kernel) ⟨rfl, rfl⟩ ⟨_, rfl, h_7⟩
        · have h_8 := ineg hc15 h_6
          refine fw_iload_n (i := 3) 3 rfl (show decode _ _ = .ok (.iload_n 3, 1) by decide +kernel) ?_
          refine fw_if_lt 34 (show decode _ _ = .ok (.ifCond .lt 11, 3) by decide +kernel) (by decide) (fun hc14 => ?_) (fun hc14 => ?_)
          · have h_9 := ipos hc14 h_8
            refine fw_ldc2 (idx := 210) (v := (-1 : Int64)) (show decode _ _ = .ok (.ldc2_w 210, 3) by decide +kernel) wd1151 ?_
            exact fw_ret (v := some (.long (-1 : Int64))) .lreturn (show decode _ _ = .ok (.lreturn, 1) by decide +kernel) ⟨rfl, rfl⟩ ⟨_, rfl, h_9⟩
          · have h_10 := ineg hc14 h_8
            refine fw_iload_n (i := 3) 3 rfl (show decode _ _ = .ok (.iload_n 3, 1) by decide +kernel) ?_
            refine fw_gets (idx := 241) (r := 2) (show decode _ _ = .ok (.getstatic 241, 3) by decide +kernel) (by decide) wd1232 ?_
            obtain ⟨n1, hs2, h_11⟩ := h_10
            refine fw_alen (show decode _ _ = .ok (.arraylength, 1) by decide +kernel) hs2 (by decide) (by decide) (by decide) (fun h_11 => absurd h_11 (by decide)) ?_
            refine fw_icmp_lt 38 (show decode _ _ = .ok (.if_icmp .lt 7, 3) by decide +kernel) (by decide) (fun hc13 => ?_) (fun hc13 => ?_)
            · have h_12 := ipos hc13 h_11
              refine fw_aload_n (i := 0) 0 rfl (show decode _ _ = .ok (.aload_n 0, 1) by decide +kernel) ?_
              obtain ⟨⟨hr4, n3, hs5⟩, h_13⟩ := h_12
              refine fw_getP (kd := 10) (k := 5) (show decode _ _ = .ok (.getfield 50, 3) by decide +kernel) gf_X10_50 hr4 hs5 rfl ?_
              have h_14 := dR_e h_13
              obtain ⟨y6, hy7, h_15⟩ := h_14
              refine fw_deref hy7 ?_
              refine fw_iload_n (i := 1) 1 rfl (show decode _ _ = .ok (.iload_n 1, 1) by decide +kernel) ?_
              refine fw_iload_n (i := 2) 2 rfl (show decode _ _ = .ok (.iload_n 2, 1) by decide +kernel) ?_
              refine fw_iload_n (i := 3) 3 rfl (show decode _ _ = .ok (.iload_n 3, 1) by decide +kernel) ?_
              refine fw_iload (i := 4) 4 rfl (show decode _ _ = .ok (.iload 4, 2) by decide +kernel) ?_
              obtain ⟨⟨hr10, n9, hs11⟩, h_16⟩ := h_15
              refine fw_callV (mt' := mtX3_oddsOfSure) (mc := 0) (ms := 0) (As := [.int p1, .int p2, .int p3, .int p4]) (rest := []) 4 3 n9 (show decode _ _ = .ok (.invokevirtual 245, 3) by decide +kernel) cv_X10_245 ⟨_, rfl, rfl⟩ hr10 hs11 rfl (Nat.le_of_ble_eq_true rfl) (s_X3_oddsOfSure (d := d) (hd_le hd (by decide)) h_16) (by decide) (by decide) (kJ (bc' := 0) (bs' := 0) (by decide) (by decide) (fun x12 M8 h_17 => ?_))
              exact fw_ret (v := some (.long x12)) .lreturn (show decode _ _ = .ok (.lreturn, 1) by decide +kernel) ⟨rfl, rfl⟩ ⟨_, rfl, h_17⟩
            · have h_18 := ineg hc13 h_11
              refine fw_ldc2 (idx := 210) (v := (-1 : Int64)) (show decode _ _ = .ok (.ldc2_w 210, 3) by decide +kernel) wd1151 ?_
              exact fw_ret (v := some (.long (-1 : Int64))) .lreturn (show decode _ _ = .ok (.lreturn, 1) by decide +kernel) ⟨rfl, rfl⟩ ⟨_, rfl, h_18⟩
def w_X6_counted (p0 : Nat) (p1 : Int32) (p2 : Int32) (M : fM) (φ : Int32 → fM → Prop) : Prop := iF (p2 = (1 : Int32)) (isO M p0 6 ∧ dR (mP M p0 0) fun y4 => isO M y4 5 ∧ w_X5_lineOf y4 p1 (6 : Int32) M fun x10 M6 => iF (x10 = (1 : Int32)) (φ (1 : Int32) M6) (φ (0 : Int32) M6)) (iF (p2 = (2 : Int32)) (isO M p0 6 ∧ dR (mP M p0 0) fun y16 => isO M y16 5 ∧ w_X5_lineOf y16 p1 (6 : Int32) M fun x22 M18 => iF (x22 = (3 : Int32)) (φ (1 : Int32) M18) (φ (0 : Int32) M18)) (iF (p2 = (3 : Int32)) (isO M p0 6 ∧ dR (mP M p0 0) fun y28 => isO M y28 5 ∧ w_X5_lineOf y28 p1 (7 : Int32) M fun x34 M30 => φ x34 M30) (iF (p2 = (4 : Int32)) (isO M p0 6 ∧ dR (mP M p0 0) fun y39 => isO M y39 5 ∧ w_X5_lineOf y39 p1 (4 : Int32) M fun x45 M41 => φ x45 M41) (iF (p2 = (5 : Int32)) (isO M p0 6 ∧ dR (mP M p0 0) fun y50 => isO M y50 5 ∧ w_X5_lineOf y50 p1 (5 : Int32) M fun x56 M52 => φ x56 M52) (φ (1 : Int32) M)))))
set_option maxRecDepth 100000 in
theorem s_X6_counted {g : GT} {d : Nat} (hd : 3 ≤ d) {p0 : Nat} {p1 : Int32} {p2 : Int32} {M : fM} {φ : Int32 → fM → Prop} (h : w_X6_counted p0 p1 p2 M φ) : FC g mtX6_counted d [.ref p0, .int p1, .int p2] M 0 0 (rI φ) := by
  obtain ⟨d, rfl⟩ : ∃ e, d = e + 1 := ⟨d - 1, by omega⟩
  unfold w_X6_counted at h
  refine FC.intro (nL := 3) (by decide) rfl (Nat.le_of_ble_eq_true rfl) ?_
  show FW g mtX6_counted (d + 1) 0 [(0, .ref p0), (1, .int p1), (2, .int p2)] [] M 0 0 (rI φ)
  refine fw_iload_n (i := 2) 2 rfl (show decode _ _ = .ok (.iload_n 2, 1) by decide +kernel) ?_
  by_cases hc12 : p2 = (1 : Int32)
  · have h_1 := ipos hc12 h
    refine fw_tin (off := 35) 36 (show decode _ _ = .ok (.tableswitch 106 1 5 #[35, 55, 75, 86, 96], 35) by decide +kernel) (by rw [hc12]; decide) (by rw [hc12]; decide) (by rw [hc12]; rfl) (by decide) ?_
    refine fw_aload_n (i := 0) 0 rfl (show decode _ _ = .ok (.aload_n 0, 1) by decide +kernel) ?_
    obtain ⟨⟨hr2, n1, hs3⟩, h_2⟩ := h_1
    refine fw_getP (kd := 6) (k := 0) (show decode _ _ = .ok (.getfield 15, 3) by decide +kernel) gf_X6_15 hr2 hs3 rfl ?_
    have h_3 := dR_e h_2
    obtain ⟨y4, hy5, h_4⟩ := h_3
    refine fw_deref hy5 ?_
    refine fw_iload_n (i := 1) 1 rfl (show decode _ _ = .ok (.iload_n 1, 1) by decide +kernel) ?_
    refine fw_bipush (v := (6 : Int32)) (show decode _ _ = .ok (.bipush 6, 2) by decide +kernel) (by decide) ?_
    obtain ⟨⟨hr8, n7, hs9⟩, h_5⟩ := h_4
    refine fw_callV (mt' := mtX5_lineOf) (mc := 0) (ms := 0) (As := [.int p1, .int (6 : Int32)]) (rest := []) 2 5 n7 (show decode _ _ = .ok (.invokevirtual 77, 3) by decide +kernel) cv_X6_77 ⟨_, rfl, rfl⟩ hr8 hs9 rfl (Nat.le_of_ble_eq_true rfl) (s_X5_lineOf (d := d) (hd_le hd (by decide)) h_5) (by decide) (by decide) (kI (bc' := 0) (bs' := 0) (by decide) (by decide) (fun x10 M6 h_6 => ?_))
    refine fw_iconst (v := (1 : Int32)) (show decode _ _ = .ok (.iconst 1, 1) by decide +kernel) (by decide) ?_
    refine fw_icmp_ne 54 (show decode _ _ = .ok (.if_icmp .ne 7, 3) by decide +kernel) (by decide) (fun hc11 => ?_) (fun hc11 => ?_)
    · have h_7 := ineg hc11 h_6
      refine fw_iconst (v := (0 : Int32)) (show decode _ _ = .ok (.iconst 0, 1) by decide +kernel) (by decide) ?_
      exact fw_ret (v := some (.int (0 : Int32))) .ireturn (show decode _ _ = .ok (.ireturn, 1) by decide +kernel) ⟨rfl, Or.inl rfl⟩ ⟨_, rfl, h_7⟩
    · have h_8 := ipos hc11 h_6
      refine fw_iconst (v := (1 : Int32)) (show decode _ _ = .ok (.iconst 1, 1) by decide +kernel) (by decide) ?_
      refine fw_goto 55 (show decode _ _ = .ok (.goto 4, 3) by decide +kernel) (by decide) ?_
      exact fw_ret (v := some (.int (1 : Int32))) .ireturn (show decode _ _ = .ok (.ireturn, 1) by decide +kernel) ⟨rfl, Or.inl rfl⟩ ⟨_, rfl, h_8⟩
  have h_9 := ineg hc12 h
  by_cases hc24 : p2 = (2 : Int32)
  · have h_10 := ipos hc24 h_9
    refine fw_tin (off := 55) 56 (show decode _ _ = .ok (.tableswitch 106 1 5 #[35, 55, 75, 86, 96], 35) by decide +kernel) (by rw [hc24]; decide) (by rw [hc24]; decide) (by rw [hc24]; rfl) (by decide) ?_
    refine fw_aload_n (i := 0) 0 rfl (show decode _ _ = .ok (.aload_n 0, 1) by decide +kernel) ?_
    obtain ⟨⟨hr14, n13, hs15⟩, h_11⟩ := h_10
    refine fw_getP (kd := 6) (k := 0) (show decode _ _ = .ok (.getfield 15, 3) by decide +kernel) gf_X6_15 hr14 hs15 rfl ?_
    have h_12 := dR_e h_11
    obtain ⟨y16, hy17, h_13⟩ := h_12
    refine fw_deref hy17 ?_
    refine fw_iload_n (i := 1) 1 rfl (show decode _ _ = .ok (.iload_n 1, 1) by decide +kernel) ?_
    refine fw_bipush (v := (6 : Int32)) (show decode _ _ = .ok (.bipush 6, 2) by decide +kernel) (by decide) ?_
    obtain ⟨⟨hr20, n19, hs21⟩, h_14⟩ := h_13
    refine fw_callV (mt' := mtX5_lineOf) (mc := 0) (ms := 0) (As := [.int p1, .int (6 : Int32)]) (rest := []) 2 5 n19 (show decode _ _ = .ok (.invokevirtual 77, 3) by decide +kernel) cv_X6_77 ⟨_, rfl, rfl⟩ hr20 hs21 rfl (Nat.le_of_ble_eq_true rfl) (s_X5_lineOf (d := d) (hd_le hd (by decide)) h_14) (by decide) (by decide) (kI (bc' := 0) (bs' := 0) (by decide) (by decide) (fun x22 M18 h_15 => ?_))
    refine fw_iconst (v := (3 : Int32)) (show decode _ _ = .ok (.iconst 3, 1) by decide +kernel) (by decide) ?_
    refine fw_icmp_ne 74 (show decode _ _ = .ok (.if_icmp .ne 7, 3) by decide +kernel) (by decide) (fun hc23 => ?_) (fun hc23 => ?_)
    · have h_16 := ineg hc23 h_15
      refine fw_iconst (v := (0 : Int32)) (show decode _ _ = .ok (.iconst 0, 1) by decide +kernel) (by decide) ?_
      exact fw_ret (v := some (.int (0 : Int32))) .ireturn (show decode _ _ = .ok (.ireturn, 1) by decide +kernel) ⟨rfl, Or.inl rfl⟩ ⟨_, rfl, h_16⟩
    · have h_17 := ipos hc23 h_15
      refine fw_iconst (v := (1 : Int32)) (show decode _ _ = .ok (.iconst 1, 1) by decide +kernel) (by decide) ?_
      refine fw_goto 75 (show decode _ _ = .ok (.goto 4, 3) by decide +kernel) (by decide) ?_
      exact fw_ret (v := some (.int (1 : Int32))) .ireturn (show decode _ _ = .ok (.ireturn, 1) by decide +kernel) ⟨rfl, Or.inl rfl⟩ ⟨_, rfl, h_17⟩
  have h_18 := ineg hc24 h_9
  by_cases hc35 : p2 = (3 : Int32)
  · have h_19 := ipos hc35 h_18
    refine fw_tin (off := 75) 76 (show decode _ _ = .ok (.tableswitch 106 1 5 #[35, 55, 75, 86, 96], 35) by decide +kernel) (by rw [hc35]; decide) (by rw [hc35]; decide) (by rw [hc35]; rfl) (by decide) ?_
    refine fw_aload_n (i := 0) 0 rfl (show decode _ _ = .ok (.aload_n 0, 1) by decide +kernel) ?_
    obtain ⟨⟨hr26, n25, hs27⟩, h_20⟩ := h_19
    refine fw_getP (kd := 6) (k := 0) (show decode _ _ = .ok (.getfield 15, 3) by decide +kernel) gf_X6_15 hr26 hs27 rfl ?_
    have h_21 := dR_e h_20
    obtain ⟨y28, hy29, h_22⟩ := h_21
    refine fw_deref hy29 ?_
    refine fw_iload_n (i := 1) 1 rfl (show decode _ _ = .ok (.iload_n 1, 1) by decide +kernel) ?_
    refine fw_bipush (v := (7 : Int32)) (show decode _ _ = .ok (.bipush 7, 2) by decide +kernel) (by decide) ?_
    obtain ⟨⟨hr32, n31, hs33⟩, h_23⟩ := h_22
    refine fw_callV (mt' := mtX5_lineOf) (mc := 0) (ms := 0) (As := [.int p1, .int (7 : Int32)]) (rest := []) 2 5 n31 (show decode _ _ = .ok (.invokevirtual 77, 3) by decide +kernel) cv_X6_77 ⟨_, rfl, rfl⟩ hr32 hs33 rfl (Nat.le_of_ble_eq_true rfl) (s_X5_lineOf (d := d) (hd_le hd (by decide)) h_23) (by decide) (by decide) (kI (bc' := 0) (bs' := 0) (by decide) (by decide) (fun x34 M30 h_24 => ?_))
    exact fw_ret (v := some (.int x34)) .ireturn (show decode _ _ = .ok (.ireturn, 1) by decide +kernel) ⟨rfl, Or.inl rfl⟩ ⟨_, rfl, h_24⟩
  have h_25 := ineg hc35 h_18
  by_cases hc46 : p2 = (4 : Int32)
  · have h_26 := ipos hc46 h_25
    refine fw_tin (off := 86) 87 (show decode _ _ = .ok (.tableswitch 106 1 5 #[35, 55, 75, 86, 96], 35) by decide +kernel) (by rw [hc46]; decide) (by rw [hc46]; decide) (by rw [hc46]; rfl) (by decide) ?_
    refine fw_aload_n (i := 0) 0 rfl (show decode _ _ = .ok (.aload_n 0, 1) by decide +kernel) ?_
    obtain ⟨⟨hr37, n36, hs38⟩, h_27⟩ := h_26
    refine fw_getP (kd := 6) (k := 0) (show decode _ _ = .ok (.getfield 15, 3) by decide +kernel) gf_X6_15 hr37 hs38 rfl ?_
    have h_28 := dR_e h_27
    obtain ⟨y39, hy40, h_29⟩ := h_28
    refine fw_deref hy40 ?_
    refine fw_iload_n (i := 1) 1 rfl (show decode _ _ = .ok (.iload_n 1, 1) by decide +kernel) ?_
    refine fw_iconst (v := (4 : Int32)) (show decode _ _ = .ok (.iconst 4, 1) by decide +kernel) (by decide) ?_
    obtain ⟨⟨hr43, n42, hs44⟩, h_30⟩ := h_29
    refine fw_callV (mt' := mtX5_lineOf) (mc := 0) (ms := 0) (As := [.int p1, .int (4 : Int32)]) (rest := []) 2 5 n42 (show decode _ _ = .ok (.invokevirtual 77, 3) by decide +kernel) cv_X6_77 ⟨_, rfl, rfl⟩ hr43 hs44 rfl (Nat.le_of_ble_eq_true rfl) (s_X5_lineOf (d := d) (hd_le hd (by decide)) h_30) (by decide) (by decide) (kI (bc' := 0) (bs' := 0) (by decide) (by decide) (fun x45 M41 h_31 => ?_))
    exact fw_ret (v := some (.int x45)) .ireturn (show decode _ _ = .ok (.ireturn, 1) by decide +kernel) ⟨rfl, Or.inl rfl⟩ ⟨_, rfl, h_31⟩
  have h_32 := ineg hc46 h_25
  by_cases hc57 : p2 = (5 : Int32)
  · have h_33 := ipos hc57 h_32
    refine fw_tin (off := 96) 97 (show decode _ _ = .ok (.tableswitch 106 1 5 #[35, 55, 75, 86, 96], 35) by decide +kernel) (by rw [hc57]; decide) (by rw [hc57]; decide) (by rw [hc57]; rfl) (by decide) ?_
    refine fw_aload_n (i := 0) 0 rfl (show decode _ _ = .ok (.aload_n 0, 1) by decide +kernel) ?_
    obtain ⟨⟨hr48, n47, hs49⟩, h_34⟩ := h_33
    refine fw_getP (kd := 6) (k := 0) (show decode _ _ = .ok (.getfield 15, 3) by decide +kernel) gf_X6_15 hr48 hs49 rfl ?_
    have h_35 := dR_e h_34
    obtain ⟨y50, hy51, h_36⟩ := h_35
    refine fw_deref hy51 ?_
    refine fw_iload_n (i := 1) 1 rfl (show decode _ _ = .ok (.iload_n 1, 1) by decide +kernel) ?_
    refine fw_iconst (v := (5 : Int32)) (show decode _ _ = .ok (.iconst 5, 1) by decide +kernel) (by decide) ?_
    obtain ⟨⟨hr54, n53, hs55⟩, h_37⟩ := h_36
    refine fw_callV (mt' := mtX5_lineOf) (mc := 0) (ms := 0) (As := [.int p1, .int (5 : Int32)]) (rest := []) 2 5 n53 (show decode _ _ = .ok (.invokevirtual 77, 3) by decide +kernel) cv_X6_77 ⟨_, rfl, rfl⟩ hr54 hs55 rfl (Nat.le_of_ble_eq_true rfl) (s_X5_lineOf (d := d) (hd_le hd (by decide)) h_37) (by decide) (by decide) (kI (bc' := 0) (bs' := 0) (by decide) (by decide) (fun x56 M52 h_38 => ?_))
    exact fw_ret (v := some (.int x56)) .ireturn (show decode _ _ = .ok (.ireturn, 1) by decide +kernel) ⟨rfl, Or.inl rfl⟩ ⟨_, rfl, h_38⟩
  have h_39 := ineg hc57 h_32
  by_cases ho58 : Int32.toInt p2 < 1 ∨ 5 < Int32.toInt p2
  · refine fw_tout 107 (show decode _ _ = .ok (.tableswitch 106 1 5 #[35, 55, 75, 86, 96], 35) by decide +kernel) ho58 (by decide) ?_
    refine fw_iconst (v := (1 : Int32)) (show decode _ _ = .ok (.iconst 1, 1) by decide +kernel) (by decide) ?_
    exact fw_ret (v := some (.int (1 : Int32))) .ireturn (show decode _ _ = .ok (.ireturn, 1) by decide +kernel) ⟨rfl, Or.inl rfl⟩ ⟨_, rfl, h_39⟩
  have e59 := tsx_1_5 (Int32.toInt p2) ho58
  rcases e59 with e59 | e59 | e59 | e59 | e59
  · exact absurd (Int32.toInt_inj.mp (Eq.trans e59 rfl)) hc12
  · exact absurd (Int32.toInt_inj.mp (Eq.trans e59 rfl)) hc24
  · exact absurd (Int32.toInt_inj.mp (Eq.trans e59 rfl)) hc35
  · exact absurd (Int32.toInt_inj.mp (Eq.trans e59 rfl)) hc46
  · exact absurd (Int32.toInt_inj.mp (Eq.trans e59 rfl)) hc57
def b_X6_tallied_27 (K27 : Nat → Int32 → Int32 → Int32 → Int32 → fM → Prop) (φ : Int32 → fM → Prop) (p0 : Nat) (p1 : Int32) (p2 : Int32) (p3 : Int32) (p4 : Int32) (M : fM) : Prop := isO M p0 6 ∧ dR (mP M p0 0) fun y4 => isO M y4 5 ∧ w_X5_lines y4 M fun x10 M6 => iF (x10 ≤ p4) (φ p3 M6) (isO M6 p0 6 ∧ dR (mP M6 p0 0) fun y14 => isO M6 y14 5 ∧ w_X5_lineOf y14 p4 (0 : Int32) M6 fun x20 M16 => iF (x20 = p1) (isO M16 p0 6 ∧ w_X6_counted p0 p4 p2 M16 fun x27 M23 => nm (p3 + x27) fun x28 => nm (p4 + (1 : Int32)) fun x30 => K27 p0 p1 p2 x28 x30 M23) (nm (p4 + (1 : Int32)) fun x21 => K27 p0 p1 p2 p3 x21 M16))
def l_X6_tallied_27 (φ : Int32 → fM → Prop) : Nat → Nat → Int32 → Int32 → Int32 → Int32 → fM → Prop
  | 0, _, _, _, _, _, _ => False
  | n + 1, p0, p1, p2, p3, p4, M => b_X6_tallied_27 (l_X6_tallied_27 φ n) φ p0 p1 p2 p3 p4 M
set_option maxRecDepth 100000 in
theorem sb_X6_tallied_27 {g : GT} {d : Nat} (hd : 4 ≤ d + 1) {K27 : Nat → Int32 → Int32 → Int32 → Int32 → fM → Prop} {φ : Int32 → fM → Prop} (hK27 : ∀ (p0 : Nat) (p1 : Int32) (p2 : Int32) (p3 : Int32) (p4 : Int32) (M : fM), K27 p0 p1 p2 p3 p4 M → FW g mtX6_tallied (d + 1) 27 [(0, .ref p0), (1, .int p1), (2, .int p2), (3, .int p3), (4, .int p4)] [] M 0 0 (rI φ)) {p0 : Nat} {p1 : Int32} {p2 : Int32} {p3 : Int32} {p4 : Int32} {M : fM} (h : b_X6_tallied_27 K27 φ p0 p1 p2 p3 p4 M) : FW g mtX6_tallied (d + 1) 27 [(0, .ref p0), (1, .int p1), (2, .int p2), (3, .int p3), (4, .int p4)] [] M 0 0 (rI φ) := by
  unfold b_X6_tallied_27 at h
  refine fw_iload (i := 4) 4 rfl (show decode _ _ = .ok (.iload 4, 2) by decide +kernel) ?_
  refine fw_aload_n (i := 0) 0 rfl (show decode _ _ = .ok (.aload_n 0, 1) by decide +kernel) ?_
  obtain ⟨⟨hr2, n1, hs3⟩, h_1⟩ := h
  refine fw_getP (kd := 6) (k := 0) (show decode _ _ = .ok (.getfield 15, 3) by decide +kernel) gf_X6_15 hr2 hs3 rfl ?_
  have h_2 := dR_e h_1
  obtain ⟨y4, hy5, h_3⟩ := h_2
  refine fw_deref hy5 ?_
  obtain ⟨⟨hr8, n7, hs9⟩, h_4⟩ := h_3
  refine fw_callV (mt' := mtX5_lines) (mc := 0) (ms := 0) (As := []) (rest := [.int p4]) 0 5 n7 (show decode _ _ = .ok (.invokevirtual 74, 3) by decide +kernel) cv_X6_74 ⟨_, rfl, rfl⟩ hr8 hs9 rfl (Nat.le_of_ble_eq_true rfl) (s_X5_lines (d := d) (hd_le hd (by decide)) h_4) (by decide) (by decide) (kI (bc' := 0) (bs' := 0) (by decide) (by decide) (fun x10 M6 h_5 => ?_))
  refine fw_icmp_ge 69 (show decode _ _ = .ok (.if_icmp .ge 33, 3) by decide +kernel) (by decide) (fun hc33 => ?_) (fun hc33 => ?_)
  · have h_6 := ipos hc33 h_5
    refine fw_iload_n (i := 3) 3 rfl (show decode _ _ = .ok (.iload_n 3, 1) by decide +kernel) ?_
    exact fw_ret (v := some (.int p3)) .ireturn (show decode _ _ = .ok (.ireturn, 1) by decide +kernel) ⟨rfl, Or.inl rfl⟩ ⟨_, rfl, h_6⟩
  · have h_7 := ineg hc33 h_5
    refine fw_aload_n (i := 0) 0 rfl (show decode _ _ = .ok (.aload_n 0, 1) by decide +kernel) ?_
    obtain ⟨⟨hr12, n11, hs13⟩, h_8⟩ := h_7
    refine fw_getP (kd := 6) (k := 0) (show decode _ _ = .ok (.getfield 15, 3) by decide +kernel) gf_X6_15 hr12 hs13 rfl ?_
    have h_9 := dR_e h_8
    obtain ⟨y14, hy15, h_10⟩ := h_9
    refine fw_deref hy15 ?_
    refine fw_iload (i := 4) 4 rfl (show decode _ _ = .ok (.iload 4, 2) by decide +kernel) ?_
    refine fw_iconst (v := (0 : Int32)) (show decode _ _ = .ok (.iconst 0, 1) by decide +kernel) (by decide) ?_
    obtain ⟨⟨hr18, n17, hs19⟩, h_11⟩ := h_10
    refine fw_callV (mt' := mtX5_lineOf) (mc := 0) (ms := 0) (As := [.int p4, .int (0 : Int32)]) (rest := []) 2 5 n17 (show decode _ _ = .ok (.invokevirtual 77, 3) by decide +kernel) cv_X6_77 ⟨_, rfl, rfl⟩ hr18 hs19 rfl (Nat.le_of_ble_eq_true rfl) (s_X5_lineOf (d := d) (hd_le hd (by decide)) h_11) (by decide) (by decide) (kI (bc' := 0) (bs' := 0) (by decide) (by decide) (fun x20 M16 h_12 => ?_))
    refine fw_iload_n (i := 1) 1 rfl (show decode _ _ = .ok (.iload_n 1, 1) by decide +kernel) ?_
    refine fw_icmp_ne 63 (show decode _ _ = .ok (.if_icmp .ne 13, 3) by decide +kernel) (by decide) (fun hc32 => ?_) (fun hc32 => ?_)
    · have h_13 := ineg hc32 h_12
      obtain ⟨x21, ex22⟩ : ∃ y : Int32, y = p4 + (1 : Int32) := ⟨_, rfl⟩
      have h_14 := h_13 x21 ex22
      refine fw_iinc (i := 4) (x := p4) (v := x21) (ls' := [(4, .int x21), (0, .ref p0), (1, .int p1), (2, .int p2), (3, .int p3)]) 4 rfl (show decode _ _ = .ok (.iinc 4 1, 3) by decide +kernel) (by rw [ex22]; rfl) (by decide) rfl ?_
      refine fw_goto 27 (show decode _ _ = .ok (.goto (-39), 3) by decide +kernel) (by decide) ?_
      refine FW.sub [1, 2, 3, 4, 0] (ls' := [(0, .ref p0), (1, .int p1), (2, .int p2), (3, .int p3), (4, .int x21)]) rfl ?_
      exact hK27 _ _ _ _ _ _ h_14
    · have h_15 := ipos hc32 h_12
      refine fw_iload_n (i := 3) 3 rfl (show decode _ _ = .ok (.iload_n 3, 1) by decide +kernel) ?_
      refine fw_aload_n (i := 0) 0 rfl (show decode _ _ = .ok (.aload_n 0, 1) by decide +kernel) ?_
      refine fw_iload (i := 4) 4 rfl (show decode _ _ = .ok (.iload 4, 2) by decide +kernel) ?_
      refine fw_iload_n (i := 2) 2 rfl (show decode _ _ = .ok (.iload_n 2, 1) by decide +kernel) ?_
      obtain ⟨⟨hr25, n24, hs26⟩, h_16⟩ := h_15
      refine fw_callV (mt' := mtX6_counted) (mc := 0) (ms := 0) (As := [.int p4, .int p2]) (rest := [.int p3]) 2 6 n24 (show decode _ _ = .ok (.invokevirtual 81, 3) by decide +kernel) cv_X6_81 ⟨_, rfl, rfl⟩ hr25 hs26 rfl (Nat.le_of_ble_eq_true rfl) (s_X6_counted (d := d) (hd_le hd (by decide)) h_16) (by decide) (by decide) (kI (bc' := 0) (bs' := 0) (by decide) (by decide) (fun x27 M23 h_17 => ?_))
      refine fw_iadd (show decode _ _ = .ok (.iadd, 1) by decide +kernel) ?_
      refine fw_nmI (fun x28 ex29 => ?_)
      have h_18 := h_17 x28 ex29
      refine fw_istore_n (i := 3) (ls' := [(3, .int x28), (0, .ref p0), (1, .int p1), (2, .int p2), (4, .int p4)]) (show decode _ _ = .ok (.istore_n 3, 1) by decide +kernel) (by decide) rfl ?_
      obtain ⟨x30, ex31⟩ : ∃ y : Int32, y = p4 + (1 : Int32) := ⟨_, rfl⟩
      have h_19 := h_18 x30 ex31
      refine fw_iinc (i := 4) (x := p4) (v := x30) (ls' := [(4, .int x30), (3, .int x28), (0, .ref p0), (1, .int p1), (2, .int p2)]) 4 rfl (show decode _ _ = .ok (.iinc 4 1, 3) by decide +kernel) (by rw [ex31]; rfl) (by decide) rfl ?_
      refine fw_goto 27 (show decode _ _ = .ok (.goto (-39), 3) by decide +kernel) (by decide) ?_
      refine FW.sub [2, 3, 4, 1, 0] (ls' := [(0, .ref p0), (1, .int p1), (2, .int p2), (3, .int x28), (4, .int x30)]) rfl ?_
      exact hK27 _ _ _ _ _ _ h_19
theorem sl_X6_tallied_27 {g : GT} {d : Nat} (hd : 4 ≤ d + 1) {φ : Int32 → fM → Prop} : ∀ (n : Nat) {p0 : Nat} {p1 : Int32} {p2 : Int32} {p3 : Int32} {p4 : Int32} {M : fM}, l_X6_tallied_27 φ n p0 p1 p2 p3 p4 M → FW g mtX6_tallied (d + 1) 27 [(0, .ref p0), (1, .int p1), (2, .int p2), (3, .int p3), (4, .int p4)] [] M 0 0 (rI φ)
  | 0 => fun h => h.elim
  | n + 1 => fun h => sb_X6_tallied_27 hd (fun _ _ _ _ _ _ h => sl_X6_tallied_27 hd n h) h
def w_X6_tallied (p0 : Nat) (p1 : Int32) (p2 : Int32) (M : fM) (φ : Int32 → fM → Prop) : Prop := isO M p0 6 ∧ dR (mP M p0 0) fun y37 => isO M y37 5 ∧ w_X5_isPerson y37 p1 M fun x43 M39 => iF (x43 = 0) (φ (-1 : Int32) M39) (iF (p2 < 0) (φ (-1 : Int32) M39) (iF (p2 ≤ (5 : Int32)) (∃ n, l_X6_tallied_27 φ n p0 p1 p2 (0 : Int32) (0 : Int32) M39) (φ (-1 : Int32) M39)))
set_option maxRecDepth 100000 in
theorem s_X6_tallied {g : GT} {d : Nat} (hd : 4 ≤ d) {p0 : Nat} {p1 : Int32} {p2 : Int32} {M : fM} {φ : Int32 → fM → Prop} (h : w_X6_tallied p0 p1 p2 M φ) : FC g mtX6_tallied d [.ref p0, .int p1, .int p2] M 0 0 (rI φ) := by
  obtain ⟨d, rfl⟩ : ∃ e, d = e + 1 := ⟨d - 1, by omega⟩
  unfold w_X6_tallied at h
  refine FC.intro (nL := 5) (by decide) rfl (Nat.le_of_ble_eq_true rfl) ?_
  show FW g mtX6_tallied (d + 1) 0 [(0, .ref p0), (1, .int p1), (2, .int p2)] [] M 0 0 (rI φ)
  refine fw_aload_n (i := 0) 0 rfl (show decode _ _ = .ok (.aload_n 0, 1) by decide +kernel) ?_
  obtain ⟨⟨hr35, n34, hs36⟩, h_1⟩ := h
  refine fw_getP (kd := 6) (k := 0) (show decode _ _ = .ok (.getfield 15, 3) by decide +kernel) gf_X6_15 hr35 hs36 rfl ?_
  have h_2 := dR_e h_1
  obtain ⟨y37, hy38, h_3⟩ := h_2
  refine fw_deref hy38 ?_
  refine fw_iload_n (i := 1) 1 rfl (show decode _ _ = .ok (.iload_n 1, 1) by decide +kernel) ?_
  obtain ⟨⟨hr41, n40, hs42⟩, h_4⟩ := h_3
  refine fw_callV (mt' := mtX5_isPerson) (mc := 0) (ms := 0) (As := [.int p1]) (rest := []) 1 5 n40 (show decode _ _ = .ok (.invokevirtual 35, 3) by decide +kernel) cv_X6_35 ⟨_, rfl, rfl⟩ hr41 hs42 rfl (Nat.le_of_ble_eq_true rfl) (s_X5_isPerson (d := d) (hd_le hd (by decide)) h_4) (by decide) (by decide) (kI (bc' := 0) (bs' := 0) (by decide) (by decide) (fun x43 M39 h_5 => ?_))
  refine fw_if_eq 20 (show decode _ _ = .ok (.ifCond .eq 12, 3) by decide +kernel) (by decide) (fun hc46 => ?_) (fun hc46 => ?_)
  · have h_6 := ipos hc46 h_5
    refine fw_iconst (v := (-1 : Int32)) (show decode _ _ = .ok (.iconst (-1), 1) by decide +kernel) (by decide) ?_
    exact fw_ret (v := some (.int (-1 : Int32))) .ireturn (show decode _ _ = .ok (.ireturn, 1) by decide +kernel) ⟨rfl, Or.inl rfl⟩ ⟨_, rfl, h_6⟩
  · have h_7 := ineg hc46 h_5
    refine fw_iload_n (i := 2) 2 rfl (show decode _ _ = .ok (.iload_n 2, 1) by decide +kernel) ?_
    refine fw_if_lt 20 (show decode _ _ = .ok (.ifCond .lt 8, 3) by decide +kernel) (by decide) (fun hc45 => ?_) (fun hc45 => ?_)
    · have h_8 := ipos hc45 h_7
      refine fw_iconst (v := (-1 : Int32)) (show decode _ _ = .ok (.iconst (-1), 1) by decide +kernel) (by decide) ?_
      exact fw_ret (v := some (.int (-1 : Int32))) .ireturn (show decode _ _ = .ok (.ireturn, 1) by decide +kernel) ⟨rfl, Or.inl rfl⟩ ⟨_, rfl, h_8⟩
    · have h_9 := ineg hc45 h_7
      refine fw_iload_n (i := 2) 2 rfl (show decode _ _ = .ok (.iload_n 2, 1) by decide +kernel) ?_
      refine fw_iconst (v := (5 : Int32)) (show decode _ _ = .ok (.iconst 5, 1) by decide +kernel) (by decide) ?_
      refine fw_icmp_le 22 (show decode _ _ = .ok (.if_icmp .le 5, 3) by decide +kernel) (by decide) (fun hc44 => ?_) (fun hc44 => ?_)
      · have h_10 := ipos hc44 h_9
        refine fw_iconst (v := (0 : Int32)) (show decode _ _ = .ok (.iconst 0, 1) by decide +kernel) (by decide) ?_
        refine fw_istore_n (i := 3) (ls' := [(3, .int (0 : Int32)), (0, .ref p0), (1, .int p1), (2, .int p2)]) (show decode _ _ = .ok (.istore_n 3, 1) by decide +kernel) (by decide) rfl ?_
        refine fw_iconst (v := (0 : Int32)) (show decode _ _ = .ok (.iconst 0, 1) by decide +kernel) (by decide) ?_
        refine fw_istore (i := 4) (ls' := [(4, .int (0 : Int32)), (3, .int (0 : Int32)), (0, .ref p0), (1, .int p1), (2, .int p2)]) (show decode _ _ = .ok (.istore 4, 2) by decide +kernel) (by decide) rfl ?_
        refine FW.sub [2, 3, 4, 1, 0] (ls' := [(0, .ref p0), (1, .int p1), (2, .int p2), (3, .int (0 : Int32)), (4, .int (0 : Int32))]) rfl ?_
        obtain ⟨nn, h_11⟩ := h_10
        exact sl_X6_tallied_27 hd nn h_11
      · have h_12 := ineg hc44 h_9
        refine fw_iconst (v := (-1 : Int32)) (show decode _ _ = .ok (.iconst (-1), 1) by decide +kernel) (by decide) ?_
        exact fw_ret (v := some (.int (-1 : Int32))) .ireturn (show decode _ _ = .ok (.ireturn, 1) by decide +kernel) ⟨rfl, Or.inl rfl⟩ ⟨_, rfl, h_12⟩
def w_X10_tally (p0 : Nat) (p1 : Int32) (p2 : Int32) (M : fM) (φ : Int32 → fM → Prop) : Prop := isO M p0 10 ∧ dR (mP M p0 6) fun y4 => isO M y4 6 ∧ w_X6_tallied y4 p1 p2 M fun x10 M6 => φ x10 M6
set_option maxRecDepth 100000 in
theorem s_X10_tally {g : GT} {d : Nat} (hd : 5 ≤ d) {p0 : Nat} {p1 : Int32} {p2 : Int32} {M : fM} {φ : Int32 → fM → Prop} (h : w_X10_tally p0 p1 p2 M φ) : FC g mtX10_tally d [.ref p0, .int p1, .int p2] M 0 0 (rI φ) := by
  obtain ⟨d, rfl⟩ : ∃ e, d = e + 1 := ⟨d - 1, by omega⟩
  unfold w_X10_tally at h
  refine FC.intro (nL := 3) (by decide) rfl (Nat.le_of_ble_eq_true rfl) ?_
  show FW g mtX10_tally (d + 1) 0 [(0, .ref p0), (1, .int p1), (2, .int p2)] [] M 0 0 (rI φ)
  refine fw_aload_n (i := 0) 0 rfl (show decode _ _ = .ok (.aload_n 0, 1) by decide +kernel) ?_
  obtain ⟨⟨hr2, n1, hs3⟩, h_1⟩ := h
  refine fw_getP (kd := 10) (k := 6) (show decode _ _ = .ok (.getfield 57, 3) by decide +kernel) gf_X10_57 hr2 hs3 rfl ?_
  have h_2 := dR_e h_1
  obtain ⟨y4, hy5, h_3⟩ := h_2
  refine fw_deref hy5 ?_
  refine fw_iload_n (i := 1) 1 rfl (show decode _ _ = .ok (.iload_n 1, 1) by decide +kernel) ?_
  refine fw_iload_n (i := 2) 2 rfl (show decode _ _ = .ok (.iload_n 2, 1) by decide +kernel) ?_
  obtain ⟨⟨hr8, n7, hs9⟩, h_4⟩ := h_3
  refine fw_callV (mt' := mtX6_tallied) (mc := 0) (ms := 0) (As := [.int p1, .int p2]) (rest := []) 2 6 n7 (show decode _ _ = .ok (.invokevirtual 252, 3) by decide +kernel) cv_X10_252 ⟨_, rfl, rfl⟩ hr8 hs9 rfl (Nat.le_of_ble_eq_true rfl) (s_X6_tallied (d := d) (hd_le hd (by decide)) h_4) (by decide) (by decide) (kI (bc' := 0) (bs' := 0) (by decide) (by decide) (fun x10 M6 h_5 => ?_))
  exact fw_ret (v := some (.int x10)) .ireturn (show decode _ _ = .ok (.ireturn, 1) by decide +kernel) ⟨rfl, Or.inl rfl⟩ ⟨_, rfl, h_5⟩
def w_X7_byteAt (p0 : Nat) (p1 : Int32) (M : fM) (φ : Int32 → fM → Prop) : Prop := iF (p1 < 0) (φ (-1 : Int32) M) (isO M p0 7 ∧ iF ((mI M p0 1) ≤ p1) (φ (-1 : Int32) M) (dR (mP M p0 0) fun y4 => w_X10_cell y4 p1 M fun x7 M6 => φ x7 M6))
set_option maxRecDepth 100000 in
theorem s_X7_byteAt {g : GT} {d : Nat} (hd : 2 ≤ d) {p0 : Nat} {p1 : Int32} {M : fM} {φ : Int32 → fM → Prop} (h : w_X7_byteAt p0 p1 M φ) : FC g mtX7_byteAt d [.ref p0, .int p1] M 0 0 (rI φ) := by
  obtain ⟨d, rfl⟩ : ∃ e, d = e + 1 := ⟨d - 1, by omega⟩
  unfold w_X7_byteAt at h
  refine FC.intro (nL := 2) (by decide) rfl (Nat.le_of_ble_eq_true rfl) ?_
  show FW g mtX7_byteAt (d + 1) 0 [(0, .ref p0), (1, .int p1)] [] M 0 0 (rI φ)
  refine fw_iload_n (i := 1) 1 rfl (show decode _ _ = .ok (.iload_n 1, 1) by decide +kernel) ?_
  refine fw_if_lt 23 (show decode _ _ = .ok (.ifCond .lt 22, 3) by decide +kernel) (by decide) (fun hc9 => ?_) (fun hc9 => ?_)
  · have h_1 := ipos hc9 h
    refine fw_iconst (v := (-1 : Int32)) (show decode _ _ = .ok (.iconst (-1), 1) by decide +kernel) (by decide) ?_
    exact fw_ret (v := some (.int (-1 : Int32))) .ireturn (show decode _ _ = .ok (.ireturn, 1) by decide +kernel) ⟨rfl, Or.inl rfl⟩ ⟨_, rfl, h_1⟩
  · have h_2 := ineg hc9 h
    refine fw_iload_n (i := 1) 1 rfl (show decode _ _ = .ok (.iload_n 1, 1) by decide +kernel) ?_
    refine fw_aload_n (i := 0) 0 rfl (show decode _ _ = .ok (.aload_n 0, 1) by decide +kernel) ?_
    obtain ⟨⟨hr2, n1, hs3⟩, h_3⟩ := h_2
    refine fw_getI (kd := 7) (k := 1) (show decode _ _ = .ok (.getfield 24, 3) by decide +kernel) gf_X7_24 hr2 hs3 (Or.inl rfl) ?_
    refine fw_icmp_ge 23 (show decode _ _ = .ok (.if_icmp .ge 14, 3) by decide +kernel) (by decide) (fun hc8 => ?_) (fun hc8 => ?_)
    · have h_4 := ipos hc8 h_3
      refine fw_iconst (v := (-1 : Int32)) (show decode _ _ = .ok (.iconst (-1), 1) by decide +kernel) (by decide) ?_
      exact fw_ret (v := some (.int (-1 : Int32))) .ireturn (show decode _ _ = .ok (.ireturn, 1) by decide +kernel) ⟨rfl, Or.inl rfl⟩ ⟨_, rfl, h_4⟩
    · have h_5 := ineg hc8 h_3
      refine fw_aload_n (i := 0) 0 rfl (show decode _ _ = .ok (.aload_n 0, 1) by decide +kernel) ?_
      refine fw_getP (kd := 7) (k := 0) (show decode _ _ = .ok (.getfield 9, 3) by decide +kernel) gf_X7_9 hr2 hs3 rfl ?_
      have h_6 := dR_e h_5
      obtain ⟨y4, hy5, h_7⟩ := h_6
      refine fw_deref hy5 ?_
      refine fw_iload_n (i := 1) 1 rfl (show decode _ _ = .ok (.iload_n 1, 1) by decide +kernel) ?_
      refine fw_callSN (mt' := mtX10_cell) (mc := 0) (ms := 0) (As := [.ref y4, .int p1]) (rest := []) 2 "OneStepMore" (show decode _ _ = .ok (.invokestatic 42, 3) by decide +kernel) ns_X7_42 rfl (Nat.le_of_ble_eq_true rfl) (s_X10_cell (d := d) (hd_le hd (by decide)) h_7) (by decide) (by decide) (kI (bc' := 0) (bs' := 0) (by decide) (by decide) (fun x7 M6 h_8 => ?_))
      refine fw_goto 24 (show decode _ _ = .ok (.goto 4, 3) by decide +kernel) (by decide) ?_
      exact fw_ret (v := some (.int x7)) .ireturn (show decode _ _ = .ok (.ireturn, 1) by decide +kernel) ⟨rfl, Or.inl rfl⟩ ⟨_, rfl, h_8⟩
def j_X7_skipBlanks_37 (K0 : Nat → fM → Prop) (φ : fM → Prop) (p0 : Nat) (M : fM) : Prop := isO M p0 7 ∧ nm ((mI M p0 5) + (1 : Int32)) fun x4 => st (wI M p0 5 x4) fun M6 => K0 p0 M6
set_option maxRecDepth 100000 in
theorem sj_X7_skipBlanks_37 {g : GT} {d : Nat} (hd : 3 ≤ d + 1) {K0 : Nat → fM → Prop} {φ : fM → Prop} (hK0 : ∀ (p0 : Nat) (M : fM), K0 p0 M → FW g mtX7_skipBlanks (d + 1) 0 [(0, .ref p0)] [] M 0 0 (rV φ)) {p0 : Nat} {M : fM} (h : j_X7_skipBlanks_37 K0 φ p0 M) : FW g mtX7_skipBlanks (d + 1) 37 [(0, .ref p0)] [] M 0 0 (rV φ) := by
  unfold j_X7_skipBlanks_37 at h
  refine fw_aload_n (i := 0) 0 rfl (show decode _ _ = .ok (.aload_n 0, 1) by decide +kernel) ?_
  refine fw_dup (show decode _ _ = .ok (.dup, 1) by decide +kernel) rfl ?_
  obtain ⟨⟨hr2, n1, hs3⟩, h_1⟩ := h
  refine fw_getI (kd := 7) (k := 5) (show decode _ _ = .ok (.getfield 32, 3) by decide +kernel) gf_X7_32 hr2 hs3 (Or.inl rfl) ?_
  refine fw_iconst (v := (1 : Int32)) (show decode _ _ = .ok (.iconst 1, 1) by decide +kernel) (by decide) ?_
  refine fw_iadd (show decode _ _ = .ok (.iadd, 1) by decide +kernel) ?_
  refine fw_nmI (fun x4 ex5 => ?_)
  have h_2 := h_1 x4 ex5
  refine fw_putI (kd := 7) (k := 5) (show decode _ _ = .ok (.putfield 32, 3) by decide +kernel) ⟨gf_X7_32, _, rfl, Or.inl rfl⟩ hr2 hs3 rfl ?_
  refine FW.nmM (fun M6 eM7 => ?_)
  have h_3 := h_2 M6 eM7
  refine fw_goto 0 (show decode _ _ = .ok (.goto (-47), 3) by decide +kernel) (by decide) ?_
  refine FW.sub [0] (ls' := [(0, .ref p0)]) rfl ?_
  exact hK0 _ _ h_3
def b_X7_skipBlanks_0 (K0 : Nat → fM → Prop) (φ : fM → Prop) (p0 : Nat) (M : fM) : Prop := isO M p0 7 ∧ iF ((mI M p0 1) ≤ (mI M p0 5)) (φ M) (w_X7_byteAt p0 (mI M p0 5) M fun x12 M11 => iF (x12 = (32 : Int32)) (j_X7_skipBlanks_37 K0 φ p0 M11) (isO M11 p0 7 ∧ w_X7_byteAt p0 (mI M11 p0 5) M11 fun x17 M16 => iF (x17 = (10 : Int32)) (j_X7_skipBlanks_37 K0 φ p0 M16) (φ M16)))
def l_X7_skipBlanks_0 (φ : fM → Prop) : Nat → Nat → fM → Prop
  | 0, _, _ => False
  | n + 1, p0, M => b_X7_skipBlanks_0 (l_X7_skipBlanks_0 φ n) φ p0 M
set_option maxRecDepth 100000 in
theorem sb_X7_skipBlanks_0 {g : GT} {d : Nat} (hd : 3 ≤ d + 1) {K0 : Nat → fM → Prop} {φ : fM → Prop} (hK0 : ∀ (p0 : Nat) (M : fM), K0 p0 M → FW g mtX7_skipBlanks (d + 1) 0 [(0, .ref p0)] [] M 0 0 (rV φ)) {p0 : Nat} {M : fM} (h : b_X7_skipBlanks_0 K0 φ p0 M) : FW g mtX7_skipBlanks (d + 1) 0 [(0, .ref p0)] [] M 0 0 (rV φ) := by
  unfold b_X7_skipBlanks_0 at h
  refine fw_aload_n (i := 0) 0 rfl (show decode _ _ = .ok (.aload_n 0, 1) by decide +kernel) ?_
  obtain ⟨⟨hr9, n8, hs10⟩, h_1⟩ := h
  refine fw_getI (kd := 7) (k := 5) (show decode _ _ = .ok (.getfield 32, 3) by decide +kernel) gf_X7_32 hr9 hs10 (Or.inl rfl) ?_
  refine fw_aload_n (i := 0) 0 rfl (show decode _ _ = .ok (.aload_n 0, 1) by decide +kernel) ?_
  refine fw_getI (kd := 7) (k := 1) (show decode _ _ = .ok (.getfield 24, 3) by decide +kernel) gf_X7_24 hr9 hs10 (Or.inl rfl) ?_
  refine fw_icmp_ge 50 (show decode _ _ = .ok (.if_icmp .ge 42, 3) by decide +kernel) (by decide) (fun hc20 => ?_) (fun hc20 => ?_)
  · have h_2 := ipos hc20 h_1
    exact fw_ret (v := none) .return_ (show decode _ _ = .ok (.return_, 1) by decide +kernel) ⟨rfl, rfl⟩ ⟨rfl, h_2⟩
  · have h_3 := ineg hc20 h_1
    refine fw_aload_n (i := 0) 0 rfl (show decode _ _ = .ok (.aload_n 0, 1) by decide +kernel) ?_
    refine fw_aload_n (i := 0) 0 rfl (show decode _ _ = .ok (.aload_n 0, 1) by decide +kernel) ?_
    refine fw_getI (kd := 7) (k := 5) (show decode _ _ = .ok (.getfield 32, 3) by decide +kernel) gf_X7_32 hr9 hs10 (Or.inl rfl) ?_
    refine fw_callV (mt' := mtX7_byteAt) (mc := 0) (ms := 0) (As := [.int (mI M p0 5)]) (rest := []) 1 7 n8 (show decode _ _ = .ok (.invokevirtual 46, 3) by decide +kernel) cv_X7_46 ⟨_, rfl, rfl⟩ hr9 hs10 rfl (Nat.le_of_ble_eq_true rfl) (s_X7_byteAt (d := d) (hd_le hd (by decide)) h_3) (by decide) (by decide) (kI (bc' := 0) (bs' := 0) (by decide) (by decide) (fun x12 M11 h_4 => ?_))
    refine fw_bipush (v := (32 : Int32)) (show decode _ _ = .ok (.bipush 32, 2) by decide +kernel) (by decide) ?_
    refine fw_icmp_eq 37 (show decode _ _ = .ok (.if_icmp .eq 16, 3) by decide +kernel) (by decide) (fun hc19 => ?_) (fun hc19 => ?_)
    · have h_5 := ipos hc19 h_4
      refine FW.sub [0] (ls' := [(0, .ref p0)]) rfl ?_
      exact sj_X7_skipBlanks_37 hd hK0 h_5
    · have h_6 := ineg hc19 h_4
      refine fw_aload_n (i := 0) 0 rfl (show decode _ _ = .ok (.aload_n 0, 1) by decide +kernel) ?_
      refine fw_aload_n (i := 0) 0 rfl (show decode _ _ = .ok (.aload_n 0, 1) by decide +kernel) ?_
      obtain ⟨⟨hr14, n13, hs15⟩, h_7⟩ := h_6
      refine fw_getI (kd := 7) (k := 5) (show decode _ _ = .ok (.getfield 32, 3) by decide +kernel) gf_X7_32 hr14 hs15 (Or.inl rfl) ?_
      refine fw_callV (mt' := mtX7_byteAt) (mc := 0) (ms := 0) (As := [.int (mI M11 p0 5)]) (rest := []) 1 7 n13 (show decode _ _ = .ok (.invokevirtual 46, 3) by decide +kernel) cv_X7_46 ⟨_, rfl, rfl⟩ hr14 hs15 rfl (Nat.le_of_ble_eq_true rfl) (s_X7_byteAt (d := d) (hd_le hd (by decide)) h_7) (by decide) (by decide) (kI (bc' := 0) (bs' := 0) (by decide) (by decide) (fun x17 M16 h_8 => ?_))
      refine fw_bipush (v := (10 : Int32)) (show decode _ _ = .ok (.bipush 10, 2) by decide +kernel) (by decide) ?_
      refine fw_icmp_ne 50 (show decode _ _ = .ok (.if_icmp .ne 16, 3) by decide +kernel) (by decide) (fun hc18 => ?_) (fun hc18 => ?_)
      · have h_9 := ineg hc18 h_8
        exact fw_ret (v := none) .return_ (show decode _ _ = .ok (.return_, 1) by decide +kernel) ⟨rfl, rfl⟩ ⟨rfl, h_9⟩
      · have h_10 := ipos hc18 h_8
        refine FW.sub [0] (ls' := [(0, .ref p0)]) rfl ?_
        exact sj_X7_skipBlanks_37 hd hK0 h_10
theorem sl_X7_skipBlanks_0 {g : GT} {d : Nat} (hd : 3 ≤ d + 1) {φ : fM → Prop} : ∀ (n : Nat) {p0 : Nat} {M : fM}, l_X7_skipBlanks_0 φ n p0 M → FW g mtX7_skipBlanks (d + 1) 0 [(0, .ref p0)] [] M 0 0 (rV φ)
  | 0 => fun h => h.elim
  | n + 1 => fun h => sb_X7_skipBlanks_0 hd (fun _ _ h => sl_X7_skipBlanks_0 hd n h) h
def w_X7_skipBlanks (p0 : Nat) (M : fM) (φ : fM → Prop) : Prop := ∃ n, l_X7_skipBlanks_0 φ n p0 M
set_option maxRecDepth 100000 in
theorem s_X7_skipBlanks {g : GT} {d : Nat} (hd : 3 ≤ d) {p0 : Nat} {M : fM} {φ : fM → Prop} (h : w_X7_skipBlanks p0 M φ) : FC g mtX7_skipBlanks d [.ref p0] M 0 0 (rV φ) := by
  obtain ⟨d, rfl⟩ : ∃ e, d = e + 1 := ⟨d - 1, by omega⟩
  unfold w_X7_skipBlanks at h
  refine FC.intro (nL := 1) (by decide) rfl (Nat.le_of_ble_eq_true rfl) ?_
  show FW g mtX7_skipBlanks (d + 1) 0 [(0, .ref p0)] [] M 0 0 (rV φ)
  refine FW.sub [0] (ls' := [(0, .ref p0)]) rfl ?_
  obtain ⟨nn, h_1⟩ := h
  exact sl_X7_skipBlanks_0 hd nn h_1
