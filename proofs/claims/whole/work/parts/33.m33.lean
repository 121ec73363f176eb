def b_X11_tally_24 (K24 : Nat → Int32 → Int32 → Int32 → Int32 → fM → Prop) (φ : Int32 → fM → Prop) (p0 : Nat) (p1 : Int32) (p2 : Int32) (p3 : Int32) (p4 : Int32) (M : fM) : Prop := isO M p0 11 ∧ w_X11_shown p0 M fun x5 M1 => iF (x5 ≤ p4) (φ p3 M1) (isO M1 p0 11 ∧ w_X11_bookAt p0 p4 (0 : Int32) M1 fun x10 M6 => iF (x10 = p1) (isO M6 p0 11 ∧ w_X11_bookAt p0 p4 (6 : Int32) M6 fun x15 M11 => iF (p2 = 0) (nm (p3 + (1 : Int32)) fun x55 => nm (p4 + (1 : Int32)) fun x57 => K24 p0 p1 p2 x55 x57 M11) (iF (p2 = (1 : Int32)) (iF (x15 = (1 : Int32)) (nm (p3 + (1 : Int32)) fun x49 => nm (p4 + (1 : Int32)) fun x51 => K24 p0 p1 p2 x49 x51 M11) (nm (p3 + (0 : Int32)) fun x45 => nm (p4 + (1 : Int32)) fun x47 => K24 p0 p1 p2 x45 x47 M11)) (iF (p2 = (2 : Int32)) (iF (x15 = (3 : Int32)) (nm (p3 + (1 : Int32)) fun x39 => nm (p4 + (1 : Int32)) fun x41 => K24 p0 p1 p2 x39 x41 M11) (nm (p3 + (0 : Int32)) fun x35 => nm (p4 + (1 : Int32)) fun x37 => K24 p0 p1 p2 x35 x37 M11)) (iF (p2 = (3 : Int32)) (isO M11 p0 11 ∧ w_X11_bookAt p0 p4 (7 : Int32) M11 fun x29 M25 => nm (p3 + x29) fun x30 => nm (p4 + (1 : Int32)) fun x32 => K24 p0 p1 p2 x30 x32 M25) (isO M11 p0 11 ∧ w_X11_bookAt p0 p4 p2 M11 fun x20 M16 => nm (p3 + x20) fun x21 => nm (p4 + (1 : Int32)) fun x23 => K24 p0 p1 p2 x21 x23 M16))))) (nm (p4 + (1 : Int32)) fun x60 => K24 p0 p1 p2 p3 x60 M6))
def l_X11_tally_24 (φ : Int32 → fM → Prop) : Nat → Nat → Int32 → Int32 → Int32 → Int32 → fM → Prop
  | 0, _, _, _, _, _, _ => False
  | n + 1, p0, p1, p2, p3, p4, M => b_X11_tally_24 (l_X11_tally_24 φ n) φ p0 p1 p2 p3 p4 M
set_option maxRecDepth 100000 in
theorem sb_X11_tally_24 {g : GT} {d : Nat} (hd : 3 ≤ d + 1) {K24 : Nat → Int32 → Int32 → Int32 → Int32 → fM → Prop} {φ : Int32 → fM → Prop} (hK24 : ∀ (p0 : Nat) (p1 : Int32) (p2 : Int32) (p3 : Int32) (p4 : Int32) (M : fM), K24 p0 p1 p2 p3 p4 M → FW g mtX11_tally (d + 1) 24 [(0, .ref p0), (1, .int p1), (2, .int p2), (3, .int p3), (4, .int p4)] [] M 0 0 (rI φ)) {p0 : Nat} {p1 : Int32} {p2 : Int32} {p3 : Int32} {p4 : Int32} {M : fM} (h : b_X11_tally_24 K24 φ p0 p1 p2 p3 p4 M) : FW g mtX11_tally (d + 1) 24 [(0, .ref p0), (1, .int p1), (2, .int p2), (3, .int p3), (4, .int p4)] [] M 0 0 (rI φ) := by
  unfold b_X11_tally_24 at h
  refine fw_iload (i := 4) 4 rfl (show decode _ _ = .ok (.iload 4, 2) by decide +kernel) ?_
  refine fw_aload_n (i := 0) 0 rfl (show decode _ _ = .ok (.aload_n 0, 1) by decide +kernel) ?_
  obtain ⟨⟨hr3, n2, hs4⟩, h_1⟩ := h
  refine fw_callV (mt' := mtX11_shown) (mc := 0) (ms := 0) (As := []) (rest := [.int p4]) 0 11 n2 (show decode _ _ = .ok (.invokevirtual 402, 3) by decide +kernel) cv_X11_402 ⟨_, rfl, rfl⟩ hr3 hs4 rfl (Nat.le_of_ble_eq_true rfl) (s_X11_shown (d := d) (hd_le hd (by decide)) h_1) (by decide) (by decide) (kI (bc' := 0) (bs' := 0) (by decide) (by decide) (fun x5 M1 h_2 => ?_))
  refine fw_icmp_ge 135 (show decode _ _ = .ok (.if_icmp .ge 105, 3) by decide +kernel) (by decide) (fun hc63 => ?_) (fun hc63 => ?_)
  · have h_3 := ipos hc63 h_2
    refine fw_iload_n (i := 3) 3 rfl (show decode _ _ = .ok (.iload_n 3, 1) by decide +kernel) ?_
    exact fw_ret (v := some (.int p3)) .ireturn (show decode _ _ = .ok (.ireturn, 1) by decide +kernel) ⟨rfl, Or.inl rfl⟩ ⟨_, rfl, h_3⟩
  · have h_4 := ineg hc63 h_2
    refine fw_aload_n (i := 0) 0 rfl (show decode _ _ = .ok (.aload_n 0, 1) by decide +kernel) ?_
    refine fw_iload (i := 4) 4 rfl (show decode _ _ = .ok (.iload 4, 2) by decide +kernel) ?_
    refine fw_iconst (v := (0 : Int32)) (show decode _ _ = .ok (.iconst 0, 1) by decide +kernel) (by decide) ?_
    obtain ⟨⟨hr8, n7, hs9⟩, h_5⟩ := h_4
    refine fw_callV (mt' := mtX11_bookAt) (mc := 0) (ms := 0) (As := [.int p4, .int (0 : Int32)]) (rest := []) 2 11 n7 (show decode _ _ = .ok (.invokevirtual 405, 3) by decide +kernel) cv_X11_405 ⟨_, rfl, rfl⟩ hr8 hs9 rfl (Nat.le_of_ble_eq_true rfl) (s_X11_bookAt (d := d) (hd_le hd (by decide)) h_5) (by decide) (by decide) (kI (bc' := 0) (bs' := 0) (by decide) (by decide) (fun x10 M6 h_6 => ?_))
    refine fw_iload_n (i := 1) 1 rfl (show decode _ _ = .ok (.iload_n 1, 1) by decide +kernel) ?_
    refine fw_icmp_eq 47 (show decode _ _ = .ok (.if_icmp .eq 6, 3) by decide +kernel) (by decide) (fun hc62 => ?_) (fun hc62 => ?_)
    · have h_7 := ipos hc62 h_6
      refine fw_aload_n (i := 0) 0 rfl (show decode _ _ = .ok (.aload_n 0, 1) by decide +kernel) ?_
      refine fw_iload (i := 4) 4 rfl (show decode _ _ = .ok (.iload 4, 2) by decide +kernel) ?_
      refine fw_bipush (v := (6 : Int32)) (show decode _ _ = .ok (.bipush 6, 2) by decide +kernel) (by decide) ?_
      obtain ⟨⟨hr13, n12, hs14⟩, h_8⟩ := h_7
      refine fw_callV (mt' := mtX11_bookAt) (mc := 0) (ms := 0) (As := [.int p4, .int (6 : Int32)]) (rest := []) 2 11 n12 (show decode _ _ = .ok (.invokevirtual 405, 3) by decide +kernel) cv_X11_405 ⟨_, rfl, rfl⟩ hr13 hs14 rfl (Nat.le_of_ble_eq_true rfl) (s_X11_bookAt (d := d) (hd_le hd (by decide)) h_8) (by decide) (by decide) (kI (bc' := 0) (bs' := 0) (by decide) (by decide) (fun x15 M11 h_9 => ?_))
      refine fw_istore (i := 5) (ls' := [(5, .int x15), (0, .ref p0), (1, .int p1), (2, .int p2), (3, .int p3), (4, .int p4)]) (show decode _ _ = .ok (.istore 5, 2) by decide +kernel) (by decide) rfl ?_
      refine fw_iload_n (i := 3) 4 rfl (show decode _ _ = .ok (.iload_n 3, 1) by decide +kernel) ?_
      refine fw_iload_n (i := 2) 3 rfl (show decode _ _ = .ok (.iload_n 2, 1) by decide +kernel) ?_
      refine fw_if_ne 66 (show decode _ _ = .ok (.ifCond .ne 7, 3) by decide +kernel) (by decide) (fun hc59 => ?_) (fun hc59 => ?_)
      · have h_10 := ineg hc59 h_9
        refine fw_iload_n (i := 2) 3 rfl (show decode _ _ = .ok (.iload_n 2, 1) by decide +kernel) ?_
        refine fw_iconst (v := (1 : Int32)) (show decode _ _ = .ok (.iconst 1, 1) by decide +kernel) (by decide) ?_
        refine fw_icmp_ne 85 (show decode _ _ = .ok (.if_icmp .ne 17, 3) by decide +kernel) (by decide) (fun hc54 => ?_) (fun hc54 => ?_)
        · have h_11 := ineg hc54 h_10
          refine fw_iload_n (i := 2) 3 rfl (show decode _ _ = .ok (.iload_n 2, 1) by decide +kernel) ?_
          refine fw_iconst (v := (2 : Int32)) (show decode _ _ = .ok (.iconst 2, 1) by decide +kernel) (by decide) ?_
          refine fw_icmp_ne 104 (show decode _ _ = .ok (.if_icmp .ne 17, 3) by decide +kernel) (by decide) (fun hc44 => ?_) (fun hc44 => ?_)
          · have h_12 := ineg hc44 h_11
            refine fw_iload_n (i := 2) 3 rfl (show decode _ _ = .ok (.iload_n 2, 1) by decide +kernel) ?_
            refine fw_iconst (v := (3 : Int32)) (show decode _ _ = .ok (.iconst 3, 1) by decide +kernel) (by decide) ?_
            refine fw_icmp_ne 120 (show decode _ _ = .ok (.if_icmp .ne 14, 3) by decide +kernel) (by decide) (fun hc34 => ?_) (fun hc34 => ?_)
            · have h_13 := ineg hc34 h_12
              refine fw_aload_n (i := 0) 1 rfl (show decode _ _ = .ok (.aload_n 0, 1) by decide +kernel) ?_
              refine fw_iload (i := 4) 5 rfl (show decode _ _ = .ok (.iload 4, 2) by decide +kernel) ?_
              refine fw_iload_n (i := 2) 3 rfl (show decode _ _ = .ok (.iload_n 2, 1) by decide +kernel) ?_
              obtain ⟨⟨hr18, n17, hs19⟩, h_14⟩ := h_13
              refine fw_callV (mt' := mtX11_bookAt) (mc := 0) (ms := 0) (As := [.int p4, .int p2]) (rest := [.int p3]) 2 11 n17 (show decode _ _ = .ok (.invokevirtual 405, 3) by decide +kernel) cv_X11_405 ⟨_, rfl, rfl⟩ hr18 hs19 rfl (Nat.le_of_ble_eq_true rfl) (s_X11_bookAt (d := d) (hd_le hd (by decide)) h_14) (by decide) (by decide) (kI (bc' := 0) (bs' := 0) (by decide) (by decide) (fun x20 M16 h_15 => ?_))
              refine fw_iadd (show decode _ _ = .ok (.iadd, 1) by decide +kernel) ?_
              refine fw_nmI (fun x21 ex22 => ?_)
              have h_16 := h_15 x21 ex22
              refine fw_istore_n (i := 3) (ls' := [(3, .int x21), (5, .int x15), (0, .ref p0), (1, .int p1), (2, .int p2), (4, .int p4)]) (show decode _ _ = .ok (.istore_n 3, 1) by decide +kernel) (by decide) rfl ?_
              obtain ⟨x23, ex24⟩ : ∃ y : Int32, y = p4 + (1 : Int32) := ⟨_, rfl⟩
              have h_17 := h_16 x23 ex24
              refine fw_iinc (i := 4) (x := p4) (v := x23) (ls' := [(4, .int x23), (3, .int x21), (5, .int x15), (0, .ref p0), (1, .int p1), (2, .int p2)]) 5 rfl (show decode _ _ = .ok (.iinc 4 1, 3) by decide +kernel) (by rw [ex24]; rfl) (by decide) rfl ?_
              refine fw_goto 24 (show decode _ _ = .ok (.goto (-108), 3) by decide +kernel) (by decide) ?_
              refine FW.sub [3, 4, 5, 1, 0] (ls' := [(0, .ref p0), (1, .int p1), (2, .int p2), (3, .int x21), (4, .int x23)]) rfl ?_
              exact hK24 _ _ _ _ _ _ h_17
            · have h_18 := ipos hc34 h_12
              refine fw_aload_n (i := 0) 1 rfl (show decode _ _ = .ok (.aload_n 0, 1) by decide +kernel) ?_
              refine fw_iload (i := 4) 5 rfl (show decode _ _ = .ok (.iload 4, 2) by decide +kernel) ?_
              refine fw_bipush (v := (7 : Int32)) (show decode _ _ = .ok (.bipush 7, 2) by decide +kernel) (by decide) ?_
              obtain ⟨⟨hr27, n26, hs28⟩, h_19⟩ := h_18
              refine fw_callV (mt' := mtX11_bookAt) (mc := 0) (ms := 0) (As := [.int p4, .int (7 : Int32)]) (rest := [.int p3]) 2 11 n26 (show decode _ _ = .ok (.invokevirtual 405, 3) by decide +kernel) cv_X11_405 ⟨_, rfl, rfl⟩ hr27 hs28 rfl (Nat.le_of_ble_eq_true rfl) (s_X11_bookAt (d := d) (hd_le hd (by decide)) h_19) (by decide) (by decide) (kI (bc' := 0) (bs' := 0) (by decide) (by decide) (fun x29 M25 h_20 => ?_))
              refine fw_goto 127 (show decode _ _ = .ok (.goto 10, 3) by decide +kernel) (by decide) ?_
              refine fw_iadd (show decode _ _ = .ok (.iadd, 1) by decide +kernel) ?_
              refine fw_nmI (fun x30 ex31 => ?_)
              have h_21 := h_20 x30 ex31
              refine fw_istore_n (i := 3) (ls' := [(3, .int x30), (5, .int x15), (0, .ref p0), (1, .int p1), (2, .int p2), (4, .int p4)]) (show decode _ _ = .ok (.istore_n 3, 1) by decide +kernel) (by decide) rfl ?_
              obtain ⟨x32, ex33⟩ : ∃ y : Int32, y = p4 + (1 : Int32) := ⟨_, rfl⟩
              have h_22 := h_21 x32 ex33
              refine fw_iinc (i := 4) (x := p4) (v := x32) (ls' := [(4, .int x32), (3, .int x30), (5, .int x15), (0, .ref p0), (1, .int p1), (2, .int p2)]) 5 rfl (show decode _ _ = .ok (.iinc 4 1, 3) by decide +kernel) (by rw [ex33]; rfl) (by decide) rfl ?_
              refine fw_goto 24 (show decode _ _ = .ok (.goto (-108), 3) by decide +kernel) (by decide) ?_
              refine FW.sub [3, 4, 5, 1, 0] (ls' := [(0, .ref p0), (1, .int p1), (2, .int p2), (3, .int x30), (4, .int x32)]) rfl ?_
              exact hK24 _ _ _ _ _ _ h_22
          · have h_23 := ipos hc44 h_11
            refine fw_iload (i := 5) 0 rfl (show decode _ _ = .ok (.iload 5, 2) by decide +kernel) ?_
            refine fw_iconst (v := (3 : Int32)) (show decode _ _ = .ok (.iconst 3, 1) by decide +kernel) (by decide) ?_
            refine fw_icmp_ne 100 (show decode _ _ = .ok (.if_icmp .ne 7, 3) by decide +kernel) (by decide) (fun hc43 => ?_) (fun hc43 => ?_)
            · have h_24 := ineg hc43 h_23
              refine fw_iconst (v := (0 : Int32)) (show decode _ _ = .ok (.iconst 0, 1) by decide +kernel) (by decide) ?_
              refine fw_goto 127 (show decode _ _ = .ok (.goto 26, 3) by decide +kernel) (by decide) ?_
              refine fw_iadd (show decode _ _ = .ok (.iadd, 1) by decide +kernel) ?_
              refine fw_nmI (fun x35 ex36 => ?_)
              have h_25 := h_24 x35 ex36
              refine fw_istore_n (i := 3) (ls' := [(3, .int x35), (5, .int x15), (0, .ref p0), (1, .int p1), (2, .int p2), (4, .int p4)]) (show decode _ _ = .ok (.istore_n 3, 1) by decide +kernel) (by decide) rfl ?_
              obtain ⟨x37, ex38⟩ : ∃ y : Int32, y = p4 + (1 : Int32) := ⟨_, rfl⟩
              have h_26 := h_25 x37 ex38
              refine fw_iinc (i := 4) (x := p4) (v := x37) (ls' := [(4, .int x37), (3, .int x35), (5, .int x15), (0, .ref p0), (1, .int p1), (2, .int p2)]) 5 rfl (show decode _ _ = .ok (.iinc 4 1, 3) by decide +kernel) (by rw [ex38]; rfl) (by decide) rfl ?_
              refine fw_goto 24 (show decode _ _ = .ok (.goto (-108), 3) by decide +kernel) (by decide) ?_
              refine FW.sub [3, 4, 5, 1, 0] (ls' := [(0, .ref p0), (1, .int p1), (2, .int p2), (3, .int x35), (4, .int x37)]) rfl ?_
              exact hK24 _ _ _ _ _ _ h_26
            · have h_27 := ipos hc43 h_23
              refine fw_iconst (v := (1 : Int32)) (show decode _ _ = .ok (.iconst 1, 1) by decide +kernel) (by decide) ?_
              refine fw_goto 127 (show decode _ _ = .ok (.goto 30, 3) by decide +kernel) (by decide) ?_
              refine fw_iadd (show decode _ _ = .ok (.iadd, 1) by decide +kernel) ?_
              refine fw_nmI (fun x39 ex40 => ?_)
              have h_28 := h_27 x39 ex40
              refine fw_istore_n (i := 3) (ls' := [(3, .int x39), (5, .int x15), (0, .ref p0), (1, .int p1), (2, .int p2), (4, .int p4)]) (show decode _ _ = .ok (.istore_n 3, 1) by decide +kernel) (by decide) rfl ?_
              obtain ⟨x41, ex42⟩ : ∃ y : Int32, y = p4 + (1 : Int32) := ⟨_, rfl⟩
              have h_29 := h_28 x41 ex42
              refine fw_iinc (i := 4) (x := p4) (v := x41) (ls' := [(4, .int x41), (3, .int x39), (5, .int x15), (0, .ref p0), (1, .int p1), (2, .int p2)]) 5 rfl (show decode _ _ = .ok (.iinc 4 1, 3) by decide +kernel) (by rw [ex42]; rfl) (by decide) rfl ?_
              refine fw_goto 24 (show decode _ _ = .ok (.goto (-108), 3) by decide +kernel) (by decide) ?_
              refine FW.sub [3, 4, 5, 1, 0] (ls' := [(0, .ref p0), (1, .int p1), (2, .int p2), (3, .int x39), (4, .int x41)]) rfl ?_
              exact hK24 _ _ _ _ _ _ h_29
        · have h_30 := ipos hc54 h_10
          refine fw_iload (i := 5) 0 rfl (show decode _ _ = .ok (.iload 5, 2) by decide +kernel) ?_
          refine fw_iconst (v := (1 : Int32)) (show decode _ _ = .ok (.iconst 1, 1) by decide +kernel) (by decide) ?_
          refine fw_icmp_ne 81 (show decode _ _ = .ok (.if_icmp .ne 7, 3) by decide +kernel) (by decide) (fun hc53 => ?_) (fun hc53 => ?_)
          · have h_31 := ineg hc53 h_30
            refine fw_iconst (v := (0 : Int32)) (show decode _ _ = .ok (.iconst 0, 1) by decide +kernel) (by decide) ?_
            refine fw_goto 127 (show decode _ _ = .ok (.goto 45, 3) by decide +kernel) (by decide) ?_
            refine fw_iadd (show decode _ _ = .ok (.iadd, 1) by decide +kernel) ?_
            refine fw_nmI (fun x45 ex46 => ?_)
            have h_32 := h_31 x45 ex46
            refine fw_istore_n (i := 3) (ls' := [(3, .int x45), (5, .int x15), (0, .ref p0), (1, .int p1), (2, .int p2), (4, .int p4)]) (show decode _ _ = .ok (.istore_n 3, 1) by decide +kernel) (by decide) rfl ?_
            obtain ⟨x47, ex48⟩ : ∃ y : Int32, y = p4 + (1 : Int32) := ⟨_, rfl⟩
            have h_33 := h_32 x47 ex48
            refine fw_iinc (i := 4) (x := p4) (v := x47) (ls' := [(4, .int x47), (3, .int x45), (5, .int x15), (0, .ref p0), (1, .int p1), (2, .int p2)]) 5 rfl (show decode _ _ = .ok (.iinc 4 1, 3) by decide +kernel) (by rw [ex48]; rfl) (by decide) rfl ?_
            refine fw_goto 24 (show decode _ _ = .ok (.goto (-108), 3) by decide +kernel) (by decide) ?_
            refine FW.sub [3, 4, 5, 1, 0] (ls' := [(0, .ref p0), (1, .int p1), (2, .int p2), (3, .int x45), (4, .int x47)]) rfl ?_
            exact hK24 _ _ _ _ _ _ h_33
          · have h_34 := ipos hc53 h_30
            refine fw_iconst (v := (1 : Int32)) (show decode _ _ = .ok (.iconst 1, 1) by decide +kernel) (by decide) ?_
            refine fw_goto 127 (show decode _ _ = .ok (.goto 49, 3) by decide +kernel) (by decide) ?_
            refine fw_iadd (show decode _ _ = .ok (.iadd, 1) by decide +kernel) ?_
            refine fw_nmI (fun x49 ex50 => ?_)
            have h_35 := h_34 x49 ex50
            refine fw_istore_n (i := 3) (ls' := [(3, .int x49), (5, .int x15), (0, .ref p0), (1, .int p1), (2, .int p2), (4, .int p4)]) (show decode _ _ = .ok (.istore_n 3, 1) by decide +kernel) (by decide) rfl ?_
            obtain ⟨x51, ex52⟩ : ∃ y : Int32, y = p4 + (1 : Int32) := ⟨_, rfl⟩
            have h_36 := h_35 x51 ex52
            refine fw_iinc (i := 4) (x := p4) (v := x51) (ls' := [(4, .int x51), (3, .int x49), (5, .int x15), (0, .ref p0), (1, .int p1), (2, .int p2)]) 5 rfl (show decode _ _ = .ok (.iinc 4 1, 3) by decide +kernel) (by rw [ex52]; rfl) (by decide) rfl ?_
            refine fw_goto 24 (show decode _ _ = .ok (.goto (-108), 3) by decide +kernel) (by decide) ?_
            refine FW.sub [3, 4, 5, 1, 0] (ls' := [(0, .ref p0), (1, .int p1), (2, .int p2), (3, .int x49), (4, .int x51)]) rfl ?_
            exact hK24 _ _ _ _ _ _ h_36
      · have h_37 := ipos hc59 h_9
        refine fw_iconst (v := (1 : Int32)) (show decode _ _ = .ok (.iconst 1, 1) by decide +kernel) (by decide) ?_
        refine fw_goto 127 (show decode _ _ = .ok (.goto 64, 3) by decide +kernel) (by decide) ?_
        refine fw_iadd (show decode _ _ = .ok (.iadd, 1) by decide +kernel) ?_
        refine fw_nmI (fun x55 ex56 => ?_)
        have h_38 := h_37 x55 ex56
        refine fw_istore_n (i := 3) (ls' := [(3, .int x55), (5, .int x15), (0, .ref p0), (1, .int p1), (2, .int p2), (4, .int p4)]) (show decode _ _ = .ok (.istore_n 3, 1) by decide +kernel) (by decide) rfl ?_
        obtain ⟨x57, ex58⟩ : ∃ y : Int32, y = p4 + (1 : Int32) := ⟨_, rfl⟩
        have h_39 := h_38 x57 ex58
        refine fw_iinc (i := 4) (x := p4) (v := x57) (ls' := [(4, .int x57), (3, .int x55), (5, .int x15), (0, .ref p0), (1, .int p1), (2, .int p2)]) 5 rfl (show decode _ _ = .ok (.iinc 4 1, 3) by decide +kernel) (by rw [ex58]; rfl) (by decide) rfl ?_
        refine fw_goto 24 (show decode _ _ = .ok (.goto (-108), 3) by decide +kernel) (by decide) ?_
        refine FW.sub [3, 4, 5, 1, 0] (ls' := [(0, .ref p0), (1, .int p1), (2, .int p2), (3, .int x55), (4, .int x57)]) rfl ?_
        exact hK24 _ _ _ _ _ _ h_39
    · have h_40 := ineg hc62 h_6
      refine fw_goto 129 (show decode _ _ = .ok (.goto 85, 3) by decide +kernel) (by decide) ?_
      obtain ⟨x60, ex61⟩ : ∃ y : Int32, y = p4 + (1 : Int32) := ⟨_, rfl⟩
      have h_41 := h_40 x60 ex61
      refine fw_iinc (i := 4) (x := p4) (v := x60) (ls' := [(4, .int x60), (0, .ref p0), (1, .int p1), (2, .int p2), (3, .int p3)]) 4 rfl (show decode _ _ = .ok (.iinc 4 1, 3) by decide +kernel) (by rw [ex61]; rfl) (by decide) rfl ?_
      refine fw_goto 24 (show decode _ _ = .ok (.goto (-108), 3) by decide +kernel) (by decide) ?_
      refine FW.sub [1, 2, 3, 4, 0] (ls' := [(0, .ref p0), (1, .int p1), (2, .int p2), (3, .int p3), (4, .int x60)]) rfl ?_
      exact hK24 _ _ _ _ _ _ h_41
theorem sl_X11_tally_24 {g : GT} {d : Nat} (hd : 3 ≤ d + 1) {φ : Int32 → fM → Prop} : ∀ (n : Nat) {p0 : Nat} {p1 : Int32} {p2 : Int32} {p3 : Int32} {p4 : Int32} {M : fM}, l_X11_tally_24 φ n p0 p1 p2 p3 p4 M → FW g mtX11_tally (d + 1) 24 [(0, .ref p0), (1, .int p1), (2, .int p2), (3, .int p3), (4, .int p4)] [] M 0 0 (rI φ)
  | 0 => fun h => h.elim
  | n + 1 => fun h => sb_X11_tally_24 hd (fun _ _ _ _ _ _ h => sl_X11_tally_24 hd n h) h
def w_X11_tally (p0 : Nat) (p1 : Int32) (p2 : Int32) (M : fM) (φ : Int32 → fM → Prop) : Prop := isO M p0 11 ∧ w_X11_isPerson p0 p1 M fun x68 M64 => iF (x68 = 0) (φ (-1 : Int32) M64) (w_X11_isIn p2 (0 : Int32) (5 : Int32) M64 fun x70 M69 => iF (x70 = 0) (φ (-1 : Int32) M69) (∃ n, l_X11_tally_24 φ n p0 p1 p2 (0 : Int32) (0 : Int32) M69))
set_option maxRecDepth 100000 in
theorem s_X11_tally {g : GT} {d : Nat} (hd : 3 ≤ d) {p0 : Nat} {p1 : Int32} {p2 : Int32} {M : fM} {φ : Int32 → fM → Prop} (h : w_X11_tally p0 p1 p2 M φ) : FC g mtX11_tally d [.ref p0, .int p1, .int p2] M 0 0 (rI φ) := by
  obtain ⟨d, rfl⟩ : ∃ e, d = e + 1 := ⟨d - 1, by omega⟩
  unfold w_X11_tally at h
  refine FC.intro (nL := 6) (by decide) rfl (Nat.le_of_ble_eq_true rfl) ?_
  show FW g mtX11_tally (d + 1) 0 [(0, .ref p0), (1, .int p1), (2, .int p2)] [] M 0 0 (rI φ)
  refine fw_aload_n (i := 0) 0 rfl (show decode _ _ = .ok (.aload_n 0, 1) by decide +kernel) ?_
  refine fw_iload_n (i := 1) 1 rfl (show decode _ _ = .ok (.iload_n 1, 1) by decide +kernel) ?_
  obtain ⟨⟨hr66, n65, hs67⟩, h_1⟩ := h
  refine fw_callV (mt' := mtX11_isPerson) (mc := 0) (ms := 0) (As := [.int p1]) (rest := []) 1 11 n65 (show decode _ _ = .ok (.invokevirtual 322, 3) by decide +kernel) cv_X11_322 ⟨_, rfl, rfl⟩ hr66 hs67 rfl (Nat.le_of_ble_eq_true rfl) (s_X11_isPerson (d := d) (hd_le hd (by decide)) h_1) (by decide) (by decide) (kI (bc' := 0) (bs' := 0) (by decide) (by decide) (fun x68 M64 h_2 => ?_))
  refine fw_if_eq 17 (show decode _ _ = .ok (.ifCond .eq 12, 3) by decide +kernel) (by decide) (fun hc72 => ?_) (fun hc72 => ?_)
  · have h_3 := ipos hc72 h_2
    refine fw_iconst (v := (-1 : Int32)) (show decode _ _ = .ok (.iconst (-1), 1) by decide +kernel) (by decide) ?_
    exact fw_ret (v := some (.int (-1 : Int32))) .ireturn (show decode _ _ = .ok (.ireturn, 1) by decide +kernel) ⟨rfl, Or.inl rfl⟩ ⟨_, rfl, h_3⟩
  · have h_4 := ineg hc72 h_2
    refine fw_iload_n (i := 2) 2 rfl (show decode _ _ = .ok (.iload_n 2, 1) by decide +kernel) ?_
    refine fw_iconst (v := (0 : Int32)) (show decode _ _ = .ok (.iconst 0, 1) by decide +kernel) (by decide) ?_
    refine fw_iconst (v := (5 : Int32)) (show decode _ _ = .ok (.iconst 5, 1) by decide +kernel) (by decide) ?_
    refine fw_callS (mt' := mtX11_isIn) (mc := 0) (ms := 0) (As := [.int p2, .int (0 : Int32), .int (5 : Int32)]) (rest := []) 3 (show decode _ _ = .ok (.invokestatic 66, 3) by decide +kernel) cs_X11_66 rfl (Nat.le_of_ble_eq_true rfl) (s_X11_isIn (d := d) (hd_le hd (by decide)) h_4) (by decide) (by decide) (kI (bc' := 0) (bs' := 0) (by decide) (by decide) (fun x70 M69 h_5 => ?_))
    refine fw_if_ne 19 (show decode _ _ = .ok (.ifCond .ne 5, 3) by decide +kernel) (by decide) (fun hc71 => ?_) (fun hc71 => ?_)
    · have h_6 := ineg hc71 h_5
      refine fw_iconst (v := (0 : Int32)) (show decode _ _ = .ok (.iconst 0, 1) by decide +kernel) (by decide) ?_
      refine fw_istore_n (i := 3) (ls' := [(3, .int (0 : Int32)), (0, .ref p0), (1, .int p1), (2, .int p2)]) (show decode _ _ = .ok (.istore_n 3, 1) by decide +kernel) (by decide) rfl ?_
      refine fw_iconst (v := (0 : Int32)) (show decode _ _ = .ok (.iconst 0, 1) by decide +kernel) (by decide) ?_
      refine fw_istore (i := 4) (ls' := [(4, .int (0 : Int32)), (3, .int (0 : Int32)), (0, .ref p0), (1, .int p1), (2, .int p2)]) (show decode _ _ = .ok (.istore 4, 2) by decide +kernel) (by decide) rfl ?_
      refine FW.sub [2, 3, 4, 1, 0] (ls' := [(0, .ref p0), (1, .int p1), (2, .int p2), (3, .int (0 : Int32)), (4, .int (0 : Int32))]) rfl ?_
      obtain ⟨nn, h_7⟩ := h_6
      exact sl_X11_tally_24 hd nn h_7
    · have h_8 := ipos hc71 h_5
      refine fw_iconst (v := (-1 : Int32)) (show decode _ _ = .ok (.iconst (-1), 1) by decide +kernel) (by decide) ?_
      exact fw_ret (v := some (.int (-1 : Int32))) .ireturn (show decode _ _ = .ok (.ireturn, 1) by decide +kernel) ⟨rfl, Or.inl rfl⟩ ⟨_, rfl, h_8⟩
def j_X11_text_36 (φ : Int32 → fM → Prop) (p0 : Nat) (s0 : Int32) (s1 : Nat) (M : fM) : Prop := isO M s1 11 ∧ st (wI M s1 6 s0) fun M4 => isO M4 p0 11 ∧ st (wI M4 p0 4 (0 : Int32)) fun M9 => iF ((mI M9 p0 5) = 0) (dR (mP M9 p0 0) fun y11 => inA M9 y11 12 (3 : Int32) ∧ nm ((mI M9 y11 (ix (3 : Int32))) + (1 : Int32)) fun x16 => 6 ≤ y11 ∧ inA M9 y11 12 (3 : Int32) ∧ st (wI M9 y11 (ix (3 : Int32)) x16) fun M22 => dR (mP M22 p0 0) fun y24 => inA M22 y24 12 (3 : Int32) ∧ φ ((mI M22 y24 (ix (3 : Int32))) - (1 : Int32)) M22) (φ (-1 : Int32) M9)
set_option maxRecDepth 100000 in
theorem sj_X11_text_36 {g : GT} {d : Nat} (hd : 11 ≤ d + 1) {φ : Int32 → fM → Prop} {p0 : Nat} {s0 : Int32} {s1 : Nat} {M : fM} (h : j_X11_text_36 φ p0 s0 s1 M) : FW g mtX11_text (d + 1) 36 [(0, .ref p0)] [.int s0, .ref s1] M 0 0 (rI φ) := by
  unfold j_X11_text_36 at h
  obtain ⟨⟨hr2, n1, hs3⟩, h_1⟩ := h
  refine fw_putI (kd := 11) (k := 6) (show decode _ _ = .ok (.putfield 26, 3) by decide +kernel) ⟨gf_X11_26, _, rfl, Or.inl rfl⟩ hr2 hs3 rfl ?_
  refine FW.nmM (fun M4 eM5 => ?_)
  have h_2 := h_1 M4 eM5
  refine fw_aload_n (i := 0) 0 rfl (show decode _ _ = .ok (.aload_n 0, 1) by decide +kernel) ?_
  refine fw_iconst (v := (0 : Int32)) (show decode _ _ = .ok (.iconst 0, 1) by decide +kernel) (by decide) ?_
  obtain ⟨⟨hr7, n6, hs8⟩, h_3⟩ := h_2
  refine fw_putI (kd := 11) (k := 4) (show decode _ _ = .ok (.putfield 91, 3) by decide +kernel) ⟨gf_X11_91, _, rfl, Or.inl rfl⟩ hr7 hs8 rfl ?_
  refine FW.nmM (fun M9 eM10 => ?_)
  have h_4 := h_3 M9 eM10
  refine fw_aload_n (i := 0) 0 rfl (show decode _ _ = .ok (.aload_n 0, 1) by decide +kernel) ?_
  refine fw_getI (kd := 11) (k := 5) (show decode _ _ = .ok (.getfield 22, 3) by decide +kernel) gf_X11_22 hr7 (mSw_I eM10 hs8) (Or.inl rfl) ?_
  refine fw_if_eq 53 (show decode _ _ = .ok (.ifCond .eq 5, 3) by decide +kernel) (by decide) (fun hc29 => ?_) (fun hc29 => ?_)
  · have h_5 := ipos hc29 h_4
    refine fw_aload_n (i := 0) 0 rfl (show decode _ _ = .ok (.aload_n 0, 1) by decide +kernel) ?_
    refine fw_getP (kd := 11) (k := 0) (show decode _ _ = .ok (.getfield 7, 3) by decide +kernel) gf_X11_7 hr7 (mSw_I eM10 hs8) rfl ?_
    have h_6 := dR_e h_5
    obtain ⟨y11, hy12, h_7⟩ := h_6
    refine fw_deref hy12 ?_
    refine fw_iconst (v := (3 : Int32)) (show decode _ _ = .ok (.iconst 3, 1) by decide +kernel) (by decide) ?_
    refine fw_dup2_11 (show decode _ _ = .ok (.dup2, 1) by decide +kernel) rfl rfl ?_
    obtain ⟨⟨n13, hs14, hi15⟩, h_8⟩ := h_7
    refine fw_iald (show decode _ _ = .ok (.iaload, 1) by decide +kernel) hs14 hi15 ?_
    refine fw_iconst (v := (1 : Int32)) (show decode _ _ = .ok (.iconst 1, 1) by decide +kernel) (by decide) ?_
    refine fw_iadd (show decode _ _ = .ok (.iadd, 1) by decide +kernel) ?_
    refine fw_nmI (fun x16 ex17 => ?_)
    have h_9 := h_8 x16 ex17
    obtain ⟨hr21, ⟨n18, hs19, hi20⟩, h_10⟩ := h_9
    refine fw_iast (show decode _ _ = .ok (.iastore, 1) by decide +kernel) hr21 hs19 hi20 ?_
    refine FW.nmM (fun M22 eM23 => ?_)
    have h_11 := h_10 M22 eM23
    refine fw_aload_n (i := 0) 0 rfl (show decode _ _ = .ok (.aload_n 0, 1) by decide +kernel) ?_
    refine fw_getP (kd := 11) (k := 0) (show decode _ _ = .ok (.getfield 7, 3) by decide +kernel) gf_X11_7 hr7 (mSw_I eM23 (mSw_I eM10 hs8)) rfl ?_
    have h_12 := dR_e h_11
    obtain ⟨y24, hy25, h_13⟩ := h_12
    refine fw_deref hy25 ?_
    refine fw_iconst (v := (3 : Int32)) (show decode _ _ = .ok (.iconst 3, 1) by decide +kernel) (by decide) ?_
    obtain ⟨⟨n26, hs27, hi28⟩, h_14⟩ := h_13
    refine fw_iald (show decode _ _ = .ok (.iaload, 1) by decide +kernel) hs27 hi28 ?_
    refine fw_iconst (v := (1 : Int32)) (show decode _ _ = .ok (.iconst 1, 1) by decide +kernel) (by decide) ?_
    refine fw_isub (show decode _ _ = .ok (.isub, 1) by decide +kernel) ?_
    exact fw_ret (v := some (.int ((mI M22 y24 (ix (3 : Int32))) - (1 : Int32)))) .ireturn (show decode _ _ = .ok (.ireturn, 1) by decide +kernel) ⟨rfl, Or.inl rfl⟩ ⟨_, rfl, h_14⟩
  · have h_15 := ineg hc29 h_4
    refine fw_iconst (v := (-1 : Int32)) (show decode _ _ = .ok (.iconst (-1), 1) by decide +kernel) (by decide) ?_
    exact fw_ret (v := some (.int (-1 : Int32))) .ireturn (show decode _ _ = .ok (.ireturn, 1) by decide +kernel) ⟨rfl, Or.inl rfl⟩ ⟨_, rfl, h_15⟩
def w_X11_text (p0 : Nat) (M : fM) (φ : Int32 → fM → Prop) : Prop := isO M p0 11 ∧ dR (mP M p0 0) fun y33 => inA M y33 12 (3 : Int32) ∧ iF ((mI M y33 (ix (3 : Int32))) = (4 : Int32)) (φ (-1 : Int32) M) (w_X11_readText p0 M fun x39 M38 => isO M38 p0 11 ∧ st (wI M38 p0 5 x39) fun M43 => iF ((mI M43 p0 5) = 0) (j_X11_text_36 φ p0 (-1 : Int32) p0 M43) (j_X11_text_36 φ p0 (mI M43 p0 8) p0 M43))
set_option maxRecDepth 100000 in
theorem s_X11_text {g : GT} {d : Nat} (hd : 11 ≤ d) {p0 : Nat} {M : fM} {φ : Int32 → fM → Prop} (h : w_X11_text p0 M φ) : FC g mtX11_text d [.ref p0] M 0 0 (rI φ) := by
  obtain ⟨d, rfl⟩ : ∃ e, d = e + 1 := ⟨d - 1, by omega⟩
  unfold w_X11_text at h
  refine FC.intro (nL := 1) (by decide) rfl (Nat.le_of_ble_eq_true rfl) ?_
  show FW g mtX11_text (d + 1) 0 [(0, .ref p0)] [] M 0 0 (rI φ)
  refine fw_aload_n (i := 0) 0 rfl (show decode _ _ = .ok (.aload_n 0, 1) by decide +kernel) ?_
  obtain ⟨⟨hr31, n30, hs32⟩, h_1⟩ := h
  refine fw_getP (kd := 11) (k := 0) (show decode _ _ = .ok (.getfield 7, 3) by decide +kernel) gf_X11_7 hr31 hs32 rfl ?_
  have h_2 := dR_e h_1
  obtain ⟨y33, hy34, h_3⟩ := h_2
  refine fw_deref hy34 ?_
  refine fw_iconst (v := (3 : Int32)) (show decode _ _ = .ok (.iconst 3, 1) by decide +kernel) (by decide) ?_
  obtain ⟨⟨n35, hs36, hi37⟩, h_4⟩ := h_3
  refine fw_iald (show decode _ _ = .ok (.iaload, 1) by decide +kernel) hs36 hi37 ?_
  refine fw_iconst (v := (4 : Int32)) (show decode _ _ = .ok (.iconst 4, 1) by decide +kernel) (by decide) ?_
  refine fw_icmp_ne 12 (show decode _ _ = .ok (.if_icmp .ne 5, 3) by decide +kernel) (by decide) (fun hc46 => ?_) (fun hc46 => ?_)
  · have h_5 := ineg hc46 h_4
    refine fw_aload_n (i := 0) 0 rfl (show decode _ _ = .ok (.aload_n 0, 1) by decide +kernel) ?_
    refine fw_aload_n (i := 0) 0 rfl (show decode _ _ = .ok (.aload_n 0, 1) by decide +kernel) ?_
    refine fw_callV (mt' := mtX11_readText) (mc := 0) (ms := 0) (As := []) (rest := [.ref p0]) 0 11 n30 (show decode _ _ = .ok (.invokevirtual 268, 3) by decide +kernel) cv_X11_268 ⟨_, rfl, rfl⟩ hr31 hs32 rfl (Nat.le_of_ble_eq_true rfl) (s_X11_readText (d := d) (hd_le hd (by decide)) h_5) (by decide) (by decide) (kI (bc' := 0) (bs' := 0) (by decide) (by decide) (fun x39 M38 h_6 => ?_))
    obtain ⟨⟨hr41, n40, hs42⟩, h_7⟩ := h_6
    refine fw_putI (kd := 11) (k := 5) (show decode _ _ = .ok (.putfield 22, 3) by decide +kernel) ⟨gf_X11_22, _, rfl, Or.inl rfl⟩ hr41 hs42 rfl ?_
    refine FW.nmM (fun M43 eM44 => ?_)
    have h_8 := h_7 M43 eM44
    refine fw_aload_n (i := 0) 0 rfl (show decode _ _ = .ok (.aload_n 0, 1) by decide +kernel) ?_
    refine fw_aload_n (i := 0) 0 rfl (show decode _ _ = .ok (.aload_n 0, 1) by decide +kernel) ?_
    refine fw_getI (kd := 11) (k := 5) (show decode _ _ = .ok (.getfield 22, 3) by decide +kernel) gf_X11_22 hr41 (mSw_I eM44 hs42) (Or.inl rfl) ?_
    refine fw_if_ne 32 (show decode _ _ = .ok (.ifCond .ne 7, 3) by decide +kernel) (by decide) (fun hc45 => ?_) (fun hc45 => ?_)
    · have h_9 := ineg hc45 h_8
      refine fw_aload_n (i := 0) 0 rfl (show decode _ _ = .ok (.aload_n 0, 1) by decide +kernel) ?_
      refine fw_getI (kd := 11) (k := 8) (show decode _ _ = .ok (.getfield 104, 3) by decide +kernel) gf_X11_104 hr41 (mSw_I eM44 hs42) (Or.inl rfl) ?_
      refine FW.sub [0] (ls' := [(0, .ref p0)]) rfl ?_
      exact sj_X11_text_36 hd h_9
    · have h_10 := ipos hc45 h_8
      refine fw_iconst (v := (-1 : Int32)) (show decode _ _ = .ok (.iconst (-1), 1) by decide +kernel) (by decide) ?_
      refine fw_goto 36 (show decode _ _ = .ok (.goto 7, 3) by decide +kernel) (by decide) ?_
      refine FW.sub [0] (ls' := [(0, .ref p0)]) rfl ?_
      exact sj_X11_text_36 hd h_10
  · have h_11 := ipos hc46 h_4
    refine fw_iconst (v := (-1 : Int32)) (show decode _ _ = .ok (.iconst (-1), 1) by decide +kernel) (by decide) ?_
    exact fw_ret (v := some (.int (-1 : Int32))) .ireturn (show decode _ _ = .ok (.ireturn, 1) by decide +kernel) ⟨rfl, Or.inl rfl⟩ ⟨_, rfl, h_11⟩
def b_X11_trippers_26 (K26 : Nat → Int32 → Int32 → Int32 → Int32 → Int32 → fM → Prop) (φ : Int32 → fM → Prop) (p0 : Nat) (p1 : Int32) (p2 : Int32) (p3 : Int32) (p4 : Int32) (p5 : Int32) (M : fM) : Prop := isO M p0 11 ∧ dR (mP M p0 0) fun y4 => inA M y4 12 (0 : Int32) ∧ iF ((mI M y4 (ix (0 : Int32))) ≤ p5) (φ p4 M) (w_X11_tripsAt p0 p5 p1 p3 p2 M fun x10 M9 => iF (x10 = 0) (nm (p4 ||| (0 : Int32)) fun x11 => nm (p5 + (1 : Int32)) fun x13 => K26 p0 p1 p2 p3 x11 x13 M9) (nm (p4 ||| ((1 : Int32) <<< (p5 &&& 31))) fun x15 => nm (p5 + (1 : Int32)) fun x17 => K26 p0 p1 p2 p3 x15 x17 M9))
def l_X11_trippers_26 (φ : Int32 → fM → Prop) : Nat → Nat → Int32 → Int32 → Int32 → Int32 → Int32 → fM → Prop
  | 0, _, _, _, _, _, _, _ => False
  | n + 1, p0, p1, p2, p3, p4, p5, M => b_X11_trippers_26 (l_X11_trippers_26 φ n) φ p0 p1 p2 p3 p4 p5 M
set_option maxRecDepth 100000 in
theorem sb_X11_trippers_26 {g : GT} {d : Nat} (hd : 6 ≤ d + 1) {K26 : Nat → Int32 → Int32 → Int32 → Int32 → Int32 → fM → Prop} {φ : Int32 → fM → Prop} (hK26 : ∀ (p0 : Nat) (p1 : Int32) (p2 : Int32) (p3 : Int32) (p4 : Int32) (p5 : Int32) (M : fM), K26 p0 p1 p2 p3 p4 p5 M → FW g mtX11_trippers (d + 1) 26 [(0, .ref p0), (1, .int p1), (2, .int p2), (3, .int p3), (4, .int p4), (5, .int p5)] [] M 0 0 (rI φ)) {p0 : Nat} {p1 : Int32} {p2 : Int32} {p3 : Int32} {p4 : Int32} {p5 : Int32} {M : fM} (h : b_X11_trippers_26 K26 φ p0 p1 p2 p3 p4 p5 M) : FW g mtX11_trippers (d + 1) 26 [(0, .ref p0), (1, .int p1), (2, .int p2), (3, .int p3), (4, .int p4), (5, .int p5)] [] M 0 0 (rI φ) := by
  unfold b_X11_trippers_26 at h
  refine fw_iload (i := 5) 5 rfl (show decode _ _ = .ok (.iload 5, 2) by decide +kernel) ?_
  refine fw_aload_n (i := 0) 0 rfl (show decode _ _ = .ok (.aload_n 0, 1) by decide +kernel) ?_
  obtain ⟨⟨hr2, n1, hs3⟩, h_1⟩ := h
  refine fw_getP (kd := 11) (k := 0) (show decode _ _ = .ok (.getfield 7, 3) by decide +kernel) gf_X11_7 hr2 hs3 rfl ?_
  have h_2 := dR_e h_1
  obtain ⟨y4, hy5, h_3⟩ := h_2
  refine fw_deref hy5 ?_
  refine fw_iconst (v := (0 : Int32)) (show decode _ _ = .ok (.iconst 0, 1) by decide +kernel) (by decide) ?_
  obtain ⟨⟨n6, hs7, hi8⟩, h_4⟩ := h_3
  refine fw_iald (show decode _ _ = .ok (.iaload, 1) by decide +kernel) hs7 hi8 ?_
  refine fw_icmp_ge 68 (show decode _ _ = .ok (.if_icmp .ge 34, 3) by decide +kernel) (by decide) (fun hc20 => ?_) (fun hc20 => ?_)
  · have h_5 := ipos hc20 h_4
    refine fw_iload (i := 4) 4 rfl (show decode _ _ = .ok (.iload 4, 2) by decide +kernel) ?_
    exact fw_ret (v := some (.int p4)) .ireturn (show decode _ _ = .ok (.ireturn, 1) by decide +kernel) ⟨rfl, Or.inl rfl⟩ ⟨_, rfl, h_5⟩
  · have h_6 := ineg hc20 h_4
    refine fw_iload (i := 4) 4 rfl (show decode _ _ = .ok (.iload 4, 2) by decide +kernel) ?_
    refine fw_aload_n (i := 0) 0 rfl (show decode _ _ = .ok (.aload_n 0, 1) by decide +kernel) ?_
    refine fw_iload (i := 5) 5 rfl (show decode _ _ = .ok (.iload 5, 2) by decide +kernel) ?_
    refine fw_iload_n (i := 1) 1 rfl (show decode _ _ = .ok (.iload_n 1, 1) by decide +kernel) ?_
    refine fw_iload_n (i := 3) 3 rfl (show decode _ _ = .ok (.iload_n 3, 1) by decide +kernel) ?_
    refine fw_iload_n (i := 2) 2 rfl (show decode _ _ = .ok (.iload_n 2, 1) by decide +kernel) ?_
    refine fw_callV (mt' := mtX11_tripsAt) (mc := 0) (ms := 0) (As := [.int p5, .int p1, .int p3, .int p2]) (rest := [.int p4]) 4 11 n1 (show decode _ _ = .ok (.invokevirtual 331, 3) by decide +kernel) cv_X11_331 ⟨_, rfl, rfl⟩ hr2 hs3 rfl (Nat.le_of_ble_eq_true rfl) (s_X11_tripsAt (d := d) (hd_le hd (by decide)) h_6) (by decide) (by decide) (kI (bc' := 0) (bs' := 0) (by decide) (by decide) (fun x10 M9 h_7 => ?_))
    refine fw_if_eq 58 (show decode _ _ = .ok (.ifCond .eq 10, 3) by decide +kernel) (by decide) (fun hc19 => ?_) (fun hc19 => ?_)
    · have h_8 := ipos hc19 h_7
      refine fw_iconst (v := (0 : Int32)) (show decode _ _ = .ok (.iconst 0, 1) by decide +kernel) (by decide) ?_
      refine fw_ior (show decode _ _ = .ok (.ior, 1) by decide +kernel) ?_
      refine fw_nmI (fun x11 ex12 => ?_)
      have h_9 := h_8 x11 ex12
      refine fw_istore (i := 4) (ls' := [(4, .int x11), (0, .ref p0), (1, .int p1), (2, .int p2), (3, .int p3), (5, .int p5)]) (show decode _ _ = .ok (.istore 4, 2) by decide +kernel) (by decide) rfl ?_
      obtain ⟨x13, ex14⟩ : ∃ y : Int32, y = p5 + (1 : Int32) := ⟨_, rfl⟩
      have h_10 := h_9 x13 ex14
      refine fw_iinc (i := 5) (x := p5) (v := x13) (ls' := [(5, .int x13), (4, .int x11), (0, .ref p0), (1, .int p1), (2, .int p2), (3, .int p3)]) 5 rfl (show decode _ _ = .ok (.iinc 5 1, 3) by decide +kernel) (by rw [ex14]; rfl) (by decide) rfl ?_
      refine fw_goto 26 (show decode _ _ = .ok (.goto (-39), 3) by decide +kernel) (by decide) ?_
      refine FW.sub [2, 3, 4, 5, 1, 0] (ls' := [(0, .ref p0), (1, .int p1), (2, .int p2), (3, .int p3), (4, .int x11), (5, .int x13)]) rfl ?_
      exact hK26 _ _ _ _ _ _ _ h_10
    · have h_11 := ineg hc19 h_7
      refine fw_iconst (v := (1 : Int32)) (show decode _ _ = .ok (.iconst 1, 1) by decide +kernel) (by decide) ?_
      refine fw_iload (i := 5) 5 rfl (show decode _ _ = .ok (.iload 5, 2) by decide +kernel) ?_
      refine fw_ishl (show decode _ _ = .ok (.ishl, 1) by decide +kernel) ?_
      refine fw_goto 59 (show decode _ _ = .ok (.goto 4, 3) by decide +kernel) (by decide) ?_
      refine fw_ior (show decode _ _ = .ok (.ior, 1) by decide +kernel) ?_
      refine fw_nmI (fun x15 ex16 => ?_)
      have h_12 := h_11 x15 ex16
      refine fw_istore (i := 4) (ls' := [(4, .int x15), (0, .ref p0), (1, .int p1), (2, .int p2), (3, .int p3), (5, .int p5)]) (show decode _ _ = .ok (.istore 4, 2) by decide +kernel) (by decide) rfl ?_
      obtain ⟨x17, ex18⟩ : ∃ y : Int32, y = p5 + (1 : Int32) := ⟨_, rfl⟩
      have h_13 := h_12 x17 ex18
      refine fw_iinc (i := 5) (x := p5) (v := x17) (ls' := [(5, .int x17), (4, .int x15), (0, .ref p0), (1, .int p1), (2, .int p2), (3, .int p3)]) 5 rfl (show decode _ _ = .ok (.iinc 5 1, 3) by decide +kernel) (by rw [ex18]; rfl) (by decide) rfl ?_
      refine fw_goto 26 (show decode _ _ = .ok (.goto (-39), 3) by decide +kernel) (by decide) ?_
      refine FW.sub [2, 3, 4, 5, 1, 0] (ls' := [(0, .ref p0), (1, .int p1), (2, .int p2), (3, .int p3), (4, .int x15), (5, .int x17)]) rfl ?_
      exact hK26 _ _ _ _ _ _ _ h_13
theorem sl_X11_trippers_26 {g : GT} {d : Nat} (hd : 6 ≤ d + 1) {φ : Int32 → fM → Prop} : ∀ (n : Nat) {p0 : Nat} {p1 : Int32} {p2 : Int32} {p3 : Int32} {p4 : Int32} {p5 : Int32} {M : fM}, l_X11_trippers_26 φ n p0 p1 p2 p3 p4 p5 M → FW g mtX11_trippers (d + 1) 26 [(0, .ref p0), (1, .int p1), (2, .int p2), (3, .int p3), (4, .int p4), (5, .int p5)] [] M 0 0 (rI φ)
  | 0 => fun h => h.elim
  | n + 1 => fun h => sb_X11_trippers_26 hd (fun _ _ _ _ _ _ _ h => sl_X11_trippers_26 hd n h) h
def w_X11_trippers (p0 : Nat) (p1 : Int32) (p2 : Int32) (p3 : Int32) (M : fM) (φ : Int32 → fM → Prop) : Prop := isO M p0 11 ∧ w_X11_isStep p0 p1 p2 M fun x25 M21 => iF (x25 = 0) (φ (-1 : Int32) M21) (w_X11_isIn p3 (0 : Int32) (3 : Int32) M21 fun x27 M26 => iF (x27 = 0) (φ (-1 : Int32) M26) (∃ n, l_X11_trippers_26 φ n p0 p1 p2 p3 (0 : Int32) (0 : Int32) M26))
set_option maxRecDepth 100000 in
theorem s_X11_trippers {g : GT} {d : Nat} (hd : 6 ≤ d) {p0 : Nat} {p1 : Int32} {p2 : Int32} {p3 : Int32} {M : fM} {φ : Int32 → fM → Prop} (h : w_X11_trippers p0 p1 p2 p3 M φ) : FC g mtX11_trippers d [.ref p0, .int p1, .int p2, .int p3] M 0 0 (rI φ) := by
  obtain ⟨d, rfl⟩ : ∃ e, d = e + 1 := ⟨d - 1, by omega⟩
  unfold w_X11_trippers at h
  refine FC.intro (nL := 6) (by decide) rfl (Nat.le_of_ble_eq_true rfl) ?_
  show FW g mtX11_trippers (d + 1) 0 [(0, .ref p0), (1, .int p1), (2, .int p2), (3, .int p3)] [] M 0 0 (rI φ)
  refine fw_aload_n (i := 0) 0 rfl (show decode _ _ = .ok (.aload_n 0, 1) by decide +kernel) ?_
  refine fw_iload_n (i := 1) 1 rfl (show decode _ _ = .ok (.iload_n 1, 1) by decide +kernel) ?_
  refine fw_iload_n (i := 2) 2 rfl (show decode _ _ = .ok (.iload_n 2, 1) by decide +kernel) ?_
  obtain ⟨⟨hr23, n22, hs24⟩, h_1⟩ := h
  refine fw_callV (mt' := mtX11_isStep) (mc := 0) (ms := 0) (As := [.int p1, .int p2]) (rest := []) 2 11 n22 (show decode _ _ = .ok (.invokevirtual 81, 3) by decide +kernel) cv_X11_81 ⟨_, rfl, rfl⟩ hr23 hs24 rfl (Nat.le_of_ble_eq_true rfl) (s_X11_isStep (d := d) (hd_le hd (by decide)) h_1) (by decide) (by decide) (kI (bc' := 0) (bs' := 0) (by decide) (by decide) (fun x25 M21 h_2 => ?_))
  refine fw_if_eq 18 (show decode _ _ = .ok (.ifCond .eq 12, 3) by decide +kernel) (by decide) (fun hc29 => ?_) (fun hc29 => ?_)
  · have h_3 := ipos hc29 h_2
    refine fw_iconst (v := (-1 : Int32)) (show decode _ _ = .ok (.iconst (-1), 1) by decide +kernel) (by decide) ?_
    exact fw_ret (v := some (.int (-1 : Int32))) .ireturn (show decode _ _ = .ok (.ireturn, 1) by decide +kernel) ⟨rfl, Or.inl rfl⟩ ⟨_, rfl, h_3⟩
  · have h_4 := ineg hc29 h_2
    refine fw_iload_n (i := 3) 3 rfl (show decode _ _ = .ok (.iload_n 3, 1) by decide +kernel) ?_
    refine fw_iconst (v := (0 : Int32)) (show decode _ _ = .ok (.iconst 0, 1) by decide +kernel) (by decide) ?_
    refine fw_iconst (v := (3 : Int32)) (show decode _ _ = .ok (.iconst 3, 1) by decide +kernel) (by decide) ?_
    refine fw_callS (mt' := mtX11_isIn) (mc := 0) (ms := 0) (As := [.int p3, .int (0 : Int32), .int (3 : Int32)]) (rest := []) 3 (show decode _ _ = .ok (.invokestatic 66, 3) by decide +kernel) cs_X11_66 rfl (Nat.le_of_ble_eq_true rfl) (s_X11_isIn (d := d) (hd_le hd (by decide)) h_4) (by decide) (by decide) (kI (bc' := 0) (bs' := 0) (by decide) (by decide) (fun x27 M26 h_5 => ?_))
    refine fw_if_ne 20 (show decode _ _ = .ok (.ifCond .ne 5, 3) by decide +kernel) (by decide) (fun hc28 => ?_) (fun hc28 => ?_)
    · have h_6 := ineg hc28 h_5
      refine fw_iconst (v := (0 : Int32)) (show decode _ _ = .ok (.iconst 0, 1) by decide +kernel) (by decide) ?_
      refine fw_istore (i := 4) (ls' := [(4, .int (0 : Int32)), (0, .ref p0), (1, .int p1), (2, .int p2), (3, .int p3)]) (show decode _ _ = .ok (.istore 4, 2) by decide +kernel) (by decide) rfl ?_
      refine fw_iconst (v := (0 : Int32)) (show decode _ _ = .ok (.iconst 0, 1) by decide +kernel) (by decide) ?_
      refine fw_istore (i := 5) (ls' := [(5, .int (0 : Int32)), (4, .int (0 : Int32)), (0, .ref p0), (1, .int p1), (2, .int p2), (3, .int p3)]) (show decode _ _ = .ok (.istore 5, 2) by decide +kernel) (by decide) rfl ?_
      refine FW.sub [2, 3, 4, 5, 1, 0] (ls' := [(0, .ref p0), (1, .int p1), (2, .int p2), (3, .int p3), (4, .int (0 : Int32)), (5, .int (0 : Int32))]) rfl ?_
      obtain ⟨nn, h_7⟩ := h_6
      exact sl_X11_trippers_26 hd nn h_7
    · have h_8 := ipos hc28 h_5
      refine fw_iconst (v := (-1 : Int32)) (show decode _ _ = .ok (.iconst (-1), 1) by decide +kernel) (by decide) ?_
      exact fw_ret (v := some (.int (-1 : Int32))) .ireturn (show decode _ _ = .ok (.ireturn, 1) by decide +kernel) ⟨rfl, Or.inl rfl⟩ ⟨_, rfl, h_8⟩
def b_X11_undo_37 (K37 : Nat → Int32 → Int32 → fM → Prop) (φ : Int32 → fM → Prop) (p0 : Nat) (p1 : Int32) (p2 : Int32) (M : fM) : Prop := iF ((9 : Int32) ≤ p2) (isO M p0 11 ∧ dR (mP M p0 0) fun y4 => dR (mP M p0 0) fun y6 => inA M y6 12 (p1 + (9 : Int32)) ∧ nm (mI M y6 (ix (p1 + (9 : Int32)))) fun x11 => 6 ≤ y4 ∧ inA M y4 12 (8 : Int32) ∧ st (wI M y4 (ix (8 : Int32)) x11) fun M17 => dR (mP M17 p0 0) fun y19 => dR (mP M17 p0 0) fun y21 => inA M17 y21 12 (p1 + (10 : Int32)) ∧ nm (mI M17 y21 (ix (p1 + (10 : Int32)))) fun x26 => 6 ≤ y19 ∧ inA M17 y19 12 (1 : Int32) ∧ st (wI M17 y19 (ix (1 : Int32)) x26) fun M32 => dR (mP M32 p0 0) fun y34 => dR (mP M32 p0 0) fun y36 => inA M32 y36 12 (p1 + (11 : Int32)) ∧ nm (mI M32 y36 (ix (p1 + (11 : Int32)))) fun x41 => 6 ≤ y34 ∧ inA M32 y34 12 (2 : Int32) ∧ st (wI M32 y34 (ix (2 : Int32)) x41) fun M47 => dR (mP M47 p0 0) fun y49 => inA M47 y49 12 (101 : Int32) ∧ w_X11_stepsOf p0 (mI M47 y49 (ix (101 : Int32))) M47 fun x55 M54 => isO M54 p0 11 ∧ dR (mP M54 p0 0) fun y59 => inA M54 y59 12 (108 : Int32) ∧ iF ((mI M54 y59 (ix (108 : Int32))) = (1 : Int32)) (dR (mP M54 p0 0) fun y69 => inA M54 y69 12 (103 : Int32) ∧ iF ((mI M54 y69 (ix (103 : Int32))) ≤ x55) (dR (mP M54 p0 0) fun y74 => inA M54 y74 12 (5 : Int32) ∧ φ (mI M54 y74 (ix (5 : Int32))) M54) (dR (mP M54 p0 0) fun y79 => 6 ≤ y79 ∧ inA M54 y79 12 (103 : Int32) ∧ st (wI M54 y79 (ix (103 : Int32)) x55) fun M85 => dR (mP M85 p0 0) fun y87 => inA M85 y87 12 (5 : Int32) ∧ φ (mI M85 y87 (ix (5 : Int32))) M85)) (dR (mP M54 p0 0) fun y64 => inA M54 y64 12 (5 : Int32) ∧ φ (mI M54 y64 (ix (5 : Int32))) M54)) (isO M p0 11 ∧ dR (mP M p0 0) fun y97 => dR (mP M p0 0) fun y99 => inA M y99 12 (p1 + p2) ∧ nm (mI M y99 (ix (p1 + p2))) fun x104 => 6 ≤ y97 ∧ inA M y97 12 ((100 : Int32) + p2) ∧ st (wI M y97 (ix ((100 : Int32) + p2)) x104) fun M110 => nm (p2 + (1 : Int32)) fun x112 => K37 p0 p1 x112 M110)
def l_X11_undo_37 (φ : Int32 → fM → Prop) : Nat → Nat → Int32 → Int32 → fM → Prop
  | 0, _, _, _, _ => False
  | n + 1, p0, p1, p2, M => b_X11_undo_37 (l_X11_undo_37 φ n) φ p0 p1 p2 M
set_option maxRecDepth 100000 in
theorem sb_X11_undo_37 {g : GT} {d : Nat} (hd : 2 ≤ d + 1) {K37 : Nat → Int32 → Int32 → fM → Prop} {φ : Int32 → fM → Prop} (hK37 : ∀ (p0 : Nat) (p1 : Int32) (p2 : Int32) (M : fM), K37 p0 p1 p2 M → FW g mtX11_undo (d + 1) 37 [(0, .ref p0), (1, .int p1), (2, .int p2)] [] M 0 0 (rI φ)) {p0 : Nat} {p1 : Int32} {p2 : Int32} {M : fM} (h : b_X11_undo_37 K37 φ p0 p1 p2 M) : FW g mtX11_undo (d + 1) 37 [(0, .ref p0), (1, .int p1), (2, .int p2)] [] M 0 0 (rI φ) := by
  unfold b_X11_undo_37 at h
  refine fw_iload_n (i := 2) 2 rfl (show decode _ _ = .ok (.iload_n 2, 1) by decide +kernel) ?_
  refine fw_bipush (v := (9 : Int32)) (show decode _ _ = .ok (.bipush 9, 2) by decide +kernel) (by decide) ?_
  refine fw_icmp_ge 66 (show decode _ _ = .ok (.if_icmp .ge 26, 3) by decide +kernel) (by decide) (fun hc114 => ?_) (fun hc114 => ?_)
  · have h_1 := ipos hc114 h
    refine fw_aload_n (i := 0) 0 rfl (show decode _ _ = .ok (.aload_n 0, 1) by decide +kernel) ?_
    obtain ⟨⟨hr2, n1, hs3⟩, h_2⟩ := h_1
    refine fw_getP (kd := 11) (k := 0) (show decode _ _ = .ok (.getfield 7, 3) by decide +kernel) gf_X11_7 hr2 hs3 rfl ?_
    have h_3 := dR_e h_2
    obtain ⟨y4, hy5, h_4⟩ := h_3
    refine fw_deref hy5 ?_
    refine fw_bipush (v := (8 : Int32)) (show decode _ _ = .ok (.bipush 8, 2) by decide +kernel) (by decide) ?_
    refine fw_aload_n (i := 0) 0 rfl (show decode _ _ = .ok (.aload_n 0, 1) by decide +kernel) ?_
    refine fw_getP (kd := 11) (k := 0) (show decode _ _ = .ok (.getfield 7, 3) by decide +kernel) gf_X11_7 hr2 hs3 rfl ?_
    have h_5 := dR_e h_4
    obtain ⟨y6, hy7, h_6⟩ := h_5
    refine fw_deref hy7 ?_
    refine fw_iload_n (i := 1) 1 rfl (show decode _ _ = .ok (.iload_n 1, 1) by decide +kernel) ?_
    refine fw_bipush (v := (9 : Int32)) (show decode _ _ = .ok (.bipush 9, 2) by decide +kernel) (by decide) ?_
    refine fw_iadd (show decode _ _ = .ok (.iadd, 1) by decide +kernel) ?_
    obtain ⟨⟨n8, hs9, hi10⟩, h_7⟩ := h_6
    refine fw_iald (show decode _ _ = .ok (.iaload, 1) by decide +kernel) hs9 hi10 ?_
    refine fw_nmI (fun x11 ex12 => ?_)
    have h_8 := h_7 x11 ex12
    obtain ⟨hr16, ⟨n13, hs14, hi15⟩, h_9⟩ := h_8
    refine fw_iast (show decode _ _ = .ok (.iastore, 1) by decide +kernel) hr16 hs14 hi15 ?_
    refine FW.nmM (fun M17 eM18 => ?_)
    have h_10 := h_9 M17 eM18
    refine fw_aload_n (i := 0) 0 rfl (show decode _ _ = .ok (.aload_n 0, 1) by decide +kernel) ?_
    refine fw_getP (kd := 11) (k := 0) (show decode _ _ = .ok (.getfield 7, 3) by decide +kernel) gf_X11_7 hr2 (mSw_I eM18 hs3) rfl ?_
    have h_11 := dR_e h_10
    obtain ⟨y19, hy20, h_12⟩ := h_11
    refine fw_deref hy20 ?_
    refine fw_iconst (v := (1 : Int32)) (show decode _ _ = .ok (.iconst 1, 1) by decide +kernel) (by decide) ?_
    refine fw_aload_n (i := 0) 0 rfl (show decode _ _ = .ok (.aload_n 0, 1) by decide +kernel) ?_
    refine fw_getP (kd := 11) (k := 0) (show decode _ _ = .ok (.getfield 7, 3) by decide +kernel) gf_X11_7 hr2 (mSw_I eM18 hs3) rfl ?_
    have h_13 := dR_e h_12
    obtain ⟨y21, hy22, h_14⟩ := h_13
    refine fw_deref hy22 ?_
    refine fw_iload_n (i := 1) 1 rfl (show decode _ _ = .ok (.iload_n 1, 1) by decide +kernel) ?_
    refine fw_bipush (v := (10 : Int32)) (show decode _ _ = .ok (.bipush 10, 2) by decide +kernel) (by decide) ?_
    refine fw_iadd (show decode _ _ = .ok (.iadd, 1) by decide +kernel) ?_
    obtain ⟨⟨n23, hs24, hi25⟩, h_15⟩ := h_14
    refine fw_iald (show decode _ _ = .ok (.iaload, 1) by decide +kernel) hs24 hi25 ?_
    refine fw_nmI (fun x26 ex27 => ?_)
    have h_16 := h_15 x26 ex27
    obtain ⟨hr31, ⟨n28, hs29, hi30⟩, h_17⟩ := h_16
    refine fw_iast (show decode _ _ = .ok (.iastore, 1) by decide +kernel) hr31 hs29 hi30 ?_
    refine FW.nmM (fun M32 eM33 => ?_)
    have h_18 := h_17 M32 eM33
    refine fw_aload_n (i := 0) 0 rfl (show decode _ _ = .ok (.aload_n 0, 1) by decide +kernel) ?_
    refine fw_getP (kd := 11) (k := 0) (show decode _ _ = .ok (.getfield 7, 3) by decide +kernel) gf_X11_7 hr2 (mSw_I eM33 (mSw_I eM18 hs3)) rfl ?_
    have h_19 := dR_e h_18
    obtain ⟨y34, hy35, h_20⟩ := h_19
    refine fw_deref hy35 ?_
    refine fw_iconst (v := (2 : Int32)) (show decode _ _ = .ok (.iconst 2, 1) by decide +kernel) (by decide) ?_
    refine fw_aload_n (i := 0) 0 rfl (show decode _ _ = .ok (.aload_n 0, 1) by decide +kernel) ?_
    refine fw_getP (kd := 11) (k := 0) (show decode _ _ = .ok (.getfield 7, 3) by decide +kernel) gf_X11_7 hr2 (mSw_I eM33 (mSw_I eM18 hs3)) rfl ?_
    have h_21 := dR_e h_20
    obtain ⟨y36, hy37, h_22⟩ := h_21
    refine fw_deref hy37 ?_
    refine fw_iload_n (i := 1) 1 rfl (show decode _ _ = .ok (.iload_n 1, 1) by decide +kernel) ?_
    refine fw_bipush (v := (11 : Int32)) (show decode _ _ = .ok (.bipush 11, 2) by decide +kernel) (by decide) ?_
    refine fw_iadd (show decode _ _ = .ok (.iadd, 1) by decide +kernel) ?_
    obtain ⟨⟨n38, hs39, hi40⟩, h_23⟩ := h_22
    refine fw_iald (show decode _ _ = .ok (.iaload, 1) by decide +kernel) hs39 hi40 ?_
    refine fw_nmI (fun x41 ex42 => ?_)
    have h_24 := h_23 x41 ex42
    obtain ⟨hr46, ⟨n43, hs44, hi45⟩, h_25⟩ := h_24
    refine fw_iast (show decode _ _ = .ok (.iastore, 1) by decide +kernel) hr46 hs44 hi45 ?_
    refine FW.nmM (fun M47 eM48 => ?_)
    have h_26 := h_25 M47 eM48
    refine fw_aload_n (i := 0) 0 rfl (show decode _ _ = .ok (.aload_n 0, 1) by decide +kernel) ?_
    refine fw_aload_n (i := 0) 0 rfl (show decode _ _ = .ok (.aload_n 0, 1) by decide +kernel) ?_
    refine fw_getP (kd := 11) (k := 0) (show decode _ _ = .ok (.getfield 7, 3) by decide +kernel) gf_X11_7 hr2 (mSw_I eM48 (mSw_I eM33 (mSw_I eM18 hs3))) rfl ?_
    have h_27 := dR_e h_26
    obtain ⟨y49, hy50, h_28⟩ := h_27
    refine fw_deref hy50 ?_
    refine fw_bipush (v := (101 : Int32)) (show decode _ _ = .ok (.bipush 101, 2) by decide +kernel) (by decide) ?_
    obtain ⟨⟨n51, hs52, hi53⟩, h_29⟩ := h_28
    refine fw_iald (show decode _ _ = .ok (.iaload, 1) by decide +kernel) hs52 hi53 ?_
    refine fw_callV (mt' := mtX11_stepsOf) (mc := 0) (ms := 0) (As := [.int (mI M47 y49 (ix (101 : Int32)))]) (rest := []) 1 11 n1 (show decode _ _ = .ok (.invokevirtual 74, 3) by decide +kernel) cv_X11_74 ⟨_, rfl, rfl⟩ hr2 (mSw_I eM48 (mSw_I eM33 (mSw_I eM18 hs3))) rfl (Nat.le_of_ble_eq_true rfl) (s_X11_stepsOf (d := d) (hd_le hd (by decide)) h_29) (by decide) (by decide) (kI (bc' := 0) (bs' := 0) (by decide) (by decide) (fun x55 M54 h_30 => ?_))
    refine fw_istore_n (i := 2) (ls' := [(2, .int x55), (0, .ref p0), (1, .int p1)]) (show decode _ _ = .ok (.istore_n 2, 1) by decide +kernel) (by decide) rfl ?_
    refine fw_aload_n (i := 0) 1 rfl (show decode _ _ = .ok (.aload_n 0, 1) by decide +kernel) ?_
    obtain ⟨⟨hr57, n56, hs58⟩, h_31⟩ := h_30
    refine fw_getP (kd := 11) (k := 0) (show decode _ _ = .ok (.getfield 7, 3) by decide +kernel) gf_X11_7 hr57 hs58 rfl ?_
    have h_32 := dR_e h_31
    obtain ⟨y59, hy60, h_33⟩ := h_32
    refine fw_deref hy60 ?_
    refine fw_bipush (v := (108 : Int32)) (show decode _ _ = .ok (.bipush 108, 2) by decide +kernel) (by decide) ?_
    obtain ⟨⟨n61, hs62, hi63⟩, h_34⟩ := h_33
    refine fw_iald (show decode _ _ = .ok (.iaload, 1) by decide +kernel) hs62 hi63 ?_
    refine fw_iconst (v := (1 : Int32)) (show decode _ _ = .ok (.iconst 1, 1) by decide +kernel) (by decide) ?_
    refine fw_icmp_ne 154 (show decode _ _ = .ok (.if_icmp .ne 22, 3) by decide +kernel) (by decide) (fun hc93 => ?_) (fun hc93 => ?_)
    · have h_35 := ineg hc93 h_34
      refine fw_aload_n (i := 0) 1 rfl (show decode _ _ = .ok (.aload_n 0, 1) by decide +kernel) ?_
      refine fw_getP (kd := 11) (k := 0) (show decode _ _ = .ok (.getfield 7, 3) by decide +kernel) gf_X11_7 hr57 hs58 rfl ?_
      have h_36 := dR_e h_35
      obtain ⟨y64, hy65, h_37⟩ := h_36
      refine fw_deref hy65 ?_
      refine fw_iconst (v := (5 : Int32)) (show decode _ _ = .ok (.iconst 5, 1) by decide +kernel) (by decide) ?_
      obtain ⟨⟨n66, hs67, hi68⟩, h_38⟩ := h_37
      refine fw_iald (show decode _ _ = .ok (.iaload, 1) by decide +kernel) hs67 hi68 ?_
      exact fw_ret (v := some (.int (mI M54 y64 (ix (5 : Int32))))) .ireturn (show decode _ _ = .ok (.ireturn, 1) by decide +kernel) ⟨rfl, Or.inl rfl⟩ ⟨_, rfl, h_38⟩
    · have h_39 := ipos hc93 h_34
      refine fw_aload_n (i := 0) 1 rfl (show decode _ _ = .ok (.aload_n 0, 1) by decide +kernel) ?_
      refine fw_getP (kd := 11) (k := 0) (show decode _ _ = .ok (.getfield 7, 3) by decide +kernel) gf_X11_7 hr57 hs58 rfl ?_
      have h_40 := dR_e h_39
      obtain ⟨y69, hy70, h_41⟩ := h_40
      refine fw_deref hy70 ?_
      refine fw_bipush (v := (103 : Int32)) (show decode _ _ = .ok (.bipush 103, 2) by decide +kernel) (by decide) ?_
      obtain ⟨⟨n71, hs72, hi73⟩, h_42⟩ := h_41
      refine fw_iald (show decode _ _ = .ok (.iaload, 1) by decide +kernel) hs72 hi73 ?_
      refine fw_iload_n (i := 2) 0 rfl (show decode _ _ = .ok (.iload_n 2, 1) by decide +kernel) ?_
      refine fw_icmp_le 154 (show decode _ _ = .ok (.if_icmp .le 11, 3) by decide +kernel) (by decide) (fun hc92 => ?_) (fun hc92 => ?_)
      · have h_43 := ipos hc92 h_42
        refine fw_aload_n (i := 0) 1 rfl (show decode _ _ = .ok (.aload_n 0, 1) by decide +kernel) ?_
        refine fw_getP (kd := 11) (k := 0) (show decode _ _ = .ok (.getfield 7, 3) by decide +kernel) gf_X11_7 hr57 hs58 rfl ?_
        have h_44 := dR_e h_43
        obtain ⟨y74, hy75, h_45⟩ := h_44
        refine fw_deref hy75 ?_
        refine fw_iconst (v := (5 : Int32)) (show decode _ _ = .ok (.iconst 5, 1) by decide +kernel) (by decide) ?_
        obtain ⟨⟨n76, hs77, hi78⟩, h_46⟩ := h_45
        refine fw_iald (show decode _ _ = .ok (.iaload, 1) by decide +kernel) hs77 hi78 ?_
        exact fw_ret (v := some (.int (mI M54 y74 (ix (5 : Int32))))) .ireturn (show decode _ _ = .ok (.ireturn, 1) by decide +kernel) ⟨rfl, Or.inl rfl⟩ ⟨_, rfl, h_46⟩
      · have h_47 := ineg hc92 h_42
        refine fw_aload_n (i := 0) 1 rfl (show decode _ _ = .ok (.aload_n 0, 1) by decide +kernel) ?_
        refine fw_getP (kd := 11) (k := 0) (show decode _ _ = .ok (.getfield 7, 3) by decide +kernel) gf_X11_7 hr57 hs58 rfl ?_
        have h_48 := dR_e h_47
        obtain ⟨y79, hy80, h_49⟩ := h_48
        refine fw_deref hy80 ?_
        refine fw_bipush (v := (103 : Int32)) (show decode _ _ = .ok (.bipush 103, 2) by decide +kernel) (by decide) ?_
        refine fw_iload_n (i := 2) 0 rfl (show decode _ _ = .ok (.iload_n 2, 1) by decide +kernel) ?_
        obtain ⟨hr84, ⟨n81, hs82, hi83⟩, h_50⟩ := h_49
        refine fw_iast (show decode _ _ = .ok (.iastore, 1) by decide +kernel) hr84 hs82 hi83 ?_
        refine FW.nmM (fun M85 eM86 => ?_)
        have h_51 := h_50 M85 eM86
        refine fw_aload_n (i := 0) 1 rfl (show decode _ _ = .ok (.aload_n 0, 1) by decide +kernel) ?_
        refine fw_getP (kd := 11) (k := 0) (show decode _ _ = .ok (.getfield 7, 3) by decide +kernel) gf_X11_7 hr57 (mSw_I eM86 hs58) rfl ?_
        have h_52 := dR_e h_51
        obtain ⟨y87, hy88, h_53⟩ := h_52
        refine fw_deref hy88 ?_
        refine fw_iconst (v := (5 : Int32)) (show decode _ _ = .ok (.iconst 5, 1) by decide +kernel) (by decide) ?_
        obtain ⟨⟨n89, hs90, hi91⟩, h_54⟩ := h_53
        refine fw_iald (show decode _ _ = .ok (.iaload, 1) by decide +kernel) hs90 hi91 ?_
        exact fw_ret (v := some (.int (mI M85 y87 (ix (5 : Int32))))) .ireturn (show decode _ _ = .ok (.ireturn, 1) by decide +kernel) ⟨rfl, Or.inl rfl⟩ ⟨_, rfl, h_54⟩
  · have h_55 := ineg hc114 h
    refine fw_aload_n (i := 0) 0 rfl (show decode _ _ = .ok (.aload_n 0, 1) by decide +kernel) ?_
    obtain ⟨⟨hr95, n94, hs96⟩, h_56⟩ := h_55
    refine fw_getP (kd := 11) (k := 0) (show decode _ _ = .ok (.getfield 7, 3) by decide +kernel) gf_X11_7 hr95 hs96 rfl ?_
    have h_57 := dR_e h_56
    obtain ⟨y97, hy98, h_58⟩ := h_57
    refine fw_deref hy98 ?_
    refine fw_bipush (v := (100 : Int32)) (show decode _ _ = .ok (.bipush 100, 2) by decide +kernel) (by decide) ?_
    refine fw_iload_n (i := 2) 2 rfl (show decode _ _ = .ok (.iload_n 2, 1) by decide +kernel) ?_
    refine fw_iadd (show decode _ _ = .ok (.iadd, 1) by decide +kernel) ?_
    refine fw_aload_n (i := 0) 0 rfl (show decode _ _ = .ok (.aload_n 0, 1) by decide +kernel) ?_
    refine fw_getP (kd := 11) (k := 0) (show decode _ _ = .ok (.getfield 7, 3) by decide +kernel) gf_X11_7 hr95 hs96 rfl ?_
    have h_59 := dR_e h_58
    obtain ⟨y99, hy100, h_60⟩ := h_59
    refine fw_deref hy100 ?_
    refine fw_iload_n (i := 1) 1 rfl (show decode _ _ = .ok (.iload_n 1, 1) by decide +kernel) ?_
    refine fw_iload_n (i := 2) 2 rfl (show decode _ _ = .ok (.iload_n 2, 1) by decide +kernel) ?_
    refine fw_iadd (show decode _ _ = .ok (.iadd, 1) by decide +kernel) ?_
    obtain ⟨⟨n101, hs102, hi103⟩, h_61⟩ := h_60
    refine fw_iald (show decode _ _ = .ok (.iaload, 1) by decide +kernel) hs102 hi103 ?_
    refine fw_nmI (fun x104 ex105 => ?_)
    have h_62 := h_61 x104 ex105
    obtain ⟨hr109, ⟨n106, hs107, hi108⟩, h_63⟩ := h_62
    refine fw_iast (show decode _ _ = .ok (.iastore, 1) by decide +kernel) hr109 hs107 hi108 ?_
    refine FW.nmM (fun M110 eM111 => ?_)
    have h_64 := h_63 M110 eM111
    obtain ⟨x112, ex113⟩ : ∃ y : Int32, y = p2 + (1 : Int32) := ⟨_, rfl⟩
    have h_65 := h_64 x112 ex113
    refine fw_iinc (i := 2) (x := p2) (v := x112) (ls' := [(2, .int x112), (0, .ref p0), (1, .int p1)]) 2 rfl (show decode _ _ = .ok (.iinc 2 1, 3) by decide +kernel) (by rw [ex113]; rfl) (by decide) rfl ?_
    refine fw_goto 37 (show decode _ _ = .ok (.goto (-26), 3) by decide +kernel) (by decide) ?_
    refine FW.sub [1, 2, 0] (ls' := [(0, .ref p0), (1, .int p1), (2, .int x112)]) rfl ?_
    exact hK37 _ _ _ _ h_65
theorem sl_X11_undo_37 {g : GT} {d : Nat} (hd : 2 ≤ d + 1) {φ : Int32 → fM → Prop} : ∀ (n : Nat) {p0 : Nat} {p1 : Int32} {p2 : Int32} {M : fM}, l_X11_undo_37 φ n p0 p1 p2 M → FW g mtX11_undo (d + 1) 37 [(0, .ref p0), (1, .int p1), (2, .int p2)] [] M 0 0 (rI φ)
  | 0 => fun h => h.elim
  | n + 1 => fun h => sb_X11_undo_37 hd (fun _ _ _ _ h => sl_X11_undo_37 hd n h) h
def w_X11_undo (p0 : Nat) (M : fM) (φ : Int32 → fM → Prop) : Prop := isO M p0 11 ∧ dR (mP M p0 0) fun y118 => inA M y118 12 (5 : Int32) ∧ iF ((mI M y118 (ix (5 : Int32))) = 0) (φ (-1 : Int32) M) (dR (mP M p0 0) fun y123 => inA M y123 12 (5 : Int32) ∧ nm ((mI M y123 (ix (5 : Int32))) - (1 : Int32)) fun x128 => 6 ≤ y123 ∧ inA M y123 12 (5 : Int32) ∧ st (wI M y123 (ix (5 : Int32)) x128) fun M134 => dR (mP M134 p0 0) fun y136 => inA M134 y136 12 (5 : Int32) ∧ nm ((157 : Int32) + ((12 : Int32) * (mI M134 y136 (ix (5 : Int32))))) fun x141 => ∃ n, l_X11_undo_37 φ n p0 x141 (0 : Int32) M134)
set_option maxRecDepth 100000 in
theorem s_X11_undo {g : GT} {d : Nat} (hd : 2 ≤ d) {p0 : Nat} {M : fM} {φ : Int32 → fM → Prop} (h : w_X11_undo p0 M φ) : FC g mtX11_undo d [.ref p0] M 0 0 (rI φ) := by
  obtain ⟨d, rfl⟩ : ∃ e, d = e + 1 := ⟨d - 1, by omega⟩
  unfold w_X11_undo at h
  refine FC.intro (nL := 3) (by decide) rfl (Nat.le_of_ble_eq_true rfl) ?_
  show FW g mtX11_undo (d + 1) 0 [(0, .ref p0)] [] M 0 0 (rI φ)
  refine fw_aload_n (i := 0) 0 rfl (show decode _ _ = .ok (.aload_n 0, 1) by decide +kernel) ?_
  obtain ⟨⟨hr116, n115, hs117⟩, h_1⟩ := h
  refine fw_getP (kd := 11) (k := 0) (show decode _ _ = .ok (.getfield 7, 3) by decide +kernel) gf_X11_7 hr116 hs117 rfl ?_
  have h_2 := dR_e h_1
  obtain ⟨y118, hy119, h_3⟩ := h_2
  refine fw_deref hy119 ?_
  refine fw_iconst (v := (5 : Int32)) (show decode _ _ = .ok (.iconst 5, 1) by decide +kernel) (by decide) ?_
  obtain ⟨⟨n120, hs121, hi122⟩, h_4⟩ := h_3
  refine fw_iald (show decode _ _ = .ok (.iaload, 1) by decide +kernel) hs121 hi122 ?_
  refine fw_if_ne 11 (show decode _ _ = .ok (.ifCond .ne 5, 3) by decide +kernel) (by decide) (fun hc143 => ?_) (fun hc143 => ?_)
  · have h_5 := ineg hc143 h_4
    refine fw_aload_n (i := 0) 0 rfl (show decode _ _ = .ok (.aload_n 0, 1) by decide +kernel) ?_
    refine fw_getP (kd := 11) (k := 0) (show decode _ _ = .ok (.getfield 7, 3) by decide +kernel) gf_X11_7 hr116 hs117 rfl ?_
    have h_6 := dR_e h_5
    obtain ⟨y123, hy124, h_7⟩ := h_6
    refine fw_deref hy124 ?_
    refine fw_iconst (v := (5 : Int32)) (show decode _ _ = .ok (.iconst 5, 1) by decide +kernel) (by decide) ?_
    refine fw_dup2_11 (show decode _ _ = .ok (.dup2, 1) by decide +kernel) rfl rfl ?_
    obtain ⟨⟨n125, hs126, hi127⟩, h_8⟩ := h_7
    refine fw_iald (show decode _ _ = .ok (.iaload, 1) by decide +kernel) hs126 hi127 ?_
    refine fw_iconst (v := (1 : Int32)) (show decode _ _ = .ok (.iconst 1, 1) by decide +kernel) (by decide) ?_
    refine fw_isub (show decode _ _ = .ok (.isub, 1) by decide +kernel) ?_
    refine fw_nmI (fun x128 ex129 => ?_)
    have h_9 := h_8 x128 ex129
    obtain ⟨hr133, ⟨n130, hs131, hi132⟩, h_10⟩ := h_9
    refine fw_iast (show decode _ _ = .ok (.iastore, 1) by decide +kernel) hr133 hs131 hi132 ?_
    refine FW.nmM (fun M134 eM135 => ?_)
    have h_11 := h_10 M134 eM135
    refine fw_sipush (v := (157 : Int32)) (show decode _ _ = .ok (.sipush 157, 3) by decide +kernel) (by decide) ?_
    refine fw_bipush (v := (12 : Int32)) (show decode _ _ = .ok (.bipush 12, 2) by decide +kernel) (by decide) ?_
    refine fw_aload_n (i := 0) 0 rfl (show decode _ _ = .ok (.aload_n 0, 1) by decide +kernel) ?_
    refine fw_getP (kd := 11) (k := 0) (show decode _ _ = .ok (.getfield 7, 3) by decide +kernel) gf_X11_7 hr116 (mSw_I eM135 hs117) rfl ?_
    have h_12 := dR_e h_11
    obtain ⟨y136, hy137, h_13⟩ := h_12
    refine fw_deref hy137 ?_
    refine fw_iconst (v := (5 : Int32)) (show decode _ _ = .ok (.iconst 5, 1) by decide +kernel) (by decide) ?_
    obtain ⟨⟨n138, hs139, hi140⟩, h_14⟩ := h_13
    refine fw_iald (show decode _ _ = .ok (.iaload, 1) by decide +kernel) hs139 hi140 ?_
    refine fw_imul (show decode _ _ = .ok (.imul, 1) by decide +kernel) ?_
    refine fw_iadd (show decode _ _ = .ok (.iadd, 1) by decide +kernel) ?_
    refine fw_nmI (fun x141 ex142 => ?_)
    have h_15 := h_14 x141 ex142
    refine fw_istore_n (i := 1) (ls' := [(1, .int x141), (0, .ref p0)]) (show decode _ _ = .ok (.istore_n 1, 1) by decide +kernel) (by decide) rfl ?_
    refine fw_iconst (v := (0 : Int32)) (show decode _ _ = .ok (.iconst 0, 1) by decide +kernel) (by decide) ?_
    refine fw_istore_n (i := 2) (ls' := [(2, .int (0 : Int32)), (1, .int x141), (0, .ref p0)]) (show decode _ _ = .ok (.istore_n 2, 1) by decide +kernel) (by decide) rfl ?_
    refine FW.sub [2, 1, 0] (ls' := [(0, .ref p0), (1, .int x141), (2, .int (0 : Int32))]) rfl ?_
    obtain ⟨nn, h_16⟩ := h_15
    exact sl_X11_undo_37 hd nn h_16
  · have h_17 := ipos hc143 h_4
    refine fw_iconst (v := (-1 : Int32)) (show decode _ _ = .ok (.iconst (-1), 1) by decide +kernel) (by decide) ?_
    exact fw_ret (v := some (.int (-1 : Int32))) .ireturn (show decode _ _ = .ok (.ireturn, 1) by decide +kernel) ⟨rfl, Or.inl rfl⟩ ⟨_, rfl, h_17⟩
def w_X11_way (p0 : Nat) (p1 : Int32) (M : fM) (φ : Int32 → fM → Prop) : Prop := isO M p0 11 ∧ dR (mP M p0 0) fun y4 => inA M y4 12 (108 : Int32) ∧ iF ((mI M y4 (ix (108 : Int32))) = (1 : Int32)) (w_X11_isIn p1 (0 : Int32) (7 : Int32) M fun x10 M9 => iF (x10 = 0) (φ (-1 : Int32) M9) (isO M9 p0 11 ∧ dR (mP M9 p0 0) fun y14 => inA M9 y14 12 ((100 : Int32) + p1) ∧ φ (mI M9 y14 (ix ((100 : Int32) + p1))) M9)) (φ (-1 : Int32) M)
set_option maxRecDepth 100000 in
theorem s_X11_way {g : GT} {d : Nat} (hd : 2 ≤ d) {p0 : Nat} {p1 : Int32} {M : fM} {φ : Int32 → fM → Prop} (h : w_X11_way p0 p1 M φ) : FC g mtX11_way d [.ref p0, .int p1] M 0 0 (rI φ) := by
  obtain ⟨d, rfl⟩ : ∃ e, d = e + 1 := ⟨d - 1, by omega⟩
  unfold w_X11_way at h
  refine FC.intro (nL := 2) (by decide) rfl (Nat.le_of_ble_eq_true rfl) ?_
  show FW g mtX11_way (d + 1) 0 [(0, .ref p0), (1, .int p1)] [] M 0 0 (rI φ)
  refine fw_aload_n (i := 0) 0 rfl (show decode _ _ = .ok (.aload_n 0, 1) by decide +kernel) ?_
  obtain ⟨⟨hr2, n1, hs3⟩, h_1⟩ := h
  refine fw_getP (kd := 11) (k := 0) (show decode _ _ = .ok (.getfield 7, 3) by decide +kernel) gf_X11_7 hr2 hs3 rfl ?_
  have h_2 := dR_e h_1
  obtain ⟨y4, hy5, h_3⟩ := h_2
  refine fw_deref hy5 ?_
  refine fw_bipush (v := (108 : Int32)) (show decode _ _ = .ok (.bipush 108, 2) by decide +kernel) (by decide) ?_
  obtain ⟨⟨n6, hs7, hi8⟩, h_4⟩ := h_3
  refine fw_iald (show decode _ _ = .ok (.iaload, 1) by decide +kernel) hs7 hi8 ?_
  refine fw_iconst (v := (1 : Int32)) (show decode _ _ = .ok (.iconst 1, 1) by decide +kernel) (by decide) ?_
  refine fw_icmp_ne 33 (show decode _ _ = .ok (.if_icmp .ne 25, 3) by decide +kernel) (by decide) (fun hc20 => ?_) (fun hc20 => ?_)
  · have h_5 := ineg hc20 h_4
    refine fw_iconst (v := (-1 : Int32)) (show decode _ _ = .ok (.iconst (-1), 1) by decide +kernel) (by decide) ?_
    exact fw_ret (v := some (.int (-1 : Int32))) .ireturn (show decode _ _ = .ok (.ireturn, 1) by decide +kernel) ⟨rfl, Or.inl rfl⟩ ⟨_, rfl, h_5⟩
  · have h_6 := ipos hc20 h_4
    refine fw_iload_n (i := 1) 1 rfl (show decode _ _ = .ok (.iload_n 1, 1) by decide +kernel) ?_
    refine fw_iconst (v := (0 : Int32)) (show decode _ _ = .ok (.iconst 0, 1) by decide +kernel) (by decide) ?_
    refine fw_bipush (v := (7 : Int32)) (show decode _ _ = .ok (.bipush 7, 2) by decide +kernel) (by decide) ?_
    refine fw_callS (mt' := mtX11_isIn) (mc := 0) (ms := 0) (As := [.int p1, .int (0 : Int32), .int (7 : Int32)]) (rest := []) 3 (show decode _ _ = .ok (.invokestatic 66, 3) by decide +kernel) cs_X11_66 rfl (Nat.le_of_ble_eq_true rfl) (s_X11_isIn (d := d) (hd_le hd (by decide)) h_6) (by decide) (by decide) (kI (bc' := 0) (bs' := 0) (by decide) (by decide) (fun x10 M9 h_7 => ?_))
    refine fw_if_eq 33 (show decode _ _ = .ok (.ifCond .eq 15, 3) by decide +kernel) (by decide) (fun hc19 => ?_) (fun hc19 => ?_)
    · have h_8 := ipos hc19 h_7
      refine fw_iconst (v := (-1 : Int32)) (show decode _ _ = .ok (.iconst (-1), 1) by decide +kernel) (by decide) ?_
      exact fw_ret (v := some (.int (-1 : Int32))) .ireturn (show decode _ _ = .ok (.ireturn, 1) by decide +kernel) ⟨rfl, Or.inl rfl⟩ ⟨_, rfl, h_8⟩
    · have h_9 := ineg hc19 h_7
      refine fw_aload_n (i := 0) 0 rfl (show decode _ _ = .ok (.aload_n 0, 1) by decide +kernel) ?_
      obtain ⟨⟨hr12, n11, hs13⟩, h_10⟩ := h_9
      refine fw_getP (kd := 11) (k := 0) (show decode _ _ = .ok (.getfield 7, 3) by decide +kernel) gf_X11_7 hr12 hs13 rfl ?_
      have h_11 := dR_e h_10
      obtain ⟨y14, hy15, h_12⟩ := h_11
      refine fw_deref hy15 ?_
      refine fw_bipush (v := (100 : Int32)) (show decode _ _ = .ok (.bipush 100, 2) by decide +kernel) (by decide) ?_
      refine fw_iload_n (i := 1) 1 rfl (show decode _ _ = .ok (.iload_n 1, 1) by decide +kernel) ?_
      refine fw_iadd (show decode _ _ = .ok (.iadd, 1) by decide +kernel) ?_
      obtain ⟨⟨n16, hs17, hi18⟩, h_13⟩ := h_12
      refine fw_iald (show decode _ _ = .ok (.iaload, 1) by decide +kernel) hs17 hi18 ?_
      refine fw_goto 34 (show decode _ _ = .ok (.goto 4, 3) by decide +kernel) (by decide) ?_
      exact fw_ret (v := some (.int (mI M9 y14 (ix ((100 : Int32) + p1))))) .ireturn (show decode _ _ = .ok (.ireturn, 1) by decide +kernel) ⟨rfl, Or.inl rfl⟩ ⟨_, rfl, h_13⟩
def b_X11_week_102 (K53 : Nat → Int32 → Int32 → Int32 → fM → Prop) (K102 : Nat → Int32 → Int32 → Int32 → fM → Prop) (φ : Int32 → fM → Prop) (p0 : Nat) (p2 : Int32) (p3 : Int32) (p4 : Int32) (M : fM) : Prop := isO M p0 11 ∧ dR (mP M p0 0) fun y4 => inA M y4 12 (108 : Int32) ∧ iF ((mI M y4 (ix (108 : Int32))) = (1 : Int32)) (dR (mP M p0 0) fun y39 => inA M y39 12 (104 : Int32) ∧ iF (p2 ≤ (mI M y39 (ix (104 : Int32)))) (w_X11_toeNow p0 M fun M44 => K102 p0 p2 p3 p4 M44) (w_X11_stepNow p0 M fun M45 => K102 p0 p2 p3 p4 M45)) (dR (mP M p0 0) fun y9 => inA M y9 12 (106 : Int32) ∧ nm (p3 + (mI M y9 (ix (106 : Int32)))) fun x14 => dR (mP M p0 0) fun y16 => inA M y16 12 (1 : Int32) ∧ iF ((999 : Int32) ≤ (mI M y16 (ix (1 : Int32)))) (nm (p4 + (1 : Int32)) fun x21 => K53 p0 p2 x14 x21 M) (dR (mP M p0 0) fun y23 => inA M y23 12 (1 : Int32) ∧ nm ((mI M y23 (ix (1 : Int32))) + (1 : Int32)) fun x28 => 6 ≤ y23 ∧ inA M y23 12 (1 : Int32) ∧ st (wI M y23 (ix (1 : Int32)) x28) fun M34 => nm (p4 + (1 : Int32)) fun x36 => K53 p0 p2 x14 x36 M34))
def l_X11_week_102 (K53 : Nat → Int32 → Int32 → Int32 → fM → Prop) (φ : Int32 → fM → Prop) : Nat → Nat → Int32 → Int32 → Int32 → fM → Prop
  | 0, _, _, _, _, _ => False
  | n + 1, p0, p2, p3, p4, M => b_X11_week_102 K53 (l_X11_week_102 K53 φ n) φ p0 p2 p3 p4 M
set_option maxRecDepth 100000 in
theorem sb_X11_week_102 {g : GT} {d : Nat} (hd : 9 ≤ d + 1) {K53 : Nat → Int32 → Int32 → Int32 → fM → Prop} {K102 : Nat → Int32 → Int32 → Int32 → fM → Prop} {φ : Int32 → fM → Prop} (hK53 : ∀ (p0 : Nat) (p2 : Int32) (p3 : Int32) (p4 : Int32) (M : fM), K53 p0 p2 p3 p4 M → FW g mtX11_week (d + 1) 53 [(0, .ref p0), (2, .int p2), (3, .int p3), (4, .int p4)] [] M 0 0 (rI φ)) (hK102 : ∀ (p0 : Nat) (p2 : Int32) (p3 : Int32) (p4 : Int32) (M : fM), K102 p0 p2 p3 p4 M → FW g mtX11_week (d + 1) 102 [(0, .ref p0), (2, .int p2), (3, .int p3), (4, .int p4)] [] M 0 0 (rI φ)) {p0 : Nat} {p2 : Int32} {p3 : Int32} {p4 : Int32} {M : fM} (h : b_X11_week_102 K53 K102 φ p0 p2 p3 p4 M) : FW g mtX11_week (d + 1) 102 [(0, .ref p0), (2, .int p2), (3, .int p3), (4, .int p4)] [] M 0 0 (rI φ) := by
  unfold b_X11_week_102 at h
  refine fw_aload_n (i := 0) 0 rfl (show decode _ _ = .ok (.aload_n 0, 1) by decide +kernel) ?_
  obtain ⟨⟨hr2, n1, hs3⟩, h_1⟩ := h
  refine fw_getP (kd := 11) (k := 0) (show decode _ _ = .ok (.getfield 7, 3) by decide +kernel) gf_X11_7 hr2 hs3 rfl ?_
  have h_2 := dR_e h_1
  obtain ⟨y4, hy5, h_3⟩ := h_2
  refine fw_deref hy5 ?_
  refine fw_bipush (v := (108 : Int32)) (show decode _ _ = .ok (.bipush 108, 2) by decide +kernel) (by decide) ?_
  obtain ⟨⟨n6, hs7, hi8⟩, h_4⟩ := h_3
  refine fw_iald (show decode _ _ = .ok (.iaload, 1) by decide +kernel) hs7 hi8 ?_
  refine fw_iconst (v := (1 : Int32)) (show decode _ _ = .ok (.iconst 1, 1) by decide +kernel) (by decide) ?_
  refine fw_icmp_ne 138 (show decode _ _ = .ok (.if_icmp .ne 28, 3) by decide +kernel) (by decide) (fun hc47 => ?_) (fun hc47 => ?_)
  · have h_5 := ineg hc47 h_4
    refine fw_iload_n (i := 3) 2 rfl (show decode _ _ = .ok (.iload_n 3, 1) by decide +kernel) ?_
    refine fw_aload_n (i := 0) 0 rfl (show decode _ _ = .ok (.aload_n 0, 1) by decide +kernel) ?_
    refine fw_getP (kd := 11) (k := 0) (show decode _ _ = .ok (.getfield 7, 3) by decide +kernel) gf_X11_7 hr2 hs3 rfl ?_
    have h_6 := dR_e h_5
    obtain ⟨y9, hy10, h_7⟩ := h_6
    refine fw_deref hy10 ?_
    refine fw_bipush (v := (106 : Int32)) (show decode _ _ = .ok (.bipush 106, 2) by decide +kernel) (by decide) ?_
    obtain ⟨⟨n11, hs12, hi13⟩, h_8⟩ := h_7
    refine fw_iald (show decode _ _ = .ok (.iaload, 1) by decide +kernel) hs12 hi13 ?_
    refine fw_iadd (show decode _ _ = .ok (.iadd, 1) by decide +kernel) ?_
    refine fw_nmI (fun x14 ex15 => ?_)
    have h_9 := h_8 x14 ex15
    refine fw_istore_n (i := 3) (ls' := [(3, .int x14), (0, .ref p0), (2, .int p2), (4, .int p4)]) (show decode _ _ = .ok (.istore_n 3, 1) by decide +kernel) (by decide) rfl ?_
    refine fw_aload_n (i := 0) 1 rfl (show decode _ _ = .ok (.aload_n 0, 1) by decide +kernel) ?_
    refine fw_getP (kd := 11) (k := 0) (show decode _ _ = .ok (.getfield 7, 3) by decide +kernel) gf_X11_7 hr2 hs3 rfl ?_
    have h_10 := dR_e h_9
    obtain ⟨y16, hy17, h_11⟩ := h_10
    refine fw_deref hy17 ?_
    refine fw_iconst (v := (1 : Int32)) (show decode _ _ = .ok (.iconst 1, 1) by decide +kernel) (by decide) ?_
    obtain ⟨⟨n18, hs19, hi20⟩, h_12⟩ := h_11
    refine fw_iald (show decode _ _ = .ok (.iaload, 1) by decide +kernel) hs19 hi20 ?_
    refine fw_sipush (v := (999 : Int32)) (show decode _ _ = .ok (.sipush 999, 3) by decide +kernel) (by decide) ?_
    refine fw_icmp_ge 170 (show decode _ _ = .ok (.if_icmp .ge 13, 3) by decide +kernel) (by decide) (fun hc38 => ?_) (fun hc38 => ?_)
    · have h_13 := ipos hc38 h_12
      obtain ⟨x21, ex22⟩ : ∃ y : Int32, y = p4 + (1 : Int32) := ⟨_, rfl⟩
      have h_14 := h_13 x21 ex22
      refine fw_iinc (i := 4) (x := p4) (v := x21) (ls' := [(4, .int x21), (3, .int x14), (0, .ref p0), (2, .int p2)]) 3 rfl (show decode _ _ = .ok (.iinc 4 1, 3) by decide +kernel) (by rw [ex22]; rfl) (by decide) rfl ?_
      refine fw_goto 53 (show decode _ _ = .ok (.goto (-120), 3) by decide +kernel) (by decide) ?_
      refine FW.sub [2, 3, 1, 0] (ls' := [(0, .ref p0), (2, .int p2), (3, .int x14), (4, .int x21)]) rfl ?_
      exact hK53 _ _ _ _ _ h_14
    · have h_15 := ineg hc38 h_12
      refine fw_aload_n (i := 0) 1 rfl (show decode _ _ = .ok (.aload_n 0, 1) by decide +kernel) ?_
      refine fw_getP (kd := 11) (k := 0) (show decode _ _ = .ok (.getfield 7, 3) by decide +kernel) gf_X11_7 hr2 hs3 rfl ?_
      have h_16 := dR_e h_15
      obtain ⟨y23, hy24, h_17⟩ := h_16
      refine fw_deref hy24 ?_
      refine fw_iconst (v := (1 : Int32)) (show decode _ _ = .ok (.iconst 1, 1) by decide +kernel) (by decide) ?_
      refine fw_dup2_11 (show decode _ _ = .ok (.dup2, 1) by decide +kernel) rfl rfl ?_
      obtain ⟨⟨n25, hs26, hi27⟩, h_18⟩ := h_17
      refine fw_iald (show decode _ _ = .ok (.iaload, 1) by decide +kernel) hs26 hi27 ?_
      refine fw_iconst (v := (1 : Int32)) (show decode _ _ = .ok (.iconst 1, 1) by decide +kernel) (by decide) ?_
      refine fw_iadd (show decode _ _ = .ok (.iadd, 1) by decide +kernel) ?_
      refine fw_nmI (fun x28 ex29 => ?_)
      have h_19 := h_18 x28 ex29
      obtain ⟨hr33, ⟨n30, hs31, hi32⟩, h_20⟩ := h_19
      refine fw_iast (show decode _ _ = .ok (.iastore, 1) by decide +kernel) hr33 hs31 hi32 ?_
      refine FW.nmM (fun M34 eM35 => ?_)
      have h_21 := h_20 M34 eM35
      obtain ⟨x36, ex37⟩ : ∃ y : Int32, y = p4 + (1 : Int32) := ⟨_, rfl⟩
      have h_22 := h_21 x36 ex37
      refine fw_iinc (i := 4) (x := p4) (v := x36) (ls' := [(4, .int x36), (3, .int x14), (0, .ref p0), (2, .int p2)]) 3 rfl (show decode _ _ = .ok (.iinc 4 1, 3) by decide +kernel) (by rw [ex37]; rfl) (by decide) rfl ?_
      refine fw_goto 53 (show decode _ _ = .ok (.goto (-120), 3) by decide +kernel) (by decide) ?_
      refine FW.sub [2, 3, 1, 0] (ls' := [(0, .ref p0), (2, .int p2), (3, .int x14), (4, .int x36)]) rfl ?_
      exact hK53 _ _ _ _ _ h_22
  · have h_23 := ipos hc47 h_4
    refine fw_aload_n (i := 0) 0 rfl (show decode _ _ = .ok (.aload_n 0, 1) by decide +kernel) ?_
    refine fw_getP (kd := 11) (k := 0) (show decode _ _ = .ok (.getfield 7, 3) by decide +kernel) gf_X11_7 hr2 hs3 rfl ?_
    have h_24 := dR_e h_23
    obtain ⟨y39, hy40, h_25⟩ := h_24
    refine fw_deref hy40 ?_
    refine fw_bipush (v := (104 : Int32)) (show decode _ _ = .ok (.bipush 104, 2) by decide +kernel) (by decide) ?_
    obtain ⟨⟨n41, hs42, hi43⟩, h_26⟩ := h_25
    refine fw_iald (show decode _ _ = .ok (.iaload, 1) by decide +kernel) hs42 hi43 ?_
    refine fw_iload_n (i := 2) 1 rfl (show decode _ _ = .ok (.iload_n 2, 1) by decide +kernel) ?_
    refine fw_icmp_ge 131 (show decode _ _ = .ok (.if_icmp .ge 10, 3) by decide +kernel) (by decide) (fun hc46 => ?_) (fun hc46 => ?_)
    · have h_27 := ipos hc46 h_26
      refine fw_aload_n (i := 0) 0 rfl (show decode _ _ = .ok (.aload_n 0, 1) by decide +kernel) ?_
      refine fw_callV (mt' := mtX11_toeNow) (mc := 0) (ms := 0) (As := []) (rest := []) 0 11 n1 (show decode _ _ = .ok (.invokevirtual 362, 3) by decide +kernel) cv_X11_362 ⟨_, rfl, rfl⟩ hr2 hs3 rfl (Nat.le_of_ble_eq_true rfl) (s_X11_toeNow (d := d) (hd_le hd (by decide)) h_27) (by decide) (by decide) (kV (bc' := 0) (bs' := 0) (by decide) (by decide) (fun M44 h_28 => ?_))
      refine fw_goto 102 (show decode _ _ = .ok (.goto (-33), 3) by decide +kernel) (by decide) ?_
      refine FW.sub [0, 1, 2, 3] (ls' := [(0, .ref p0), (2, .int p2), (3, .int p3), (4, .int p4)]) rfl ?_
      exact hK102 _ _ _ _ _ h_28
    · have h_29 := ineg hc46 h_26
      refine fw_aload_n (i := 0) 0 rfl (show decode _ _ = .ok (.aload_n 0, 1) by decide +kernel) ?_
      refine fw_callV (mt' := mtX11_stepNow) (mc := 0) (ms := 0) (As := []) (rest := []) 0 11 n1 (show decode _ _ = .ok (.invokevirtual 359, 3) by decide +kernel) cv_X11_359 ⟨_, rfl, rfl⟩ hr2 hs3 rfl (Nat.le_of_ble_eq_true rfl) (s_X11_stepNow (d := d) (hd_le hd (by decide)) h_29) (by decide) (by decide) (kV (bc' := 0) (bs' := 0) (by decide) (by decide) (fun M45 h_30 => ?_))
      refine fw_goto 102 (show decode _ _ = .ok (.goto (-26), 3) by decide +kernel) (by decide) ?_
      refine FW.sub [0, 1, 2, 3] (ls' := [(0, .ref p0), (2, .int p2), (3, .int p3), (4, .int p4)]) rfl ?_
      exact hK102 _ _ _ _ _ h_30
theorem sl_X11_week_102 {g : GT} {d : Nat} (hd : 9 ≤ d + 1) {K53 : Nat → Int32 → Int32 → Int32 → fM → Prop} {φ : Int32 → fM → Prop} (hK53 : ∀ (p0 : Nat) (p2 : Int32) (p3 : Int32) (p4 : Int32) (M : fM), K53 p0 p2 p3 p4 M → FW g mtX11_week (d + 1) 53 [(0, .ref p0), (2, .int p2), (3, .int p3), (4, .int p4)] [] M 0 0 (rI φ)) : ∀ (n : Nat) {p0 : Nat} {p2 : Int32} {p3 : Int32} {p4 : Int32} {M : fM}, l_X11_week_102 K53 φ n p0 p2 p3 p4 M → FW g mtX11_week (d + 1) 102 [(0, .ref p0), (2, .int p2), (3, .int p3), (4, .int p4)] [] M 0 0 (rI φ)
  | 0 => fun h => h.elim
  | n + 1 => fun h => sb_X11_week_102 hd hK53 (fun _ _ _ _ _ h => sl_X11_week_102 hd hK53 n h) h
def b_X11_week_53 (K53 : Nat → Int32 → Int32 → Int32 → fM → Prop) (φ : Int32 → fM → Prop) (p0 : Nat) (p2 : Int32) (p3 : Int32) (p4 : Int32) (M : fM) : Prop := iF ((7 : Int32) ≤ p4) (φ p3 M) (isO M p0 11 ∧ dR (mP M p0 0) fun y51 => inA M y51 12 (2 : Int32) ∧ dR (mP M p0 0) fun y56 => inA M y56 12 (0 : Int32) ∧ ¬ (mI M y56 (ix (0 : Int32))) = 0 ∧ nm ((mI M y51 (ix (2 : Int32))) % (mI M y56 (ix (0 : Int32)))) fun x62 => w_X11_anew p0 M fun M64 => isO M64 p0 11 ∧ dR (mP M64 p0 0) fun y68 => inA M64 y68 12 (2 : Int32) ∧ nm ((mI M64 y68 (ix (2 : Int32))) % (4 : Int32)) fun x73 => w_X11_anew p0 M64 fun M75 => isO M75 p0 11 ∧ w_X11_beginNow p0 x62 x73 (0 : Int32) M75 fun M76 => ∃ n, l_X11_week_102 K53 φ n p0 p2 p3 p4 M76)
def l_X11_week_53 (φ : Int32 → fM → Prop) : Nat → Nat → Int32 → Int32 → Int32 → fM → Prop
  | 0, _, _, _, _, _ => False
  | n + 1, p0, p2, p3, p4, M => b_X11_week_53 (l_X11_week_53 φ n) φ p0 p2 p3 p4 M
set_option maxRecDepth 100000 in
theorem sb_X11_week_53 {g : GT} {d : Nat} (hd : 9 ≤ d + 1) {K53 : Nat → Int32 → Int32 → Int32 → fM → Prop} {φ : Int32 → fM → Prop} (hK53 : ∀ (p0 : Nat) (p2 : Int32) (p3 : Int32) (p4 : Int32) (M : fM), K53 p0 p2 p3 p4 M → FW g mtX11_week (d + 1) 53 [(0, .ref p0), (2, .int p2), (3, .int p3), (4, .int p4)] [] M 0 0 (rI φ)) {p0 : Nat} {p2 : Int32} {p3 : Int32} {p4 : Int32} {M : fM} (h : b_X11_week_53 K53 φ p0 p2 p3 p4 M) : FW g mtX11_week (d + 1) 53 [(0, .ref p0), (2, .int p2), (3, .int p3), (4, .int p4)] [] M 0 0 (rI φ) := by
  unfold b_X11_week_53 at h
  refine fw_iload (i := 4) 3 rfl (show decode _ _ = .ok (.iload 4, 2) by decide +kernel) ?_
  refine fw_bipush (v := (7 : Int32)) (show decode _ _ = .ok (.bipush 7, 2) by decide +kernel) (by decide) ?_
  refine fw_icmp_ge 176 (show decode _ _ = .ok (.if_icmp .ge 119, 3) by decide +kernel) (by decide) (fun hc80 => ?_) (fun hc80 => ?_)
  · have h_1 := ipos hc80 h
    refine fw_iload_n (i := 3) 2 rfl (show decode _ _ = .ok (.iload_n 3, 1) by decide +kernel) ?_
    exact fw_ret (v := some (.int p3)) .ireturn (show decode _ _ = .ok (.ireturn, 1) by decide +kernel) ⟨rfl, Or.inl rfl⟩ ⟨_, rfl, h_1⟩
  · have h_2 := ineg hc80 h
    refine fw_aload_n (i := 0) 0 rfl (show decode _ _ = .ok (.aload_n 0, 1) by decide +kernel) ?_
    obtain ⟨⟨hr49, n48, hs50⟩, h_3⟩ := h_2
    refine fw_getP (kd := 11) (k := 0) (show decode _ _ = .ok (.getfield 7, 3) by decide +kernel) gf_X11_7 hr49 hs50 rfl ?_
    have h_4 := dR_e h_3
    obtain ⟨y51, hy52, h_5⟩ := h_4
    refine fw_deref hy52 ?_
    refine fw_iconst (v := (2 : Int32)) (show decode _ _ = .ok (.iconst 2, 1) by decide +kernel) (by decide) ?_
    obtain ⟨⟨n53, hs54, hi55⟩, h_6⟩ := h_5
    refine fw_iald (show decode _ _ = .ok (.iaload, 1) by decide +kernel) hs54 hi55 ?_
    refine fw_aload_n (i := 0) 0 rfl (show decode _ _ = .ok (.aload_n 0, 1) by decide +kernel) ?_
    refine fw_getP (kd := 11) (k := 0) (show decode _ _ = .ok (.getfield 7, 3) by decide +kernel) gf_X11_7 hr49 hs50 rfl ?_
    have h_7 := dR_e h_6
    obtain ⟨y56, hy57, h_8⟩ := h_7
    refine fw_deref hy57 ?_
    refine fw_iconst (v := (0 : Int32)) (show decode _ _ = .ok (.iconst 0, 1) by decide +kernel) (by decide) ?_
    obtain ⟨⟨n58, hs59, hi60⟩, h_9⟩ := h_8
    refine fw_iald (show decode _ _ = .ok (.iaload, 1) by decide +kernel) hs59 hi60 ?_
    obtain ⟨hne61, h_10⟩ := h_9
    refine fw_irem (show decode _ _ = .ok (.irem, 1) by decide +kernel) hne61 ?_
    refine fw_nmI (fun x62 ex63 => ?_)
    have h_11 := h_10 x62 ex63
    refine fw_istore (i := 5) (ls' := [(5, .int x62), (0, .ref p0), (2, .int p2), (3, .int p3), (4, .int p4)]) (show decode _ _ = .ok (.istore 5, 2) by decide +kernel) (by decide) rfl ?_
    refine fw_aload_n (i := 0) 1 rfl (show decode _ _ = .ok (.aload_n 0, 1) by decide +kernel) ?_
    refine fw_callV (mt' := mtX11_anew) (mc := 0) (ms := 0) (As := []) (rest := []) 0 11 n48 (show decode _ _ = .ok (.invokevirtual 341, 3) by decide +kernel) cv_X11_341 ⟨_, rfl, rfl⟩ hr49 hs50 rfl (Nat.le_of_ble_eq_true rfl) (s_X11_anew (d := d) (hd_le hd (by decide)) h_11) (by decide) (by decide) (kV (bc' := 0) (bs' := 0) (by decide) (by decide) (fun M64 h_12 => ?_))
    refine fw_aload_n (i := 0) 1 rfl (show decode _ _ = .ok (.aload_n 0, 1) by decide +kernel) ?_
    obtain ⟨⟨hr66, n65, hs67⟩, h_13⟩ := h_12
    refine fw_getP (kd := 11) (k := 0) (show decode _ _ = .ok (.getfield 7, 3) by decide +kernel) gf_X11_7 hr66 hs67 rfl ?_
    have h_14 := dR_e h_13
    obtain ⟨y68, hy69, h_15⟩ := h_14
    refine fw_deref hy69 ?_
    refine fw_iconst (v := (2 : Int32)) (show decode _ _ = .ok (.iconst 2, 1) by decide +kernel) (by decide) ?_
    obtain ⟨⟨n70, hs71, hi72⟩, h_16⟩ := h_15
    refine fw_iald (show decode _ _ = .ok (.iaload, 1) by decide +kernel) hs71 hi72 ?_
    refine fw_iconst (v := (4 : Int32)) (show decode _ _ = .ok (.iconst 4, 1) by decide +kernel) (by decide) ?_
    refine fw_irem (show decode _ _ = .ok (.irem, 1) by decide +kernel) (by decide) ?_
    refine fw_nmI (fun x73 ex74 => ?_)
    have h_17 := h_16 x73 ex74
    refine fw_istore (i := 6) (ls' := [(6, .int x73), (5, .int x62), (0, .ref p0), (2, .int p2), (3, .int p3), (4, .int p4)]) (show decode _ _ = .ok (.istore 6, 2) by decide +kernel) (by decide) rfl ?_
    refine fw_aload_n (i := 0) 2 rfl (show decode _ _ = .ok (.aload_n 0, 1) by decide +kernel) ?_
    refine fw_callV (mt' := mtX11_anew) (mc := 0) (ms := 0) (As := []) (rest := []) 0 11 n65 (show decode _ _ = .ok (.invokevirtual 341, 3) by decide +kernel) cv_X11_341 ⟨_, rfl, rfl⟩ hr66 hs67 rfl (Nat.le_of_ble_eq_true rfl) (s_X11_anew (d := d) (hd_le hd (by decide)) h_17) (by decide) (by decide) (kV (bc' := 0) (bs' := 0) (by decide) (by decide) (fun M75 h_18 => ?_))
    refine fw_aload_n (i := 0) 2 rfl (show decode _ _ = .ok (.aload_n 0, 1) by decide +kernel) ?_
    refine fw_iload (i := 5) 1 rfl (show decode _ _ = .ok (.iload 5, 2) by decide +kernel) ?_
    refine fw_iload (i := 6) 0 rfl (show decode _ _ = .ok (.iload 6, 2) by decide +kernel) ?_
    refine fw_iconst (v := (0 : Int32)) (show decode _ _ = .ok (.iconst 0, 1) by decide +kernel) (by decide) ?_
    obtain ⟨⟨hr78, n77, hs79⟩, h_19⟩ := h_18
    refine fw_callV (mt' := mtX11_beginNow) (mc := 0) (ms := 0) (As := [.int x62, .int x73, .int (0 : Int32)]) (rest := []) 3 11 n77 (show decode _ _ = .ok (.invokevirtual 356, 3) by decide +kernel) cv_X11_356 ⟨_, rfl, rfl⟩ hr78 hs79 rfl (Nat.le_of_ble_eq_true rfl) (s_X11_beginNow (d := d) (hd_le hd (by decide)) h_19) (by decide) (by decide) (kV (bc' := 0) (bs' := 0) (by decide) (by decide) (fun M76 h_20 => ?_))
    refine FW.sub [2, 3, 4, 5] (ls' := [(0, .ref p0), (2, .int p2), (3, .int p3), (4, .int p4)]) rfl ?_
    obtain ⟨nn, h_21⟩ := h_20
    exact sl_X11_week_102 hd hK53 nn h_21
theorem sl_X11_week_53 {g : GT} {d : Nat} (hd : 9 ≤ d + 1) {φ : Int32 → fM → Prop} : ∀ (n : Nat) {p0 : Nat} {p2 : Int32} {p3 : Int32} {p4 : Int32} {M : fM}, l_X11_week_53 φ n p0 p2 p3 p4 M → FW g mtX11_week (d + 1) 53 [(0, .ref p0), (2, .int p2), (3, .int p3), (4, .int p4)] [] M 0 0 (rI φ)
  | 0 => fun h => h.elim
  | n + 1 => fun h => sb_X11_week_53 hd (fun _ _ _ _ _ h => sl_X11_week_53 hd n h) h
def w_X11_week (p0 : Nat) (p1 : Int32) (p2 : Int32) (M : fM) (φ : Int32 → fM → Prop) : Prop := w_X11_isIn p1 (0 : Int32) (9999 : Int32) M fun x82 M81 => iF (x82 = 0) (φ (-1 : Int32) M81) (w_X11_isIn p2 (0 : Int32) (30 : Int32) M81 fun x84 M83 => iF (x84 = 0) (φ (-1 : Int32) M83) (isO M83 p0 11 ∧ dR (mP M83 p0 0) fun y88 => inA M83 y88 12 (0 : Int32) ∧ iF ((mI M83 y88 (ix (0 : Int32))) = 0) (φ (-1 : Int32) M83) (w_X11_keep p0 M83 fun M93 => isO M93 p0 11 ∧ dR (mP M93 p0 0) fun y97 => nm ((p1 * (3 : Int32)) + (13 : Int32)) fun x99 => 6 ≤ y97 ∧ inA M93 y97 12 (2 : Int32) ∧ st (wI M93 y97 (ix (2 : Int32)) x99) fun M105 => ∃ n, l_X11_week_53 φ n p0 p2 (0 : Int32) (0 : Int32) M105)))
set_option maxRecDepth 100000 in
theorem s_X11_week {g : GT} {d : Nat} (hd : 9 ≤ d) {p0 : Nat} {p1 : Int32} {p2 : Int32} {M : fM} {φ : Int32 → fM → Prop} (h : w_X11_week p0 p1 p2 M φ) : FC g mtX11_week d [.ref p0, .int p1, .int p2] M 0 0 (rI φ) := by
  obtain ⟨d, rfl⟩ : ∃ e, d = e + 1 := ⟨d - 1, by omega⟩
  unfold w_X11_week at h
  refine FC.intro (nL := 7) (by decide) rfl (Nat.le_of_ble_eq_true rfl) ?_
  show FW g mtX11_week (d + 1) 0 [(0, .ref p0), (1, .int p1), (2, .int p2)] [] M 0 0 (rI φ)
  refine fw_iload_n (i := 1) 1 rfl (show decode _ _ = .ok (.iload_n 1, 1) by decide +kernel) ?_
  refine fw_iconst (v := (0 : Int32)) (show decode _ _ = .ok (.iconst 0, 1) by decide +kernel) (by decide) ?_
  refine fw_sipush (v := (9999 : Int32)) (show decode _ _ = .ok (.sipush 9999, 3) by decide +kernel) (by decide) ?_
  refine fw_callS (mt' := mtX11_isIn) (mc := 0) (ms := 0) (As := [.int p1, .int (0 : Int32), .int (9999 : Int32)]) (rest := []) 3 (show decode _ _ = .ok (.invokestatic 66, 3) by decide +kernel) cs_X11_66 rfl (Nat.le_of_ble_eq_true rfl) (s_X11_isIn (d := d) (hd_le hd (by decide)) h) (by decide) (by decide) (kI (bc' := 0) (bs' := 0) (by decide) (by decide) (fun x82 M81 h_1 => ?_))
  refine fw_if_eq 30 (show decode _ _ = .ok (.ifCond .eq 22, 3) by decide +kernel) (by decide) (fun hc109 => ?_) (fun hc109 => ?_)
  · have h_2 := ipos hc109 h_1
    refine fw_iconst (v := (-1 : Int32)) (show decode _ _ = .ok (.iconst (-1), 1) by decide +kernel) (by decide) ?_
    exact fw_ret (v := some (.int (-1 : Int32))) .ireturn (show decode _ _ = .ok (.ireturn, 1) by decide +kernel) ⟨rfl, Or.inl rfl⟩ ⟨_, rfl, h_2⟩
  · have h_3 := ineg hc109 h_1
    refine fw_iload_n (i := 2) 2 rfl (show decode _ _ = .ok (.iload_n 2, 1) by decide +kernel) ?_
    refine fw_iconst (v := (0 : Int32)) (show decode _ _ = .ok (.iconst 0, 1) by decide +kernel) (by decide) ?_
    refine fw_bipush (v := (30 : Int32)) (show decode _ _ = .ok (.bipush 30, 2) by decide +kernel) (by decide) ?_
    refine fw_callS (mt' := mtX11_isIn) (mc := 0) (ms := 0) (As := [.int p2, .int (0 : Int32), .int (30 : Int32)]) (rest := []) 3 (show decode _ _ = .ok (.invokestatic 66, 3) by decide +kernel) cs_X11_66 rfl (Nat.le_of_ble_eq_true rfl) (s_X11_isIn (d := d) (hd_le hd (by decide)) h_3) (by decide) (by decide) (kI (bc' := 0) (bs' := 0) (by decide) (by decide) (fun x84 M83 h_4 => ?_))
    refine fw_if_eq 30 (show decode _ _ = .ok (.ifCond .eq 12, 3) by decide +kernel) (by decide) (fun hc108 => ?_) (fun hc108 => ?_)
    · have h_5 := ipos hc108 h_4
      refine fw_iconst (v := (-1 : Int32)) (show decode _ _ = .ok (.iconst (-1), 1) by decide +kernel) (by decide) ?_
      exact fw_ret (v := some (.int (-1 : Int32))) .ireturn (show decode _ _ = .ok (.ireturn, 1) by decide +kernel) ⟨rfl, Or.inl rfl⟩ ⟨_, rfl, h_5⟩
    · have h_6 := ineg hc108 h_4
      refine fw_aload_n (i := 0) 0 rfl (show decode _ _ = .ok (.aload_n 0, 1) by decide +kernel) ?_
      obtain ⟨⟨hr86, n85, hs87⟩, h_7⟩ := h_6
      refine fw_getP (kd := 11) (k := 0) (show decode _ _ = .ok (.getfield 7, 3) by decide +kernel) gf_X11_7 hr86 hs87 rfl ?_
      have h_8 := dR_e h_7
      obtain ⟨y88, hy89, h_9⟩ := h_8
      refine fw_deref hy89 ?_
      refine fw_iconst (v := (0 : Int32)) (show decode _ _ = .ok (.iconst 0, 1) by decide +kernel) (by decide) ?_
      obtain ⟨⟨n90, hs91, hi92⟩, h_10⟩ := h_9
      refine fw_iald (show decode _ _ = .ok (.iaload, 1) by decide +kernel) hs91 hi92 ?_
      refine fw_if_ne 32 (show decode _ _ = .ok (.ifCond .ne 5, 3) by decide +kernel) (by decide) (fun hc107 => ?_) (fun hc107 => ?_)
      · have h_11 := ineg hc107 h_10
        refine fw_aload_n (i := 0) 0 rfl (show decode _ _ = .ok (.aload_n 0, 1) by decide +kernel) ?_
        refine fw_callV (mt' := mtX11_keep) (mc := 0) (ms := 0) (As := []) (rest := []) 0 11 n85 (show decode _ _ = .ok (.invokevirtual 353, 3) by decide +kernel) cv_X11_353 ⟨_, rfl, rfl⟩ hr86 hs87 rfl (Nat.le_of_ble_eq_true rfl) (s_X11_keep (d := d) (hd_le hd (by decide)) h_11) (by decide) (by decide) (kV (bc' := 0) (bs' := 0) (by decide) (by decide) (fun M93 h_12 => ?_))
        refine fw_aload_n (i := 0) 0 rfl (show decode _ _ = .ok (.aload_n 0, 1) by decide +kernel) ?_
        obtain ⟨⟨hr95, n94, hs96⟩, h_13⟩ := h_12
        refine fw_getP (kd := 11) (k := 0) (show decode _ _ = .ok (.getfield 7, 3) by decide +kernel) gf_X11_7 hr95 hs96 rfl ?_
        have h_14 := dR_e h_13
        obtain ⟨y97, hy98, h_15⟩ := h_14
        refine fw_deref hy98 ?_
        refine fw_iconst (v := (2 : Int32)) (show decode _ _ = .ok (.iconst 2, 1) by decide +kernel) (by decide) ?_
        refine fw_iload_n (i := 1) 1 rfl (show decode _ _ = .ok (.iload_n 1, 1) by decide +kernel) ?_
        refine fw_iconst (v := (3 : Int32)) (show decode _ _ = .ok (.iconst 3, 1) by decide +kernel) (by decide) ?_
        refine fw_imul (show decode _ _ = .ok (.imul, 1) by decide +kernel) ?_
        refine fw_bipush (v := (13 : Int32)) (show decode _ _ = .ok (.bipush 13, 2) by decide +kernel) (by decide) ?_
        refine fw_iadd (show decode _ _ = .ok (.iadd, 1) by decide +kernel) ?_
        refine fw_nmI (fun x99 ex100 => ?_)
        have h_16 := h_15 x99 ex100
        obtain ⟨hr104, ⟨n101, hs102, hi103⟩, h_17⟩ := h_16
        refine fw_iast (show decode _ _ = .ok (.iastore, 1) by decide +kernel) hr104 hs102 hi103 ?_
        refine FW.nmM (fun M105 eM106 => ?_)
        have h_18 := h_17 M105 eM106
        refine fw_iconst (v := (0 : Int32)) (show decode _ _ = .ok (.iconst 0, 1) by decide +kernel) (by decide) ?_
        refine fw_istore_n (i := 3) (ls' := [(3, .int (0 : Int32)), (0, .ref p0), (1, .int p1), (2, .int p2)]) (show decode _ _ = .ok (.istore_n 3, 1) by decide +kernel) (by decide) rfl ?_
        refine fw_iconst (v := (0 : Int32)) (show decode _ _ = .ok (.iconst 0, 1) by decide +kernel) (by decide) ?_
        refine fw_istore (i := 4) (ls' := [(4, .int (0 : Int32)), (3, .int (0 : Int32)), (0, .ref p0), (1, .int p1), (2, .int p2)]) (show decode _ _ = .ok (.istore 4, 2) by decide +kernel) (by decide) rfl ?_
        refine FW.sub [2, 4, 1, 0] (ls' := [(0, .ref p0), (2, .int p2), (3, .int (0 : Int32)), (4, .int (0 : Int32))]) rfl ?_
        obtain ⟨nn, h_19⟩ := h_18
        exact sl_X11_week_53 hd nn h_19
      · have h_20 := ipos hc107 h_10
        refine fw_iconst (v := (-1 : Int32)) (show decode _ _ = .ok (.iconst (-1), 1) by decide +kernel) (by decide) ?_
        exact fw_ret (v := some (.int (-1 : Int32))) .ireturn (show decode _ _ = .ok (.ireturn, 1) by decide +kernel) ⟨rfl, Or.inl rfl⟩ ⟨_, rfl, h_20⟩
def b_X11_where_59 (K59 : Nat → Int32 → Int32 → Int32 → Int32 → Int64 → Int32 → fM → Prop) (φ : Int64 → fM → Prop) (p0 : Nat) (p2 : Int32) (p4 : Int32) (p5 : Int32) (p6 : Int32) (p7 : Int64) (p9 : Int32) (M : fM) : Prop := isO M p0 11 ∧ w_X11_stepsOf p0 p2 M fun x5 M1 => iF (x5 < p9) (iF ((lg_cmp p7 (0 : Int64)) = 0) (φ (-1 : Int64) M1) (isO M1 p0 11 ∧ dR (mP M1 p0 24) fun y9 => w_X11_cell p5 p4 M1 fun x12 M11 => inA M11 y9 13 x12 ∧ isO M11 p0 11 ∧ w_X11_stepsOf p0 p2 M11 fun x20 M16 => w_X11_tenTo (x20 - p5) M16 fun x22 M21 => w_X11_part ((mJ M11 y9 (ix x12)) * x22) p7 p6 M21 fun x24 M23 => φ x24 M23)) (isO M1 p0 11 ∧ dR (mP M1 p0 24) fun y29 => w_X11_cell p9 p4 M1 fun x32 M31 => inA M31 y29 13 x32 ∧ isO M31 p0 11 ∧ w_X11_stepsOf p0 p2 M31 fun x40 M36 => w_X11_tenTo (x40 - p9) M36 fun x42 M41 => nm (p7 + ((mJ M31 y29 (ix x32)) * x42)) fun x43 => nm (p9 + (1 : Int32)) fun x45 => K59 p0 p2 p4 p5 p6 x43 x45 M41)
def l_X11_where_59 (φ : Int64 → fM → Prop) : Nat → Nat → Int32 → Int32 → Int32 → Int32 → Int64 → Int32 → fM → Prop
  | 0, _, _, _, _, _, _, _, _ => False
  | n + 1, p0, p2, p4, p5, p6, p7, p9, M => b_X11_where_59 (l_X11_where_59 φ n) φ p0 p2 p4 p5 p6 p7 p9 M
set_option maxRecDepth 100000 in
theorem sb_X11_where_59 {g : GT} {d : Nat} (hd : 8 ≤ d + 1) {K59 : Nat → Int32 → Int32 → Int32 → Int32 → Int64 → Int32 → fM → Prop} {φ : Int64 → fM → Prop} (hK59 : ∀ (p0 : Nat) (p2 : Int32) (p4 : Int32) (p5 : Int32) (p6 : Int32) (p7 : Int64) (p9 : Int32) (M : fM), K59 p0 p2 p4 p5 p6 p7 p9 M → FW g mtX11_where (d + 1) 59 [(0, .ref p0), (2, .int p2), (4, .int p4), (5, .int p5), (6, .int p6), (7, .long p7), (9, .int p9)] [] M 0 0 (rJ φ)) {p0 : Nat} {p2 : Int32} {p4 : Int32} {p5 : Int32} {p6 : Int32} {p7 : Int64} {p9 : Int32} {M : fM} (h : b_X11_where_59 K59 φ p0 p2 p4 p5 p6 p7 p9 M) : FW g mtX11_where (d + 1) 59 [(0, .ref p0), (2, .int p2), (4, .int p4), (5, .int p5), (6, .int p6), (7, .long p7), (9, .int p9)] [] M 0 0 (rJ φ) := by
  unfold b_X11_where_59 at h
  refine fw_iload (i := 9) 6 rfl (show decode _ _ = .ok (.iload 9, 2) by decide +kernel) ?_
  refine fw_aload_n (i := 0) 0 rfl (show decode _ _ = .ok (.aload_n 0, 1) by decide +kernel) ?_
  refine fw_iload_n (i := 2) 1 rfl (show decode _ _ = .ok (.iload_n 2, 1) by decide +kernel) ?_
  obtain ⟨⟨hr3, n2, hs4⟩, h_1⟩ := h
  refine fw_callV (mt' := mtX11_stepsOf) (mc := 0) (ms := 0) (As := [.int p2]) (rest := [.int p9]) 1 11 n2 (show decode _ _ = .ok (.invokevirtual 74, 3) by decide +kernel) cv_X11_74 ⟨_, rfl, rfl⟩ hr3 hs4 rfl (Nat.le_of_ble_eq_true rfl) (s_X11_stepsOf (d := d) (hd_le hd (by decide)) h_1) (by decide) (by decide) (kI (bc' := 0) (bs' := 0) (by decide) (by decide) (fun x5 M1 h_2 => ?_))
  refine fw_icmp_gt 104 (show decode _ _ = .ok (.if_icmp .gt 38, 3) by decide +kernel) (by decide) (fun hc47 => ?_) (fun hc47 => ?_)
  · have h_3 := ipos hc47 h_2
    refine fw_lload (i := 7) 5 rfl (show decode _ _ = .ok (.lload 7, 2) by decide +kernel) ?_
    refine fw_lconst (v := (0 : Int64)) (show decode _ _ = .ok (.lconst 0, 1) by decide +kernel) (by decide) ?_
    refine fw_lcmp (show decode _ _ = .ok (.lcmp, 1) by decide +kernel) ?_
    refine fw_if_ne 115 (show decode _ _ = .ok (.ifCond .ne 7, 3) by decide +kernel) (by decide) (fun hc25 => ?_) (fun hc25 => ?_)
    · have h_4 := ineg hc25 h_3
      refine fw_aload_n (i := 0) 0 rfl (show decode _ _ = .ok (.aload_n 0, 1) by decide +kernel) ?_
      obtain ⟨⟨hr7, n6, hs8⟩, h_5⟩ := h_4
      refine fw_getP (kd := 11) (k := 24) (show decode _ _ = .ok (.getfield 43, 3) by decide +kernel) gf_X11_43 hr7 hs8 rfl ?_
      have h_6 := dR_e h_5
      obtain ⟨y9, hy10, h_7⟩ := h_6
      refine fw_deref hy10 ?_
      refine fw_iload (i := 5) 3 rfl (show decode _ _ = .ok (.iload 5, 2) by decide +kernel) ?_
      refine fw_iload (i := 4) 2 rfl (show decode _ _ = .ok (.iload 4, 2) by decide +kernel) ?_
      refine fw_callS (mt' := mtX11_cell) (mc := 0) (ms := 0) (As := [.int p5, .int p4]) (rest := [.ref y9]) 2 (show decode _ _ = .ok (.invokestatic 408, 3) by decide +kernel) cs_X11_408 rfl (Nat.le_of_ble_eq_true rfl) (s_X11_cell (d := d) (hd_le hd (by decide)) h_7) (by decide) (by decide) (kI (bc' := 0) (bs' := 0) (by decide) (by decide) (fun x12 M11 h_8 => ?_))
      obtain ⟨⟨n13, hs14, hi15⟩, h_9⟩ := h_8
      refine fw_lald (show decode _ _ = .ok (.laload, 1) by decide +kernel) hs14 hi15 ?_
      refine fw_aload_n (i := 0) 0 rfl (show decode _ _ = .ok (.aload_n 0, 1) by decide +kernel) ?_
      refine fw_iload_n (i := 2) 1 rfl (show decode _ _ = .ok (.iload_n 2, 1) by decide +kernel) ?_
      obtain ⟨⟨hr18, n17, hs19⟩, h_10⟩ := h_9
      refine fw_callV (mt' := mtX11_stepsOf) (mc := 0) (ms := 0) (As := [.int p2]) (rest := [.long (mJ M11 y9 (ix x12))]) 1 11 n17 (show decode _ _ = .ok (.invokevirtual 74, 3) by decide +kernel) cv_X11_74 ⟨_, rfl, rfl⟩ hr18 hs19 rfl (Nat.le_of_ble_eq_true rfl) (s_X11_stepsOf (d := d) (hd_le hd (by decide)) h_10) (by decide) (by decide) (kI (bc' := 0) (bs' := 0) (by decide) (by decide) (fun x20 M16 h_11 => ?_))
      refine fw_iload (i := 5) 3 rfl (show decode _ _ = .ok (.iload 5, 2) by decide +kernel) ?_
      refine fw_isub (show decode _ _ = .ok (.isub, 1) by decide +kernel) ?_
      refine fw_callS (mt' := mtX11_tenTo) (mc := 0) (ms := 0) (As := [.int (x20 - p5)]) (rest := [.long (mJ M11 y9 (ix x12))]) 1 (show decode _ _ = .ok (.invokestatic 428, 3) by decide +kernel) cs_X11_428 rfl (Nat.le_of_ble_eq_true rfl) (s_X11_tenTo (d := d) (hd_le hd (by decide)) h_11) (by decide) (by decide) (kJ (bc' := 0) (bs' := 0) (by decide) (by decide) (fun x22 M21 h_12 => ?_))
      refine fw_lmul (show decode _ _ = .ok (.lmul, 1) by decide +kernel) ?_
      refine fw_lload (i := 7) 5 rfl (show decode _ _ = .ok (.lload 7, 2) by decide +kernel) ?_
      refine fw_iload (i := 6) 4 rfl (show decode _ _ = .ok (.iload 6, 2) by decide +kernel) ?_
      refine fw_callS (mt' := mtX11_part) (mc := 0) (ms := 0) (As := [.long ((mJ M11 y9 (ix x12)) * x22), .long p7, .int p6]) (rest := []) 3 (show decode _ _ = .ok (.invokestatic 437, 3) by decide +kernel) cs_X11_437 rfl (Nat.le_of_ble_eq_true rfl) (s_X11_part (d := d) (hd_le hd (by decide)) h_12) (by decide) (by decide) (kJ (bc' := 0) (bs' := 0) (by decide) (by decide) (fun x24 M23 h_13 => ?_))
      exact fw_ret (v := some (.long x24)) .lreturn (show decode _ _ = .ok (.lreturn, 1) by decide +kernel) ⟨rfl, rfl⟩ ⟨_, rfl, h_13⟩
    · have h_14 := ipos hc25 h_3
      refine fw_ldc2 (idx := 432) (v := (-1 : Int64)) (show decode _ _ = .ok (.ldc2_w 432, 3) by decide +kernel) wd1897 ?_
      exact fw_ret (v := some (.long (-1 : Int64))) .lreturn (show decode _ _ = .ok (.lreturn, 1) by decide +kernel) ⟨rfl, rfl⟩ ⟨_, rfl, h_14⟩
  · have h_15 := ineg hc47 h_2
    refine fw_lload (i := 7) 5 rfl (show decode _ _ = .ok (.lload 7, 2) by decide +kernel) ?_
    refine fw_aload_n (i := 0) 0 rfl (show decode _ _ = .ok (.aload_n 0, 1) by decide +kernel) ?_
    obtain ⟨⟨hr27, n26, hs28⟩, h_16⟩ := h_15
    refine fw_getP (kd := 11) (k := 24) (show decode _ _ = .ok (.getfield 43, 3) by decide +kernel) gf_X11_43 hr27 hs28 rfl ?_
    have h_17 := dR_e h_16
    obtain ⟨y29, hy30, h_18⟩ := h_17
    refine fw_deref hy30 ?_
    refine fw_iload (i := 9) 6 rfl (show decode _ _ = .ok (.iload 9, 2) by decide +kernel) ?_
    refine fw_iload (i := 4) 2 rfl (show decode _ _ = .ok (.iload 4, 2) by decide +kernel) ?_
    refine fw_callS (mt' := mtX11_cell) (mc := 0) (ms := 0) (As := [.int p9, .int p4]) (rest := [.ref y29, .long p7]) 2 (show decode _ _ = .ok (.invokestatic 408, 3) by decide +kernel) cs_X11_408 rfl (Nat.le_of_ble_eq_true rfl) (s_X11_cell (d := d) (hd_le hd (by decide)) h_18) (by decide) (by decide) (kI (bc' := 0) (bs' := 0) (by decide) (by decide) (fun x32 M31 h_19 => ?_))
    obtain ⟨⟨n33, hs34, hi35⟩, h_20⟩ := h_19
    refine fw_lald (show decode _ _ = .ok (.laload, 1) by decide +kernel) hs34 hi35 ?_
    refine fw_aload_n (i := 0) 0 rfl (show decode _ _ = .ok (.aload_n 0, 1) by decide +kernel) ?_
    refine fw_iload_n (i := 2) 1 rfl (show decode _ _ = .ok (.iload_n 2, 1) by decide +kernel) ?_
    obtain ⟨⟨hr38, n37, hs39⟩, h_21⟩ := h_20
    refine fw_callV (mt' := mtX11_stepsOf) (mc := 0) (ms := 0) (As := [.int p2]) (rest := [.long (mJ M31 y29 (ix x32)), .long p7]) 1 11 n37 (show decode _ _ = .ok (.invokevirtual 74, 3) by decide +kernel) cv_X11_74 ⟨_, rfl, rfl⟩ hr38 hs39 rfl (Nat.le_of_ble_eq_true rfl) (s_X11_stepsOf (d := d) (hd_le hd (by decide)) h_21) (by decide) (by decide) (kI (bc' := 0) (bs' := 0) (by decide) (by decide) (fun x40 M36 h_22 => ?_))
    refine fw_iload (i := 9) 6 rfl (show decode _ _ = .ok (.iload 9, 2) by decide +kernel) ?_
    refine fw_isub (show decode _ _ = .ok (.isub, 1) by decide +kernel) ?_
    refine fw_callS (mt' := mtX11_tenTo) (mc := 0) (ms := 0) (As := [.int (x40 - p9)]) (rest := [.long (mJ M31 y29 (ix x32)), .long p7]) 1 (show decode _ _ = .ok (.invokestatic 428, 3) by decide +kernel) cs_X11_428 rfl (Nat.le_of_ble_eq_true rfl) (s_X11_tenTo (d := d) (hd_le hd (by decide)) h_22) (by decide) (by decide) (kJ (bc' := 0) (bs' := 0) (by decide) (by decide) (fun x42 M41 h_23 => ?_))
    refine fw_lmul (show decode _ _ = .ok (.lmul, 1) by decide +kernel) ?_
    refine fw_ladd (show decode _ _ = .ok (.ladd, 1) by decide +kernel) ?_
    refine fw_nmJ (fun x43 ex44 => ?_)
    have h_24 := h_23 x43 ex44
    refine fw_lstore (i := 7) (ls' := [(7, .long x43), (0, .ref p0), (2, .int p2), (4, .int p4), (5, .int p5), (6, .int p6), (9, .int p9)]) (show decode _ _ = .ok (.lstore 7, 2) by decide +kernel) (by decide) rfl ?_
    obtain ⟨x45, ex46⟩ : ∃ y : Int32, y = p9 + (1 : Int32) := ⟨_, rfl⟩
    have h_25 := h_24 x45 ex46
    refine fw_iinc (i := 9) (x := p9) (v := x45) (ls' := [(9, .int x45), (7, .long x43), (0, .ref p0), (2, .int p2), (4, .int p4), (5, .int p5), (6, .int p6)]) 6 rfl (show decode _ _ = .ok (.iinc 9 1, 3) by decide +kernel) (by rw [ex46]; rfl) (by decide) rfl ?_
    refine fw_goto 59 (show decode _ _ = .ok (.goto (-42), 3) by decide +kernel) (by decide) ?_
    refine FW.sub [2, 3, 4, 5, 6, 1, 0] (ls' := [(0, .ref p0), (2, .int p2), (4, .int p4), (5, .int p5), (6, .int p6), (7, .long x43), (9, .int x45)]) rfl ?_
    exact hK59 _ _ _ _ _ _ _ _ h_25
theorem sl_X11_where_59 {g : GT} {d : Nat} (hd : 8 ≤ d + 1) {φ : Int64 → fM → Prop} : ∀ (n : Nat) {p0 : Nat} {p2 : Int32} {p4 : Int32} {p5 : Int32} {p6 : Int32} {p7 : Int64} {p9 : Int32} {M : fM}, l_X11_where_59 φ n p0 p2 p4 p5 p6 p7 p9 M → FW g mtX11_where (d + 1) 59 [(0, .ref p0), (2, .int p2), (4, .int p4), (5, .int p5), (6, .int p6), (7, .long p7), (9, .int p9)] [] M 0 0 (rJ φ)
  | 0 => fun h => h.elim
  | n + 1 => fun h => sb_X11_where_59 hd (fun _ _ _ _ _ _ _ _ h => sl_X11_where_59 hd n h) h
def w_X11_where (p0 : Nat) (p1 : Int32) (p2 : Int32) (p3 : Int32) (p4 : Int32) (p5 : Int32) (p6 : Int32) (M : fM) (φ : Int64 → fM → Prop) : Prop := isO M p0 11 ∧ w_X11_isMind p0 p1 p2 p3 M fun x52 M48 => iF (x52 = 0) (φ (-1 : Int64) M48) (w_X11_isIn p4 (0 : Int32) (29 : Int32) M48 fun x54 M53 => iF (x54 = 0) (φ (-1 : Int64) M53) (isO M53 p0 11 ∧ w_X11_stepsOf p0 p2 M53 fun x59 M55 => w_X11_isIn p5 (0 : Int32) x59 M55 fun x61 M60 => iF (x61 = 0) (φ (-1 : Int64) M60) (isO M60 p0 11 ∧ w_X11_start p0 p1 (1 : Int32) (1 : Int32) M60 fun M62 => isO M62 p0 11 ∧ w_X11_goAll p0 p1 p2 p3 M62 fun M66 => ∃ n, l_X11_where_59 φ n p0 p2 p4 p5 p6 (0 : Int64) (0 : Int32) M66)))
set_option maxRecDepth 100000 in
theorem s_X11_where {g : GT} {d : Nat} (hd : 8 ≤ d) {p0 : Nat} {p1 : Int32} {p2 : Int32} {p3 : Int32} {p4 : Int32} {p5 : Int32} {p6 : Int32} {M : fM} {φ : Int64 → fM → Prop} (h : w_X11_where p0 p1 p2 p3 p4 p5 p6 M φ) : FC g mtX11_where d [.ref p0, .int p1, .int p2, .int p3, .int p4, .int p5, .int p6] M 0 0 (rJ φ) := by
  obtain ⟨d, rfl⟩ : ∃ e, d = e + 1 := ⟨d - 1, by omega⟩
  unfold w_X11_where at h
  refine FC.intro (nL := 10) (by decide) rfl (Nat.le_of_ble_eq_true rfl) ?_
  show FW g mtX11_where (d + 1) 0 [(0, .ref p0), (1, .int p1), (2, .int p2), (3, .int p3), (4, .int p4), (5, .int p5), (6, .int p6)] [] M 0 0 (rJ φ)
  refine fw_aload_n (i := 0) 0 rfl (show decode _ _ = .ok (.aload_n 0, 1) by decide +kernel) ?_
  refine fw_iload_n (i := 1) 1 rfl (show decode _ _ = .ok (.iload_n 1, 1) by decide +kernel) ?_
  refine fw_iload_n (i := 2) 2 rfl (show decode _ _ = .ok (.iload_n 2, 1) by decide +kernel) ?_
  refine fw_iload_n (i := 3) 3 rfl (show decode _ _ = .ok (.iload_n 3, 1) by decide +kernel) ?_
  obtain ⟨⟨hr50, n49, hs51⟩, h_1⟩ := h
  refine fw_callV (mt' := mtX11_isMind) (mc := 0) (ms := 0) (As := [.int p1, .int p2, .int p3]) (rest := []) 3 11 n49 (show decode _ _ = .ok (.invokevirtual 325, 3) by decide +kernel) cv_X11_325 ⟨_, rfl, rfl⟩ hr50 hs51 rfl (Nat.le_of_ble_eq_true rfl) (s_X11_isMind (d := d) (hd_le hd (by decide)) h_1) (by decide) (by decide) (kI (bc' := 0) (bs' := 0) (by decide) (by decide) (fun x52 M48 h_2 => ?_))
  refine fw_if_eq 35 (show decode _ _ = .ok (.ifCond .eq 28, 3) by decide +kernel) (by decide) (fun hc72 => ?_) (fun hc72 => ?_)
  · have h_3 := ipos hc72 h_2
    refine fw_ldc2 (idx := 432) (v := (-1 : Int64)) (show decode _ _ = .ok (.ldc2_w 432, 3) by decide +kernel) wd1897 ?_
    exact fw_ret (v := some (.long (-1 : Int64))) .lreturn (show decode _ _ = .ok (.lreturn, 1) by decide +kernel) ⟨rfl, rfl⟩ ⟨_, rfl, h_3⟩
  · have h_4 := ineg hc72 h_2
    refine fw_iload (i := 4) 4 rfl (show decode _ _ = .ok (.iload 4, 2) by decide +kernel) ?_
    refine fw_iconst (v := (0 : Int32)) (show decode _ _ = .ok (.iconst 0, 1) by decide +kernel) (by decide) ?_
    refine fw_bipush (v := (29 : Int32)) (show decode _ _ = .ok (.bipush 29, 2) by decide +kernel) (by decide) ?_
    refine fw_callS (mt' := mtX11_isIn) (mc := 0) (ms := 0) (As := [.int p4, .int (0 : Int32), .int (29 : Int32)]) (rest := []) 3 (show decode _ _ = .ok (.invokestatic 66, 3) by decide +kernel) cs_X11_66 rfl (Nat.le_of_ble_eq_true rfl) (s_X11_isIn (d := d) (hd_le hd (by decide)) h_4) (by decide) (by decide) (kI (bc' := 0) (bs' := 0) (by decide) (by decide) (fun x54 M53 h_5 => ?_))
    refine fw_if_eq 35 (show decode _ _ = .ok (.ifCond .eq 17, 3) by decide +kernel) (by decide) (fun hc71 => ?_) (fun hc71 => ?_)
    · have h_6 := ipos hc71 h_5
      refine fw_ldc2 (idx := 432) (v := (-1 : Int64)) (show decode _ _ = .ok (.ldc2_w 432, 3) by decide +kernel) wd1897 ?_
      exact fw_ret (v := some (.long (-1 : Int64))) .lreturn (show decode _ _ = .ok (.lreturn, 1) by decide +kernel) ⟨rfl, rfl⟩ ⟨_, rfl, h_6⟩
    · have h_7 := ineg hc71 h_5
      refine fw_iload (i := 5) 5 rfl (show decode _ _ = .ok (.iload 5, 2) by decide +kernel) ?_
      refine fw_iconst (v := (0 : Int32)) (show decode _ _ = .ok (.iconst 0, 1) by decide +kernel) (by decide) ?_
      refine fw_aload_n (i := 0) 0 rfl (show decode _ _ = .ok (.aload_n 0, 1) by decide +kernel) ?_
      refine fw_iload_n (i := 2) 2 rfl (show decode _ _ = .ok (.iload_n 2, 1) by decide +kernel) ?_
      obtain ⟨⟨hr57, n56, hs58⟩, h_8⟩ := h_7
      refine fw_callV (mt' := mtX11_stepsOf) (mc := 0) (ms := 0) (As := [.int p2]) (rest := [.int (0 : Int32), .int p5]) 1 11 n56 (show decode _ _ = .ok (.invokevirtual 74, 3) by decide +kernel) cv_X11_74 ⟨_, rfl, rfl⟩ hr57 hs58 rfl (Nat.le_of_ble_eq_true rfl) (s_X11_stepsOf (d := d) (hd_le hd (by decide)) h_8) (by decide) (by decide) (kI (bc' := 0) (bs' := 0) (by decide) (by decide) (fun x59 M55 h_9 => ?_))
      refine fw_callS (mt' := mtX11_isIn) (mc := 0) (ms := 0) (As := [.int p5, .int (0 : Int32), .int x59]) (rest := []) 3 (show decode _ _ = .ok (.invokestatic 66, 3) by decide +kernel) cs_X11_66 rfl (Nat.le_of_ble_eq_true rfl) (s_X11_isIn (d := d) (hd_le hd (by decide)) h_9) (by decide) (by decide) (kI (bc' := 0) (bs' := 0) (by decide) (by decide) (fun x61 M60 h_10 => ?_))
      refine fw_if_ne 39 (show decode _ _ = .ok (.ifCond .ne 7, 3) by decide +kernel) (by decide) (fun hc70 => ?_) (fun hc70 => ?_)
      · have h_11 := ineg hc70 h_10
        refine fw_aload_n (i := 0) 0 rfl (show decode _ _ = .ok (.aload_n 0, 1) by decide +kernel) ?_
        refine fw_iload_n (i := 1) 1 rfl (show decode _ _ = .ok (.iload_n 1, 1) by decide +kernel) ?_
        refine fw_iconst (v := (1 : Int32)) (show decode _ _ = .ok (.iconst 1, 1) by decide +kernel) (by decide) ?_
        refine fw_iconst (v := (1 : Int32)) (show decode _ _ = .ok (.iconst 1, 1) by decide +kernel) (by decide) ?_
        obtain ⟨⟨hr64, n63, hs65⟩, h_12⟩ := h_11
        refine fw_callV (mt' := mtX11_start) (mc := 0) (ms := 0) (As := [.int p1, .int (1 : Int32), .int (1 : Int32)]) (rest := []) 3 11 n63 (show decode _ _ = .ok (.invokevirtual 418, 3) by decide +kernel) cv_X11_418 ⟨_, rfl, rfl⟩ hr64 hs65 rfl (Nat.le_of_ble_eq_true rfl) (s_X11_start (d := d) (hd_le hd (by decide)) h_12) (by decide) (by decide) (kV (bc' := 0) (bs' := 0) (by decide) (by decide) (fun M62 h_13 => ?_))
        refine fw_aload_n (i := 0) 0 rfl (show decode _ _ = .ok (.aload_n 0, 1) by decide +kernel) ?_
        refine fw_iload_n (i := 1) 1 rfl (show decode _ _ = .ok (.iload_n 1, 1) by decide +kernel) ?_
        refine fw_iload_n (i := 2) 2 rfl (show decode _ _ = .ok (.iload_n 2, 1) by decide +kernel) ?_
        refine fw_iload_n (i := 3) 3 rfl (show decode _ _ = .ok (.iload_n 3, 1) by decide +kernel) ?_
        obtain ⟨⟨hr68, n67, hs69⟩, h_14⟩ := h_13
        refine fw_callV (mt' := mtX11_goAll) (mc := 0) (ms := 0) (As := [.int p1, .int p2, .int p3]) (rest := []) 3 11 n67 (show decode _ _ = .ok (.invokevirtual 434, 3) by decide +kernel) cv_X11_434 ⟨_, rfl, rfl⟩ hr68 hs69 rfl (Nat.le_of_ble_eq_true rfl) (s_X11_goAll (d := d) (hd_le hd (by decide)) h_14) (by decide) (by decide) (kV (bc' := 0) (bs' := 0) (by decide) (by decide) (fun M66 h_15 => ?_))
        refine fw_lconst (v := (0 : Int64)) (show decode _ _ = .ok (.lconst 0, 1) by decide +kernel) (by decide) ?_
        refine fw_lstore (i := 7) (ls' := [(7, .long (0 : Int64)), (0, .ref p0), (1, .int p1), (2, .int p2), (3, .int p3), (4, .int p4), (5, .int p5), (6, .int p6)]) (show decode _ _ = .ok (.lstore 7, 2) by decide +kernel) (by decide) rfl ?_
        refine fw_iconst (v := (0 : Int32)) (show decode _ _ = .ok (.iconst 0, 1) by decide +kernel) (by decide) ?_
        refine fw_istore (i := 9) (ls' := [(9, .int (0 : Int32)), (7, .long (0 : Int64)), (0, .ref p0), (1, .int p1), (2, .int p2), (3, .int p3), (4, .int p4), (5, .int p5), (6, .int p6)]) (show decode _ _ = .ok (.istore 9, 2) by decide +kernel) (by decide) rfl ?_
        refine FW.sub [2, 4, 6, 7, 8, 1, 0] (ls' := [(0, .ref p0), (2, .int p2), (4, .int p4), (5, .int p5), (6, .int p6), (7, .long (0 : Int64)), (9, .int (0 : Int32))]) rfl ?_
        obtain ⟨nn, h_16⟩ := h_15
        exact sl_X11_where_59 hd nn h_16
      · have h_17 := ipos hc70 h_10
        refine fw_ldc2 (idx := 432) (v := (-1 : Int64)) (show decode _ _ = .ok (.ldc2_w 432, 3) by decide +kernel) wd1897 ?_
        exact fw_ret (v := some (.long (-1 : Int64))) .lreturn (show decode _ _ = .ok (.lreturn, 1) by decide +kernel) ⟨rfl, rfl⟩ ⟨_, rfl, h_17⟩
def w_X11_whether (p0 : Nat) (p1 : Int32) (p2 : Int32) (p3 : Int32) (p4 : Int32) (M : fM) (φ : Int64 → fM → Prop) : Prop := isO M p0 11 ∧ w_X11_isMind p0 p1 p2 (0 : Int32) M fun x5 M1 => iF (x5 = 0) (φ (-1 : Int64) M1) (w_X11_isIn p3 (0 : Int32) (29 : Int32) M1 fun x7 M6 => iF (x7 = 0) (φ (-1 : Int64) M6) (isO M6 p0 11 ∧ w_X11_jarred p0 p1 p2 p3 (1 : Int32) M6 fun x12 M8 => iF ((lg_cmp x12 (0 : Int64)) = 0) (φ (-1 : Int64) M8) (isO M8 p0 11 ∧ w_X11_jarred p0 p1 p2 p3 (0 : Int32) M8 fun x17 M13 => w_X11_part x17 x12 p4 M13 fun x19 M18 => φ x19 M18)))
set_option maxRecDepth 100000 in
theorem s_X11_whether {g : GT} {d : Nat} (hd : 9 ≤ d) {p0 : Nat} {p1 : Int32} {p2 : Int32} {p3 : Int32} {p4 : Int32} {M : fM} {φ : Int64 → fM → Prop} (h : w_X11_whether p0 p1 p2 p3 p4 M φ) : FC g mtX11_whether d [.ref p0, .int p1, .int p2, .int p3, .int p4] M 0 0 (rJ φ) := by
  obtain ⟨d, rfl⟩ : ∃ e, d = e + 1 := ⟨d - 1, by omega⟩
  unfold w_X11_whether at h
  refine FC.intro (nL := 7) (by decide) rfl (Nat.le_of_ble_eq_true rfl) ?_
  show FW g mtX11_whether (d + 1) 0 [(0, .ref p0), (1, .int p1), (2, .int p2), (3, .int p3), (4, .int p4)] [] M 0 0 (rJ φ)
  refine fw_aload_n (i := 0) 0 rfl (show decode _ _ = .ok (.aload_n 0, 1) by decide +kernel) ?_
  refine fw_iload_n (i := 1) 1 rfl (show decode _ _ = .ok (.iload_n 1, 1) by decide +kernel) ?_
  refine fw_iload_n (i := 2) 2 rfl (show decode _ _ = .ok (.iload_n 2, 1) by decide +kernel) ?_
  refine fw_iconst (v := (0 : Int32)) (show decode _ _ = .ok (.iconst 0, 1) by decide +kernel) (by decide) ?_
  obtain ⟨⟨hr3, n2, hs4⟩, h_1⟩ := h
  refine fw_callV (mt' := mtX11_isMind) (mc := 0) (ms := 0) (As := [.int p1, .int p2, .int (0 : Int32)]) (rest := []) 3 11 n2 (show decode _ _ = .ok (.invokevirtual 325, 3) by decide +kernel) cv_X11_325 ⟨_, rfl, rfl⟩ hr3 hs4 rfl (Nat.le_of_ble_eq_true rfl) (s_X11_isMind (d := d) (hd_le hd (by decide)) h_1) (by decide) (by decide) (kI (bc' := 0) (bs' := 0) (by decide) (by decide) (fun x5 M1 h_2 => ?_))
  refine fw_if_eq 20 (show decode _ _ = .ok (.ifCond .eq 13, 3) by decide +kernel) (by decide) (fun hc22 => ?_) (fun hc22 => ?_)
  · have h_3 := ipos hc22 h_2
    refine fw_ldc2 (idx := 432) (v := (-1 : Int64)) (show decode _ _ = .ok (.ldc2_w 432, 3) by decide +kernel) wd1897 ?_
    exact fw_ret (v := some (.long (-1 : Int64))) .lreturn (show decode _ _ = .ok (.lreturn, 1) by decide +kernel) ⟨rfl, rfl⟩ ⟨_, rfl, h_3⟩
  · have h_4 := ineg hc22 h_2
    refine fw_iload_n (i := 3) 3 rfl (show decode _ _ = .ok (.iload_n 3, 1) by decide +kernel) ?_
    refine fw_iconst (v := (0 : Int32)) (show decode _ _ = .ok (.iconst 0, 1) by decide +kernel) (by decide) ?_
    refine fw_bipush (v := (29 : Int32)) (show decode _ _ = .ok (.bipush 29, 2) by decide +kernel) (by decide) ?_
    refine fw_callS (mt' := mtX11_isIn) (mc := 0) (ms := 0) (As := [.int p3, .int (0 : Int32), .int (29 : Int32)]) (rest := []) 3 (show decode _ _ = .ok (.invokestatic 66, 3) by decide +kernel) cs_X11_66 rfl (Nat.le_of_ble_eq_true rfl) (s_X11_isIn (d := d) (hd_le hd (by decide)) h_4) (by decide) (by decide) (kI (bc' := 0) (bs' := 0) (by decide) (by decide) (fun x7 M6 h_5 => ?_))
    refine fw_if_ne 24 (show decode _ _ = .ok (.ifCond .ne 7, 3) by decide +kernel) (by decide) (fun hc21 => ?_) (fun hc21 => ?_)
    · have h_6 := ineg hc21 h_5
      refine fw_aload_n (i := 0) 0 rfl (show decode _ _ = .ok (.aload_n 0, 1) by decide +kernel) ?_
      refine fw_iload_n (i := 1) 1 rfl (show decode _ _ = .ok (.iload_n 1, 1) by decide +kernel) ?_
      refine fw_iload_n (i := 2) 2 rfl (show decode _ _ = .ok (.iload_n 2, 1) by decide +kernel) ?_
      refine fw_iload_n (i := 3) 3 rfl (show decode _ _ = .ok (.iload_n 3, 1) by decide +kernel) ?_
      refine fw_iconst (v := (1 : Int32)) (show decode _ _ = .ok (.iconst 1, 1) by decide +kernel) (by decide) ?_
      obtain ⟨⟨hr10, n9, hs11⟩, h_7⟩ := h_6
      refine fw_callV (mt' := mtX11_jarred) (mc := 0) (ms := 0) (As := [.int p1, .int p2, .int p3, .int (1 : Int32)]) (rest := []) 4 11 n9 (show decode _ _ = .ok (.invokevirtual 459, 3) by decide +kernel) cv_X11_459 ⟨_, rfl, rfl⟩ hr10 hs11 rfl (Nat.le_of_ble_eq_true rfl) (s_X11_jarred (d := d) (hd_le hd (by decide)) h_7) (by decide) (by decide) (kJ (bc' := 0) (bs' := 0) (by decide) (by decide) (fun x12 M8 h_8 => ?_))
      refine fw_lstore (i := 5) (ls' := [(5, .long x12), (0, .ref p0), (1, .int p1), (2, .int p2), (3, .int p3), (4, .int p4)]) (show decode _ _ = .ok (.lstore 5, 2) by decide +kernel) (by decide) rfl ?_
      refine fw_lload (i := 5) 0 rfl (show decode _ _ = .ok (.lload 5, 2) by decide +kernel) ?_
      refine fw_lconst (v := (0 : Int64)) (show decode _ _ = .ok (.lconst 0, 1) by decide +kernel) (by decide) ?_
      refine fw_lcmp (show decode _ _ = .ok (.lcmp, 1) by decide +kernel) ?_
      refine fw_if_ne 45 (show decode _ _ = .ok (.ifCond .ne 7, 3) by decide +kernel) (by decide) (fun hc20 => ?_) (fun hc20 => ?_)
      · have h_9 := ineg hc20 h_8
        refine fw_aload_n (i := 0) 1 rfl (show decode _ _ = .ok (.aload_n 0, 1) by decide +kernel) ?_
        refine fw_iload_n (i := 1) 2 rfl (show decode _ _ = .ok (.iload_n 1, 1) by decide +kernel) ?_
        refine fw_iload_n (i := 2) 3 rfl (show decode _ _ = .ok (.iload_n 2, 1) by decide +kernel) ?_
        refine fw_iload_n (i := 3) 4 rfl (show decode _ _ = .ok (.iload_n 3, 1) by decide +kernel) ?_
        refine fw_iconst (v := (0 : Int32)) (show decode _ _ = .ok (.iconst 0, 1) by decide +kernel) (by decide) ?_
        obtain ⟨⟨hr15, n14, hs16⟩, h_10⟩ := h_9
        refine fw_callV (mt' := mtX11_jarred) (mc := 0) (ms := 0) (As := [.int p1, .int p2, .int p3, .int (0 : Int32)]) (rest := []) 4 11 n14 (show decode _ _ = .ok (.invokevirtual 459, 3) by decide +kernel) cv_X11_459 ⟨_, rfl, rfl⟩ hr15 hs16 rfl (Nat.le_of_ble_eq_true rfl) (s_X11_jarred (d := d) (hd_le hd (by decide)) h_10) (by decide) (by decide) (kJ (bc' := 0) (bs' := 0) (by decide) (by decide) (fun x17 M13 h_11 => ?_))
        refine fw_lload (i := 5) 0 rfl (show decode _ _ = .ok (.lload 5, 2) by decide +kernel) ?_
        refine fw_iload (i := 4) 5 rfl (show decode _ _ = .ok (.iload 4, 2) by decide +kernel) ?_
        refine fw_callS (mt' := mtX11_part) (mc := 0) (ms := 0) (As := [.long x17, .long x12, .int p4]) (rest := []) 3 (show decode _ _ = .ok (.invokestatic 437, 3) by decide +kernel) cs_X11_437 rfl (Nat.le_of_ble_eq_true rfl) (s_X11_part (d := d) (hd_le hd (by decide)) h_11) (by decide) (by decide) (kJ (bc' := 0) (bs' := 0) (by decide) (by decide) (fun x19 M18 h_12 => ?_))
        exact fw_ret (v := some (.long x19)) .lreturn (show decode _ _ = .ok (.lreturn, 1) by decide +kernel) ⟨rfl, rfl⟩ ⟨_, rfl, h_12⟩
      · have h_13 := ipos hc20 h_8
        refine fw_ldc2 (idx := 432) (v := (-1 : Int64)) (show decode _ _ = .ok (.ldc2_w 432, 3) by decide +kernel) wd1897 ?_
        exact fw_ret (v := some (.long (-1 : Int64))) .lreturn (show decode _ _ = .ok (.lreturn, 1) by decide +kernel) ⟨rfl, rfl⟩ ⟨_, rfl, h_13⟩
    · have h_14 := ipos hc21 h_5
      refine fw_ldc2 (idx := 432) (v := (-1 : Int64)) (show decode _ _ = .ok (.ldc2_w 432, 3) by decide +kernel) wd1897 ?_
      exact fw_ret (v := some (.long (-1 : Int64))) .lreturn (show decode _ _ = .ok (.lreturn, 1) by decide +kernel) ⟨rfl, rfl⟩ ⟨_, rfl, h_14⟩
