def j_X11_legsOf_100 (K10 : Nat → Int32 → Int32 → Int32 → Int32 → Int32 → fM → Prop) (φ : Int32 → fM → Prop) (p0 : Nat) (p1 : Int32) (p5 : Int32) (p6 : Int32) (p7 : Int32) (M : fM) : Prop := nm (p5 + (1 : Int32)) fun x1 => K10 p0 p1 p5 p6 p7 x1 M
set_option maxRecDepth 100000 in
theorem sj_X11_legsOf_100 {g : GT} {d : Nat} (hd : 3 ≤ d + 1) {K10 : Nat → Int32 → Int32 → Int32 → Int32 → Int32 → fM → Prop} {φ : Int32 → fM → Prop} (hK10 : ∀ (p0 : Nat) (p1 : Int32) (p2 : Int32) (p3 : Int32) (p4 : Int32) (p5 : Int32) (M : fM), K10 p0 p1 p2 p3 p4 p5 M → FW g mtX11_legsOf (d + 1) 10 [(0, .ref p0), (1, .int p1), (2, .int p2), (3, .int p3), (4, .int p4), (5, .int p5)] [] M 0 0 (rI φ)) {p0 : Nat} {p1 : Int32} {p5 : Int32} {p6 : Int32} {p7 : Int32} {M : fM} (h : j_X11_legsOf_100 K10 φ p0 p1 p5 p6 p7 M) : FW g mtX11_legsOf (d + 1) 100 [(0, .ref p0), (1, .int p1), (5, .int p5), (6, .int p6), (7, .int p7)] [] M 0 0 (rI φ) := by
  unfold j_X11_legsOf_100 at h
  refine fw_iload (i := 5) 2 rfl (show decode _ _ = .ok (.iload 5, 2) by decide +kernel) ?_
  refine fw_istore_n (i := 2) (ls' := [(2, .int p5), (0, .ref p0), (1, .int p1), (5, .int p5), (6, .int p6), (7, .int p7)]) (show decode _ _ = .ok (.istore_n 2, 1) by decide +kernel) (by decide) rfl ?_
  refine fw_iload (i := 6) 4 rfl (show decode _ _ = .ok (.iload 6, 2) by decide +kernel) ?_
  refine fw_istore_n (i := 3) (ls' := [(3, .int p6), (2, .int p5), (0, .ref p0), (1, .int p1), (5, .int p5), (6, .int p6), (7, .int p7)]) (show decode _ _ = .ok (.istore_n 3, 1) by decide +kernel) (by decide) rfl ?_
  refine fw_iload (i := 7) 6 rfl (show decode _ _ = .ok (.iload 7, 2) by decide +kernel) ?_
  refine fw_istore (i := 4) (ls' := [(4, .int p7), (3, .int p6), (2, .int p5), (0, .ref p0), (1, .int p1), (5, .int p5), (6, .int p6), (7, .int p7)]) (show decode _ _ = .ok (.istore 4, 2) by decide +kernel) (by decide) rfl ?_
  obtain ⟨x1, ex2⟩ : ∃ y : Int32, y = p5 + (1 : Int32) := ⟨_, rfl⟩
  have h_1 := h x1 ex2
  refine fw_iinc (i := 5) (x := p5) (v := x1) (ls' := [(5, .int x1), (4, .int p7), (3, .int p6), (2, .int p5), (0, .ref p0), (1, .int p1), (6, .int p6), (7, .int p7)]) 5 rfl (show decode _ _ = .ok (.iinc 5 1, 3) by decide +kernel) (by rw [ex2]; rfl) (by decide) rfl ?_
  refine fw_goto 10 (show decode _ _ = .ok (.goto (-103), 3) by decide +kernel) (by decide) ?_
  refine FW.sub [4, 5, 3, 2, 1, 0] (ls' := [(0, .ref p0), (1, .int p1), (2, .int p5), (3, .int p6), (4, .int p7), (5, .int x1)]) rfl ?_
  exact hK10 _ _ _ _ _ _ _ h_1
def b_X11_legsOf_25 (K10 : Nat → Int32 → Int32 → Int32 → Int32 → Int32 → fM → Prop) (K25 : Nat → Int32 → Int32 → Int32 → Int32 → Int32 → Int32 → Int32 → Int32 → fM → Prop) (φ : Int32 → fM → Prop) (p0 : Nat) (p1 : Int32) (p2 : Int32) (p3 : Int32) (p4 : Int32) (p5 : Int32) (p6 : Int32) (p7 : Int32) (p8 : Int32) (M : fM) : Prop := isO M p0 11 ∧ w_X11_shown p0 M fun x7 M3 => iF (x7 ≤ p8) (iF (p6 < p3) (nm (p5 + (1 : Int32)) fun x8 => K10 p0 p1 p2 p3 p4 x8 M3) (iF (p6 = 0) (nm (p5 + (1 : Int32)) fun x10 => K10 p0 p1 p2 p3 p4 x10 M3) (iF (p6 = p3) (iF (p4 ≤ p7) (j_X11_legsOf_100 K10 φ p0 p1 p5 p6 p7 M3) (nm (p5 + (1 : Int32)) fun x12 => K10 p0 p1 p2 p3 p4 x12 M3)) (j_X11_legsOf_100 K10 φ p0 p1 p5 p6 p7 M3)))) (isO M3 p0 11 ∧ w_X11_bookAt p0 p8 (0 : Int32) M3 fun x22 M18 => iF (x22 = p1) (isO M18 p0 11 ∧ w_X11_bookAt p0 p8 (1 : Int32) M18 fun x29 M25 => iF (x29 = p5) (nm (p6 + (1 : Int32)) fun x30 => nm (p8 + (1 : Int32)) fun x32 => K25 p0 p1 p2 p3 p4 p5 x30 p8 x32 M25) (nm (p8 + (1 : Int32)) fun x34 => K25 p0 p1 p2 p3 p4 p5 p6 p7 x34 M25)) (nm (p8 + (1 : Int32)) fun x23 => K25 p0 p1 p2 p3 p4 p5 p6 p7 x23 M18))
def l_X11_legsOf_25 (K10 : Nat → Int32 → Int32 → Int32 → Int32 → Int32 → fM → Prop) (φ : Int32 → fM → Prop) : Nat → Nat → Int32 → Int32 → Int32 → Int32 → Int32 → Int32 → Int32 → Int32 → fM → Prop
  | 0, _, _, _, _, _, _, _, _, _, _ => False
  | n + 1, p0, p1, p2, p3, p4, p5, p6, p7, p8, M => b_X11_legsOf_25 K10 (l_X11_legsOf_25 K10 φ n) φ p0 p1 p2 p3 p4 p5 p6 p7 p8 M
set_option maxRecDepth 100000 in
theorem sb_X11_legsOf_25 {g : GT} {d : Nat} (hd : 3 ≤ d + 1) {K10 : Nat → Int32 → Int32 → Int32 → Int32 → Int32 → fM → Prop} {K25 : Nat → Int32 → Int32 → Int32 → Int32 → Int32 → Int32 → Int32 → Int32 → fM → Prop} {φ : Int32 → fM → Prop} (hK10 : ∀ (p0 : Nat) (p1 : Int32) (p2 : Int32) (p3 : Int32) (p4 : Int32) (p5 : Int32) (M : fM), K10 p0 p1 p2 p3 p4 p5 M → FW g mtX11_legsOf (d + 1) 10 [(0, .ref p0), (1, .int p1), (2, .int p2), (3, .int p3), (4, .int p4), (5, .int p5)] [] M 0 0 (rI φ)) (hK25 : ∀ (p0 : Nat) (p1 : Int32) (p2 : Int32) (p3 : Int32) (p4 : Int32) (p5 : Int32) (p6 : Int32) (p7 : Int32) (p8 : Int32) (M : fM), K25 p0 p1 p2 p3 p4 p5 p6 p7 p8 M → FW g mtX11_legsOf (d + 1) 25 [(0, .ref p0), (1, .int p1), (2, .int p2), (3, .int p3), (4, .int p4), (5, .int p5), (6, .int p6), (7, .int p7), (8, .int p8)] [] M 0 0 (rI φ)) {p0 : Nat} {p1 : Int32} {p2 : Int32} {p3 : Int32} {p4 : Int32} {p5 : Int32} {p6 : Int32} {p7 : Int32} {p8 : Int32} {M : fM} (h : b_X11_legsOf_25 K10 K25 φ p0 p1 p2 p3 p4 p5 p6 p7 p8 M) : FW g mtX11_legsOf (d + 1) 25 [(0, .ref p0), (1, .int p1), (2, .int p2), (3, .int p3), (4, .int p4), (5, .int p5), (6, .int p6), (7, .int p7), (8, .int p8)] [] M 0 0 (rI φ) := by
  unfold b_X11_legsOf_25 at h
  refine fw_iload (i := 8) 8 rfl (show decode _ _ = .ok (.iload 8, 2) by decide +kernel) ?_
  refine fw_aload_n (i := 0) 0 rfl (show decode _ _ = .ok (.aload_n 0, 1) by decide +kernel) ?_
  obtain ⟨⟨hr5, n4, hs6⟩, h_1⟩ := h
  refine fw_callV (mt' := mtX11_shown) (mc := 0) (ms := 0) (As := []) (rest := [.int p8]) 0 11 n4 (show decode _ _ = .ok (.invokevirtual 402, 3) by decide +kernel) cv_X11_402 ⟨_, rfl, rfl⟩ hr5 hs6 rfl (Nat.le_of_ble_eq_true rfl) (s_X11_shown (d := d) (hd_le hd (by decide)) h_1) (by decide) (by decide) (kI (bc' := 0) (bs' := 0) (by decide) (by decide) (fun x7 M3 h_2 => ?_))
  refine fw_icmp_ge 73 (show decode _ _ = .ok (.if_icmp .ge 42, 3) by decide +kernel) (by decide) (fun hc38 => ?_) (fun hc38 => ?_)
  · have h_3 := ipos hc38 h_2
    refine fw_iload (i := 6) 6 rfl (show decode _ _ = .ok (.iload 6, 2) by decide +kernel) ?_
    refine fw_iload_n (i := 3) 3 rfl (show decode _ _ = .ok (.iload_n 3, 1) by decide +kernel) ?_
    refine fw_icmp_lt 110 (show decode _ _ = .ok (.if_icmp .lt 34, 3) by decide +kernel) (by decide) (fun hc17 => ?_) (fun hc17 => ?_)
    · have h_4 := ipos hc17 h_3
      obtain ⟨x8, ex9⟩ : ∃ y : Int32, y = p5 + (1 : Int32) := ⟨_, rfl⟩
      have h_5 := h_4 x8 ex9
      refine fw_iinc (i := 5) (x := p5) (v := x8) (ls' := [(5, .int x8), (0, .ref p0), (1, .int p1), (2, .int p2), (3, .int p3), (4, .int p4), (6, .int p6), (7, .int p7), (8, .int p8)]) 5 rfl (show decode _ _ = .ok (.iinc 5 1, 3) by decide +kernel) (by rw [ex9]; rfl) (by decide) rfl ?_
      refine fw_goto 10 (show decode _ _ = .ok (.goto (-103), 3) by decide +kernel) (by decide) ?_
      refine FW.sub [1, 2, 3, 4, 5, 0] (ls' := [(0, .ref p0), (1, .int p1), (2, .int p2), (3, .int p3), (4, .int p4), (5, .int x8)]) rfl ?_
      exact hK10 _ _ _ _ _ _ _ h_5
    · have h_6 := ineg hc17 h_3
      refine fw_iload (i := 6) 6 rfl (show decode _ _ = .ok (.iload 6, 2) by decide +kernel) ?_
      refine fw_if_eq 110 (show decode _ _ = .ok (.ifCond .eq 29, 3) by decide +kernel) (by decide) (fun hc16 => ?_) (fun hc16 => ?_)
      · have h_7 := ipos hc16 h_6
        obtain ⟨x10, ex11⟩ : ∃ y : Int32, y = p5 + (1 : Int32) := ⟨_, rfl⟩
        have h_8 := h_7 x10 ex11
        refine fw_iinc (i := 5) (x := p5) (v := x10) (ls' := [(5, .int x10), (0, .ref p0), (1, .int p1), (2, .int p2), (3, .int p3), (4, .int p4), (6, .int p6), (7, .int p7), (8, .int p8)]) 5 rfl (show decode _ _ = .ok (.iinc 5 1, 3) by decide +kernel) (by rw [ex11]; rfl) (by decide) rfl ?_
        refine fw_goto 10 (show decode _ _ = .ok (.goto (-103), 3) by decide +kernel) (by decide) ?_
        refine FW.sub [1, 2, 3, 4, 5, 0] (ls' := [(0, .ref p0), (1, .int p1), (2, .int p2), (3, .int p3), (4, .int p4), (5, .int x10)]) rfl ?_
        exact hK10 _ _ _ _ _ _ _ h_8
      · have h_9 := ineg hc16 h_6
        refine fw_iload (i := 6) 6 rfl (show decode _ _ = .ok (.iload 6, 2) by decide +kernel) ?_
        refine fw_iload_n (i := 3) 3 rfl (show decode _ _ = .ok (.iload_n 3, 1) by decide +kernel) ?_
        refine fw_icmp_ne 100 (show decode _ _ = .ok (.if_icmp .ne 13, 3) by decide +kernel) (by decide) (fun hc15 => ?_) (fun hc15 => ?_)
        · have h_10 := ineg hc15 h_9
          refine FW.sub [0, 1, 5, 6, 7] (ls' := [(0, .ref p0), (1, .int p1), (5, .int p5), (6, .int p6), (7, .int p7)]) rfl ?_
          exact sj_X11_legsOf_100 hd hK10 h_10
        · have h_11 := ipos hc15 h_9
          refine fw_iload (i := 7) 7 rfl (show decode _ _ = .ok (.iload 7, 2) by decide +kernel) ?_
          refine fw_iload (i := 4) 4 rfl (show decode _ _ = .ok (.iload 4, 2) by decide +kernel) ?_
          refine fw_icmp_ge 100 (show decode _ _ = .ok (.if_icmp .ge 6, 3) by decide +kernel) (by decide) (fun hc14 => ?_) (fun hc14 => ?_)
          · have h_12 := ipos hc14 h_11
            refine FW.sub [0, 1, 5, 6, 7] (ls' := [(0, .ref p0), (1, .int p1), (5, .int p5), (6, .int p6), (7, .int p7)]) rfl ?_
            exact sj_X11_legsOf_100 hd hK10 h_12
          · have h_13 := ineg hc14 h_11
            refine fw_goto 110 (show decode _ _ = .ok (.goto 13, 3) by decide +kernel) (by decide) ?_
            obtain ⟨x12, ex13⟩ : ∃ y : Int32, y = p5 + (1 : Int32) := ⟨_, rfl⟩
            have h_14 := h_13 x12 ex13
            refine fw_iinc (i := 5) (x := p5) (v := x12) (ls' := [(5, .int x12), (0, .ref p0), (1, .int p1), (2, .int p2), (3, .int p3), (4, .int p4), (6, .int p6), (7, .int p7), (8, .int p8)]) 5 rfl (show decode _ _ = .ok (.iinc 5 1, 3) by decide +kernel) (by rw [ex13]; rfl) (by decide) rfl ?_
            refine fw_goto 10 (show decode _ _ = .ok (.goto (-103), 3) by decide +kernel) (by decide) ?_
            refine FW.sub [1, 2, 3, 4, 5, 0] (ls' := [(0, .ref p0), (1, .int p1), (2, .int p2), (3, .int p3), (4, .int p4), (5, .int x12)]) rfl ?_
            exact hK10 _ _ _ _ _ _ _ h_14
  · have h_15 := ineg hc38 h_2
    refine fw_aload_n (i := 0) 0 rfl (show decode _ _ = .ok (.aload_n 0, 1) by decide +kernel) ?_
    refine fw_iload (i := 8) 8 rfl (show decode _ _ = .ok (.iload 8, 2) by decide +kernel) ?_
    refine fw_iconst (v := (0 : Int32)) (show decode _ _ = .ok (.iconst 0, 1) by decide +kernel) (by decide) ?_
    obtain ⟨⟨hr20, n19, hs21⟩, h_16⟩ := h_15
    refine fw_callV (mt' := mtX11_bookAt) (mc := 0) (ms := 0) (As := [.int p8, .int (0 : Int32)]) (rest := []) 2 11 n19 (show decode _ _ = .ok (.invokevirtual 405, 3) by decide +kernel) cv_X11_405 ⟨_, rfl, rfl⟩ hr20 hs21 rfl (Nat.le_of_ble_eq_true rfl) (s_X11_bookAt (d := d) (hd_le hd (by decide)) h_16) (by decide) (by decide) (kI (bc' := 0) (bs' := 0) (by decide) (by decide) (fun x22 M18 h_17 => ?_))
    refine fw_iload_n (i := 1) 1 rfl (show decode _ _ = .ok (.iload_n 1, 1) by decide +kernel) ?_
    refine fw_icmp_ne 67 (show decode _ _ = .ok (.if_icmp .ne 25, 3) by decide +kernel) (by decide) (fun hc37 => ?_) (fun hc37 => ?_)
    · have h_18 := ineg hc37 h_17
      obtain ⟨x23, ex24⟩ : ∃ y : Int32, y = p8 + (1 : Int32) := ⟨_, rfl⟩
      have h_19 := h_18 x23 ex24
      refine fw_iinc (i := 8) (x := p8) (v := x23) (ls' := [(8, .int x23), (0, .ref p0), (1, .int p1), (2, .int p2), (3, .int p3), (4, .int p4), (5, .int p5), (6, .int p6), (7, .int p7)]) 8 rfl (show decode _ _ = .ok (.iinc 8 1, 3) by decide +kernel) (by rw [ex24]; rfl) (by decide) rfl ?_
      refine fw_goto 25 (show decode _ _ = .ok (.goto (-45), 3) by decide +kernel) (by decide) ?_
      refine FW.sub [1, 2, 3, 4, 5, 6, 7, 8, 0] (ls' := [(0, .ref p0), (1, .int p1), (2, .int p2), (3, .int p3), (4, .int p4), (5, .int p5), (6, .int p6), (7, .int p7), (8, .int x23)]) rfl ?_
      exact hK25 _ _ _ _ _ _ _ _ _ _ h_19
    · have h_20 := ipos hc37 h_17
      refine fw_aload_n (i := 0) 0 rfl (show decode _ _ = .ok (.aload_n 0, 1) by decide +kernel) ?_
      refine fw_iload (i := 8) 8 rfl (show decode _ _ = .ok (.iload 8, 2) by decide +kernel) ?_
      refine fw_iconst (v := (1 : Int32)) (show decode _ _ = .ok (.iconst 1, 1) by decide +kernel) (by decide) ?_
      obtain ⟨⟨hr27, n26, hs28⟩, h_21⟩ := h_20
      refine fw_callV (mt' := mtX11_bookAt) (mc := 0) (ms := 0) (As := [.int p8, .int (1 : Int32)]) (rest := []) 2 11 n26 (show decode _ _ = .ok (.invokevirtual 405, 3) by decide +kernel) cv_X11_405 ⟨_, rfl, rfl⟩ hr27 hs28 rfl (Nat.le_of_ble_eq_true rfl) (s_X11_bookAt (d := d) (hd_le hd (by decide)) h_21) (by decide) (by decide) (kI (bc' := 0) (bs' := 0) (by decide) (by decide) (fun x29 M25 h_22 => ?_))
      refine fw_iload (i := 5) 5 rfl (show decode _ _ = .ok (.iload 5, 2) by decide +kernel) ?_
      refine fw_icmp_eq 60 (show decode _ _ = .ok (.if_icmp .eq 6, 3) by decide +kernel) (by decide) (fun hc36 => ?_) (fun hc36 => ?_)
      · have h_23 := ipos hc36 h_22
        obtain ⟨x30, ex31⟩ : ∃ y : Int32, y = p6 + (1 : Int32) := ⟨_, rfl⟩
        have h_24 := h_23 x30 ex31
        refine fw_iinc (i := 6) (x := p6) (v := x30) (ls' := [(6, .int x30), (0, .ref p0), (1, .int p1), (2, .int p2), (3, .int p3), (4, .int p4), (5, .int p5), (7, .int p7), (8, .int p8)]) 6 rfl (show decode _ _ = .ok (.iinc 6 1, 3) by decide +kernel) (by rw [ex31]; rfl) (by decide) rfl ?_
        refine fw_iload (i := 8) 8 rfl (show decode _ _ = .ok (.iload 8, 2) by decide +kernel) ?_
        refine fw_istore (i := 7) (ls' := [(7, .int p8), (6, .int x30), (0, .ref p0), (1, .int p1), (2, .int p2), (3, .int p3), (4, .int p4), (5, .int p5), (8, .int p8)]) (show decode _ _ = .ok (.istore 7, 2) by decide +kernel) (by decide) rfl ?_
        obtain ⟨x32, ex33⟩ : ∃ y : Int32, y = p8 + (1 : Int32) := ⟨_, rfl⟩
        have h_25 := h_24 x32 ex33
        refine fw_iinc (i := 8) (x := p8) (v := x32) (ls' := [(8, .int x32), (7, .int p8), (6, .int x30), (0, .ref p0), (1, .int p1), (2, .int p2), (3, .int p3), (4, .int p4), (5, .int p5)]) 8 rfl (show decode _ _ = .ok (.iinc 8 1, 3) by decide +kernel) (by rw [ex33]; rfl) (by decide) rfl ?_
        refine fw_goto 25 (show decode _ _ = .ok (.goto (-45), 3) by decide +kernel) (by decide) ?_
        refine FW.sub [3, 4, 5, 6, 7, 8, 2, 1, 0] (ls' := [(0, .ref p0), (1, .int p1), (2, .int p2), (3, .int p3), (4, .int p4), (5, .int p5), (6, .int x30), (7, .int p8), (8, .int x32)]) rfl ?_
        exact hK25 _ _ _ _ _ _ _ _ _ _ h_25
      · have h_26 := ineg hc36 h_22
        refine fw_goto 67 (show decode _ _ = .ok (.goto 10, 3) by decide +kernel) (by decide) ?_
        obtain ⟨x34, ex35⟩ : ∃ y : Int32, y = p8 + (1 : Int32) := ⟨_, rfl⟩
        have h_27 := h_26 x34 ex35
        refine fw_iinc (i := 8) (x := p8) (v := x34) (ls' := [(8, .int x34), (0, .ref p0), (1, .int p1), (2, .int p2), (3, .int p3), (4, .int p4), (5, .int p5), (6, .int p6), (7, .int p7)]) 8 rfl (show decode _ _ = .ok (.iinc 8 1, 3) by decide +kernel) (by rw [ex35]; rfl) (by decide) rfl ?_
        refine fw_goto 25 (show decode _ _ = .ok (.goto (-45), 3) by decide +kernel) (by decide) ?_
        refine FW.sub [1, 2, 3, 4, 5, 6, 7, 8, 0] (ls' := [(0, .ref p0), (1, .int p1), (2, .int p2), (3, .int p3), (4, .int p4), (5, .int p5), (6, .int p6), (7, .int p7), (8, .int x34)]) rfl ?_
        exact hK25 _ _ _ _ _ _ _ _ _ _ h_27
theorem sl_X11_legsOf_25 {g : GT} {d : Nat} (hd : 3 ≤ d + 1) {K10 : Nat → Int32 → Int32 → Int32 → Int32 → Int32 → fM → Prop} {φ : Int32 → fM → Prop} (hK10 : ∀ (p0 : Nat) (p1 : Int32) (p2 : Int32) (p3 : Int32) (p4 : Int32) (p5 : Int32) (M : fM), K10 p0 p1 p2 p3 p4 p5 M → FW g mtX11_legsOf (d + 1) 10 [(0, .ref p0), (1, .int p1), (2, .int p2), (3, .int p3), (4, .int p4), (5, .int p5)] [] M 0 0 (rI φ)) : ∀ (n : Nat) {p0 : Nat} {p1 : Int32} {p2 : Int32} {p3 : Int32} {p4 : Int32} {p5 : Int32} {p6 : Int32} {p7 : Int32} {p8 : Int32} {M : fM}, l_X11_legsOf_25 K10 φ n p0 p1 p2 p3 p4 p5 p6 p7 p8 M → FW g mtX11_legsOf (d + 1) 25 [(0, .ref p0), (1, .int p1), (2, .int p2), (3, .int p3), (4, .int p4), (5, .int p5), (6, .int p6), (7, .int p7), (8, .int p8)] [] M 0 0 (rI φ)
  | 0 => fun h => h.elim
  | n + 1 => fun h => sb_X11_legsOf_25 hd hK10 (fun _ _ _ _ _ _ _ _ _ _ h => sl_X11_legsOf_25 hd hK10 n h) h
def b_X11_legsOf_10 (K10 : Nat → Int32 → Int32 → Int32 → Int32 → Int32 → fM → Prop) (φ : Int32 → fM → Prop) (p0 : Nat) (p1 : Int32) (p2 : Int32) (p3 : Int32) (p4 : Int32) (p5 : Int32) (M : fM) : Prop := iF ((4 : Int32) ≤ p5) (iF (0 ≤ p2) (isO M p0 11 ∧ w_X11_stepsOf p0 p2 M fun x43 M39 => φ x43 M39) (φ (-1 : Int32) M)) (∃ n, l_X11_legsOf_25 K10 φ n p0 p1 p2 p3 p4 p5 (0 : Int32) (-1 : Int32) (0 : Int32) M)
def l_X11_legsOf_10 (φ : Int32 → fM → Prop) : Nat → Nat → Int32 → Int32 → Int32 → Int32 → Int32 → fM → Prop
  | 0, _, _, _, _, _, _, _ => False
  | n + 1, p0, p1, p2, p3, p4, p5, M => b_X11_legsOf_10 (l_X11_legsOf_10 φ n) φ p0 p1 p2 p3 p4 p5 M
set_option maxRecDepth 100000 in
theorem sb_X11_legsOf_10 {g : GT} {d : Nat} (hd : 3 ≤ d + 1) {K10 : Nat → Int32 → Int32 → Int32 → Int32 → Int32 → fM → Prop} {φ : Int32 → fM → Prop} (hK10 : ∀ (p0 : Nat) (p1 : Int32) (p2 : Int32) (p3 : Int32) (p4 : Int32) (p5 : Int32) (M : fM), K10 p0 p1 p2 p3 p4 p5 M → FW g mtX11_legsOf (d + 1) 10 [(0, .ref p0), (1, .int p1), (2, .int p2), (3, .int p3), (4, .int p4), (5, .int p5)] [] M 0 0 (rI φ)) {p0 : Nat} {p1 : Int32} {p2 : Int32} {p3 : Int32} {p4 : Int32} {p5 : Int32} {M : fM} (h : b_X11_legsOf_10 K10 φ p0 p1 p2 p3 p4 p5 M) : FW g mtX11_legsOf (d + 1) 10 [(0, .ref p0), (1, .int p1), (2, .int p2), (3, .int p3), (4, .int p4), (5, .int p5)] [] M 0 0 (rI φ) := by
  unfold b_X11_legsOf_10 at h
  refine fw_iload (i := 5) 5 rfl (show decode _ _ = .ok (.iload 5, 2) by decide +kernel) ?_
  refine fw_iconst (v := (4 : Int32)) (show decode _ _ = .ok (.iconst 4, 1) by decide +kernel) (by decide) ?_
  refine fw_icmp_ge 116 (show decode _ _ = .ok (.if_icmp .ge 103, 3) by decide +kernel) (by decide) (fun hc45 => ?_) (fun hc45 => ?_)
  · have h_1 := ipos hc45 h
    refine fw_iload_n (i := 2) 2 rfl (show decode _ _ = .ok (.iload_n 2, 1) by decide +kernel) ?_
    refine fw_if_ge 124 (show decode _ _ = .ok (.ifCond .ge 7, 3) by decide +kernel) (by decide) (fun hc44 => ?_) (fun hc44 => ?_)
    · have h_2 := ipos hc44 h_1
      refine fw_aload_n (i := 0) 0 rfl (show decode _ _ = .ok (.aload_n 0, 1) by decide +kernel) ?_
      refine fw_iload_n (i := 2) 2 rfl (show decode _ _ = .ok (.iload_n 2, 1) by decide +kernel) ?_
      obtain ⟨⟨hr41, n40, hs42⟩, h_3⟩ := h_2
      refine fw_callV (mt' := mtX11_stepsOf) (mc := 0) (ms := 0) (As := [.int p2]) (rest := []) 1 11 n40 (show decode _ _ = .ok (.invokevirtual 74, 3) by decide +kernel) cv_X11_74 ⟨_, rfl, rfl⟩ hr41 hs42 rfl (Nat.le_of_ble_eq_true rfl) (s_X11_stepsOf (d := d) (hd_le hd (by decide)) h_3) (by decide) (by decide) (kI (bc' := 0) (bs' := 0) (by decide) (by decide) (fun x43 M39 h_4 => ?_))
      exact fw_ret (v := some (.int x43)) .ireturn (show decode _ _ = .ok (.ireturn, 1) by decide +kernel) ⟨rfl, Or.inl rfl⟩ ⟨_, rfl, h_4⟩
    · have h_5 := ineg hc44 h_1
      refine fw_iconst (v := (-1 : Int32)) (show decode _ _ = .ok (.iconst (-1), 1) by decide +kernel) (by decide) ?_
      refine fw_goto 129 (show decode _ _ = .ok (.goto 8, 3) by decide +kernel) (by decide) ?_
      exact fw_ret (v := some (.int (-1 : Int32))) .ireturn (show decode _ _ = .ok (.ireturn, 1) by decide +kernel) ⟨rfl, Or.inl rfl⟩ ⟨_, rfl, h_5⟩
  · have h_6 := ineg hc45 h
    refine fw_iconst (v := (0 : Int32)) (show decode _ _ = .ok (.iconst 0, 1) by decide +kernel) (by decide) ?_
    refine fw_istore (i := 6) (ls' := [(6, .int (0 : Int32)), (0, .ref p0), (1, .int p1), (2, .int p2), (3, .int p3), (4, .int p4), (5, .int p5)]) (show decode _ _ = .ok (.istore 6, 2) by decide +kernel) (by decide) rfl ?_
    refine fw_iconst (v := (-1 : Int32)) (show decode _ _ = .ok (.iconst (-1), 1) by decide +kernel) (by decide) ?_
    refine fw_istore (i := 7) (ls' := [(7, .int (-1 : Int32)), (6, .int (0 : Int32)), (0, .ref p0), (1, .int p1), (2, .int p2), (3, .int p3), (4, .int p4), (5, .int p5)]) (show decode _ _ = .ok (.istore 7, 2) by decide +kernel) (by decide) rfl ?_
    refine fw_iconst (v := (0 : Int32)) (show decode _ _ = .ok (.iconst 0, 1) by decide +kernel) (by decide) ?_
    refine fw_istore (i := 8) (ls' := [(8, .int (0 : Int32)), (7, .int (-1 : Int32)), (6, .int (0 : Int32)), (0, .ref p0), (1, .int p1), (2, .int p2), (3, .int p3), (4, .int p4), (5, .int p5)]) (show decode _ _ = .ok (.istore 8, 2) by decide +kernel) (by decide) rfl ?_
    refine FW.sub [3, 4, 5, 6, 7, 8, 2, 1, 0] (ls' := [(0, .ref p0), (1, .int p1), (2, .int p2), (3, .int p3), (4, .int p4), (5, .int p5), (6, .int (0 : Int32)), (7, .int (-1 : Int32)), (8, .int (0 : Int32))]) rfl ?_
    obtain ⟨nn, h_7⟩ := h_6
    exact sl_X11_legsOf_25 hd hK10 nn h_7
theorem sl_X11_legsOf_10 {g : GT} {d : Nat} (hd : 3 ≤ d + 1) {φ : Int32 → fM → Prop} : ∀ (n : Nat) {p0 : Nat} {p1 : Int32} {p2 : Int32} {p3 : Int32} {p4 : Int32} {p5 : Int32} {M : fM}, l_X11_legsOf_10 φ n p0 p1 p2 p3 p4 p5 M → FW g mtX11_legsOf (d + 1) 10 [(0, .ref p0), (1, .int p1), (2, .int p2), (3, .int p3), (4, .int p4), (5, .int p5)] [] M 0 0 (rI φ)
  | 0 => fun h => h.elim
  | n + 1 => fun h => sb_X11_legsOf_10 hd (fun _ _ _ _ _ _ _ h => sl_X11_legsOf_10 hd n h) h
def w_X11_legsOf (p0 : Nat) (p1 : Int32) (M : fM) (φ : Int32 → fM → Prop) : Prop := ∃ n, l_X11_legsOf_10 φ n p0 p1 (-1 : Int32) (0 : Int32) (-1 : Int32) (0 : Int32) M
set_option maxRecDepth 100000 in
theorem s_X11_legsOf {g : GT} {d : Nat} (hd : 3 ≤ d) {p0 : Nat} {p1 : Int32} {M : fM} {φ : Int32 → fM → Prop} (h : w_X11_legsOf p0 p1 M φ) : FC g mtX11_legsOf d [.ref p0, .int p1] M 0 0 (rI φ) := by
  obtain ⟨d, rfl⟩ : ∃ e, d = e + 1 := ⟨d - 1, by omega⟩
  unfold w_X11_legsOf at h
  refine FC.intro (nL := 9) (by decide) rfl (Nat.le_of_ble_eq_true rfl) ?_
  show FW g mtX11_legsOf (d + 1) 0 [(0, .ref p0), (1, .int p1)] [] M 0 0 (rI φ)
  refine fw_iconst (v := (-1 : Int32)) (show decode _ _ = .ok (.iconst (-1), 1) by decide +kernel) (by decide) ?_
  refine fw_istore_n (i := 2) (ls' := [(2, .int (-1 : Int32)), (0, .ref p0), (1, .int p1)]) (show decode _ _ = .ok (.istore_n 2, 1) by decide +kernel) (by decide) rfl ?_
  refine fw_iconst (v := (0 : Int32)) (show decode _ _ = .ok (.iconst 0, 1) by decide +kernel) (by decide) ?_
  refine fw_istore_n (i := 3) (ls' := [(3, .int (0 : Int32)), (2, .int (-1 : Int32)), (0, .ref p0), (1, .int p1)]) (show decode _ _ = .ok (.istore_n 3, 1) by decide +kernel) (by decide) rfl ?_
  refine fw_iconst (v := (-1 : Int32)) (show decode _ _ = .ok (.iconst (-1), 1) by decide +kernel) (by decide) ?_
  refine fw_istore (i := 4) (ls' := [(4, .int (-1 : Int32)), (3, .int (0 : Int32)), (2, .int (-1 : Int32)), (0, .ref p0), (1, .int p1)]) (show decode _ _ = .ok (.istore 4, 2) by decide +kernel) (by decide) rfl ?_
  refine fw_iconst (v := (0 : Int32)) (show decode _ _ = .ok (.iconst 0, 1) by decide +kernel) (by decide) ?_
  refine fw_istore (i := 5) (ls' := [(5, .int (0 : Int32)), (4, .int (-1 : Int32)), (3, .int (0 : Int32)), (2, .int (-1 : Int32)), (0, .ref p0), (1, .int p1)]) (show decode _ _ = .ok (.istore 5, 2) by decide +kernel) (by decide) rfl ?_
  refine FW.sub [4, 5, 3, 2, 1, 0] (ls' := [(0, .ref p0), (1, .int p1), (2, .int (-1 : Int32)), (3, .int (0 : Int32)), (4, .int (-1 : Int32)), (5, .int (0 : Int32))]) rfl ?_
  obtain ⟨nn, h_1⟩ := h
  exact sl_X11_legsOf_10 hd nn h_1
def w_X11_legs (p0 : Nat) (p1 : Int32) (p2 : Int32) (M : fM) (φ : Int32 → fM → Prop) : Prop := isO M p0 11 ∧ w_X11_isPerson p0 p1 M fun x5 M1 => iF (x5 = 0) (φ (-100 : Int32) M1) (w_X11_isIn p2 (-1 : Int32) (3 : Int32) M1 fun x7 M6 => iF (x7 = 0) (φ (-100 : Int32) M6) (isO M6 p0 11 ∧ w_X11_legsOf p0 p1 M6 fun x12 M8 => iF (p2 = (-1 : Int32)) (φ x12 M8) (iF (0 ≤ x12) (isO M8 p0 11 ∧ w_X11_stepsOf p0 p2 M8 fun x17 M13 => φ (x12 - x17) M13) (φ (-100 : Int32) M8))))
set_option maxRecDepth 100000 in
theorem s_X11_legs {g : GT} {d : Nat} (hd : 4 ≤ d) {p0 : Nat} {p1 : Int32} {p2 : Int32} {M : fM} {φ : Int32 → fM → Prop} (h : w_X11_legs p0 p1 p2 M φ) : FC g mtX11_legs d [.ref p0, .int p1, .int p2] M 0 0 (rI φ) := by
  obtain ⟨d, rfl⟩ : ∃ e, d = e + 1 := ⟨d - 1, by omega⟩
  unfold w_X11_legs at h
  refine FC.intro (nL := 4) (by decide) rfl (Nat.le_of_ble_eq_true rfl) ?_
  show FW g mtX11_legs (d + 1) 0 [(0, .ref p0), (1, .int p1), (2, .int p2)] [] M 0 0 (rI φ)
  refine fw_aload_n (i := 0) 0 rfl (show decode _ _ = .ok (.aload_n 0, 1) by decide +kernel) ?_
  refine fw_iload_n (i := 1) 1 rfl (show decode _ _ = .ok (.iload_n 1, 1) by decide +kernel) ?_
  obtain ⟨⟨hr3, n2, hs4⟩, h_1⟩ := h
  refine fw_callV (mt' := mtX11_isPerson) (mc := 0) (ms := 0) (As := [.int p1]) (rest := []) 1 11 n2 (show decode _ _ = .ok (.invokevirtual 322, 3) by decide +kernel) cv_X11_322 ⟨_, rfl, rfl⟩ hr3 hs4 rfl (Nat.le_of_ble_eq_true rfl) (s_X11_isPerson (d := d) (hd_le hd (by decide)) h_1) (by decide) (by decide) (kI (bc' := 0) (bs' := 0) (by decide) (by decide) (fun x5 M1 h_2 => ?_))
  refine fw_if_eq 17 (show decode _ _ = .ok (.ifCond .eq 12, 3) by decide +kernel) (by decide) (fun hc21 => ?_) (fun hc21 => ?_)
  · have h_3 := ipos hc21 h_2
    refine fw_bipush (v := (-100 : Int32)) (show decode _ _ = .ok (.bipush (-100), 2) by decide +kernel) (by decide) ?_
    exact fw_ret (v := some (.int (-100 : Int32))) .ireturn (show decode _ _ = .ok (.ireturn, 1) by decide +kernel) ⟨rfl, Or.inl rfl⟩ ⟨_, rfl, h_3⟩
  · have h_4 := ineg hc21 h_2
    refine fw_iload_n (i := 2) 2 rfl (show decode _ _ = .ok (.iload_n 2, 1) by decide +kernel) ?_
    refine fw_iconst (v := (-1 : Int32)) (show decode _ _ = .ok (.iconst (-1), 1) by decide +kernel) (by decide) ?_
    refine fw_iconst (v := (3 : Int32)) (show decode _ _ = .ok (.iconst 3, 1) by decide +kernel) (by decide) ?_
    refine fw_callS (mt' := mtX11_isIn) (mc := 0) (ms := 0) (As := [.int p2, .int (-1 : Int32), .int (3 : Int32)]) (rest := []) 3 (show decode _ _ = .ok (.invokestatic 66, 3) by decide +kernel) cs_X11_66 rfl (Nat.le_of_ble_eq_true rfl) (s_X11_isIn (d := d) (hd_le hd (by decide)) h_4) (by decide) (by decide) (kI (bc' := 0) (bs' := 0) (by decide) (by decide) (fun x7 M6 h_5 => ?_))
    refine fw_if_ne 20 (show decode _ _ = .ok (.ifCond .ne 6, 3) by decide +kernel) (by decide) (fun hc20 => ?_) (fun hc20 => ?_)
    · have h_6 := ineg hc20 h_5
      refine fw_aload_n (i := 0) 0 rfl (show decode _ _ = .ok (.aload_n 0, 1) by decide +kernel) ?_
      refine fw_iload_n (i := 1) 1 rfl (show decode _ _ = .ok (.iload_n 1, 1) by decide +kernel) ?_
      obtain ⟨⟨hr10, n9, hs11⟩, h_7⟩ := h_6
      refine fw_callV (mt' := mtX11_legsOf) (mc := 0) (ms := 0) (As := [.int p1]) (rest := []) 1 11 n9 (show decode _ _ = .ok (.invokevirtual 463, 3) by decide +kernel) cv_X11_463 ⟨_, rfl, rfl⟩ hr10 hs11 rfl (Nat.le_of_ble_eq_true rfl) (s_X11_legsOf (d := d) (hd_le hd (by decide)) h_7) (by decide) (by decide) (kI (bc' := 0) (bs' := 0) (by decide) (by decide) (fun x12 M8 h_8 => ?_))
      refine fw_istore_n (i := 3) (ls' := [(3, .int x12), (0, .ref p0), (1, .int p1), (2, .int p2)]) (show decode _ _ = .ok (.istore_n 3, 1) by decide +kernel) (by decide) rfl ?_
      refine fw_iload_n (i := 2) 3 rfl (show decode _ _ = .ok (.iload_n 2, 1) by decide +kernel) ?_
      refine fw_iconst (v := (-1 : Int32)) (show decode _ _ = .ok (.iconst (-1), 1) by decide +kernel) (by decide) ?_
      refine fw_icmp_ne 33 (show decode _ _ = .ok (.if_icmp .ne 5, 3) by decide +kernel) (by decide) (fun hc19 => ?_) (fun hc19 => ?_)
      · have h_9 := ineg hc19 h_8
        refine fw_iload_n (i := 3) 0 rfl (show decode _ _ = .ok (.iload_n 3, 1) by decide +kernel) ?_
        refine fw_if_ge 42 (show decode _ _ = .ok (.ifCond .ge 8, 3) by decide +kernel) (by decide) (fun hc18 => ?_) (fun hc18 => ?_)
        · have h_10 := ipos hc18 h_9
          refine fw_iload_n (i := 3) 0 rfl (show decode _ _ = .ok (.iload_n 3, 1) by decide +kernel) ?_
          refine fw_aload_n (i := 0) 1 rfl (show decode _ _ = .ok (.aload_n 0, 1) by decide +kernel) ?_
          refine fw_iload_n (i := 2) 3 rfl (show decode _ _ = .ok (.iload_n 2, 1) by decide +kernel) ?_
          obtain ⟨⟨hr15, n14, hs16⟩, h_11⟩ := h_10
          refine fw_callV (mt' := mtX11_stepsOf) (mc := 0) (ms := 0) (As := [.int p2]) (rest := [.int x12]) 1 11 n14 (show decode _ _ = .ok (.invokevirtual 74, 3) by decide +kernel) cv_X11_74 ⟨_, rfl, rfl⟩ hr15 hs16 rfl (Nat.le_of_ble_eq_true rfl) (s_X11_stepsOf (d := d) (hd_le hd (by decide)) h_11) (by decide) (by decide) (kI (bc' := 0) (bs' := 0) (by decide) (by decide) (fun x17 M13 h_12 => ?_))
          refine fw_isub (show decode _ _ = .ok (.isub, 1) by decide +kernel) ?_
          exact fw_ret (v := some (.int (x12 - x17))) .ireturn (show decode _ _ = .ok (.ireturn, 1) by decide +kernel) ⟨rfl, Or.inl rfl⟩ ⟨_, rfl, h_12⟩
        · have h_13 := ineg hc18 h_9
          refine fw_bipush (v := (-100 : Int32)) (show decode _ _ = .ok (.bipush (-100), 2) by decide +kernel) (by decide) ?_
          refine fw_goto 49 (show decode _ _ = .ok (.goto 10, 3) by decide +kernel) (by decide) ?_
          exact fw_ret (v := some (.int (-100 : Int32))) .ireturn (show decode _ _ = .ok (.ireturn, 1) by decide +kernel) ⟨rfl, Or.inl rfl⟩ ⟨_, rfl, h_13⟩
      · have h_14 := ipos hc19 h_8
        refine fw_iload_n (i := 3) 0 rfl (show decode _ _ = .ok (.iload_n 3, 1) by decide +kernel) ?_
        exact fw_ret (v := some (.int x12)) .ireturn (show decode _ _ = .ok (.ireturn, 1) by decide +kernel) ⟨rfl, Or.inl rfl⟩ ⟨_, rfl, h_14⟩
    · have h_15 := ipos hc20 h_5
      refine fw_bipush (v := (-100 : Int32)) (show decode _ _ = .ok (.bipush (-100), 2) by decide +kernel) (by decide) ?_
      exact fw_ret (v := some (.int (-100 : Int32))) .ireturn (show decode _ _ = .ok (.ireturn, 1) by decide +kernel) ⟨rfl, Or.inl rfl⟩ ⟨_, rfl, h_15⟩
def j_X11_night_57 (K28 : Nat → Int32 → Int32 → fM → Prop) (φ : Int32 → fM → Prop) (p0 : Nat) (p1 : Int32) (p2 : Int32) (s0 : Int32) (s1 : Int32) (s2 : Nat) (M : fM) : Prop := 6 ≤ s2 ∧ inA M s2 12 s1 ∧ st (wI M s2 (ix s1) s0) fun M5 => nm (p2 + (1 : Int32)) fun x7 => K28 p0 p1 x7 M5
set_option maxRecDepth 100000 in
theorem sj_X11_night_57 {g : GT} {d : Nat} (hd : 3 ≤ d + 1) {K28 : Nat → Int32 → Int32 → fM → Prop} {φ : Int32 → fM → Prop} (hK28 : ∀ (p0 : Nat) (p1 : Int32) (p2 : Int32) (M : fM), K28 p0 p1 p2 M → FW g mtX11_night (d + 1) 28 [(0, .ref p0), (1, .int p1), (2, .int p2)] [] M 0 0 (rI φ)) {p0 : Nat} {p1 : Int32} {p2 : Int32} {s0 : Int32} {s1 : Int32} {s2 : Nat} {M : fM} (h : j_X11_night_57 K28 φ p0 p1 p2 s0 s1 s2 M) : FW g mtX11_night (d + 1) 57 [(0, .ref p0), (1, .int p1), (2, .int p2)] [.int s0, .int s1, .ref s2] M 0 0 (rI φ) := by
  unfold j_X11_night_57 at h
  obtain ⟨hr4, ⟨n1, hs2, hi3⟩, h_1⟩ := h
  refine fw_iast (show decode _ _ = .ok (.iastore, 1) by decide +kernel) hr4 hs2 hi3 ?_
  refine FW.nmM (fun M5 eM6 => ?_)
  have h_2 := h_1 M5 eM6
  obtain ⟨x7, ex8⟩ : ∃ y : Int32, y = p2 + (1 : Int32) := ⟨_, rfl⟩
  have h_3 := h_2 x7 ex8
  refine fw_iinc (i := 2) (x := p2) (v := x7) (ls' := [(2, .int x7), (0, .ref p0), (1, .int p1)]) 2 rfl (show decode _ _ = .ok (.iinc 2 1, 3) by decide +kernel) (by rw [ex8]; rfl) (by decide) rfl ?_
  refine fw_goto 28 (show decode _ _ = .ok (.goto (-33), 3) by decide +kernel) (by decide) ?_
  refine FW.sub [1, 2, 0] (ls' := [(0, .ref p0), (1, .int p1), (2, .int x7)]) rfl ?_
  exact hK28 _ _ _ _ h_3
def b_X11_night_28 (K28 : Nat → Int32 → Int32 → fM → Prop) (φ : Int32 → fM → Prop) (p0 : Nat) (p1 : Int32) (p2 : Int32) (M : fM) : Prop := iF (p1 ≤ p2) (isO M p0 11 ∧ dR (mP M p0 0) fun y12 => inA M y12 12 (1 : Int32) ∧ φ (mI M y12 (ix (1 : Int32))) M) (isO M p0 11 ∧ dR (mP M p0 0) fun y20 => w_X11_nightNow p0 M fun x23 M22 => iF (x23 = 0) (j_X11_night_57 K28 φ p0 p1 p2 (999 : Int32) (1 : Int32) y20 M22) (isO M22 p0 11 ∧ dR (mP M22 p0 0) fun y27 => inA M22 y27 12 (1 : Int32) ∧ j_X11_night_57 K28 φ p0 p1 p2 (mI M22 y27 (ix (1 : Int32))) (1 : Int32) y20 M22))
def l_X11_night_28 (φ : Int32 → fM → Prop) : Nat → Nat → Int32 → Int32 → fM → Prop
  | 0, _, _, _, _ => False
  | n + 1, p0, p1, p2, M => b_X11_night_28 (l_X11_night_28 φ n) φ p0 p1 p2 M
set_option maxRecDepth 100000 in
theorem sb_X11_night_28 {g : GT} {d : Nat} (hd : 3 ≤ d + 1) {K28 : Nat → Int32 → Int32 → fM → Prop} {φ : Int32 → fM → Prop} (hK28 : ∀ (p0 : Nat) (p1 : Int32) (p2 : Int32) (M : fM), K28 p0 p1 p2 M → FW g mtX11_night (d + 1) 28 [(0, .ref p0), (1, .int p1), (2, .int p2)] [] M 0 0 (rI φ)) {p0 : Nat} {p1 : Int32} {p2 : Int32} {M : fM} (h : b_X11_night_28 K28 φ p0 p1 p2 M) : FW g mtX11_night (d + 1) 28 [(0, .ref p0), (1, .int p1), (2, .int p2)] [] M 0 0 (rI φ) := by
  unfold b_X11_night_28 at h
  refine fw_iload_n (i := 2) 2 rfl (show decode _ _ = .ok (.iload_n 2, 1) by decide +kernel) ?_
  refine fw_iload_n (i := 1) 1 rfl (show decode _ _ = .ok (.iload_n 1, 1) by decide +kernel) ?_
  refine fw_icmp_ge 64 (show decode _ _ = .ok (.if_icmp .ge 34, 3) by decide +kernel) (by decide) (fun hc33 => ?_) (fun hc33 => ?_)
  · have h_1 := ipos hc33 h
    refine fw_aload_n (i := 0) 0 rfl (show decode _ _ = .ok (.aload_n 0, 1) by decide +kernel) ?_
    obtain ⟨⟨hr10, n9, hs11⟩, h_2⟩ := h_1
    refine fw_getP (kd := 11) (k := 0) (show decode _ _ = .ok (.getfield 7, 3) by decide +kernel) gf_X11_7 hr10 hs11 rfl ?_
    have h_3 := dR_e h_2
    obtain ⟨y12, hy13, h_4⟩ := h_3
    refine fw_deref hy13 ?_
    refine fw_iconst (v := (1 : Int32)) (show decode _ _ = .ok (.iconst 1, 1) by decide +kernel) (by decide) ?_
    obtain ⟨⟨n14, hs15, hi16⟩, h_5⟩ := h_4
    refine fw_iald (show decode _ _ = .ok (.iaload, 1) by decide +kernel) hs15 hi16 ?_
    exact fw_ret (v := some (.int (mI M y12 (ix (1 : Int32))))) .ireturn (show decode _ _ = .ok (.ireturn, 1) by decide +kernel) ⟨rfl, Or.inl rfl⟩ ⟨_, rfl, h_5⟩
  · have h_6 := ineg hc33 h
    refine fw_aload_n (i := 0) 0 rfl (show decode _ _ = .ok (.aload_n 0, 1) by decide +kernel) ?_
    obtain ⟨⟨hr18, n17, hs19⟩, h_7⟩ := h_6
    refine fw_getP (kd := 11) (k := 0) (show decode _ _ = .ok (.getfield 7, 3) by decide +kernel) gf_X11_7 hr18 hs19 rfl ?_
    have h_8 := dR_e h_7
    obtain ⟨y20, hy21, h_9⟩ := h_8
    refine fw_deref hy21 ?_
    refine fw_iconst (v := (1 : Int32)) (show decode _ _ = .ok (.iconst 1, 1) by decide +kernel) (by decide) ?_
    refine fw_aload_n (i := 0) 0 rfl (show decode _ _ = .ok (.aload_n 0, 1) by decide +kernel) ?_
    refine fw_callV (mt' := mtX11_nightNow) (mc := 0) (ms := 0) (As := []) (rest := [.int (1 : Int32), .ref y20]) 0 11 n17 (show decode _ _ = .ok (.invokevirtual 365, 3) by decide +kernel) cv_X11_365 ⟨_, rfl, rfl⟩ hr18 hs19 rfl (Nat.le_of_ble_eq_true rfl) (s_X11_nightNow (d := d) (hd_le hd (by decide)) h_9) (by decide) (by decide) (kI (bc' := 0) (bs' := 0) (by decide) (by decide) (fun x23 M22 h_10 => ?_))
    refine fw_if_eq 54 (show decode _ _ = .ok (.ifCond .eq 12, 3) by decide +kernel) (by decide) (fun hc32 => ?_) (fun hc32 => ?_)
    · have h_11 := ipos hc32 h_10
      refine fw_sipush (v := (999 : Int32)) (show decode _ _ = .ok (.sipush 999, 3) by decide +kernel) (by decide) ?_
      refine FW.sub [0, 1, 2] (ls' := [(0, .ref p0), (1, .int p1), (2, .int p2)]) rfl ?_
      exact sj_X11_night_57 hd hK28 h_11
    · have h_12 := ineg hc32 h_10
      refine fw_aload_n (i := 0) 0 rfl (show decode _ _ = .ok (.aload_n 0, 1) by decide +kernel) ?_
      obtain ⟨⟨hr25, n24, hs26⟩, h_13⟩ := h_12
      refine fw_getP (kd := 11) (k := 0) (show decode _ _ = .ok (.getfield 7, 3) by decide +kernel) gf_X11_7 hr25 hs26 rfl ?_
      have h_14 := dR_e h_13
      obtain ⟨y27, hy28, h_15⟩ := h_14
      refine fw_deref hy28 ?_
      refine fw_iconst (v := (1 : Int32)) (show decode _ _ = .ok (.iconst 1, 1) by decide +kernel) (by decide) ?_
      obtain ⟨⟨n29, hs30, hi31⟩, h_16⟩ := h_15
      refine fw_iald (show decode _ _ = .ok (.iaload, 1) by decide +kernel) hs30 hi31 ?_
      refine fw_goto 57 (show decode _ _ = .ok (.goto 6, 3) by decide +kernel) (by decide) ?_
      refine FW.sub [0, 1, 2] (ls' := [(0, .ref p0), (1, .int p1), (2, .int p2)]) rfl ?_
      exact sj_X11_night_57 hd hK28 h_16
theorem sl_X11_night_28 {g : GT} {d : Nat} (hd : 3 ≤ d + 1) {φ : Int32 → fM → Prop} : ∀ (n : Nat) {p0 : Nat} {p1 : Int32} {p2 : Int32} {M : fM}, l_X11_night_28 φ n p0 p1 p2 M → FW g mtX11_night (d + 1) 28 [(0, .ref p0), (1, .int p1), (2, .int p2)] [] M 0 0 (rI φ)
  | 0 => fun h => h.elim
  | n + 1 => fun h => sb_X11_night_28 hd (fun _ _ _ _ h => sl_X11_night_28 hd n h) h
def w_X11_night (p0 : Nat) (p1 : Int32) (M : fM) (φ : Int32 → fM → Prop) : Prop := w_X11_isIn p1 (1 : Int32) (99 : Int32) M fun x35 M34 => iF (x35 = 0) (φ (-1 : Int32) M34) (isO M34 p0 11 ∧ dR (mP M34 p0 0) fun y39 => inA M34 y39 12 (1 : Int32) ∧ iF (((mI M34 y39 (ix (1 : Int32))) + p1) ≤ (999 : Int32)) (∃ n, l_X11_night_28 φ n p0 p1 (0 : Int32) M34) (φ (-1 : Int32) M34))
set_option maxRecDepth 100000 in
theorem s_X11_night {g : GT} {d : Nat} (hd : 3 ≤ d) {p0 : Nat} {p1 : Int32} {M : fM} {φ : Int32 → fM → Prop} (h : w_X11_night p0 p1 M φ) : FC g mtX11_night d [.ref p0, .int p1] M 0 0 (rI φ) := by
  obtain ⟨d, rfl⟩ : ∃ e, d = e + 1 := ⟨d - 1, by omega⟩
  unfold w_X11_night at h
  refine FC.intro (nL := 3) (by decide) rfl (Nat.le_of_ble_eq_true rfl) ?_
  show FW g mtX11_night (d + 1) 0 [(0, .ref p0), (1, .int p1)] [] M 0 0 (rI φ)
  refine fw_iload_n (i := 1) 1 rfl (show decode _ _ = .ok (.iload_n 1, 1) by decide +kernel) ?_
  refine fw_iconst (v := (1 : Int32)) (show decode _ _ = .ok (.iconst 1, 1) by decide +kernel) (by decide) ?_
  refine fw_bipush (v := (99 : Int32)) (show decode _ _ = .ok (.bipush 99, 2) by decide +kernel) (by decide) ?_
  refine fw_callS (mt' := mtX11_isIn) (mc := 0) (ms := 0) (As := [.int p1, .int (1 : Int32), .int (99 : Int32)]) (rest := []) 3 (show decode _ _ = .ok (.invokestatic 66, 3) by decide +kernel) cs_X11_66 rfl (Nat.le_of_ble_eq_true rfl) (s_X11_isIn (d := d) (hd_le hd (by decide)) h) (by decide) (by decide) (kI (bc' := 0) (bs' := 0) (by decide) (by decide) (fun x35 M34 h_1 => ?_))
  refine fw_if_eq 24 (show decode _ _ = .ok (.ifCond .eq 17, 3) by decide +kernel) (by decide) (fun hc45 => ?_) (fun hc45 => ?_)
  · have h_2 := ipos hc45 h_1
    refine fw_iconst (v := (-1 : Int32)) (show decode _ _ = .ok (.iconst (-1), 1) by decide +kernel) (by decide) ?_
    exact fw_ret (v := some (.int (-1 : Int32))) .ireturn (show decode _ _ = .ok (.ireturn, 1) by decide +kernel) ⟨rfl, Or.inl rfl⟩ ⟨_, rfl, h_2⟩
  · have h_3 := ineg hc45 h_1
    refine fw_aload_n (i := 0) 0 rfl (show decode _ _ = .ok (.aload_n 0, 1) by decide +kernel) ?_
    obtain ⟨⟨hr37, n36, hs38⟩, h_4⟩ := h_3
    refine fw_getP (kd := 11) (k := 0) (show decode _ _ = .ok (.getfield 7, 3) by decide +kernel) gf_X11_7 hr37 hs38 rfl ?_
    have h_5 := dR_e h_4
    obtain ⟨y39, hy40, h_6⟩ := h_5
    refine fw_deref hy40 ?_
    refine fw_iconst (v := (1 : Int32)) (show decode _ _ = .ok (.iconst 1, 1) by decide +kernel) (by decide) ?_
    obtain ⟨⟨n41, hs42, hi43⟩, h_7⟩ := h_6
    refine fw_iald (show decode _ _ = .ok (.iaload, 1) by decide +kernel) hs42 hi43 ?_
    refine fw_iload_n (i := 1) 1 rfl (show decode _ _ = .ok (.iload_n 1, 1) by decide +kernel) ?_
    refine fw_iadd (show decode _ _ = .ok (.iadd, 1) by decide +kernel) ?_
    refine fw_sipush (v := (999 : Int32)) (show decode _ _ = .ok (.sipush 999, 3) by decide +kernel) (by decide) ?_
    refine fw_icmp_le 26 (show decode _ _ = .ok (.if_icmp .le 5, 3) by decide +kernel) (by decide) (fun hc44 => ?_) (fun hc44 => ?_)
    · have h_8 := ipos hc44 h_7
      refine fw_iconst (v := (0 : Int32)) (show decode _ _ = .ok (.iconst 0, 1) by decide +kernel) (by decide) ?_
      refine fw_istore_n (i := 2) (ls' := [(2, .int (0 : Int32)), (0, .ref p0), (1, .int p1)]) (show decode _ _ = .ok (.istore_n 2, 1) by decide +kernel) (by decide) rfl ?_
      refine FW.sub [1, 2, 0] (ls' := [(0, .ref p0), (1, .int p1), (2, .int (0 : Int32))]) rfl ?_
      obtain ⟨nn, h_9⟩ := h_8
      exact sl_X11_night_28 hd nn h_9
    · have h_10 := ineg hc44 h_7
      refine fw_iconst (v := (-1 : Int32)) (show decode _ _ = .ok (.iconst (-1), 1) by decide +kernel) (by decide) ?_
      exact fw_ret (v := some (.int (-1 : Int32))) .ireturn (show decode _ _ = .ok (.ireturn, 1) by decide +kernel) ⟨rfl, Or.inl rfl⟩ ⟨_, rfl, h_10⟩
def b_X11_played_21 (K21 : Nat → Int32 → Int32 → fM → Prop) (φ : Int32 → fM → Prop) (p0 : Nat) (p1 : Int32) (p2 : Int32) (M : fM) : Prop := isO M p0 11 ∧ dR (mP M p0 2) fun y4 => inA M y4 12 ((705 : Int32) * p1) ∧ iF ((mI M y4 (ix ((705 : Int32) * p1))) ≤ p2) (φ (-1 : Int32) M) (w_X11_isPlayed p0 ((((705 : Int32) * p1) + (1 : Int32)) + ((4 : Int32) * p2)) M fun x10 M9 => iF (x10 = 0) (φ p2 M9) (nm (p2 + (1 : Int32)) fun x11 => K21 p0 p1 x11 M9))
def l_X11_played_21 (φ : Int32 → fM → Prop) : Nat → Nat → Int32 → Int32 → fM → Prop
  | 0, _, _, _, _ => False
  | n + 1, p0, p1, p2, M => b_X11_played_21 (l_X11_played_21 φ n) φ p0 p1 p2 M
set_option maxRecDepth 100000 in
theorem sb_X11_played_21 {g : GT} {d : Nat} (hd : 12 ≤ d + 1) {K21 : Nat → Int32 → Int32 → fM → Prop} {φ : Int32 → fM → Prop} (hK21 : ∀ (p0 : Nat) (p1 : Int32) (p2 : Int32) (M : fM), K21 p0 p1 p2 M → FW g mtX11_played (d + 1) 21 [(0, .ref p0), (1, .int p1), (2, .int p2)] [] M 0 0 (rI φ)) {p0 : Nat} {p1 : Int32} {p2 : Int32} {M : fM} (h : b_X11_played_21 K21 φ p0 p1 p2 M) : FW g mtX11_played (d + 1) 21 [(0, .ref p0), (1, .int p1), (2, .int p2)] [] M 0 0 (rI φ) := by
  unfold b_X11_played_21 at h
  refine fw_iload_n (i := 2) 2 rfl (show decode _ _ = .ok (.iload_n 2, 1) by decide +kernel) ?_
  refine fw_aload_n (i := 0) 0 rfl (show decode _ _ = .ok (.aload_n 0, 1) by decide +kernel) ?_
  obtain ⟨⟨hr2, n1, hs3⟩, h_1⟩ := h
  refine fw_getP (kd := 11) (k := 2) (show decode _ _ = .ok (.getfield 16, 3) by decide +kernel) gf_X11_16 hr2 hs3 rfl ?_
  have h_2 := dR_e h_1
  obtain ⟨y4, hy5, h_3⟩ := h_2
  refine fw_deref hy5 ?_
  refine fw_sipush (v := (705 : Int32)) (show decode _ _ = .ok (.sipush 705, 3) by decide +kernel) (by decide) ?_
  refine fw_iload_n (i := 1) 1 rfl (show decode _ _ = .ok (.iload_n 1, 1) by decide +kernel) ?_
  refine fw_imul (show decode _ _ = .ok (.imul, 1) by decide +kernel) ?_
  obtain ⟨⟨n6, hs7, hi8⟩, h_4⟩ := h_3
  refine fw_iald (show decode _ _ = .ok (.iaload, 1) by decide +kernel) hs7 hi8 ?_
  refine fw_icmp_ge 61 (show decode _ _ = .ok (.if_icmp .ge 29, 3) by decide +kernel) (by decide) (fun hc14 => ?_) (fun hc14 => ?_)
  · have h_5 := ipos hc14 h_4
    refine fw_iconst (v := (-1 : Int32)) (show decode _ _ = .ok (.iconst (-1), 1) by decide +kernel) (by decide) ?_
    exact fw_ret (v := some (.int (-1 : Int32))) .ireturn (show decode _ _ = .ok (.ireturn, 1) by decide +kernel) ⟨rfl, Or.inl rfl⟩ ⟨_, rfl, h_5⟩
  · have h_6 := ineg hc14 h_4
    refine fw_aload_n (i := 0) 0 rfl (show decode _ _ = .ok (.aload_n 0, 1) by decide +kernel) ?_
    refine fw_sipush (v := (705 : Int32)) (show decode _ _ = .ok (.sipush 705, 3) by decide +kernel) (by decide) ?_
    refine fw_iload_n (i := 1) 1 rfl (show decode _ _ = .ok (.iload_n 1, 1) by decide +kernel) ?_
    refine fw_imul (show decode _ _ = .ok (.imul, 1) by decide +kernel) ?_
    refine fw_iconst (v := (1 : Int32)) (show decode _ _ = .ok (.iconst 1, 1) by decide +kernel) (by decide) ?_
    refine fw_iadd (show decode _ _ = .ok (.iadd, 1) by decide +kernel) ?_
    refine fw_iconst (v := (4 : Int32)) (show decode _ _ = .ok (.iconst 4, 1) by decide +kernel) (by decide) ?_
    refine fw_iload_n (i := 2) 2 rfl (show decode _ _ = .ok (.iload_n 2, 1) by decide +kernel) ?_
    refine fw_imul (show decode _ _ = .ok (.imul, 1) by decide +kernel) ?_
    refine fw_iadd (show decode _ _ = .ok (.iadd, 1) by decide +kernel) ?_
    refine fw_callV (mt' := mtX11_isPlayed) (mc := 0) (ms := 0) (As := [.int ((((705 : Int32) * p1) + (1 : Int32)) + ((4 : Int32) * p2))]) (rest := []) 1 11 n1 (show decode _ _ = .ok (.invokevirtual 399, 3) by decide +kernel) cv_X11_399 ⟨_, rfl, rfl⟩ hr2 hs3 rfl (Nat.le_of_ble_eq_true rfl) (s_X11_isPlayed (d := d) (hd_le hd (by decide)) h_6) (by decide) (by decide) (kI (bc' := 0) (bs' := 0) (by decide) (by decide) (fun x10 M9 h_7 => ?_))
    refine fw_if_ne 55 (show decode _ _ = .ok (.ifCond .ne 5, 3) by decide +kernel) (by decide) (fun hc13 => ?_) (fun hc13 => ?_)
    · have h_8 := ineg hc13 h_7
      obtain ⟨x11, ex12⟩ : ∃ y : Int32, y = p2 + (1 : Int32) := ⟨_, rfl⟩
      have h_9 := h_8 x11 ex12
      refine fw_iinc (i := 2) (x := p2) (v := x11) (ls' := [(2, .int x11), (0, .ref p0), (1, .int p1)]) 2 rfl (show decode _ _ = .ok (.iinc 2 1, 3) by decide +kernel) (by rw [ex12]; rfl) (by decide) rfl ?_
      refine fw_goto 21 (show decode _ _ = .ok (.goto (-37), 3) by decide +kernel) (by decide) ?_
      refine FW.sub [1, 2, 0] (ls' := [(0, .ref p0), (1, .int p1), (2, .int x11)]) rfl ?_
      exact hK21 _ _ _ _ h_9
    · have h_10 := ipos hc13 h_7
      refine fw_iload_n (i := 2) 2 rfl (show decode _ _ = .ok (.iload_n 2, 1) by decide +kernel) ?_
      exact fw_ret (v := some (.int p2)) .ireturn (show decode _ _ = .ok (.ireturn, 1) by decide +kernel) ⟨rfl, Or.inl rfl⟩ ⟨_, rfl, h_10⟩
theorem sl_X11_played_21 {g : GT} {d : Nat} (hd : 12 ≤ d + 1) {φ : Int32 → fM → Prop} : ∀ (n : Nat) {p0 : Nat} {p1 : Int32} {p2 : Int32} {M : fM}, l_X11_played_21 φ n p0 p1 p2 M → FW g mtX11_played (d + 1) 21 [(0, .ref p0), (1, .int p1), (2, .int p2)] [] M 0 0 (rI φ)
  | 0 => fun h => h.elim
  | n + 1 => fun h => sb_X11_played_21 hd (fun _ _ _ _ h => sl_X11_played_21 hd n h) h
def w_X11_played (p0 : Nat) (p1 : Int32) (M : fM) (φ : Int32 → fM → Prop) : Prop := isO M p0 11 ∧ dR (mP M p0 0) fun y18 => inA M y18 12 (3 : Int32) ∧ w_X11_isIn p1 (0 : Int32) ((mI M y18 (ix (3 : Int32))) - (1 : Int32)) M fun x24 M23 => iF (x24 = 0) (φ (-2 : Int32) M23) (∃ n, l_X11_played_21 φ n p0 p1 (0 : Int32) M23)
set_option maxRecDepth 100000 in
theorem s_X11_played {g : GT} {d : Nat} (hd : 12 ≤ d) {p0 : Nat} {p1 : Int32} {M : fM} {φ : Int32 → fM → Prop} (h : w_X11_played p0 p1 M φ) : FC g mtX11_played d [.ref p0, .int p1] M 0 0 (rI φ) := by
  obtain ⟨d, rfl⟩ : ∃ e, d = e + 1 := ⟨d - 1, by omega⟩
  unfold w_X11_played at h
  refine FC.intro (nL := 3) (by decide) rfl (Nat.le_of_ble_eq_true rfl) ?_
  show FW g mtX11_played (d + 1) 0 [(0, .ref p0), (1, .int p1)] [] M 0 0 (rI φ)
  refine fw_iload_n (i := 1) 1 rfl (show decode _ _ = .ok (.iload_n 1, 1) by decide +kernel) ?_
  refine fw_iconst (v := (0 : Int32)) (show decode _ _ = .ok (.iconst 0, 1) by decide +kernel) (by decide) ?_
  refine fw_aload_n (i := 0) 0 rfl (show decode _ _ = .ok (.aload_n 0, 1) by decide +kernel) ?_
  obtain ⟨⟨hr16, n15, hs17⟩, h_1⟩ := h
  refine fw_getP (kd := 11) (k := 0) (show decode _ _ = .ok (.getfield 7, 3) by decide +kernel) gf_X11_7 hr16 hs17 rfl ?_
  have h_2 := dR_e h_1
  obtain ⟨y18, hy19, h_3⟩ := h_2
  refine fw_deref hy19 ?_
  refine fw_iconst (v := (3 : Int32)) (show decode _ _ = .ok (.iconst 3, 1) by decide +kernel) (by decide) ?_
  obtain ⟨⟨n20, hs21, hi22⟩, h_4⟩ := h_3
  refine fw_iald (show decode _ _ = .ok (.iaload, 1) by decide +kernel) hs21 hi22 ?_
  refine fw_iconst (v := (1 : Int32)) (show decode _ _ = .ok (.iconst 1, 1) by decide +kernel) (by decide) ?_
  refine fw_isub (show decode _ _ = .ok (.isub, 1) by decide +kernel) ?_
  refine fw_callS (mt' := mtX11_isIn) (mc := 0) (ms := 0) (As := [.int p1, .int (0 : Int32), .int ((mI M y18 (ix (3 : Int32))) - (1 : Int32))]) (rest := []) 3 (show decode _ _ = .ok (.invokestatic 66, 3) by decide +kernel) cs_X11_66 rfl (Nat.le_of_ble_eq_true rfl) (s_X11_isIn (d := d) (hd_le hd (by decide)) h_4) (by decide) (by decide) (kI (bc' := 0) (bs' := 0) (by decide) (by decide) (fun x24 M23 h_5 => ?_))
  refine fw_if_ne 19 (show decode _ _ = .ok (.ifCond .ne 6, 3) by decide +kernel) (by decide) (fun hc25 => ?_) (fun hc25 => ?_)
  · have h_6 := ineg hc25 h_5
    refine fw_iconst (v := (0 : Int32)) (show decode _ _ = .ok (.iconst 0, 1) by decide +kernel) (by decide) ?_
    refine fw_istore_n (i := 2) (ls' := [(2, .int (0 : Int32)), (0, .ref p0), (1, .int p1)]) (show decode _ _ = .ok (.istore_n 2, 1) by decide +kernel) (by decide) rfl ?_
    refine FW.sub [1, 2, 0] (ls' := [(0, .ref p0), (1, .int p1), (2, .int (0 : Int32))]) rfl ?_
    obtain ⟨nn, h_7⟩ := h_6
    exact sl_X11_played_21 hd nn h_7
  · have h_8 := ipos hc25 h_5
    refine fw_bipush (v := (-2 : Int32)) (show decode _ _ = .ok (.bipush (-2), 2) by decide +kernel) (by decide) ?_
    exact fw_ret (v := some (.int (-2 : Int32))) .ireturn (show decode _ _ = .ok (.ireturn, 1) by decide +kernel) ⟨rfl, Or.inl rfl⟩ ⟨_, rfl, h_8⟩
def b_X11_readText_43 (K43 : Nat → fM → Prop) (φ : Int32 → fM → Prop) (p0 : Nat) (M : fM) : Prop := isO M p0 11 ∧ iF ((mI M p0 9) = 0) (dR (mP M p0 2) fun y4 => nm (mI M p0 13) fun x6 => 6 ≤ y4 ∧ inA M y4 12 (mI M p0 12) ∧ st (wI M y4 (ix (mI M p0 12)) x6) fun M12 => φ (0 : Int32) M12) (w_X11_clause p0 M fun x15 M14 => iF (x15 = 0) (K43 p0 M14) (φ x15 M14))
def l_X11_readText_43 (φ : Int32 → fM → Prop) : Nat → Nat → fM → Prop
  | 0, _, _ => False
  | n + 1, p0, M => b_X11_readText_43 (l_X11_readText_43 φ n) φ p0 M
set_option maxRecDepth 100000 in
theorem sb_X11_readText_43 {g : GT} {d : Nat} (hd : 10 ≤ d + 1) {K43 : Nat → fM → Prop} {φ : Int32 → fM → Prop} (hK43 : ∀ (p0 : Nat) (M : fM), K43 p0 M → FW g mtX11_readText (d + 1) 43 [(0, .ref p0)] [] M 0 0 (rI φ)) {p0 : Nat} {M : fM} (h : b_X11_readText_43 K43 φ p0 M) : FW g mtX11_readText (d + 1) 43 [(0, .ref p0)] [] M 0 0 (rI φ) := by
  unfold b_X11_readText_43 at h
  refine fw_aload_n (i := 0) 0 rfl (show decode _ _ = .ok (.aload_n 0, 1) by decide +kernel) ?_
  obtain ⟨⟨hr2, n1, hs3⟩, h_1⟩ := h
  refine fw_getI (kd := 11) (k := 9) (show decode _ _ = .ok (.getfield 107, 3) by decide +kernel) gf_X11_107 hr2 hs3 (Or.inl rfl) ?_
  refine fw_if_eq 64 (show decode _ _ = .ok (.ifCond .eq 17, 3) by decide +kernel) (by decide) (fun hc17 => ?_) (fun hc17 => ?_)
  · have h_2 := ipos hc17 h_1
    refine fw_aload_n (i := 0) 0 rfl (show decode _ _ = .ok (.aload_n 0, 1) by decide +kernel) ?_
    refine fw_getP (kd := 11) (k := 2) (show decode _ _ = .ok (.getfield 16, 3) by decide +kernel) gf_X11_16 hr2 hs3 rfl ?_
    have h_3 := dR_e h_2
    obtain ⟨y4, hy5, h_4⟩ := h_3
    refine fw_deref hy5 ?_
    refine fw_aload_n (i := 0) 0 rfl (show decode _ _ = .ok (.aload_n 0, 1) by decide +kernel) ?_
    refine fw_getI (kd := 11) (k := 12) (show decode _ _ = .ok (.getfield 132, 3) by decide +kernel) gf_X11_132 hr2 hs3 (Or.inl rfl) ?_
    refine fw_aload_n (i := 0) 0 rfl (show decode _ _ = .ok (.aload_n 0, 1) by decide +kernel) ?_
    refine fw_getI (kd := 11) (k := 13) (show decode _ _ = .ok (.getfield 259, 3) by decide +kernel) gf_X11_259 hr2 hs3 (Or.inl rfl) ?_
    refine fw_nmI (fun x6 ex7 => ?_)
    have h_5 := h_4 x6 ex7
    obtain ⟨hr11, ⟨n8, hs9, hi10⟩, h_6⟩ := h_5
    refine fw_iast (show decode _ _ = .ok (.iastore, 1) by decide +kernel) hr11 hs9 hi10 ?_
    refine FW.nmM (fun M12 eM13 => ?_)
    have h_7 := h_6 M12 eM13
    refine fw_iconst (v := (0 : Int32)) (show decode _ _ = .ok (.iconst 0, 1) by decide +kernel) (by decide) ?_
    exact fw_ret (v := some (.int (0 : Int32))) .ireturn (show decode _ _ = .ok (.ireturn, 1) by decide +kernel) ⟨rfl, Or.inl rfl⟩ ⟨_, rfl, h_7⟩
  · have h_8 := ineg hc17 h_1
    refine fw_aload_n (i := 0) 0 rfl (show decode _ _ = .ok (.aload_n 0, 1) by decide +kernel) ?_
    refine fw_callV (mt' := mtX11_clause) (mc := 0) (ms := 0) (As := []) (rest := []) 0 11 n1 (show decode _ _ = .ok (.invokevirtual 265, 3) by decide +kernel) cv_X11_265 ⟨_, rfl, rfl⟩ hr2 hs3 rfl (Nat.le_of_ble_eq_true rfl) (s_X11_clause (d := d) (hd_le hd (by decide)) h_8) (by decide) (by decide) (kI (bc' := 0) (bs' := 0) (by decide) (by decide) (fun x15 M14 h_9 => ?_))
    refine fw_istore_n (i := 1) (ls' := [(1, .int x15), (0, .ref p0)]) (show decode _ _ = .ok (.istore_n 1, 1) by decide +kernel) (by decide) rfl ?_
    refine fw_iload_n (i := 1) 0 rfl (show decode _ _ = .ok (.iload_n 1, 1) by decide +kernel) ?_
    refine fw_if_eq 61 (show decode _ _ = .ok (.ifCond .eq 5, 3) by decide +kernel) (by decide) (fun hc16 => ?_) (fun hc16 => ?_)
    · have h_10 := ipos hc16 h_9
      refine fw_goto 43 (show decode _ _ = .ok (.goto (-18), 3) by decide +kernel) (by decide) ?_
      refine FW.sub [1] (ls' := [(0, .ref p0)]) rfl ?_
      exact hK43 _ _ h_10
    · have h_11 := ineg hc16 h_9
      refine fw_iload_n (i := 1) 0 rfl (show decode _ _ = .ok (.iload_n 1, 1) by decide +kernel) ?_
      exact fw_ret (v := some (.int x15)) .ireturn (show decode _ _ = .ok (.ireturn, 1) by decide +kernel) ⟨rfl, Or.inl rfl⟩ ⟨_, rfl, h_11⟩
theorem sl_X11_readText_43 {g : GT} {d : Nat} (hd : 10 ≤ d + 1) {φ : Int32 → fM → Prop} : ∀ (n : Nat) {p0 : Nat} {M : fM}, l_X11_readText_43 φ n p0 M → FW g mtX11_readText (d + 1) 43 [(0, .ref p0)] [] M 0 0 (rI φ)
  | 0 => fun h => h.elim
  | n + 1 => fun h => sb_X11_readText_43 hd (fun _ _ h => sl_X11_readText_43 hd n h) h
def w_X11_readText (p0 : Nat) (M : fM) (φ : Int32 → fM → Prop) : Prop := isO M p0 11 ∧ dR (mP M p0 0) fun y21 => inA M y21 12 (3 : Int32) ∧ nm ((705 : Int32) * (mI M y21 (ix (3 : Int32)))) fun x26 => st (wI M p0 12 x26) fun M28 => st (wI M28 p0 13 (0 : Int32)) fun M30 => st (wI M30 p0 14 (0 : Int32)) fun M32 => st (wI M32 p0 18 (0 : Int32)) fun M34 => st (wI M34 p0 15 (0 : Int32)) fun M36 => st (wI M36 p0 7 (0 : Int32)) fun M38 => w_X11_nextToken p0 M38 fun M40 => ∃ n, l_X11_readText_43 φ n p0 M40
set_option maxRecDepth 100000 in
theorem s_X11_readText {g : GT} {d : Nat} (hd : 10 ≤ d) {p0 : Nat} {M : fM} {φ : Int32 → fM → Prop} (h : w_X11_readText p0 M φ) : FC g mtX11_readText d [.ref p0] M 0 0 (rI φ) := by
  obtain ⟨d, rfl⟩ : ∃ e, d = e + 1 := ⟨d - 1, by omega⟩
  unfold w_X11_readText at h
  refine FC.intro (nL := 2) (by decide) rfl (Nat.le_of_ble_eq_true rfl) ?_
  show FW g mtX11_readText (d + 1) 0 [(0, .ref p0)] [] M 0 0 (rI φ)
  refine fw_aload_n (i := 0) 0 rfl (show decode _ _ = .ok (.aload_n 0, 1) by decide +kernel) ?_
  refine fw_sipush (v := (705 : Int32)) (show decode _ _ = .ok (.sipush 705, 3) by decide +kernel) (by decide) ?_
  refine fw_aload_n (i := 0) 0 rfl (show decode _ _ = .ok (.aload_n 0, 1) by decide +kernel) ?_
  obtain ⟨⟨hr19, n18, hs20⟩, h_1⟩ := h
  refine fw_getP (kd := 11) (k := 0) (show decode _ _ = .ok (.getfield 7, 3) by decide +kernel) gf_X11_7 hr19 hs20 rfl ?_
  have h_2 := dR_e h_1
  obtain ⟨y21, hy22, h_3⟩ := h_2
  refine fw_deref hy22 ?_
  refine fw_iconst (v := (3 : Int32)) (show decode _ _ = .ok (.iconst 3, 1) by decide +kernel) (by decide) ?_
  obtain ⟨⟨n23, hs24, hi25⟩, h_4⟩ := h_3
  refine fw_iald (show decode _ _ = .ok (.iaload, 1) by decide +kernel) hs24 hi25 ?_
  refine fw_imul (show decode _ _ = .ok (.imul, 1) by decide +kernel) ?_
  refine fw_nmI (fun x26 ex27 => ?_)
  have h_5 := h_4 x26 ex27
  refine fw_putI (kd := 11) (k := 12) (show decode _ _ = .ok (.putfield 132, 3) by decide +kernel) ⟨gf_X11_132, _, rfl, Or.inl rfl⟩ hr19 hs20 rfl ?_
  refine FW.nmM (fun M28 eM29 => ?_)
  have h_6 := h_5 M28 eM29
  refine fw_aload_n (i := 0) 0 rfl (show decode _ _ = .ok (.aload_n 0, 1) by decide +kernel) ?_
  refine fw_iconst (v := (0 : Int32)) (show decode _ _ = .ok (.iconst 0, 1) by decide +kernel) (by decide) ?_
  refine fw_putI (kd := 11) (k := 13) (show decode _ _ = .ok (.putfield 259, 3) by decide +kernel) ⟨gf_X11_259, _, rfl, Or.inl rfl⟩ hr19 (mSw_I eM29 hs20) rfl ?_
  refine FW.nmM (fun M30 eM31 => ?_)
  have h_7 := h_6 M30 eM31
  refine fw_aload_n (i := 0) 0 rfl (show decode _ _ = .ok (.aload_n 0, 1) by decide +kernel) ?_
  refine fw_iconst (v := (0 : Int32)) (show decode _ _ = .ok (.iconst 0, 1) by decide +kernel) (by decide) ?_
  refine fw_putI (kd := 11) (k := 14) (show decode _ _ = .ok (.putfield 135, 3) by decide +kernel) ⟨gf_X11_135, _, rfl, Or.inl rfl⟩ hr19 (mSw_I eM31 (mSw_I eM29 hs20)) rfl ?_
  refine FW.nmM (fun M32 eM33 => ?_)
  have h_8 := h_7 M32 eM33
  refine fw_aload_n (i := 0) 0 rfl (show decode _ _ = .ok (.aload_n 0, 1) by decide +kernel) ?_
  refine fw_iconst (v := (0 : Int32)) (show decode _ _ = .ok (.iconst 0, 1) by decide +kernel) (by decide) ?_
  refine fw_putI (kd := 11) (k := 18) (show decode _ _ = .ok (.putfield 158, 3) by decide +kernel) ⟨gf_X11_158, _, rfl, Or.inl rfl⟩ hr19 (mSw_I eM33 (mSw_I eM31 (mSw_I eM29 hs20))) rfl ?_
  refine FW.nmM (fun M34 eM35 => ?_)
  have h_9 := h_8 M34 eM35
  refine fw_aload_n (i := 0) 0 rfl (show decode _ _ = .ok (.aload_n 0, 1) by decide +kernel) ?_
  refine fw_iconst (v := (0 : Int32)) (show decode _ _ = .ok (.iconst 0, 1) by decide +kernel) (by decide) ?_
  refine fw_putI (kd := 11) (k := 15) (show decode _ _ = .ok (.putfield 256, 3) by decide +kernel) ⟨gf_X11_256, _, rfl, Or.inl rfl⟩ hr19 (mSw_I eM35 (mSw_I eM33 (mSw_I eM31 (mSw_I eM29 hs20)))) rfl ?_
  refine FW.nmM (fun M36 eM37 => ?_)
  have h_10 := h_9 M36 eM37
  refine fw_aload_n (i := 0) 0 rfl (show decode _ _ = .ok (.aload_n 0, 1) by decide +kernel) ?_
  refine fw_iconst (v := (0 : Int32)) (show decode _ _ = .ok (.iconst 0, 1) by decide +kernel) (by decide) ?_
  refine fw_putI (kd := 11) (k := 7) (show decode _ _ = .ok (.putfield 98, 3) by decide +kernel) ⟨gf_X11_98, _, rfl, Or.inl rfl⟩ hr19 (mSw_I eM37 (mSw_I eM35 (mSw_I eM33 (mSw_I eM31 (mSw_I eM29 hs20))))) rfl ?_
  refine FW.nmM (fun M38 eM39 => ?_)
  have h_11 := h_10 M38 eM39
  refine fw_aload_n (i := 0) 0 rfl (show decode _ _ = .ok (.aload_n 0, 1) by decide +kernel) ?_
  refine fw_callV (mt' := mtX11_nextToken) (mc := 0) (ms := 0) (As := []) (rest := []) 0 11 n18 (show decode _ _ = .ok (.invokevirtual 179, 3) by decide +kernel) cv_X11_179 ⟨_, rfl, rfl⟩ hr19 (mSw_I eM39 (mSw_I eM37 (mSw_I eM35 (mSw_I eM33 (mSw_I eM31 (mSw_I eM29 hs20)))))) rfl (Nat.le_of_ble_eq_true rfl) (s_X11_nextToken (d := d) (hd_le hd (by decide)) h_11) (by decide) (by decide) (kV (bc' := 0) (bs' := 0) (by decide) (by decide) (fun M40 h_12 => ?_))
  refine FW.sub [0] (ls' := [(0, .ref p0)]) rfl ?_
  obtain ⟨nn, h_13⟩ := h_12
  exact sl_X11_readText_43 hd nn h_13
def w_X11_says (p0 : Nat) (p1 : Int32) (p2 : Int32) (p3 : Int32) (p4 : Int32) (p5 : Int32) (M : fM) (φ : Int32 → fM → Prop) : Prop := isO M p0 11 ∧ w_X11_isMind p0 p1 p2 p3 M fun x5 M1 => iF (x5 = 0) (φ (-1 : Int32) M1) (isO M1 p0 11 ∧ w_X11_isStep p0 p2 p4 M1 fun x10 M6 => iF (x10 = 0) (φ (-1 : Int32) M6) (iF (p5 = (0 : Int32)) (isO M6 p0 11 ∧ w_X11_noneAt p0 p1 p2 p3 p4 M6 fun x15 M11 => φ x15 M11) (iF (p5 = (1 : Int32)) (isO M6 p0 11 ∧ w_X11_twiceAt p0 p1 p2 p3 p4 M6 fun x21 M17 => φ x21 M17) (iF (p5 = (2 : Int32)) (isO M6 p0 11 ∧ w_X11_tripsAt p0 p1 p2 p3 p4 M6 fun x27 M23 => iF (x27 = 0) (φ (0 : Int32) M23) (φ (1 : Int32) M23)) (iF (p5 = (3 : Int32)) (isO M6 p0 11 ∧ w_X11_jarOf p0 p1 p2 p3 M6 fun x34 M30 => φ x34 M30) (iF (p5 = (4 : Int32)) (isO M6 p0 11 ∧ w_X11_fallOf p0 p1 p2 p3 M6 fun x40 M36 => φ x40 M36) (φ (-1 : Int32) M6)))))))
set_option maxRecDepth 100000 in
theorem s_X11_says {g : GT} {d : Nat} (hd : 7 ≤ d) {p0 : Nat} {p1 : Int32} {p2 : Int32} {p3 : Int32} {p4 : Int32} {p5 : Int32} {M : fM} {φ : Int32 → fM → Prop} (h : w_X11_says p0 p1 p2 p3 p4 p5 M φ) : FC g mtX11_says d [.ref p0, .int p1, .int p2, .int p3, .int p4, .int p5] M 0 0 (rI φ) := by
  obtain ⟨d, rfl⟩ : ∃ e, d = e + 1 := ⟨d - 1, by omega⟩
  unfold w_X11_says at h
  refine FC.intro (nL := 6) (by decide) rfl (Nat.le_of_ble_eq_true rfl) ?_
  show FW g mtX11_says (d + 1) 0 [(0, .ref p0), (1, .int p1), (2, .int p2), (3, .int p3), (4, .int p4), (5, .int p5)] [] M 0 0 (rI φ)
  refine fw_aload_n (i := 0) 0 rfl (show decode _ _ = .ok (.aload_n 0, 1) by decide +kernel) ?_
  refine fw_iload_n (i := 1) 1 rfl (show decode _ _ = .ok (.iload_n 1, 1) by decide +kernel) ?_
  refine fw_iload_n (i := 2) 2 rfl (show decode _ _ = .ok (.iload_n 2, 1) by decide +kernel) ?_
  refine fw_iload_n (i := 3) 3 rfl (show decode _ _ = .ok (.iload_n 3, 1) by decide +kernel) ?_
  obtain ⟨⟨hr3, n2, hs4⟩, h_1⟩ := h
  refine fw_callV (mt' := mtX11_isMind) (mc := 0) (ms := 0) (As := [.int p1, .int p2, .int p3]) (rest := []) 3 11 n2 (show decode _ _ = .ok (.invokevirtual 325, 3) by decide +kernel) cv_X11_325 ⟨_, rfl, rfl⟩ hr3 hs4 rfl (Nat.le_of_ble_eq_true rfl) (s_X11_isMind (d := d) (hd_le hd (by decide)) h_1) (by decide) (by decide) (kI (bc' := 0) (bs' := 0) (by decide) (by decide) (fun x5 M1 h_2 => ?_))
  refine fw_if_eq 20 (show decode _ _ = .ok (.ifCond .eq 13, 3) by decide +kernel) (by decide) (fun hc45 => ?_) (fun hc45 => ?_)
  · have h_3 := ipos hc45 h_2
    refine fw_iconst (v := (-1 : Int32)) (show decode _ _ = .ok (.iconst (-1), 1) by decide +kernel) (by decide) ?_
    exact fw_ret (v := some (.int (-1 : Int32))) .ireturn (show decode _ _ = .ok (.ireturn, 1) by decide +kernel) ⟨rfl, Or.inl rfl⟩ ⟨_, rfl, h_3⟩
  · have h_4 := ineg hc45 h_2
    refine fw_aload_n (i := 0) 0 rfl (show decode _ _ = .ok (.aload_n 0, 1) by decide +kernel) ?_
    refine fw_iload_n (i := 2) 2 rfl (show decode _ _ = .ok (.iload_n 2, 1) by decide +kernel) ?_
    refine fw_iload (i := 4) 4 rfl (show decode _ _ = .ok (.iload 4, 2) by decide +kernel) ?_
    obtain ⟨⟨hr8, n7, hs9⟩, h_5⟩ := h_4
    refine fw_callV (mt' := mtX11_isStep) (mc := 0) (ms := 0) (As := [.int p2, .int p4]) (rest := []) 2 11 n7 (show decode _ _ = .ok (.invokevirtual 81, 3) by decide +kernel) cv_X11_81 ⟨_, rfl, rfl⟩ hr8 hs9 rfl (Nat.le_of_ble_eq_true rfl) (s_X11_isStep (d := d) (hd_le hd (by decide)) h_5) (by decide) (by decide) (kI (bc' := 0) (bs' := 0) (by decide) (by decide) (fun x10 M6 h_6 => ?_))
    refine fw_if_ne 22 (show decode _ _ = .ok (.ifCond .ne 5, 3) by decide +kernel) (by decide) (fun hc44 => ?_) (fun hc44 => ?_)
    · have h_7 := ineg hc44 h_6
      refine fw_iload (i := 5) 5 rfl (show decode _ _ = .ok (.iload 5, 2) by decide +kernel) ?_
      by_cases hc16 : p5 = (0 : Int32)
      · have h_8 := ipos hc16 h_7
        refine fw_tin (off := 36) 60 (show decode _ _ = .ok (.tableswitch 90 0 4 #[36, 46, 56, 74, 82], 36) by decide +kernel) (by rw [hc16]; decide) (by rw [hc16]; decide) (by rw [hc16]; rfl) (by decide) ?_
        refine fw_aload_n (i := 0) 0 rfl (show decode _ _ = .ok (.aload_n 0, 1) by decide +kernel) ?_
        refine fw_iload_n (i := 1) 1 rfl (show decode _ _ = .ok (.iload_n 1, 1) by decide +kernel) ?_
        refine fw_iload_n (i := 2) 2 rfl (show decode _ _ = .ok (.iload_n 2, 1) by decide +kernel) ?_
        refine fw_iload_n (i := 3) 3 rfl (show decode _ _ = .ok (.iload_n 3, 1) by decide +kernel) ?_
        refine fw_iload (i := 4) 4 rfl (show decode _ _ = .ok (.iload 4, 2) by decide +kernel) ?_
        obtain ⟨⟨hr13, n12, hs14⟩, h_9⟩ := h_8
        refine fw_callV (mt' := mtX11_noneAt) (mc := 0) (ms := 0) (As := [.int p1, .int p2, .int p3, .int p4]) (rest := []) 4 11 n12 (show decode _ _ = .ok (.invokevirtual 314, 3) by decide +kernel) cv_X11_314 ⟨_, rfl, rfl⟩ hr13 hs14 rfl (Nat.le_of_ble_eq_true rfl) (s_X11_noneAt (d := d) (hd_le hd (by decide)) h_9) (by decide) (by decide) (kI (bc' := 0) (bs' := 0) (by decide) (by decide) (fun x15 M11 h_10 => ?_))
        exact fw_ret (v := some (.int x15)) .ireturn (show decode _ _ = .ok (.ireturn, 1) by decide +kernel) ⟨rfl, Or.inl rfl⟩ ⟨_, rfl, h_10⟩
      have h_11 := ineg hc16 h_7
      by_cases hc22 : p5 = (1 : Int32)
      · have h_12 := ipos hc22 h_11
        refine fw_tin (off := 46) 70 (show decode _ _ = .ok (.tableswitch 90 0 4 #[36, 46, 56, 74, 82], 36) by decide +kernel) (by rw [hc22]; decide) (by rw [hc22]; decide) (by rw [hc22]; rfl) (by decide) ?_
        refine fw_aload_n (i := 0) 0 rfl (show decode _ _ = .ok (.aload_n 0, 1) by decide +kernel) ?_
        refine fw_iload_n (i := 1) 1 rfl (show decode _ _ = .ok (.iload_n 1, 1) by decide +kernel) ?_
        refine fw_iload_n (i := 2) 2 rfl (show decode _ _ = .ok (.iload_n 2, 1) by decide +kernel) ?_
        refine fw_iload_n (i := 3) 3 rfl (show decode _ _ = .ok (.iload_n 3, 1) by decide +kernel) ?_
        refine fw_iload (i := 4) 4 rfl (show decode _ _ = .ok (.iload 4, 2) by decide +kernel) ?_
        obtain ⟨⟨hr19, n18, hs20⟩, h_13⟩ := h_12
        refine fw_callV (mt' := mtX11_twiceAt) (mc := 0) (ms := 0) (As := [.int p1, .int p2, .int p3, .int p4]) (rest := []) 4 11 n18 (show decode _ _ = .ok (.invokevirtual 328, 3) by decide +kernel) cv_X11_328 ⟨_, rfl, rfl⟩ hr19 hs20 rfl (Nat.le_of_ble_eq_true rfl) (s_X11_twiceAt (d := d) (hd_le hd (by decide)) h_13) (by decide) (by decide) (kI (bc' := 0) (bs' := 0) (by decide) (by decide) (fun x21 M17 h_14 => ?_))
        exact fw_ret (v := some (.int x21)) .ireturn (show decode _ _ = .ok (.ireturn, 1) by decide +kernel) ⟨rfl, Or.inl rfl⟩ ⟨_, rfl, h_14⟩
      have h_15 := ineg hc22 h_11
      by_cases hc29 : p5 = (2 : Int32)
      · have h_16 := ipos hc29 h_15
        refine fw_tin (off := 56) 80 (show decode _ _ = .ok (.tableswitch 90 0 4 #[36, 46, 56, 74, 82], 36) by decide +kernel) (by rw [hc29]; decide) (by rw [hc29]; decide) (by rw [hc29]; rfl) (by decide) ?_
        refine fw_aload_n (i := 0) 0 rfl (show decode _ _ = .ok (.aload_n 0, 1) by decide +kernel) ?_
        refine fw_iload_n (i := 1) 1 rfl (show decode _ _ = .ok (.iload_n 1, 1) by decide +kernel) ?_
        refine fw_iload_n (i := 2) 2 rfl (show decode _ _ = .ok (.iload_n 2, 1) by decide +kernel) ?_
        refine fw_iload_n (i := 3) 3 rfl (show decode _ _ = .ok (.iload_n 3, 1) by decide +kernel) ?_
        refine fw_iload (i := 4) 4 rfl (show decode _ _ = .ok (.iload 4, 2) by decide +kernel) ?_
        obtain ⟨⟨hr25, n24, hs26⟩, h_17⟩ := h_16
        refine fw_callV (mt' := mtX11_tripsAt) (mc := 0) (ms := 0) (As := [.int p1, .int p2, .int p3, .int p4]) (rest := []) 4 11 n24 (show decode _ _ = .ok (.invokevirtual 331, 3) by decide +kernel) cv_X11_331 ⟨_, rfl, rfl⟩ hr25 hs26 rfl (Nat.le_of_ble_eq_true rfl) (s_X11_tripsAt (d := d) (hd_le hd (by decide)) h_17) (by decide) (by decide) (kI (bc' := 0) (bs' := 0) (by decide) (by decide) (fun x27 M23 h_18 => ?_))
        refine fw_if_eq 96 (show decode _ _ = .ok (.ifCond .eq 7, 3) by decide +kernel) (by decide) (fun hc28 => ?_) (fun hc28 => ?_)
        · have h_19 := ipos hc28 h_18
          refine fw_iconst (v := (0 : Int32)) (show decode _ _ = .ok (.iconst 0, 1) by decide +kernel) (by decide) ?_
          exact fw_ret (v := some (.int (0 : Int32))) .ireturn (show decode _ _ = .ok (.ireturn, 1) by decide +kernel) ⟨rfl, Or.inl rfl⟩ ⟨_, rfl, h_19⟩
        · have h_20 := ineg hc28 h_18
          refine fw_iconst (v := (1 : Int32)) (show decode _ _ = .ok (.iconst 1, 1) by decide +kernel) (by decide) ?_
          refine fw_goto 97 (show decode _ _ = .ok (.goto 4, 3) by decide +kernel) (by decide) ?_
          exact fw_ret (v := some (.int (1 : Int32))) .ireturn (show decode _ _ = .ok (.ireturn, 1) by decide +kernel) ⟨rfl, Or.inl rfl⟩ ⟨_, rfl, h_20⟩
      have h_21 := ineg hc29 h_15
      by_cases hc35 : p5 = (3 : Int32)
      · have h_22 := ipos hc35 h_21
        refine fw_tin (off := 74) 98 (show decode _ _ = .ok (.tableswitch 90 0 4 #[36, 46, 56, 74, 82], 36) by decide +kernel) (by rw [hc35]; decide) (by rw [hc35]; decide) (by rw [hc35]; rfl) (by decide) ?_
        refine fw_aload_n (i := 0) 0 rfl (show decode _ _ = .ok (.aload_n 0, 1) by decide +kernel) ?_
        refine fw_iload_n (i := 1) 1 rfl (show decode _ _ = .ok (.iload_n 1, 1) by decide +kernel) ?_
        refine fw_iload_n (i := 2) 2 rfl (show decode _ _ = .ok (.iload_n 2, 1) by decide +kernel) ?_
        refine fw_iload_n (i := 3) 3 rfl (show decode _ _ = .ok (.iload_n 3, 1) by decide +kernel) ?_
        obtain ⟨⟨hr32, n31, hs33⟩, h_23⟩ := h_22
        refine fw_callV (mt' := mtX11_jarOf) (mc := 0) (ms := 0) (As := [.int p1, .int p2, .int p3]) (rest := []) 3 11 n31 (show decode _ _ = .ok (.invokevirtual 335, 3) by decide +kernel) cv_X11_335 ⟨_, rfl, rfl⟩ hr32 hs33 rfl (Nat.le_of_ble_eq_true rfl) (s_X11_jarOf (d := d) (hd_le hd (by decide)) h_23) (by decide) (by decide) (kI (bc' := 0) (bs' := 0) (by decide) (by decide) (fun x34 M30 h_24 => ?_))
        exact fw_ret (v := some (.int x34)) .ireturn (show decode _ _ = .ok (.ireturn, 1) by decide +kernel) ⟨rfl, Or.inl rfl⟩ ⟨_, rfl, h_24⟩
      have h_25 := ineg hc35 h_21
      by_cases hc41 : p5 = (4 : Int32)
      · have h_26 := ipos hc41 h_25
        refine fw_tin (off := 82) 106 (show decode _ _ = .ok (.tableswitch 90 0 4 #[36, 46, 56, 74, 82], 36) by decide +kernel) (by rw [hc41]; decide) (by rw [hc41]; decide) (by rw [hc41]; rfl) (by decide) ?_
        refine fw_aload_n (i := 0) 0 rfl (show decode _ _ = .ok (.aload_n 0, 1) by decide +kernel) ?_
        refine fw_iload_n (i := 1) 1 rfl (show decode _ _ = .ok (.iload_n 1, 1) by decide +kernel) ?_
        refine fw_iload_n (i := 2) 2 rfl (show decode _ _ = .ok (.iload_n 2, 1) by decide +kernel) ?_
        refine fw_iload_n (i := 3) 3 rfl (show decode _ _ = .ok (.iload_n 3, 1) by decide +kernel) ?_
        obtain ⟨⟨hr38, n37, hs39⟩, h_27⟩ := h_26
        refine fw_callV (mt' := mtX11_fallOf) (mc := 0) (ms := 0) (As := [.int p1, .int p2, .int p3]) (rest := []) 3 11 n37 (show decode _ _ = .ok (.invokevirtual 338, 3) by decide +kernel) cv_X11_338 ⟨_, rfl, rfl⟩ hr38 hs39 rfl (Nat.le_of_ble_eq_true rfl) (s_X11_fallOf (d := d) (hd_le hd (by decide)) h_27) (by decide) (by decide) (kI (bc' := 0) (bs' := 0) (by decide) (by decide) (fun x40 M36 h_28 => ?_))
        exact fw_ret (v := some (.int x40)) .ireturn (show decode _ _ = .ok (.ireturn, 1) by decide +kernel) ⟨rfl, Or.inl rfl⟩ ⟨_, rfl, h_28⟩
      have h_29 := ineg hc41 h_25
      by_cases ho42 : Int32.toInt p5 < 0 ∨ 4 < Int32.toInt p5
      · refine fw_tout 114 (show decode _ _ = .ok (.tableswitch 90 0 4 #[36, 46, 56, 74, 82], 36) by decide +kernel) ho42 (by decide) ?_
        refine fw_iconst (v := (-1 : Int32)) (show decode _ _ = .ok (.iconst (-1), 1) by decide +kernel) (by decide) ?_
        exact fw_ret (v := some (.int (-1 : Int32))) .ireturn (show decode _ _ = .ok (.ireturn, 1) by decide +kernel) ⟨rfl, Or.inl rfl⟩ ⟨_, rfl, h_29⟩
      have e43 := tsx_0_4 (Int32.toInt p5) ho42
      rcases e43 with e43 | e43 | e43 | e43 | e43
      · exact absurd (Int32.toInt_inj.mp (Eq.trans e43 rfl)) hc16
      · exact absurd (Int32.toInt_inj.mp (Eq.trans e43 rfl)) hc22
      · exact absurd (Int32.toInt_inj.mp (Eq.trans e43 rfl)) hc29
      · exact absurd (Int32.toInt_inj.mp (Eq.trans e43 rfl)) hc35
      · exact absurd (Int32.toInt_inj.mp (Eq.trans e43 rfl)) hc41
    · have h_30 := ipos hc44 h_6
      refine fw_iconst (v := (-1 : Int32)) (show decode _ _ = .ok (.iconst (-1), 1) by decide +kernel) (by decide) ?_
      exact fw_ret (v := some (.int (-1 : Int32))) .ireturn (show decode _ _ = .ok (.ireturn, 1) by decide +kernel) ⟨rfl, Or.inl rfl⟩ ⟨_, rfl, h_30⟩
def w_X11_seed (p0 : Nat) (p1 : Int32) (M : fM) (φ : Int32 → fM → Prop) : Prop := w_X11_isIn p1 (0 : Int32) (9999 : Int32) M fun x2 M1 => iF (x2 = 0) (φ (0 : Int32) M1) (isO M1 p0 11 ∧ dR (mP M1 p0 0) fun y6 => nm ((p1 * (3 : Int32)) + (13 : Int32)) fun x8 => 6 ≤ y6 ∧ inA M1 y6 12 (2 : Int32) ∧ st (wI M1 y6 (ix (2 : Int32)) x8) fun M14 => φ (1 : Int32) M14)
set_option maxRecDepth 100000 in
theorem s_X11_seed {g : GT} {d : Nat} (hd : 2 ≤ d) {p0 : Nat} {p1 : Int32} {M : fM} {φ : Int32 → fM → Prop} (h : w_X11_seed p0 p1 M φ) : FC g mtX11_seed d [.ref p0, .int p1] M 0 0 (rI φ) := by
  obtain ⟨d, rfl⟩ : ∃ e, d = e + 1 := ⟨d - 1, by omega⟩
  unfold w_X11_seed at h
  refine FC.intro (nL := 2) (by decide) rfl (Nat.le_of_ble_eq_true rfl) ?_
  show FW g mtX11_seed (d + 1) 0 [(0, .ref p0), (1, .int p1)] [] M 0 0 (rI φ)
  refine fw_iload_n (i := 1) 1 rfl (show decode _ _ = .ok (.iload_n 1, 1) by decide +kernel) ?_
  refine fw_iconst (v := (0 : Int32)) (show decode _ _ = .ok (.iconst 0, 1) by decide +kernel) (by decide) ?_
  refine fw_sipush (v := (9999 : Int32)) (show decode _ _ = .ok (.sipush 9999, 3) by decide +kernel) (by decide) ?_
  refine fw_callS (mt' := mtX11_isIn) (mc := 0) (ms := 0) (As := [.int p1, .int (0 : Int32), .int (9999 : Int32)]) (rest := []) 3 (show decode _ _ = .ok (.invokestatic 66, 3) by decide +kernel) cs_X11_66 rfl (Nat.le_of_ble_eq_true rfl) (s_X11_isIn (d := d) (hd_le hd (by decide)) h) (by decide) (by decide) (kI (bc' := 0) (bs' := 0) (by decide) (by decide) (fun x2 M1 h_1 => ?_))
  refine fw_if_ne 13 (show decode _ _ = .ok (.ifCond .ne 5, 3) by decide +kernel) (by decide) (fun hc16 => ?_) (fun hc16 => ?_)
  · have h_2 := ineg hc16 h_1
    refine fw_aload_n (i := 0) 0 rfl (show decode _ _ = .ok (.aload_n 0, 1) by decide +kernel) ?_
    obtain ⟨⟨hr4, n3, hs5⟩, h_3⟩ := h_2
    refine fw_getP (kd := 11) (k := 0) (show decode _ _ = .ok (.getfield 7, 3) by decide +kernel) gf_X11_7 hr4 hs5 rfl ?_
    have h_4 := dR_e h_3
    obtain ⟨y6, hy7, h_5⟩ := h_4
    refine fw_deref hy7 ?_
    refine fw_iconst (v := (2 : Int32)) (show decode _ _ = .ok (.iconst 2, 1) by decide +kernel) (by decide) ?_
    refine fw_iload_n (i := 1) 1 rfl (show decode _ _ = .ok (.iload_n 1, 1) by decide +kernel) ?_
    refine fw_iconst (v := (3 : Int32)) (show decode _ _ = .ok (.iconst 3, 1) by decide +kernel) (by decide) ?_
    refine fw_imul (show decode _ _ = .ok (.imul, 1) by decide +kernel) ?_
    refine fw_bipush (v := (13 : Int32)) (show decode _ _ = .ok (.bipush 13, 2) by decide +kernel) (by decide) ?_
    refine fw_iadd (show decode _ _ = .ok (.iadd, 1) by decide +kernel) ?_
    refine fw_nmI (fun x8 ex9 => ?_)
    have h_6 := h_5 x8 ex9
    obtain ⟨hr13, ⟨n10, hs11, hi12⟩, h_7⟩ := h_6
    refine fw_iast (show decode _ _ = .ok (.iastore, 1) by decide +kernel) hr13 hs11 hi12 ?_
    refine FW.nmM (fun M14 eM15 => ?_)
    have h_8 := h_7 M14 eM15
    refine fw_iconst (v := (1 : Int32)) (show decode _ _ = .ok (.iconst 1, 1) by decide +kernel) (by decide) ?_
    exact fw_ret (v := some (.int (1 : Int32))) .ireturn (show decode _ _ = .ok (.ireturn, 1) by decide +kernel) ⟨rfl, Or.inr (Or.inl ⟨rfl, rfl⟩)⟩ ⟨_, rfl, h_8⟩
  · have h_9 := ipos hc16 h_1
    refine fw_iconst (v := (0 : Int32)) (show decode _ _ = .ok (.iconst 0, 1) by decide +kernel) (by decide) ?_
    exact fw_ret (v := some (.int (0 : Int32))) .ireturn (show decode _ _ = .ok (.ireturn, 1) by decide +kernel) ⟨rfl, Or.inr (Or.inl ⟨rfl, rfl⟩)⟩ ⟨_, rfl, h_9⟩
def j_X11_seen_107 (φ : Int32 → fM → Prop) (p0 : Nat) (s0 : Int32) (s1 : Int32) (s2 : Nat) (M : fM) : Prop := 6 ≤ s2 ∧ inA M s2 12 s1 ∧ st (wI M s2 (ix s1) s0) fun M5 => isO M5 p0 11 ∧ dR (mP M5 p0 0) fun y10 => inA M5 y10 12 (6 : Int32) ∧ nm ((mI M5 y10 (ix (6 : Int32))) + (1 : Int32)) fun x15 => 6 ≤ y10 ∧ inA M5 y10 12 (6 : Int32) ∧ st (wI M5 y10 (ix (6 : Int32)) x15) fun M21 => dR (mP M21 p0 0) fun y23 => inA M21 y23 12 (6 : Int32) ∧ φ (mI M21 y23 (ix (6 : Int32))) M21
set_option maxRecDepth 100000 in
theorem sj_X11_seen_107 {g : GT} {d : Nat} (hd : 4 ≤ d + 1) {φ : Int32 → fM → Prop} {p0 : Nat} {s0 : Int32} {s1 : Int32} {s2 : Nat} {M : fM} (h : j_X11_seen_107 φ p0 s0 s1 s2 M) : FW g mtX11_seen (d + 1) 107 [(0, .ref p0)] [.int s0, .int s1, .ref s2] M 0 0 (rI φ) := by
  unfold j_X11_seen_107 at h
  obtain ⟨hr4, ⟨n1, hs2, hi3⟩, h_1⟩ := h
  refine fw_iast (show decode _ _ = .ok (.iastore, 1) by decide +kernel) hr4 hs2 hi3 ?_
  refine FW.nmM (fun M5 eM6 => ?_)
  have h_2 := h_1 M5 eM6
  refine fw_aload_n (i := 0) 0 rfl (show decode _ _ = .ok (.aload_n 0, 1) by decide +kernel) ?_
  obtain ⟨⟨hr8, n7, hs9⟩, h_3⟩ := h_2
  refine fw_getP (kd := 11) (k := 0) (show decode _ _ = .ok (.getfield 7, 3) by decide +kernel) gf_X11_7 hr8 hs9 rfl ?_
  have h_4 := dR_e h_3
  obtain ⟨y10, hy11, h_5⟩ := h_4
  refine fw_deref hy11 ?_
  refine fw_bipush (v := (6 : Int32)) (show decode _ _ = .ok (.bipush 6, 2) by decide +kernel) (by decide) ?_
  refine fw_dup2_11 (show decode _ _ = .ok (.dup2, 1) by decide +kernel) rfl rfl ?_
  obtain ⟨⟨n12, hs13, hi14⟩, h_6⟩ := h_5
  refine fw_iald (show decode _ _ = .ok (.iaload, 1) by decide +kernel) hs13 hi14 ?_
  refine fw_iconst (v := (1 : Int32)) (show decode _ _ = .ok (.iconst 1, 1) by decide +kernel) (by decide) ?_
  refine fw_iadd (show decode _ _ = .ok (.iadd, 1) by decide +kernel) ?_
  refine fw_nmI (fun x15 ex16 => ?_)
  have h_7 := h_6 x15 ex16
  obtain ⟨hr20, ⟨n17, hs18, hi19⟩, h_8⟩ := h_7
  refine fw_iast (show decode _ _ = .ok (.iastore, 1) by decide +kernel) hr20 hs18 hi19 ?_
  refine FW.nmM (fun M21 eM22 => ?_)
  have h_9 := h_8 M21 eM22
  refine fw_aload_n (i := 0) 0 rfl (show decode _ _ = .ok (.aload_n 0, 1) by decide +kernel) ?_
  refine fw_getP (kd := 11) (k := 0) (show decode _ _ = .ok (.getfield 7, 3) by decide +kernel) gf_X11_7 hr8 (mSw_I eM22 hs9) rfl ?_
  have h_10 := dR_e h_9
  obtain ⟨y23, hy24, h_11⟩ := h_10
  refine fw_deref hy24 ?_
  refine fw_bipush (v := (6 : Int32)) (show decode _ _ = .ok (.bipush 6, 2) by decide +kernel) (by decide) ?_
  obtain ⟨⟨n25, hs26, hi27⟩, h_12⟩ := h_11
  refine fw_iald (show decode _ _ = .ok (.iaload, 1) by decide +kernel) hs26 hi27 ?_
  exact fw_ret (v := some (.int (mI M21 y23 (ix (6 : Int32))))) .ireturn (show decode _ _ = .ok (.ireturn, 1) by decide +kernel) ⟨rfl, Or.inl rfl⟩ ⟨_, rfl, h_12⟩
def w_X11_seen (p0 : Nat) (p1 : Int32) (p2 : Int32) (p3 : Int32) (p4 : Int32) (M : fM) (φ : Int32 → fM → Prop) : Prop := iF (p1 = (-1 : Int32)) (isO M p0 11 ∧ dR (mP M p0 0) fun y86 => 6 ≤ y86 ∧ inA M y86 12 (6 : Int32) ∧ st (wI M y86 (ix (6 : Int32)) (0 : Int32)) fun M92 => φ (0 : Int32) M92) (isO M p0 11 ∧ w_X11_isPerson p0 p1 M fun x32 M28 => iF (x32 = 0) (φ (-2 : Int32) M28) (isO M28 p0 11 ∧ w_X11_isStep p0 p2 p3 M28 fun x37 M33 => iF (x37 = 0) (φ (-2 : Int32) M33) (isO M33 p0 11 ∧ dR (mP M33 p0 0) fun y41 => inA M33 y41 12 (6 : Int32) ∧ iF ((mI M33 y41 (ix (6 : Int32))) = (12 : Int32)) (φ (-2 : Int32) M33) (dR (mP M33 p0 0) fun y46 => inA M33 y46 12 (6 : Int32) ∧ nm ((109 : Int32) + ((4 : Int32) * (mI M33 y46 (ix (6 : Int32))))) fun x51 => dR (mP M33 p0 0) fun y53 => 6 ≤ y53 ∧ inA M33 y53 12 x51 ∧ st (wI M33 y53 (ix x51) p1) fun M59 => dR (mP M59 p0 0) fun y61 => 6 ≤ y61 ∧ inA M59 y61 12 (x51 + (1 : Int32)) ∧ st (wI M59 y61 (ix (x51 + (1 : Int32))) p2) fun M67 => dR (mP M67 p0 0) fun y69 => 6 ≤ y69 ∧ inA M67 y69 12 (x51 + (2 : Int32)) ∧ st (wI M67 y69 (ix (x51 + (2 : Int32))) p3) fun M75 => dR (mP M75 p0 0) fun y77 => iF (p4 = 0) (j_X11_seen_107 φ p0 (0 : Int32) (x51 + (3 : Int32)) y77 M75) (j_X11_seen_107 φ p0 (1 : Int32) (x51 + (3 : Int32)) y77 M75)))))
set_option maxRecDepth 100000 in
theorem s_X11_seen {g : GT} {d : Nat} (hd : 4 ≤ d) {p0 : Nat} {p1 : Int32} {p2 : Int32} {p3 : Int32} {p4 : Int32} {M : fM} {φ : Int32 → fM → Prop} (h : w_X11_seen p0 p1 p2 p3 p4 M φ) : FC g mtX11_seen d [.ref p0, .int p1, .int p2, .int p3, .int p4] M 0 0 (rI φ) := by
  obtain ⟨d, rfl⟩ : ∃ e, d = e + 1 := ⟨d - 1, by omega⟩
  unfold w_X11_seen at h
  refine FC.intro (nL := 6) (by decide) rfl (Nat.le_of_ble_eq_true rfl) ?_
  show FW g mtX11_seen (d + 1) 0 [(0, .ref p0), (1, .int p1), (2, .int p2), (3, .int p3), (4, .int p4)] [] M 0 0 (rI φ)
  refine fw_iload_n (i := 1) 1 rfl (show decode _ _ = .ok (.iload_n 1, 1) by decide +kernel) ?_
  refine fw_iconst (v := (-1 : Int32)) (show decode _ _ = .ok (.iconst (-1), 1) by decide +kernel) (by decide) ?_
  refine fw_icmp_ne 15 (show decode _ _ = .ok (.if_icmp .ne 13, 3) by decide +kernel) (by decide) (fun hc94 => ?_) (fun hc94 => ?_)
  · have h_1 := ineg hc94 h
    refine fw_aload_n (i := 0) 0 rfl (show decode _ _ = .ok (.aload_n 0, 1) by decide +kernel) ?_
    refine fw_iload_n (i := 1) 1 rfl (show decode _ _ = .ok (.iload_n 1, 1) by decide +kernel) ?_
    obtain ⟨⟨hr30, n29, hs31⟩, h_2⟩ := h_1
    refine fw_callV (mt' := mtX11_isPerson) (mc := 0) (ms := 0) (As := [.int p1]) (rest := []) 1 11 n29 (show decode _ _ = .ok (.invokevirtual 322, 3) by decide +kernel) cv_X11_322 ⟨_, rfl, rfl⟩ hr30 hs31 rfl (Nat.le_of_ble_eq_true rfl) (s_X11_isPerson (d := d) (hd_le hd (by decide)) h_2) (by decide) (by decide) (kI (bc' := 0) (bs' := 0) (by decide) (by decide) (fun x32 M28 h_3 => ?_))
    refine fw_if_eq 44 (show decode _ _ = .ok (.ifCond .eq 24, 3) by decide +kernel) (by decide) (fun hc82 => ?_) (fun hc82 => ?_)
    · have h_4 := ipos hc82 h_3
      refine fw_bipush (v := (-2 : Int32)) (show decode _ _ = .ok (.bipush (-2), 2) by decide +kernel) (by decide) ?_
      exact fw_ret (v := some (.int (-2 : Int32))) .ireturn (show decode _ _ = .ok (.ireturn, 1) by decide +kernel) ⟨rfl, Or.inl rfl⟩ ⟨_, rfl, h_4⟩
    · have h_5 := ineg hc82 h_3
      refine fw_aload_n (i := 0) 0 rfl (show decode _ _ = .ok (.aload_n 0, 1) by decide +kernel) ?_
      refine fw_iload_n (i := 2) 2 rfl (show decode _ _ = .ok (.iload_n 2, 1) by decide +kernel) ?_
      refine fw_iload_n (i := 3) 3 rfl (show decode _ _ = .ok (.iload_n 3, 1) by decide +kernel) ?_
      obtain ⟨⟨hr35, n34, hs36⟩, h_6⟩ := h_5
      refine fw_callV (mt' := mtX11_isStep) (mc := 0) (ms := 0) (As := [.int p2, .int p3]) (rest := []) 2 11 n34 (show decode _ _ = .ok (.invokevirtual 81, 3) by decide +kernel) cv_X11_81 ⟨_, rfl, rfl⟩ hr35 hs36 rfl (Nat.le_of_ble_eq_true rfl) (s_X11_isStep (d := d) (hd_le hd (by decide)) h_6) (by decide) (by decide) (kI (bc' := 0) (bs' := 0) (by decide) (by decide) (fun x37 M33 h_7 => ?_))
      refine fw_if_eq 44 (show decode _ _ = .ok (.ifCond .eq 15, 3) by decide +kernel) (by decide) (fun hc81 => ?_) (fun hc81 => ?_)
      · have h_8 := ipos hc81 h_7
        refine fw_bipush (v := (-2 : Int32)) (show decode _ _ = .ok (.bipush (-2), 2) by decide +kernel) (by decide) ?_
        exact fw_ret (v := some (.int (-2 : Int32))) .ireturn (show decode _ _ = .ok (.ireturn, 1) by decide +kernel) ⟨rfl, Or.inl rfl⟩ ⟨_, rfl, h_8⟩
      · have h_9 := ineg hc81 h_7
        refine fw_aload_n (i := 0) 0 rfl (show decode _ _ = .ok (.aload_n 0, 1) by decide +kernel) ?_
        obtain ⟨⟨hr39, n38, hs40⟩, h_10⟩ := h_9
        refine fw_getP (kd := 11) (k := 0) (show decode _ _ = .ok (.getfield 7, 3) by decide +kernel) gf_X11_7 hr39 hs40 rfl ?_
        have h_11 := dR_e h_10
        obtain ⟨y41, hy42, h_12⟩ := h_11
        refine fw_deref hy42 ?_
        refine fw_bipush (v := (6 : Int32)) (show decode _ _ = .ok (.bipush 6, 2) by decide +kernel) (by decide) ?_
        obtain ⟨⟨n43, hs44, hi45⟩, h_13⟩ := h_12
        refine fw_iald (show decode _ _ = .ok (.iaload, 1) by decide +kernel) hs44 hi45 ?_
        refine fw_bipush (v := (12 : Int32)) (show decode _ _ = .ok (.bipush 12, 2) by decide +kernel) (by decide) ?_
        refine fw_icmp_ne 47 (show decode _ _ = .ok (.if_icmp .ne 6, 3) by decide +kernel) (by decide) (fun hc80 => ?_) (fun hc80 => ?_)
        · have h_14 := ineg hc80 h_13
          refine fw_bipush (v := (109 : Int32)) (show decode _ _ = .ok (.bipush 109, 2) by decide +kernel) (by decide) ?_
          refine fw_iconst (v := (4 : Int32)) (show decode _ _ = .ok (.iconst 4, 1) by decide +kernel) (by decide) ?_
          refine fw_aload_n (i := 0) 0 rfl (show decode _ _ = .ok (.aload_n 0, 1) by decide +kernel) ?_
          refine fw_getP (kd := 11) (k := 0) (show decode _ _ = .ok (.getfield 7, 3) by decide +kernel) gf_X11_7 hr39 hs40 rfl ?_
          have h_15 := dR_e h_14
          obtain ⟨y46, hy47, h_16⟩ := h_15
          refine fw_deref hy47 ?_
          refine fw_bipush (v := (6 : Int32)) (show decode _ _ = .ok (.bipush 6, 2) by decide +kernel) (by decide) ?_
          obtain ⟨⟨n48, hs49, hi50⟩, h_17⟩ := h_16
          refine fw_iald (show decode _ _ = .ok (.iaload, 1) by decide +kernel) hs49 hi50 ?_
          refine fw_imul (show decode _ _ = .ok (.imul, 1) by decide +kernel) ?_
          refine fw_iadd (show decode _ _ = .ok (.iadd, 1) by decide +kernel) ?_
          refine fw_nmI (fun x51 ex52 => ?_)
          have h_18 := h_17 x51 ex52
          refine fw_istore (i := 5) (ls' := [(5, .int x51), (0, .ref p0), (1, .int p1), (2, .int p2), (3, .int p3), (4, .int p4)]) (show decode _ _ = .ok (.istore 5, 2) by decide +kernel) (by decide) rfl ?_
          refine fw_aload_n (i := 0) 1 rfl (show decode _ _ = .ok (.aload_n 0, 1) by decide +kernel) ?_
          refine fw_getP (kd := 11) (k := 0) (show decode _ _ = .ok (.getfield 7, 3) by decide +kernel) gf_X11_7 hr39 hs40 rfl ?_
          have h_19 := dR_e h_18
          obtain ⟨y53, hy54, h_20⟩ := h_19
          refine fw_deref hy54 ?_
          refine fw_iload (i := 5) 0 rfl (show decode _ _ = .ok (.iload 5, 2) by decide +kernel) ?_
          refine fw_iload_n (i := 1) 2 rfl (show decode _ _ = .ok (.iload_n 1, 1) by decide +kernel) ?_
          obtain ⟨hr58, ⟨n55, hs56, hi57⟩, h_21⟩ := h_20
          refine fw_iast (show decode _ _ = .ok (.iastore, 1) by decide +kernel) hr58 hs56 hi57 ?_
          refine FW.nmM (fun M59 eM60 => ?_)
          have h_22 := h_21 M59 eM60
          refine fw_aload_n (i := 0) 1 rfl (show decode _ _ = .ok (.aload_n 0, 1) by decide +kernel) ?_
          refine fw_getP (kd := 11) (k := 0) (show decode _ _ = .ok (.getfield 7, 3) by decide +kernel) gf_X11_7 hr39 (mSw_I eM60 hs40) rfl ?_
          have h_23 := dR_e h_22
          obtain ⟨y61, hy62, h_24⟩ := h_23
          refine fw_deref hy62 ?_
          refine fw_iload (i := 5) 0 rfl (show decode _ _ = .ok (.iload 5, 2) by decide +kernel) ?_
          refine fw_iconst (v := (1 : Int32)) (show decode _ _ = .ok (.iconst 1, 1) by decide +kernel) (by decide) ?_
          refine fw_iadd (show decode _ _ = .ok (.iadd, 1) by decide +kernel) ?_
          refine fw_iload_n (i := 2) 3 rfl (show decode _ _ = .ok (.iload_n 2, 1) by decide +kernel) ?_
          obtain ⟨hr66, ⟨n63, hs64, hi65⟩, h_25⟩ := h_24
          refine fw_iast (show decode _ _ = .ok (.iastore, 1) by decide +kernel) hr66 hs64 hi65 ?_
          refine FW.nmM (fun M67 eM68 => ?_)
          have h_26 := h_25 M67 eM68
          refine fw_aload_n (i := 0) 1 rfl (show decode _ _ = .ok (.aload_n 0, 1) by decide +kernel) ?_
          refine fw_getP (kd := 11) (k := 0) (show decode _ _ = .ok (.getfield 7, 3) by decide +kernel) gf_X11_7 hr39 (mSw_I eM68 (mSw_I eM60 hs40)) rfl ?_
          have h_27 := dR_e h_26
          obtain ⟨y69, hy70, h_28⟩ := h_27
          refine fw_deref hy70 ?_
          refine fw_iload (i := 5) 0 rfl (show decode _ _ = .ok (.iload 5, 2) by decide +kernel) ?_
          refine fw_iconst (v := (2 : Int32)) (show decode _ _ = .ok (.iconst 2, 1) by decide +kernel) (by decide) ?_
          refine fw_iadd (show decode _ _ = .ok (.iadd, 1) by decide +kernel) ?_
          refine fw_iload_n (i := 3) 4 rfl (show decode _ _ = .ok (.iload_n 3, 1) by decide +kernel) ?_
          obtain ⟨hr74, ⟨n71, hs72, hi73⟩, h_29⟩ := h_28
          refine fw_iast (show decode _ _ = .ok (.iastore, 1) by decide +kernel) hr74 hs72 hi73 ?_
          refine FW.nmM (fun M75 eM76 => ?_)
          have h_30 := h_29 M75 eM76
          refine fw_aload_n (i := 0) 1 rfl (show decode _ _ = .ok (.aload_n 0, 1) by decide +kernel) ?_
          refine fw_getP (kd := 11) (k := 0) (show decode _ _ = .ok (.getfield 7, 3) by decide +kernel) gf_X11_7 hr39 (mSw_I eM76 (mSw_I eM68 (mSw_I eM60 hs40))) rfl ?_
          have h_31 := dR_e h_30
          obtain ⟨y77, hy78, h_32⟩ := h_31
          refine fw_deref hy78 ?_
          refine fw_iload (i := 5) 0 rfl (show decode _ _ = .ok (.iload 5, 2) by decide +kernel) ?_
          refine fw_iconst (v := (3 : Int32)) (show decode _ _ = .ok (.iconst 3, 1) by decide +kernel) (by decide) ?_
          refine fw_iadd (show decode _ _ = .ok (.iadd, 1) by decide +kernel) ?_
          refine fw_iload (i := 4) 5 rfl (show decode _ _ = .ok (.iload 4, 2) by decide +kernel) ?_
          refine fw_if_eq 106 (show decode _ _ = .ok (.ifCond .eq 7, 3) by decide +kernel) (by decide) (fun hc79 => ?_) (fun hc79 => ?_)
          · have h_33 := ipos hc79 h_32
            refine fw_iconst (v := (0 : Int32)) (show decode _ _ = .ok (.iconst 0, 1) by decide +kernel) (by decide) ?_
            refine FW.sub [1] (ls' := [(0, .ref p0)]) rfl ?_
            exact sj_X11_seen_107 hd h_33
          · have h_34 := ineg hc79 h_32
            refine fw_iconst (v := (1 : Int32)) (show decode _ _ = .ok (.iconst 1, 1) by decide +kernel) (by decide) ?_
            refine fw_goto 107 (show decode _ _ = .ok (.goto 4, 3) by decide +kernel) (by decide) ?_
            refine FW.sub [1] (ls' := [(0, .ref p0)]) rfl ?_
            exact sj_X11_seen_107 hd h_34
        · have h_35 := ipos hc80 h_13
          refine fw_bipush (v := (-2 : Int32)) (show decode _ _ = .ok (.bipush (-2), 2) by decide +kernel) (by decide) ?_
          exact fw_ret (v := some (.int (-2 : Int32))) .ireturn (show decode _ _ = .ok (.ireturn, 1) by decide +kernel) ⟨rfl, Or.inl rfl⟩ ⟨_, rfl, h_35⟩
  · have h_36 := ipos hc94 h
    refine fw_aload_n (i := 0) 0 rfl (show decode _ _ = .ok (.aload_n 0, 1) by decide +kernel) ?_
    obtain ⟨⟨hr84, n83, hs85⟩, h_37⟩ := h_36
    refine fw_getP (kd := 11) (k := 0) (show decode _ _ = .ok (.getfield 7, 3) by decide +kernel) gf_X11_7 hr84 hs85 rfl ?_
    have h_38 := dR_e h_37
    obtain ⟨y86, hy87, h_39⟩ := h_38
    refine fw_deref hy87 ?_
    refine fw_bipush (v := (6 : Int32)) (show decode _ _ = .ok (.bipush 6, 2) by decide +kernel) (by decide) ?_
    refine fw_iconst (v := (0 : Int32)) (show decode _ _ = .ok (.iconst 0, 1) by decide +kernel) (by decide) ?_
    obtain ⟨hr91, ⟨n88, hs89, hi90⟩, h_40⟩ := h_39
    refine fw_iast (show decode _ _ = .ok (.iastore, 1) by decide +kernel) hr91 hs89 hi90 ?_
    refine FW.nmM (fun M92 eM93 => ?_)
    have h_41 := h_40 M92 eM93
    refine fw_iconst (v := (0 : Int32)) (show decode _ _ = .ok (.iconst 0, 1) by decide +kernel) (by decide) ?_
    exact fw_ret (v := some (.int (0 : Int32))) .ireturn (show decode _ _ = .ok (.ireturn, 1) by decide +kernel) ⟨rfl, Or.inl rfl⟩ ⟨_, rfl, h_41⟩
def b_X11_sure_152 (K152 : Nat → Int32 → Int32 → Int64 → Int32 → fM → Prop) (φ : Int64 → fM → Prop) (p0 : Nat) (p3 : Int32) (p4 : Int32) (p5 : Int64) (p7 : Int32) (M : fM) : Prop := iF ((17 : Int32) ≤ p7) (w_X11_tenTo p3 M fun x2 M1 => w_X11_part p5 x2 p4 M1 fun x4 M3 => φ x4 M3) (isO M p0 11 ∧ dR (mP M p0 30) fun y8 => inA M y8 13 p7 ∧ nm (p5 + (mJ M y8 (ix p7))) fun x13 => nm (p7 + (1 : Int32)) fun x15 => K152 p0 p3 p4 x13 x15 M)
def l_X11_sure_152 (φ : Int64 → fM → Prop) : Nat → Nat → Int32 → Int32 → Int64 → Int32 → fM → Prop
  | 0, _, _, _, _, _, _ => False
  | n + 1, p0, p3, p4, p5, p7, M => b_X11_sure_152 (l_X11_sure_152 φ n) φ p0 p3 p4 p5 p7 M
set_option maxRecDepth 100000 in
theorem sb_X11_sure_152 {g : GT} {d : Nat} (hd : 3 ≤ d + 1) {K152 : Nat → Int32 → Int32 → Int64 → Int32 → fM → Prop} {φ : Int64 → fM → Prop} (hK152 : ∀ (p0 : Nat) (p3 : Int32) (p4 : Int32) (p5 : Int64) (p7 : Int32) (M : fM), K152 p0 p3 p4 p5 p7 M → FW g mtX11_sure (d + 1) 152 [(0, .ref p0), (3, .int p3), (4, .int p4), (5, .long p5), (7, .int p7)] [] M 0 0 (rJ φ)) {p0 : Nat} {p3 : Int32} {p4 : Int32} {p5 : Int64} {p7 : Int32} {M : fM} (h : b_X11_sure_152 K152 φ p0 p3 p4 p5 p7 M) : FW g mtX11_sure (d + 1) 152 [(0, .ref p0), (3, .int p3), (4, .int p4), (5, .long p5), (7, .int p7)] [] M 0 0 (rJ φ) := by
  unfold b_X11_sure_152 at h
  refine fw_iload (i := 7) 4 rfl (show decode _ _ = .ok (.iload 7, 2) by decide +kernel) ?_
  refine fw_bipush (v := (17 : Int32)) (show decode _ _ = .ok (.bipush 17, 2) by decide +kernel) (by decide) ?_
  refine fw_icmp_ge 177 (show decode _ _ = .ok (.if_icmp .ge 21, 3) by decide +kernel) (by decide) (fun hc17 => ?_) (fun hc17 => ?_)
  · have h_1 := ipos hc17 h
    refine fw_lload (i := 5) 3 rfl (show decode _ _ = .ok (.lload 5, 2) by decide +kernel) ?_
    refine fw_iload_n (i := 3) 1 rfl (show decode _ _ = .ok (.iload_n 3, 1) by decide +kernel) ?_
    refine fw_callS (mt' := mtX11_tenTo) (mc := 0) (ms := 0) (As := [.int p3]) (rest := [.long p5]) 1 (show decode _ _ = .ok (.invokestatic 428, 3) by decide +kernel) cs_X11_428 rfl (Nat.le_of_ble_eq_true rfl) (s_X11_tenTo (d := d) (hd_le hd (by decide)) h_1) (by decide) (by decide) (kJ (bc' := 0) (bs' := 0) (by decide) (by decide) (fun x2 M1 h_2 => ?_))
    refine fw_iload (i := 4) 2 rfl (show decode _ _ = .ok (.iload 4, 2) by decide +kernel) ?_
    refine fw_callS (mt' := mtX11_part) (mc := 0) (ms := 0) (As := [.long p5, .long x2, .int p4]) (rest := []) 3 (show decode _ _ = .ok (.invokestatic 437, 3) by decide +kernel) cs_X11_437 rfl (Nat.le_of_ble_eq_true rfl) (s_X11_part (d := d) (hd_le hd (by decide)) h_2) (by decide) (by decide) (kJ (bc' := 0) (bs' := 0) (by decide) (by decide) (fun x4 M3 h_3 => ?_))
    exact fw_ret (v := some (.long x4)) .lreturn (show decode _ _ = .ok (.lreturn, 1) by decide +kernel) ⟨rfl, rfl⟩ ⟨_, rfl, h_3⟩
  · have h_4 := ineg hc17 h
    refine fw_lload (i := 5) 3 rfl (show decode _ _ = .ok (.lload 5, 2) by decide +kernel) ?_
    refine fw_aload_n (i := 0) 0 rfl (show decode _ _ = .ok (.aload_n 0, 1) by decide +kernel) ?_
    obtain ⟨⟨hr6, n5, hs7⟩, h_5⟩ := h_4
    refine fw_getP (kd := 11) (k := 30) (show decode _ _ = .ok (.getfield 46, 3) by decide +kernel) gf_X11_46 hr6 hs7 rfl ?_
    have h_6 := dR_e h_5
    obtain ⟨y8, hy9, h_7⟩ := h_6
    refine fw_deref hy9 ?_
    refine fw_iload (i := 7) 4 rfl (show decode _ _ = .ok (.iload 7, 2) by decide +kernel) ?_
    obtain ⟨⟨n10, hs11, hi12⟩, h_8⟩ := h_7
    refine fw_lald (show decode _ _ = .ok (.laload, 1) by decide +kernel) hs11 hi12 ?_
    refine fw_ladd (show decode _ _ = .ok (.ladd, 1) by decide +kernel) ?_
    refine fw_nmJ (fun x13 ex14 => ?_)
    have h_9 := h_8 x13 ex14
    refine fw_lstore (i := 5) (ls' := [(5, .long x13), (0, .ref p0), (3, .int p3), (4, .int p4), (7, .int p7)]) (show decode _ _ = .ok (.lstore 5, 2) by decide +kernel) (by decide) rfl ?_
    obtain ⟨x15, ex16⟩ : ∃ y : Int32, y = p7 + (1 : Int32) := ⟨_, rfl⟩
    have h_10 := h_9 x15 ex16
    refine fw_iinc (i := 7) (x := p7) (v := x15) (ls' := [(7, .int x15), (5, .long x13), (0, .ref p0), (3, .int p3), (4, .int p4)]) 4 rfl (show decode _ _ = .ok (.iinc 7 1, 3) by decide +kernel) (by rw [ex16]; rfl) (by decide) rfl ?_
    refine fw_goto 152 (show decode _ _ = .ok (.goto (-22), 3) by decide +kernel) (by decide) ?_
    refine FW.sub [2, 3, 4, 1, 0] (ls' := [(0, .ref p0), (3, .int p3), (4, .int p4), (5, .long x13), (7, .int x15)]) rfl ?_
    exact hK152 _ _ _ _ _ _ h_10
theorem sl_X11_sure_152 {g : GT} {d : Nat} (hd : 3 ≤ d + 1) {φ : Int64 → fM → Prop} : ∀ (n : Nat) {p0 : Nat} {p3 : Int32} {p4 : Int32} {p5 : Int64} {p7 : Int32} {M : fM}, l_X11_sure_152 φ n p0 p3 p4 p5 p7 M → FW g mtX11_sure (d + 1) 152 [(0, .ref p0), (3, .int p3), (4, .int p4), (5, .long p5), (7, .int p7)] [] M 0 0 (rJ φ)
  | 0 => fun h => h.elim
  | n + 1 => fun h => sb_X11_sure_152 hd (fun _ _ _ _ _ _ h => sl_X11_sure_152 hd n h) h
def b_X11_sure_82 (K70 : Nat → Int32 → Int32 → Int32 → Int32 → Int32 → fM → Prop) (K82 : Nat → Int32 → Int32 → Int32 → Int32 → Int32 → Int32 → fM → Prop) (φ : Int64 → fM → Prop) (p0 : Nat) (p1 : Int32) (p2 : Int32) (p3 : Int32) (p4 : Int32) (p5 : Int32) (p6 : Int32) (M : fM) : Prop := iF (p6 ≤ 0) (isO M p0 11 ∧ dR (mP M p0 30) fun y21 => inA M y21 13 (0 : Int32) ∧ nm ((mJ M y21 (ix (0 : Int32))) * (Int32.toInt64 ((10 : Int32) - p2))) fun x26 => 6 ≤ y21 ∧ inA M y21 13 (0 : Int32) ∧ st (wJ M y21 (ix (0 : Int32)) x26) fun M32 => nm (p5 + (1 : Int32)) fun x34 => K70 p0 p1 p2 p3 p4 x34 M32) (isO M p0 11 ∧ dR (mP M p0 30) fun y39 => dR (mP M p0 30) fun y41 => inA M y41 13 p6 ∧ dR (mP M p0 30) fun y46 => inA M y46 13 (p6 - (1 : Int32)) ∧ nm (((mJ M y41 (ix p6)) * (Int32.toInt64 ((10 : Int32) - p2))) + ((mJ M y46 (ix (p6 - (1 : Int32)))) * (Int32.toInt64 p2))) fun x51 => 6 ≤ y39 ∧ inA M y39 13 p6 ∧ st (wJ M y39 (ix p6) x51) fun M57 => nm (p6 + (-1 : Int32)) fun x59 => K82 p0 p1 p2 p3 p4 p5 x59 M57)
def l_X11_sure_82 (K70 : Nat → Int32 → Int32 → Int32 → Int32 → Int32 → fM → Prop) (φ : Int64 → fM → Prop) : Nat → Nat → Int32 → Int32 → Int32 → Int32 → Int32 → Int32 → fM → Prop
  | 0, _, _, _, _, _, _, _, _ => False
  | n + 1, p0, p1, p2, p3, p4, p5, p6, M => b_X11_sure_82 K70 (l_X11_sure_82 K70 φ n) φ p0 p1 p2 p3 p4 p5 p6 M
set_option maxRecDepth 100000 in
theorem sb_X11_sure_82 {g : GT} {d : Nat} (hd : 3 ≤ d + 1) {K70 : Nat → Int32 → Int32 → Int32 → Int32 → Int32 → fM → Prop} {K82 : Nat → Int32 → Int32 → Int32 → Int32 → Int32 → Int32 → fM → Prop} {φ : Int64 → fM → Prop} (hK70 : ∀ (p0 : Nat) (p1 : Int32) (p2 : Int32) (p3 : Int32) (p4 : Int32) (p5 : Int32) (M : fM), K70 p0 p1 p2 p3 p4 p5 M → FW g mtX11_sure (d + 1) 70 [(0, .ref p0), (1, .int p1), (2, .int p2), (3, .int p3), (4, .int p4), (5, .int p5)] [] M 0 0 (rJ φ)) (hK82 : ∀ (p0 : Nat) (p1 : Int32) (p2 : Int32) (p3 : Int32) (p4 : Int32) (p5 : Int32) (p6 : Int32) (M : fM), K82 p0 p1 p2 p3 p4 p5 p6 M → FW g mtX11_sure (d + 1) 82 [(0, .ref p0), (1, .int p1), (2, .int p2), (3, .int p3), (4, .int p4), (5, .int p5), (6, .int p6)] [] M 0 0 (rJ φ)) {p0 : Nat} {p1 : Int32} {p2 : Int32} {p3 : Int32} {p4 : Int32} {p5 : Int32} {p6 : Int32} {M : fM} (h : b_X11_sure_82 K70 K82 φ p0 p1 p2 p3 p4 p5 p6 M) : FW g mtX11_sure (d + 1) 82 [(0, .ref p0), (1, .int p1), (2, .int p2), (3, .int p3), (4, .int p4), (5, .int p5), (6, .int p6)] [] M 0 0 (rJ φ) := by
  unfold b_X11_sure_82 at h
  refine fw_iload (i := 6) 6 rfl (show decode _ _ = .ok (.iload 6, 2) by decide +kernel) ?_
  refine fw_if_le 126 (show decode _ _ = .ok (.ifCond .le 42, 3) by decide +kernel) (by decide) (fun hc61 => ?_) (fun hc61 => ?_)
  · have h_1 := ipos hc61 h
    refine fw_aload_n (i := 0) 0 rfl (show decode _ _ = .ok (.aload_n 0, 1) by decide +kernel) ?_
    obtain ⟨⟨hr19, n18, hs20⟩, h_2⟩ := h_1
    refine fw_getP (kd := 11) (k := 30) (show decode _ _ = .ok (.getfield 46, 3) by decide +kernel) gf_X11_46 hr19 hs20 rfl ?_
    have h_3 := dR_e h_2
    obtain ⟨y21, hy22, h_4⟩ := h_3
    refine fw_deref hy22 ?_
    refine fw_iconst (v := (0 : Int32)) (show decode _ _ = .ok (.iconst 0, 1) by decide +kernel) (by decide) ?_
    refine fw_dup2_11 (show decode _ _ = .ok (.dup2, 1) by decide +kernel) rfl rfl ?_
    obtain ⟨⟨n23, hs24, hi25⟩, h_5⟩ := h_4
    refine fw_lald (show decode _ _ = .ok (.laload, 1) by decide +kernel) hs24 hi25 ?_
    refine fw_bipush (v := (10 : Int32)) (show decode _ _ = .ok (.bipush 10, 2) by decide +kernel) (by decide) ?_
    refine fw_iload_n (i := 2) 2 rfl (show decode _ _ = .ok (.iload_n 2, 1) by decide +kernel) ?_
    refine fw_isub (show decode _ _ = .ok (.isub, 1) by decide +kernel) ?_
    refine fw_i2l (show decode _ _ = .ok (.i2l, 1) by decide +kernel) ?_
    refine fw_lmul (show decode _ _ = .ok (.lmul, 1) by decide +kernel) ?_
    refine fw_nmJ (fun x26 ex27 => ?_)
    have h_6 := h_5 x26 ex27
    obtain ⟨hr31, ⟨n28, hs29, hi30⟩, h_7⟩ := h_6
    refine fw_last (show decode _ _ = .ok (.lastore, 1) by decide +kernel) hr31 hs29 hi30 ?_
    refine FW.nmM (fun M32 eM33 => ?_)
    have h_8 := h_7 M32 eM33
    obtain ⟨x34, ex35⟩ : ∃ y : Int32, y = p5 + (1 : Int32) := ⟨_, rfl⟩
    have h_9 := h_8 x34 ex35
    refine fw_iinc (i := 5) (x := p5) (v := x34) (ls' := [(5, .int x34), (0, .ref p0), (1, .int p1), (2, .int p2), (3, .int p3), (4, .int p4), (6, .int p6)]) 5 rfl (show decode _ _ = .ok (.iinc 5 1, 3) by decide +kernel) (by rw [ex35]; rfl) (by decide) rfl ?_
    refine fw_goto 70 (show decode _ _ = .ok (.goto (-73), 3) by decide +kernel) (by decide) ?_
    refine FW.sub [1, 2, 3, 4, 5, 0] (ls' := [(0, .ref p0), (1, .int p1), (2, .int p2), (3, .int p3), (4, .int p4), (5, .int x34)]) rfl ?_
    exact hK70 _ _ _ _ _ _ _ h_9
  · have h_10 := ineg hc61 h
    refine fw_aload_n (i := 0) 0 rfl (show decode _ _ = .ok (.aload_n 0, 1) by decide +kernel) ?_
    obtain ⟨⟨hr37, n36, hs38⟩, h_11⟩ := h_10
    refine fw_getP (kd := 11) (k := 30) (show decode _ _ = .ok (.getfield 46, 3) by decide +kernel) gf_X11_46 hr37 hs38 rfl ?_
    have h_12 := dR_e h_11
    obtain ⟨y39, hy40, h_13⟩ := h_12
    refine fw_deref hy40 ?_
    refine fw_iload (i := 6) 6 rfl (show decode _ _ = .ok (.iload 6, 2) by decide +kernel) ?_
    refine fw_aload_n (i := 0) 0 rfl (show decode _ _ = .ok (.aload_n 0, 1) by decide +kernel) ?_
    refine fw_getP (kd := 11) (k := 30) (show decode _ _ = .ok (.getfield 46, 3) by decide +kernel) gf_X11_46 hr37 hs38 rfl ?_
    have h_14 := dR_e h_13
    obtain ⟨y41, hy42, h_15⟩ := h_14
    refine fw_deref hy42 ?_
    refine fw_iload (i := 6) 6 rfl (show decode _ _ = .ok (.iload 6, 2) by decide +kernel) ?_
    obtain ⟨⟨n43, hs44, hi45⟩, h_16⟩ := h_15
    refine fw_lald (show decode _ _ = .ok (.laload, 1) by decide +kernel) hs44 hi45 ?_
    refine fw_bipush (v := (10 : Int32)) (show decode _ _ = .ok (.bipush 10, 2) by decide +kernel) (by decide) ?_
    refine fw_iload_n (i := 2) 2 rfl (show decode _ _ = .ok (.iload_n 2, 1) by decide +kernel) ?_
    refine fw_isub (show decode _ _ = .ok (.isub, 1) by decide +kernel) ?_
    refine fw_i2l (show decode _ _ = .ok (.i2l, 1) by decide +kernel) ?_
    refine fw_lmul (show decode _ _ = .ok (.lmul, 1) by decide +kernel) ?_
    refine fw_aload_n (i := 0) 0 rfl (show decode _ _ = .ok (.aload_n 0, 1) by decide +kernel) ?_
    refine fw_getP (kd := 11) (k := 30) (show decode _ _ = .ok (.getfield 46, 3) by decide +kernel) gf_X11_46 hr37 hs38 rfl ?_
    have h_17 := dR_e h_16
    obtain ⟨y46, hy47, h_18⟩ := h_17
    refine fw_deref hy47 ?_
    refine fw_iload (i := 6) 6 rfl (show decode _ _ = .ok (.iload 6, 2) by decide +kernel) ?_
    refine fw_iconst (v := (1 : Int32)) (show decode _ _ = .ok (.iconst 1, 1) by decide +kernel) (by decide) ?_
    refine fw_isub (show decode _ _ = .ok (.isub, 1) by decide +kernel) ?_
    obtain ⟨⟨n48, hs49, hi50⟩, h_19⟩ := h_18
    refine fw_lald (show decode _ _ = .ok (.laload, 1) by decide +kernel) hs49 hi50 ?_
    refine fw_iload_n (i := 2) 2 rfl (show decode _ _ = .ok (.iload_n 2, 1) by decide +kernel) ?_
    refine fw_i2l (show decode _ _ = .ok (.i2l, 1) by decide +kernel) ?_
    refine fw_lmul (show decode _ _ = .ok (.lmul, 1) by decide +kernel) ?_
    refine fw_ladd (show decode _ _ = .ok (.ladd, 1) by decide +kernel) ?_
    refine fw_nmJ (fun x51 ex52 => ?_)
    have h_20 := h_19 x51 ex52
    obtain ⟨hr56, ⟨n53, hs54, hi55⟩, h_21⟩ := h_20
    refine fw_last (show decode _ _ = .ok (.lastore, 1) by decide +kernel) hr56 hs54 hi55 ?_
    refine FW.nmM (fun M57 eM58 => ?_)
    have h_22 := h_21 M57 eM58
    obtain ⟨x59, ex60⟩ : ∃ y : Int32, y = p6 + (-1 : Int32) := ⟨_, rfl⟩
    have h_23 := h_22 x59 ex60
    refine fw_iinc (i := 6) (x := p6) (v := x59) (ls' := [(6, .int x59), (0, .ref p0), (1, .int p1), (2, .int p2), (3, .int p3), (4, .int p4), (5, .int p5)]) 6 rfl (show decode _ _ = .ok (.iinc 6 (-1), 3) by decide +kernel) (by rw [ex60]; rfl) (by decide) rfl ?_
    refine fw_goto 82 (show decode _ _ = .ok (.goto (-41), 3) by decide +kernel) (by decide) ?_
    refine FW.sub [1, 2, 3, 4, 5, 6, 0] (ls' := [(0, .ref p0), (1, .int p1), (2, .int p2), (3, .int p3), (4, .int p4), (5, .int p5), (6, .int x59)]) rfl ?_
    exact hK82 _ _ _ _ _ _ _ _ h_23
theorem sl_X11_sure_82 {g : GT} {d : Nat} (hd : 3 ≤ d + 1) {K70 : Nat → Int32 → Int32 → Int32 → Int32 → Int32 → fM → Prop} {φ : Int64 → fM → Prop} (hK70 : ∀ (p0 : Nat) (p1 : Int32) (p2 : Int32) (p3 : Int32) (p4 : Int32) (p5 : Int32) (M : fM), K70 p0 p1 p2 p3 p4 p5 M → FW g mtX11_sure (d + 1) 70 [(0, .ref p0), (1, .int p1), (2, .int p2), (3, .int p3), (4, .int p4), (5, .int p5)] [] M 0 0 (rJ φ)) : ∀ (n : Nat) {p0 : Nat} {p1 : Int32} {p2 : Int32} {p3 : Int32} {p4 : Int32} {p5 : Int32} {p6 : Int32} {M : fM}, l_X11_sure_82 K70 φ n p0 p1 p2 p3 p4 p5 p6 M → FW g mtX11_sure (d + 1) 82 [(0, .ref p0), (1, .int p1), (2, .int p2), (3, .int p3), (4, .int p4), (5, .int p5), (6, .int p6)] [] M 0 0 (rJ φ)
  | 0 => fun h => h.elim
  | n + 1 => fun h => sb_X11_sure_82 hd hK70 (fun _ _ _ _ _ _ _ _ h => sl_X11_sure_82 hd hK70 n h) h
def b_X11_sure_70 (K70 : Nat → Int32 → Int32 → Int32 → Int32 → Int32 → fM → Prop) (φ : Int64 → fM → Prop) (p0 : Nat) (p1 : Int32) (p2 : Int32) (p3 : Int32) (p4 : Int32) (p5 : Int32) (M : fM) : Prop := iF (p3 ≤ p5) (∃ n, l_X11_sure_152 φ n p0 p3 p4 (0 : Int64) p1 M) (nm (p5 + (1 : Int32)) fun x62 => ∃ n, l_X11_sure_82 K70 φ n p0 p1 p2 p3 p4 p5 x62 M)
def l_X11_sure_70 (φ : Int64 → fM → Prop) : Nat → Nat → Int32 → Int32 → Int32 → Int32 → Int32 → fM → Prop
  | 0, _, _, _, _, _, _, _ => False
  | n + 1, p0, p1, p2, p3, p4, p5, M => b_X11_sure_70 (l_X11_sure_70 φ n) φ p0 p1 p2 p3 p4 p5 M
set_option maxRecDepth 100000 in
theorem sb_X11_sure_70 {g : GT} {d : Nat} (hd : 3 ≤ d + 1) {K70 : Nat → Int32 → Int32 → Int32 → Int32 → Int32 → fM → Prop} {φ : Int64 → fM → Prop} (hK70 : ∀ (p0 : Nat) (p1 : Int32) (p2 : Int32) (p3 : Int32) (p4 : Int32) (p5 : Int32) (M : fM), K70 p0 p1 p2 p3 p4 p5 M → FW g mtX11_sure (d + 1) 70 [(0, .ref p0), (1, .int p1), (2, .int p2), (3, .int p3), (4, .int p4), (5, .int p5)] [] M 0 0 (rJ φ)) {p0 : Nat} {p1 : Int32} {p2 : Int32} {p3 : Int32} {p4 : Int32} {p5 : Int32} {M : fM} (h : b_X11_sure_70 K70 φ p0 p1 p2 p3 p4 p5 M) : FW g mtX11_sure (d + 1) 70 [(0, .ref p0), (1, .int p1), (2, .int p2), (3, .int p3), (4, .int p4), (5, .int p5)] [] M 0 0 (rJ φ) := by
  unfold b_X11_sure_70 at h
  refine fw_iload (i := 5) 5 rfl (show decode _ _ = .ok (.iload 5, 2) by decide +kernel) ?_
  refine fw_iload_n (i := 3) 3 rfl (show decode _ _ = .ok (.iload_n 3, 1) by decide +kernel) ?_
  refine fw_icmp_ge 146 (show decode _ _ = .ok (.if_icmp .ge 73, 3) by decide +kernel) (by decide) (fun hc64 => ?_) (fun hc64 => ?_)
  · have h_1 := ipos hc64 h
    refine fw_lconst (v := (0 : Int64)) (show decode _ _ = .ok (.lconst 0, 1) by decide +kernel) (by decide) ?_
    refine fw_lstore (i := 5) (ls' := [(5, .long (0 : Int64)), (0, .ref p0), (1, .int p1), (2, .int p2), (3, .int p3), (4, .int p4)]) (show decode _ _ = .ok (.lstore 5, 2) by decide +kernel) (by decide) rfl ?_
    refine fw_iload_n (i := 1) 2 rfl (show decode _ _ = .ok (.iload_n 1, 1) by decide +kernel) ?_
    refine fw_istore (i := 7) (ls' := [(7, .int p1), (5, .long (0 : Int64)), (0, .ref p0), (1, .int p1), (2, .int p2), (3, .int p3), (4, .int p4)]) (show decode _ _ = .ok (.istore 7, 2) by decide +kernel) (by decide) rfl ?_
    refine FW.sub [2, 5, 6, 1, 0] (ls' := [(0, .ref p0), (3, .int p3), (4, .int p4), (5, .long (0 : Int64)), (7, .int p1)]) rfl ?_
    obtain ⟨nn, h_2⟩ := h_1
    exact sl_X11_sure_152 hd nn h_2
  · have h_3 := ineg hc64 h
    refine fw_iload (i := 5) 5 rfl (show decode _ _ = .ok (.iload 5, 2) by decide +kernel) ?_
    refine fw_iconst (v := (1 : Int32)) (show decode _ _ = .ok (.iconst 1, 1) by decide +kernel) (by decide) ?_
    refine fw_iadd (show decode _ _ = .ok (.iadd, 1) by decide +kernel) ?_
    refine fw_nmI (fun x62 ex63 => ?_)
    have h_4 := h_3 x62 ex63
    refine fw_istore (i := 6) (ls' := [(6, .int x62), (0, .ref p0), (1, .int p1), (2, .int p2), (3, .int p3), (4, .int p4), (5, .int p5)]) (show decode _ _ = .ok (.istore 6, 2) by decide +kernel) (by decide) rfl ?_
    refine FW.sub [1, 2, 3, 4, 5, 6, 0] (ls' := [(0, .ref p0), (1, .int p1), (2, .int p2), (3, .int p3), (4, .int p4), (5, .int p5), (6, .int x62)]) rfl ?_
    obtain ⟨nn, h_5⟩ := h_4
    exact sl_X11_sure_82 hd hK70 nn h_5
theorem sl_X11_sure_70 {g : GT} {d : Nat} (hd : 3 ≤ d + 1) {φ : Int64 → fM → Prop} : ∀ (n : Nat) {p0 : Nat} {p1 : Int32} {p2 : Int32} {p3 : Int32} {p4 : Int32} {p5 : Int32} {M : fM}, l_X11_sure_70 φ n p0 p1 p2 p3 p4 p5 M → FW g mtX11_sure (d + 1) 70 [(0, .ref p0), (1, .int p1), (2, .int p2), (3, .int p3), (4, .int p4), (5, .int p5)] [] M 0 0 (rJ φ)
  | 0 => fun h => h.elim
  | n + 1 => fun h => sb_X11_sure_70 hd (fun _ _ _ _ _ _ _ h => sl_X11_sure_70 hd n h) h
def j_X11_sure_60 (K37 : Nat → Int32 → Int32 → Int32 → Int32 → Int32 → fM → Prop) (φ : Int64 → fM → Prop) (p0 : Nat) (p1 : Int32) (p2 : Int32) (p3 : Int32) (p4 : Int32) (p5 : Int32) (s0 : Int64) (s1 : Int32) (s2 : Nat) (M : fM) : Prop := 6 ≤ s2 ∧ inA M s2 13 s1 ∧ st (wJ M s2 (ix s1) s0) fun M69 => nm (p5 + (1 : Int32)) fun x71 => K37 p0 p1 p2 p3 p4 x71 M69
set_option maxRecDepth 100000 in
theorem sj_X11_sure_60 {g : GT} {d : Nat} (hd : 3 ≤ d + 1) {K37 : Nat → Int32 → Int32 → Int32 → Int32 → Int32 → fM → Prop} {φ : Int64 → fM → Prop} (hK37 : ∀ (p0 : Nat) (p1 : Int32) (p2 : Int32) (p3 : Int32) (p4 : Int32) (p5 : Int32) (M : fM), K37 p0 p1 p2 p3 p4 p5 M → FW g mtX11_sure (d + 1) 37 [(0, .ref p0), (1, .int p1), (2, .int p2), (3, .int p3), (4, .int p4), (5, .int p5)] [] M 0 0 (rJ φ)) {p0 : Nat} {p1 : Int32} {p2 : Int32} {p3 : Int32} {p4 : Int32} {p5 : Int32} {s0 : Int64} {s1 : Int32} {s2 : Nat} {M : fM} (h : j_X11_sure_60 K37 φ p0 p1 p2 p3 p4 p5 s0 s1 s2 M) : FW g mtX11_sure (d + 1) 60 [(0, .ref p0), (1, .int p1), (2, .int p2), (3, .int p3), (4, .int p4), (5, .int p5)] [.long s0, .int s1, .ref s2] M 0 0 (rJ φ) := by
  unfold j_X11_sure_60 at h
  obtain ⟨hr68, ⟨n65, hs66, hi67⟩, h_1⟩ := h
  refine fw_last (show decode _ _ = .ok (.lastore, 1) by decide +kernel) hr68 hs66 hi67 ?_
  refine FW.nmM (fun M69 eM70 => ?_)
  have h_2 := h_1 M69 eM70
  obtain ⟨x71, ex72⟩ : ∃ y : Int32, y = p5 + (1 : Int32) := ⟨_, rfl⟩
  have h_3 := h_2 x71 ex72
  refine fw_iinc (i := 5) (x := p5) (v := x71) (ls' := [(5, .int x71), (0, .ref p0), (1, .int p1), (2, .int p2), (3, .int p3), (4, .int p4)]) 5 rfl (show decode _ _ = .ok (.iinc 5 1, 3) by decide +kernel) (by rw [ex72]; rfl) (by decide) rfl ?_
  refine fw_goto 37 (show decode _ _ = .ok (.goto (-27), 3) by decide +kernel) (by decide) ?_
  refine FW.sub [1, 2, 3, 4, 5, 0] (ls' := [(0, .ref p0), (1, .int p1), (2, .int p2), (3, .int p3), (4, .int p4), (5, .int x71)]) rfl ?_
  exact hK37 _ _ _ _ _ _ _ h_3
def b_X11_sure_37 (K37 : Nat → Int32 → Int32 → Int32 → Int32 → Int32 → fM → Prop) (φ : Int64 → fM → Prop) (p0 : Nat) (p1 : Int32) (p2 : Int32) (p3 : Int32) (p4 : Int32) (p5 : Int32) (M : fM) : Prop := iF ((17 : Int32) ≤ p5) (∃ n, l_X11_sure_70 φ n p0 p1 p2 p3 p4 (0 : Int32) M) (isO M p0 11 ∧ dR (mP M p0 30) fun y76 => iF (p5 = 0) (j_X11_sure_60 K37 φ p0 p1 p2 p3 p4 p5 (1 : Int64) p5 y76 M) (j_X11_sure_60 K37 φ p0 p1 p2 p3 p4 p5 (0 : Int64) p5 y76 M))
def l_X11_sure_37 (φ : Int64 → fM → Prop) : Nat → Nat → Int32 → Int32 → Int32 → Int32 → Int32 → fM → Prop
  | 0, _, _, _, _, _, _, _ => False
  | n + 1, p0, p1, p2, p3, p4, p5, M => b_X11_sure_37 (l_X11_sure_37 φ n) φ p0 p1 p2 p3 p4 p5 M
set_option maxRecDepth 100000 in
theorem sb_X11_sure_37 {g : GT} {d : Nat} (hd : 3 ≤ d + 1) {K37 : Nat → Int32 → Int32 → Int32 → Int32 → Int32 → fM → Prop} {φ : Int64 → fM → Prop} (hK37 : ∀ (p0 : Nat) (p1 : Int32) (p2 : Int32) (p3 : Int32) (p4 : Int32) (p5 : Int32) (M : fM), K37 p0 p1 p2 p3 p4 p5 M → FW g mtX11_sure (d + 1) 37 [(0, .ref p0), (1, .int p1), (2, .int p2), (3, .int p3), (4, .int p4), (5, .int p5)] [] M 0 0 (rJ φ)) {p0 : Nat} {p1 : Int32} {p2 : Int32} {p3 : Int32} {p4 : Int32} {p5 : Int32} {M : fM} (h : b_X11_sure_37 K37 φ p0 p1 p2 p3 p4 p5 M) : FW g mtX11_sure (d + 1) 37 [(0, .ref p0), (1, .int p1), (2, .int p2), (3, .int p3), (4, .int p4), (5, .int p5)] [] M 0 0 (rJ φ) := by
  unfold b_X11_sure_37 at h
  refine fw_iload (i := 5) 5 rfl (show decode _ _ = .ok (.iload 5, 2) by decide +kernel) ?_
  refine fw_bipush (v := (17 : Int32)) (show decode _ _ = .ok (.bipush 17, 2) by decide +kernel) (by decide) ?_
  refine fw_icmp_ge 67 (show decode _ _ = .ok (.if_icmp .ge 26, 3) by decide +kernel) (by decide) (fun hc79 => ?_) (fun hc79 => ?_)
  · have h_1 := ipos hc79 h
    refine fw_iconst (v := (0 : Int32)) (show decode _ _ = .ok (.iconst 0, 1) by decide +kernel) (by decide) ?_
    refine fw_istore (i := 5) (ls' := [(5, .int (0 : Int32)), (0, .ref p0), (1, .int p1), (2, .int p2), (3, .int p3), (4, .int p4)]) (show decode _ _ = .ok (.istore 5, 2) by decide +kernel) (by decide) rfl ?_
    refine FW.sub [1, 2, 3, 4, 5, 0] (ls' := [(0, .ref p0), (1, .int p1), (2, .int p2), (3, .int p3), (4, .int p4), (5, .int (0 : Int32))]) rfl ?_
    obtain ⟨nn, h_2⟩ := h_1
    exact sl_X11_sure_70 hd nn h_2
  · have h_3 := ineg hc79 h
    refine fw_aload_n (i := 0) 0 rfl (show decode _ _ = .ok (.aload_n 0, 1) by decide +kernel) ?_
    obtain ⟨⟨hr74, n73, hs75⟩, h_4⟩ := h_3
    refine fw_getP (kd := 11) (k := 30) (show decode _ _ = .ok (.getfield 46, 3) by decide +kernel) gf_X11_46 hr74 hs75 rfl ?_
    have h_5 := dR_e h_4
    obtain ⟨y76, hy77, h_6⟩ := h_5
    refine fw_deref hy77 ?_
    refine fw_iload (i := 5) 5 rfl (show decode _ _ = .ok (.iload 5, 2) by decide +kernel) ?_
    refine fw_iload (i := 5) 5 rfl (show decode _ _ = .ok (.iload 5, 2) by decide +kernel) ?_
    refine fw_if_ne 59 (show decode _ _ = .ok (.ifCond .ne 7, 3) by decide +kernel) (by decide) (fun hc78 => ?_) (fun hc78 => ?_)
    · have h_7 := ineg hc78 h_6
      refine fw_lconst (v := (0 : Int64)) (show decode _ _ = .ok (.lconst 0, 1) by decide +kernel) (by decide) ?_
      refine FW.sub [0, 1, 2, 3, 4, 5] (ls' := [(0, .ref p0), (1, .int p1), (2, .int p2), (3, .int p3), (4, .int p4), (5, .int p5)]) rfl ?_
      exact sj_X11_sure_60 hd hK37 h_7
    · have h_8 := ipos hc78 h_6
      refine fw_lconst (v := (1 : Int64)) (show decode _ _ = .ok (.lconst 1, 1) by decide +kernel) (by decide) ?_
      refine fw_goto 60 (show decode _ _ = .ok (.goto 4, 3) by decide +kernel) (by decide) ?_
      refine FW.sub [0, 1, 2, 3, 4, 5] (ls' := [(0, .ref p0), (1, .int p1), (2, .int p2), (3, .int p3), (4, .int p4), (5, .int p5)]) rfl ?_
      exact sj_X11_sure_60 hd hK37 h_8
theorem sl_X11_sure_37 {g : GT} {d : Nat} (hd : 3 ≤ d + 1) {φ : Int64 → fM → Prop} : ∀ (n : Nat) {p0 : Nat} {p1 : Int32} {p2 : Int32} {p3 : Int32} {p4 : Int32} {p5 : Int32} {M : fM}, l_X11_sure_37 φ n p0 p1 p2 p3 p4 p5 M → FW g mtX11_sure (d + 1) 37 [(0, .ref p0), (1, .int p1), (2, .int p2), (3, .int p3), (4, .int p4), (5, .int p5)] [] M 0 0 (rJ φ)
  | 0 => fun h => h.elim
  | n + 1 => fun h => sb_X11_sure_37 hd (fun _ _ _ _ _ _ _ h => sl_X11_sure_37 hd n h) h
def w_X11_sure (p0 : Nat) (p1 : Int32) (p2 : Int32) (p3 : Int32) (p4 : Int32) (M : fM) (φ : Int64 → fM → Prop) : Prop := w_X11_isIn p1 (1 : Int32) (9 : Int32) M fun x81 M80 => iF (x81 = 0) (φ (-1 : Int64) M80) (w_X11_isIn p2 (1 : Int32) (10 : Int32) M80 fun x83 M82 => iF (x83 = 0) (φ (-1 : Int64) M82) (w_X11_isIn p3 (0 : Int32) (15 : Int32) M82 fun x85 M84 => iF (x85 = 0) (φ (-1 : Int64) M84) (∃ n, l_X11_sure_37 φ n p0 p1 p2 p3 p4 (0 : Int32) M84)))
set_option maxRecDepth 100000 in
theorem s_X11_sure {g : GT} {d : Nat} (hd : 3 ≤ d) {p0 : Nat} {p1 : Int32} {p2 : Int32} {p3 : Int32} {p4 : Int32} {M : fM} {φ : Int64 → fM → Prop} (h : w_X11_sure p0 p1 p2 p3 p4 M φ) : FC g mtX11_sure d [.ref p0, .int p1, .int p2, .int p3, .int p4] M 0 0 (rJ φ) := by
  obtain ⟨d, rfl⟩ : ∃ e, d = e + 1 := ⟨d - 1, by omega⟩
  unfold w_X11_sure at h
  refine FC.intro (nL := 8) (by decide) rfl (Nat.le_of_ble_eq_true rfl) ?_
  show FW g mtX11_sure (d + 1) 0 [(0, .ref p0), (1, .int p1), (2, .int p2), (3, .int p3), (4, .int p4)] [] M 0 0 (rJ φ)
  refine fw_iload_n (i := 1) 1 rfl (show decode _ _ = .ok (.iload_n 1, 1) by decide +kernel) ?_
  refine fw_iconst (v := (1 : Int32)) (show decode _ _ = .ok (.iconst 1, 1) by decide +kernel) (by decide) ?_
  refine fw_bipush (v := (9 : Int32)) (show decode _ _ = .ok (.bipush 9, 2) by decide +kernel) (by decide) ?_
  refine fw_callS (mt' := mtX11_isIn) (mc := 0) (ms := 0) (As := [.int p1, .int (1 : Int32), .int (9 : Int32)]) (rest := []) 3 (show decode _ _ = .ok (.invokestatic 66, 3) by decide +kernel) cs_X11_66 rfl (Nat.le_of_ble_eq_true rfl) (s_X11_isIn (d := d) (hd_le hd (by decide)) h) (by decide) (by decide) (kI (bc' := 0) (bs' := 0) (by decide) (by decide) (fun x81 M80 h_1 => ?_))
  refine fw_if_eq 30 (show decode _ _ = .ok (.ifCond .eq 23, 3) by decide +kernel) (by decide) (fun hc88 => ?_) (fun hc88 => ?_)
  · have h_2 := ipos hc88 h_1
    refine fw_ldc2 (idx := 432) (v := (-1 : Int64)) (show decode _ _ = .ok (.ldc2_w 432, 3) by decide +kernel) wd1897 ?_
    exact fw_ret (v := some (.long (-1 : Int64))) .lreturn (show decode _ _ = .ok (.lreturn, 1) by decide +kernel) ⟨rfl, rfl⟩ ⟨_, rfl, h_2⟩
  · have h_3 := ineg hc88 h_1
    refine fw_iload_n (i := 2) 2 rfl (show decode _ _ = .ok (.iload_n 2, 1) by decide +kernel) ?_
    refine fw_iconst (v := (1 : Int32)) (show decode _ _ = .ok (.iconst 1, 1) by decide +kernel) (by decide) ?_
    refine fw_bipush (v := (10 : Int32)) (show decode _ _ = .ok (.bipush 10, 2) by decide +kernel) (by decide) ?_
    refine fw_callS (mt' := mtX11_isIn) (mc := 0) (ms := 0) (As := [.int p2, .int (1 : Int32), .int (10 : Int32)]) (rest := []) 3 (show decode _ _ = .ok (.invokestatic 66, 3) by decide +kernel) cs_X11_66 rfl (Nat.le_of_ble_eq_true rfl) (s_X11_isIn (d := d) (hd_le hd (by decide)) h_3) (by decide) (by decide) (kI (bc' := 0) (bs' := 0) (by decide) (by decide) (fun x83 M82 h_4 => ?_))
    refine fw_if_eq 30 (show decode _ _ = .ok (.ifCond .eq 13, 3) by decide +kernel) (by decide) (fun hc87 => ?_) (fun hc87 => ?_)
    · have h_5 := ipos hc87 h_4
      refine fw_ldc2 (idx := 432) (v := (-1 : Int64)) (show decode _ _ = .ok (.ldc2_w 432, 3) by decide +kernel) wd1897 ?_
      exact fw_ret (v := some (.long (-1 : Int64))) .lreturn (show decode _ _ = .ok (.lreturn, 1) by decide +kernel) ⟨rfl, rfl⟩ ⟨_, rfl, h_5⟩
    · have h_6 := ineg hc87 h_4
      refine fw_iload_n (i := 3) 3 rfl (show decode _ _ = .ok (.iload_n 3, 1) by decide +kernel) ?_
      refine fw_iconst (v := (0 : Int32)) (show decode _ _ = .ok (.iconst 0, 1) by decide +kernel) (by decide) ?_
      refine fw_bipush (v := (15 : Int32)) (show decode _ _ = .ok (.bipush 15, 2) by decide +kernel) (by decide) ?_
      refine fw_callS (mt' := mtX11_isIn) (mc := 0) (ms := 0) (As := [.int p3, .int (0 : Int32), .int (15 : Int32)]) (rest := []) 3 (show decode _ _ = .ok (.invokestatic 66, 3) by decide +kernel) cs_X11_66 rfl (Nat.le_of_ble_eq_true rfl) (s_X11_isIn (d := d) (hd_le hd (by decide)) h_6) (by decide) (by decide) (kI (bc' := 0) (bs' := 0) (by decide) (by decide) (fun x85 M84 h_7 => ?_))
      refine fw_if_ne 34 (show decode _ _ = .ok (.ifCond .ne 7, 3) by decide +kernel) (by decide) (fun hc86 => ?_) (fun hc86 => ?_)
      · have h_8 := ineg hc86 h_7
        refine fw_iconst (v := (0 : Int32)) (show decode _ _ = .ok (.iconst 0, 1) by decide +kernel) (by decide) ?_
        refine fw_istore (i := 5) (ls' := [(5, .int (0 : Int32)), (0, .ref p0), (1, .int p1), (2, .int p2), (3, .int p3), (4, .int p4)]) (show decode _ _ = .ok (.istore 5, 2) by decide +kernel) (by decide) rfl ?_
        refine FW.sub [1, 2, 3, 4, 5, 0] (ls' := [(0, .ref p0), (1, .int p1), (2, .int p2), (3, .int p3), (4, .int p4), (5, .int (0 : Int32))]) rfl ?_
        obtain ⟨nn, h_9⟩ := h_8
        exact sl_X11_sure_37 hd nn h_9
      · have h_10 := ipos hc86 h_7
        refine fw_ldc2 (idx := 432) (v := (-1 : Int64)) (show decode _ _ = .ok (.ldc2_w 432, 3) by decide +kernel) wd1897 ?_
        exact fw_ret (v := some (.long (-1 : Int64))) .lreturn (show decode _ _ = .ok (.lreturn, 1) by decide +kernel) ⟨rfl, rfl⟩ ⟨_, rfl, h_10⟩
