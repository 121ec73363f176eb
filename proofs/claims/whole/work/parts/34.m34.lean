def b_X11_which_49 (K49 : Nat → Int32 → Int32 → Int32 → Int32 → Int64 → Int32 → fM → Prop) (φ : Int64 → fM → Prop) (p0 : Nat) (p1 : Int32) (p2 : Int32) (p3 : Int32) (p4 : Int32) (p5 : Int64) (p7 : Int32) (M : fM) : Prop := iF ((4 : Int32) ≤ p7) (iF ((lg_cmp p5 (0 : Int64)) = 0) (iF (p4 = 0) (φ (0 : Int64) M) (φ (1 : Int64) M)) (isO M p0 11 ∧ w_X11_jarred p0 p1 p3 p2 (1 : Int32) M fun x5 M1 => w_X11_part x5 p5 p4 M1 fun x7 M6 => φ x7 M6)) (isO M p0 11 ∧ dR (mP M p0 0) fun y13 => inA M y13 12 (7 : Int32) ∧ w_X11_has (mI M y13 (ix (7 : Int32))) p7 M fun x19 M18 => iF (x19 = 0) (nm (p7 + (1 : Int32)) fun x20 => K49 p0 p1 p2 p3 p4 p5 x20 M18) (isO M18 p0 11 ∧ w_X11_jarred p0 p1 p7 p2 (1 : Int32) M18 fun x26 M22 => nm (p5 + x26) fun x27 => nm (p7 + (1 : Int32)) fun x29 => K49 p0 p1 p2 p3 p4 x27 x29 M22))
def l_X11_which_49 (φ : Int64 → fM → Prop) : Nat → Nat → Int32 → Int32 → Int32 → Int32 → Int64 → Int32 → fM → Prop
  | 0, _, _, _, _, _, _, _, _ => False
  | n + 1, p0, p1, p2, p3, p4, p5, p7, M => b_X11_which_49 (l_X11_which_49 φ n) φ p0 p1 p2 p3 p4 p5 p7 M
set_option maxRecDepth 100000 in
theorem sb_X11_which_49 {g : GT} {d : Nat} (hd : 9 ≤ d + 1) {K49 : Nat → Int32 → Int32 → Int32 → Int32 → Int64 → Int32 → fM → Prop} {φ : Int64 → fM → Prop} (hK49 : ∀ (p0 : Nat) (p1 : Int32) (p2 : Int32) (p3 : Int32) (p4 : Int32) (p5 : Int64) (p7 : Int32) (M : fM), K49 p0 p1 p2 p3 p4 p5 p7 M → FW g mtX11_which (d + 1) 49 [(0, .ref p0), (1, .int p1), (2, .int p2), (3, .int p3), (4, .int p4), (5, .long p5), (7, .int p7)] [] M 0 0 (rJ φ)) {p0 : Nat} {p1 : Int32} {p2 : Int32} {p3 : Int32} {p4 : Int32} {p5 : Int64} {p7 : Int32} {M : fM} (h : b_X11_which_49 K49 φ p0 p1 p2 p3 p4 p5 p7 M) : FW g mtX11_which (d + 1) 49 [(0, .ref p0), (1, .int p1), (2, .int p2), (3, .int p3), (4, .int p4), (5, .long p5), (7, .int p7)] [] M 0 0 (rJ φ) := by
  unfold b_X11_which_49 at h
  refine fw_iload (i := 7) 6 rfl (show decode _ _ = .ok (.iload 7, 2) by decide +kernel) ?_
  refine fw_iconst (v := (4 : Int32)) (show decode _ _ = .ok (.iconst 4, 1) by decide +kernel) (by decide) ?_
  refine fw_icmp_ge 90 (show decode _ _ = .ok (.if_icmp .ge 38, 3) by decide +kernel) (by decide) (fun hc32 => ?_) (fun hc32 => ?_)
  · have h_1 := ipos hc32 h
    refine fw_lload (i := 5) 5 rfl (show decode _ _ = .ok (.lload 5, 2) by decide +kernel) ?_
    refine fw_lconst (v := (0 : Int64)) (show decode _ _ = .ok (.lconst 0, 1) by decide +kernel) (by decide) ?_
    refine fw_lcmp (show decode _ _ = .ok (.lcmp, 1) by decide +kernel) ?_
    refine fw_if_ne 108 (show decode _ _ = .ok (.ifCond .ne 14, 3) by decide +kernel) (by decide) (fun hc9 => ?_) (fun hc9 => ?_)
    · have h_2 := ineg hc9 h_1
      refine fw_aload_n (i := 0) 0 rfl (show decode _ _ = .ok (.aload_n 0, 1) by decide +kernel) ?_
      refine fw_iload_n (i := 1) 1 rfl (show decode _ _ = .ok (.iload_n 1, 1) by decide +kernel) ?_
      refine fw_iload_n (i := 3) 3 rfl (show decode _ _ = .ok (.iload_n 3, 1) by decide +kernel) ?_
      refine fw_iload_n (i := 2) 2 rfl (show decode _ _ = .ok (.iload_n 2, 1) by decide +kernel) ?_
      refine fw_iconst (v := (1 : Int32)) (show decode _ _ = .ok (.iconst 1, 1) by decide +kernel) (by decide) ?_
      obtain ⟨⟨hr3, n2, hs4⟩, h_3⟩ := h_2
      refine fw_callV (mt' := mtX11_jarred) (mc := 0) (ms := 0) (As := [.int p1, .int p3, .int p2, .int (1 : Int32)]) (rest := []) 4 11 n2 (show decode _ _ = .ok (.invokevirtual 459, 3) by decide +kernel) cv_X11_459 ⟨_, rfl, rfl⟩ hr3 hs4 rfl (Nat.le_of_ble_eq_true rfl) (s_X11_jarred (d := d) (hd_le hd (by decide)) h_3) (by decide) (by decide) (kJ (bc' := 0) (bs' := 0) (by decide) (by decide) (fun x5 M1 h_4 => ?_))
      refine fw_lload (i := 5) 5 rfl (show decode _ _ = .ok (.lload 5, 2) by decide +kernel) ?_
      refine fw_iload (i := 4) 4 rfl (show decode _ _ = .ok (.iload 4, 2) by decide +kernel) ?_
      refine fw_callS (mt' := mtX11_part) (mc := 0) (ms := 0) (As := [.long x5, .long p5, .int p4]) (rest := []) 3 (show decode _ _ = .ok (.invokestatic 437, 3) by decide +kernel) cs_X11_437 rfl (Nat.le_of_ble_eq_true rfl) (s_X11_part (d := d) (hd_le hd (by decide)) h_4) (by decide) (by decide) (kJ (bc' := 0) (bs' := 0) (by decide) (by decide) (fun x7 M6 h_5 => ?_))
      exact fw_ret (v := some (.long x7)) .lreturn (show decode _ _ = .ok (.lreturn, 1) by decide +kernel) ⟨rfl, rfl⟩ ⟨_, rfl, h_5⟩
    · have h_6 := ipos hc9 h_1
      refine fw_iload (i := 4) 4 rfl (show decode _ _ = .ok (.iload 4, 2) by decide +kernel) ?_
      refine fw_if_eq 106 (show decode _ _ = .ok (.ifCond .eq 7, 3) by decide +kernel) (by decide) (fun hc8 => ?_) (fun hc8 => ?_)
      · have h_7 := ipos hc8 h_6
        refine fw_lconst (v := (0 : Int64)) (show decode _ _ = .ok (.lconst 0, 1) by decide +kernel) (by decide) ?_
        exact fw_ret (v := some (.long (0 : Int64))) .lreturn (show decode _ _ = .ok (.lreturn, 1) by decide +kernel) ⟨rfl, rfl⟩ ⟨_, rfl, h_7⟩
      · have h_8 := ineg hc8 h_6
        refine fw_lconst (v := (1 : Int64)) (show decode _ _ = .ok (.lconst 1, 1) by decide +kernel) (by decide) ?_
        refine fw_goto 107 (show decode _ _ = .ok (.goto 4, 3) by decide +kernel) (by decide) ?_
        exact fw_ret (v := some (.long (1 : Int64))) .lreturn (show decode _ _ = .ok (.lreturn, 1) by decide +kernel) ⟨rfl, rfl⟩ ⟨_, rfl, h_8⟩
  · have h_9 := ineg hc32 h
    refine fw_aload_n (i := 0) 0 rfl (show decode _ _ = .ok (.aload_n 0, 1) by decide +kernel) ?_
    obtain ⟨⟨hr11, n10, hs12⟩, h_10⟩ := h_9
    refine fw_getP (kd := 11) (k := 0) (show decode _ _ = .ok (.getfield 7, 3) by decide +kernel) gf_X11_7 hr11 hs12 rfl ?_
    have h_11 := dR_e h_10
    obtain ⟨y13, hy14, h_12⟩ := h_11
    refine fw_deref hy14 ?_
    refine fw_bipush (v := (7 : Int32)) (show decode _ _ = .ok (.bipush 7, 2) by decide +kernel) (by decide) ?_
    obtain ⟨⟨n15, hs16, hi17⟩, h_13⟩ := h_12
    refine fw_iald (show decode _ _ = .ok (.iaload, 1) by decide +kernel) hs16 hi17 ?_
    refine fw_iload (i := 7) 6 rfl (show decode _ _ = .ok (.iload 7, 2) by decide +kernel) ?_
    refine fw_callS (mt' := mtX11_has) (mc := 0) (ms := 0) (As := [.int (mI M y13 (ix (7 : Int32))), .int p7]) (rest := []) 2 (show decode _ _ = .ok (.invokestatic 88, 3) by decide +kernel) cs_X11_88 rfl (Nat.le_of_ble_eq_true rfl) (s_X11_has (d := d) (hd_le hd (by decide)) h_13) (by decide) (by decide) (kI (bc' := 0) (bs' := 0) (by decide) (by decide) (fun x19 M18 h_14 => ?_))
    refine fw_if_eq 84 (show decode _ _ = .ok (.ifCond .eq 17, 3) by decide +kernel) (by decide) (fun hc31 => ?_) (fun hc31 => ?_)
    · have h_15 := ipos hc31 h_14
      obtain ⟨x20, ex21⟩ : ∃ y : Int32, y = p7 + (1 : Int32) := ⟨_, rfl⟩
      have h_16 := h_15 x20 ex21
      refine fw_iinc (i := 7) (x := p7) (v := x20) (ls' := [(7, .int x20), (0, .ref p0), (1, .int p1), (2, .int p2), (3, .int p3), (4, .int p4), (5, .long p5)]) 6 rfl (show decode _ _ = .ok (.iinc 7 1, 3) by decide +kernel) (by rw [ex21]; rfl) (by decide) rfl ?_
      refine fw_goto 49 (show decode _ _ = .ok (.goto (-38), 3) by decide +kernel) (by decide) ?_
      refine FW.sub [1, 2, 3, 4, 5, 6, 0] (ls' := [(0, .ref p0), (1, .int p1), (2, .int p2), (3, .int p3), (4, .int p4), (5, .long p5), (7, .int x20)]) rfl ?_
      exact hK49 _ _ _ _ _ _ _ _ h_16
    · have h_17 := ineg hc31 h_14
      refine fw_lload (i := 5) 5 rfl (show decode _ _ = .ok (.lload 5, 2) by decide +kernel) ?_
      refine fw_aload_n (i := 0) 0 rfl (show decode _ _ = .ok (.aload_n 0, 1) by decide +kernel) ?_
      refine fw_iload_n (i := 1) 1 rfl (show decode _ _ = .ok (.iload_n 1, 1) by decide +kernel) ?_
      refine fw_iload (i := 7) 6 rfl (show decode _ _ = .ok (.iload 7, 2) by decide +kernel) ?_
      refine fw_iload_n (i := 2) 2 rfl (show decode _ _ = .ok (.iload_n 2, 1) by decide +kernel) ?_
      refine fw_iconst (v := (1 : Int32)) (show decode _ _ = .ok (.iconst 1, 1) by decide +kernel) (by decide) ?_
      obtain ⟨⟨hr24, n23, hs25⟩, h_18⟩ := h_17
      refine fw_callV (mt' := mtX11_jarred) (mc := 0) (ms := 0) (As := [.int p1, .int p7, .int p2, .int (1 : Int32)]) (rest := [.long p5]) 4 11 n23 (show decode _ _ = .ok (.invokevirtual 459, 3) by decide +kernel) cv_X11_459 ⟨_, rfl, rfl⟩ hr24 hs25 rfl (Nat.le_of_ble_eq_true rfl) (s_X11_jarred (d := d) (hd_le hd (by decide)) h_18) (by decide) (by decide) (kJ (bc' := 0) (bs' := 0) (by decide) (by decide) (fun x26 M22 h_19 => ?_))
      refine fw_ladd (show decode _ _ = .ok (.ladd, 1) by decide +kernel) ?_
      refine fw_nmJ (fun x27 ex28 => ?_)
      have h_20 := h_19 x27 ex28
      refine fw_lstore (i := 5) (ls' := [(5, .long x27), (0, .ref p0), (1, .int p1), (2, .int p2), (3, .int p3), (4, .int p4), (7, .int p7)]) (show decode _ _ = .ok (.lstore 5, 2) by decide +kernel) (by decide) rfl ?_
      obtain ⟨x29, ex30⟩ : ∃ y : Int32, y = p7 + (1 : Int32) := ⟨_, rfl⟩
      have h_21 := h_20 x29 ex30
      refine fw_iinc (i := 7) (x := p7) (v := x29) (ls' := [(7, .int x29), (5, .long x27), (0, .ref p0), (1, .int p1), (2, .int p2), (3, .int p3), (4, .int p4)]) 6 rfl (show decode _ _ = .ok (.iinc 7 1, 3) by decide +kernel) (by rw [ex30]; rfl) (by decide) rfl ?_
      refine fw_goto 49 (show decode _ _ = .ok (.goto (-38), 3) by decide +kernel) (by decide) ?_
      refine FW.sub [2, 3, 4, 5, 6, 1, 0] (ls' := [(0, .ref p0), (1, .int p1), (2, .int p2), (3, .int p3), (4, .int p4), (5, .long x27), (7, .int x29)]) rfl ?_
      exact hK49 _ _ _ _ _ _ _ _ h_21
theorem sl_X11_which_49 {g : GT} {d : Nat} (hd : 9 ≤ d + 1) {φ : Int64 → fM → Prop} : ∀ (n : Nat) {p0 : Nat} {p1 : Int32} {p2 : Int32} {p3 : Int32} {p4 : Int32} {p5 : Int64} {p7 : Int32} {M : fM}, l_X11_which_49 φ n p0 p1 p2 p3 p4 p5 p7 M → FW g mtX11_which (d + 1) 49 [(0, .ref p0), (1, .int p1), (2, .int p2), (3, .int p3), (4, .int p4), (5, .long p5), (7, .int p7)] [] M 0 0 (rJ φ)
  | 0 => fun h => h.elim
  | n + 1 => fun h => sb_X11_which_49 hd (fun _ _ _ _ _ _ _ _ h => sl_X11_which_49 hd n h) h
def w_X11_which (p0 : Nat) (p1 : Int32) (p2 : Int32) (p3 : Int32) (p4 : Int32) (M : fM) (φ : Int64 → fM → Prop) : Prop := isO M p0 11 ∧ w_X11_isPerson p0 p1 M fun x37 M33 => iF (x37 = 0) (φ (-1 : Int64) M33) (w_X11_isIn p2 (0 : Int32) (29 : Int32) M33 fun x39 M38 => iF (x39 = 0) (φ (-1 : Int64) M38) (w_X11_isHouse p3 M38 fun x41 M40 => iF (x41 = 0) (φ (-1 : Int64) M40) (isO M40 p0 11 ∧ dR (mP M40 p0 0) fun y45 => inA M40 y45 12 (7 : Int32) ∧ w_X11_has (mI M40 y45 (ix (7 : Int32))) p3 M40 fun x51 M50 => iF (x51 = 0) (φ (-1 : Int64) M50) (∃ n, l_X11_which_49 φ n p0 p1 p2 p3 p4 (0 : Int64) (0 : Int32) M50))))
set_option maxRecDepth 100000 in
theorem s_X11_which {g : GT} {d : Nat} (hd : 9 ≤ d) {p0 : Nat} {p1 : Int32} {p2 : Int32} {p3 : Int32} {p4 : Int32} {M : fM} {φ : Int64 → fM → Prop} (h : w_X11_which p0 p1 p2 p3 p4 M φ) : FC g mtX11_which d [.ref p0, .int p1, .int p2, .int p3, .int p4] M 0 0 (rJ φ) := by
  obtain ⟨d, rfl⟩ : ∃ e, d = e + 1 := ⟨d - 1, by omega⟩
  unfold w_X11_which at h
  refine FC.intro (nL := 8) (by decide) rfl (Nat.le_of_ble_eq_true rfl) ?_
  show FW g mtX11_which (d + 1) 0 [(0, .ref p0), (1, .int p1), (2, .int p2), (3, .int p3), (4, .int p4)] [] M 0 0 (rJ φ)
  refine fw_aload_n (i := 0) 0 rfl (show decode _ _ = .ok (.aload_n 0, 1) by decide +kernel) ?_
  refine fw_iload_n (i := 1) 1 rfl (show decode _ _ = .ok (.iload_n 1, 1) by decide +kernel) ?_
  obtain ⟨⟨hr35, n34, hs36⟩, h_1⟩ := h
  refine fw_callV (mt' := mtX11_isPerson) (mc := 0) (ms := 0) (As := [.int p1]) (rest := []) 1 11 n34 (show decode _ _ = .ok (.invokevirtual 322, 3) by decide +kernel) cv_X11_322 ⟨_, rfl, rfl⟩ hr35 hs36 rfl (Nat.le_of_ble_eq_true rfl) (s_X11_isPerson (d := d) (hd_le hd (by decide)) h_1) (by decide) (by decide) (kI (bc' := 0) (bs' := 0) (by decide) (by decide) (fun x37 M33 h_2 => ?_))
  refine fw_if_eq 39 (show decode _ _ = .ok (.ifCond .eq 34, 3) by decide +kernel) (by decide) (fun hc55 => ?_) (fun hc55 => ?_)
  · have h_3 := ipos hc55 h_2
    refine fw_ldc2 (idx := 432) (v := (-1 : Int64)) (show decode _ _ = .ok (.ldc2_w 432, 3) by decide +kernel) wd1897 ?_
    exact fw_ret (v := some (.long (-1 : Int64))) .lreturn (show decode _ _ = .ok (.lreturn, 1) by decide +kernel) ⟨rfl, rfl⟩ ⟨_, rfl, h_3⟩
  · have h_4 := ineg hc55 h_2
    refine fw_iload_n (i := 2) 2 rfl (show decode _ _ = .ok (.iload_n 2, 1) by decide +kernel) ?_
    refine fw_iconst (v := (0 : Int32)) (show decode _ _ = .ok (.iconst 0, 1) by decide +kernel) (by decide) ?_
    refine fw_bipush (v := (29 : Int32)) (show decode _ _ = .ok (.bipush 29, 2) by decide +kernel) (by decide) ?_
    refine fw_callS (mt' := mtX11_isIn) (mc := 0) (ms := 0) (As := [.int p2, .int (0 : Int32), .int (29 : Int32)]) (rest := []) 3 (show decode _ _ = .ok (.invokestatic 66, 3) by decide +kernel) cs_X11_66 rfl (Nat.le_of_ble_eq_true rfl) (s_X11_isIn (d := d) (hd_le hd (by decide)) h_4) (by decide) (by decide) (kI (bc' := 0) (bs' := 0) (by decide) (by decide) (fun x39 M38 h_5 => ?_))
    refine fw_if_eq 39 (show decode _ _ = .ok (.ifCond .eq 24, 3) by decide +kernel) (by decide) (fun hc54 => ?_) (fun hc54 => ?_)
    · have h_6 := ipos hc54 h_5
      refine fw_ldc2 (idx := 432) (v := (-1 : Int64)) (show decode _ _ = .ok (.ldc2_w 432, 3) by decide +kernel) wd1897 ?_
      exact fw_ret (v := some (.long (-1 : Int64))) .lreturn (show decode _ _ = .ok (.lreturn, 1) by decide +kernel) ⟨rfl, rfl⟩ ⟨_, rfl, h_6⟩
    · have h_7 := ineg hc54 h_5
      refine fw_iload_n (i := 3) 3 rfl (show decode _ _ = .ok (.iload_n 3, 1) by decide +kernel) ?_
      refine fw_callS (mt' := mtX11_isHouse) (mc := 0) (ms := 0) (As := [.int p3]) (rest := []) 1 (show decode _ _ = .ok (.invokestatic 70, 3) by decide +kernel) cs_X11_70 rfl (Nat.le_of_ble_eq_true rfl) (s_X11_isHouse (d := d) (hd_le hd (by decide)) h_7) (by decide) (by decide) (kI (bc' := 0) (bs' := 0) (by decide) (by decide) (fun x41 M40 h_8 => ?_))
      refine fw_if_eq 39 (show decode _ _ = .ok (.ifCond .eq 17, 3) by decide +kernel) (by decide) (fun hc53 => ?_) (fun hc53 => ?_)
      · have h_9 := ipos hc53 h_8
        refine fw_ldc2 (idx := 432) (v := (-1 : Int64)) (show decode _ _ = .ok (.ldc2_w 432, 3) by decide +kernel) wd1897 ?_
        exact fw_ret (v := some (.long (-1 : Int64))) .lreturn (show decode _ _ = .ok (.lreturn, 1) by decide +kernel) ⟨rfl, rfl⟩ ⟨_, rfl, h_9⟩
      · have h_10 := ineg hc53 h_8
        refine fw_aload_n (i := 0) 0 rfl (show decode _ _ = .ok (.aload_n 0, 1) by decide +kernel) ?_
        obtain ⟨⟨hr43, n42, hs44⟩, h_11⟩ := h_10
        refine fw_getP (kd := 11) (k := 0) (show decode _ _ = .ok (.getfield 7, 3) by decide +kernel) gf_X11_7 hr43 hs44 rfl ?_
        have h_12 := dR_e h_11
        obtain ⟨y45, hy46, h_13⟩ := h_12
        refine fw_deref hy46 ?_
        refine fw_bipush (v := (7 : Int32)) (show decode _ _ = .ok (.bipush 7, 2) by decide +kernel) (by decide) ?_
        obtain ⟨⟨n47, hs48, hi49⟩, h_14⟩ := h_13
        refine fw_iald (show decode _ _ = .ok (.iaload, 1) by decide +kernel) hs48 hi49 ?_
        refine fw_iload_n (i := 3) 3 rfl (show decode _ _ = .ok (.iload_n 3, 1) by decide +kernel) ?_
        refine fw_callS (mt' := mtX11_has) (mc := 0) (ms := 0) (As := [.int (mI M40 y45 (ix (7 : Int32))), .int p3]) (rest := []) 2 (show decode _ _ = .ok (.invokestatic 88, 3) by decide +kernel) cs_X11_88 rfl (Nat.le_of_ble_eq_true rfl) (s_X11_has (d := d) (hd_le hd (by decide)) h_14) (by decide) (by decide) (kI (bc' := 0) (bs' := 0) (by decide) (by decide) (fun x51 M50 h_15 => ?_))
        refine fw_if_ne 43 (show decode _ _ = .ok (.ifCond .ne 7, 3) by decide +kernel) (by decide) (fun hc52 => ?_) (fun hc52 => ?_)
        · have h_16 := ineg hc52 h_15
          refine fw_lconst (v := (0 : Int64)) (show decode _ _ = .ok (.lconst 0, 1) by decide +kernel) (by decide) ?_
          refine fw_lstore (i := 5) (ls' := [(5, .long (0 : Int64)), (0, .ref p0), (1, .int p1), (2, .int p2), (3, .int p3), (4, .int p4)]) (show decode _ _ = .ok (.lstore 5, 2) by decide +kernel) (by decide) rfl ?_
          refine fw_iconst (v := (0 : Int32)) (show decode _ _ = .ok (.iconst 0, 1) by decide +kernel) (by decide) ?_
          refine fw_istore (i := 7) (ls' := [(7, .int (0 : Int32)), (5, .long (0 : Int64)), (0, .ref p0), (1, .int p1), (2, .int p2), (3, .int p3), (4, .int p4)]) (show decode _ _ = .ok (.istore 7, 2) by decide +kernel) (by decide) rfl ?_
          refine FW.sub [2, 3, 4, 5, 6, 1, 0] (ls' := [(0, .ref p0), (1, .int p1), (2, .int p2), (3, .int p3), (4, .int p4), (5, .long (0 : Int64)), (7, .int (0 : Int32))]) rfl ?_
          obtain ⟨nn, h_17⟩ := h_16
          exact sl_X11_which_49 hd nn h_17
        · have h_18 := ipos hc52 h_15
          refine fw_ldc2 (idx := 432) (v := (-1 : Int64)) (show decode _ _ = .ok (.ldc2_w 432, 3) by decide +kernel) wd1897 ?_
          exact fw_ret (v := some (.long (-1 : Int64))) .lreturn (show decode _ _ = .ok (.lreturn, 1) by decide +kernel) ⟨rfl, rfl⟩ ⟨_, rfl, h_18⟩
def b_X11_worth_41 (K41 : Nat → Int32 → Int32 → Int32 → Int64 → Int32 → Int32 → fM → Prop) (φ : Int32 → fM → Prop) (p0 : Nat) (p1 : Int32) (p2 : Int32) (p3 : Int32) (p5 : Int64) (p7 : Int32) (p8 : Int32) (M : fM) : Prop := isO M p0 11 ∧ w_X11_stepsOf p0 p2 M fun x5 M1 => iF (x5 < p8) (φ p7 M1) (isO M1 p0 11 ∧ w_X11_marksOf p0 p2 M1 fun x10 M6 => w_X11_has x10 p8 M6 fun x12 M11 => iF (x12 = 0) (isO M11 p0 11 ∧ w_X11_best p0 p1 p2 p3 ((1 : Int32) <<< (p8 &&& 31)) M11 fun x17 M13 => isO M13 p0 11 ∧ iF ((lg_cmp (mJ M13 p0 28) p5) < 0) (nm (mJ M13 p0 28) fun x21 => nm (p8 + (1 : Int32)) fun x23 => K41 p0 p1 p2 p3 x21 p8 x23 M13) (nm (p8 + (1 : Int32)) fun x25 => K41 p0 p1 p2 p3 p5 p7 x25 M13)) (nm (p8 + (1 : Int32)) fun x28 => K41 p0 p1 p2 p3 p5 p7 x28 M11))
def l_X11_worth_41 (φ : Int32 → fM → Prop) : Nat → Nat → Int32 → Int32 → Int32 → Int64 → Int32 → Int32 → fM → Prop
  | 0, _, _, _, _, _, _, _, _ => False
  | n + 1, p0, p1, p2, p3, p5, p7, p8, M => b_X11_worth_41 (l_X11_worth_41 φ n) φ p0 p1 p2 p3 p5 p7 p8 M
set_option maxRecDepth 100000 in
theorem sb_X11_worth_41 {g : GT} {d : Nat} (hd : 9 ≤ d + 1) {K41 : Nat → Int32 → Int32 → Int32 → Int64 → Int32 → Int32 → fM → Prop} {φ : Int32 → fM → Prop} (hK41 : ∀ (p0 : Nat) (p1 : Int32) (p2 : Int32) (p3 : Int32) (p5 : Int64) (p7 : Int32) (p8 : Int32) (M : fM), K41 p0 p1 p2 p3 p5 p7 p8 M → FW g mtX11_worth (d + 1) 41 [(0, .ref p0), (1, .int p1), (2, .int p2), (3, .int p3), (5, .long p5), (7, .int p7), (8, .int p8)] [] M 0 0 (rI φ)) {p0 : Nat} {p1 : Int32} {p2 : Int32} {p3 : Int32} {p5 : Int64} {p7 : Int32} {p8 : Int32} {M : fM} (h : b_X11_worth_41 K41 φ p0 p1 p2 p3 p5 p7 p8 M) : FW g mtX11_worth (d + 1) 41 [(0, .ref p0), (1, .int p1), (2, .int p2), (3, .int p3), (5, .long p5), (7, .int p7), (8, .int p8)] [] M 0 0 (rI φ) := by
  unfold b_X11_worth_41 at h
  refine fw_iload (i := 8) 6 rfl (show decode _ _ = .ok (.iload 8, 2) by decide +kernel) ?_
  refine fw_aload_n (i := 0) 0 rfl (show decode _ _ = .ok (.aload_n 0, 1) by decide +kernel) ?_
  refine fw_iload_n (i := 2) 2 rfl (show decode _ _ = .ok (.iload_n 2, 1) by decide +kernel) ?_
  obtain ⟨⟨hr3, n2, hs4⟩, h_1⟩ := h
  refine fw_callV (mt' := mtX11_stepsOf) (mc := 0) (ms := 0) (As := [.int p2]) (rest := [.int p8]) 1 11 n2 (show decode _ _ = .ok (.invokevirtual 74, 3) by decide +kernel) cv_X11_74 ⟨_, rfl, rfl⟩ hr3 hs4 rfl (Nat.le_of_ble_eq_true rfl) (s_X11_stepsOf (d := d) (hd_le hd (by decide)) h_1) (by decide) (by decide) (kI (bc' := 0) (bs' := 0) (by decide) (by decide) (fun x5 M1 h_2 => ?_))
  refine fw_icmp_gt 109 (show decode _ _ = .ok (.if_icmp .gt 61, 3) by decide +kernel) (by decide) (fun hc31 => ?_) (fun hc31 => ?_)
  · have h_3 := ipos hc31 h_2
    refine fw_iload (i := 7) 5 rfl (show decode _ _ = .ok (.iload 7, 2) by decide +kernel) ?_
    exact fw_ret (v := some (.int p7)) .ireturn (show decode _ _ = .ok (.ireturn, 1) by decide +kernel) ⟨rfl, Or.inl rfl⟩ ⟨_, rfl, h_3⟩
  · have h_4 := ineg hc31 h_2
    refine fw_aload_n (i := 0) 0 rfl (show decode _ _ = .ok (.aload_n 0, 1) by decide +kernel) ?_
    refine fw_iload_n (i := 2) 2 rfl (show decode _ _ = .ok (.iload_n 2, 1) by decide +kernel) ?_
    obtain ⟨⟨hr8, n7, hs9⟩, h_5⟩ := h_4
    refine fw_callV (mt' := mtX11_marksOf) (mc := 0) (ms := 0) (As := [.int p2]) (rest := []) 1 11 n7 (show decode _ _ = .ok (.invokevirtual 85, 3) by decide +kernel) cv_X11_85 ⟨_, rfl, rfl⟩ hr8 hs9 rfl (Nat.le_of_ble_eq_true rfl) (s_X11_marksOf (d := d) (hd_le hd (by decide)) h_5) (by decide) (by decide) (kI (bc' := 0) (bs' := 0) (by decide) (by decide) (fun x10 M6 h_6 => ?_))
    refine fw_iload (i := 8) 6 rfl (show decode _ _ = .ok (.iload 8, 2) by decide +kernel) ?_
    refine fw_callS (mt' := mtX11_has) (mc := 0) (ms := 0) (As := [.int x10, .int p8]) (rest := []) 2 (show decode _ _ = .ok (.invokestatic 88, 3) by decide +kernel) cs_X11_88 rfl (Nat.le_of_ble_eq_true rfl) (s_X11_has (d := d) (hd_le hd (by decide)) h_6) (by decide) (by decide) (kI (bc' := 0) (bs' := 0) (by decide) (by decide) (fun x12 M11 h_7 => ?_))
    refine fw_if_eq 67 (show decode _ _ = .ok (.ifCond .eq 6, 3) by decide +kernel) (by decide) (fun hc30 => ?_) (fun hc30 => ?_)
    · have h_8 := ipos hc30 h_7
      refine fw_aload_n (i := 0) 0 rfl (show decode _ _ = .ok (.aload_n 0, 1) by decide +kernel) ?_
      refine fw_iload_n (i := 1) 1 rfl (show decode _ _ = .ok (.iload_n 1, 1) by decide +kernel) ?_
      refine fw_iload_n (i := 2) 2 rfl (show decode _ _ = .ok (.iload_n 2, 1) by decide +kernel) ?_
      refine fw_iload_n (i := 3) 3 rfl (show decode _ _ = .ok (.iload_n 3, 1) by decide +kernel) ?_
      refine fw_iconst (v := (1 : Int32)) (show decode _ _ = .ok (.iconst 1, 1) by decide +kernel) (by decide) ?_
      refine fw_iload (i := 8) 6 rfl (show decode _ _ = .ok (.iload 8, 2) by decide +kernel) ?_
      refine fw_ishl (show decode _ _ = .ok (.ishl, 1) by decide +kernel) ?_
      obtain ⟨⟨hr15, n14, hs16⟩, h_9⟩ := h_8
      refine fw_callV (mt' := mtX11_best) (mc := 0) (ms := 0) (As := [.int p1, .int p2, .int p3, .int ((1 : Int32) <<< (p8 &&& 31))]) (rest := []) 4 11 n14 (show decode _ _ = .ok (.invokevirtual 450, 3) by decide +kernel) cv_X11_450 ⟨_, rfl, rfl⟩ hr15 hs16 rfl (Nat.le_of_ble_eq_true rfl) (s_X11_best (d := d) (hd_le hd (by decide)) h_9) (by decide) (by decide) (kI (bc' := 0) (bs' := 0) (by decide) (by decide) (fun x17 M13 h_10 => ?_))
      refine fw_istore (i := 4) (ls' := [(4, .int x17), (0, .ref p0), (1, .int p1), (2, .int p2), (3, .int p3), (5, .long p5), (7, .int p7), (8, .int p8)]) (show decode _ _ = .ok (.istore 4, 2) by decide +kernel) (by decide) rfl ?_
      refine fw_aload_n (i := 0) 1 rfl (show decode _ _ = .ok (.aload_n 0, 1) by decide +kernel) ?_
      obtain ⟨⟨hr19, n18, hs20⟩, h_11⟩ := h_10
      refine fw_getJ (kd := 11) (k := 28) (show decode _ _ = .ok (.getfield 444, 3) by decide +kernel) gf_X11_444 hr19 hs20 rfl ?_
      refine fw_lload (i := 5) 5 rfl (show decode _ _ = .ok (.lload 5, 2) by decide +kernel) ?_
      refine fw_lcmp (show decode _ _ = .ok (.lcmp, 1) by decide +kernel) ?_
      refine fw_if_lt 93 (show decode _ _ = .ok (.ifCond .lt 6, 3) by decide +kernel) (by decide) (fun hc27 => ?_) (fun hc27 => ?_)
      · have h_12 := ipos hc27 h_11
        refine fw_aload_n (i := 0) 1 rfl (show decode _ _ = .ok (.aload_n 0, 1) by decide +kernel) ?_
        refine fw_getJ (kd := 11) (k := 28) (show decode _ _ = .ok (.getfield 444, 3) by decide +kernel) gf_X11_444 hr19 hs20 rfl ?_
        refine fw_nmJ (fun x21 ex22 => ?_)
        have h_13 := h_12 x21 ex22
        refine fw_lstore (i := 5) (ls' := [(5, .long x21), (4, .int x17), (0, .ref p0), (1, .int p1), (2, .int p2), (3, .int p3), (7, .int p7), (8, .int p8)]) (show decode _ _ = .ok (.lstore 5, 2) by decide +kernel) (by decide) rfl ?_
        refine fw_iload (i := 8) 7 rfl (show decode _ _ = .ok (.iload 8, 2) by decide +kernel) ?_
        refine fw_istore (i := 7) (ls' := [(7, .int p8), (5, .long x21), (4, .int x17), (0, .ref p0), (1, .int p1), (2, .int p2), (3, .int p3), (8, .int p8)]) (show decode _ _ = .ok (.istore 7, 2) by decide +kernel) (by decide) rfl ?_
        obtain ⟨x23, ex24⟩ : ∃ y : Int32, y = p8 + (1 : Int32) := ⟨_, rfl⟩
        have h_14 := h_13 x23 ex24
        refine fw_iinc (i := 8) (x := p8) (v := x23) (ls' := [(8, .int x23), (7, .int p8), (5, .long x21), (4, .int x17), (0, .ref p0), (1, .int p1), (2, .int p2), (3, .int p3)]) 7 rfl (show decode _ _ = .ok (.iinc 8 1, 3) by decide +kernel) (by rw [ex24]; rfl) (by decide) rfl ?_
        refine fw_goto 41 (show decode _ _ = .ok (.goto (-65), 3) by decide +kernel) (by decide) ?_
        refine FW.sub [4, 5, 6, 7, 2, 1, 0] (ls' := [(0, .ref p0), (1, .int p1), (2, .int p2), (3, .int p3), (5, .long x21), (7, .int p8), (8, .int x23)]) rfl ?_
        exact hK41 _ _ _ _ _ _ _ _ h_14
      · have h_15 := ineg hc27 h_11
        refine fw_goto 103 (show decode _ _ = .ok (.goto 13, 3) by decide +kernel) (by decide) ?_
        obtain ⟨x25, ex26⟩ : ∃ y : Int32, y = p8 + (1 : Int32) := ⟨_, rfl⟩
        have h_16 := h_15 x25 ex26
        refine fw_iinc (i := 8) (x := p8) (v := x25) (ls' := [(8, .int x25), (4, .int x17), (0, .ref p0), (1, .int p1), (2, .int p2), (3, .int p3), (5, .long p5), (7, .int p7)]) 7 rfl (show decode _ _ = .ok (.iinc 8 1, 3) by decide +kernel) (by rw [ex26]; rfl) (by decide) rfl ?_
        refine fw_goto 41 (show decode _ _ = .ok (.goto (-65), 3) by decide +kernel) (by decide) ?_
        refine FW.sub [2, 3, 4, 5, 6, 7, 0] (ls' := [(0, .ref p0), (1, .int p1), (2, .int p2), (3, .int p3), (5, .long p5), (7, .int p7), (8, .int x25)]) rfl ?_
        exact hK41 _ _ _ _ _ _ _ _ h_16
    · have h_17 := ineg hc30 h_7
      refine fw_goto 103 (show decode _ _ = .ok (.goto 39, 3) by decide +kernel) (by decide) ?_
      obtain ⟨x28, ex29⟩ : ∃ y : Int32, y = p8 + (1 : Int32) := ⟨_, rfl⟩
      have h_18 := h_17 x28 ex29
      refine fw_iinc (i := 8) (x := p8) (v := x28) (ls' := [(8, .int x28), (0, .ref p0), (1, .int p1), (2, .int p2), (3, .int p3), (5, .long p5), (7, .int p7)]) 6 rfl (show decode _ _ = .ok (.iinc 8 1, 3) by decide +kernel) (by rw [ex29]; rfl) (by decide) rfl ?_
      refine fw_goto 41 (show decode _ _ = .ok (.goto (-65), 3) by decide +kernel) (by decide) ?_
      refine FW.sub [1, 2, 3, 4, 5, 6, 0] (ls' := [(0, .ref p0), (1, .int p1), (2, .int p2), (3, .int p3), (5, .long p5), (7, .int p7), (8, .int x28)]) rfl ?_
      exact hK41 _ _ _ _ _ _ _ _ h_18
theorem sl_X11_worth_41 {g : GT} {d : Nat} (hd : 9 ≤ d + 1) {φ : Int32 → fM → Prop} : ∀ (n : Nat) {p0 : Nat} {p1 : Int32} {p2 : Int32} {p3 : Int32} {p5 : Int64} {p7 : Int32} {p8 : Int32} {M : fM}, l_X11_worth_41 φ n p0 p1 p2 p3 p5 p7 p8 M → FW g mtX11_worth (d + 1) 41 [(0, .ref p0), (1, .int p1), (2, .int p2), (3, .int p3), (5, .long p5), (7, .int p7), (8, .int p8)] [] M 0 0 (rI φ)
  | 0 => fun h => h.elim
  | n + 1 => fun h => sb_X11_worth_41 hd (fun _ _ _ _ _ _ _ _ h => sl_X11_worth_41 hd n h) h
def w_X11_worth (p0 : Nat) (p1 : Int32) (p2 : Int32) (p3 : Int32) (M : fM) (φ : Int32 → fM → Prop) : Prop := isO M p0 11 ∧ w_X11_isMind p0 p1 p2 p3 M fun x36 M32 => iF (x36 = 0) (φ (-1 : Int32) M32) (iF ((p3 % (2 : Int32)) = (1 : Int32)) (φ (-1 : Int32) M32) (isO M32 p0 11 ∧ w_X11_best p0 p1 p2 p3 (0 : Int32) M32 fun x41 M37 => isO M37 p0 11 ∧ nm (mJ M37 p0 28) fun x45 => ∃ n, l_X11_worth_41 φ n p0 p1 p2 p3 x45 (-1 : Int32) (1 : Int32) M37))
set_option maxRecDepth 100000 in
theorem s_X11_worth {g : GT} {d : Nat} (hd : 9 ≤ d) {p0 : Nat} {p1 : Int32} {p2 : Int32} {p3 : Int32} {M : fM} {φ : Int32 → fM → Prop} (h : w_X11_worth p0 p1 p2 p3 M φ) : FC g mtX11_worth d [.ref p0, .int p1, .int p2, .int p3] M 0 0 (rI φ) := by
  obtain ⟨d, rfl⟩ : ∃ e, d = e + 1 := ⟨d - 1, by omega⟩
  unfold w_X11_worth at h
  refine FC.intro (nL := 9) (by decide) rfl (Nat.le_of_ble_eq_true rfl) ?_
  show FW g mtX11_worth (d + 1) 0 [(0, .ref p0), (1, .int p1), (2, .int p2), (3, .int p3)] [] M 0 0 (rI φ)
  refine fw_aload_n (i := 0) 0 rfl (show decode _ _ = .ok (.aload_n 0, 1) by decide +kernel) ?_
  refine fw_iload_n (i := 1) 1 rfl (show decode _ _ = .ok (.iload_n 1, 1) by decide +kernel) ?_
  refine fw_iload_n (i := 2) 2 rfl (show decode _ _ = .ok (.iload_n 2, 1) by decide +kernel) ?_
  refine fw_iload_n (i := 3) 3 rfl (show decode _ _ = .ok (.iload_n 3, 1) by decide +kernel) ?_
  obtain ⟨⟨hr34, n33, hs35⟩, h_1⟩ := h
  refine fw_callV (mt' := mtX11_isMind) (mc := 0) (ms := 0) (As := [.int p1, .int p2, .int p3]) (rest := []) 3 11 n33 (show decode _ _ = .ok (.invokevirtual 325, 3) by decide +kernel) cv_X11_325 ⟨_, rfl, rfl⟩ hr34 hs35 rfl (Nat.le_of_ble_eq_true rfl) (s_X11_isMind (d := d) (hd_le hd (by decide)) h_1) (by decide) (by decide) (kI (bc' := 0) (bs' := 0) (by decide) (by decide) (fun x36 M32 h_2 => ?_))
  refine fw_if_eq 17 (show decode _ _ = .ok (.ifCond .eq 10, 3) by decide +kernel) (by decide) (fun hc48 => ?_) (fun hc48 => ?_)
  · have h_3 := ipos hc48 h_2
    refine fw_iconst (v := (-1 : Int32)) (show decode _ _ = .ok (.iconst (-1), 1) by decide +kernel) (by decide) ?_
    exact fw_ret (v := some (.int (-1 : Int32))) .ireturn (show decode _ _ = .ok (.ireturn, 1) by decide +kernel) ⟨rfl, Or.inl rfl⟩ ⟨_, rfl, h_3⟩
  · have h_4 := ineg hc48 h_2
    refine fw_iload_n (i := 3) 3 rfl (show decode _ _ = .ok (.iload_n 3, 1) by decide +kernel) ?_
    refine fw_iconst (v := (2 : Int32)) (show decode _ _ = .ok (.iconst 2, 1) by decide +kernel) (by decide) ?_
    refine fw_irem (show decode _ _ = .ok (.irem, 1) by decide +kernel) (by decide) ?_
    refine fw_iconst (v := (1 : Int32)) (show decode _ _ = .ok (.iconst 1, 1) by decide +kernel) (by decide) ?_
    refine fw_icmp_ne 19 (show decode _ _ = .ok (.if_icmp .ne 5, 3) by decide +kernel) (by decide) (fun hc47 => ?_) (fun hc47 => ?_)
    · have h_5 := ineg hc47 h_4
      refine fw_aload_n (i := 0) 0 rfl (show decode _ _ = .ok (.aload_n 0, 1) by decide +kernel) ?_
      refine fw_iload_n (i := 1) 1 rfl (show decode _ _ = .ok (.iload_n 1, 1) by decide +kernel) ?_
      refine fw_iload_n (i := 2) 2 rfl (show decode _ _ = .ok (.iload_n 2, 1) by decide +kernel) ?_
      refine fw_iload_n (i := 3) 3 rfl (show decode _ _ = .ok (.iload_n 3, 1) by decide +kernel) ?_
      refine fw_iconst (v := (0 : Int32)) (show decode _ _ = .ok (.iconst 0, 1) by decide +kernel) (by decide) ?_
      obtain ⟨⟨hr39, n38, hs40⟩, h_6⟩ := h_5
      refine fw_callV (mt' := mtX11_best) (mc := 0) (ms := 0) (As := [.int p1, .int p2, .int p3, .int (0 : Int32)]) (rest := []) 4 11 n38 (show decode _ _ = .ok (.invokevirtual 450, 3) by decide +kernel) cv_X11_450 ⟨_, rfl, rfl⟩ hr39 hs40 rfl (Nat.le_of_ble_eq_true rfl) (s_X11_best (d := d) (hd_le hd (by decide)) h_6) (by decide) (by decide) (kI (bc' := 0) (bs' := 0) (by decide) (by decide) (fun x41 M37 h_7 => ?_))
      refine fw_istore (i := 4) (ls' := [(4, .int x41), (0, .ref p0), (1, .int p1), (2, .int p2), (3, .int p3)]) (show decode _ _ = .ok (.istore 4, 2) by decide +kernel) (by decide) rfl ?_
      refine fw_aload_n (i := 0) 1 rfl (show decode _ _ = .ok (.aload_n 0, 1) by decide +kernel) ?_
      obtain ⟨⟨hr43, n42, hs44⟩, h_8⟩ := h_7
      refine fw_getJ (kd := 11) (k := 28) (show decode _ _ = .ok (.getfield 444, 3) by decide +kernel) gf_X11_444 hr43 hs44 rfl ?_
      refine fw_nmJ (fun x45 ex46 => ?_)
      have h_9 := h_8 x45 ex46
      refine fw_lstore (i := 5) (ls' := [(5, .long x45), (4, .int x41), (0, .ref p0), (1, .int p1), (2, .int p2), (3, .int p3)]) (show decode _ _ = .ok (.lstore 5, 2) by decide +kernel) (by decide) rfl ?_
      refine fw_iconst (v := (-1 : Int32)) (show decode _ _ = .ok (.iconst (-1), 1) by decide +kernel) (by decide) ?_
      refine fw_istore (i := 7) (ls' := [(7, .int (-1 : Int32)), (5, .long x45), (4, .int x41), (0, .ref p0), (1, .int p1), (2, .int p2), (3, .int p3)]) (show decode _ _ = .ok (.istore 7, 2) by decide +kernel) (by decide) rfl ?_
      refine fw_iconst (v := (1 : Int32)) (show decode _ _ = .ok (.iconst 1, 1) by decide +kernel) (by decide) ?_
      refine fw_istore (i := 8) (ls' := [(8, .int (1 : Int32)), (7, .int (-1 : Int32)), (5, .long x45), (4, .int x41), (0, .ref p0), (1, .int p1), (2, .int p2), (3, .int p3)]) (show decode _ _ = .ok (.istore 8, 2) by decide +kernel) (by decide) rfl ?_
      refine FW.sub [4, 5, 6, 7, 2, 1, 0] (ls' := [(0, .ref p0), (1, .int p1), (2, .int p2), (3, .int p3), (5, .long x45), (7, .int (-1 : Int32)), (8, .int (1 : Int32))]) rfl ?_
      obtain ⟨nn, h_10⟩ := h_9
      exact sl_X11_worth_41 hd nn h_10
    · have h_11 := ipos hc47 h_4
      refine fw_iconst (v := (-1 : Int32)) (show decode _ _ = .ok (.iconst (-1), 1) by decide +kernel) (by decide) ?_
      exact fw_ret (v := some (.int (-1 : Int32))) .ireturn (show decode _ _ = .ok (.ireturn, 1) by decide +kernel) ⟨rfl, Or.inl rfl⟩ ⟨_, rfl, h_11⟩
