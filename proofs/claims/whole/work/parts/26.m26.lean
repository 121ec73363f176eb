def j_X11_beginNow_90 (φ : fM → Prop) (s0 : Int32) (s1 : Int32) (s2 : Nat) (M : fM) : Prop := 6 ≤ s2 ∧ inA M s2 12 s1 ∧ st (wI M s2 (ix s1) s0) fun M5 => φ M5
set_option maxRecDepth 100000 in
theorem sj_X11_beginNow_90 {g : GT} {d : Nat} (hd : 3 ≤ d + 1) {φ : fM → Prop} {s0 : Int32} {s1 : Int32} {s2 : Nat} {M : fM} (h : j_X11_beginNow_90 φ s0 s1 s2 M) : FW g mtX11_beginNow (d + 1) 90 [] [.int s0, .int s1, .ref s2] M 0 0 (rV φ) := by
  unfold j_X11_beginNow_90 at h
  obtain ⟨hr4, ⟨n1, hs2, hi3⟩, h_1⟩ := h
  refine fw_iast (show decode _ _ = .ok (.iastore, 1) by decide +kernel) hr4 hs2 hi3 ?_
  refine FW.nmM (fun M5 eM6 => ?_)
  have h_2 := h_1 M5 eM6
  exact fw_ret (v := none) .return_ (show decode _ _ = .ok (.return_, 1) by decide +kernel) ⟨rfl, rfl⟩ ⟨rfl, h_2⟩
def b_X11_beginNow_3 (K3 : Nat → Int32 → Int32 → Int32 → Int32 → fM → Prop) (φ : fM → Prop) (p0 : Nat) (p1 : Int32) (p2 : Int32) (p3 : Int32) (p4 : Int32) (M : fM) : Prop := iF ((9 : Int32) ≤ p4) (isO M p0 11 ∧ dR (mP M p0 0) fun y10 => 6 ≤ y10 ∧ inA M y10 12 (100 : Int32) ∧ st (wI M y10 (ix (100 : Int32)) p1) fun M16 => dR (mP M16 p0 0) fun y18 => 6 ≤ y18 ∧ inA M16 y18 12 (101 : Int32) ∧ st (wI M16 y18 (ix (101 : Int32)) p2) fun M24 => dR (mP M24 p0 0) fun y26 => 6 ≤ y26 ∧ inA M24 y26 12 (102 : Int32) ∧ st (wI M24 y26 (ix (102 : Int32)) p3) fun M32 => dR (mP M32 p0 0) fun y34 => 6 ≤ y34 ∧ inA M32 y34 12 (108 : Int32) ∧ st (wI M32 y34 (ix (108 : Int32)) (1 : Int32)) fun M40 => dR (mP M40 p0 0) fun y42 => w_X11_drawn p0 M40 fun x45 M44 => isO M44 p0 11 ∧ dR (mP M44 p0 0) fun y49 => inA M44 y49 12 (((82 : Int32) + ((3 : Int32) * p1)) + (2 : Int32)) ∧ iF ((mI M44 y49 (ix (((82 : Int32) + ((3 : Int32) * p1)) + (2 : Int32)))) ≤ x45) (j_X11_beginNow_90 φ (0 : Int32) (104 : Int32) y42 M44) (j_X11_beginNow_90 φ (1 : Int32) (104 : Int32) y42 M44)) (isO M p0 11 ∧ dR (mP M p0 0) fun y58 => 6 ≤ y58 ∧ inA M y58 12 ((100 : Int32) + p4) ∧ st (wI M y58 (ix ((100 : Int32) + p4)) (0 : Int32)) fun M64 => nm (p4 + (1 : Int32)) fun x66 => K3 p0 p1 p2 p3 x66 M64)
def l_X11_beginNow_3 (φ : fM → Prop) : Nat → Nat → Int32 → Int32 → Int32 → Int32 → fM → Prop
  | 0, _, _, _, _, _, _ => False
  | n + 1, p0, p1, p2, p3, p4, M => b_X11_beginNow_3 (l_X11_beginNow_3 φ n) φ p0 p1 p2 p3 p4 M
set_option maxRecDepth 100000 in
theorem sb_X11_beginNow_3 {g : GT} {d : Nat} (hd : 3 ≤ d + 1) {K3 : Nat → Int32 → Int32 → Int32 → Int32 → fM → Prop} {φ : fM → Prop} (hK3 : ∀ (p0 : Nat) (p1 : Int32) (p2 : Int32) (p3 : Int32) (p4 : Int32) (M : fM), K3 p0 p1 p2 p3 p4 M → FW g mtX11_beginNow (d + 1) 3 [(0, .ref p0), (1, .int p1), (2, .int p2), (3, .int p3), (4, .int p4)] [] M 0 0 (rV φ)) {p0 : Nat} {p1 : Int32} {p2 : Int32} {p3 : Int32} {p4 : Int32} {M : fM} (h : b_X11_beginNow_3 K3 φ p0 p1 p2 p3 p4 M) : FW g mtX11_beginNow (d + 1) 3 [(0, .ref p0), (1, .int p1), (2, .int p2), (3, .int p3), (4, .int p4)] [] M 0 0 (rV φ) := by
  unfold b_X11_beginNow_3 at h
  refine fw_iload (i := 4) 4 rfl (show decode _ _ = .ok (.iload 4, 2) by decide +kernel) ?_
  refine fw_bipush (v := (9 : Int32)) (show decode _ _ = .ok (.bipush 9, 2) by decide +kernel) (by decide) ?_
  refine fw_icmp_ge 27 (show decode _ _ = .ok (.if_icmp .ge 20, 3) by decide +kernel) (by decide) (fun hc68 => ?_) (fun hc68 => ?_)
  · have h_1 := ipos hc68 h
    refine fw_aload_n (i := 0) 0 rfl (show decode _ _ = .ok (.aload_n 0, 1) by decide +kernel) ?_
    obtain ⟨⟨hr8, n7, hs9⟩, h_2⟩ := h_1
    refine fw_getP (kd := 11) (k := 0) (show decode _ _ = .ok (.getfield 7, 3) by decide +kernel) gf_X11_7 hr8 hs9 rfl ?_
    have h_3 := dR_e h_2
    obtain ⟨y10, hy11, h_4⟩ := h_3
    refine fw_deref hy11 ?_
    refine fw_bipush (v := (100 : Int32)) (show decode _ _ = .ok (.bipush 100, 2) by decide +kernel) (by decide) ?_
    refine fw_iload_n (i := 1) 1 rfl (show decode _ _ = .ok (.iload_n 1, 1) by decide +kernel) ?_
    obtain ⟨hr15, ⟨n12, hs13, hi14⟩, h_5⟩ := h_4
    refine fw_iast (show decode _ _ = .ok (.iastore, 1) by decide +kernel) hr15 hs13 hi14 ?_
    refine FW.nmM (fun M16 eM17 => ?_)
    have h_6 := h_5 M16 eM17
    refine fw_aload_n (i := 0) 0 rfl (show decode _ _ = .ok (.aload_n 0, 1) by decide +kernel) ?_
    refine fw_getP (kd := 11) (k := 0) (show decode _ _ = .ok (.getfield 7, 3) by decide +kernel) gf_X11_7 hr8 (mSw_I eM17 hs9) rfl ?_
    have h_7 := dR_e h_6
    obtain ⟨y18, hy19, h_8⟩ := h_7
    refine fw_deref hy19 ?_
    refine fw_bipush (v := (101 : Int32)) (show decode _ _ = .ok (.bipush 101, 2) by decide +kernel) (by decide) ?_
    refine fw_iload_n (i := 2) 2 rfl (show decode _ _ = .ok (.iload_n 2, 1) by decide +kernel) ?_
    obtain ⟨hr23, ⟨n20, hs21, hi22⟩, h_9⟩ := h_8
    refine fw_iast (show decode _ _ = .ok (.iastore, 1) by decide +kernel) hr23 hs21 hi22 ?_
    refine FW.nmM (fun M24 eM25 => ?_)
    have h_10 := h_9 M24 eM25
    refine fw_aload_n (i := 0) 0 rfl (show decode _ _ = .ok (.aload_n 0, 1) by decide +kernel) ?_
    refine fw_getP (kd := 11) (k := 0) (show decode _ _ = .ok (.getfield 7, 3) by decide +kernel) gf_X11_7 hr8 (mSw_I eM25 (mSw_I eM17 hs9)) rfl ?_
    have h_11 := dR_e h_10
    obtain ⟨y26, hy27, h_12⟩ := h_11
    refine fw_deref hy27 ?_
    refine fw_bipush (v := (102 : Int32)) (show decode _ _ = .ok (.bipush 102, 2) by decide +kernel) (by decide) ?_
    refine fw_iload_n (i := 3) 3 rfl (show decode _ _ = .ok (.iload_n 3, 1) by decide +kernel) ?_
    obtain ⟨hr31, ⟨n28, hs29, hi30⟩, h_13⟩ := h_12
    refine fw_iast (show decode _ _ = .ok (.iastore, 1) by decide +kernel) hr31 hs29 hi30 ?_
    refine FW.nmM (fun M32 eM33 => ?_)
    have h_14 := h_13 M32 eM33
    refine fw_aload_n (i := 0) 0 rfl (show decode _ _ = .ok (.aload_n 0, 1) by decide +kernel) ?_
    refine fw_getP (kd := 11) (k := 0) (show decode _ _ = .ok (.getfield 7, 3) by decide +kernel) gf_X11_7 hr8 (mSw_I eM33 (mSw_I eM25 (mSw_I eM17 hs9))) rfl ?_
    have h_15 := dR_e h_14
    obtain ⟨y34, hy35, h_16⟩ := h_15
    refine fw_deref hy35 ?_
    refine fw_bipush (v := (108 : Int32)) (show decode _ _ = .ok (.bipush 108, 2) by decide +kernel) (by decide) ?_
    refine fw_iconst (v := (1 : Int32)) (show decode _ _ = .ok (.iconst 1, 1) by decide +kernel) (by decide) ?_
    obtain ⟨hr39, ⟨n36, hs37, hi38⟩, h_17⟩ := h_16
    refine fw_iast (show decode _ _ = .ok (.iastore, 1) by decide +kernel) hr39 hs37 hi38 ?_
    refine FW.nmM (fun M40 eM41 => ?_)
    have h_18 := h_17 M40 eM41
    refine fw_aload_n (i := 0) 0 rfl (show decode _ _ = .ok (.aload_n 0, 1) by decide +kernel) ?_
    refine fw_getP (kd := 11) (k := 0) (show decode _ _ = .ok (.getfield 7, 3) by decide +kernel) gf_X11_7 hr8 (mSw_I eM41 (mSw_I eM33 (mSw_I eM25 (mSw_I eM17 hs9)))) rfl ?_
    have h_19 := dR_e h_18
    obtain ⟨y42, hy43, h_20⟩ := h_19
    refine fw_deref hy43 ?_
    refine fw_bipush (v := (104 : Int32)) (show decode _ _ = .ok (.bipush 104, 2) by decide +kernel) (by decide) ?_
    refine fw_aload_n (i := 0) 0 rfl (show decode _ _ = .ok (.aload_n 0, 1) by decide +kernel) ?_
    refine fw_callV (mt' := mtX11_drawn) (mc := 0) (ms := 0) (As := []) (rest := [.int (104 : Int32), .ref y42]) 0 11 n7 (show decode _ _ = .ok (.invokevirtual 344, 3) by decide +kernel) cv_X11_344 ⟨_, rfl, rfl⟩ hr8 (mSw_I eM41 (mSw_I eM33 (mSw_I eM25 (mSw_I eM17 hs9)))) rfl (Nat.le_of_ble_eq_true rfl) (s_X11_drawn (d := d) (hd_le hd (by decide)) h_20) (by decide) (by decide) (kI (bc' := 0) (bs' := 0) (by decide) (by decide) (fun x45 M44 h_21 => ?_))
    refine fw_aload_n (i := 0) 0 rfl (show decode _ _ = .ok (.aload_n 0, 1) by decide +kernel) ?_
    obtain ⟨⟨hr47, n46, hs48⟩, h_22⟩ := h_21
    refine fw_getP (kd := 11) (k := 0) (show decode _ _ = .ok (.getfield 7, 3) by decide +kernel) gf_X11_7 hr47 hs48 rfl ?_
    have h_23 := dR_e h_22
    obtain ⟨y49, hy50, h_24⟩ := h_23
    refine fw_deref hy50 ?_
    refine fw_bipush (v := (82 : Int32)) (show decode _ _ = .ok (.bipush 82, 2) by decide +kernel) (by decide) ?_
    refine fw_iconst (v := (3 : Int32)) (show decode _ _ = .ok (.iconst 3, 1) by decide +kernel) (by decide) ?_
    refine fw_iload_n (i := 1) 1 rfl (show decode _ _ = .ok (.iload_n 1, 1) by decide +kernel) ?_
    refine fw_imul (show decode _ _ = .ok (.imul, 1) by decide +kernel) ?_
    refine fw_iadd (show decode _ _ = .ok (.iadd, 1) by decide +kernel) ?_
    refine fw_iconst (v := (2 : Int32)) (show decode _ _ = .ok (.iconst 2, 1) by decide +kernel) (by decide) ?_
    refine fw_iadd (show decode _ _ = .ok (.iadd, 1) by decide +kernel) ?_
    obtain ⟨⟨n51, hs52, hi53⟩, h_25⟩ := h_24
    refine fw_iald (show decode _ _ = .ok (.iaload, 1) by decide +kernel) hs52 hi53 ?_
    refine fw_icmp_ge 89 (show decode _ _ = .ok (.if_icmp .ge 7, 3) by decide +kernel) (by decide) (fun hc54 => ?_) (fun hc54 => ?_)
    · have h_26 := ipos hc54 h_25
      refine fw_iconst (v := (0 : Int32)) (show decode _ _ = .ok (.iconst 0, 1) by decide +kernel) (by decide) ?_
      refine FW.sub [] (ls' := []) rfl ?_
      exact sj_X11_beginNow_90 hd h_26
    · have h_27 := ineg hc54 h_25
      refine fw_iconst (v := (1 : Int32)) (show decode _ _ = .ok (.iconst 1, 1) by decide +kernel) (by decide) ?_
      refine fw_goto 90 (show decode _ _ = .ok (.goto 4, 3) by decide +kernel) (by decide) ?_
      refine FW.sub [] (ls' := []) rfl ?_
      exact sj_X11_beginNow_90 hd h_27
  · have h_28 := ineg hc68 h
    refine fw_aload_n (i := 0) 0 rfl (show decode _ _ = .ok (.aload_n 0, 1) by decide +kernel) ?_
    obtain ⟨⟨hr56, n55, hs57⟩, h_29⟩ := h_28
    refine fw_getP (kd := 11) (k := 0) (show decode _ _ = .ok (.getfield 7, 3) by decide +kernel) gf_X11_7 hr56 hs57 rfl ?_
    have h_30 := dR_e h_29
    obtain ⟨y58, hy59, h_31⟩ := h_30
    refine fw_deref hy59 ?_
    refine fw_bipush (v := (100 : Int32)) (show decode _ _ = .ok (.bipush 100, 2) by decide +kernel) (by decide) ?_
    refine fw_iload (i := 4) 4 rfl (show decode _ _ = .ok (.iload 4, 2) by decide +kernel) ?_
    refine fw_iadd (show decode _ _ = .ok (.iadd, 1) by decide +kernel) ?_
    refine fw_iconst (v := (0 : Int32)) (show decode _ _ = .ok (.iconst 0, 1) by decide +kernel) (by decide) ?_
    obtain ⟨hr63, ⟨n60, hs61, hi62⟩, h_32⟩ := h_31
    refine fw_iast (show decode _ _ = .ok (.iastore, 1) by decide +kernel) hr63 hs61 hi62 ?_
    refine FW.nmM (fun M64 eM65 => ?_)
    have h_33 := h_32 M64 eM65
    obtain ⟨x66, ex67⟩ : ∃ y : Int32, y = p4 + (1 : Int32) := ⟨_, rfl⟩
    have h_34 := h_33 x66 ex67
    refine fw_iinc (i := 4) (x := p4) (v := x66) (ls' := [(4, .int x66), (0, .ref p0), (1, .int p1), (2, .int p2), (3, .int p3)]) 4 rfl (show decode _ _ = .ok (.iinc 4 1, 3) by decide +kernel) (by rw [ex67]; rfl) (by decide) rfl ?_
    refine fw_goto 3 (show decode _ _ = .ok (.goto (-21), 3) by decide +kernel) (by decide) ?_
    refine FW.sub [1, 2, 3, 4, 0] (ls' := [(0, .ref p0), (1, .int p1), (2, .int p2), (3, .int p3), (4, .int x66)]) rfl ?_
    exact hK3 _ _ _ _ _ _ h_34
theorem sl_X11_beginNow_3 {g : GT} {d : Nat} (hd : 3 ≤ d + 1) {φ : fM → Prop} : ∀ (n : Nat) {p0 : Nat} {p1 : Int32} {p2 : Int32} {p3 : Int32} {p4 : Int32} {M : fM}, l_X11_beginNow_3 φ n p0 p1 p2 p3 p4 M → FW g mtX11_beginNow (d + 1) 3 [(0, .ref p0), (1, .int p1), (2, .int p2), (3, .int p3), (4, .int p4)] [] M 0 0 (rV φ)
  | 0 => fun h => h.elim
  | n + 1 => fun h => sb_X11_beginNow_3 hd (fun _ _ _ _ _ _ h => sl_X11_beginNow_3 hd n h) h
def w_X11_beginNow (p0 : Nat) (p1 : Int32) (p2 : Int32) (p3 : Int32) (M : fM) (φ : fM → Prop) : Prop := ∃ n, l_X11_beginNow_3 φ n p0 p1 p2 p3 (0 : Int32) M
set_option maxRecDepth 100000 in
theorem s_X11_beginNow {g : GT} {d : Nat} (hd : 3 ≤ d) {p0 : Nat} {p1 : Int32} {p2 : Int32} {p3 : Int32} {M : fM} {φ : fM → Prop} (h : w_X11_beginNow p0 p1 p2 p3 M φ) : FC g mtX11_beginNow d [.ref p0, .int p1, .int p2, .int p3] M 0 0 (rV φ) := by
  obtain ⟨d, rfl⟩ : ∃ e, d = e + 1 := ⟨d - 1, by omega⟩
  unfold w_X11_beginNow at h
  refine FC.intro (nL := 5) (by decide) rfl (Nat.le_of_ble_eq_true rfl) ?_
  show FW g mtX11_beginNow (d + 1) 0 [(0, .ref p0), (1, .int p1), (2, .int p2), (3, .int p3)] [] M 0 0 (rV φ)
  refine fw_iconst (v := (0 : Int32)) (show decode _ _ = .ok (.iconst 0, 1) by decide +kernel) (by decide) ?_
  refine fw_istore (i := 4) (ls' := [(4, .int (0 : Int32)), (0, .ref p0), (1, .int p1), (2, .int p2), (3, .int p3)]) (show decode _ _ = .ok (.istore 4, 2) by decide +kernel) (by decide) rfl ?_
  refine FW.sub [1, 2, 3, 4, 0] (ls' := [(0, .ref p0), (1, .int p1), (2, .int p2), (3, .int p3), (4, .int (0 : Int32))]) rfl ?_
  obtain ⟨nn, h_1⟩ := h
  exact sl_X11_beginNow_3 hd nn h_1
def w_X11_begin (p0 : Nat) (p1 : Int32) (p2 : Int32) (p3 : Int32) (M : fM) (φ : Int32 → fM → Prop) : Prop := isO M p0 11 ∧ w_X11_isMind p0 p1 p2 p3 M fun x5 M1 => iF (x5 = 0) (φ (-1 : Int32) M1) (isO M1 p0 11 ∧ w_X11_keep p0 M1 fun M6 => isO M6 p0 11 ∧ w_X11_beginNow p0 p1 p2 p3 M6 fun M10 => isO M10 p0 11 ∧ dR (mP M10 p0 0) fun y17 => inA M10 y17 12 (104 : Int32) ∧ φ (mI M10 y17 (ix (104 : Int32))) M10)
set_option maxRecDepth 100000 in
theorem s_X11_begin {g : GT} {d : Nat} (hd : 4 ≤ d) {p0 : Nat} {p1 : Int32} {p2 : Int32} {p3 : Int32} {M : fM} {φ : Int32 → fM → Prop} (h : w_X11_begin p0 p1 p2 p3 M φ) : FC g mtX11_begin d [.ref p0, .int p1, .int p2, .int p3] M 0 0 (rI φ) := by
  obtain ⟨d, rfl⟩ : ∃ e, d = e + 1 := ⟨d - 1, by omega⟩
  unfold w_X11_begin at h
  refine FC.intro (nL := 4) (by decide) rfl (Nat.le_of_ble_eq_true rfl) ?_
  show FW g mtX11_begin (d + 1) 0 [(0, .ref p0), (1, .int p1), (2, .int p2), (3, .int p3)] [] M 0 0 (rI φ)
  refine fw_aload_n (i := 0) 0 rfl (show decode _ _ = .ok (.aload_n 0, 1) by decide +kernel) ?_
  refine fw_iload_n (i := 1) 1 rfl (show decode _ _ = .ok (.iload_n 1, 1) by decide +kernel) ?_
  refine fw_iload_n (i := 2) 2 rfl (show decode _ _ = .ok (.iload_n 2, 1) by decide +kernel) ?_
  refine fw_iload_n (i := 3) 3 rfl (show decode _ _ = .ok (.iload_n 3, 1) by decide +kernel) ?_
  obtain ⟨⟨hr3, n2, hs4⟩, h_1⟩ := h
  refine fw_callV (mt' := mtX11_isMind) (mc := 0) (ms := 0) (As := [.int p1, .int p2, .int p3]) (rest := []) 3 11 n2 (show decode _ _ = .ok (.invokevirtual 325, 3) by decide +kernel) cv_X11_325 ⟨_, rfl, rfl⟩ hr3 hs4 rfl (Nat.le_of_ble_eq_true rfl) (s_X11_isMind (d := d) (hd_le hd (by decide)) h_1) (by decide) (by decide) (kI (bc' := 0) (bs' := 0) (by decide) (by decide) (fun x5 M1 h_2 => ?_))
  refine fw_if_ne 12 (show decode _ _ = .ok (.ifCond .ne 5, 3) by decide +kernel) (by decide) (fun hc22 => ?_) (fun hc22 => ?_)
  · have h_3 := ineg hc22 h_2
    refine fw_aload_n (i := 0) 0 rfl (show decode _ _ = .ok (.aload_n 0, 1) by decide +kernel) ?_
    obtain ⟨⟨hr8, n7, hs9⟩, h_4⟩ := h_3
    refine fw_callV (mt' := mtX11_keep) (mc := 0) (ms := 0) (As := []) (rest := []) 0 11 n7 (show decode _ _ = .ok (.invokevirtual 353, 3) by decide +kernel) cv_X11_353 ⟨_, rfl, rfl⟩ hr8 hs9 rfl (Nat.le_of_ble_eq_true rfl) (s_X11_keep (d := d) (hd_le hd (by decide)) h_4) (by decide) (by decide) (kV (bc' := 0) (bs' := 0) (by decide) (by decide) (fun M6 h_5 => ?_))
    refine fw_aload_n (i := 0) 0 rfl (show decode _ _ = .ok (.aload_n 0, 1) by decide +kernel) ?_
    refine fw_iload_n (i := 1) 1 rfl (show decode _ _ = .ok (.iload_n 1, 1) by decide +kernel) ?_
    refine fw_iload_n (i := 2) 2 rfl (show decode _ _ = .ok (.iload_n 2, 1) by decide +kernel) ?_
    refine fw_iload_n (i := 3) 3 rfl (show decode _ _ = .ok (.iload_n 3, 1) by decide +kernel) ?_
    obtain ⟨⟨hr12, n11, hs13⟩, h_6⟩ := h_5
    refine fw_callV (mt' := mtX11_beginNow) (mc := 0) (ms := 0) (As := [.int p1, .int p2, .int p3]) (rest := []) 3 11 n11 (show decode _ _ = .ok (.invokevirtual 356, 3) by decide +kernel) cv_X11_356 ⟨_, rfl, rfl⟩ hr12 hs13 rfl (Nat.le_of_ble_eq_true rfl) (s_X11_beginNow (d := d) (hd_le hd (by decide)) h_6) (by decide) (by decide) (kV (bc' := 0) (bs' := 0) (by decide) (by decide) (fun M10 h_7 => ?_))
    refine fw_aload_n (i := 0) 0 rfl (show decode _ _ = .ok (.aload_n 0, 1) by decide +kernel) ?_
    obtain ⟨⟨hr15, n14, hs16⟩, h_8⟩ := h_7
    refine fw_getP (kd := 11) (k := 0) (show decode _ _ = .ok (.getfield 7, 3) by decide +kernel) gf_X11_7 hr15 hs16 rfl ?_
    have h_9 := dR_e h_8
    obtain ⟨y17, hy18, h_10⟩ := h_9
    refine fw_deref hy18 ?_
    refine fw_bipush (v := (104 : Int32)) (show decode _ _ = .ok (.bipush 104, 2) by decide +kernel) (by decide) ?_
    obtain ⟨⟨n19, hs20, hi21⟩, h_11⟩ := h_10
    refine fw_iald (show decode _ _ = .ok (.iaload, 1) by decide +kernel) hs20 hi21 ?_
    exact fw_ret (v := some (.int (mI M10 y17 (ix (104 : Int32))))) .ireturn (show decode _ _ = .ok (.ireturn, 1) by decide +kernel) ⟨rfl, Or.inl rfl⟩ ⟨_, rfl, h_11⟩
  · have h_12 := ipos hc22 h_2
    refine fw_iconst (v := (-1 : Int32)) (show decode _ _ = .ok (.iconst (-1), 1) by decide +kernel) (by decide) ?_
    exact fw_ret (v := some (.int (-1 : Int32))) .ireturn (show decode _ _ = .ok (.ireturn, 1) by decide +kernel) ⟨rfl, Or.inl rfl⟩ ⟨_, rfl, h_12⟩
def w_X11_w3 (p0 : Int32) (p1 : Int32) (p2 : Int32) (M : fM) (φ : Int64 → fM → Prop) : Prop := φ (((((Int32.toInt64 p0) <<< (Int32.toInt64 (8 : Int32) &&& 63)) ||| (Int32.toInt64 p1)) <<< (Int32.toInt64 (8 : Int32) &&& 63)) ||| (Int32.toInt64 p2)) M
set_option maxRecDepth 100000 in
theorem s_X11_w3 {g : GT} {d : Nat} (hd : 1 ≤ d) {p0 : Int32} {p1 : Int32} {p2 : Int32} {M : fM} {φ : Int64 → fM → Prop} (h : w_X11_w3 p0 p1 p2 M φ) : FC g mtX11_w3 d [.int p0, .int p1, .int p2] M 0 0 (rJ φ) := by
  obtain ⟨d, rfl⟩ : ∃ e, d = e + 1 := ⟨d - 1, by omega⟩
  unfold w_X11_w3 at h
  refine FC.intro (nL := 3) (by decide) rfl (Nat.le_of_ble_eq_true rfl) ?_
  show FW g mtX11_w3 (d + 1) 0 [(0, .int p0), (1, .int p1), (2, .int p2)] [] M 0 0 (rJ φ)
  refine fw_iload_n (i := 0) 0 rfl (show decode _ _ = .ok (.iload_n 0, 1) by decide +kernel) ?_
  refine fw_i2l (show decode _ _ = .ok (.i2l, 1) by decide +kernel) ?_
  refine fw_bipush (v := (8 : Int32)) (show decode _ _ = .ok (.bipush 8, 2) by decide +kernel) (by decide) ?_
  refine fw_lshl (show decode _ _ = .ok (.lshl, 1) by decide +kernel) ?_
  refine fw_iload_n (i := 1) 1 rfl (show decode _ _ = .ok (.iload_n 1, 1) by decide +kernel) ?_
  refine fw_i2l (show decode _ _ = .ok (.i2l, 1) by decide +kernel) ?_
  refine fw_lor (show decode _ _ = .ok (.lor, 1) by decide +kernel) ?_
  refine fw_bipush (v := (8 : Int32)) (show decode _ _ = .ok (.bipush 8, 2) by decide +kernel) (by decide) ?_
  refine fw_lshl (show decode _ _ = .ok (.lshl, 1) by decide +kernel) ?_
  refine fw_iload_n (i := 2) 2 rfl (show decode _ _ = .ok (.iload_n 2, 1) by decide +kernel) ?_
  refine fw_i2l (show decode _ _ = .ok (.i2l, 1) by decide +kernel) ?_
  refine fw_lor (show decode _ _ = .ok (.lor, 1) by decide +kernel) ?_
  exact fw_ret (v := some (.long (((((Int32.toInt64 p0) <<< (Int32.toInt64 (8 : Int32) &&& 63)) ||| (Int32.toInt64 p1)) <<< (Int32.toInt64 (8 : Int32) &&& 63)) ||| (Int32.toInt64 p2)))) .lreturn (show decode _ _ = .ok (.lreturn, 1) by decide +kernel) ⟨rfl, rfl⟩ ⟨_, rfl, h⟩
def w_X11_w5 (p0 : Int32) (p1 : Int32) (p2 : Int32) (p3 : Int32) (p4 : Int32) (M : fM) (φ : Int64 → fM → Prop) : Prop := w_X11_w3 p0 p1 p2 M fun x2 M1 => φ ((((x2 <<< (Int32.toInt64 (8 : Int32) &&& 63)) ||| (Int32.toInt64 p3)) <<< (Int32.toInt64 (8 : Int32) &&& 63)) ||| (Int32.toInt64 p4)) M1
set_option maxRecDepth 100000 in
theorem s_X11_w5 {g : GT} {d : Nat} (hd : 2 ≤ d) {p0 : Int32} {p1 : Int32} {p2 : Int32} {p3 : Int32} {p4 : Int32} {M : fM} {φ : Int64 → fM → Prop} (h : w_X11_w5 p0 p1 p2 p3 p4 M φ) : FC g mtX11_w5 d [.int p0, .int p1, .int p2, .int p3, .int p4] M 0 0 (rJ φ) := by
  obtain ⟨d, rfl⟩ : ∃ e, d = e + 1 := ⟨d - 1, by omega⟩
  unfold w_X11_w5 at h
  refine FC.intro (nL := 5) (by decide) rfl (Nat.le_of_ble_eq_true rfl) ?_
  show FW g mtX11_w5 (d + 1) 0 [(0, .int p0), (1, .int p1), (2, .int p2), (3, .int p3), (4, .int p4)] [] M 0 0 (rJ φ)
  refine fw_iload_n (i := 0) 0 rfl (show decode _ _ = .ok (.iload_n 0, 1) by decide +kernel) ?_
  refine fw_iload_n (i := 1) 1 rfl (show decode _ _ = .ok (.iload_n 1, 1) by decide +kernel) ?_
  refine fw_iload_n (i := 2) 2 rfl (show decode _ _ = .ok (.iload_n 2, 1) by decide +kernel) ?_
  refine fw_callS (mt' := mtX11_w3) (mc := 0) (ms := 0) (As := [.int p0, .int p1, .int p2]) (rest := []) 3 (show decode _ _ = .ok (.invokestatic 124, 3) by decide +kernel) cs_X11_124 rfl (Nat.le_of_ble_eq_true rfl) (s_X11_w3 (d := d) (hd_le hd (by decide)) h) (by decide) (by decide) (kJ (bc' := 0) (bs' := 0) (by decide) (by decide) (fun x2 M1 h_1 => ?_))
  refine fw_bipush (v := (8 : Int32)) (show decode _ _ = .ok (.bipush 8, 2) by decide +kernel) (by decide) ?_
  refine fw_lshl (show decode _ _ = .ok (.lshl, 1) by decide +kernel) ?_
  refine fw_iload_n (i := 3) 3 rfl (show decode _ _ = .ok (.iload_n 3, 1) by decide +kernel) ?_
  refine fw_i2l (show decode _ _ = .ok (.i2l, 1) by decide +kernel) ?_
  refine fw_lor (show decode _ _ = .ok (.lor, 1) by decide +kernel) ?_
  refine fw_bipush (v := (8 : Int32)) (show decode _ _ = .ok (.bipush 8, 2) by decide +kernel) (by decide) ?_
  refine fw_lshl (show decode _ _ = .ok (.lshl, 1) by decide +kernel) ?_
  refine fw_iload (i := 4) 4 rfl (show decode _ _ = .ok (.iload 4, 2) by decide +kernel) ?_
  refine fw_i2l (show decode _ _ = .ok (.i2l, 1) by decide +kernel) ?_
  refine fw_lor (show decode _ _ = .ok (.lor, 1) by decide +kernel) ?_
  exact fw_ret (v := some (.long ((((x2 <<< (Int32.toInt64 (8 : Int32) &&& 63)) ||| (Int32.toInt64 p3)) <<< (Int32.toInt64 (8 : Int32) &&& 63)) ||| (Int32.toInt64 p4)))) .lreturn (show decode _ _ = .ok (.lreturn, 1) by decide +kernel) ⟨rfl, rfl⟩ ⟨_, rfl, h_1⟩
def w_X11_w6 (p0 : Int32) (p1 : Int32) (p2 : Int32) (p3 : Int32) (p4 : Int32) (p5 : Int32) (M : fM) (φ : Int64 → fM → Prop) : Prop := w_X11_w5 p0 p1 p2 p3 p4 M fun x2 M1 => φ ((x2 <<< (Int32.toInt64 (8 : Int32) &&& 63)) ||| (Int32.toInt64 p5)) M1
set_option maxRecDepth 100000 in
theorem s_X11_w6 {g : GT} {d : Nat} (hd : 3 ≤ d) {p0 : Int32} {p1 : Int32} {p2 : Int32} {p3 : Int32} {p4 : Int32} {p5 : Int32} {M : fM} {φ : Int64 → fM → Prop} (h : w_X11_w6 p0 p1 p2 p3 p4 p5 M φ) : FC g mtX11_w6 d [.int p0, .int p1, .int p2, .int p3, .int p4, .int p5] M 0 0 (rJ φ) := by
  obtain ⟨d, rfl⟩ : ∃ e, d = e + 1 := ⟨d - 1, by omega⟩
  unfold w_X11_w6 at h
  refine FC.intro (nL := 6) (by decide) rfl (Nat.le_of_ble_eq_true rfl) ?_
  show FW g mtX11_w6 (d + 1) 0 [(0, .int p0), (1, .int p1), (2, .int p2), (3, .int p3), (4, .int p4), (5, .int p5)] [] M 0 0 (rJ φ)
  refine fw_iload_n (i := 0) 0 rfl (show decode _ _ = .ok (.iload_n 0, 1) by decide +kernel) ?_
  refine fw_iload_n (i := 1) 1 rfl (show decode _ _ = .ok (.iload_n 1, 1) by decide +kernel) ?_
  refine fw_iload_n (i := 2) 2 rfl (show decode _ _ = .ok (.iload_n 2, 1) by decide +kernel) ?_
  refine fw_iload_n (i := 3) 3 rfl (show decode _ _ = .ok (.iload_n 3, 1) by decide +kernel) ?_
  refine fw_iload (i := 4) 4 rfl (show decode _ _ = .ok (.iload 4, 2) by decide +kernel) ?_
  refine fw_callS (mt' := mtX11_w5) (mc := 0) (ms := 0) (As := [.int p0, .int p1, .int p2, .int p3, .int p4]) (rest := []) 5 (show decode _ _ = .ok (.invokestatic 128, 3) by decide +kernel) cs_X11_128 rfl (Nat.le_of_ble_eq_true rfl) (s_X11_w5 (d := d) (hd_le hd (by decide)) h) (by decide) (by decide) (kJ (bc' := 0) (bs' := 0) (by decide) (by decide) (fun x2 M1 h_1 => ?_))
  refine fw_bipush (v := (8 : Int32)) (show decode _ _ = .ok (.bipush 8, 2) by decide +kernel) (by decide) ?_
  refine fw_lshl (show decode _ _ = .ok (.lshl, 1) by decide +kernel) ?_
  refine fw_iload (i := 5) 5 rfl (show decode _ _ = .ok (.iload 5, 2) by decide +kernel) ?_
  refine fw_i2l (show decode _ _ = .ok (.i2l, 1) by decide +kernel) ?_
  refine fw_lor (show decode _ _ = .ok (.lor, 1) by decide +kernel) ?_
  exact fw_ret (v := some (.long ((x2 <<< (Int32.toInt64 (8 : Int32) &&& 63)) ||| (Int32.toInt64 p5)))) .lreturn (show decode _ _ = .ok (.lreturn, 1) by decide +kernel) ⟨rfl, rfl⟩ ⟨_, rfl, h_1⟩
def w_X11_w4 (p0 : Int32) (p1 : Int32) (p2 : Int32) (p3 : Int32) (M : fM) (φ : Int64 → fM → Prop) : Prop := w_X11_w3 p0 p1 p2 M fun x2 M1 => φ ((x2 <<< (Int32.toInt64 (8 : Int32) &&& 63)) ||| (Int32.toInt64 p3)) M1
set_option maxRecDepth 100000 in
theorem s_X11_w4 {g : GT} {d : Nat} (hd : 2 ≤ d) {p0 : Int32} {p1 : Int32} {p2 : Int32} {p3 : Int32} {M : fM} {φ : Int64 → fM → Prop} (h : w_X11_w4 p0 p1 p2 p3 M φ) : FC g mtX11_w4 d [.int p0, .int p1, .int p2, .int p3] M 0 0 (rJ φ) := by
  obtain ⟨d, rfl⟩ : ∃ e, d = e + 1 := ⟨d - 1, by omega⟩
  unfold w_X11_w4 at h
  refine FC.intro (nL := 4) (by decide) rfl (Nat.le_of_ble_eq_true rfl) ?_
  show FW g mtX11_w4 (d + 1) 0 [(0, .int p0), (1, .int p1), (2, .int p2), (3, .int p3)] [] M 0 0 (rJ φ)
  refine fw_iload_n (i := 0) 0 rfl (show decode _ _ = .ok (.iload_n 0, 1) by decide +kernel) ?_
  refine fw_iload_n (i := 1) 1 rfl (show decode _ _ = .ok (.iload_n 1, 1) by decide +kernel) ?_
  refine fw_iload_n (i := 2) 2 rfl (show decode _ _ = .ok (.iload_n 2, 1) by decide +kernel) ?_
  refine fw_callS (mt' := mtX11_w3) (mc := 0) (ms := 0) (As := [.int p0, .int p1, .int p2]) (rest := []) 3 (show decode _ _ = .ok (.invokestatic 124, 3) by decide +kernel) cs_X11_124 rfl (Nat.le_of_ble_eq_true rfl) (s_X11_w3 (d := d) (hd_le hd (by decide)) h) (by decide) (by decide) (kJ (bc' := 0) (bs' := 0) (by decide) (by decide) (fun x2 M1 h_1 => ?_))
  refine fw_bipush (v := (8 : Int32)) (show decode _ _ = .ok (.bipush 8, 2) by decide +kernel) (by decide) ?_
  refine fw_lshl (show decode _ _ = .ok (.lshl, 1) by decide +kernel) ?_
  refine fw_iload_n (i := 3) 3 rfl (show decode _ _ = .ok (.iload_n 3, 1) by decide +kernel) ?_
  refine fw_i2l (show decode _ _ = .ok (.i2l, 1) by decide +kernel) ?_
  refine fw_lor (show decode _ _ = .ok (.lor, 1) by decide +kernel) ?_
  exact fw_ret (v := some (.long ((x2 <<< (Int32.toInt64 (8 : Int32) &&& 63)) ||| (Int32.toInt64 p3)))) .lreturn (show decode _ _ = .ok (.lreturn, 1) by decide +kernel) ⟨rfl, rfl⟩ ⟨_, rfl, h_1⟩
def w_X11_nameOf (p0 : Nat) (M : fM) (φ : Int32 → fM → Prop) : Prop := isO M p0 11 ∧ iF ((mI M p0 9) = (2 : Int32)) (w_X11_w3 (119 : Int32) (104 : Int32) (111 : Int32) M fun x5 M4 => iF ((lg_cmp (mJ M p0 11) x5) = 0) (φ (0 : Int32) M4) (isO M4 p0 11 ∧ w_X11_w5 (104 : Int32) (111 : Int32) (117 : Int32) (115 : Int32) (101 : Int32) M4 fun x10 M9 => iF ((lg_cmp (mJ M4 p0 11) x10) = 0) (φ (1 : Int32) M9) (isO M9 p0 11 ∧ w_X11_w5 (115 : Int32) (116 : Int32) (101 : Int32) (112 : Int32) (115 : Int32) M9 fun x15 M14 => iF ((lg_cmp (mJ M9 p0 11) x15) = 0) (φ (2 : Int32) M14) (isO M14 p0 11 ∧ w_X11_w5 (100 : Int32) (114 : Int32) (117 : Int32) (110 : Int32) (107 : Int32) M14 fun x20 M19 => iF ((lg_cmp (mJ M14 p0 11) x20) = 0) (φ (3 : Int32) M19) (isO M19 p0 11 ∧ w_X11_w6 (108 : Int32) (111 : Int32) (97 : Int32) (100 : Int32) (101 : Int32) (100 : Int32) M19 fun x25 M24 => iF ((lg_cmp (mJ M19 p0 11) x25) = 0) (φ (4 : Int32) M24) (isO M24 p0 11 ∧ w_X11_w6 (110 : Int32) (105 : Int32) (103 : Int32) (104 : Int32) (116 : Int32) (115 : Int32) M24 fun x30 M29 => iF ((lg_cmp (mJ M24 p0 11) x30) = 0) (φ (5 : Int32) M29) (isO M29 p0 11 ∧ w_X11_w3 (110 : Int32) (116 : Int32) (104 : Int32) M29 fun x35 M34 => iF ((lg_cmp (mJ M29 p0 11) x35) = 0) (φ (6 : Int32) M34) (isO M34 p0 11 ∧ w_X11_w6 (104 : Int32) (101 : Int32) (105 : Int32) (103 : Int32) (104 : Int32) (116 : Int32) M34 fun x40 M39 => iF ((lg_cmp (mJ M34 p0 11) x40) = 0) (φ (7 : Int32) M39) (isO M39 p0 11 ∧ w_X11_w4 (108 : Int32) (97 : Int32) (115 : Int32) (116 : Int32) M39 fun x45 M44 => iF ((lg_cmp (mJ M39 p0 11) x45) = 0) (φ (8 : Int32) M44) (isO M44 p0 11 ∧ w_X11_w4 (114 : Int32) (97 : Int32) (105 : Int32) (108 : Int32) M44 fun x50 M49 => iF ((lg_cmp (mJ M44 p0 11) x50) = 0) (φ (9 : Int32) M49) (φ (-1 : Int32) M49))))))))))) (φ (-1 : Int32) M)
set_option maxRecDepth 100000 in
theorem s_X11_nameOf {g : GT} {d : Nat} (hd : 4 ≤ d) {p0 : Nat} {M : fM} {φ : Int32 → fM → Prop} (h : w_X11_nameOf p0 M φ) : FC g mtX11_nameOf d [.ref p0] M 0 0 (rI φ) := by
  obtain ⟨d, rfl⟩ : ∃ e, d = e + 1 := ⟨d - 1, by omega⟩
  unfold w_X11_nameOf at h
  refine FC.intro (nL := 1) (by decide) rfl (Nat.le_of_ble_eq_true rfl) ?_
  show FW g mtX11_nameOf (d + 1) 0 [(0, .ref p0)] [] M 0 0 (rI φ)
  refine fw_aload_n (i := 0) 0 rfl (show decode _ _ = .ok (.aload_n 0, 1) by decide +kernel) ?_
  obtain ⟨⟨hr2, n1, hs3⟩, h_1⟩ := h
  refine fw_getI (kd := 11) (k := 9) (show decode _ _ = .ok (.getfield 107, 3) by decide +kernel) gf_X11_107 hr2 hs3 (Or.inl rfl) ?_
  refine fw_iconst (v := (2 : Int32)) (show decode _ _ = .ok (.iconst 2, 1) by decide +kernel) (by decide) ?_
  refine fw_icmp_eq 10 (show decode _ _ = .ok (.if_icmp .eq 5, 3) by decide +kernel) (by decide) (fun hc61 => ?_) (fun hc61 => ?_)
  · have h_2 := ipos hc61 h_1
    refine fw_aload_n (i := 0) 0 rfl (show decode _ _ = .ok (.aload_n 0, 1) by decide +kernel) ?_
    refine fw_getJ (kd := 11) (k := 11) (show decode _ _ = .ok (.getfield 120, 3) by decide +kernel) gf_X11_120 hr2 hs3 rfl ?_
    refine fw_bipush (v := (119 : Int32)) (show decode _ _ = .ok (.bipush 119, 2) by decide +kernel) (by decide) ?_
    refine fw_bipush (v := (104 : Int32)) (show decode _ _ = .ok (.bipush 104, 2) by decide +kernel) (by decide) ?_
    refine fw_bipush (v := (111 : Int32)) (show decode _ _ = .ok (.bipush 111, 2) by decide +kernel) (by decide) ?_
    refine fw_callS (mt' := mtX11_w3) (mc := 0) (ms := 0) (As := [.int (119 : Int32), .int (104 : Int32), .int (111 : Int32)]) (rest := [.long (mJ M p0 11)]) 3 (show decode _ _ = .ok (.invokestatic 124, 3) by decide +kernel) cs_X11_124 rfl (Nat.le_of_ble_eq_true rfl) (s_X11_w3 (d := d) (hd_le hd (by decide)) h_2) (by decide) (by decide) (kJ (bc' := 0) (bs' := 0) (by decide) (by decide) (fun x5 M4 h_3 => ?_))
    refine fw_lcmp (show decode _ _ = .ok (.lcmp, 1) by decide +kernel) ?_
    refine fw_if_ne 29 (show decode _ _ = .ok (.ifCond .ne 5, 3) by decide +kernel) (by decide) (fun hc60 => ?_) (fun hc60 => ?_)
    · have h_4 := ineg hc60 h_3
      refine fw_aload_n (i := 0) 0 rfl (show decode _ _ = .ok (.aload_n 0, 1) by decide +kernel) ?_
      obtain ⟨⟨hr7, n6, hs8⟩, h_5⟩ := h_4
      refine fw_getJ (kd := 11) (k := 11) (show decode _ _ = .ok (.getfield 120, 3) by decide +kernel) gf_X11_120 hr7 hs8 rfl ?_
      refine fw_bipush (v := (104 : Int32)) (show decode _ _ = .ok (.bipush 104, 2) by decide +kernel) (by decide) ?_
      refine fw_bipush (v := (111 : Int32)) (show decode _ _ = .ok (.bipush 111, 2) by decide +kernel) (by decide) ?_
      refine fw_bipush (v := (117 : Int32)) (show decode _ _ = .ok (.bipush 117, 2) by decide +kernel) (by decide) ?_
      refine fw_bipush (v := (115 : Int32)) (show decode _ _ = .ok (.bipush 115, 2) by decide +kernel) (by decide) ?_
      refine fw_bipush (v := (101 : Int32)) (show decode _ _ = .ok (.bipush 101, 2) by decide +kernel) (by decide) ?_
      refine fw_callS (mt' := mtX11_w5) (mc := 0) (ms := 0) (As := [.int (104 : Int32), .int (111 : Int32), .int (117 : Int32), .int (115 : Int32), .int (101 : Int32)]) (rest := [.long (mJ M4 p0 11)]) 5 (show decode _ _ = .ok (.invokestatic 128, 3) by decide +kernel) cs_X11_128 rfl (Nat.le_of_ble_eq_true rfl) (s_X11_w5 (d := d) (hd_le hd (by decide)) h_5) (by decide) (by decide) (kJ (bc' := 0) (bs' := 0) (by decide) (by decide) (fun x10 M9 h_6 => ?_))
      refine fw_lcmp (show decode _ _ = .ok (.lcmp, 1) by decide +kernel) ?_
      refine fw_if_ne 52 (show decode _ _ = .ok (.ifCond .ne 5, 3) by decide +kernel) (by decide) (fun hc59 => ?_) (fun hc59 => ?_)
      · have h_7 := ineg hc59 h_6
        refine fw_aload_n (i := 0) 0 rfl (show decode _ _ = .ok (.aload_n 0, 1) by decide +kernel) ?_
        obtain ⟨⟨hr12, n11, hs13⟩, h_8⟩ := h_7
        refine fw_getJ (kd := 11) (k := 11) (show decode _ _ = .ok (.getfield 120, 3) by decide +kernel) gf_X11_120 hr12 hs13 rfl ?_
        refine fw_bipush (v := (115 : Int32)) (show decode _ _ = .ok (.bipush 115, 2) by decide +kernel) (by decide) ?_
        refine fw_bipush (v := (116 : Int32)) (show decode _ _ = .ok (.bipush 116, 2) by decide +kernel) (by decide) ?_
        refine fw_bipush (v := (101 : Int32)) (show decode _ _ = .ok (.bipush 101, 2) by decide +kernel) (by decide) ?_
        refine fw_bipush (v := (112 : Int32)) (show decode _ _ = .ok (.bipush 112, 2) by decide +kernel) (by decide) ?_
        refine fw_bipush (v := (115 : Int32)) (show decode _ _ = .ok (.bipush 115, 2) by decide +kernel) (by decide) ?_
        refine fw_callS (mt' := mtX11_w5) (mc := 0) (ms := 0) (As := [.int (115 : Int32), .int (116 : Int32), .int (101 : Int32), .int (112 : Int32), .int (115 : Int32)]) (rest := [.long (mJ M9 p0 11)]) 5 (show decode _ _ = .ok (.invokestatic 128, 3) by decide +kernel) cs_X11_128 rfl (Nat.le_of_ble_eq_true rfl) (s_X11_w5 (d := d) (hd_le hd (by decide)) h_8) (by decide) (by decide) (kJ (bc' := 0) (bs' := 0) (by decide) (by decide) (fun x15 M14 h_9 => ?_))
        refine fw_lcmp (show decode _ _ = .ok (.lcmp, 1) by decide +kernel) ?_
        refine fw_if_ne 75 (show decode _ _ = .ok (.ifCond .ne 5, 3) by decide +kernel) (by decide) (fun hc58 => ?_) (fun hc58 => ?_)
        · have h_10 := ineg hc58 h_9
          refine fw_aload_n (i := 0) 0 rfl (show decode _ _ = .ok (.aload_n 0, 1) by decide +kernel) ?_
          obtain ⟨⟨hr17, n16, hs18⟩, h_11⟩ := h_10
          refine fw_getJ (kd := 11) (k := 11) (show decode _ _ = .ok (.getfield 120, 3) by decide +kernel) gf_X11_120 hr17 hs18 rfl ?_
          refine fw_bipush (v := (100 : Int32)) (show decode _ _ = .ok (.bipush 100, 2) by decide +kernel) (by decide) ?_
          refine fw_bipush (v := (114 : Int32)) (show decode _ _ = .ok (.bipush 114, 2) by decide +kernel) (by decide) ?_
          refine fw_bipush (v := (117 : Int32)) (show decode _ _ = .ok (.bipush 117, 2) by decide +kernel) (by decide) ?_
          refine fw_bipush (v := (110 : Int32)) (show decode _ _ = .ok (.bipush 110, 2) by decide +kernel) (by decide) ?_
          refine fw_bipush (v := (107 : Int32)) (show decode _ _ = .ok (.bipush 107, 2) by decide +kernel) (by decide) ?_
          refine fw_callS (mt' := mtX11_w5) (mc := 0) (ms := 0) (As := [.int (100 : Int32), .int (114 : Int32), .int (117 : Int32), .int (110 : Int32), .int (107 : Int32)]) (rest := [.long (mJ M14 p0 11)]) 5 (show decode _ _ = .ok (.invokestatic 128, 3) by decide +kernel) cs_X11_128 rfl (Nat.le_of_ble_eq_true rfl) (s_X11_w5 (d := d) (hd_le hd (by decide)) h_11) (by decide) (by decide) (kJ (bc' := 0) (bs' := 0) (by decide) (by decide) (fun x20 M19 h_12 => ?_))
          refine fw_lcmp (show decode _ _ = .ok (.lcmp, 1) by decide +kernel) ?_
          refine fw_if_ne 98 (show decode _ _ = .ok (.ifCond .ne 5, 3) by decide +kernel) (by decide) (fun hc57 => ?_) (fun hc57 => ?_)
          · have h_13 := ineg hc57 h_12
            refine fw_aload_n (i := 0) 0 rfl (show decode _ _ = .ok (.aload_n 0, 1) by decide +kernel) ?_
            obtain ⟨⟨hr22, n21, hs23⟩, h_14⟩ := h_13
            refine fw_getJ (kd := 11) (k := 11) (show decode _ _ = .ok (.getfield 120, 3) by decide +kernel) gf_X11_120 hr22 hs23 rfl ?_
            refine fw_bipush (v := (108 : Int32)) (show decode _ _ = .ok (.bipush 108, 2) by decide +kernel) (by decide) ?_
            refine fw_bipush (v := (111 : Int32)) (show decode _ _ = .ok (.bipush 111, 2) by decide +kernel) (by decide) ?_
            refine fw_bipush (v := (97 : Int32)) (show decode _ _ = .ok (.bipush 97, 2) by decide +kernel) (by decide) ?_
            refine fw_bipush (v := (100 : Int32)) (show decode _ _ = .ok (.bipush 100, 2) by decide +kernel) (by decide) ?_
            refine fw_bipush (v := (101 : Int32)) (show decode _ _ = .ok (.bipush 101, 2) by decide +kernel) (by decide) ?_
            refine fw_bipush (v := (100 : Int32)) (show decode _ _ = .ok (.bipush 100, 2) by decide +kernel) (by decide) ?_
            refine fw_callS (mt' := mtX11_w6) (mc := 0) (ms := 0) (As := [.int (108 : Int32), .int (111 : Int32), .int (97 : Int32), .int (100 : Int32), .int (101 : Int32), .int (100 : Int32)]) (rest := [.long (mJ M19 p0 11)]) 6 (show decode _ _ = .ok (.invokestatic 141, 3) by decide +kernel) cs_X11_141 rfl (Nat.le_of_ble_eq_true rfl) (s_X11_w6 (d := d) (hd_le hd (by decide)) h_14) (by decide) (by decide) (kJ (bc' := 0) (bs' := 0) (by decide) (by decide) (fun x25 M24 h_15 => ?_))
            refine fw_lcmp (show decode _ _ = .ok (.lcmp, 1) by decide +kernel) ?_
            refine fw_if_ne 123 (show decode _ _ = .ok (.ifCond .ne 5, 3) by decide +kernel) (by decide) (fun hc56 => ?_) (fun hc56 => ?_)
            · have h_16 := ineg hc56 h_15
              refine fw_aload_n (i := 0) 0 rfl (show decode _ _ = .ok (.aload_n 0, 1) by decide +kernel) ?_
              obtain ⟨⟨hr27, n26, hs28⟩, h_17⟩ := h_16
              refine fw_getJ (kd := 11) (k := 11) (show decode _ _ = .ok (.getfield 120, 3) by decide +kernel) gf_X11_120 hr27 hs28 rfl ?_
              refine fw_bipush (v := (110 : Int32)) (show decode _ _ = .ok (.bipush 110, 2) by decide +kernel) (by decide) ?_
              refine fw_bipush (v := (105 : Int32)) (show decode _ _ = .ok (.bipush 105, 2) by decide +kernel) (by decide) ?_
              refine fw_bipush (v := (103 : Int32)) (show decode _ _ = .ok (.bipush 103, 2) by decide +kernel) (by decide) ?_
              refine fw_bipush (v := (104 : Int32)) (show decode _ _ = .ok (.bipush 104, 2) by decide +kernel) (by decide) ?_
              refine fw_bipush (v := (116 : Int32)) (show decode _ _ = .ok (.bipush 116, 2) by decide +kernel) (by decide) ?_
              refine fw_bipush (v := (115 : Int32)) (show decode _ _ = .ok (.bipush 115, 2) by decide +kernel) (by decide) ?_
              refine fw_callS (mt' := mtX11_w6) (mc := 0) (ms := 0) (As := [.int (110 : Int32), .int (105 : Int32), .int (103 : Int32), .int (104 : Int32), .int (116 : Int32), .int (115 : Int32)]) (rest := [.long (mJ M24 p0 11)]) 6 (show decode _ _ = .ok (.invokestatic 141, 3) by decide +kernel) cs_X11_141 rfl (Nat.le_of_ble_eq_true rfl) (s_X11_w6 (d := d) (hd_le hd (by decide)) h_17) (by decide) (by decide) (kJ (bc' := 0) (bs' := 0) (by decide) (by decide) (fun x30 M29 h_18 => ?_))
              refine fw_lcmp (show decode _ _ = .ok (.lcmp, 1) by decide +kernel) ?_
              refine fw_if_ne 148 (show decode _ _ = .ok (.ifCond .ne 5, 3) by decide +kernel) (by decide) (fun hc55 => ?_) (fun hc55 => ?_)
              · have h_19 := ineg hc55 h_18
                refine fw_aload_n (i := 0) 0 rfl (show decode _ _ = .ok (.aload_n 0, 1) by decide +kernel) ?_
                obtain ⟨⟨hr32, n31, hs33⟩, h_20⟩ := h_19
                refine fw_getJ (kd := 11) (k := 11) (show decode _ _ = .ok (.getfield 120, 3) by decide +kernel) gf_X11_120 hr32 hs33 rfl ?_
                refine fw_bipush (v := (110 : Int32)) (show decode _ _ = .ok (.bipush 110, 2) by decide +kernel) (by decide) ?_
                refine fw_bipush (v := (116 : Int32)) (show decode _ _ = .ok (.bipush 116, 2) by decide +kernel) (by decide) ?_
                refine fw_bipush (v := (104 : Int32)) (show decode _ _ = .ok (.bipush 104, 2) by decide +kernel) (by decide) ?_
                refine fw_callS (mt' := mtX11_w3) (mc := 0) (ms := 0) (As := [.int (110 : Int32), .int (116 : Int32), .int (104 : Int32)]) (rest := [.long (mJ M29 p0 11)]) 3 (show decode _ _ = .ok (.invokestatic 124, 3) by decide +kernel) cs_X11_124 rfl (Nat.le_of_ble_eq_true rfl) (s_X11_w3 (d := d) (hd_le hd (by decide)) h_20) (by decide) (by decide) (kJ (bc' := 0) (bs' := 0) (by decide) (by decide) (fun x35 M34 h_21 => ?_))
                refine fw_lcmp (show decode _ _ = .ok (.lcmp, 1) by decide +kernel) ?_
                refine fw_if_ne 168 (show decode _ _ = .ok (.ifCond .ne 6, 3) by decide +kernel) (by decide) (fun hc54 => ?_) (fun hc54 => ?_)
                · have h_22 := ineg hc54 h_21
                  refine fw_aload_n (i := 0) 0 rfl (show decode _ _ = .ok (.aload_n 0, 1) by decide +kernel) ?_
                  obtain ⟨⟨hr37, n36, hs38⟩, h_23⟩ := h_22
                  refine fw_getJ (kd := 11) (k := 11) (show decode _ _ = .ok (.getfield 120, 3) by decide +kernel) gf_X11_120 hr37 hs38 rfl ?_
                  refine fw_bipush (v := (104 : Int32)) (show decode _ _ = .ok (.bipush 104, 2) by decide +kernel) (by decide) ?_
                  refine fw_bipush (v := (101 : Int32)) (show decode _ _ = .ok (.bipush 101, 2) by decide +kernel) (by decide) ?_
                  refine fw_bipush (v := (105 : Int32)) (show decode _ _ = .ok (.bipush 105, 2) by decide +kernel) (by decide) ?_
                  refine fw_bipush (v := (103 : Int32)) (show decode _ _ = .ok (.bipush 103, 2) by decide +kernel) (by decide) ?_
                  refine fw_bipush (v := (104 : Int32)) (show decode _ _ = .ok (.bipush 104, 2) by decide +kernel) (by decide) ?_
                  refine fw_bipush (v := (116 : Int32)) (show decode _ _ = .ok (.bipush 116, 2) by decide +kernel) (by decide) ?_
                  refine fw_callS (mt' := mtX11_w6) (mc := 0) (ms := 0) (As := [.int (104 : Int32), .int (101 : Int32), .int (105 : Int32), .int (103 : Int32), .int (104 : Int32), .int (116 : Int32)]) (rest := [.long (mJ M34 p0 11)]) 6 (show decode _ _ = .ok (.invokestatic 141, 3) by decide +kernel) cs_X11_141 rfl (Nat.le_of_ble_eq_true rfl) (s_X11_w6 (d := d) (hd_le hd (by decide)) h_23) (by decide) (by decide) (kJ (bc' := 0) (bs' := 0) (by decide) (by decide) (fun x40 M39 h_24 => ?_))
                  refine fw_lcmp (show decode _ _ = .ok (.lcmp, 1) by decide +kernel) ?_
                  refine fw_if_ne 194 (show decode _ _ = .ok (.ifCond .ne 6, 3) by decide +kernel) (by decide) (fun hc53 => ?_) (fun hc53 => ?_)
                  · have h_25 := ineg hc53 h_24
                    refine fw_aload_n (i := 0) 0 rfl (show decode _ _ = .ok (.aload_n 0, 1) by decide +kernel) ?_
                    obtain ⟨⟨hr42, n41, hs43⟩, h_26⟩ := h_25
                    refine fw_getJ (kd := 11) (k := 11) (show decode _ _ = .ok (.getfield 120, 3) by decide +kernel) gf_X11_120 hr42 hs43 rfl ?_
                    refine fw_bipush (v := (108 : Int32)) (show decode _ _ = .ok (.bipush 108, 2) by decide +kernel) (by decide) ?_
                    refine fw_bipush (v := (97 : Int32)) (show decode _ _ = .ok (.bipush 97, 2) by decide +kernel) (by decide) ?_
                    refine fw_bipush (v := (115 : Int32)) (show decode _ _ = .ok (.bipush 115, 2) by decide +kernel) (by decide) ?_
                    refine fw_bipush (v := (116 : Int32)) (show decode _ _ = .ok (.bipush 116, 2) by decide +kernel) (by decide) ?_
                    refine fw_callS (mt' := mtX11_w4) (mc := 0) (ms := 0) (As := [.int (108 : Int32), .int (97 : Int32), .int (115 : Int32), .int (116 : Int32)]) (rest := [.long (mJ M39 p0 11)]) 4 (show decode _ _ = .ok (.invokestatic 145, 3) by decide +kernel) cs_X11_145 rfl (Nat.le_of_ble_eq_true rfl) (s_X11_w4 (d := d) (hd_le hd (by decide)) h_26) (by decide) (by decide) (kJ (bc' := 0) (bs' := 0) (by decide) (by decide) (fun x45 M44 h_27 => ?_))
                    refine fw_lcmp (show decode _ _ = .ok (.lcmp, 1) by decide +kernel) ?_
                    refine fw_if_ne 218 (show decode _ _ = .ok (.ifCond .ne 8, 3) by decide +kernel) (by decide) (fun hc52 => ?_) (fun hc52 => ?_)
                    · have h_28 := ineg hc52 h_27
                      refine fw_aload_n (i := 0) 0 rfl (show decode _ _ = .ok (.aload_n 0, 1) by decide +kernel) ?_
                      obtain ⟨⟨hr47, n46, hs48⟩, h_29⟩ := h_28
                      refine fw_getJ (kd := 11) (k := 11) (show decode _ _ = .ok (.getfield 120, 3) by decide +kernel) gf_X11_120 hr47 hs48 rfl ?_
                      refine fw_bipush (v := (114 : Int32)) (show decode _ _ = .ok (.bipush 114, 2) by decide +kernel) (by decide) ?_
                      refine fw_bipush (v := (97 : Int32)) (show decode _ _ = .ok (.bipush 97, 2) by decide +kernel) (by decide) ?_
                      refine fw_bipush (v := (105 : Int32)) (show decode _ _ = .ok (.bipush 105, 2) by decide +kernel) (by decide) ?_
                      refine fw_bipush (v := (108 : Int32)) (show decode _ _ = .ok (.bipush 108, 2) by decide +kernel) (by decide) ?_
                      refine fw_callS (mt' := mtX11_w4) (mc := 0) (ms := 0) (As := [.int (114 : Int32), .int (97 : Int32), .int (105 : Int32), .int (108 : Int32)]) (rest := [.long (mJ M44 p0 11)]) 4 (show decode _ _ = .ok (.invokestatic 145, 3) by decide +kernel) cs_X11_145 rfl (Nat.le_of_ble_eq_true rfl) (s_X11_w4 (d := d) (hd_le hd (by decide)) h_29) (by decide) (by decide) (kJ (bc' := 0) (bs' := 0) (by decide) (by decide) (fun x50 M49 h_30 => ?_))
                      refine fw_lcmp (show decode _ _ = .ok (.lcmp, 1) by decide +kernel) ?_
                      refine fw_if_ne 242 (show decode _ _ = .ok (.ifCond .ne 8, 3) by decide +kernel) (by decide) (fun hc51 => ?_) (fun hc51 => ?_)
                      · have h_31 := ineg hc51 h_30
                        refine fw_iconst (v := (-1 : Int32)) (show decode _ _ = .ok (.iconst (-1), 1) by decide +kernel) (by decide) ?_
                        exact fw_ret (v := some (.int (-1 : Int32))) .ireturn (show decode _ _ = .ok (.ireturn, 1) by decide +kernel) ⟨rfl, Or.inl rfl⟩ ⟨_, rfl, h_31⟩
                      · have h_32 := ipos hc51 h_30
                        refine fw_bipush (v := (9 : Int32)) (show decode _ _ = .ok (.bipush 9, 2) by decide +kernel) (by decide) ?_
                        refine fw_goto 243 (show decode _ _ = .ok (.goto 4, 3) by decide +kernel) (by decide) ?_
                        exact fw_ret (v := some (.int (9 : Int32))) .ireturn (show decode _ _ = .ok (.ireturn, 1) by decide +kernel) ⟨rfl, Or.inl rfl⟩ ⟨_, rfl, h_32⟩
                    · have h_33 := ipos hc52 h_27
                      refine fw_bipush (v := (8 : Int32)) (show decode _ _ = .ok (.bipush 8, 2) by decide +kernel) (by decide) ?_
                      refine fw_goto 243 (show decode _ _ = .ok (.goto 28, 3) by decide +kernel) (by decide) ?_
                      exact fw_ret (v := some (.int (8 : Int32))) .ireturn (show decode _ _ = .ok (.ireturn, 1) by decide +kernel) ⟨rfl, Or.inl rfl⟩ ⟨_, rfl, h_33⟩
                  · have h_34 := ipos hc53 h_24
                    refine fw_bipush (v := (7 : Int32)) (show decode _ _ = .ok (.bipush 7, 2) by decide +kernel) (by decide) ?_
                    exact fw_ret (v := some (.int (7 : Int32))) .ireturn (show decode _ _ = .ok (.ireturn, 1) by decide +kernel) ⟨rfl, Or.inl rfl⟩ ⟨_, rfl, h_34⟩
                · have h_35 := ipos hc54 h_21
                  refine fw_bipush (v := (6 : Int32)) (show decode _ _ = .ok (.bipush 6, 2) by decide +kernel) (by decide) ?_
                  exact fw_ret (v := some (.int (6 : Int32))) .ireturn (show decode _ _ = .ok (.ireturn, 1) by decide +kernel) ⟨rfl, Or.inl rfl⟩ ⟨_, rfl, h_35⟩
              · have h_36 := ipos hc55 h_18
                refine fw_iconst (v := (5 : Int32)) (show decode _ _ = .ok (.iconst 5, 1) by decide +kernel) (by decide) ?_
                exact fw_ret (v := some (.int (5 : Int32))) .ireturn (show decode _ _ = .ok (.ireturn, 1) by decide +kernel) ⟨rfl, Or.inl rfl⟩ ⟨_, rfl, h_36⟩
            · have h_37 := ipos hc56 h_15
              refine fw_iconst (v := (4 : Int32)) (show decode _ _ = .ok (.iconst 4, 1) by decide +kernel) (by decide) ?_
              exact fw_ret (v := some (.int (4 : Int32))) .ireturn (show decode _ _ = .ok (.ireturn, 1) by decide +kernel) ⟨rfl, Or.inl rfl⟩ ⟨_, rfl, h_37⟩
          · have h_38 := ipos hc57 h_12
            refine fw_iconst (v := (3 : Int32)) (show decode _ _ = .ok (.iconst 3, 1) by decide +kernel) (by decide) ?_
            exact fw_ret (v := some (.int (3 : Int32))) .ireturn (show decode _ _ = .ok (.ireturn, 1) by decide +kernel) ⟨rfl, Or.inl rfl⟩ ⟨_, rfl, h_38⟩
        · have h_39 := ipos hc58 h_9
          refine fw_iconst (v := (2 : Int32)) (show decode _ _ = .ok (.iconst 2, 1) by decide +kernel) (by decide) ?_
          exact fw_ret (v := some (.int (2 : Int32))) .ireturn (show decode _ _ = .ok (.ireturn, 1) by decide +kernel) ⟨rfl, Or.inl rfl⟩ ⟨_, rfl, h_39⟩
      · have h_40 := ipos hc59 h_6
        refine fw_iconst (v := (1 : Int32)) (show decode _ _ = .ok (.iconst 1, 1) by decide +kernel) (by decide) ?_
        exact fw_ret (v := some (.int (1 : Int32))) .ireturn (show decode _ _ = .ok (.ireturn, 1) by decide +kernel) ⟨rfl, Or.inl rfl⟩ ⟨_, rfl, h_40⟩
    · have h_41 := ipos hc60 h_3
      refine fw_iconst (v := (0 : Int32)) (show decode _ _ = .ok (.iconst 0, 1) by decide +kernel) (by decide) ?_
      exact fw_ret (v := some (.int (0 : Int32))) .ireturn (show decode _ _ = .ok (.ireturn, 1) by decide +kernel) ⟨rfl, Or.inl rfl⟩ ⟨_, rfl, h_41⟩
  · have h_42 := ineg hc61 h_1
    refine fw_iconst (v := (-1 : Int32)) (show decode _ _ = .ok (.iconst (-1), 1) by decide +kernel) (by decide) ?_
    exact fw_ret (v := some (.int (-1 : Int32))) .ireturn (show decode _ _ = .ok (.ireturn, 1) by decide +kernel) ⟨rfl, Or.inl rfl⟩ ⟨_, rfl, h_42⟩
def w_X11_isOf (p0 : Nat) (p1 : Int32) (M : fM) (φ : Int32 → fM → Prop) : Prop := iF (p1 < (6 : Int32)) (φ (1 : Int32) M) (isO M p0 11 ∧ iF ((2 : Int32) < (mI M p0 20)) (φ (0 : Int32) M) (φ (1 : Int32) M))
set_option maxRecDepth 100000 in
theorem s_X11_isOf {g : GT} {d : Nat} (hd : 1 ≤ d) {p0 : Nat} {p1 : Int32} {M : fM} {φ : Int32 → fM → Prop} (h : w_X11_isOf p0 p1 M φ) : FC g mtX11_isOf d [.ref p0, .int p1] M 0 0 (rI φ) := by
  obtain ⟨d, rfl⟩ : ∃ e, d = e + 1 := ⟨d - 1, by omega⟩
  unfold w_X11_isOf at h
  refine FC.intro (nL := 2) (by decide) rfl (Nat.le_of_ble_eq_true rfl) ?_
  show FW g mtX11_isOf (d + 1) 0 [(0, .ref p0), (1, .int p1)] [] M 0 0 (rI φ)
  refine fw_iload_n (i := 1) 1 rfl (show decode _ _ = .ok (.iload_n 1, 1) by decide +kernel) ?_
  refine fw_bipush (v := (6 : Int32)) (show decode _ _ = .ok (.bipush 6, 2) by decide +kernel) (by decide) ?_
  refine fw_icmp_lt 14 (show decode _ _ = .ok (.if_icmp .lt 11, 3) by decide +kernel) (by decide) (fun hc5 => ?_) (fun hc5 => ?_)
  · have h_1 := ipos hc5 h
    refine fw_iconst (v := (1 : Int32)) (show decode _ _ = .ok (.iconst 1, 1) by decide +kernel) (by decide) ?_
    refine fw_goto 19 (show decode _ _ = .ok (.goto 4, 3) by decide +kernel) (by decide) ?_
    exact fw_ret (v := some (.int (1 : Int32))) .ireturn (show decode _ _ = .ok (.ireturn, 1) by decide +kernel) ⟨rfl, Or.inr (Or.inl ⟨rfl, rfl⟩)⟩ ⟨_, rfl, h_1⟩
  · have h_2 := ineg hc5 h
    refine fw_aload_n (i := 0) 0 rfl (show decode _ _ = .ok (.aload_n 0, 1) by decide +kernel) ?_
    obtain ⟨⟨hr2, n1, hs3⟩, h_3⟩ := h_2
    refine fw_getI (kd := 11) (k := 20) (show decode _ _ = .ok (.getfield 149, 3) by decide +kernel) gf_X11_149 hr2 hs3 (Or.inl rfl) ?_
    refine fw_iconst (v := (2 : Int32)) (show decode _ _ = .ok (.iconst 2, 1) by decide +kernel) (by decide) ?_
    refine fw_icmp_gt 18 (show decode _ _ = .ok (.if_icmp .gt 7, 3) by decide +kernel) (by decide) (fun hc4 => ?_) (fun hc4 => ?_)
    · have h_4 := ipos hc4 h_3
      refine fw_iconst (v := (0 : Int32)) (show decode _ _ = .ok (.iconst 0, 1) by decide +kernel) (by decide) ?_
      exact fw_ret (v := some (.int (0 : Int32))) .ireturn (show decode _ _ = .ok (.ireturn, 1) by decide +kernel) ⟨rfl, Or.inr (Or.inl ⟨rfl, rfl⟩)⟩ ⟨_, rfl, h_4⟩
    · have h_5 := ineg hc4 h_3
      refine fw_iconst (v := (1 : Int32)) (show decode _ _ = .ok (.iconst 1, 1) by decide +kernel) (by decide) ?_
      refine fw_goto 19 (show decode _ _ = .ok (.goto 4, 3) by decide +kernel) (by decide) ?_
      exact fw_ret (v := some (.int (1 : Int32))) .ireturn (show decode _ _ = .ok (.ireturn, 1) by decide +kernel) ⟨rfl, Or.inr (Or.inl ⟨rfl, rfl⟩)⟩ ⟨_, rfl, h_5⟩
def w_X11_emit (p0 : Nat) (p1 : Int32) (p2 : Int32) (M : fM) (φ : fM → Prop) : Prop := isO M p0 11 ∧ dR (mP M p0 2) fun y4 => 6 ≤ y4 ∧ inA M y4 12 (((mI M p0 12) + (97 : Int32)) + ((2 : Int32) * (mI M p0 14))) ∧ st (wI M y4 (ix (((mI M p0 12) + (97 : Int32)) + ((2 : Int32) * (mI M p0 14)))) p1) fun M10 => dR (mP M10 p0 2) fun y12 => 6 ≤ y12 ∧ inA M10 y12 12 ((((mI M10 p0 12) + (97 : Int32)) + ((2 : Int32) * (mI M10 p0 14))) + (1 : Int32)) ∧ st (wI M10 y12 (ix ((((mI M10 p0 12) + (97 : Int32)) + ((2 : Int32) * (mI M10 p0 14))) + (1 : Int32))) p2) fun M18 => nm ((mI M18 p0 14) + (1 : Int32)) fun x20 => st (wI M18 p0 14 x20) fun M22 => φ M22
set_option maxRecDepth 100000 in
theorem s_X11_emit {g : GT} {d : Nat} (hd : 1 ≤ d) {p0 : Nat} {p1 : Int32} {p2 : Int32} {M : fM} {φ : fM → Prop} (h : w_X11_emit p0 p1 p2 M φ) : FC g mtX11_emit d [.ref p0, .int p1, .int p2] M 0 0 (rV φ) := by
  obtain ⟨d, rfl⟩ : ∃ e, d = e + 1 := ⟨d - 1, by omega⟩
  unfold w_X11_emit at h
  refine FC.intro (nL := 3) (by decide) rfl (Nat.le_of_ble_eq_true rfl) ?_
  show FW g mtX11_emit (d + 1) 0 [(0, .ref p0), (1, .int p1), (2, .int p2)] [] M 0 0 (rV φ)
  refine fw_aload_n (i := 0) 0 rfl (show decode _ _ = .ok (.aload_n 0, 1) by decide +kernel) ?_
  obtain ⟨⟨hr2, n1, hs3⟩, h_1⟩ := h
  refine fw_getP (kd := 11) (k := 2) (show decode _ _ = .ok (.getfield 16, 3) by decide +kernel) gf_X11_16 hr2 hs3 rfl ?_
  have h_2 := dR_e h_1
  obtain ⟨y4, hy5, h_3⟩ := h_2
  refine fw_deref hy5 ?_
  refine fw_aload_n (i := 0) 0 rfl (show decode _ _ = .ok (.aload_n 0, 1) by decide +kernel) ?_
  refine fw_getI (kd := 11) (k := 12) (show decode _ _ = .ok (.getfield 132, 3) by decide +kernel) gf_X11_132 hr2 hs3 (Or.inl rfl) ?_
  refine fw_bipush (v := (97 : Int32)) (show decode _ _ = .ok (.bipush 97, 2) by decide +kernel) (by decide) ?_
  refine fw_iadd (show decode _ _ = .ok (.iadd, 1) by decide +kernel) ?_
  refine fw_iconst (v := (2 : Int32)) (show decode _ _ = .ok (.iconst 2, 1) by decide +kernel) (by decide) ?_
  refine fw_aload_n (i := 0) 0 rfl (show decode _ _ = .ok (.aload_n 0, 1) by decide +kernel) ?_
  refine fw_getI (kd := 11) (k := 14) (show decode _ _ = .ok (.getfield 135, 3) by decide +kernel) gf_X11_135 hr2 hs3 (Or.inl rfl) ?_
  refine fw_imul (show decode _ _ = .ok (.imul, 1) by decide +kernel) ?_
  refine fw_iadd (show decode _ _ = .ok (.iadd, 1) by decide +kernel) ?_
  refine fw_iload_n (i := 1) 1 rfl (show decode _ _ = .ok (.iload_n 1, 1) by decide +kernel) ?_
  obtain ⟨hr9, ⟨n6, hs7, hi8⟩, h_4⟩ := h_3
  refine fw_iast (show decode _ _ = .ok (.iastore, 1) by decide +kernel) hr9 hs7 hi8 ?_
  refine FW.nmM (fun M10 eM11 => ?_)
  have h_5 := h_4 M10 eM11
  refine fw_aload_n (i := 0) 0 rfl (show decode _ _ = .ok (.aload_n 0, 1) by decide +kernel) ?_
  refine fw_getP (kd := 11) (k := 2) (show decode _ _ = .ok (.getfield 16, 3) by decide +kernel) gf_X11_16 hr2 (mSw_I eM11 hs3) rfl ?_
  have h_6 := dR_e h_5
  obtain ⟨y12, hy13, h_7⟩ := h_6
  refine fw_deref hy13 ?_
  refine fw_aload_n (i := 0) 0 rfl (show decode _ _ = .ok (.aload_n 0, 1) by decide +kernel) ?_
  refine fw_getI (kd := 11) (k := 12) (show decode _ _ = .ok (.getfield 132, 3) by decide +kernel) gf_X11_132 hr2 (mSw_I eM11 hs3) (Or.inl rfl) ?_
  refine fw_bipush (v := (97 : Int32)) (show decode _ _ = .ok (.bipush 97, 2) by decide +kernel) (by decide) ?_
  refine fw_iadd (show decode _ _ = .ok (.iadd, 1) by decide +kernel) ?_
  refine fw_iconst (v := (2 : Int32)) (show decode _ _ = .ok (.iconst 2, 1) by decide +kernel) (by decide) ?_
  refine fw_aload_n (i := 0) 0 rfl (show decode _ _ = .ok (.aload_n 0, 1) by decide +kernel) ?_
  refine fw_getI (kd := 11) (k := 14) (show decode _ _ = .ok (.getfield 135, 3) by decide +kernel) gf_X11_135 hr2 (mSw_I eM11 hs3) (Or.inl rfl) ?_
  refine fw_imul (show decode _ _ = .ok (.imul, 1) by decide +kernel) ?_
  refine fw_iadd (show decode _ _ = .ok (.iadd, 1) by decide +kernel) ?_
  refine fw_iconst (v := (1 : Int32)) (show decode _ _ = .ok (.iconst 1, 1) by decide +kernel) (by decide) ?_
  refine fw_iadd (show decode _ _ = .ok (.iadd, 1) by decide +kernel) ?_
  refine fw_iload_n (i := 2) 2 rfl (show decode _ _ = .ok (.iload_n 2, 1) by decide +kernel) ?_
  obtain ⟨hr17, ⟨n14, hs15, hi16⟩, h_8⟩ := h_7
  refine fw_iast (show decode _ _ = .ok (.iastore, 1) by decide +kernel) hr17 hs15 hi16 ?_
  refine FW.nmM (fun M18 eM19 => ?_)
  have h_9 := h_8 M18 eM19
  refine fw_aload_n (i := 0) 0 rfl (show decode _ _ = .ok (.aload_n 0, 1) by decide +kernel) ?_
  refine fw_dup (show decode _ _ = .ok (.dup, 1) by decide +kernel) rfl ?_
  refine fw_getI (kd := 11) (k := 14) (show decode _ _ = .ok (.getfield 135, 3) by decide +kernel) gf_X11_135 hr2 (mSw_I eM19 (mSw_I eM11 hs3)) (Or.inl rfl) ?_
  refine fw_iconst (v := (1 : Int32)) (show decode _ _ = .ok (.iconst 1, 1) by decide +kernel) (by decide) ?_
  refine fw_iadd (show decode _ _ = .ok (.iadd, 1) by decide +kernel) ?_
  refine fw_nmI (fun x20 ex21 => ?_)
  have h_10 := h_9 x20 ex21
  refine fw_putI (kd := 11) (k := 14) (show decode _ _ = .ok (.putfield 135, 3) by decide +kernel) ⟨gf_X11_135, _, rfl, Or.inl rfl⟩ hr2 (mSw_I eM19 (mSw_I eM11 hs3)) rfl ?_
  refine FW.nmM (fun M22 eM23 => ?_)
  have h_11 := h_10 M22 eM23
  exact fw_ret (v := none) .return_ (show decode _ _ = .ok (.return_, 1) by decide +kernel) ⟨rfl, rfl⟩ ⟨rfl, h_11⟩
def w_X11_byteAt (p0 : Nat) (p1 : Int32) (M : fM) (φ : Int32 → fM → Prop) : Prop := isO M p0 11 ∧ iF ((mI M p0 4) ≤ p1) (φ (-1 : Int32) M) (dR (mP M p0 3) fun y4 => inA M y4 12 p1 ∧ φ (mI M y4 (ix p1)) M)
set_option maxRecDepth 100000 in
theorem s_X11_byteAt {g : GT} {d : Nat} (hd : 1 ≤ d) {p0 : Nat} {p1 : Int32} {M : fM} {φ : Int32 → fM → Prop} (h : w_X11_byteAt p0 p1 M φ) : FC g mtX11_byteAt d [.ref p0, .int p1] M 0 0 (rI φ) := by
  obtain ⟨d, rfl⟩ : ∃ e, d = e + 1 := ⟨d - 1, by omega⟩
  unfold w_X11_byteAt at h
  refine FC.intro (nL := 2) (by decide) rfl (Nat.le_of_ble_eq_true rfl) ?_
  show FW g mtX11_byteAt (d + 1) 0 [(0, .ref p0), (1, .int p1)] [] M 0 0 (rI φ)
  refine fw_iload_n (i := 1) 1 rfl (show decode _ _ = .ok (.iload_n 1, 1) by decide +kernel) ?_
  refine fw_aload_n (i := 0) 0 rfl (show decode _ _ = .ok (.aload_n 0, 1) by decide +kernel) ?_
  obtain ⟨⟨hr2, n1, hs3⟩, h_1⟩ := h
  refine fw_getI (kd := 11) (k := 4) (show decode _ _ = .ok (.getfield 91, 3) by decide +kernel) gf_X11_91 hr2 hs3 (Or.inl rfl) ?_
  refine fw_icmp_ge 17 (show decode _ _ = .ok (.if_icmp .ge 12, 3) by decide +kernel) (by decide) (fun hc9 => ?_) (fun hc9 => ?_)
  · have h_2 := ipos hc9 h_1
    refine fw_iconst (v := (-1 : Int32)) (show decode _ _ = .ok (.iconst (-1), 1) by decide +kernel) (by decide) ?_
    exact fw_ret (v := some (.int (-1 : Int32))) .ireturn (show decode _ _ = .ok (.ireturn, 1) by decide +kernel) ⟨rfl, Or.inl rfl⟩ ⟨_, rfl, h_2⟩
  · have h_3 := ineg hc9 h_1
    refine fw_aload_n (i := 0) 0 rfl (show decode _ _ = .ok (.aload_n 0, 1) by decide +kernel) ?_
    refine fw_getP (kd := 11) (k := 3) (show decode _ _ = .ok (.getfield 19, 3) by decide +kernel) gf_X11_19 hr2 hs3 rfl ?_
    have h_4 := dR_e h_3
    obtain ⟨y4, hy5, h_5⟩ := h_4
    refine fw_deref hy5 ?_
    refine fw_iload_n (i := 1) 1 rfl (show decode _ _ = .ok (.iload_n 1, 1) by decide +kernel) ?_
    obtain ⟨⟨n6, hs7, hi8⟩, h_6⟩ := h_5
    refine fw_iald (show decode _ _ = .ok (.iaload, 1) by decide +kernel) hs7 hi8 ?_
    refine fw_goto 18 (show decode _ _ = .ok (.goto 4, 3) by decide +kernel) (by decide) ?_
    exact fw_ret (v := some (.int (mI M y4 (ix p1)))) .ireturn (show decode _ _ = .ok (.ireturn, 1) by decide +kernel) ⟨rfl, Or.inl rfl⟩ ⟨_, rfl, h_6⟩
def w_X11_isDigit (p0 : Int32) (M : fM) (φ : Int32 → fM → Prop) : Prop := w_X11_isIn p0 (48 : Int32) (57 : Int32) M fun x2 M1 => isB x2 ∧ φ x2 M1
set_option maxRecDepth 100000 in
theorem s_X11_isDigit {g : GT} {d : Nat} (hd : 2 ≤ d) {p0 : Int32} {M : fM} {φ : Int32 → fM → Prop} (h : w_X11_isDigit p0 M φ) : FC g mtX11_isDigit d [.int p0] M 0 0 (rI φ) := by
  obtain ⟨d, rfl⟩ : ∃ e, d = e + 1 := ⟨d - 1, by omega⟩
  unfold w_X11_isDigit at h
  refine FC.intro (nL := 1) (by decide) rfl (Nat.le_of_ble_eq_true rfl) ?_
  show FW g mtX11_isDigit (d + 1) 0 [(0, .int p0)] [] M 0 0 (rI φ)
  refine fw_iload_n (i := 0) 0 rfl (show decode _ _ = .ok (.iload_n 0, 1) by decide +kernel) ?_
  refine fw_bipush (v := (48 : Int32)) (show decode _ _ = .ok (.bipush 48, 2) by decide +kernel) (by decide) ?_
  refine fw_bipush (v := (57 : Int32)) (show decode _ _ = .ok (.bipush 57, 2) by decide +kernel) (by decide) ?_
  refine fw_callS (mt' := mtX11_isIn) (mc := 0) (ms := 0) (As := [.int p0, .int (48 : Int32), .int (57 : Int32)]) (rest := []) 3 (show decode _ _ = .ok (.invokestatic 66, 3) by decide +kernel) cs_X11_66 rfl (Nat.le_of_ble_eq_true rfl) (s_X11_isIn (d := d) (hd_le hd (by decide)) h) (by decide) (by decide) (kI (bc' := 0) (bs' := 0) (by decide) (by decide) (fun x2 M1 h_1 => ?_))
  obtain ⟨hbb, h_2⟩ := h_1
  exact fw_ret (v := some (.int x2)) .ireturn (show decode _ _ = .ok (.ireturn, 1) by decide +kernel) ⟨rfl, Or.inr (Or.inl ⟨rfl, hbb⟩)⟩ ⟨_, rfl, h_2⟩
def w_X11_isLetter (p0 : Int32) (M : fM) (φ : Int32 → fM → Prop) : Prop := w_X11_isIn p0 (97 : Int32) (122 : Int32) M fun x2 M1 => iF (x2 = 0) (w_X11_isIn p0 (65 : Int32) (90 : Int32) M1 fun x4 M3 => iF (x4 = 0) (φ (0 : Int32) M3) (φ (1 : Int32) M3)) (φ (1 : Int32) M1)
set_option maxRecDepth 100000 in
theorem s_X11_isLetter {g : GT} {d : Nat} (hd : 2 ≤ d) {p0 : Int32} {M : fM} {φ : Int32 → fM → Prop} (h : w_X11_isLetter p0 M φ) : FC g mtX11_isLetter d [.int p0] M 0 0 (rI φ) := by
  obtain ⟨d, rfl⟩ : ∃ e, d = e + 1 := ⟨d - 1, by omega⟩
  unfold w_X11_isLetter at h
  refine FC.intro (nL := 1) (by decide) rfl (Nat.le_of_ble_eq_true rfl) ?_
  show FW g mtX11_isLetter (d + 1) 0 [(0, .int p0)] [] M 0 0 (rI φ)
  refine fw_iload_n (i := 0) 0 rfl (show decode _ _ = .ok (.iload_n 0, 1) by decide +kernel) ?_
  refine fw_bipush (v := (97 : Int32)) (show decode _ _ = .ok (.bipush 97, 2) by decide +kernel) (by decide) ?_
  refine fw_bipush (v := (122 : Int32)) (show decode _ _ = .ok (.bipush 122, 2) by decide +kernel) (by decide) ?_
  refine fw_callS (mt' := mtX11_isIn) (mc := 0) (ms := 0) (As := [.int p0, .int (97 : Int32), .int (122 : Int32)]) (rest := []) 3 (show decode _ _ = .ok (.invokestatic 66, 3) by decide +kernel) cs_X11_66 rfl (Nat.le_of_ble_eq_true rfl) (s_X11_isIn (d := d) (hd_le hd (by decide)) h) (by decide) (by decide) (kI (bc' := 0) (bs' := 0) (by decide) (by decide) (fun x2 M1 h_1 => ?_))
  refine fw_if_ne 22 (show decode _ _ = .ok (.ifCond .ne 14, 3) by decide +kernel) (by decide) (fun hc6 => ?_) (fun hc6 => ?_)
  · have h_2 := ineg hc6 h_1
    refine fw_iconst (v := (1 : Int32)) (show decode _ _ = .ok (.iconst 1, 1) by decide +kernel) (by decide) ?_
    refine fw_goto 27 (show decode _ _ = .ok (.goto 4, 3) by decide +kernel) (by decide) ?_
    exact fw_ret (v := some (.int (1 : Int32))) .ireturn (show decode _ _ = .ok (.ireturn, 1) by decide +kernel) ⟨rfl, Or.inr (Or.inl ⟨rfl, rfl⟩)⟩ ⟨_, rfl, h_2⟩
  · have h_3 := ipos hc6 h_1
    refine fw_iload_n (i := 0) 0 rfl (show decode _ _ = .ok (.iload_n 0, 1) by decide +kernel) ?_
    refine fw_bipush (v := (65 : Int32)) (show decode _ _ = .ok (.bipush 65, 2) by decide +kernel) (by decide) ?_
    refine fw_bipush (v := (90 : Int32)) (show decode _ _ = .ok (.bipush 90, 2) by decide +kernel) (by decide) ?_
    refine fw_callS (mt' := mtX11_isIn) (mc := 0) (ms := 0) (As := [.int p0, .int (65 : Int32), .int (90 : Int32)]) (rest := []) 3 (show decode _ _ = .ok (.invokestatic 66, 3) by decide +kernel) cs_X11_66 rfl (Nat.le_of_ble_eq_true rfl) (s_X11_isIn (d := d) (hd_le hd (by decide)) h_3) (by decide) (by decide) (kI (bc' := 0) (bs' := 0) (by decide) (by decide) (fun x4 M3 h_4 => ?_))
    refine fw_if_eq 26 (show decode _ _ = .ok (.ifCond .eq 7, 3) by decide +kernel) (by decide) (fun hc5 => ?_) (fun hc5 => ?_)
    · have h_5 := ipos hc5 h_4
      refine fw_iconst (v := (0 : Int32)) (show decode _ _ = .ok (.iconst 0, 1) by decide +kernel) (by decide) ?_
      exact fw_ret (v := some (.int (0 : Int32))) .ireturn (show decode _ _ = .ok (.ireturn, 1) by decide +kernel) ⟨rfl, Or.inr (Or.inl ⟨rfl, rfl⟩)⟩ ⟨_, rfl, h_5⟩
    · have h_6 := ineg hc5 h_4
      refine fw_iconst (v := (1 : Int32)) (show decode _ _ = .ok (.iconst 1, 1) by decide +kernel) (by decide) ?_
      refine fw_goto 27 (show decode _ _ = .ok (.goto 4, 3) by decide +kernel) (by decide) ?_
      exact fw_ret (v := some (.int (1 : Int32))) .ireturn (show decode _ _ = .ok (.ireturn, 1) by decide +kernel) ⟨rfl, Or.inr (Or.inl ⟨rfl, rfl⟩)⟩ ⟨_, rfl, h_6⟩
def j_X11_nextToken_405 (φ : fM → Prop) (s0 : Int32) (s1 : Nat) (M : fM) : Prop := isO M s1 11 ∧ st (wI M s1 9 s0) fun M4 => φ M4
set_option maxRecDepth 100000 in
theorem sj_X11_nextToken_405 {g : GT} {d : Nat} (hd : 3 ≤ d + 1) {φ : fM → Prop} {s0 : Int32} {s1 : Nat} {M : fM} (h : j_X11_nextToken_405 φ s0 s1 M) : FW g mtX11_nextToken (d + 1) 405 [] [.int s0, .ref s1] M 0 0 (rV φ) := by
  unfold j_X11_nextToken_405 at h
  obtain ⟨⟨hr2, n1, hs3⟩, h_1⟩ := h
  refine fw_putI (kd := 11) (k := 9) (show decode _ _ = .ok (.putfield 107, 3) by decide +kernel) ⟨gf_X11_107, _, rfl, Or.inl rfl⟩ hr2 hs3 rfl ?_
  refine FW.nmM (fun M4 eM5 => ?_)
  have h_2 := h_1 M4 eM5
  exact fw_ret (v := none) .return_ (show decode _ _ = .ok (.return_, 1) by decide +kernel) ⟨rfl, rfl⟩ ⟨rfl, h_2⟩
def j_X11_nextToken_370 (φ : fM → Prop) (p0 : Nat) (p1 : Int32) (M : fM) : Prop := isO M p0 11 ∧ w_X11_byteAt p0 (mI M p0 7) M fun x10 M9 => iF (x10 = (61 : Int32)) (isO M9 p0 11 ∧ nm ((mI M9 p0 7) + (1 : Int32)) fun x14 => st (wI M9 p0 7 x14) fun M16 => iF (p1 = (60 : Int32)) (j_X11_nextToken_405 φ (4 : Int32) p0 M16) (j_X11_nextToken_405 φ (5 : Int32) p0 M16)) (φ M9)
set_option maxRecDepth 100000 in
theorem sj_X11_nextToken_370 {g : GT} {d : Nat} (hd : 3 ≤ d + 1) {φ : fM → Prop} {p0 : Nat} {p1 : Int32} {M : fM} (h : j_X11_nextToken_370 φ p0 p1 M) : FW g mtX11_nextToken (d + 1) 370 [(0, .ref p0), (1, .int p1)] [] M 0 0 (rV φ) := by
  unfold j_X11_nextToken_370 at h
  refine fw_aload_n (i := 0) 0 rfl (show decode _ _ = .ok (.aload_n 0, 1) by decide +kernel) ?_
  refine fw_aload_n (i := 0) 0 rfl (show decode _ _ = .ok (.aload_n 0, 1) by decide +kernel) ?_
  obtain ⟨⟨hr7, n6, hs8⟩, h_1⟩ := h
  refine fw_getI (kd := 11) (k := 7) (show decode _ _ = .ok (.getfield 98, 3) by decide +kernel) gf_X11_98 hr7 hs8 (Or.inl rfl) ?_
  refine fw_callV (mt' := mtX11_byteAt) (mc := 0) (ms := 0) (As := [.int (mI M p0 7)]) (rest := []) 1 11 n6 (show decode _ _ = .ok (.invokevirtual 101, 3) by decide +kernel) cv_X11_101 ⟨_, rfl, rfl⟩ hr7 hs8 rfl (Nat.le_of_ble_eq_true rfl) (s_X11_byteAt (d := d) (hd_le hd (by decide)) h_1) (by decide) (by decide) (kI (bc' := 0) (bs' := 0) (by decide) (by decide) (fun x10 M9 h_2 => ?_))
  refine fw_bipush (v := (61 : Int32)) (show decode _ _ = .ok (.bipush 61, 2) by decide +kernel) (by decide) ?_
  refine fw_icmp_ne 408 (show decode _ _ = .ok (.if_icmp .ne 28, 3) by decide +kernel) (by decide) (fun hc19 => ?_) (fun hc19 => ?_)
  · have h_3 := ineg hc19 h_2
    exact fw_ret (v := none) .return_ (show decode _ _ = .ok (.return_, 1) by decide +kernel) ⟨rfl, rfl⟩ ⟨rfl, h_3⟩
  · have h_4 := ipos hc19 h_2
    refine fw_aload_n (i := 0) 0 rfl (show decode _ _ = .ok (.aload_n 0, 1) by decide +kernel) ?_
    refine fw_dup (show decode _ _ = .ok (.dup, 1) by decide +kernel) rfl ?_
    obtain ⟨⟨hr12, n11, hs13⟩, h_5⟩ := h_4
    refine fw_getI (kd := 11) (k := 7) (show decode _ _ = .ok (.getfield 98, 3) by decide +kernel) gf_X11_98 hr12 hs13 (Or.inl rfl) ?_
    refine fw_iconst (v := (1 : Int32)) (show decode _ _ = .ok (.iconst 1, 1) by decide +kernel) (by decide) ?_
    refine fw_iadd (show decode _ _ = .ok (.iadd, 1) by decide +kernel) ?_
    refine fw_nmI (fun x14 ex15 => ?_)
    have h_6 := h_5 x14 ex15
    refine fw_putI (kd := 11) (k := 7) (show decode _ _ = .ok (.putfield 98, 3) by decide +kernel) ⟨gf_X11_98, _, rfl, Or.inl rfl⟩ hr12 hs13 rfl ?_
    refine FW.nmM (fun M16 eM17 => ?_)
    have h_7 := h_6 M16 eM17
    refine fw_aload_n (i := 0) 0 rfl (show decode _ _ = .ok (.aload_n 0, 1) by decide +kernel) ?_
    refine fw_iload_n (i := 1) 1 rfl (show decode _ _ = .ok (.iload_n 1, 1) by decide +kernel) ?_
    refine fw_bipush (v := (60 : Int32)) (show decode _ _ = .ok (.bipush 60, 2) by decide +kernel) (by decide) ?_
    refine fw_icmp_ne 404 (show decode _ _ = .ok (.if_icmp .ne 7, 3) by decide +kernel) (by decide) (fun hc18 => ?_) (fun hc18 => ?_)
    · have h_8 := ineg hc18 h_7
      refine fw_iconst (v := (5 : Int32)) (show decode _ _ = .ok (.iconst 5, 1) by decide +kernel) (by decide) ?_
      refine FW.sub [] (ls' := []) rfl ?_
      exact sj_X11_nextToken_405 hd h_8
    · have h_9 := ipos hc18 h_7
      refine fw_iconst (v := (4 : Int32)) (show decode _ _ = .ok (.iconst 4, 1) by decide +kernel) (by decide) ?_
      refine fw_goto 405 (show decode _ _ = .ok (.goto 4, 3) by decide +kernel) (by decide) ?_
      refine FW.sub [] (ls' := []) rfl ?_
      exact sj_X11_nextToken_405 hd h_9
def j_X11_nextToken_355 (φ : fM → Prop) (p0 : Nat) (p1 : Int32) (s0 : Int32) (s1 : Nat) (M : fM) : Prop := isO M s1 11 ∧ st (wI M s1 9 s0) fun M23 => iF (p1 = (60 : Int32)) (j_X11_nextToken_370 φ p0 p1 M23) (iF (p1 = (62 : Int32)) (j_X11_nextToken_370 φ p0 p1 M23) (φ M23))
set_option maxRecDepth 100000 in
theorem sj_X11_nextToken_355 {g : GT} {d : Nat} (hd : 3 ≤ d + 1) {φ : fM → Prop} {p0 : Nat} {p1 : Int32} {s0 : Int32} {s1 : Nat} {M : fM} (h : j_X11_nextToken_355 φ p0 p1 s0 s1 M) : FW g mtX11_nextToken (d + 1) 355 [(0, .ref p0), (1, .int p1)] [.int s0, .ref s1] M 0 0 (rV φ) := by
  unfold j_X11_nextToken_355 at h
  obtain ⟨⟨hr21, n20, hs22⟩, h_1⟩ := h
  refine fw_putI (kd := 11) (k := 9) (show decode _ _ = .ok (.putfield 107, 3) by decide +kernel) ⟨gf_X11_107, _, rfl, Or.inl rfl⟩ hr21 hs22 rfl ?_
  refine FW.nmM (fun M23 eM24 => ?_)
  have h_2 := h_1 M23 eM24
  refine fw_iload_n (i := 1) 1 rfl (show decode _ _ = .ok (.iload_n 1, 1) by decide +kernel) ?_
  refine fw_bipush (v := (60 : Int32)) (show decode _ _ = .ok (.bipush 60, 2) by decide +kernel) (by decide) ?_
  refine fw_icmp_eq 370 (show decode _ _ = .ok (.if_icmp .eq 9, 3) by decide +kernel) (by decide) (fun hc26 => ?_) (fun hc26 => ?_)
  · have h_3 := ipos hc26 h_2
    refine FW.sub [0, 1] (ls' := [(0, .ref p0), (1, .int p1)]) rfl ?_
    exact sj_X11_nextToken_370 hd h_3
  · have h_4 := ineg hc26 h_2
    refine fw_iload_n (i := 1) 1 rfl (show decode _ _ = .ok (.iload_n 1, 1) by decide +kernel) ?_
    refine fw_bipush (v := (62 : Int32)) (show decode _ _ = .ok (.bipush 62, 2) by decide +kernel) (by decide) ?_
    refine fw_icmp_ne 408 (show decode _ _ = .ok (.if_icmp .ne 41, 3) by decide +kernel) (by decide) (fun hc25 => ?_) (fun hc25 => ?_)
    · have h_5 := ineg hc25 h_4
      exact fw_ret (v := none) .return_ (show decode _ _ = .ok (.return_, 1) by decide +kernel) ⟨rfl, rfl⟩ ⟨rfl, h_5⟩
    · have h_6 := ipos hc25 h_4
      refine FW.sub [0, 1] (ls' := [(0, .ref p0), (1, .int p1)]) rfl ?_
      exact sj_X11_nextToken_370 hd h_6
def j_X11_nextToken_344 (φ : fM → Prop) (p0 : Nat) (p1 : Int32) (s0 : Int32) (M : fM) : Prop := iF (s0 = 0) (j_X11_nextToken_355 φ p0 p1 (3 : Int32) p0 M) (j_X11_nextToken_355 φ p0 p1 p1 p0 M)
set_option maxRecDepth 100000 in
theorem sj_X11_nextToken_344 {g : GT} {d : Nat} (hd : 3 ≤ d + 1) {φ : fM → Prop} {p0 : Nat} {p1 : Int32} {s0 : Int32} {M : fM} (h : j_X11_nextToken_344 φ p0 p1 s0 M) : FW g mtX11_nextToken (d + 1) 344 [(0, .ref p0), (1, .int p1)] [.int s0] M 0 0 (rV φ) := by
  unfold j_X11_nextToken_344 at h
  refine fw_istore_n (i := 2) (ls' := [(2, .int s0), (0, .ref p0), (1, .int p1)]) (show decode _ _ = .ok (.istore_n 2, 1) by decide +kernel) (by decide) rfl ?_
  refine fw_aload_n (i := 0) 1 rfl (show decode _ _ = .ok (.aload_n 0, 1) by decide +kernel) ?_
  refine fw_iload_n (i := 2) 0 rfl (show decode _ _ = .ok (.iload_n 2, 1) by decide +kernel) ?_
  refine fw_if_eq 354 (show decode _ _ = .ok (.ifCond .eq 7, 3) by decide +kernel) (by decide) (fun hc27 => ?_) (fun hc27 => ?_)
  · have h_1 := ipos hc27 h
    refine fw_iconst (v := (3 : Int32)) (show decode _ _ = .ok (.iconst 3, 1) by decide +kernel) (by decide) ?_
    refine FW.sub [1, 2] (ls' := [(0, .ref p0), (1, .int p1)]) rfl ?_
    exact sj_X11_nextToken_355 hd h_1
  · have h_2 := ineg hc27 h
    refine fw_iload_n (i := 1) 2 rfl (show decode _ _ = .ok (.iload_n 1, 1) by decide +kernel) ?_
    refine fw_goto 355 (show decode _ _ = .ok (.goto 4, 3) by decide +kernel) (by decide) ?_
    refine FW.sub [1, 2] (ls' := [(0, .ref p0), (1, .int p1)]) rfl ?_
    exact sj_X11_nextToken_355 hd h_2
def j_X11_nextToken_339 (φ : fM → Prop) (p0 : Nat) (p1 : Int32) (M : fM) : Prop := j_X11_nextToken_344 φ p0 p1 (1 : Int32) M
set_option maxRecDepth 100000 in
theorem sj_X11_nextToken_339 {g : GT} {d : Nat} (hd : 3 ≤ d + 1) {φ : fM → Prop} {p0 : Nat} {p1 : Int32} {M : fM} (h : j_X11_nextToken_339 φ p0 p1 M) : FW g mtX11_nextToken (d + 1) 339 [(0, .ref p0), (1, .int p1)] [] M 0 0 (rV φ) := by
  unfold j_X11_nextToken_339 at h
  refine fw_iconst (v := (1 : Int32)) (show decode _ _ = .ok (.iconst 1, 1) by decide +kernel) (by decide) ?_
  refine fw_goto 344 (show decode _ _ = .ok (.goto 4, 3) by decide +kernel) (by decide) ?_
  refine FW.sub [0, 1] (ls' := [(0, .ref p0), (1, .int p1)]) rfl ?_
  exact sj_X11_nextToken_344 hd h
def j_X11_nextToken_210 (K161 : Nat → fM → Prop) (φ : fM → Prop) (p0 : Nat) (M : fM) : Prop := isO M p0 11 ∧ nm ((mI M p0 7) + (1 : Int32)) fun x31 => st (wI M p0 7 x31) fun M33 => K161 p0 M33
set_option maxRecDepth 100000 in
theorem sj_X11_nextToken_210 {g : GT} {d : Nat} (hd : 3 ≤ d + 1) {K161 : Nat → fM → Prop} {φ : fM → Prop} (hK161 : ∀ (p0 : Nat) (M : fM), K161 p0 M → FW g mtX11_nextToken (d + 1) 161 [(0, .ref p0)] [] M 0 0 (rV φ)) {p0 : Nat} {M : fM} (h : j_X11_nextToken_210 K161 φ p0 M) : FW g mtX11_nextToken (d + 1) 210 [(0, .ref p0)] [] M 0 0 (rV φ) := by
  unfold j_X11_nextToken_210 at h
  refine fw_aload_n (i := 0) 0 rfl (show decode _ _ = .ok (.aload_n 0, 1) by decide +kernel) ?_
  refine fw_dup (show decode _ _ = .ok (.dup, 1) by decide +kernel) rfl ?_
  obtain ⟨⟨hr29, n28, hs30⟩, h_1⟩ := h
  refine fw_getI (kd := 11) (k := 7) (show decode _ _ = .ok (.getfield 98, 3) by decide +kernel) gf_X11_98 hr29 hs30 (Or.inl rfl) ?_
  refine fw_iconst (v := (1 : Int32)) (show decode _ _ = .ok (.iconst 1, 1) by decide +kernel) (by decide) ?_
  refine fw_iadd (show decode _ _ = .ok (.iadd, 1) by decide +kernel) ?_
  refine fw_nmI (fun x31 ex32 => ?_)
  have h_2 := h_1 x31 ex32
  refine fw_putI (kd := 11) (k := 7) (show decode _ _ = .ok (.putfield 98, 3) by decide +kernel) ⟨gf_X11_98, _, rfl, Or.inl rfl⟩ hr29 hs30 rfl ?_
  refine FW.nmM (fun M33 eM34 => ?_)
  have h_3 := h_2 M33 eM34
  refine fw_goto 161 (show decode _ _ = .ok (.goto (-59), 3) by decide +kernel) (by decide) ?_
  refine FW.sub [0] (ls' := [(0, .ref p0)]) rfl ?_
  exact hK161 _ _ h_3
def b_X11_nextToken_161 (K161 : Nat → fM → Prop) (φ : fM → Prop) (p0 : Nat) (M : fM) : Prop := isO M p0 11 ∧ w_X11_byteAt p0 (mI M p0 7) M fun x39 M38 => w_X11_isLetter x39 M38 fun x41 M40 => iF (x41 = 0) (isO M40 p0 11 ∧ iF (((mI M40 p0 7) - (mI M40 p0 8)) ≤ (7 : Int32)) (φ M40) (st (wJ M40 p0 11 (0 : Int64)) fun M45 => φ M45)) (isO M40 p0 11 ∧ iF ((7 : Int32) ≤ ((mI M40 p0 7) - (mI M40 p0 8))) (j_X11_nextToken_210 K161 φ p0 M40) (w_X11_byteAt p0 (mI M40 p0 7) M40 fun x52 M51 => nm (((mJ M40 p0 11) <<< (Int32.toInt64 (8 : Int32) &&& 63)) ||| (Int32.toInt64 x52)) fun x53 => isO M51 p0 11 ∧ st (wJ M51 p0 11 x53) fun M58 => j_X11_nextToken_210 K161 φ p0 M58))
def l_X11_nextToken_161 (φ : fM → Prop) : Nat → Nat → fM → Prop
  | 0, _, _ => False
  | n + 1, p0, M => b_X11_nextToken_161 (l_X11_nextToken_161 φ n) φ p0 M
set_option maxRecDepth 100000 in
theorem sb_X11_nextToken_161 {g : GT} {d : Nat} (hd : 3 ≤ d + 1) {K161 : Nat → fM → Prop} {φ : fM → Prop} (hK161 : ∀ (p0 : Nat) (M : fM), K161 p0 M → FW g mtX11_nextToken (d + 1) 161 [(0, .ref p0)] [] M 0 0 (rV φ)) {p0 : Nat} {M : fM} (h : b_X11_nextToken_161 K161 φ p0 M) : FW g mtX11_nextToken (d + 1) 161 [(0, .ref p0)] [] M 0 0 (rV φ) := by
  unfold b_X11_nextToken_161 at h
  refine fw_aload_n (i := 0) 0 rfl (show decode _ _ = .ok (.aload_n 0, 1) by decide +kernel) ?_
  refine fw_aload_n (i := 0) 0 rfl (show decode _ _ = .ok (.aload_n 0, 1) by decide +kernel) ?_
  obtain ⟨⟨hr36, n35, hs37⟩, h_1⟩ := h
  refine fw_getI (kd := 11) (k := 7) (show decode _ _ = .ok (.getfield 98, 3) by decide +kernel) gf_X11_98 hr36 hs37 (Or.inl rfl) ?_
  refine fw_callV (mt' := mtX11_byteAt) (mc := 0) (ms := 0) (As := [.int (mI M p0 7)]) (rest := []) 1 11 n35 (show decode _ _ = .ok (.invokevirtual 101, 3) by decide +kernel) cv_X11_101 ⟨_, rfl, rfl⟩ hr36 hs37 rfl (Nat.le_of_ble_eq_true rfl) (s_X11_byteAt (d := d) (hd_le hd (by decide)) h_1) (by decide) (by decide) (kI (bc' := 0) (bs' := 0) (by decide) (by decide) (fun x39 M38 h_2 => ?_))
  refine fw_callS (mt' := mtX11_isLetter) (mc := 0) (ms := 0) (As := [.int x39]) (rest := []) 1 (show decode _ _ = .ok (.invokestatic 117, 3) by decide +kernel) cs_X11_117 rfl (Nat.le_of_ble_eq_true rfl) (s_X11_isLetter (d := d) (hd_le hd (by decide)) h_2) (by decide) (by decide) (kI (bc' := 0) (bs' := 0) (by decide) (by decide) (fun x41 M40 h_3 => ?_))
  refine fw_if_eq 223 (show decode _ _ = .ok (.ifCond .eq 51, 3) by decide +kernel) (by decide) (fun hc61 => ?_) (fun hc61 => ?_)
  · have h_4 := ipos hc61 h_3
    refine fw_aload_n (i := 0) 0 rfl (show decode _ _ = .ok (.aload_n 0, 1) by decide +kernel) ?_
    obtain ⟨⟨hr43, n42, hs44⟩, h_5⟩ := h_4
    refine fw_getI (kd := 11) (k := 7) (show decode _ _ = .ok (.getfield 98, 3) by decide +kernel) gf_X11_98 hr43 hs44 (Or.inl rfl) ?_
    refine fw_aload_n (i := 0) 0 rfl (show decode _ _ = .ok (.aload_n 0, 1) by decide +kernel) ?_
    refine fw_getI (kd := 11) (k := 8) (show decode _ _ = .ok (.getfield 104, 3) by decide +kernel) gf_X11_104 hr43 hs44 (Or.inl rfl) ?_
    refine fw_isub (show decode _ _ = .ok (.isub, 1) by decide +kernel) ?_
    refine fw_bipush (v := (7 : Int32)) (show decode _ _ = .ok (.bipush 7, 2) by decide +kernel) (by decide) ?_
    refine fw_icmp_le 408 (show decode _ _ = .ok (.if_icmp .le 174, 3) by decide +kernel) (by decide) (fun hc47 => ?_) (fun hc47 => ?_)
    · have h_6 := ipos hc47 h_5
      exact fw_ret (v := none) .return_ (show decode _ _ = .ok (.return_, 1) by decide +kernel) ⟨rfl, rfl⟩ ⟨rfl, h_6⟩
    · have h_7 := ineg hc47 h_5
      refine fw_aload_n (i := 0) 0 rfl (show decode _ _ = .ok (.aload_n 0, 1) by decide +kernel) ?_
      refine fw_lconst (v := (0 : Int64)) (show decode _ _ = .ok (.lconst 0, 1) by decide +kernel) (by decide) ?_
      refine fw_putJ (kd := 11) (k := 11) (show decode _ _ = .ok (.putfield 120, 3) by decide +kernel) ⟨gf_X11_120, _, rfl, Or.inl rfl⟩ hr43 hs44 rfl ?_
      refine FW.nmM (fun M45 eM46 => ?_)
      have h_8 := h_7 M45 eM46
      refine fw_goto 408 (show decode _ _ = .ok (.goto 166, 3) by decide +kernel) (by decide) ?_
      exact fw_ret (v := none) .return_ (show decode _ _ = .ok (.return_, 1) by decide +kernel) ⟨rfl, rfl⟩ ⟨rfl, h_8⟩
  · have h_9 := ineg hc61 h_3
    refine fw_aload_n (i := 0) 0 rfl (show decode _ _ = .ok (.aload_n 0, 1) by decide +kernel) ?_
    obtain ⟨⟨hr49, n48, hs50⟩, h_10⟩ := h_9
    refine fw_getI (kd := 11) (k := 7) (show decode _ _ = .ok (.getfield 98, 3) by decide +kernel) gf_X11_98 hr49 hs50 (Or.inl rfl) ?_
    refine fw_aload_n (i := 0) 0 rfl (show decode _ _ = .ok (.aload_n 0, 1) by decide +kernel) ?_
    refine fw_getI (kd := 11) (k := 8) (show decode _ _ = .ok (.getfield 104, 3) by decide +kernel) gf_X11_104 hr49 hs50 (Or.inl rfl) ?_
    refine fw_isub (show decode _ _ = .ok (.isub, 1) by decide +kernel) ?_
    refine fw_bipush (v := (7 : Int32)) (show decode _ _ = .ok (.bipush 7, 2) by decide +kernel) (by decide) ?_
    refine fw_icmp_ge 210 (show decode _ _ = .ok (.if_icmp .ge 24, 3) by decide +kernel) (by decide) (fun hc60 => ?_) (fun hc60 => ?_)
    · have h_11 := ipos hc60 h_10
      refine FW.sub [0] (ls' := [(0, .ref p0)]) rfl ?_
      exact sj_X11_nextToken_210 hd hK161 h_11
    · have h_12 := ineg hc60 h_10
      refine fw_aload_n (i := 0) 0 rfl (show decode _ _ = .ok (.aload_n 0, 1) by decide +kernel) ?_
      refine fw_aload_n (i := 0) 0 rfl (show decode _ _ = .ok (.aload_n 0, 1) by decide +kernel) ?_
      refine fw_getJ (kd := 11) (k := 11) (show decode _ _ = .ok (.getfield 120, 3) by decide +kernel) gf_X11_120 hr49 hs50 rfl ?_
      refine fw_bipush (v := (8 : Int32)) (show decode _ _ = .ok (.bipush 8, 2) by decide +kernel) (by decide) ?_
      refine fw_lshl (show decode _ _ = .ok (.lshl, 1) by decide +kernel) ?_
      refine fw_aload_n (i := 0) 0 rfl (show decode _ _ = .ok (.aload_n 0, 1) by decide +kernel) ?_
      refine fw_aload_n (i := 0) 0 rfl (show decode _ _ = .ok (.aload_n 0, 1) by decide +kernel) ?_
      refine fw_getI (kd := 11) (k := 7) (show decode _ _ = .ok (.getfield 98, 3) by decide +kernel) gf_X11_98 hr49 hs50 (Or.inl rfl) ?_
      refine fw_callV (mt' := mtX11_byteAt) (mc := 0) (ms := 0) (As := [.int (mI M40 p0 7)]) (rest := [.long ((mJ M40 p0 11) <<< (Int32.toInt64 (8 : Int32) &&& 63)), .ref p0]) 1 11 n48 (show decode _ _ = .ok (.invokevirtual 101, 3) by decide +kernel) cv_X11_101 ⟨_, rfl, rfl⟩ hr49 hs50 rfl (Nat.le_of_ble_eq_true rfl) (s_X11_byteAt (d := d) (hd_le hd (by decide)) h_12) (by decide) (by decide) (kI (bc' := 0) (bs' := 0) (by decide) (by decide) (fun x52 M51 h_13 => ?_))
      refine fw_i2l (show decode _ _ = .ok (.i2l, 1) by decide +kernel) ?_
      refine fw_lor (show decode _ _ = .ok (.lor, 1) by decide +kernel) ?_
      refine fw_nmJ (fun x53 ex54 => ?_)
      have h_14 := h_13 x53 ex54
      obtain ⟨⟨hr56, n55, hs57⟩, h_15⟩ := h_14
      refine fw_putJ (kd := 11) (k := 11) (show decode _ _ = .ok (.putfield 120, 3) by decide +kernel) ⟨gf_X11_120, _, rfl, Or.inl rfl⟩ hr56 hs57 rfl ?_
      refine FW.nmM (fun M58 eM59 => ?_)
      have h_16 := h_15 M58 eM59
      refine FW.sub [0] (ls' := [(0, .ref p0)]) rfl ?_
      exact sj_X11_nextToken_210 hd hK161 h_16
theorem sl_X11_nextToken_161 {g : GT} {d : Nat} (hd : 3 ≤ d + 1) {φ : fM → Prop} : ∀ (n : Nat) {p0 : Nat} {M : fM}, l_X11_nextToken_161 φ n p0 M → FW g mtX11_nextToken (d + 1) 161 [(0, .ref p0)] [] M 0 0 (rV φ)
  | 0 => fun h => h.elim
  | n + 1 => fun h => sb_X11_nextToken_161 hd (fun _ _ h => sl_X11_nextToken_161 hd n h) h
def j_X11_nextToken_131 (K85 : Nat → fM → Prop) (φ : fM → Prop) (p0 : Nat) (M : fM) : Prop := isO M p0 11 ∧ nm ((mI M p0 7) + (1 : Int32)) fun x65 => st (wI M p0 7 x65) fun M67 => K85 p0 M67
set_option maxRecDepth 100000 in
theorem sj_X11_nextToken_131 {g : GT} {d : Nat} (hd : 3 ≤ d + 1) {K85 : Nat → fM → Prop} {φ : fM → Prop} (hK85 : ∀ (p0 : Nat) (M : fM), K85 p0 M → FW g mtX11_nextToken (d + 1) 85 [(0, .ref p0)] [] M 0 0 (rV φ)) {p0 : Nat} {M : fM} (h : j_X11_nextToken_131 K85 φ p0 M) : FW g mtX11_nextToken (d + 1) 131 [(0, .ref p0)] [] M 0 0 (rV φ) := by
  unfold j_X11_nextToken_131 at h
  refine fw_aload_n (i := 0) 0 rfl (show decode _ _ = .ok (.aload_n 0, 1) by decide +kernel) ?_
  refine fw_dup (show decode _ _ = .ok (.dup, 1) by decide +kernel) rfl ?_
  obtain ⟨⟨hr63, n62, hs64⟩, h_1⟩ := h
  refine fw_getI (kd := 11) (k := 7) (show decode _ _ = .ok (.getfield 98, 3) by decide +kernel) gf_X11_98 hr63 hs64 (Or.inl rfl) ?_
  refine fw_iconst (v := (1 : Int32)) (show decode _ _ = .ok (.iconst 1, 1) by decide +kernel) (by decide) ?_
  refine fw_iadd (show decode _ _ = .ok (.iadd, 1) by decide +kernel) ?_
  refine fw_nmI (fun x65 ex66 => ?_)
  have h_2 := h_1 x65 ex66
  refine fw_putI (kd := 11) (k := 7) (show decode _ _ = .ok (.putfield 98, 3) by decide +kernel) ⟨gf_X11_98, _, rfl, Or.inl rfl⟩ hr63 hs64 rfl ?_
  refine FW.nmM (fun M67 eM68 => ?_)
  have h_3 := h_2 M67 eM68
  refine fw_goto 85 (show decode _ _ = .ok (.goto (-56), 3) by decide +kernel) (by decide) ?_
  refine FW.sub [0] (ls' := [(0, .ref p0)]) rfl ?_
  exact hK85 _ _ h_3
def b_X11_nextToken_85 (K85 : Nat → fM → Prop) (φ : fM → Prop) (p0 : Nat) (M : fM) : Prop := isO M p0 11 ∧ w_X11_byteAt p0 (mI M p0 7) M fun x73 M72 => w_X11_isDigit x73 M72 fun x75 M74 => iF (x75 = 0) (φ M74) (isO M74 p0 11 ∧ iF ((100000 : Int32) ≤ (mI M74 p0 10)) (j_X11_nextToken_131 K85 φ p0 M74) (w_X11_byteAt p0 (mI M74 p0 7) M74 fun x80 M79 => nm ((((10 : Int32) * (mI M74 p0 10)) + x80) - (48 : Int32)) fun x81 => isO M79 p0 11 ∧ st (wI M79 p0 10 x81) fun M86 => j_X11_nextToken_131 K85 φ p0 M86))
def l_X11_nextToken_85 (φ : fM → Prop) : Nat → Nat → fM → Prop
  | 0, _, _ => False
  | n + 1, p0, M => b_X11_nextToken_85 (l_X11_nextToken_85 φ n) φ p0 M
set_option maxRecDepth 100000 in
theorem sb_X11_nextToken_85 {g : GT} {d : Nat} (hd : 3 ≤ d + 1) {K85 : Nat → fM → Prop} {φ : fM → Prop} (hK85 : ∀ (p0 : Nat) (M : fM), K85 p0 M → FW g mtX11_nextToken (d + 1) 85 [(0, .ref p0)] [] M 0 0 (rV φ)) {p0 : Nat} {M : fM} (h : b_X11_nextToken_85 K85 φ p0 M) : FW g mtX11_nextToken (d + 1) 85 [(0, .ref p0)] [] M 0 0 (rV φ) := by
  unfold b_X11_nextToken_85 at h
  refine fw_aload_n (i := 0) 0 rfl (show decode _ _ = .ok (.aload_n 0, 1) by decide +kernel) ?_
  refine fw_aload_n (i := 0) 0 rfl (show decode _ _ = .ok (.aload_n 0, 1) by decide +kernel) ?_
  obtain ⟨⟨hr70, n69, hs71⟩, h_1⟩ := h
  refine fw_getI (kd := 11) (k := 7) (show decode _ _ = .ok (.getfield 98, 3) by decide +kernel) gf_X11_98 hr70 hs71 (Or.inl rfl) ?_
  refine fw_callV (mt' := mtX11_byteAt) (mc := 0) (ms := 0) (As := [.int (mI M p0 7)]) (rest := []) 1 11 n69 (show decode _ _ = .ok (.invokevirtual 101, 3) by decide +kernel) cv_X11_101 ⟨_, rfl, rfl⟩ hr70 hs71 rfl (Nat.le_of_ble_eq_true rfl) (s_X11_byteAt (d := d) (hd_le hd (by decide)) h_1) (by decide) (by decide) (kI (bc' := 0) (bs' := 0) (by decide) (by decide) (fun x73 M72 h_2 => ?_))
  refine fw_callS (mt' := mtX11_isDigit) (mc := 0) (ms := 0) (As := [.int x73]) (rest := []) 1 (show decode _ _ = .ok (.invokestatic 110, 3) by decide +kernel) cs_X11_110 rfl (Nat.le_of_ble_eq_true rfl) (s_X11_isDigit (d := d) (hd_le hd (by decide)) h_2) (by decide) (by decide) (kI (bc' := 0) (bs' := 0) (by decide) (by decide) (fun x75 M74 h_3 => ?_))
  refine fw_if_eq 408 (show decode _ _ = .ok (.ifCond .eq 312, 3) by decide +kernel) (by decide) (fun hc89 => ?_) (fun hc89 => ?_)
  · have h_4 := ipos hc89 h_3
    exact fw_ret (v := none) .return_ (show decode _ _ = .ok (.return_, 1) by decide +kernel) ⟨rfl, rfl⟩ ⟨rfl, h_4⟩
  · have h_5 := ineg hc89 h_3
    refine fw_aload_n (i := 0) 0 rfl (show decode _ _ = .ok (.aload_n 0, 1) by decide +kernel) ?_
    obtain ⟨⟨hr77, n76, hs78⟩, h_6⟩ := h_5
    refine fw_getI (kd := 11) (k := 10) (show decode _ _ = .ok (.getfield 113, 3) by decide +kernel) gf_X11_113 hr77 hs78 (Or.inl rfl) ?_
    refine fw_ldc (idx := 116) (v := (100000 : Int32)) (show decode _ _ = .ok (.ldc 116, 2) by decide +kernel) wd1570 ?_
    refine fw_icmp_ge 131 (show decode _ _ = .ok (.if_icmp .ge 26, 3) by decide +kernel) (by decide) (fun hc88 => ?_) (fun hc88 => ?_)
    · have h_7 := ipos hc88 h_6
      refine FW.sub [0] (ls' := [(0, .ref p0)]) rfl ?_
      exact sj_X11_nextToken_131 hd hK85 h_7
    · have h_8 := ineg hc88 h_6
      refine fw_aload_n (i := 0) 0 rfl (show decode _ _ = .ok (.aload_n 0, 1) by decide +kernel) ?_
      refine fw_bipush (v := (10 : Int32)) (show decode _ _ = .ok (.bipush 10, 2) by decide +kernel) (by decide) ?_
      refine fw_aload_n (i := 0) 0 rfl (show decode _ _ = .ok (.aload_n 0, 1) by decide +kernel) ?_
      refine fw_getI (kd := 11) (k := 10) (show decode _ _ = .ok (.getfield 113, 3) by decide +kernel) gf_X11_113 hr77 hs78 (Or.inl rfl) ?_
      refine fw_imul (show decode _ _ = .ok (.imul, 1) by decide +kernel) ?_
      refine fw_aload_n (i := 0) 0 rfl (show decode _ _ = .ok (.aload_n 0, 1) by decide +kernel) ?_
      refine fw_aload_n (i := 0) 0 rfl (show decode _ _ = .ok (.aload_n 0, 1) by decide +kernel) ?_
      refine fw_getI (kd := 11) (k := 7) (show decode _ _ = .ok (.getfield 98, 3) by decide +kernel) gf_X11_98 hr77 hs78 (Or.inl rfl) ?_
      refine fw_callV (mt' := mtX11_byteAt) (mc := 0) (ms := 0) (As := [.int (mI M74 p0 7)]) (rest := [.int ((10 : Int32) * (mI M74 p0 10)), .ref p0]) 1 11 n76 (show decode _ _ = .ok (.invokevirtual 101, 3) by decide +kernel) cv_X11_101 ⟨_, rfl, rfl⟩ hr77 hs78 rfl (Nat.le_of_ble_eq_true rfl) (s_X11_byteAt (d := d) (hd_le hd (by decide)) h_8) (by decide) (by decide) (kI (bc' := 0) (bs' := 0) (by decide) (by decide) (fun x80 M79 h_9 => ?_))
      refine fw_iadd (show decode _ _ = .ok (.iadd, 1) by decide +kernel) ?_
      refine fw_bipush (v := (48 : Int32)) (show decode _ _ = .ok (.bipush 48, 2) by decide +kernel) (by decide) ?_
      refine fw_isub (show decode _ _ = .ok (.isub, 1) by decide +kernel) ?_
      refine fw_nmI (fun x81 ex82 => ?_)
      have h_10 := h_9 x81 ex82
      obtain ⟨⟨hr84, n83, hs85⟩, h_11⟩ := h_10
      refine fw_putI (kd := 11) (k := 10) (show decode _ _ = .ok (.putfield 113, 3) by decide +kernel) ⟨gf_X11_113, _, rfl, Or.inl rfl⟩ hr84 hs85 rfl ?_
      refine FW.nmM (fun M86 eM87 => ?_)
      have h_12 := h_11 M86 eM87
      refine FW.sub [0] (ls' := [(0, .ref p0)]) rfl ?_
      exact sj_X11_nextToken_131 hd hK85 h_12
theorem sl_X11_nextToken_85 {g : GT} {d : Nat} (hd : 3 ≤ d + 1) {φ : fM → Prop} : ∀ (n : Nat) {p0 : Nat} {M : fM}, l_X11_nextToken_85 φ n p0 M → FW g mtX11_nextToken (d + 1) 85 [(0, .ref p0)] [] M 0 0 (rV φ)
  | 0 => fun h => h.elim
  | n + 1 => fun h => sb_X11_nextToken_85 hd (fun _ _ h => sl_X11_nextToken_85 hd n h) h
def j_X11_nextToken_26 (K0 : Nat → fM → Prop) (φ : fM → Prop) (p0 : Nat) (M : fM) : Prop := isO M p0 11 ∧ nm ((mI M p0 7) + (1 : Int32)) fun x93 => st (wI M p0 7 x93) fun M95 => K0 p0 M95
set_option maxRecDepth 100000 in
theorem sj_X11_nextToken_26 {g : GT} {d : Nat} (hd : 3 ≤ d + 1) {K0 : Nat → fM → Prop} {φ : fM → Prop} (hK0 : ∀ (p0 : Nat) (M : fM), K0 p0 M → FW g mtX11_nextToken (d + 1) 0 [(0, .ref p0)] [] M 0 0 (rV φ)) {p0 : Nat} {M : fM} (h : j_X11_nextToken_26 K0 φ p0 M) : FW g mtX11_nextToken (d + 1) 26 [(0, .ref p0)] [] M 0 0 (rV φ) := by
  unfold j_X11_nextToken_26 at h
  refine fw_aload_n (i := 0) 0 rfl (show decode _ _ = .ok (.aload_n 0, 1) by decide +kernel) ?_
  refine fw_dup (show decode _ _ = .ok (.dup, 1) by decide +kernel) rfl ?_
  obtain ⟨⟨hr91, n90, hs92⟩, h_1⟩ := h
  refine fw_getI (kd := 11) (k := 7) (show decode _ _ = .ok (.getfield 98, 3) by decide +kernel) gf_X11_98 hr91 hs92 (Or.inl rfl) ?_
  refine fw_iconst (v := (1 : Int32)) (show decode _ _ = .ok (.iconst 1, 1) by decide +kernel) (by decide) ?_
  refine fw_iadd (show decode _ _ = .ok (.iadd, 1) by decide +kernel) ?_
  refine fw_nmI (fun x93 ex94 => ?_)
  have h_2 := h_1 x93 ex94
  refine fw_putI (kd := 11) (k := 7) (show decode _ _ = .ok (.putfield 98, 3) by decide +kernel) ⟨gf_X11_98, _, rfl, Or.inl rfl⟩ hr91 hs92 rfl ?_
  refine FW.nmM (fun M95 eM96 => ?_)
  have h_3 := h_2 M95 eM96
  refine fw_goto 0 (show decode _ _ = .ok (.goto (-36), 3) by decide +kernel) (by decide) ?_
  refine FW.sub [0] (ls' := [(0, .ref p0)]) rfl ?_
  exact hK0 _ _ h_3
def b_X11_nextToken_0 (K0 : Nat → fM → Prop) (φ : fM → Prop) (p0 : Nat) (M : fM) : Prop := isO M p0 11 ∧ w_X11_byteAt p0 (mI M p0 7) M fun x101 M100 => iF (x101 = (32 : Int32)) (j_X11_nextToken_26 K0 φ p0 M100) (isO M100 p0 11 ∧ w_X11_byteAt p0 (mI M100 p0 7) M100 fun x106 M105 => iF (x106 = (10 : Int32)) (j_X11_nextToken_26 K0 φ p0 M105) (isO M105 p0 11 ∧ nm (mI M105 p0 7) fun x110 => st (wI M105 p0 8 x110) fun M112 => w_X11_byteAt p0 (mI M112 p0 7) M112 fun x115 M114 => iF (0 ≤ x115) (w_X11_isDigit x115 M114 fun x117 M116 => iF (x117 = 0) (w_X11_isLetter x115 M116 fun x119 M118 => iF (x119 = 0) (isO M118 p0 11 ∧ nm ((mI M118 p0 7) + (1 : Int32)) fun x123 => st (wI M118 p0 7 x123) fun M125 => iF (x115 = (60 : Int32)) (j_X11_nextToken_339 φ p0 x115 M125) (iF (x115 = (62 : Int32)) (j_X11_nextToken_339 φ p0 x115 M125) (iF (x115 = (61 : Int32)) (j_X11_nextToken_339 φ p0 x115 M125) (iF (x115 = (35 : Int32)) (j_X11_nextToken_339 φ p0 x115 M125) (iF (x115 = (43 : Int32)) (j_X11_nextToken_339 φ p0 x115 M125) (iF (x115 = (45 : Int32)) (j_X11_nextToken_339 φ p0 x115 M125) (iF (x115 = (42 : Int32)) (j_X11_nextToken_339 φ p0 x115 M125) (iF (x115 = (47 : Int32)) (j_X11_nextToken_339 φ p0 x115 M125) (iF (x115 = (40 : Int32)) (j_X11_nextToken_339 φ p0 x115 M125) (iF (x115 = (41 : Int32)) (j_X11_nextToken_339 φ p0 x115 M125) (iF (x115 = (59 : Int32)) (j_X11_nextToken_339 φ p0 x115 M125) (iF (x115 = (44 : Int32)) (j_X11_nextToken_339 φ p0 x115 M125) (iF (x115 = (63 : Int32)) (j_X11_nextToken_339 φ p0 x115 M125) (iF (x115 = (58 : Int32)) (j_X11_nextToken_339 φ p0 x115 M125) (j_X11_nextToken_344 φ p0 x115 (0 : Int32) M125))))))))))))))) (isO M118 p0 11 ∧ st (wI M118 p0 9 (2 : Int32)) fun M144 => st (wJ M144 p0 11 (0 : Int64)) fun M146 => ∃ n, l_X11_nextToken_161 φ n p0 M146)) (isO M116 p0 11 ∧ st (wI M116 p0 9 (1 : Int32)) fun M152 => st (wI M152 p0 10 (0 : Int32)) fun M154 => ∃ n, l_X11_nextToken_85 φ n p0 M154)) (isO M114 p0 11 ∧ st (wI M114 p0 9 (0 : Int32)) fun M160 => φ M160)))
def l_X11_nextToken_0 (φ : fM → Prop) : Nat → Nat → fM → Prop
  | 0, _, _ => False
  | n + 1, p0, M => b_X11_nextToken_0 (l_X11_nextToken_0 φ n) φ p0 M
set_option maxRecDepth 100000 in
theorem sb_X11_nextToken_0 {g : GT} {d : Nat} (hd : 3 ≤ d + 1) {K0 : Nat → fM → Prop} {φ : fM → Prop} (hK0 : ∀ (p0 : Nat) (M : fM), K0 p0 M → FW g mtX11_nextToken (d + 1) 0 [(0, .ref p0)] [] M 0 0 (rV φ)) {p0 : Nat} {M : fM} (h : b_X11_nextToken_0 K0 φ p0 M) : FW g mtX11_nextToken (d + 1) 0 [(0, .ref p0)] [] M 0 0 (rV φ) := by
  unfold b_X11_nextToken_0 at h
  refine fw_aload_n (i := 0) 0 rfl (show decode _ _ = .ok (.aload_n 0, 1) by decide +kernel) ?_
  refine fw_aload_n (i := 0) 0 rfl (show decode _ _ = .ok (.aload_n 0, 1) by decide +kernel) ?_
  obtain ⟨⟨hr98, n97, hs99⟩, h_1⟩ := h
  refine fw_getI (kd := 11) (k := 7) (show decode _ _ = .ok (.getfield 98, 3) by decide +kernel) gf_X11_98 hr98 hs99 (Or.inl rfl) ?_
  refine fw_callV (mt' := mtX11_byteAt) (mc := 0) (ms := 0) (As := [.int (mI M p0 7)]) (rest := []) 1 11 n97 (show decode _ _ = .ok (.invokevirtual 101, 3) by decide +kernel) cv_X11_101 ⟨_, rfl, rfl⟩ hr98 hs99 rfl (Nat.le_of_ble_eq_true rfl) (s_X11_byteAt (d := d) (hd_le hd (by decide)) h_1) (by decide) (by decide) (kI (bc' := 0) (bs' := 0) (by decide) (by decide) (fun x101 M100 h_2 => ?_))
  refine fw_bipush (v := (32 : Int32)) (show decode _ _ = .ok (.bipush 32, 2) by decide +kernel) (by decide) ?_
  refine fw_icmp_eq 26 (show decode _ _ = .ok (.if_icmp .eq 16, 3) by decide +kernel) (by decide) (fun hc164 => ?_) (fun hc164 => ?_)
  · have h_3 := ipos hc164 h_2
    refine FW.sub [0] (ls' := [(0, .ref p0)]) rfl ?_
    exact sj_X11_nextToken_26 hd hK0 h_3
  · have h_4 := ineg hc164 h_2
    refine fw_aload_n (i := 0) 0 rfl (show decode _ _ = .ok (.aload_n 0, 1) by decide +kernel) ?_
    refine fw_aload_n (i := 0) 0 rfl (show decode _ _ = .ok (.aload_n 0, 1) by decide +kernel) ?_
    obtain ⟨⟨hr103, n102, hs104⟩, h_5⟩ := h_4
    refine fw_getI (kd := 11) (k := 7) (show decode _ _ = .ok (.getfield 98, 3) by decide +kernel) gf_X11_98 hr103 hs104 (Or.inl rfl) ?_
    refine fw_callV (mt' := mtX11_byteAt) (mc := 0) (ms := 0) (As := [.int (mI M100 p0 7)]) (rest := []) 1 11 n102 (show decode _ _ = .ok (.invokevirtual 101, 3) by decide +kernel) cv_X11_101 ⟨_, rfl, rfl⟩ hr103 hs104 rfl (Nat.le_of_ble_eq_true rfl) (s_X11_byteAt (d := d) (hd_le hd (by decide)) h_5) (by decide) (by decide) (kI (bc' := 0) (bs' := 0) (by decide) (by decide) (fun x106 M105 h_6 => ?_))
    refine fw_bipush (v := (10 : Int32)) (show decode _ _ = .ok (.bipush 10, 2) by decide +kernel) (by decide) ?_
    refine fw_icmp_ne 39 (show decode _ _ = .ok (.if_icmp .ne 16, 3) by decide +kernel) (by decide) (fun hc163 => ?_) (fun hc163 => ?_)
    · have h_7 := ineg hc163 h_6
      refine fw_aload_n (i := 0) 0 rfl (show decode _ _ = .ok (.aload_n 0, 1) by decide +kernel) ?_
      refine fw_aload_n (i := 0) 0 rfl (show decode _ _ = .ok (.aload_n 0, 1) by decide +kernel) ?_
      obtain ⟨⟨hr108, n107, hs109⟩, h_8⟩ := h_7
      refine fw_getI (kd := 11) (k := 7) (show decode _ _ = .ok (.getfield 98, 3) by decide +kernel) gf_X11_98 hr108 hs109 (Or.inl rfl) ?_
      refine fw_nmI (fun x110 ex111 => ?_)
      have h_9 := h_8 x110 ex111
      refine fw_putI (kd := 11) (k := 8) (show decode _ _ = .ok (.putfield 104, 3) by decide +kernel) ⟨gf_X11_104, _, rfl, Or.inl rfl⟩ hr108 hs109 rfl ?_
      refine FW.nmM (fun M112 eM113 => ?_)
      have h_10 := h_9 M112 eM113
      refine fw_aload_n (i := 0) 0 rfl (show decode _ _ = .ok (.aload_n 0, 1) by decide +kernel) ?_
      refine fw_aload_n (i := 0) 0 rfl (show decode _ _ = .ok (.aload_n 0, 1) by decide +kernel) ?_
      refine fw_getI (kd := 11) (k := 7) (show decode _ _ = .ok (.getfield 98, 3) by decide +kernel) gf_X11_98 hr108 (mSw_I eM113 hs109) (Or.inl rfl) ?_
      refine fw_callV (mt' := mtX11_byteAt) (mc := 0) (ms := 0) (As := [.int (mI M112 p0 7)]) (rest := []) 1 11 n107 (show decode _ _ = .ok (.invokevirtual 101, 3) by decide +kernel) cv_X11_101 ⟨_, rfl, rfl⟩ hr108 (mSw_I eM113 hs109) rfl (Nat.le_of_ble_eq_true rfl) (s_X11_byteAt (d := d) (hd_le hd (by decide)) h_10) (by decide) (by decide) (kI (bc' := 0) (bs' := 0) (by decide) (by decide) (fun x115 M114 h_11 => ?_))
      refine fw_istore_n (i := 1) (ls' := [(1, .int x115), (0, .ref p0)]) (show decode _ _ = .ok (.istore_n 1, 1) by decide +kernel) (by decide) rfl ?_
      refine fw_iload_n (i := 1) 0 rfl (show decode _ _ = .ok (.iload_n 1, 1) by decide +kernel) ?_
      refine fw_if_ge 68 (show decode _ _ = .ok (.ifCond .ge 11, 3) by decide +kernel) (by decide) (fun hc162 => ?_) (fun hc162 => ?_)
      · have h_12 := ipos hc162 h_11
        refine fw_iload_n (i := 1) 0 rfl (show decode _ _ = .ok (.iload_n 1, 1) by decide +kernel) ?_
        refine fw_callS (mt' := mtX11_isDigit) (mc := 0) (ms := 0) (As := [.int x115]) (rest := []) 1 (show decode _ _ = .ok (.invokestatic 110, 3) by decide +kernel) cs_X11_110 rfl (Nat.le_of_ble_eq_true rfl) (s_X11_isDigit (d := d) (hd_le hd (by decide)) h_12) (by decide) (by decide) (kI (bc' := 0) (bs' := 0) (by decide) (by decide) (fun x117 M116 h_13 => ?_))
        refine fw_if_eq 144 (show decode _ _ = .ok (.ifCond .eq 72, 3) by decide +kernel) (by decide) (fun hc156 => ?_) (fun hc156 => ?_)
        · have h_14 := ipos hc156 h_13
          refine fw_iload_n (i := 1) 0 rfl (show decode _ _ = .ok (.iload_n 1, 1) by decide +kernel) ?_
          refine fw_callS (mt' := mtX11_isLetter) (mc := 0) (ms := 0) (As := [.int x115]) (rest := []) 1 (show decode _ _ = .ok (.invokestatic 117, 3) by decide +kernel) cs_X11_117 rfl (Nat.le_of_ble_eq_true rfl) (s_X11_isLetter (d := d) (hd_le hd (by decide)) h_14) (by decide) (by decide) (kI (bc' := 0) (bs' := 0) (by decide) (by decide) (fun x119 M118 h_15 => ?_))
          refine fw_if_eq 245 (show decode _ _ = .ok (.ifCond .eq 97, 3) by decide +kernel) (by decide) (fun hc148 => ?_) (fun hc148 => ?_)
          · have h_16 := ipos hc148 h_15
            refine fw_aload_n (i := 0) 1 rfl (show decode _ _ = .ok (.aload_n 0, 1) by decide +kernel) ?_
            refine fw_dup (show decode _ _ = .ok (.dup, 1) by decide +kernel) rfl ?_
            obtain ⟨⟨hr121, n120, hs122⟩, h_17⟩ := h_16
            refine fw_getI (kd := 11) (k := 7) (show decode _ _ = .ok (.getfield 98, 3) by decide +kernel) gf_X11_98 hr121 hs122 (Or.inl rfl) ?_
            refine fw_iconst (v := (1 : Int32)) (show decode _ _ = .ok (.iconst 1, 1) by decide +kernel) (by decide) ?_
            refine fw_iadd (show decode _ _ = .ok (.iadd, 1) by decide +kernel) ?_
            refine fw_nmI (fun x123 ex124 => ?_)
            have h_18 := h_17 x123 ex124
            refine fw_putI (kd := 11) (k := 7) (show decode _ _ = .ok (.putfield 98, 3) by decide +kernel) ⟨gf_X11_98, _, rfl, Or.inl rfl⟩ hr121 hs122 rfl ?_
            refine FW.nmM (fun M125 eM126 => ?_)
            have h_19 := h_18 M125 eM126
            refine fw_iload_n (i := 1) 0 rfl (show decode _ _ = .ok (.iload_n 1, 1) by decide +kernel) ?_
            refine fw_bipush (v := (60 : Int32)) (show decode _ _ = .ok (.bipush 60, 2) by decide +kernel) (by decide) ?_
            refine fw_icmp_eq 339 (show decode _ _ = .ok (.if_icmp .eq 81, 3) by decide +kernel) (by decide) (fun hc140 => ?_) (fun hc140 => ?_)
            · have h_20 := ipos hc140 h_19
              refine FW.sub [1, 0] (ls' := [(0, .ref p0), (1, .int x115)]) rfl ?_
              exact sj_X11_nextToken_339 hd h_20
            · have h_21 := ineg hc140 h_19
              refine fw_iload_n (i := 1) 0 rfl (show decode _ _ = .ok (.iload_n 1, 1) by decide +kernel) ?_
              refine fw_bipush (v := (62 : Int32)) (show decode _ _ = .ok (.bipush 62, 2) by decide +kernel) (by decide) ?_
              refine fw_icmp_eq 339 (show decode _ _ = .ok (.if_icmp .eq 75, 3) by decide +kernel) (by decide) (fun hc139 => ?_) (fun hc139 => ?_)
              · have h_22 := ipos hc139 h_21
                refine FW.sub [1, 0] (ls' := [(0, .ref p0), (1, .int x115)]) rfl ?_
                exact sj_X11_nextToken_339 hd h_22
              · have h_23 := ineg hc139 h_21
                refine fw_iload_n (i := 1) 0 rfl (show decode _ _ = .ok (.iload_n 1, 1) by decide +kernel) ?_
                refine fw_bipush (v := (61 : Int32)) (show decode _ _ = .ok (.bipush 61, 2) by decide +kernel) (by decide) ?_
                refine fw_icmp_eq 339 (show decode _ _ = .ok (.if_icmp .eq 69, 3) by decide +kernel) (by decide) (fun hc138 => ?_) (fun hc138 => ?_)
                · have h_24 := ipos hc138 h_23
                  refine FW.sub [1, 0] (ls' := [(0, .ref p0), (1, .int x115)]) rfl ?_
                  exact sj_X11_nextToken_339 hd h_24
                · have h_25 := ineg hc138 h_23
                  refine fw_iload_n (i := 1) 0 rfl (show decode _ _ = .ok (.iload_n 1, 1) by decide +kernel) ?_
                  refine fw_bipush (v := (35 : Int32)) (show decode _ _ = .ok (.bipush 35, 2) by decide +kernel) (by decide) ?_
                  refine fw_icmp_eq 339 (show decode _ _ = .ok (.if_icmp .eq 63, 3) by decide +kernel) (by decide) (fun hc137 => ?_) (fun hc137 => ?_)
                  · have h_26 := ipos hc137 h_25
                    refine FW.sub [1, 0] (ls' := [(0, .ref p0), (1, .int x115)]) rfl ?_
                    exact sj_X11_nextToken_339 hd h_26
                  · have h_27 := ineg hc137 h_25
                    refine fw_iload_n (i := 1) 0 rfl (show decode _ _ = .ok (.iload_n 1, 1) by decide +kernel) ?_
                    refine fw_bipush (v := (43 : Int32)) (show decode _ _ = .ok (.bipush 43, 2) by decide +kernel) (by decide) ?_
                    refine fw_icmp_eq 339 (show decode _ _ = .ok (.if_icmp .eq 57, 3) by decide +kernel) (by decide) (fun hc136 => ?_) (fun hc136 => ?_)
                    · have h_28 := ipos hc136 h_27
                      refine FW.sub [1, 0] (ls' := [(0, .ref p0), (1, .int x115)]) rfl ?_
                      exact sj_X11_nextToken_339 hd h_28
                    · have h_29 := ineg hc136 h_27
                      refine fw_iload_n (i := 1) 0 rfl (show decode _ _ = .ok (.iload_n 1, 1) by decide +kernel) ?_
                      refine fw_bipush (v := (45 : Int32)) (show decode _ _ = .ok (.bipush 45, 2) by decide +kernel) (by decide) ?_
                      refine fw_icmp_eq 339 (show decode _ _ = .ok (.if_icmp .eq 51, 3) by decide +kernel) (by decide) (fun hc135 => ?_) (fun hc135 => ?_)
                      · have h_30 := ipos hc135 h_29
                        refine FW.sub [1, 0] (ls' := [(0, .ref p0), (1, .int x115)]) rfl ?_
                        exact sj_X11_nextToken_339 hd h_30
                      · have h_31 := ineg hc135 h_29
                        refine fw_iload_n (i := 1) 0 rfl (show decode _ _ = .ok (.iload_n 1, 1) by decide +kernel) ?_
                        refine fw_bipush (v := (42 : Int32)) (show decode _ _ = .ok (.bipush 42, 2) by decide +kernel) (by decide) ?_
                        refine fw_icmp_eq 339 (show decode _ _ = .ok (.if_icmp .eq 45, 3) by decide +kernel) (by decide) (fun hc134 => ?_) (fun hc134 => ?_)
                        · have h_32 := ipos hc134 h_31
                          refine FW.sub [1, 0] (ls' := [(0, .ref p0), (1, .int x115)]) rfl ?_
                          exact sj_X11_nextToken_339 hd h_32
                        · have h_33 := ineg hc134 h_31
                          refine fw_iload_n (i := 1) 0 rfl (show decode _ _ = .ok (.iload_n 1, 1) by decide +kernel) ?_
                          refine fw_bipush (v := (47 : Int32)) (show decode _ _ = .ok (.bipush 47, 2) by decide +kernel) (by decide) ?_
                          refine fw_icmp_eq 339 (show decode _ _ = .ok (.if_icmp .eq 39, 3) by decide +kernel) (by decide) (fun hc133 => ?_) (fun hc133 => ?_)
                          · have h_34 := ipos hc133 h_33
                            refine FW.sub [1, 0] (ls' := [(0, .ref p0), (1, .int x115)]) rfl ?_
                            exact sj_X11_nextToken_339 hd h_34
                          · have h_35 := ineg hc133 h_33
                            refine fw_iload_n (i := 1) 0 rfl (show decode _ _ = .ok (.iload_n 1, 1) by decide +kernel) ?_
                            refine fw_bipush (v := (40 : Int32)) (show decode _ _ = .ok (.bipush 40, 2) by decide +kernel) (by decide) ?_
                            refine fw_icmp_eq 339 (show decode _ _ = .ok (.if_icmp .eq 33, 3) by decide +kernel) (by decide) (fun hc132 => ?_) (fun hc132 => ?_)
                            · have h_36 := ipos hc132 h_35
                              refine FW.sub [1, 0] (ls' := [(0, .ref p0), (1, .int x115)]) rfl ?_
                              exact sj_X11_nextToken_339 hd h_36
                            · have h_37 := ineg hc132 h_35
                              refine fw_iload_n (i := 1) 0 rfl (show decode _ _ = .ok (.iload_n 1, 1) by decide +kernel) ?_
                              refine fw_bipush (v := (41 : Int32)) (show decode _ _ = .ok (.bipush 41, 2) by decide +kernel) (by decide) ?_
                              refine fw_icmp_eq 339 (show decode _ _ = .ok (.if_icmp .eq 27, 3) by decide +kernel) (by decide) (fun hc131 => ?_) (fun hc131 => ?_)
                              · have h_38 := ipos hc131 h_37
                                refine FW.sub [1, 0] (ls' := [(0, .ref p0), (1, .int x115)]) rfl ?_
                                exact sj_X11_nextToken_339 hd h_38
                              · have h_39 := ineg hc131 h_37
                                refine fw_iload_n (i := 1) 0 rfl (show decode _ _ = .ok (.iload_n 1, 1) by decide +kernel) ?_
                                refine fw_bipush (v := (59 : Int32)) (show decode _ _ = .ok (.bipush 59, 2) by decide +kernel) (by decide) ?_
                                refine fw_icmp_eq 339 (show decode _ _ = .ok (.if_icmp .eq 21, 3) by decide +kernel) (by decide) (fun hc130 => ?_) (fun hc130 => ?_)
                                · have h_40 := ipos hc130 h_39
                                  refine FW.sub [1, 0] (ls' := [(0, .ref p0), (1, .int x115)]) rfl ?_
                                  exact sj_X11_nextToken_339 hd h_40
                                · have h_41 := ineg hc130 h_39
                                  refine fw_iload_n (i := 1) 0 rfl (show decode _ _ = .ok (.iload_n 1, 1) by decide +kernel) ?_
                                  refine fw_bipush (v := (44 : Int32)) (show decode _ _ = .ok (.bipush 44, 2) by decide +kernel) (by decide) ?_
                                  refine fw_icmp_eq 339 (show decode _ _ = .ok (.if_icmp .eq 15, 3) by decide +kernel) (by decide) (fun hc129 => ?_) (fun hc129 => ?_)
                                  · have h_42 := ipos hc129 h_41
                                    refine FW.sub [1, 0] (ls' := [(0, .ref p0), (1, .int x115)]) rfl ?_
                                    exact sj_X11_nextToken_339 hd h_42
                                  · have h_43 := ineg hc129 h_41
                                    refine fw_iload_n (i := 1) 0 rfl (show decode _ _ = .ok (.iload_n 1, 1) by decide +kernel) ?_
                                    refine fw_bipush (v := (63 : Int32)) (show decode _ _ = .ok (.bipush 63, 2) by decide +kernel) (by decide) ?_
                                    refine fw_icmp_eq 339 (show decode _ _ = .ok (.if_icmp .eq 9, 3) by decide +kernel) (by decide) (fun hc128 => ?_) (fun hc128 => ?_)
                                    · have h_44 := ipos hc128 h_43
                                      refine FW.sub [1, 0] (ls' := [(0, .ref p0), (1, .int x115)]) rfl ?_
                                      exact sj_X11_nextToken_339 hd h_44
                                    · have h_45 := ineg hc128 h_43
                                      refine fw_iload_n (i := 1) 0 rfl (show decode _ _ = .ok (.iload_n 1, 1) by decide +kernel) ?_
                                      refine fw_bipush (v := (58 : Int32)) (show decode _ _ = .ok (.bipush 58, 2) by decide +kernel) (by decide) ?_
                                      refine fw_icmp_ne 343 (show decode _ _ = .ok (.if_icmp .ne 7, 3) by decide +kernel) (by decide) (fun hc127 => ?_) (fun hc127 => ?_)
                                      · have h_46 := ineg hc127 h_45
                                        refine fw_iconst (v := (0 : Int32)) (show decode _ _ = .ok (.iconst 0, 1) by decide +kernel) (by decide) ?_
                                        refine FW.sub [1, 0] (ls' := [(0, .ref p0), (1, .int x115)]) rfl ?_
                                        exact sj_X11_nextToken_344 hd h_46
                                      · have h_47 := ipos hc127 h_45
                                        refine FW.sub [1, 0] (ls' := [(0, .ref p0), (1, .int x115)]) rfl ?_
                                        exact sj_X11_nextToken_339 hd h_47
          · have h_48 := ineg hc148 h_15
            refine fw_aload_n (i := 0) 1 rfl (show decode _ _ = .ok (.aload_n 0, 1) by decide +kernel) ?_
            refine fw_iconst (v := (2 : Int32)) (show decode _ _ = .ok (.iconst 2, 1) by decide +kernel) (by decide) ?_
            obtain ⟨⟨hr142, n141, hs143⟩, h_49⟩ := h_48
            refine fw_putI (kd := 11) (k := 9) (show decode _ _ = .ok (.putfield 107, 3) by decide +kernel) ⟨gf_X11_107, _, rfl, Or.inl rfl⟩ hr142 hs143 rfl ?_
            refine FW.nmM (fun M144 eM145 => ?_)
            have h_50 := h_49 M144 eM145
            refine fw_aload_n (i := 0) 1 rfl (show decode _ _ = .ok (.aload_n 0, 1) by decide +kernel) ?_
            refine fw_lconst (v := (0 : Int64)) (show decode _ _ = .ok (.lconst 0, 1) by decide +kernel) (by decide) ?_
            refine fw_putJ (kd := 11) (k := 11) (show decode _ _ = .ok (.putfield 120, 3) by decide +kernel) ⟨gf_X11_120, _, rfl, Or.inl rfl⟩ hr142 (mSw_I eM145 hs143) rfl ?_
            refine FW.nmM (fun M146 eM147 => ?_)
            have h_51 := h_50 M146 eM147
            refine FW.sub [1] (ls' := [(0, .ref p0)]) rfl ?_
            obtain ⟨nn, h_52⟩ := h_51
            exact sl_X11_nextToken_161 hd nn h_52
        · have h_53 := ineg hc156 h_13
          refine fw_aload_n (i := 0) 1 rfl (show decode _ _ = .ok (.aload_n 0, 1) by decide +kernel) ?_
          refine fw_iconst (v := (1 : Int32)) (show decode _ _ = .ok (.iconst 1, 1) by decide +kernel) (by decide) ?_
          obtain ⟨⟨hr150, n149, hs151⟩, h_54⟩ := h_53
          refine fw_putI (kd := 11) (k := 9) (show decode _ _ = .ok (.putfield 107, 3) by decide +kernel) ⟨gf_X11_107, _, rfl, Or.inl rfl⟩ hr150 hs151 rfl ?_
          refine FW.nmM (fun M152 eM153 => ?_)
          have h_55 := h_54 M152 eM153
          refine fw_aload_n (i := 0) 1 rfl (show decode _ _ = .ok (.aload_n 0, 1) by decide +kernel) ?_
          refine fw_iconst (v := (0 : Int32)) (show decode _ _ = .ok (.iconst 0, 1) by decide +kernel) (by decide) ?_
          refine fw_putI (kd := 11) (k := 10) (show decode _ _ = .ok (.putfield 113, 3) by decide +kernel) ⟨gf_X11_113, _, rfl, Or.inl rfl⟩ hr150 (mSw_I eM153 hs151) rfl ?_
          refine FW.nmM (fun M154 eM155 => ?_)
          have h_56 := h_55 M154 eM155
          refine FW.sub [1] (ls' := [(0, .ref p0)]) rfl ?_
          obtain ⟨nn, h_57⟩ := h_56
          exact sl_X11_nextToken_85 hd nn h_57
      · have h_58 := ineg hc162 h_11
        refine fw_aload_n (i := 0) 1 rfl (show decode _ _ = .ok (.aload_n 0, 1) by decide +kernel) ?_
        refine fw_iconst (v := (0 : Int32)) (show decode _ _ = .ok (.iconst 0, 1) by decide +kernel) (by decide) ?_
        obtain ⟨⟨hr158, n157, hs159⟩, h_59⟩ := h_58
        refine fw_putI (kd := 11) (k := 9) (show decode _ _ = .ok (.putfield 107, 3) by decide +kernel) ⟨gf_X11_107, _, rfl, Or.inl rfl⟩ hr158 hs159 rfl ?_
        refine FW.nmM (fun M160 eM161 => ?_)
        have h_60 := h_59 M160 eM161
        refine fw_goto 408 (show decode _ _ = .ok (.goto 343, 3) by decide +kernel) (by decide) ?_
        exact fw_ret (v := none) .return_ (show decode _ _ = .ok (.return_, 1) by decide +kernel) ⟨rfl, rfl⟩ ⟨rfl, h_60⟩
    · have h_61 := ipos hc163 h_6
      refine FW.sub [0] (ls' := [(0, .ref p0)]) rfl ?_
      exact sj_X11_nextToken_26 hd hK0 h_61
theorem sl_X11_nextToken_0 {g : GT} {d : Nat} (hd : 3 ≤ d + 1) {φ : fM → Prop} : ∀ (n : Nat) {p0 : Nat} {M : fM}, l_X11_nextToken_0 φ n p0 M → FW g mtX11_nextToken (d + 1) 0 [(0, .ref p0)] [] M 0 0 (rV φ)
  | 0 => fun h => h.elim
  | n + 1 => fun h => sb_X11_nextToken_0 hd (fun _ _ h => sl_X11_nextToken_0 hd n h) h
def w_X11_nextToken (p0 : Nat) (M : fM) (φ : fM → Prop) : Prop := ∃ n, l_X11_nextToken_0 φ n p0 M
set_option maxRecDepth 100000 in
theorem s_X11_nextToken {g : GT} {d : Nat} (hd : 3 ≤ d) {p0 : Nat} {M : fM} {φ : fM → Prop} (h : w_X11_nextToken p0 M φ) : FC g mtX11_nextToken d [.ref p0] M 0 0 (rV φ) := by
  obtain ⟨d, rfl⟩ : ∃ e, d = e + 1 := ⟨d - 1, by omega⟩
  unfold w_X11_nextToken at h
  refine FC.intro (nL := 3) (by decide) rfl (Nat.le_of_ble_eq_true rfl) ?_
  show FW g mtX11_nextToken (d + 1) 0 [(0, .ref p0)] [] M 0 0 (rV φ)
  refine FW.sub [0] (ls' := [(0, .ref p0)]) rfl ?_
  obtain ⟨nn, h_1⟩ := h
  exact sl_X11_nextToken_0 hd nn h_1
def w_X11_rank (p0 : Int32) (M : fM) (φ : Int32 → fM → Prop) : Prop := iF (p0 < (40 : Int32)) (iF (p0 = (22 : Int32)) (φ (1 : Int32) M) (iF (p0 = (21 : Int32)) (φ (2 : Int32) M) (iF (p0 = (20 : Int32)) (φ (3 : Int32) M) (iF (p0 < (10 : Int32)) (iF (p0 = (3 : Int32)) (φ (7 : Int32) M) (iF (p0 < (6 : Int32)) (φ (5 : Int32) M) (φ (6 : Int32) M))) (φ (4 : Int32) M))))) (φ (0 : Int32) M)
set_option maxRecDepth 100000 in
theorem s_X11_rank {g : GT} {d : Nat} (hd : 1 ≤ d) {p0 : Int32} {M : fM} {φ : Int32 → fM → Prop} (h : w_X11_rank p0 M φ) : FC g mtX11_rank d [.int p0] M 0 0 (rI φ) := by
  obtain ⟨d, rfl⟩ : ∃ e, d = e + 1 := ⟨d - 1, by omega⟩
  unfold w_X11_rank at h
  refine FC.intro (nL := 1) (by decide) rfl (Nat.le_of_ble_eq_true rfl) ?_
  show FW g mtX11_rank (d + 1) 0 [(0, .int p0)] [] M 0 0 (rI φ)
  refine fw_iload_n (i := 0) 0 rfl (show decode _ _ = .ok (.iload_n 0, 1) by decide +kernel) ?_
  refine fw_bipush (v := (40 : Int32)) (show decode _ _ = .ok (.bipush 40, 2) by decide +kernel) (by decide) ?_
  refine fw_icmp_lt 10 (show decode _ _ = .ok (.if_icmp .lt 7, 3) by decide +kernel) (by decide) (fun hc7 => ?_) (fun hc7 => ?_)
  · have h_1 := ipos hc7 h
    refine fw_iload_n (i := 0) 0 rfl (show decode _ _ = .ok (.iload_n 0, 1) by decide +kernel) ?_
    refine fw_bipush (v := (22 : Int32)) (show decode _ _ = .ok (.bipush 22, 2) by decide +kernel) (by decide) ?_
    refine fw_icmp_ne 20 (show decode _ _ = .ok (.if_icmp .ne 7, 3) by decide +kernel) (by decide) (fun hc6 => ?_) (fun hc6 => ?_)
    · have h_2 := ineg hc6 h_1
      refine fw_iload_n (i := 0) 0 rfl (show decode _ _ = .ok (.iload_n 0, 1) by decide +kernel) ?_
      refine fw_bipush (v := (21 : Int32)) (show decode _ _ = .ok (.bipush 21, 2) by decide +kernel) (by decide) ?_
      refine fw_icmp_ne 30 (show decode _ _ = .ok (.if_icmp .ne 7, 3) by decide +kernel) (by decide) (fun hc5 => ?_) (fun hc5 => ?_)
      · have h_3 := ineg hc5 h_2
        refine fw_iload_n (i := 0) 0 rfl (show decode _ _ = .ok (.iload_n 0, 1) by decide +kernel) ?_
        refine fw_bipush (v := (20 : Int32)) (show decode _ _ = .ok (.bipush 20, 2) by decide +kernel) (by decide) ?_
        refine fw_icmp_ne 40 (show decode _ _ = .ok (.if_icmp .ne 7, 3) by decide +kernel) (by decide) (fun hc4 => ?_) (fun hc4 => ?_)
        · have h_4 := ineg hc4 h_3
          refine fw_iload_n (i := 0) 0 rfl (show decode _ _ = .ok (.iload_n 0, 1) by decide +kernel) ?_
          refine fw_bipush (v := (10 : Int32)) (show decode _ _ = .ok (.bipush 10, 2) by decide +kernel) (by decide) ?_
          refine fw_icmp_lt 50 (show decode _ _ = .ok (.if_icmp .lt 7, 3) by decide +kernel) (by decide) (fun hc3 => ?_) (fun hc3 => ?_)
          · have h_5 := ipos hc3 h_4
            refine fw_iload_n (i := 0) 0 rfl (show decode _ _ = .ok (.iload_n 0, 1) by decide +kernel) ?_
            refine fw_iconst (v := (3 : Int32)) (show decode _ _ = .ok (.iconst 3, 1) by decide +kernel) (by decide) ?_
            refine fw_icmp_ne 60 (show decode _ _ = .ok (.if_icmp .ne 8, 3) by decide +kernel) (by decide) (fun hc2 => ?_) (fun hc2 => ?_)
            · have h_6 := ineg hc2 h_5
              refine fw_iload_n (i := 0) 0 rfl (show decode _ _ = .ok (.iload_n 0, 1) by decide +kernel) ?_
              refine fw_bipush (v := (6 : Int32)) (show decode _ _ = .ok (.bipush 6, 2) by decide +kernel) (by decide) ?_
              refine fw_icmp_lt 71 (show decode _ _ = .ok (.if_icmp .lt 8, 3) by decide +kernel) (by decide) (fun hc1 => ?_) (fun hc1 => ?_)
              · have h_7 := ipos hc1 h_6
                refine fw_iconst (v := (5 : Int32)) (show decode _ _ = .ok (.iconst 5, 1) by decide +kernel) (by decide) ?_
                exact fw_ret (v := some (.int (5 : Int32))) .ireturn (show decode _ _ = .ok (.ireturn, 1) by decide +kernel) ⟨rfl, Or.inl rfl⟩ ⟨_, rfl, h_7⟩
              · have h_8 := ineg hc1 h_6
                refine fw_bipush (v := (6 : Int32)) (show decode _ _ = .ok (.bipush 6, 2) by decide +kernel) (by decide) ?_
                refine fw_goto 72 (show decode _ _ = .ok (.goto 4, 3) by decide +kernel) (by decide) ?_
                exact fw_ret (v := some (.int (6 : Int32))) .ireturn (show decode _ _ = .ok (.ireturn, 1) by decide +kernel) ⟨rfl, Or.inl rfl⟩ ⟨_, rfl, h_8⟩
            · have h_9 := ipos hc2 h_5
              refine fw_bipush (v := (7 : Int32)) (show decode _ _ = .ok (.bipush 7, 2) by decide +kernel) (by decide) ?_
              refine fw_goto 72 (show decode _ _ = .ok (.goto 15, 3) by decide +kernel) (by decide) ?_
              exact fw_ret (v := some (.int (7 : Int32))) .ireturn (show decode _ _ = .ok (.ireturn, 1) by decide +kernel) ⟨rfl, Or.inl rfl⟩ ⟨_, rfl, h_9⟩
          · have h_10 := ineg hc3 h_4
            refine fw_iconst (v := (4 : Int32)) (show decode _ _ = .ok (.iconst 4, 1) by decide +kernel) (by decide) ?_
            refine fw_goto 72 (show decode _ _ = .ok (.goto 25, 3) by decide +kernel) (by decide) ?_
            exact fw_ret (v := some (.int (4 : Int32))) .ireturn (show decode _ _ = .ok (.ireturn, 1) by decide +kernel) ⟨rfl, Or.inl rfl⟩ ⟨_, rfl, h_10⟩
        · have h_11 := ipos hc4 h_3
          refine fw_iconst (v := (3 : Int32)) (show decode _ _ = .ok (.iconst 3, 1) by decide +kernel) (by decide) ?_
          refine fw_goto 72 (show decode _ _ = .ok (.goto 35, 3) by decide +kernel) (by decide) ?_
          exact fw_ret (v := some (.int (3 : Int32))) .ireturn (show decode _ _ = .ok (.ireturn, 1) by decide +kernel) ⟨rfl, Or.inl rfl⟩ ⟨_, rfl, h_11⟩
      · have h_12 := ipos hc5 h_2
        refine fw_iconst (v := (2 : Int32)) (show decode _ _ = .ok (.iconst 2, 1) by decide +kernel) (by decide) ?_
        refine fw_goto 72 (show decode _ _ = .ok (.goto 45, 3) by decide +kernel) (by decide) ?_
        exact fw_ret (v := some (.int (2 : Int32))) .ireturn (show decode _ _ = .ok (.ireturn, 1) by decide +kernel) ⟨rfl, Or.inl rfl⟩ ⟨_, rfl, h_12⟩
    · have h_13 := ipos hc6 h_1
      refine fw_iconst (v := (1 : Int32)) (show decode _ _ = .ok (.iconst 1, 1) by decide +kernel) (by decide) ?_
      refine fw_goto 72 (show decode _ _ = .ok (.goto 55, 3) by decide +kernel) (by decide) ?_
      exact fw_ret (v := some (.int (1 : Int32))) .ireturn (show decode _ _ = .ok (.ireturn, 1) by decide +kernel) ⟨rfl, Or.inl rfl⟩ ⟨_, rfl, h_13⟩
  · have h_14 := ineg hc7 h
    refine fw_iconst (v := (0 : Int32)) (show decode _ _ = .ok (.iconst 0, 1) by decide +kernel) (by decide) ?_
    refine fw_goto 72 (show decode _ _ = .ok (.goto 65, 3) by decide +kernel) (by decide) ?_
    exact fw_ret (v := some (.int (0 : Int32))) .ireturn (show decode _ _ = .ok (.ireturn, 1) by decide +kernel) ⟨rfl, Or.inl rfl⟩ ⟨_, rfl, h_14⟩
