def j_X11_settle_76 (K0 : Nat → Int32 → fM → Prop) (φ : fM → Prop) (p0 : Nat) (p1 : Int32) (M : fM) : Prop := isO M p0 11 ∧ nm ((mI M p0 18) - (1 : Int32)) fun x4 => st (wI M p0 18 x4) fun M6 => K0 p0 p1 M6
set_option maxRecDepth 100000 in
theorem sj_X11_settle_76 {g : GT} {d : Nat} (hd : 2 ≤ d + 1) {K0 : Nat → Int32 → fM → Prop} {φ : fM → Prop} (hK0 : ∀ (p0 : Nat) (p1 : Int32) (M : fM), K0 p0 p1 M → FW g mtX11_settle (d + 1) 0 [(0, .ref p0), (1, .int p1)] [] M 0 0 (rV φ)) {p0 : Nat} {p1 : Int32} {M : fM} (h : j_X11_settle_76 K0 φ p0 p1 M) : FW g mtX11_settle (d + 1) 76 [(0, .ref p0), (1, .int p1)] [] M 0 0 (rV φ) := by
  unfold j_X11_settle_76 at h
  refine fw_aload_n (i := 0) 0 rfl (show decode _ _ = .ok (.aload_n 0, 1) by decide +kernel) ?_
  refine fw_dup (show decode _ _ = .ok (.dup, 1) by decide +kernel) rfl ?_
  obtain ⟨⟨hr2, n1, hs3⟩, h_1⟩ := h
  refine fw_getI (kd := 11) (k := 18) (show decode _ _ = .ok (.getfield 158, 3) by decide +kernel) gf_X11_158 hr2 hs3 (Or.inl rfl) ?_
  refine fw_iconst (v := (1 : Int32)) (show decode _ _ = .ok (.iconst 1, 1) by decide +kernel) (by decide) ?_
  refine fw_isub (show decode _ _ = .ok (.isub, 1) by decide +kernel) ?_
  refine fw_nmI (fun x4 ex5 => ?_)
  have h_2 := h_1 x4 ex5
  refine fw_putI (kd := 11) (k := 18) (show decode _ _ = .ok (.putfield 158, 3) by decide +kernel) ⟨gf_X11_158, _, rfl, Or.inl rfl⟩ hr2 hs3 rfl ?_
  refine FW.nmM (fun M6 eM7 => ?_)
  have h_3 := h_2 M6 eM7
  refine fw_goto 0 (show decode _ _ = .ok (.goto (-86), 3) by decide +kernel) (by decide) ?_
  refine FW.sub [0, 1] (ls' := [(0, .ref p0), (1, .int p1)]) rfl ?_
  exact hK0 _ _ _ h_3
def b_X11_settle_0 (K0 : Nat → Int32 → fM → Prop) (φ : fM → Prop) (p0 : Nat) (p1 : Int32) (M : fM) : Prop := isO M p0 11 ∧ iF ((mI M p0 17) ≤ 0) (φ M) (dR (mP M p0 16) fun y11 => inA M y11 12 ((mI M p0 17) - (1 : Int32)) ∧ w_X11_rank (mI M y11 (ix ((mI M p0 17) - (1 : Int32)))) M fun x17 M16 => iF (x17 < p1) (φ M16) (isO M16 p0 11 ∧ nm ((mI M16 p0 17) - (1 : Int32)) fun x21 => st (wI M16 p0 17 x21) fun M23 => dR (mP M23 p0 16) fun y25 => inA M23 y25 12 (mI M23 p0 17) ∧ w_X11_emit p0 (mI M23 y25 (ix (mI M23 p0 17))) (0 : Int32) M23 fun M30 => isO M30 p0 11 ∧ dR (mP M30 p0 16) fun y34 => inA M30 y34 12 (mI M30 p0 17) ∧ iF ((mI M30 y34 (ix (mI M30 p0 17))) = (3 : Int32)) (j_X11_settle_76 K0 φ p0 p1 M30) (dR (mP M30 p0 16) fun y39 => inA M30 y39 12 (mI M30 p0 17) ∧ iF ((mI M30 y39 (ix (mI M30 p0 17))) = (20 : Int32)) (j_X11_settle_76 K0 φ p0 p1 M30) (K0 p0 p1 M30))))
def l_X11_settle_0 (φ : fM → Prop) : Nat → Nat → Int32 → fM → Prop
  | 0, _, _, _ => False
  | n + 1, p0, p1, M => b_X11_settle_0 (l_X11_settle_0 φ n) φ p0 p1 M
set_option maxRecDepth 100000 in
theorem sb_X11_settle_0 {g : GT} {d : Nat} (hd : 2 ≤ d + 1) {K0 : Nat → Int32 → fM → Prop} {φ : fM → Prop} (hK0 : ∀ (p0 : Nat) (p1 : Int32) (M : fM), K0 p0 p1 M → FW g mtX11_settle (d + 1) 0 [(0, .ref p0), (1, .int p1)] [] M 0 0 (rV φ)) {p0 : Nat} {p1 : Int32} {M : fM} (h : b_X11_settle_0 K0 φ p0 p1 M) : FW g mtX11_settle (d + 1) 0 [(0, .ref p0), (1, .int p1)] [] M 0 0 (rV φ) := by
  unfold b_X11_settle_0 at h
  refine fw_aload_n (i := 0) 0 rfl (show decode _ _ = .ok (.aload_n 0, 1) by decide +kernel) ?_
  obtain ⟨⟨hr9, n8, hs10⟩, h_1⟩ := h
  refine fw_getI (kd := 11) (k := 17) (show decode _ _ = .ok (.getfield 138, 3) by decide +kernel) gf_X11_138 hr9 hs10 (Or.inl rfl) ?_
  refine fw_if_le 89 (show decode _ _ = .ok (.ifCond .le 85, 3) by decide +kernel) (by decide) (fun hc47 => ?_) (fun hc47 => ?_)
  · have h_2 := ipos hc47 h_1
    exact fw_ret (v := none) .return_ (show decode _ _ = .ok (.return_, 1) by decide +kernel) ⟨rfl, rfl⟩ ⟨rfl, h_2⟩
  · have h_3 := ineg hc47 h_1
    refine fw_aload_n (i := 0) 0 rfl (show decode _ _ = .ok (.aload_n 0, 1) by decide +kernel) ?_
    refine fw_getP (kd := 11) (k := 16) (show decode _ _ = .ok (.getfield 29, 3) by decide +kernel) gf_X11_29 hr9 hs10 rfl ?_
    have h_4 := dR_e h_3
    obtain ⟨y11, hy12, h_5⟩ := h_4
    refine fw_deref hy12 ?_
    refine fw_aload_n (i := 0) 0 rfl (show decode _ _ = .ok (.aload_n 0, 1) by decide +kernel) ?_
    refine fw_getI (kd := 11) (k := 17) (show decode _ _ = .ok (.getfield 138, 3) by decide +kernel) gf_X11_138 hr9 hs10 (Or.inl rfl) ?_
    refine fw_iconst (v := (1 : Int32)) (show decode _ _ = .ok (.iconst 1, 1) by decide +kernel) (by decide) ?_
    refine fw_isub (show decode _ _ = .ok (.isub, 1) by decide +kernel) ?_
    obtain ⟨⟨n13, hs14, hi15⟩, h_6⟩ := h_5
    refine fw_iald (show decode _ _ = .ok (.iaload, 1) by decide +kernel) hs14 hi15 ?_
    refine fw_callS (mt' := mtX11_rank) (mc := 0) (ms := 0) (As := [.int (mI M y11 (ix ((mI M p0 17) - (1 : Int32))))]) (rest := []) 1 (show decode _ _ = .ok (.invokestatic 152, 3) by decide +kernel) cs_X11_152 rfl (Nat.le_of_ble_eq_true rfl) (s_X11_rank (d := d) (hd_le hd (by decide)) h_6) (by decide) (by decide) (kI (bc' := 0) (bs' := 0) (by decide) (by decide) (fun x17 M16 h_7 => ?_))
    refine fw_iload_n (i := 1) 1 rfl (show decode _ _ = .ok (.iload_n 1, 1) by decide +kernel) ?_
    refine fw_icmp_lt 89 (show decode _ _ = .ok (.if_icmp .lt 67, 3) by decide +kernel) (by decide) (fun hc46 => ?_) (fun hc46 => ?_)
    · have h_8 := ipos hc46 h_7
      exact fw_ret (v := none) .return_ (show decode _ _ = .ok (.return_, 1) by decide +kernel) ⟨rfl, rfl⟩ ⟨rfl, h_8⟩
    · have h_9 := ineg hc46 h_7
      refine fw_aload_n (i := 0) 0 rfl (show decode _ _ = .ok (.aload_n 0, 1) by decide +kernel) ?_
      refine fw_dup (show decode _ _ = .ok (.dup, 1) by decide +kernel) rfl ?_
      obtain ⟨⟨hr19, n18, hs20⟩, h_10⟩ := h_9
      refine fw_getI (kd := 11) (k := 17) (show decode _ _ = .ok (.getfield 138, 3) by decide +kernel) gf_X11_138 hr19 hs20 (Or.inl rfl) ?_
      refine fw_iconst (v := (1 : Int32)) (show decode _ _ = .ok (.iconst 1, 1) by decide +kernel) (by decide) ?_
      refine fw_isub (show decode _ _ = .ok (.isub, 1) by decide +kernel) ?_
      refine fw_nmI (fun x21 ex22 => ?_)
      have h_11 := h_10 x21 ex22
      refine fw_putI (kd := 11) (k := 17) (show decode _ _ = .ok (.putfield 138, 3) by decide +kernel) ⟨gf_X11_138, _, rfl, Or.inl rfl⟩ hr19 hs20 rfl ?_
      refine FW.nmM (fun M23 eM24 => ?_)
      have h_12 := h_11 M23 eM24
      refine fw_aload_n (i := 0) 0 rfl (show decode _ _ = .ok (.aload_n 0, 1) by decide +kernel) ?_
      refine fw_aload_n (i := 0) 0 rfl (show decode _ _ = .ok (.aload_n 0, 1) by decide +kernel) ?_
      refine fw_getP (kd := 11) (k := 16) (show decode _ _ = .ok (.getfield 29, 3) by decide +kernel) gf_X11_29 hr19 (mSw_I eM24 hs20) rfl ?_
      have h_13 := dR_e h_12
      obtain ⟨y25, hy26, h_14⟩ := h_13
      refine fw_deref hy26 ?_
      refine fw_aload_n (i := 0) 0 rfl (show decode _ _ = .ok (.aload_n 0, 1) by decide +kernel) ?_
      refine fw_getI (kd := 11) (k := 17) (show decode _ _ = .ok (.getfield 138, 3) by decide +kernel) gf_X11_138 hr19 (mSw_I eM24 hs20) (Or.inl rfl) ?_
      obtain ⟨⟨n27, hs28, hi29⟩, h_15⟩ := h_14
      refine fw_iald (show decode _ _ = .ok (.iaload, 1) by decide +kernel) hs28 hi29 ?_
      refine fw_iconst (v := (0 : Int32)) (show decode _ _ = .ok (.iconst 0, 1) by decide +kernel) (by decide) ?_
      refine fw_callV (mt' := mtX11_emit) (mc := 0) (ms := 0) (As := [.int (mI M23 y25 (ix (mI M23 p0 17))), .int (0 : Int32)]) (rest := []) 2 11 n18 (show decode _ _ = .ok (.invokevirtual 155, 3) by decide +kernel) cv_X11_155 ⟨_, rfl, rfl⟩ hr19 (mSw_I eM24 hs20) rfl (Nat.le_of_ble_eq_true rfl) (s_X11_emit (d := d) (hd_le hd (by decide)) h_15) (by decide) (by decide) (kV (bc' := 0) (bs' := 0) (by decide) (by decide) (fun M30 h_16 => ?_))
      refine fw_aload_n (i := 0) 0 rfl (show decode _ _ = .ok (.aload_n 0, 1) by decide +kernel) ?_
      obtain ⟨⟨hr32, n31, hs33⟩, h_17⟩ := h_16
      refine fw_getP (kd := 11) (k := 16) (show decode _ _ = .ok (.getfield 29, 3) by decide +kernel) gf_X11_29 hr32 hs33 rfl ?_
      have h_18 := dR_e h_17
      obtain ⟨y34, hy35, h_19⟩ := h_18
      refine fw_deref hy35 ?_
      refine fw_aload_n (i := 0) 0 rfl (show decode _ _ = .ok (.aload_n 0, 1) by decide +kernel) ?_
      refine fw_getI (kd := 11) (k := 17) (show decode _ _ = .ok (.getfield 138, 3) by decide +kernel) gf_X11_138 hr32 hs33 (Or.inl rfl) ?_
      obtain ⟨⟨n36, hs37, hi38⟩, h_20⟩ := h_19
      refine fw_iald (show decode _ _ = .ok (.iaload, 1) by decide +kernel) hs37 hi38 ?_
      refine fw_iconst (v := (3 : Int32)) (show decode _ _ = .ok (.iconst 3, 1) by decide +kernel) (by decide) ?_
      refine fw_icmp_eq 76 (show decode _ _ = .ok (.if_icmp .eq 17, 3) by decide +kernel) (by decide) (fun hc45 => ?_) (fun hc45 => ?_)
      · have h_21 := ipos hc45 h_20
        refine FW.sub [0, 1] (ls' := [(0, .ref p0), (1, .int p1)]) rfl ?_
        exact sj_X11_settle_76 hd hK0 h_21
      · have h_22 := ineg hc45 h_20
        refine fw_aload_n (i := 0) 0 rfl (show decode _ _ = .ok (.aload_n 0, 1) by decide +kernel) ?_
        refine fw_getP (kd := 11) (k := 16) (show decode _ _ = .ok (.getfield 29, 3) by decide +kernel) gf_X11_29 hr32 hs33 rfl ?_
        have h_23 := dR_e h_22
        obtain ⟨y39, hy40, h_24⟩ := h_23
        refine fw_deref hy40 ?_
        refine fw_aload_n (i := 0) 0 rfl (show decode _ _ = .ok (.aload_n 0, 1) by decide +kernel) ?_
        refine fw_getI (kd := 11) (k := 17) (show decode _ _ = .ok (.getfield 138, 3) by decide +kernel) gf_X11_138 hr32 hs33 (Or.inl rfl) ?_
        obtain ⟨⟨n41, hs42, hi43⟩, h_25⟩ := h_24
        refine fw_iald (show decode _ _ = .ok (.iaload, 1) by decide +kernel) hs42 hi43 ?_
        refine fw_bipush (v := (20 : Int32)) (show decode _ _ = .ok (.bipush 20, 2) by decide +kernel) (by decide) ?_
        refine fw_icmp_ne 0 (show decode _ _ = .ok (.if_icmp .ne (-73), 3) by decide +kernel) (by decide) (fun hc44 => ?_) (fun hc44 => ?_)
        · have h_26 := ineg hc44 h_25
          refine FW.sub [0, 1] (ls' := [(0, .ref p0), (1, .int p1)]) rfl ?_
          exact hK0 _ _ _ h_26
        · have h_27 := ipos hc44 h_25
          refine FW.sub [0, 1] (ls' := [(0, .ref p0), (1, .int p1)]) rfl ?_
          exact sj_X11_settle_76 hd hK0 h_27
theorem sl_X11_settle_0 {g : GT} {d : Nat} (hd : 2 ≤ d + 1) {φ : fM → Prop} : ∀ (n : Nat) {p0 : Nat} {p1 : Int32} {M : fM}, l_X11_settle_0 φ n p0 p1 M → FW g mtX11_settle (d + 1) 0 [(0, .ref p0), (1, .int p1)] [] M 0 0 (rV φ)
  | 0 => fun h => h.elim
  | n + 1 => fun h => sb_X11_settle_0 hd (fun _ _ _ h => sl_X11_settle_0 hd n h) h
def w_X11_settle (p0 : Nat) (p1 : Int32) (M : fM) (φ : fM → Prop) : Prop := ∃ n, l_X11_settle_0 φ n p0 p1 M
set_option maxRecDepth 100000 in
theorem s_X11_settle {g : GT} {d : Nat} (hd : 2 ≤ d) {p0 : Nat} {p1 : Int32} {M : fM} {φ : fM → Prop} (h : w_X11_settle p0 p1 M φ) : FC g mtX11_settle d [.ref p0, .int p1] M 0 0 (rV φ) := by
  obtain ⟨d, rfl⟩ : ∃ e, d = e + 1 := ⟨d - 1, by omega⟩
  unfold w_X11_settle at h
  refine FC.intro (nL := 2) (by decide) rfl (Nat.le_of_ble_eq_true rfl) ?_
  show FW g mtX11_settle (d + 1) 0 [(0, .ref p0), (1, .int p1)] [] M 0 0 (rV φ)
  refine FW.sub [0, 1] (ls' := [(0, .ref p0), (1, .int p1)]) rfl ?_
  obtain ⟨nn, h_1⟩ := h
  exact sl_X11_settle_0 hd nn h_1
def w_X11_whole (p0 : Nat) (M : fM) (φ : fM → Prop) : Prop := isO M p0 11 ∧ st (wI M p0 19 (1 : Int32)) fun M4 => w_X11_settle p0 (7 : Int32) M4 fun M6 => φ M6
set_option maxRecDepth 100000 in
theorem s_X11_whole {g : GT} {d : Nat} (hd : 3 ≤ d) {p0 : Nat} {M : fM} {φ : fM → Prop} (h : w_X11_whole p0 M φ) : FC g mtX11_whole d [.ref p0] M 0 0 (rV φ) := by
  obtain ⟨d, rfl⟩ : ∃ e, d = e + 1 := ⟨d - 1, by omega⟩
  unfold w_X11_whole at h
  refine FC.intro (nL := 1) (by decide) rfl (Nat.le_of_ble_eq_true rfl) ?_
  show FW g mtX11_whole (d + 1) 0 [(0, .ref p0)] [] M 0 0 (rV φ)
  refine fw_aload_n (i := 0) 0 rfl (show decode _ _ = .ok (.aload_n 0, 1) by decide +kernel) ?_
  refine fw_iconst (v := (1 : Int32)) (show decode _ _ = .ok (.iconst 1, 1) by decide +kernel) (by decide) ?_
  obtain ⟨⟨hr2, n1, hs3⟩, h_1⟩ := h
  refine fw_putZ (kd := 11) (k := 19) (show decode _ _ = .ok (.putfield 161, 3) by decide +kernel) ⟨gf_X11_161, _, rfl, Or.inl rfl⟩ hr2 hs3 rfl rfl ?_
  refine FW.nmM (fun M4 eM5 => ?_)
  have h_2 := h_1 M4 eM5
  refine fw_aload_n (i := 0) 0 rfl (show decode _ _ = .ok (.aload_n 0, 1) by decide +kernel) ?_
  refine fw_bipush (v := (7 : Int32)) (show decode _ _ = .ok (.bipush 7, 2) by decide +kernel) (by decide) ?_
  refine fw_callV (mt' := mtX11_settle) (mc := 0) (ms := 0) (As := [.int (7 : Int32)]) (rest := []) 1 11 n1 (show decode _ _ = .ok (.invokevirtual 165, 3) by decide +kernel) cv_X11_165 ⟨_, rfl, rfl⟩ hr2 (mSw_I eM5 hs3) rfl (Nat.le_of_ble_eq_true rfl) (s_X11_settle (d := d) (hd_le hd (by decide)) h_2) (by decide) (by decide) (kV (bc' := 0) (bs' := 0) (by decide) (by decide) (fun M6 h_3 => ?_))
  exact fw_ret (v := none) .return_ (show decode _ _ = .ok (.return_, 1) by decide +kernel) ⟨rfl, rfl⟩ ⟨rfl, h_3⟩
def w_X11_push (p0 : Nat) (p1 : Int32) (M : fM) (φ : fM → Prop) : Prop := isO M p0 11 ∧ dR (mP M p0 16) fun y4 => 6 ≤ y4 ∧ inA M y4 12 (mI M p0 17) ∧ st (wI M y4 (ix (mI M p0 17)) p1) fun M10 => nm ((mI M10 p0 17) + (1 : Int32)) fun x12 => st (wI M10 p0 17 x12) fun M14 => φ M14
set_option maxRecDepth 100000 in
theorem s_X11_push {g : GT} {d : Nat} (hd : 1 ≤ d) {p0 : Nat} {p1 : Int32} {M : fM} {φ : fM → Prop} (h : w_X11_push p0 p1 M φ) : FC g mtX11_push d [.ref p0, .int p1] M 0 0 (rV φ) := by
  obtain ⟨d, rfl⟩ : ∃ e, d = e + 1 := ⟨d - 1, by omega⟩
  unfold w_X11_push at h
  refine FC.intro (nL := 2) (by decide) rfl (Nat.le_of_ble_eq_true rfl) ?_
  show FW g mtX11_push (d + 1) 0 [(0, .ref p0), (1, .int p1)] [] M 0 0 (rV φ)
  refine fw_aload_n (i := 0) 0 rfl (show decode _ _ = .ok (.aload_n 0, 1) by decide +kernel) ?_
  obtain ⟨⟨hr2, n1, hs3⟩, h_1⟩ := h
  refine fw_getP (kd := 11) (k := 16) (show decode _ _ = .ok (.getfield 29, 3) by decide +kernel) gf_X11_29 hr2 hs3 rfl ?_
  have h_2 := dR_e h_1
  obtain ⟨y4, hy5, h_3⟩ := h_2
  refine fw_deref hy5 ?_
  refine fw_aload_n (i := 0) 0 rfl (show decode _ _ = .ok (.aload_n 0, 1) by decide +kernel) ?_
  refine fw_getI (kd := 11) (k := 17) (show decode _ _ = .ok (.getfield 138, 3) by decide +kernel) gf_X11_138 hr2 hs3 (Or.inl rfl) ?_
  refine fw_iload_n (i := 1) 1 rfl (show decode _ _ = .ok (.iload_n 1, 1) by decide +kernel) ?_
  obtain ⟨hr9, ⟨n6, hs7, hi8⟩, h_4⟩ := h_3
  refine fw_iast (show decode _ _ = .ok (.iastore, 1) by decide +kernel) hr9 hs7 hi8 ?_
  refine FW.nmM (fun M10 eM11 => ?_)
  have h_5 := h_4 M10 eM11
  refine fw_aload_n (i := 0) 0 rfl (show decode _ _ = .ok (.aload_n 0, 1) by decide +kernel) ?_
  refine fw_dup (show decode _ _ = .ok (.dup, 1) by decide +kernel) rfl ?_
  refine fw_getI (kd := 11) (k := 17) (show decode _ _ = .ok (.getfield 138, 3) by decide +kernel) gf_X11_138 hr2 (mSw_I eM11 hs3) (Or.inl rfl) ?_
  refine fw_iconst (v := (1 : Int32)) (show decode _ _ = .ok (.iconst 1, 1) by decide +kernel) (by decide) ?_
  refine fw_iadd (show decode _ _ = .ok (.iadd, 1) by decide +kernel) ?_
  refine fw_nmI (fun x12 ex13 => ?_)
  have h_6 := h_5 x12 ex13
  refine fw_putI (kd := 11) (k := 17) (show decode _ _ = .ok (.putfield 138, 3) by decide +kernel) ⟨gf_X11_138, _, rfl, Or.inl rfl⟩ hr2 (mSw_I eM11 hs3) rfl ?_
  refine FW.nmM (fun M14 eM15 => ?_)
  have h_7 := h_6 M14 eM15
  exact fw_ret (v := none) .return_ (show decode _ _ = .ok (.return_, 1) by decide +kernel) ⟨rfl, rfl⟩ ⟨rfl, h_7⟩
def w_X11_opensBy (p0 : Nat) (p1 : Int32) (M : fM) (φ : Int32 → fM → Prop) : Prop := isO M p0 11 ∧ iF ((mI M p0 18) = (8 : Int32)) (φ (3 : Int32) M) (nm ((mI M p0 18) + (1 : Int32)) fun x4 => st (wI M p0 18 x4) fun M6 => w_X11_push p0 p1 M6 fun M8 => isO M8 p0 11 ∧ w_X11_nextToken p0 M8 fun M9 => φ (0 : Int32) M9)
set_option maxRecDepth 100000 in
theorem s_X11_opensBy {g : GT} {d : Nat} (hd : 4 ≤ d) {p0 : Nat} {p1 : Int32} {M : fM} {φ : Int32 → fM → Prop} (h : w_X11_opensBy p0 p1 M φ) : FC g mtX11_opensBy d [.ref p0, .int p1] M 0 0 (rI φ) := by
  obtain ⟨d, rfl⟩ : ∃ e, d = e + 1 := ⟨d - 1, by omega⟩
  unfold w_X11_opensBy at h
  refine FC.intro (nL := 2) (by decide) rfl (Nat.le_of_ble_eq_true rfl) ?_
  show FW g mtX11_opensBy (d + 1) 0 [(0, .ref p0), (1, .int p1)] [] M 0 0 (rI φ)
  refine fw_aload_n (i := 0) 0 rfl (show decode _ _ = .ok (.aload_n 0, 1) by decide +kernel) ?_
  obtain ⟨⟨hr2, n1, hs3⟩, h_1⟩ := h
  refine fw_getI (kd := 11) (k := 18) (show decode _ _ = .ok (.getfield 158, 3) by decide +kernel) gf_X11_158 hr2 hs3 (Or.inl rfl) ?_
  refine fw_bipush (v := (8 : Int32)) (show decode _ _ = .ok (.bipush 8, 2) by decide +kernel) (by decide) ?_
  refine fw_icmp_ne 11 (show decode _ _ = .ok (.if_icmp .ne 5, 3) by decide +kernel) (by decide) (fun hc13 => ?_) (fun hc13 => ?_)
  · have h_2 := ineg hc13 h_1
    refine fw_aload_n (i := 0) 0 rfl (show decode _ _ = .ok (.aload_n 0, 1) by decide +kernel) ?_
    refine fw_dup (show decode _ _ = .ok (.dup, 1) by decide +kernel) rfl ?_
    refine fw_getI (kd := 11) (k := 18) (show decode _ _ = .ok (.getfield 158, 3) by decide +kernel) gf_X11_158 hr2 hs3 (Or.inl rfl) ?_
    refine fw_iconst (v := (1 : Int32)) (show decode _ _ = .ok (.iconst 1, 1) by decide +kernel) (by decide) ?_
    refine fw_iadd (show decode _ _ = .ok (.iadd, 1) by decide +kernel) ?_
    refine fw_nmI (fun x4 ex5 => ?_)
    have h_3 := h_2 x4 ex5
    refine fw_putI (kd := 11) (k := 18) (show decode _ _ = .ok (.putfield 158, 3) by decide +kernel) ⟨gf_X11_158, _, rfl, Or.inl rfl⟩ hr2 hs3 rfl ?_
    refine FW.nmM (fun M6 eM7 => ?_)
    have h_4 := h_3 M6 eM7
    refine fw_aload_n (i := 0) 0 rfl (show decode _ _ = .ok (.aload_n 0, 1) by decide +kernel) ?_
    refine fw_iload_n (i := 1) 1 rfl (show decode _ _ = .ok (.iload_n 1, 1) by decide +kernel) ?_
    refine fw_callV (mt' := mtX11_push) (mc := 0) (ms := 0) (As := [.int p1]) (rest := []) 1 11 n1 (show decode _ _ = .ok (.invokevirtual 176, 3) by decide +kernel) cv_X11_176 ⟨_, rfl, rfl⟩ hr2 (mSw_I eM7 hs3) rfl (Nat.le_of_ble_eq_true rfl) (s_X11_push (d := d) (hd_le hd (by decide)) h_4) (by decide) (by decide) (kV (bc' := 0) (bs' := 0) (by decide) (by decide) (fun M8 h_5 => ?_))
    refine fw_aload_n (i := 0) 0 rfl (show decode _ _ = .ok (.aload_n 0, 1) by decide +kernel) ?_
    obtain ⟨⟨hr11, n10, hs12⟩, h_6⟩ := h_5
    refine fw_callV (mt' := mtX11_nextToken) (mc := 0) (ms := 0) (As := []) (rest := []) 0 11 n10 (show decode _ _ = .ok (.invokevirtual 179, 3) by decide +kernel) cv_X11_179 ⟨_, rfl, rfl⟩ hr11 hs12 rfl (Nat.le_of_ble_eq_true rfl) (s_X11_nextToken (d := d) (hd_le hd (by decide)) h_6) (by decide) (by decide) (kV (bc' := 0) (bs' := 0) (by decide) (by decide) (fun M9 h_7 => ?_))
    refine fw_iconst (v := (0 : Int32)) (show decode _ _ = .ok (.iconst 0, 1) by decide +kernel) (by decide) ?_
    exact fw_ret (v := some (.int (0 : Int32))) .ireturn (show decode _ _ = .ok (.ireturn, 1) by decide +kernel) ⟨rfl, Or.inl rfl⟩ ⟨_, rfl, h_7⟩
  · have h_8 := ipos hc13 h_1
    refine fw_iconst (v := (3 : Int32)) (show decode _ _ = .ok (.iconst 3, 1) by decide +kernel) (by decide) ?_
    exact fw_ret (v := some (.int (3 : Int32))) .ireturn (show decode _ _ = .ok (.ireturn, 1) by decide +kernel) ⟨rfl, Or.inl rfl⟩ ⟨_, rfl, h_8⟩
def w_X11_isWord (p0 : Nat) (p1 : Int64) (M : fM) (φ : Int32 → fM → Prop) : Prop := isO M p0 11 ∧ iF ((mI M p0 9) = (2 : Int32)) (iF ((lg_cmp (mJ M p0 11) p1) = 0) (φ (1 : Int32) M) (φ (0 : Int32) M)) (φ (0 : Int32) M)
set_option maxRecDepth 100000 in
theorem s_X11_isWord {g : GT} {d : Nat} (hd : 1 ≤ d) {p0 : Nat} {p1 : Int64} {M : fM} {φ : Int32 → fM → Prop} (h : w_X11_isWord p0 p1 M φ) : FC g mtX11_isWord d [.ref p0, .long p1] M 0 0 (rI φ) := by
  obtain ⟨d, rfl⟩ : ∃ e, d = e + 1 := ⟨d - 1, by omega⟩
  unfold w_X11_isWord at h
  refine FC.intro (nL := 3) (by decide) rfl (Nat.le_of_ble_eq_true rfl) ?_
  show FW g mtX11_isWord (d + 1) 0 [(0, .ref p0), (1, .long p1)] [] M 0 0 (rI φ)
  refine fw_aload_n (i := 0) 0 rfl (show decode _ _ = .ok (.aload_n 0, 1) by decide +kernel) ?_
  obtain ⟨⟨hr2, n1, hs3⟩, h_1⟩ := h
  refine fw_getI (kd := 11) (k := 9) (show decode _ _ = .ok (.getfield 107, 3) by decide +kernel) gf_X11_107 hr2 hs3 (Or.inl rfl) ?_
  refine fw_iconst (v := (2 : Int32)) (show decode _ _ = .ok (.iconst 2, 1) by decide +kernel) (by decide) ?_
  refine fw_icmp_ne 21 (show decode _ _ = .ok (.if_icmp .ne 16, 3) by decide +kernel) (by decide) (fun hc5 => ?_) (fun hc5 => ?_)
  · have h_2 := ineg hc5 h_1
    refine fw_iconst (v := (0 : Int32)) (show decode _ _ = .ok (.iconst 0, 1) by decide +kernel) (by decide) ?_
    exact fw_ret (v := some (.int (0 : Int32))) .ireturn (show decode _ _ = .ok (.ireturn, 1) by decide +kernel) ⟨rfl, Or.inr (Or.inl ⟨rfl, rfl⟩)⟩ ⟨_, rfl, h_2⟩
  · have h_3 := ipos hc5 h_1
    refine fw_aload_n (i := 0) 0 rfl (show decode _ _ = .ok (.aload_n 0, 1) by decide +kernel) ?_
    refine fw_getJ (kd := 11) (k := 11) (show decode _ _ = .ok (.getfield 120, 3) by decide +kernel) gf_X11_120 hr2 hs3 rfl ?_
    refine fw_lload_n (i := 1) 1 rfl (show decode _ _ = .ok (.lload_n 1, 1) by decide +kernel) ?_
    refine fw_lcmp (show decode _ _ = .ok (.lcmp, 1) by decide +kernel) ?_
    refine fw_if_ne 21 (show decode _ _ = .ok (.ifCond .ne 7, 3) by decide +kernel) (by decide) (fun hc4 => ?_) (fun hc4 => ?_)
    · have h_4 := ineg hc4 h_3
      refine fw_iconst (v := (0 : Int32)) (show decode _ _ = .ok (.iconst 0, 1) by decide +kernel) (by decide) ?_
      exact fw_ret (v := some (.int (0 : Int32))) .ireturn (show decode _ _ = .ok (.ireturn, 1) by decide +kernel) ⟨rfl, Or.inr (Or.inl ⟨rfl, rfl⟩)⟩ ⟨_, rfl, h_4⟩
    · have h_5 := ipos hc4 h_3
      refine fw_iconst (v := (1 : Int32)) (show decode _ _ = .ok (.iconst 1, 1) by decide +kernel) (by decide) ?_
      refine fw_goto 22 (show decode _ _ = .ok (.goto 4, 3) by decide +kernel) (by decide) ?_
      exact fw_ret (v := some (.int (1 : Int32))) .ireturn (show decode _ _ = .ok (.ireturn, 1) by decide +kernel) ⟨rfl, Or.inr (Or.inl ⟨rfl, rfl⟩)⟩ ⟨_, rfl, h_5⟩
def b_X11_marker_7 (K7 : Nat → Int32 → fM → Prop) (φ : Int32 → fM → Prop) (p0 : Nat) (p1 : Int32) (M : fM) : Prop := iF (p1 < 0) (φ p1 M) (isO M p0 11 ∧ dR (mP M p0 16) fun y4 => inA M y4 12 p1 ∧ iF ((40 : Int32) ≤ (mI M y4 (ix p1))) (φ p1 M) (nm (p1 + (-1 : Int32)) fun x9 => K7 p0 x9 M))
def l_X11_marker_7 (φ : Int32 → fM → Prop) : Nat → Nat → Int32 → fM → Prop
  | 0, _, _, _ => False
  | n + 1, p0, p1, M => b_X11_marker_7 (l_X11_marker_7 φ n) φ p0 p1 M
set_option maxRecDepth 100000 in
theorem sb_X11_marker_7 {g : GT} {d : Nat} (hd : 1 ≤ d + 1) {K7 : Nat → Int32 → fM → Prop} {φ : Int32 → fM → Prop} (hK7 : ∀ (p0 : Nat) (p1 : Int32) (M : fM), K7 p0 p1 M → FW g mtX11_marker (d + 1) 7 [(0, .ref p0), (1, .int p1)] [] M 0 0 (rI φ)) {p0 : Nat} {p1 : Int32} {M : fM} (h : b_X11_marker_7 K7 φ p0 p1 M) : FW g mtX11_marker (d + 1) 7 [(0, .ref p0), (1, .int p1)] [] M 0 0 (rI φ) := by
  unfold b_X11_marker_7 at h
  refine fw_iload_n (i := 1) 1 rfl (show decode _ _ = .ok (.iload_n 1, 1) by decide +kernel) ?_
  refine fw_if_lt 28 (show decode _ _ = .ok (.ifCond .lt 20, 3) by decide +kernel) (by decide) (fun hc12 => ?_) (fun hc12 => ?_)
  · have h_1 := ipos hc12 h
    refine fw_iload_n (i := 1) 1 rfl (show decode _ _ = .ok (.iload_n 1, 1) by decide +kernel) ?_
    exact fw_ret (v := some (.int p1)) .ireturn (show decode _ _ = .ok (.ireturn, 1) by decide +kernel) ⟨rfl, Or.inl rfl⟩ ⟨_, rfl, h_1⟩
  · have h_2 := ineg hc12 h
    refine fw_aload_n (i := 0) 0 rfl (show decode _ _ = .ok (.aload_n 0, 1) by decide +kernel) ?_
    obtain ⟨⟨hr2, n1, hs3⟩, h_3⟩ := h_2
    refine fw_getP (kd := 11) (k := 16) (show decode _ _ = .ok (.getfield 29, 3) by decide +kernel) gf_X11_29 hr2 hs3 rfl ?_
    have h_4 := dR_e h_3
    obtain ⟨y4, hy5, h_5⟩ := h_4
    refine fw_deref hy5 ?_
    refine fw_iload_n (i := 1) 1 rfl (show decode _ _ = .ok (.iload_n 1, 1) by decide +kernel) ?_
    obtain ⟨⟨n6, hs7, hi8⟩, h_6⟩ := h_5
    refine fw_iald (show decode _ _ = .ok (.iaload, 1) by decide +kernel) hs7 hi8 ?_
    refine fw_bipush (v := (40 : Int32)) (show decode _ _ = .ok (.bipush 40, 2) by decide +kernel) (by decide) ?_
    refine fw_icmp_ge 28 (show decode _ _ = .ok (.if_icmp .ge 9, 3) by decide +kernel) (by decide) (fun hc11 => ?_) (fun hc11 => ?_)
    · have h_7 := ipos hc11 h_6
      refine fw_iload_n (i := 1) 1 rfl (show decode _ _ = .ok (.iload_n 1, 1) by decide +kernel) ?_
      exact fw_ret (v := some (.int p1)) .ireturn (show decode _ _ = .ok (.ireturn, 1) by decide +kernel) ⟨rfl, Or.inl rfl⟩ ⟨_, rfl, h_7⟩
    · have h_8 := ineg hc11 h_6
      obtain ⟨x9, ex10⟩ : ∃ y : Int32, y = p1 + (-1 : Int32) := ⟨_, rfl⟩
      have h_9 := h_8 x9 ex10
      refine fw_iinc (i := 1) (x := p1) (v := x9) (ls' := [(1, .int x9), (0, .ref p0)]) 1 rfl (show decode _ _ = .ok (.iinc 1 (-1), 3) by decide +kernel) (by rw [ex10]; rfl) (by decide) rfl ?_
      refine fw_goto 7 (show decode _ _ = .ok (.goto (-18), 3) by decide +kernel) (by decide) ?_
      refine FW.sub [1, 0] (ls' := [(0, .ref p0), (1, .int x9)]) rfl ?_
      exact hK7 _ _ _ h_9
theorem sl_X11_marker_7 {g : GT} {d : Nat} (hd : 1 ≤ d + 1) {φ : Int32 → fM → Prop} : ∀ (n : Nat) {p0 : Nat} {p1 : Int32} {M : fM}, l_X11_marker_7 φ n p0 p1 M → FW g mtX11_marker (d + 1) 7 [(0, .ref p0), (1, .int p1)] [] M 0 0 (rI φ)
  | 0 => fun h => h.elim
  | n + 1 => fun h => sb_X11_marker_7 hd (fun _ _ _ h => sl_X11_marker_7 hd n h) h
def w_X11_marker (p0 : Nat) (M : fM) (φ : Int32 → fM → Prop) : Prop := isO M p0 11 ∧ nm ((mI M p0 17) - (1 : Int32)) fun x16 => ∃ n, l_X11_marker_7 φ n p0 x16 M
set_option maxRecDepth 100000 in
theorem s_X11_marker {g : GT} {d : Nat} (hd : 1 ≤ d) {p0 : Nat} {M : fM} {φ : Int32 → fM → Prop} (h : w_X11_marker p0 M φ) : FC g mtX11_marker d [.ref p0] M 0 0 (rI φ) := by
  obtain ⟨d, rfl⟩ : ∃ e, d = e + 1 := ⟨d - 1, by omega⟩
  unfold w_X11_marker at h
  refine FC.intro (nL := 2) (by decide) rfl (Nat.le_of_ble_eq_true rfl) ?_
  show FW g mtX11_marker (d + 1) 0 [(0, .ref p0)] [] M 0 0 (rI φ)
  refine fw_aload_n (i := 0) 0 rfl (show decode _ _ = .ok (.aload_n 0, 1) by decide +kernel) ?_
  obtain ⟨⟨hr14, n13, hs15⟩, h_1⟩ := h
  refine fw_getI (kd := 11) (k := 17) (show decode _ _ = .ok (.getfield 138, 3) by decide +kernel) gf_X11_138 hr14 hs15 (Or.inl rfl) ?_
  refine fw_iconst (v := (1 : Int32)) (show decode _ _ = .ok (.iconst 1, 1) by decide +kernel) (by decide) ?_
  refine fw_isub (show decode _ _ = .ok (.isub, 1) by decide +kernel) ?_
  refine fw_nmI (fun x16 ex17 => ?_)
  have h_2 := h_1 x16 ex17
  refine fw_istore_n (i := 1) (ls' := [(1, .int x16), (0, .ref p0)]) (show decode _ _ = .ok (.istore_n 1, 1) by decide +kernel) (by decide) rfl ?_
  refine FW.sub [1, 0] (ls' := [(0, .ref p0), (1, .int x16)]) rfl ?_
  obtain ⟨nn, h_3⟩ := h_2
  exact sl_X11_marker_7 hd nn h_3
def w_X11_kindOpen (p0 : Nat) (p1 : Int32) (M : fM) (φ : Int32 → fM → Prop) : Prop := isO M p0 11 ∧ w_X11_marker p0 M fun x5 M1 => iF (x5 < 0) (iF (p1 = 0) (φ (40 : Int32) M1) (φ (41 : Int32) M1)) (isO M1 p0 11 ∧ dR (mP M1 p0 16) fun y10 => inA M1 y10 12 x5 ∧ φ (mI M1 y10 (ix x5)) M1)
set_option maxRecDepth 100000 in
theorem s_X11_kindOpen {g : GT} {d : Nat} (hd : 2 ≤ d) {p0 : Nat} {p1 : Int32} {M : fM} {φ : Int32 → fM → Prop} (h : w_X11_kindOpen p0 p1 M φ) : FC g mtX11_kindOpen d [.ref p0, .int p1] M 0 0 (rI φ) := by
  obtain ⟨d, rfl⟩ : ∃ e, d = e + 1 := ⟨d - 1, by omega⟩
  unfold w_X11_kindOpen at h
  refine FC.intro (nL := 3) (by decide) rfl (Nat.le_of_ble_eq_true rfl) ?_
  show FW g mtX11_kindOpen (d + 1) 0 [(0, .ref p0), (1, .int p1)] [] M 0 0 (rI φ)
  refine fw_aload_n (i := 0) 0 rfl (show decode _ _ = .ok (.aload_n 0, 1) by decide +kernel) ?_
  obtain ⟨⟨hr3, n2, hs4⟩, h_1⟩ := h
  refine fw_callV (mt' := mtX11_marker) (mc := 0) (ms := 0) (As := []) (rest := []) 0 11 n2 (show decode _ _ = .ok (.invokevirtual 168, 3) by decide +kernel) cv_X11_168 ⟨_, rfl, rfl⟩ hr3 hs4 rfl (Nat.le_of_ble_eq_true rfl) (s_X11_marker (d := d) (hd_le hd (by decide)) h_1) (by decide) (by decide) (kI (bc' := 0) (bs' := 0) (by decide) (by decide) (fun x5 M1 h_2 => ?_))
  refine fw_istore_n (i := 2) (ls' := [(2, .int x5), (0, .ref p0), (1, .int p1)]) (show decode _ _ = .ok (.istore_n 2, 1) by decide +kernel) (by decide) rfl ?_
  refine fw_iload_n (i := 2) 0 rfl (show decode _ _ = .ok (.iload_n 2, 1) by decide +kernel) ?_
  refine fw_if_lt 18 (show decode _ _ = .ok (.ifCond .lt 12, 3) by decide +kernel) (by decide) (fun hc15 => ?_) (fun hc15 => ?_)
  · have h_3 := ipos hc15 h_2
    refine fw_iload_n (i := 1) 2 rfl (show decode _ _ = .ok (.iload_n 1, 1) by decide +kernel) ?_
    refine fw_if_eq 27 (show decode _ _ = .ok (.ifCond .eq 8, 3) by decide +kernel) (by decide) (fun hc6 => ?_) (fun hc6 => ?_)
    · have h_4 := ipos hc6 h_3
      refine fw_bipush (v := (40 : Int32)) (show decode _ _ = .ok (.bipush 40, 2) by decide +kernel) (by decide) ?_
      exact fw_ret (v := some (.int (40 : Int32))) .ireturn (show decode _ _ = .ok (.ireturn, 1) by decide +kernel) ⟨rfl, Or.inl rfl⟩ ⟨_, rfl, h_4⟩
    · have h_5 := ineg hc6 h_3
      refine fw_bipush (v := (41 : Int32)) (show decode _ _ = .ok (.bipush 41, 2) by decide +kernel) (by decide) ?_
      refine fw_goto 29 (show decode _ _ = .ok (.goto 5, 3) by decide +kernel) (by decide) ?_
      exact fw_ret (v := some (.int (41 : Int32))) .ireturn (show decode _ _ = .ok (.ireturn, 1) by decide +kernel) ⟨rfl, Or.inl rfl⟩ ⟨_, rfl, h_5⟩
  · have h_6 := ineg hc15 h_2
    refine fw_aload_n (i := 0) 1 rfl (show decode _ _ = .ok (.aload_n 0, 1) by decide +kernel) ?_
    obtain ⟨⟨hr8, n7, hs9⟩, h_7⟩ := h_6
    refine fw_getP (kd := 11) (k := 16) (show decode _ _ = .ok (.getfield 29, 3) by decide +kernel) gf_X11_29 hr8 hs9 rfl ?_
    have h_8 := dR_e h_7
    obtain ⟨y10, hy11, h_9⟩ := h_8
    refine fw_deref hy11 ?_
    refine fw_iload_n (i := 2) 0 rfl (show decode _ _ = .ok (.iload_n 2, 1) by decide +kernel) ?_
    obtain ⟨⟨n12, hs13, hi14⟩, h_10⟩ := h_9
    refine fw_iald (show decode _ _ = .ok (.iaload, 1) by decide +kernel) hs13 hi14 ?_
    refine fw_goto 29 (show decode _ _ = .ok (.goto 14, 3) by decide +kernel) (by decide) ?_
    exact fw_ret (v := some (.int (mI M1 y10 (ix x5)))) .ireturn (show decode _ _ = .ok (.ireturn, 1) by decide +kernel) ⟨rfl, Or.inl rfl⟩ ⟨_, rfl, h_10⟩
def w_X11_isAskAhead (p0 : Nat) (p1 : Int32) (M : fM) (φ : Int32 → fM → Prop) : Prop := isO M p0 11 ∧ w_X11_kindOpen p0 p1 M fun x5 M1 => iF (x5 = (41 : Int32)) (isO M1 p0 11 ∧ iF ((mI M1 p0 17) = 0) (φ (1 : Int32) M1) (dR (mP M1 p0 16) fun y9 => inA M1 y9 12 ((mI M1 p0 17) - (1 : Int32)) ∧ iF ((mI M1 y9 (ix ((mI M1 p0 17) - (1 : Int32)))) = (41 : Int32)) (φ (1 : Int32) M1) (dR (mP M1 p0 16) fun y14 => inA M1 y14 12 ((mI M1 p0 17) - (1 : Int32)) ∧ w_X11_rank (mI M1 y14 (ix ((mI M1 p0 17) - (1 : Int32)))) M1 fun x20 M19 => w_X11_isIn x20 (1 : Int32) (3 : Int32) M19 fun x22 M21 => iF (x22 = 0) (φ (0 : Int32) M21) (φ (1 : Int32) M21)))) (φ (0 : Int32) M1)
set_option maxRecDepth 100000 in
theorem s_X11_isAskAhead {g : GT} {d : Nat} (hd : 3 ≤ d) {p0 : Nat} {p1 : Int32} {M : fM} {φ : Int32 → fM → Prop} (h : w_X11_isAskAhead p0 p1 M φ) : FC g mtX11_isAskAhead d [.ref p0, .int p1] M 0 0 (rI φ) := by
  obtain ⟨d, rfl⟩ : ∃ e, d = e + 1 := ⟨d - 1, by omega⟩
  unfold w_X11_isAskAhead at h
  refine FC.intro (nL := 2) (by decide) rfl (Nat.le_of_ble_eq_true rfl) ?_
  show FW g mtX11_isAskAhead (d + 1) 0 [(0, .ref p0), (1, .int p1)] [] M 0 0 (rI φ)
  refine fw_aload_n (i := 0) 0 rfl (show decode _ _ = .ok (.aload_n 0, 1) by decide +kernel) ?_
  refine fw_iload_n (i := 1) 1 rfl (show decode _ _ = .ok (.iload_n 1, 1) by decide +kernel) ?_
  obtain ⟨⟨hr3, n2, hs4⟩, h_1⟩ := h
  refine fw_callV (mt' := mtX11_kindOpen) (mc := 0) (ms := 0) (As := [.int p1]) (rest := []) 1 11 n2 (show decode _ _ = .ok (.invokevirtual 172, 3) by decide +kernel) cv_X11_172 ⟨_, rfl, rfl⟩ hr3 hs4 rfl (Nat.le_of_ble_eq_true rfl) (s_X11_kindOpen (d := d) (hd_le hd (by decide)) h_1) (by decide) (by decide) (kI (bc' := 0) (bs' := 0) (by decide) (by decide) (fun x5 M1 h_2 => ?_))
  refine fw_bipush (v := (41 : Int32)) (show decode _ _ = .ok (.bipush 41, 2) by decide +kernel) (by decide) ?_
  refine fw_icmp_ne 59 (show decode _ _ = .ok (.if_icmp .ne 52, 3) by decide +kernel) (by decide) (fun hc26 => ?_) (fun hc26 => ?_)
  · have h_3 := ineg hc26 h_2
    refine fw_iconst (v := (0 : Int32)) (show decode _ _ = .ok (.iconst 0, 1) by decide +kernel) (by decide) ?_
    exact fw_ret (v := some (.int (0 : Int32))) .ireturn (show decode _ _ = .ok (.ireturn, 1) by decide +kernel) ⟨rfl, Or.inr (Or.inl ⟨rfl, rfl⟩)⟩ ⟨_, rfl, h_3⟩
  · have h_4 := ipos hc26 h_2
    refine fw_aload_n (i := 0) 0 rfl (show decode _ _ = .ok (.aload_n 0, 1) by decide +kernel) ?_
    obtain ⟨⟨hr7, n6, hs8⟩, h_5⟩ := h_4
    refine fw_getI (kd := 11) (k := 17) (show decode _ _ = .ok (.getfield 138, 3) by decide +kernel) gf_X11_138 hr7 hs8 (Or.inl rfl) ?_
    refine fw_if_eq 55 (show decode _ _ = .ok (.ifCond .eq 41, 3) by decide +kernel) (by decide) (fun hc25 => ?_) (fun hc25 => ?_)
    · have h_6 := ipos hc25 h_5
      refine fw_iconst (v := (1 : Int32)) (show decode _ _ = .ok (.iconst 1, 1) by decide +kernel) (by decide) ?_
      refine fw_goto 60 (show decode _ _ = .ok (.goto 4, 3) by decide +kernel) (by decide) ?_
      exact fw_ret (v := some (.int (1 : Int32))) .ireturn (show decode _ _ = .ok (.ireturn, 1) by decide +kernel) ⟨rfl, Or.inr (Or.inl ⟨rfl, rfl⟩)⟩ ⟨_, rfl, h_6⟩
    · have h_7 := ineg hc25 h_5
      refine fw_aload_n (i := 0) 0 rfl (show decode _ _ = .ok (.aload_n 0, 1) by decide +kernel) ?_
      refine fw_getP (kd := 11) (k := 16) (show decode _ _ = .ok (.getfield 29, 3) by decide +kernel) gf_X11_29 hr7 hs8 rfl ?_
      have h_8 := dR_e h_7
      obtain ⟨y9, hy10, h_9⟩ := h_8
      refine fw_deref hy10 ?_
      refine fw_aload_n (i := 0) 0 rfl (show decode _ _ = .ok (.aload_n 0, 1) by decide +kernel) ?_
      refine fw_getI (kd := 11) (k := 17) (show decode _ _ = .ok (.getfield 138, 3) by decide +kernel) gf_X11_138 hr7 hs8 (Or.inl rfl) ?_
      refine fw_iconst (v := (1 : Int32)) (show decode _ _ = .ok (.iconst 1, 1) by decide +kernel) (by decide) ?_
      refine fw_isub (show decode _ _ = .ok (.isub, 1) by decide +kernel) ?_
      obtain ⟨⟨n11, hs12, hi13⟩, h_10⟩ := h_9
      refine fw_iald (show decode _ _ = .ok (.iaload, 1) by decide +kernel) hs12 hi13 ?_
      refine fw_bipush (v := (41 : Int32)) (show decode _ _ = .ok (.bipush 41, 2) by decide +kernel) (by decide) ?_
      refine fw_icmp_eq 55 (show decode _ _ = .ok (.if_icmp .eq 25, 3) by decide +kernel) (by decide) (fun hc24 => ?_) (fun hc24 => ?_)
      · have h_11 := ipos hc24 h_10
        refine fw_iconst (v := (1 : Int32)) (show decode _ _ = .ok (.iconst 1, 1) by decide +kernel) (by decide) ?_
        refine fw_goto 60 (show decode _ _ = .ok (.goto 4, 3) by decide +kernel) (by decide) ?_
        exact fw_ret (v := some (.int (1 : Int32))) .ireturn (show decode _ _ = .ok (.ireturn, 1) by decide +kernel) ⟨rfl, Or.inr (Or.inl ⟨rfl, rfl⟩)⟩ ⟨_, rfl, h_11⟩
      · have h_12 := ineg hc24 h_10
        refine fw_aload_n (i := 0) 0 rfl (show decode _ _ = .ok (.aload_n 0, 1) by decide +kernel) ?_
        refine fw_getP (kd := 11) (k := 16) (show decode _ _ = .ok (.getfield 29, 3) by decide +kernel) gf_X11_29 hr7 hs8 rfl ?_
        have h_13 := dR_e h_12
        obtain ⟨y14, hy15, h_14⟩ := h_13
        refine fw_deref hy15 ?_
        refine fw_aload_n (i := 0) 0 rfl (show decode _ _ = .ok (.aload_n 0, 1) by decide +kernel) ?_
        refine fw_getI (kd := 11) (k := 17) (show decode _ _ = .ok (.getfield 138, 3) by decide +kernel) gf_X11_138 hr7 hs8 (Or.inl rfl) ?_
        refine fw_iconst (v := (1 : Int32)) (show decode _ _ = .ok (.iconst 1, 1) by decide +kernel) (by decide) ?_
        refine fw_isub (show decode _ _ = .ok (.isub, 1) by decide +kernel) ?_
        obtain ⟨⟨n16, hs17, hi18⟩, h_15⟩ := h_14
        refine fw_iald (show decode _ _ = .ok (.iaload, 1) by decide +kernel) hs17 hi18 ?_
        refine fw_callS (mt' := mtX11_rank) (mc := 0) (ms := 0) (As := [.int (mI M1 y14 (ix ((mI M1 p0 17) - (1 : Int32))))]) (rest := []) 1 (show decode _ _ = .ok (.invokestatic 152, 3) by decide +kernel) cs_X11_152 rfl (Nat.le_of_ble_eq_true rfl) (s_X11_rank (d := d) (hd_le hd (by decide)) h_15) (by decide) (by decide) (kI (bc' := 0) (bs' := 0) (by decide) (by decide) (fun x20 M19 h_16 => ?_))
        refine fw_iconst (v := (1 : Int32)) (show decode _ _ = .ok (.iconst 1, 1) by decide +kernel) (by decide) ?_
        refine fw_iconst (v := (3 : Int32)) (show decode _ _ = .ok (.iconst 3, 1) by decide +kernel) (by decide) ?_
        refine fw_callS (mt' := mtX11_isIn) (mc := 0) (ms := 0) (As := [.int x20, .int (1 : Int32), .int (3 : Int32)]) (rest := []) 3 (show decode _ _ = .ok (.invokestatic 66, 3) by decide +kernel) cs_X11_66 rfl (Nat.le_of_ble_eq_true rfl) (s_X11_isIn (d := d) (hd_le hd (by decide)) h_16) (by decide) (by decide) (kI (bc' := 0) (bs' := 0) (by decide) (by decide) (fun x22 M21 h_17 => ?_))
        refine fw_if_eq 59 (show decode _ _ = .ok (.ifCond .eq 7, 3) by decide +kernel) (by decide) (fun hc23 => ?_) (fun hc23 => ?_)
        · have h_18 := ipos hc23 h_17
          refine fw_iconst (v := (0 : Int32)) (show decode _ _ = .ok (.iconst 0, 1) by decide +kernel) (by decide) ?_
          exact fw_ret (v := some (.int (0 : Int32))) .ireturn (show decode _ _ = .ok (.ireturn, 1) by decide +kernel) ⟨rfl, Or.inr (Or.inl ⟨rfl, rfl⟩)⟩ ⟨_, rfl, h_18⟩
        · have h_19 := ineg hc23 h_17
          refine fw_iconst (v := (1 : Int32)) (show decode _ _ = .ok (.iconst 1, 1) by decide +kernel) (by decide) ?_
          refine fw_goto 60 (show decode _ _ = .ok (.goto 4, 3) by decide +kernel) (by decide) ?_
          exact fw_ret (v := some (.int (1 : Int32))) .ireturn (show decode _ _ = .ok (.ireturn, 1) by decide +kernel) ⟨rfl, Or.inr (Or.inl ⟨rfl, rfl⟩)⟩ ⟨_, rfl, h_19⟩
def j_X11_beginOne_151 (φ : Int32 → fM → Prop) (p0 : Nat) (p1 : Int32) (M : fM) : Prop := w_X11_w3 (110 : Int32) (111 : Int32) (116 : Int32) M fun x2 M1 => isO M1 p0 11 ∧ w_X11_isWord p0 x2 M1 fun x7 M3 => iF (x7 = 0) (φ (1 : Int32) M3) (isO M3 p0 11 ∧ w_X11_isAskAhead p0 p1 M3 fun x12 M8 => iF (x12 = 0) (φ (1 : Int32) M8) (isO M8 p0 11 ∧ w_X11_opensBy p0 (20 : Int32) M8 fun x17 M13 => φ x17 M13))
set_option maxRecDepth 100000 in
theorem sj_X11_beginOne_151 {g : GT} {d : Nat} (hd : 5 ≤ d + 1) {φ : Int32 → fM → Prop} {p0 : Nat} {p1 : Int32} {M : fM} (h : j_X11_beginOne_151 φ p0 p1 M) : FW g mtX11_beginOne (d + 1) 151 [(0, .ref p0), (1, .int p1)] [] M 0 0 (rI φ) := by
  unfold j_X11_beginOne_151 at h
  refine fw_aload_n (i := 0) 0 rfl (show decode _ _ = .ok (.aload_n 0, 1) by decide +kernel) ?_
  refine fw_bipush (v := (110 : Int32)) (show decode _ _ = .ok (.bipush 110, 2) by decide +kernel) (by decide) ?_
  refine fw_bipush (v := (111 : Int32)) (show decode _ _ = .ok (.bipush 111, 2) by decide +kernel) (by decide) ?_
  refine fw_bipush (v := (116 : Int32)) (show decode _ _ = .ok (.bipush 116, 2) by decide +kernel) (by decide) ?_
  refine fw_callS (mt' := mtX11_w3) (mc := 0) (ms := 0) (As := [.int (110 : Int32), .int (111 : Int32), .int (116 : Int32)]) (rest := [.ref p0]) 3 (show decode _ _ = .ok (.invokestatic 124, 3) by decide +kernel) cs_X11_124 rfl (Nat.le_of_ble_eq_true rfl) (s_X11_w3 (d := d) (hd_le hd (by decide)) h) (by decide) (by decide) (kJ (bc' := 0) (bs' := 0) (by decide) (by decide) (fun x2 M1 h_1 => ?_))
  obtain ⟨⟨hr5, n4, hs6⟩, h_2⟩ := h_1
  refine fw_callV (mt' := mtX11_isWord) (mc := 0) (ms := 0) (As := [.long x2]) (rest := []) 1 11 n4 (show decode _ _ = .ok (.invokevirtual 196, 3) by decide +kernel) cv_X11_196 ⟨_, rfl, rfl⟩ hr5 hs6 rfl (Nat.le_of_ble_eq_true rfl) (s_X11_isWord (d := d) (hd_le hd (by decide)) h_2) (by decide) (by decide) (kI (bc' := 0) (bs' := 0) (by decide) (by decide) (fun x7 M3 h_3 => ?_))
  refine fw_if_eq 184 (show decode _ _ = .ok (.ifCond .eq 20, 3) by decide +kernel) (by decide) (fun hc19 => ?_) (fun hc19 => ?_)
  · have h_4 := ipos hc19 h_3
    refine fw_iconst (v := (1 : Int32)) (show decode _ _ = .ok (.iconst 1, 1) by decide +kernel) (by decide) ?_
    exact fw_ret (v := some (.int (1 : Int32))) .ireturn (show decode _ _ = .ok (.ireturn, 1) by decide +kernel) ⟨rfl, Or.inl rfl⟩ ⟨_, rfl, h_4⟩
  · have h_5 := ineg hc19 h_3
    refine fw_aload_n (i := 0) 0 rfl (show decode _ _ = .ok (.aload_n 0, 1) by decide +kernel) ?_
    refine fw_iload_n (i := 1) 1 rfl (show decode _ _ = .ok (.iload_n 1, 1) by decide +kernel) ?_
    obtain ⟨⟨hr10, n9, hs11⟩, h_6⟩ := h_5
    refine fw_callV (mt' := mtX11_isAskAhead) (mc := 0) (ms := 0) (As := [.int p1]) (rest := []) 1 11 n9 (show decode _ _ = .ok (.invokevirtual 200, 3) by decide +kernel) cv_X11_200 ⟨_, rfl, rfl⟩ hr10 hs11 rfl (Nat.le_of_ble_eq_true rfl) (s_X11_isAskAhead (d := d) (hd_le hd (by decide)) h_6) (by decide) (by decide) (kI (bc' := 0) (bs' := 0) (by decide) (by decide) (fun x12 M8 h_7 => ?_))
    refine fw_if_eq 184 (show decode _ _ = .ok (.ifCond .eq 12, 3) by decide +kernel) (by decide) (fun hc18 => ?_) (fun hc18 => ?_)
    · have h_8 := ipos hc18 h_7
      refine fw_iconst (v := (1 : Int32)) (show decode _ _ = .ok (.iconst 1, 1) by decide +kernel) (by decide) ?_
      exact fw_ret (v := some (.int (1 : Int32))) .ireturn (show decode _ _ = .ok (.ireturn, 1) by decide +kernel) ⟨rfl, Or.inl rfl⟩ ⟨_, rfl, h_8⟩
    · have h_9 := ineg hc18 h_7
      refine fw_aload_n (i := 0) 0 rfl (show decode _ _ = .ok (.aload_n 0, 1) by decide +kernel) ?_
      refine fw_bipush (v := (20 : Int32)) (show decode _ _ = .ok (.bipush 20, 2) by decide +kernel) (by decide) ?_
      obtain ⟨⟨hr15, n14, hs16⟩, h_10⟩ := h_9
      refine fw_callV (mt' := mtX11_opensBy) (mc := 0) (ms := 0) (As := [.int (20 : Int32)]) (rest := []) 1 11 n14 (show decode _ _ = .ok (.invokevirtual 191, 3) by decide +kernel) cv_X11_191 ⟨_, rfl, rfl⟩ hr15 hs16 rfl (Nat.le_of_ble_eq_true rfl) (s_X11_opensBy (d := d) (hd_le hd (by decide)) h_10) (by decide) (by decide) (kI (bc' := 0) (bs' := 0) (by decide) (by decide) (fun x17 M13 h_11 => ?_))
      refine fw_goto 185 (show decode _ _ = .ok (.goto 4, 3) by decide +kernel) (by decide) ?_
      exact fw_ret (v := some (.int x17)) .ireturn (show decode _ _ = .ok (.ireturn, 1) by decide +kernel) ⟨rfl, Or.inl rfl⟩ ⟨_, rfl, h_11⟩
def j_X11_beginOne_81 (φ : Int32 → fM → Prop) (p0 : Nat) (s0 : Int32) (s1 : Int32) (s2 : Nat) (M : fM) : Prop := isO M s2 11 ∧ w_X11_emit s2 s1 s0 M fun M20 => isO M20 p0 11 ∧ w_X11_nextToken p0 M20 fun M24 => isO M24 p0 11 ∧ w_X11_whole p0 M24 fun M28 => φ (0 : Int32) M28
set_option maxRecDepth 100000 in
theorem sj_X11_beginOne_81 {g : GT} {d : Nat} (hd : 5 ≤ d + 1) {φ : Int32 → fM → Prop} {p0 : Nat} {s0 : Int32} {s1 : Int32} {s2 : Nat} {M : fM} (h : j_X11_beginOne_81 φ p0 s0 s1 s2 M) : FW g mtX11_beginOne (d + 1) 81 [(0, .ref p0)] [.int s0, .int s1, .ref s2] M 0 0 (rI φ) := by
  unfold j_X11_beginOne_81 at h
  obtain ⟨⟨hr22, n21, hs23⟩, h_1⟩ := h
  refine fw_callV (mt' := mtX11_emit) (mc := 0) (ms := 0) (As := [.int s1, .int s0]) (rest := []) 2 11 n21 (show decode _ _ = .ok (.invokevirtual 155, 3) by decide +kernel) cv_X11_155 ⟨_, rfl, rfl⟩ hr22 hs23 rfl (Nat.le_of_ble_eq_true rfl) (s_X11_emit (d := d) (hd_le hd (by decide)) h_1) (by decide) (by decide) (kV (bc' := 0) (bs' := 0) (by decide) (by decide) (fun M20 h_2 => ?_))
  refine fw_aload_n (i := 0) 0 rfl (show decode _ _ = .ok (.aload_n 0, 1) by decide +kernel) ?_
  obtain ⟨⟨hr26, n25, hs27⟩, h_3⟩ := h_2
  refine fw_callV (mt' := mtX11_nextToken) (mc := 0) (ms := 0) (As := []) (rest := []) 0 11 n25 (show decode _ _ = .ok (.invokevirtual 179, 3) by decide +kernel) cv_X11_179 ⟨_, rfl, rfl⟩ hr26 hs27 rfl (Nat.le_of_ble_eq_true rfl) (s_X11_nextToken (d := d) (hd_le hd (by decide)) h_3) (by decide) (by decide) (kV (bc' := 0) (bs' := 0) (by decide) (by decide) (fun M24 h_4 => ?_))
  refine fw_aload_n (i := 0) 0 rfl (show decode _ _ = .ok (.aload_n 0, 1) by decide +kernel) ?_
  obtain ⟨⟨hr30, n29, hs31⟩, h_5⟩ := h_4
  refine fw_callV (mt' := mtX11_whole) (mc := 0) (ms := 0) (As := []) (rest := []) 0 11 n29 (show decode _ _ = .ok (.invokevirtual 188, 3) by decide +kernel) cv_X11_188 ⟨_, rfl, rfl⟩ hr30 hs31 rfl (Nat.le_of_ble_eq_true rfl) (s_X11_whole (d := d) (hd_le hd (by decide)) h_5) (by decide) (by decide) (kV (bc' := 0) (bs' := 0) (by decide) (by decide) (fun M28 h_6 => ?_))
  refine fw_iconst (v := (0 : Int32)) (show decode _ _ = .ok (.iconst 0, 1) by decide +kernel) (by decide) ?_
  exact fw_ret (v := some (.int (0 : Int32))) .ireturn (show decode _ _ = .ok (.ireturn, 1) by decide +kernel) ⟨rfl, Or.inl rfl⟩ ⟨_, rfl, h_6⟩
def j_X11_beginOne_65 (φ : Int32 → fM → Prop) (p0 : Nat) (p2 : Int32) (s0 : Int32) (s1 : Nat) (M : fM) : Prop := isO M p0 11 ∧ iF ((mI M p0 9) = (1 : Int32)) (j_X11_beginOne_81 φ p0 (mI M p0 10) s0 s1 M) (j_X11_beginOne_81 φ p0 p2 s0 s1 M)
set_option maxRecDepth 100000 in
theorem sj_X11_beginOne_65 {g : GT} {d : Nat} (hd : 5 ≤ d + 1) {φ : Int32 → fM → Prop} {p0 : Nat} {p2 : Int32} {s0 : Int32} {s1 : Nat} {M : fM} (h : j_X11_beginOne_65 φ p0 p2 s0 s1 M) : FW g mtX11_beginOne (d + 1) 65 [(0, .ref p0), (2, .int p2)] [.int s0, .ref s1] M 0 0 (rI φ) := by
  unfold j_X11_beginOne_65 at h
  refine fw_aload_n (i := 0) 0 rfl (show decode _ _ = .ok (.aload_n 0, 1) by decide +kernel) ?_
  obtain ⟨⟨hr33, n32, hs34⟩, h_1⟩ := h
  refine fw_getI (kd := 11) (k := 9) (show decode _ _ = .ok (.getfield 107, 3) by decide +kernel) gf_X11_107 hr33 hs34 (Or.inl rfl) ?_
  refine fw_iconst (v := (1 : Int32)) (show decode _ _ = .ok (.iconst 1, 1) by decide +kernel) (by decide) ?_
  refine fw_icmp_ne 80 (show decode _ _ = .ok (.if_icmp .ne 10, 3) by decide +kernel) (by decide) (fun hc35 => ?_) (fun hc35 => ?_)
  · have h_2 := ineg hc35 h_1
    refine fw_iload_n (i := 2) 1 rfl (show decode _ _ = .ok (.iload_n 2, 1) by decide +kernel) ?_
    refine FW.sub [0] (ls' := [(0, .ref p0)]) rfl ?_
    exact sj_X11_beginOne_81 hd h_2
  · have h_3 := ipos hc35 h_1
    refine fw_aload_n (i := 0) 0 rfl (show decode _ _ = .ok (.aload_n 0, 1) by decide +kernel) ?_
    refine fw_getI (kd := 11) (k := 10) (show decode _ _ = .ok (.getfield 113, 3) by decide +kernel) gf_X11_113 hr33 hs34 (Or.inl rfl) ?_
    refine fw_goto 81 (show decode _ _ = .ok (.goto 4, 3) by decide +kernel) (by decide) ?_
    refine FW.sub [0] (ls' := [(0, .ref p0)]) rfl ?_
    exact sj_X11_beginOne_81 hd h_3
def j_X11_beginOne_51 (φ : Int32 → fM → Prop) (p0 : Nat) (p2 : Int32) (M : fM) : Prop := isO M p0 11 ∧ iF ((mI M p0 9) = (1 : Int32)) (j_X11_beginOne_65 φ p0 p2 (0 : Int32) p0 M) (j_X11_beginOne_65 φ p0 p2 (1 : Int32) p0 M)
set_option maxRecDepth 100000 in
theorem sj_X11_beginOne_51 {g : GT} {d : Nat} (hd : 5 ≤ d + 1) {φ : Int32 → fM → Prop} {p0 : Nat} {p2 : Int32} {M : fM} (h : j_X11_beginOne_51 φ p0 p2 M) : FW g mtX11_beginOne (d + 1) 51 [(0, .ref p0), (2, .int p2)] [] M 0 0 (rI φ) := by
  unfold j_X11_beginOne_51 at h
  refine fw_aload_n (i := 0) 0 rfl (show decode _ _ = .ok (.aload_n 0, 1) by decide +kernel) ?_
  refine fw_aload_n (i := 0) 0 rfl (show decode _ _ = .ok (.aload_n 0, 1) by decide +kernel) ?_
  obtain ⟨⟨hr37, n36, hs38⟩, h_1⟩ := h
  refine fw_getI (kd := 11) (k := 9) (show decode _ _ = .ok (.getfield 107, 3) by decide +kernel) gf_X11_107 hr37 hs38 (Or.inl rfl) ?_
  refine fw_iconst (v := (1 : Int32)) (show decode _ _ = .ok (.iconst 1, 1) by decide +kernel) (by decide) ?_
  refine fw_icmp_ne 64 (show decode _ _ = .ok (.if_icmp .ne 7, 3) by decide +kernel) (by decide) (fun hc39 => ?_) (fun hc39 => ?_)
  · have h_2 := ineg hc39 h_1
    refine fw_iconst (v := (1 : Int32)) (show decode _ _ = .ok (.iconst 1, 1) by decide +kernel) (by decide) ?_
    refine FW.sub [0, 1] (ls' := [(0, .ref p0), (2, .int p2)]) rfl ?_
    exact sj_X11_beginOne_65 hd h_2
  · have h_3 := ipos hc39 h_1
    refine fw_iconst (v := (0 : Int32)) (show decode _ _ = .ok (.iconst 0, 1) by decide +kernel) (by decide) ?_
    refine fw_goto 65 (show decode _ _ = .ok (.goto 4, 3) by decide +kernel) (by decide) ?_
    refine FW.sub [0, 1] (ls' := [(0, .ref p0), (2, .int p2)]) rfl ?_
    exact sj_X11_beginOne_65 hd h_3
def j_X11_beginOne_39 (φ : Int32 → fM → Prop) (p0 : Nat) (p1 : Int32) (p2 : Int32) (M : fM) : Prop := isO M p0 11 ∧ iF ((mI M p0 9) = (1 : Int32)) (j_X11_beginOne_51 φ p0 p2 M) (iF (p2 < 0) (iF ((mI M p0 9) = (40 : Int32)) (w_X11_opensBy p0 (40 : Int32) M fun x51 M50 => φ x51 M50) (iF ((mI M p0 9) = (45 : Int32)) (w_X11_opensBy p0 (3 : Int32) M fun x48 M47 => φ x48 M47) (iF ((mI M p0 9) = (2 : Int32)) (iF ((lg_cmp (mJ M p0 11) (26982 : Int64)) = 0) (w_X11_opensBy p0 (41 : Int32) M fun x44 M43 => φ x44 M43) (j_X11_beginOne_151 φ p0 p1 M)) (j_X11_beginOne_151 φ p0 p1 M)))) (j_X11_beginOne_51 φ p0 p2 M))
set_option maxRecDepth 100000 in
theorem sj_X11_beginOne_39 {g : GT} {d : Nat} (hd : 5 ≤ d + 1) {φ : Int32 → fM → Prop} {p0 : Nat} {p1 : Int32} {p2 : Int32} {M : fM} (h : j_X11_beginOne_39 φ p0 p1 p2 M) : FW g mtX11_beginOne (d + 1) 39 [(0, .ref p0), (1, .int p1), (2, .int p2)] [] M 0 0 (rI φ) := by
  unfold j_X11_beginOne_39 at h
  refine fw_aload_n (i := 0) 0 rfl (show decode _ _ = .ok (.aload_n 0, 1) by decide +kernel) ?_
  obtain ⟨⟨hr41, n40, hs42⟩, h_1⟩ := h
  refine fw_getI (kd := 11) (k := 9) (show decode _ _ = .ok (.getfield 107, 3) by decide +kernel) gf_X11_107 hr41 hs42 (Or.inl rfl) ?_
  refine fw_iconst (v := (1 : Int32)) (show decode _ _ = .ok (.iconst 1, 1) by decide +kernel) (by decide) ?_
  refine fw_icmp_eq 51 (show decode _ _ = .ok (.if_icmp .eq 7, 3) by decide +kernel) (by decide) (fun hc54 => ?_) (fun hc54 => ?_)
  · have h_2 := ipos hc54 h_1
    refine FW.sub [0, 2] (ls' := [(0, .ref p0), (2, .int p2)]) rfl ?_
    exact sj_X11_beginOne_51 hd h_2
  · have h_3 := ineg hc54 h_1
    refine fw_iload_n (i := 2) 2 rfl (show decode _ _ = .ok (.iload_n 2, 1) by decide +kernel) ?_
    refine fw_if_lt 94 (show decode _ _ = .ok (.ifCond .lt 46, 3) by decide +kernel) (by decide) (fun hc53 => ?_) (fun hc53 => ?_)
    · have h_4 := ipos hc53 h_3
      refine fw_aload_n (i := 0) 0 rfl (show decode _ _ = .ok (.aload_n 0, 1) by decide +kernel) ?_
      refine fw_getI (kd := 11) (k := 9) (show decode _ _ = .ok (.getfield 107, 3) by decide +kernel) gf_X11_107 hr41 hs42 (Or.inl rfl) ?_
      refine fw_bipush (v := (40 : Int32)) (show decode _ _ = .ok (.bipush 40, 2) by decide +kernel) (by decide) ?_
      refine fw_icmp_ne 110 (show decode _ _ = .ok (.if_icmp .ne 10, 3) by decide +kernel) (by decide) (fun hc52 => ?_) (fun hc52 => ?_)
      · have h_5 := ineg hc52 h_4
        refine fw_aload_n (i := 0) 0 rfl (show decode _ _ = .ok (.aload_n 0, 1) by decide +kernel) ?_
        refine fw_getI (kd := 11) (k := 9) (show decode _ _ = .ok (.getfield 107, 3) by decide +kernel) gf_X11_107 hr41 hs42 (Or.inl rfl) ?_
        refine fw_bipush (v := (45 : Int32)) (show decode _ _ = .ok (.bipush 45, 2) by decide +kernel) (by decide) ?_
        refine fw_icmp_ne 125 (show decode _ _ = .ok (.if_icmp .ne 9, 3) by decide +kernel) (by decide) (fun hc49 => ?_) (fun hc49 => ?_)
        · have h_6 := ineg hc49 h_5
          refine fw_aload_n (i := 0) 0 rfl (show decode _ _ = .ok (.aload_n 0, 1) by decide +kernel) ?_
          refine fw_getI (kd := 11) (k := 9) (show decode _ _ = .ok (.getfield 107, 3) by decide +kernel) gf_X11_107 hr41 hs42 (Or.inl rfl) ?_
          refine fw_iconst (v := (2 : Int32)) (show decode _ _ = .ok (.iconst 2, 1) by decide +kernel) (by decide) ?_
          refine fw_icmp_ne 151 (show decode _ _ = .ok (.if_icmp .ne 21, 3) by decide +kernel) (by decide) (fun hc46 => ?_) (fun hc46 => ?_)
          · have h_7 := ineg hc46 h_6
            refine FW.sub [0, 1] (ls' := [(0, .ref p0), (1, .int p1)]) rfl ?_
            exact sj_X11_beginOne_151 hd h_7
          · have h_8 := ipos hc46 h_6
            refine fw_aload_n (i := 0) 0 rfl (show decode _ _ = .ok (.aload_n 0, 1) by decide +kernel) ?_
            refine fw_getJ (kd := 11) (k := 11) (show decode _ _ = .ok (.getfield 120, 3) by decide +kernel) gf_X11_120 hr41 hs42 rfl ?_
            refine fw_ldc2 (idx := 194) (v := (26982 : Int64)) (show decode _ _ = .ok (.ldc2_w 194, 3) by decide +kernel) wd1670 ?_
            refine fw_lcmp (show decode _ _ = .ok (.lcmp, 1) by decide +kernel) ?_
            refine fw_if_ne 151 (show decode _ _ = .ok (.ifCond .ne 10, 3) by decide +kernel) (by decide) (fun hc45 => ?_) (fun hc45 => ?_)
            · have h_9 := ineg hc45 h_8
              refine FW.sub [0, 1] (ls' := [(0, .ref p0), (1, .int p1)]) rfl ?_
              exact sj_X11_beginOne_151 hd h_9
            · have h_10 := ipos hc45 h_8
              refine fw_aload_n (i := 0) 0 rfl (show decode _ _ = .ok (.aload_n 0, 1) by decide +kernel) ?_
              refine fw_bipush (v := (41 : Int32)) (show decode _ _ = .ok (.bipush 41, 2) by decide +kernel) (by decide) ?_
              refine fw_callV (mt' := mtX11_opensBy) (mc := 0) (ms := 0) (As := [.int (41 : Int32)]) (rest := []) 1 11 n40 (show decode _ _ = .ok (.invokevirtual 191, 3) by decide +kernel) cv_X11_191 ⟨_, rfl, rfl⟩ hr41 hs42 rfl (Nat.le_of_ble_eq_true rfl) (s_X11_opensBy (d := d) (hd_le hd (by decide)) h_10) (by decide) (by decide) (kI (bc' := 0) (bs' := 0) (by decide) (by decide) (fun x44 M43 h_11 => ?_))
              exact fw_ret (v := some (.int x44)) .ireturn (show decode _ _ = .ok (.ireturn, 1) by decide +kernel) ⟨rfl, Or.inl rfl⟩ ⟨_, rfl, h_11⟩
        · have h_12 := ipos hc49 h_5
          refine fw_aload_n (i := 0) 0 rfl (show decode _ _ = .ok (.aload_n 0, 1) by decide +kernel) ?_
          refine fw_iconst (v := (3 : Int32)) (show decode _ _ = .ok (.iconst 3, 1) by decide +kernel) (by decide) ?_
          refine fw_callV (mt' := mtX11_opensBy) (mc := 0) (ms := 0) (As := [.int (3 : Int32)]) (rest := []) 1 11 n40 (show decode _ _ = .ok (.invokevirtual 191, 3) by decide +kernel) cv_X11_191 ⟨_, rfl, rfl⟩ hr41 hs42 rfl (Nat.le_of_ble_eq_true rfl) (s_X11_opensBy (d := d) (hd_le hd (by decide)) h_12) (by decide) (by decide) (kI (bc' := 0) (bs' := 0) (by decide) (by decide) (fun x48 M47 h_13 => ?_))
          exact fw_ret (v := some (.int x48)) .ireturn (show decode _ _ = .ok (.ireturn, 1) by decide +kernel) ⟨rfl, Or.inl rfl⟩ ⟨_, rfl, h_13⟩
      · have h_14 := ipos hc52 h_4
        refine fw_aload_n (i := 0) 0 rfl (show decode _ _ = .ok (.aload_n 0, 1) by decide +kernel) ?_
        refine fw_bipush (v := (40 : Int32)) (show decode _ _ = .ok (.bipush 40, 2) by decide +kernel) (by decide) ?_
        refine fw_callV (mt' := mtX11_opensBy) (mc := 0) (ms := 0) (As := [.int (40 : Int32)]) (rest := []) 1 11 n40 (show decode _ _ = .ok (.invokevirtual 191, 3) by decide +kernel) cv_X11_191 ⟨_, rfl, rfl⟩ hr41 hs42 rfl (Nat.le_of_ble_eq_true rfl) (s_X11_opensBy (d := d) (hd_le hd (by decide)) h_14) (by decide) (by decide) (kI (bc' := 0) (bs' := 0) (by decide) (by decide) (fun x51 M50 h_15 => ?_))
        exact fw_ret (v := some (.int x51)) .ireturn (show decode _ _ = .ok (.ireturn, 1) by decide +kernel) ⟨rfl, Or.inl rfl⟩ ⟨_, rfl, h_15⟩
    · have h_16 := ineg hc53 h_3
      refine FW.sub [0, 2] (ls' := [(0, .ref p0), (2, .int p2)]) rfl ?_
      exact sj_X11_beginOne_51 hd h_16
def j_X11_beginOne_20 (φ : Int32 → fM → Prop) (p0 : Nat) (p1 : Int32) (M : fM) : Prop := isO M p0 11 ∧ w_X11_nameOf p0 M fun x59 M55 => iF (x59 < 0) (j_X11_beginOne_39 φ p0 p1 x59 M55) (isO M55 p0 11 ∧ w_X11_isOf p0 x59 M55 fun x64 M60 => iF (x64 = 0) (φ (5 : Int32) M60) (j_X11_beginOne_39 φ p0 p1 x59 M60))
set_option maxRecDepth 100000 in
theorem sj_X11_beginOne_20 {g : GT} {d : Nat} (hd : 5 ≤ d + 1) {φ : Int32 → fM → Prop} {p0 : Nat} {p1 : Int32} {M : fM} (h : j_X11_beginOne_20 φ p0 p1 M) : FW g mtX11_beginOne (d + 1) 20 [(0, .ref p0), (1, .int p1)] [] M 0 0 (rI φ) := by
  unfold j_X11_beginOne_20 at h
  refine fw_aload_n (i := 0) 0 rfl (show decode _ _ = .ok (.aload_n 0, 1) by decide +kernel) ?_
  obtain ⟨⟨hr57, n56, hs58⟩, h_1⟩ := h
  refine fw_callV (mt' := mtX11_nameOf) (mc := 0) (ms := 0) (As := []) (rest := []) 0 11 n56 (show decode _ _ = .ok (.invokevirtual 182, 3) by decide +kernel) cv_X11_182 ⟨_, rfl, rfl⟩ hr57 hs58 rfl (Nat.le_of_ble_eq_true rfl) (s_X11_nameOf (d := d) (hd_le hd (by decide)) h_1) (by decide) (by decide) (kI (bc' := 0) (bs' := 0) (by decide) (by decide) (fun x59 M55 h_2 => ?_))
  refine fw_istore_n (i := 2) (ls' := [(2, .int x59), (0, .ref p0), (1, .int p1)]) (show decode _ _ = .ok (.istore_n 2, 1) by decide +kernel) (by decide) rfl ?_
  refine fw_iload_n (i := 2) 0 rfl (show decode _ _ = .ok (.iload_n 2, 1) by decide +kernel) ?_
  refine fw_if_lt 39 (show decode _ _ = .ok (.ifCond .lt 13, 3) by decide +kernel) (by decide) (fun hc66 => ?_) (fun hc66 => ?_)
  · have h_3 := ipos hc66 h_2
    refine FW.sub [1, 2, 0] (ls' := [(0, .ref p0), (1, .int p1), (2, .int x59)]) rfl ?_
    exact sj_X11_beginOne_39 hd h_3
  · have h_4 := ineg hc66 h_2
    refine fw_aload_n (i := 0) 1 rfl (show decode _ _ = .ok (.aload_n 0, 1) by decide +kernel) ?_
    refine fw_iload_n (i := 2) 0 rfl (show decode _ _ = .ok (.iload_n 2, 1) by decide +kernel) ?_
    obtain ⟨⟨hr62, n61, hs63⟩, h_5⟩ := h_4
    refine fw_callV (mt' := mtX11_isOf) (mc := 0) (ms := 0) (As := [.int x59]) (rest := []) 1 11 n61 (show decode _ _ = .ok (.invokevirtual 185, 3) by decide +kernel) cv_X11_185 ⟨_, rfl, rfl⟩ hr62 hs63 rfl (Nat.le_of_ble_eq_true rfl) (s_X11_isOf (d := d) (hd_le hd (by decide)) h_5) (by decide) (by decide) (kI (bc' := 0) (bs' := 0) (by decide) (by decide) (fun x64 M60 h_6 => ?_))
    refine fw_if_ne 39 (show decode _ _ = .ok (.ifCond .ne 5, 3) by decide +kernel) (by decide) (fun hc65 => ?_) (fun hc65 => ?_)
    · have h_7 := ineg hc65 h_6
      refine FW.sub [1, 2, 0] (ls' := [(0, .ref p0), (1, .int p1), (2, .int x59)]) rfl ?_
      exact sj_X11_beginOne_39 hd h_7
    · have h_8 := ipos hc65 h_6
      refine fw_iconst (v := (5 : Int32)) (show decode _ _ = .ok (.iconst 5, 1) by decide +kernel) (by decide) ?_
      exact fw_ret (v := some (.int (5 : Int32))) .ireturn (show decode _ _ = .ok (.ireturn, 1) by decide +kernel) ⟨rfl, Or.inl rfl⟩ ⟨_, rfl, h_8⟩
def w_X11_beginOne (p0 : Nat) (p1 : Int32) (M : fM) (φ : Int32 → fM → Prop) : Prop := isO M p0 11 ∧ iF ((mI M p0 9) = (1 : Int32)) (iF ((mI M p0 10) ≤ (9999 : Int32)) (j_X11_beginOne_20 φ p0 p1 M) (φ (2 : Int32) M)) (j_X11_beginOne_20 φ p0 p1 M)
set_option maxRecDepth 100000 in
theorem s_X11_beginOne {g : GT} {d : Nat} (hd : 5 ≤ d) {p0 : Nat} {p1 : Int32} {M : fM} {φ : Int32 → fM → Prop} (h : w_X11_beginOne p0 p1 M φ) : FC g mtX11_beginOne d [.ref p0, .int p1] M 0 0 (rI φ) := by
  obtain ⟨d, rfl⟩ : ∃ e, d = e + 1 := ⟨d - 1, by omega⟩
  unfold w_X11_beginOne at h
  refine FC.intro (nL := 3) (by decide) rfl (Nat.le_of_ble_eq_true rfl) ?_
  show FW g mtX11_beginOne (d + 1) 0 [(0, .ref p0), (1, .int p1)] [] M 0 0 (rI φ)
  refine fw_aload_n (i := 0) 0 rfl (show decode _ _ = .ok (.aload_n 0, 1) by decide +kernel) ?_
  obtain ⟨⟨hr68, n67, hs69⟩, h_1⟩ := h
  refine fw_getI (kd := 11) (k := 9) (show decode _ _ = .ok (.getfield 107, 3) by decide +kernel) gf_X11_107 hr68 hs69 (Or.inl rfl) ?_
  refine fw_iconst (v := (1 : Int32)) (show decode _ _ = .ok (.iconst 1, 1) by decide +kernel) (by decide) ?_
  refine fw_icmp_ne 20 (show decode _ _ = .ok (.if_icmp .ne 15, 3) by decide +kernel) (by decide) (fun hc71 => ?_) (fun hc71 => ?_)
  · have h_2 := ineg hc71 h_1
    refine FW.sub [0, 1] (ls' := [(0, .ref p0), (1, .int p1)]) rfl ?_
    exact sj_X11_beginOne_20 hd h_2
  · have h_3 := ipos hc71 h_1
    refine fw_aload_n (i := 0) 0 rfl (show decode _ _ = .ok (.aload_n 0, 1) by decide +kernel) ?_
    refine fw_getI (kd := 11) (k := 10) (show decode _ _ = .ok (.getfield 113, 3) by decide +kernel) gf_X11_113 hr68 hs69 (Or.inl rfl) ?_
    refine fw_sipush (v := (9999 : Int32)) (show decode _ _ = .ok (.sipush 9999, 3) by decide +kernel) (by decide) ?_
    refine fw_icmp_le 20 (show decode _ _ = .ok (.if_icmp .le 5, 3) by decide +kernel) (by decide) (fun hc70 => ?_) (fun hc70 => ?_)
    · have h_4 := ipos hc70 h_3
      refine FW.sub [0, 1] (ls' := [(0, .ref p0), (1, .int p1)]) rfl ?_
      exact sj_X11_beginOne_20 hd h_4
    · have h_5 := ineg hc70 h_3
      refine fw_iconst (v := (2 : Int32)) (show decode _ _ = .ok (.iconst 2, 1) by decide +kernel) (by decide) ?_
      exact fw_ret (v := some (.int (2 : Int32))) .ireturn (show decode _ _ = .ok (.ireturn, 1) by decide +kernel) ⟨rfl, Or.inl rfl⟩ ⟨_, rfl, h_5⟩
def j_X11_isCompared_30 (φ : Int32 → fM → Prop) (p0 : Nat) (p1 : Int32) (M : fM) : Prop := iF (p1 < 0) (φ (0 : Int32) M) (isO M p0 11 ∧ dR (mP M p0 16) fun y4 => inA M y4 12 p1 ∧ w_X11_rank (mI M y4 (ix p1)) M fun x10 M9 => iF (x10 = (4 : Int32)) (φ (1 : Int32) M9) (φ (0 : Int32) M9))
set_option maxRecDepth 100000 in
theorem sj_X11_isCompared_30 {g : GT} {d : Nat} (hd : 2 ≤ d + 1) {φ : Int32 → fM → Prop} {p0 : Nat} {p1 : Int32} {M : fM} (h : j_X11_isCompared_30 φ p0 p1 M) : FW g mtX11_isCompared (d + 1) 30 [(0, .ref p0), (1, .int p1)] [] M 0 0 (rI φ) := by
  unfold j_X11_isCompared_30 at h
  refine fw_iload_n (i := 1) 1 rfl (show decode _ _ = .ok (.iload_n 1, 1) by decide +kernel) ?_
  refine fw_if_lt 51 (show decode _ _ = .ok (.ifCond .lt 20, 3) by decide +kernel) (by decide) (fun hc12 => ?_) (fun hc12 => ?_)
  · have h_1 := ipos hc12 h
    refine fw_iconst (v := (0 : Int32)) (show decode _ _ = .ok (.iconst 0, 1) by decide +kernel) (by decide) ?_
    exact fw_ret (v := some (.int (0 : Int32))) .ireturn (show decode _ _ = .ok (.ireturn, 1) by decide +kernel) ⟨rfl, Or.inr (Or.inl ⟨rfl, rfl⟩)⟩ ⟨_, rfl, h_1⟩
  · have h_2 := ineg hc12 h
    refine fw_aload_n (i := 0) 0 rfl (show decode _ _ = .ok (.aload_n 0, 1) by decide +kernel) ?_
    obtain ⟨⟨hr2, n1, hs3⟩, h_3⟩ := h_2
    refine fw_getP (kd := 11) (k := 16) (show decode _ _ = .ok (.getfield 29, 3) by decide +kernel) gf_X11_29 hr2 hs3 rfl ?_
    have h_4 := dR_e h_3
    obtain ⟨y4, hy5, h_5⟩ := h_4
    refine fw_deref hy5 ?_
    refine fw_iload_n (i := 1) 1 rfl (show decode _ _ = .ok (.iload_n 1, 1) by decide +kernel) ?_
    obtain ⟨⟨n6, hs7, hi8⟩, h_6⟩ := h_5
    refine fw_iald (show decode _ _ = .ok (.iaload, 1) by decide +kernel) hs7 hi8 ?_
    refine fw_callS (mt' := mtX11_rank) (mc := 0) (ms := 0) (As := [.int (mI M y4 (ix p1))]) (rest := []) 1 (show decode _ _ = .ok (.invokestatic 152, 3) by decide +kernel) cs_X11_152 rfl (Nat.le_of_ble_eq_true rfl) (s_X11_rank (d := d) (hd_le hd (by decide)) h_6) (by decide) (by decide) (kI (bc' := 0) (bs' := 0) (by decide) (by decide) (fun x10 M9 h_7 => ?_))
    refine fw_iconst (v := (4 : Int32)) (show decode _ _ = .ok (.iconst 4, 1) by decide +kernel) (by decide) ?_
    refine fw_icmp_ne 51 (show decode _ _ = .ok (.if_icmp .ne 7, 3) by decide +kernel) (by decide) (fun hc11 => ?_) (fun hc11 => ?_)
    · have h_8 := ineg hc11 h_7
      refine fw_iconst (v := (0 : Int32)) (show decode _ _ = .ok (.iconst 0, 1) by decide +kernel) (by decide) ?_
      exact fw_ret (v := some (.int (0 : Int32))) .ireturn (show decode _ _ = .ok (.ireturn, 1) by decide +kernel) ⟨rfl, Or.inr (Or.inl ⟨rfl, rfl⟩)⟩ ⟨_, rfl, h_8⟩
    · have h_9 := ipos hc11 h_7
      refine fw_iconst (v := (1 : Int32)) (show decode _ _ = .ok (.iconst 1, 1) by decide +kernel) (by decide) ?_
      refine fw_goto 52 (show decode _ _ = .ok (.goto 4, 3) by decide +kernel) (by decide) ?_
      exact fw_ret (v := some (.int (1 : Int32))) .ireturn (show decode _ _ = .ok (.ireturn, 1) by decide +kernel) ⟨rfl, Or.inr (Or.inl ⟨rfl, rfl⟩)⟩ ⟨_, rfl, h_9⟩
def b_X11_isCompared_7 (K7 : Nat → Int32 → fM → Prop) (φ : Int32 → fM → Prop) (p0 : Nat) (p1 : Int32) (M : fM) : Prop := iF (p1 < 0) (j_X11_isCompared_30 φ p0 p1 M) (isO M p0 11 ∧ dR (mP M p0 16) fun y16 => inA M y16 12 p1 ∧ w_X11_rank (mI M y16 (ix p1)) M fun x22 M21 => iF (x22 ≤ (4 : Int32)) (j_X11_isCompared_30 φ p0 p1 M21) (nm (p1 + (-1 : Int32)) fun x23 => K7 p0 x23 M21))
def l_X11_isCompared_7 (φ : Int32 → fM → Prop) : Nat → Nat → Int32 → fM → Prop
  | 0, _, _, _ => False
  | n + 1, p0, p1, M => b_X11_isCompared_7 (l_X11_isCompared_7 φ n) φ p0 p1 M
set_option maxRecDepth 100000 in
theorem sb_X11_isCompared_7 {g : GT} {d : Nat} (hd : 2 ≤ d + 1) {K7 : Nat → Int32 → fM → Prop} {φ : Int32 → fM → Prop} (hK7 : ∀ (p0 : Nat) (p1 : Int32) (M : fM), K7 p0 p1 M → FW g mtX11_isCompared (d + 1) 7 [(0, .ref p0), (1, .int p1)] [] M 0 0 (rI φ)) {p0 : Nat} {p1 : Int32} {M : fM} (h : b_X11_isCompared_7 K7 φ p0 p1 M) : FW g mtX11_isCompared (d + 1) 7 [(0, .ref p0), (1, .int p1)] [] M 0 0 (rI φ) := by
  unfold b_X11_isCompared_7 at h
  refine fw_iload_n (i := 1) 1 rfl (show decode _ _ = .ok (.iload_n 1, 1) by decide +kernel) ?_
  refine fw_if_lt 30 (show decode _ _ = .ok (.ifCond .lt 22, 3) by decide +kernel) (by decide) (fun hc26 => ?_) (fun hc26 => ?_)
  · have h_1 := ipos hc26 h
    refine FW.sub [0, 1] (ls' := [(0, .ref p0), (1, .int p1)]) rfl ?_
    exact sj_X11_isCompared_30 hd h_1
  · have h_2 := ineg hc26 h
    refine fw_aload_n (i := 0) 0 rfl (show decode _ _ = .ok (.aload_n 0, 1) by decide +kernel) ?_
    obtain ⟨⟨hr14, n13, hs15⟩, h_3⟩ := h_2
    refine fw_getP (kd := 11) (k := 16) (show decode _ _ = .ok (.getfield 29, 3) by decide +kernel) gf_X11_29 hr14 hs15 rfl ?_
    have h_4 := dR_e h_3
    obtain ⟨y16, hy17, h_5⟩ := h_4
    refine fw_deref hy17 ?_
    refine fw_iload_n (i := 1) 1 rfl (show decode _ _ = .ok (.iload_n 1, 1) by decide +kernel) ?_
    obtain ⟨⟨n18, hs19, hi20⟩, h_6⟩ := h_5
    refine fw_iald (show decode _ _ = .ok (.iaload, 1) by decide +kernel) hs19 hi20 ?_
    refine fw_callS (mt' := mtX11_rank) (mc := 0) (ms := 0) (As := [.int (mI M y16 (ix p1))]) (rest := []) 1 (show decode _ _ = .ok (.invokestatic 152, 3) by decide +kernel) cs_X11_152 rfl (Nat.le_of_ble_eq_true rfl) (s_X11_rank (d := d) (hd_le hd (by decide)) h_6) (by decide) (by decide) (kI (bc' := 0) (bs' := 0) (by decide) (by decide) (fun x22 M21 h_7 => ?_))
    refine fw_iconst (v := (4 : Int32)) (show decode _ _ = .ok (.iconst 4, 1) by decide +kernel) (by decide) ?_
    refine fw_icmp_le 30 (show decode _ _ = .ok (.if_icmp .le 9, 3) by decide +kernel) (by decide) (fun hc25 => ?_) (fun hc25 => ?_)
    · have h_8 := ipos hc25 h_7
      refine FW.sub [0, 1] (ls' := [(0, .ref p0), (1, .int p1)]) rfl ?_
      exact sj_X11_isCompared_30 hd h_8
    · have h_9 := ineg hc25 h_7
      obtain ⟨x23, ex24⟩ : ∃ y : Int32, y = p1 + (-1 : Int32) := ⟨_, rfl⟩
      have h_10 := h_9 x23 ex24
      refine fw_iinc (i := 1) (x := p1) (v := x23) (ls' := [(1, .int x23), (0, .ref p0)]) 1 rfl (show decode _ _ = .ok (.iinc 1 (-1), 3) by decide +kernel) (by rw [ex24]; rfl) (by decide) rfl ?_
      refine fw_goto 7 (show decode _ _ = .ok (.goto (-20), 3) by decide +kernel) (by decide) ?_
      refine FW.sub [1, 0] (ls' := [(0, .ref p0), (1, .int x23)]) rfl ?_
      exact hK7 _ _ _ h_10
theorem sl_X11_isCompared_7 {g : GT} {d : Nat} (hd : 2 ≤ d + 1) {φ : Int32 → fM → Prop} : ∀ (n : Nat) {p0 : Nat} {p1 : Int32} {M : fM}, l_X11_isCompared_7 φ n p0 p1 M → FW g mtX11_isCompared (d + 1) 7 [(0, .ref p0), (1, .int p1)] [] M 0 0 (rI φ)
  | 0 => fun h => h.elim
  | n + 1 => fun h => sb_X11_isCompared_7 hd (fun _ _ _ h => sl_X11_isCompared_7 hd n h) h
def w_X11_isCompared (p0 : Nat) (M : fM) (φ : Int32 → fM → Prop) : Prop := isO M p0 11 ∧ nm ((mI M p0 17) - (1 : Int32)) fun x30 => ∃ n, l_X11_isCompared_7 φ n p0 x30 M
set_option maxRecDepth 100000 in
theorem s_X11_isCompared {g : GT} {d : Nat} (hd : 2 ≤ d) {p0 : Nat} {M : fM} {φ : Int32 → fM → Prop} (h : w_X11_isCompared p0 M φ) : FC g mtX11_isCompared d [.ref p0] M 0 0 (rI φ) := by
  obtain ⟨d, rfl⟩ : ∃ e, d = e + 1 := ⟨d - 1, by omega⟩
  unfold w_X11_isCompared at h
  refine FC.intro (nL := 2) (by decide) rfl (Nat.le_of_ble_eq_true rfl) ?_
  show FW g mtX11_isCompared (d + 1) 0 [(0, .ref p0)] [] M 0 0 (rI φ)
  refine fw_aload_n (i := 0) 0 rfl (show decode _ _ = .ok (.aload_n 0, 1) by decide +kernel) ?_
  obtain ⟨⟨hr28, n27, hs29⟩, h_1⟩ := h
  refine fw_getI (kd := 11) (k := 17) (show decode _ _ = .ok (.getfield 138, 3) by decide +kernel) gf_X11_138 hr28 hs29 (Or.inl rfl) ?_
  refine fw_iconst (v := (1 : Int32)) (show decode _ _ = .ok (.iconst 1, 1) by decide +kernel) (by decide) ?_
  refine fw_isub (show decode _ _ = .ok (.isub, 1) by decide +kernel) ?_
  refine fw_nmI (fun x30 ex31 => ?_)
  have h_2 := h_1 x30 ex31
  refine fw_istore_n (i := 1) (ls' := [(1, .int x30), (0, .ref p0)]) (show decode _ _ = .ok (.istore_n 1, 1) by decide +kernel) (by decide) rfl ?_
  refine FW.sub [1, 0] (ls' := [(0, .ref p0), (1, .int x30)]) rfl ?_
  obtain ⟨nn, h_3⟩ := h_2
  exact sl_X11_isCompared_7 hd nn h_3
def w_X11_compareOf (p0 : Nat) (M : fM) (φ : Int32 → fM → Prop) : Prop := isO M p0 11 ∧ iF ((mI M p0 9) = (60 : Int32)) (φ (10 : Int32) M) (iF ((mI M p0 9) = (4 : Int32)) (φ (11 : Int32) M) (iF ((mI M p0 9) = (62 : Int32)) (φ (12 : Int32) M) (iF ((mI M p0 9) = (5 : Int32)) (φ (13 : Int32) M) (iF ((mI M p0 9) = (61 : Int32)) (φ (14 : Int32) M) (iF ((mI M p0 9) = (35 : Int32)) (φ (15 : Int32) M) (φ (-1 : Int32) M))))))
set_option maxRecDepth 100000 in
theorem s_X11_compareOf {g : GT} {d : Nat} (hd : 1 ≤ d) {p0 : Nat} {M : fM} {φ : Int32 → fM → Prop} (h : w_X11_compareOf p0 M φ) : FC g mtX11_compareOf d [.ref p0] M 0 0 (rI φ) := by
  obtain ⟨d, rfl⟩ : ∃ e, d = e + 1 := ⟨d - 1, by omega⟩
  unfold w_X11_compareOf at h
  refine FC.intro (nL := 1) (by decide) rfl (Nat.le_of_ble_eq_true rfl) ?_
  show FW g mtX11_compareOf (d + 1) 0 [(0, .ref p0)] [] M 0 0 (rI φ)
  refine fw_aload_n (i := 0) 0 rfl (show decode _ _ = .ok (.aload_n 0, 1) by decide +kernel) ?_
  obtain ⟨⟨hr2, n1, hs3⟩, h_1⟩ := h
  refine fw_getI (kd := 11) (k := 9) (show decode _ _ = .ok (.getfield 107, 3) by decide +kernel) gf_X11_107 hr2 hs3 (Or.inl rfl) ?_
  refine fw_bipush (v := (60 : Int32)) (show decode _ _ = .ok (.bipush 60, 2) by decide +kernel) (by decide) ?_
  refine fw_icmp_ne 14 (show decode _ _ = .ok (.if_icmp .ne 8, 3) by decide +kernel) (by decide) (fun hc9 => ?_) (fun hc9 => ?_)
  · have h_2 := ineg hc9 h_1
    refine fw_aload_n (i := 0) 0 rfl (show decode _ _ = .ok (.aload_n 0, 1) by decide +kernel) ?_
    refine fw_getI (kd := 11) (k := 9) (show decode _ _ = .ok (.getfield 107, 3) by decide +kernel) gf_X11_107 hr2 hs3 (Or.inl rfl) ?_
    refine fw_iconst (v := (4 : Int32)) (show decode _ _ = .ok (.iconst 4, 1) by decide +kernel) (by decide) ?_
    refine fw_icmp_ne 27 (show decode _ _ = .ok (.if_icmp .ne 8, 3) by decide +kernel) (by decide) (fun hc8 => ?_) (fun hc8 => ?_)
    · have h_3 := ineg hc8 h_2
      refine fw_aload_n (i := 0) 0 rfl (show decode _ _ = .ok (.aload_n 0, 1) by decide +kernel) ?_
      refine fw_getI (kd := 11) (k := 9) (show decode _ _ = .ok (.getfield 107, 3) by decide +kernel) gf_X11_107 hr2 hs3 (Or.inl rfl) ?_
      refine fw_bipush (v := (62 : Int32)) (show decode _ _ = .ok (.bipush 62, 2) by decide +kernel) (by decide) ?_
      refine fw_icmp_ne 41 (show decode _ _ = .ok (.if_icmp .ne 8, 3) by decide +kernel) (by decide) (fun hc7 => ?_) (fun hc7 => ?_)
      · have h_4 := ineg hc7 h_3
        refine fw_aload_n (i := 0) 0 rfl (show decode _ _ = .ok (.aload_n 0, 1) by decide +kernel) ?_
        refine fw_getI (kd := 11) (k := 9) (show decode _ _ = .ok (.getfield 107, 3) by decide +kernel) gf_X11_107 hr2 hs3 (Or.inl rfl) ?_
        refine fw_iconst (v := (5 : Int32)) (show decode _ _ = .ok (.iconst 5, 1) by decide +kernel) (by decide) ?_
        refine fw_icmp_ne 54 (show decode _ _ = .ok (.if_icmp .ne 8, 3) by decide +kernel) (by decide) (fun hc6 => ?_) (fun hc6 => ?_)
        · have h_5 := ineg hc6 h_4
          refine fw_aload_n (i := 0) 0 rfl (show decode _ _ = .ok (.aload_n 0, 1) by decide +kernel) ?_
          refine fw_getI (kd := 11) (k := 9) (show decode _ _ = .ok (.getfield 107, 3) by decide +kernel) gf_X11_107 hr2 hs3 (Or.inl rfl) ?_
          refine fw_bipush (v := (61 : Int32)) (show decode _ _ = .ok (.bipush 61, 2) by decide +kernel) (by decide) ?_
          refine fw_icmp_ne 68 (show decode _ _ = .ok (.if_icmp .ne 8, 3) by decide +kernel) (by decide) (fun hc5 => ?_) (fun hc5 => ?_)
          · have h_6 := ineg hc5 h_5
            refine fw_aload_n (i := 0) 0 rfl (show decode _ _ = .ok (.aload_n 0, 1) by decide +kernel) ?_
            refine fw_getI (kd := 11) (k := 9) (show decode _ _ = .ok (.getfield 107, 3) by decide +kernel) gf_X11_107 hr2 hs3 (Or.inl rfl) ?_
            refine fw_bipush (v := (35 : Int32)) (show decode _ _ = .ok (.bipush 35, 2) by decide +kernel) (by decide) ?_
            refine fw_icmp_ne 82 (show decode _ _ = .ok (.if_icmp .ne 8, 3) by decide +kernel) (by decide) (fun hc4 => ?_) (fun hc4 => ?_)
            · have h_7 := ineg hc4 h_6
              refine fw_iconst (v := (-1 : Int32)) (show decode _ _ = .ok (.iconst (-1), 1) by decide +kernel) (by decide) ?_
              exact fw_ret (v := some (.int (-1 : Int32))) .ireturn (show decode _ _ = .ok (.ireturn, 1) by decide +kernel) ⟨rfl, Or.inl rfl⟩ ⟨_, rfl, h_7⟩
            · have h_8 := ipos hc4 h_6
              refine fw_bipush (v := (15 : Int32)) (show decode _ _ = .ok (.bipush 15, 2) by decide +kernel) (by decide) ?_
              refine fw_goto 83 (show decode _ _ = .ok (.goto 4, 3) by decide +kernel) (by decide) ?_
              exact fw_ret (v := some (.int (15 : Int32))) .ireturn (show decode _ _ = .ok (.ireturn, 1) by decide +kernel) ⟨rfl, Or.inl rfl⟩ ⟨_, rfl, h_8⟩
          · have h_9 := ipos hc5 h_5
            refine fw_bipush (v := (14 : Int32)) (show decode _ _ = .ok (.bipush 14, 2) by decide +kernel) (by decide) ?_
            refine fw_goto 83 (show decode _ _ = .ok (.goto 18, 3) by decide +kernel) (by decide) ?_
            exact fw_ret (v := some (.int (14 : Int32))) .ireturn (show decode _ _ = .ok (.ireturn, 1) by decide +kernel) ⟨rfl, Or.inl rfl⟩ ⟨_, rfl, h_9⟩
        · have h_10 := ipos hc6 h_4
          refine fw_bipush (v := (13 : Int32)) (show decode _ _ = .ok (.bipush 13, 2) by decide +kernel) (by decide) ?_
          refine fw_goto 83 (show decode _ _ = .ok (.goto 32, 3) by decide +kernel) (by decide) ?_
          exact fw_ret (v := some (.int (13 : Int32))) .ireturn (show decode _ _ = .ok (.ireturn, 1) by decide +kernel) ⟨rfl, Or.inl rfl⟩ ⟨_, rfl, h_10⟩
      · have h_11 := ipos hc7 h_3
        refine fw_bipush (v := (12 : Int32)) (show decode _ _ = .ok (.bipush 12, 2) by decide +kernel) (by decide) ?_
        refine fw_goto 83 (show decode _ _ = .ok (.goto 45, 3) by decide +kernel) (by decide) ?_
        exact fw_ret (v := some (.int (12 : Int32))) .ireturn (show decode _ _ = .ok (.ireturn, 1) by decide +kernel) ⟨rfl, Or.inl rfl⟩ ⟨_, rfl, h_11⟩
    · have h_12 := ipos hc8 h_2
      refine fw_bipush (v := (11 : Int32)) (show decode _ _ = .ok (.bipush 11, 2) by decide +kernel) (by decide) ?_
      refine fw_goto 83 (show decode _ _ = .ok (.goto 59, 3) by decide +kernel) (by decide) ?_
      exact fw_ret (v := some (.int (11 : Int32))) .ireturn (show decode _ _ = .ok (.ireturn, 1) by decide +kernel) ⟨rfl, Or.inl rfl⟩ ⟨_, rfl, h_12⟩
  · have h_13 := ipos hc9 h_1
    refine fw_bipush (v := (10 : Int32)) (show decode _ _ = .ok (.bipush 10, 2) by decide +kernel) (by decide) ?_
    refine fw_goto 83 (show decode _ _ = .ok (.goto 72, 3) by decide +kernel) (by decide) ?_
    exact fw_ret (v := some (.int (10 : Int32))) .ireturn (show decode _ _ = .ok (.ireturn, 1) by decide +kernel) ⟨rfl, Or.inl rfl⟩ ⟨_, rfl, h_13⟩
def w_X11_betweenOf (p0 : Nat) (p1 : Int32) (M : fM) (φ : Int32 → fM → Prop) : Prop := isO M p0 11 ∧ iF ((mI M p0 9) = (43 : Int32)) (φ (4 : Int32) M) (iF ((mI M p0 9) = (45 : Int32)) (φ (5 : Int32) M) (iF ((mI M p0 9) = (42 : Int32)) (φ (6 : Int32) M) (iF ((mI M p0 9) = (47 : Int32)) (φ (7 : Int32) M) (w_X11_kindOpen p0 p1 M fun x5 M4 => iF (x5 = (41 : Int32)) (isO M4 p0 11 ∧ w_X11_isCompared p0 M4 fun x10 M6 => iF (x10 = 0) (isO M6 p0 11 ∧ w_X11_compareOf p0 M6 fun x28 M24 => φ x28 M24) (w_X11_w3 (97 : Int32) (110 : Int32) (100 : Int32) M6 fun x12 M11 => isO M11 p0 11 ∧ w_X11_isWord p0 x12 M11 fun x17 M13 => iF (x17 = 0) (isO M13 p0 11 ∧ iF ((mI M13 p0 9) = (2 : Int32)) (iF ((lg_cmp (mJ M13 p0 11) (28530 : Int64)) = 0) (φ (22 : Int32) M13) (φ (-1 : Int32) M13)) (φ (-1 : Int32) M13)) (φ (21 : Int32) M13))) (φ (-1 : Int32) M4)))))
set_option maxRecDepth 100000 in
theorem s_X11_betweenOf {g : GT} {d : Nat} (hd : 3 ≤ d) {p0 : Nat} {p1 : Int32} {M : fM} {φ : Int32 → fM → Prop} (h : w_X11_betweenOf p0 p1 M φ) : FC g mtX11_betweenOf d [.ref p0, .int p1] M 0 0 (rI φ) := by
  obtain ⟨d, rfl⟩ : ∃ e, d = e + 1 := ⟨d - 1, by omega⟩
  unfold w_X11_betweenOf at h
  refine FC.intro (nL := 2) (by decide) rfl (Nat.le_of_ble_eq_true rfl) ?_
  show FW g mtX11_betweenOf (d + 1) 0 [(0, .ref p0), (1, .int p1)] [] M 0 0 (rI φ)
  refine fw_aload_n (i := 0) 0 rfl (show decode _ _ = .ok (.aload_n 0, 1) by decide +kernel) ?_
  obtain ⟨⟨hr2, n1, hs3⟩, h_1⟩ := h
  refine fw_getI (kd := 11) (k := 9) (show decode _ _ = .ok (.getfield 107, 3) by decide +kernel) gf_X11_107 hr2 hs3 (Or.inl rfl) ?_
  refine fw_bipush (v := (43 : Int32)) (show decode _ _ = .ok (.bipush 43, 2) by decide +kernel) (by decide) ?_
  refine fw_icmp_ne 11 (show decode _ _ = .ok (.if_icmp .ne 5, 3) by decide +kernel) (by decide) (fun hc34 => ?_) (fun hc34 => ?_)
  · have h_2 := ineg hc34 h_1
    refine fw_aload_n (i := 0) 0 rfl (show decode _ _ = .ok (.aload_n 0, 1) by decide +kernel) ?_
    refine fw_getI (kd := 11) (k := 9) (show decode _ _ = .ok (.getfield 107, 3) by decide +kernel) gf_X11_107 hr2 hs3 (Or.inl rfl) ?_
    refine fw_bipush (v := (45 : Int32)) (show decode _ _ = .ok (.bipush 45, 2) by decide +kernel) (by decide) ?_
    refine fw_icmp_ne 22 (show decode _ _ = .ok (.if_icmp .ne 5, 3) by decide +kernel) (by decide) (fun hc33 => ?_) (fun hc33 => ?_)
    · have h_3 := ineg hc33 h_2
      refine fw_aload_n (i := 0) 0 rfl (show decode _ _ = .ok (.aload_n 0, 1) by decide +kernel) ?_
      refine fw_getI (kd := 11) (k := 9) (show decode _ _ = .ok (.getfield 107, 3) by decide +kernel) gf_X11_107 hr2 hs3 (Or.inl rfl) ?_
      refine fw_bipush (v := (42 : Int32)) (show decode _ _ = .ok (.bipush 42, 2) by decide +kernel) (by decide) ?_
      refine fw_icmp_ne 34 (show decode _ _ = .ok (.if_icmp .ne 6, 3) by decide +kernel) (by decide) (fun hc32 => ?_) (fun hc32 => ?_)
      · have h_4 := ineg hc32 h_3
        refine fw_aload_n (i := 0) 0 rfl (show decode _ _ = .ok (.aload_n 0, 1) by decide +kernel) ?_
        refine fw_getI (kd := 11) (k := 9) (show decode _ _ = .ok (.getfield 107, 3) by decide +kernel) gf_X11_107 hr2 hs3 (Or.inl rfl) ?_
        refine fw_bipush (v := (47 : Int32)) (show decode _ _ = .ok (.bipush 47, 2) by decide +kernel) (by decide) ?_
        refine fw_icmp_ne 46 (show decode _ _ = .ok (.if_icmp .ne 6, 3) by decide +kernel) (by decide) (fun hc31 => ?_) (fun hc31 => ?_)
        · have h_5 := ineg hc31 h_4
          refine fw_aload_n (i := 0) 0 rfl (show decode _ _ = .ok (.aload_n 0, 1) by decide +kernel) ?_
          refine fw_iload_n (i := 1) 1 rfl (show decode _ _ = .ok (.iload_n 1, 1) by decide +kernel) ?_
          refine fw_callV (mt' := mtX11_kindOpen) (mc := 0) (ms := 0) (As := [.int p1]) (rest := []) 1 11 n1 (show decode _ _ = .ok (.invokevirtual 172, 3) by decide +kernel) cv_X11_172 ⟨_, rfl, rfl⟩ hr2 hs3 rfl (Nat.le_of_ble_eq_true rfl) (s_X11_kindOpen (d := d) (hd_le hd (by decide)) h_5) (by decide) (by decide) (kI (bc' := 0) (bs' := 0) (by decide) (by decide) (fun x5 M4 h_6 => ?_))
          refine fw_bipush (v := (41 : Int32)) (show decode _ _ = .ok (.bipush 41, 2) by decide +kernel) (by decide) ?_
          refine fw_icmp_eq 58 (show decode _ _ = .ok (.if_icmp .eq 5, 3) by decide +kernel) (by decide) (fun hc30 => ?_) (fun hc30 => ?_)
          · have h_7 := ipos hc30 h_6
            refine fw_aload_n (i := 0) 0 rfl (show decode _ _ = .ok (.aload_n 0, 1) by decide +kernel) ?_
            obtain ⟨⟨hr8, n7, hs9⟩, h_8⟩ := h_7
            refine fw_callV (mt' := mtX11_isCompared) (mc := 0) (ms := 0) (As := []) (rest := []) 0 11 n7 (show decode _ _ = .ok (.invokevirtual 204, 3) by decide +kernel) cv_X11_204 ⟨_, rfl, rfl⟩ hr8 hs9 rfl (Nat.le_of_ble_eq_true rfl) (s_X11_isCompared (d := d) (hd_le hd (by decide)) h_8) (by decide) (by decide) (kI (bc' := 0) (bs' := 0) (by decide) (by decide) (fun x10 M6 h_9 => ?_))
            refine fw_if_ne 70 (show decode _ _ = .ok (.ifCond .ne 8, 3) by decide +kernel) (by decide) (fun hc29 => ?_) (fun hc29 => ?_)
            · have h_10 := ineg hc29 h_9
              refine fw_aload_n (i := 0) 0 rfl (show decode _ _ = .ok (.aload_n 0, 1) by decide +kernel) ?_
              refine fw_bipush (v := (97 : Int32)) (show decode _ _ = .ok (.bipush 97, 2) by decide +kernel) (by decide) ?_
              refine fw_bipush (v := (110 : Int32)) (show decode _ _ = .ok (.bipush 110, 2) by decide +kernel) (by decide) ?_
              refine fw_bipush (v := (100 : Int32)) (show decode _ _ = .ok (.bipush 100, 2) by decide +kernel) (by decide) ?_
              refine fw_callS (mt' := mtX11_w3) (mc := 0) (ms := 0) (As := [.int (97 : Int32), .int (110 : Int32), .int (100 : Int32)]) (rest := [.ref p0]) 3 (show decode _ _ = .ok (.invokestatic 124, 3) by decide +kernel) cs_X11_124 rfl (Nat.le_of_ble_eq_true rfl) (s_X11_w3 (d := d) (hd_le hd (by decide)) h_10) (by decide) (by decide) (kJ (bc' := 0) (bs' := 0) (by decide) (by decide) (fun x12 M11 h_11 => ?_))
              obtain ⟨⟨hr15, n14, hs16⟩, h_12⟩ := h_11
              refine fw_callV (mt' := mtX11_isWord) (mc := 0) (ms := 0) (As := [.long x12]) (rest := []) 1 11 n14 (show decode _ _ = .ok (.invokevirtual 196, 3) by decide +kernel) cv_X11_196 ⟨_, rfl, rfl⟩ hr15 hs16 rfl (Nat.le_of_ble_eq_true rfl) (s_X11_isWord (d := d) (hd_le hd (by decide)) h_12) (by decide) (by decide) (kI (bc' := 0) (bs' := 0) (by decide) (by decide) (fun x17 M13 h_13 => ?_))
              refine fw_if_eq 91 (show decode _ _ = .ok (.ifCond .eq 8, 3) by decide +kernel) (by decide) (fun hc23 => ?_) (fun hc23 => ?_)
              · have h_14 := ipos hc23 h_13
                refine fw_aload_n (i := 0) 0 rfl (show decode _ _ = .ok (.aload_n 0, 1) by decide +kernel) ?_
                obtain ⟨⟨hr19, n18, hs20⟩, h_15⟩ := h_14
                refine fw_getI (kd := 11) (k := 9) (show decode _ _ = .ok (.getfield 107, 3) by decide +kernel) gf_X11_107 hr19 hs20 (Or.inl rfl) ?_
                refine fw_iconst (v := (2 : Int32)) (show decode _ _ = .ok (.iconst 2, 1) by decide +kernel) (by decide) ?_
                refine fw_icmp_ne 115 (show decode _ _ = .ok (.if_icmp .ne 19, 3) by decide +kernel) (by decide) (fun hc22 => ?_) (fun hc22 => ?_)
                · have h_16 := ineg hc22 h_15
                  refine fw_iconst (v := (-1 : Int32)) (show decode _ _ = .ok (.iconst (-1), 1) by decide +kernel) (by decide) ?_
                  exact fw_ret (v := some (.int (-1 : Int32))) .ireturn (show decode _ _ = .ok (.ireturn, 1) by decide +kernel) ⟨rfl, Or.inl rfl⟩ ⟨_, rfl, h_16⟩
                · have h_17 := ipos hc22 h_15
                  refine fw_aload_n (i := 0) 0 rfl (show decode _ _ = .ok (.aload_n 0, 1) by decide +kernel) ?_
                  refine fw_getJ (kd := 11) (k := 11) (show decode _ _ = .ok (.getfield 120, 3) by decide +kernel) gf_X11_120 hr19 hs20 rfl ?_
                  refine fw_ldc2 (idx := 211) (v := (28530 : Int64)) (show decode _ _ = .ok (.ldc2_w 211, 3) by decide +kernel) wd1634 ?_
                  refine fw_lcmp (show decode _ _ = .ok (.lcmp, 1) by decide +kernel) ?_
                  refine fw_if_ne 115 (show decode _ _ = .ok (.ifCond .ne 8, 3) by decide +kernel) (by decide) (fun hc21 => ?_) (fun hc21 => ?_)
                  · have h_18 := ineg hc21 h_17
                    refine fw_iconst (v := (-1 : Int32)) (show decode _ _ = .ok (.iconst (-1), 1) by decide +kernel) (by decide) ?_
                    exact fw_ret (v := some (.int (-1 : Int32))) .ireturn (show decode _ _ = .ok (.ireturn, 1) by decide +kernel) ⟨rfl, Or.inl rfl⟩ ⟨_, rfl, h_18⟩
                  · have h_19 := ipos hc21 h_17
                    refine fw_bipush (v := (22 : Int32)) (show decode _ _ = .ok (.bipush 22, 2) by decide +kernel) (by decide) ?_
                    refine fw_goto 116 (show decode _ _ = .ok (.goto 4, 3) by decide +kernel) (by decide) ?_
                    exact fw_ret (v := some (.int (22 : Int32))) .ireturn (show decode _ _ = .ok (.ireturn, 1) by decide +kernel) ⟨rfl, Or.inl rfl⟩ ⟨_, rfl, h_19⟩
              · have h_20 := ineg hc23 h_13
                refine fw_bipush (v := (21 : Int32)) (show decode _ _ = .ok (.bipush 21, 2) by decide +kernel) (by decide) ?_
                refine fw_goto 116 (show decode _ _ = .ok (.goto 28, 3) by decide +kernel) (by decide) ?_
                exact fw_ret (v := some (.int (21 : Int32))) .ireturn (show decode _ _ = .ok (.ireturn, 1) by decide +kernel) ⟨rfl, Or.inl rfl⟩ ⟨_, rfl, h_20⟩
            · have h_21 := ipos hc29 h_9
              refine fw_aload_n (i := 0) 0 rfl (show decode _ _ = .ok (.aload_n 0, 1) by decide +kernel) ?_
              obtain ⟨⟨hr26, n25, hs27⟩, h_22⟩ := h_21
              refine fw_callV (mt' := mtX11_compareOf) (mc := 0) (ms := 0) (As := []) (rest := []) 0 11 n25 (show decode _ _ = .ok (.invokevirtual 208, 3) by decide +kernel) cv_X11_208 ⟨_, rfl, rfl⟩ hr26 hs27 rfl (Nat.le_of_ble_eq_true rfl) (s_X11_compareOf (d := d) (hd_le hd (by decide)) h_22) (by decide) (by decide) (kI (bc' := 0) (bs' := 0) (by decide) (by decide) (fun x28 M24 h_23 => ?_))
              exact fw_ret (v := some (.int x28)) .ireturn (show decode _ _ = .ok (.ireturn, 1) by decide +kernel) ⟨rfl, Or.inl rfl⟩ ⟨_, rfl, h_23⟩
          · have h_24 := ineg hc30 h_6
            refine fw_iconst (v := (-1 : Int32)) (show decode _ _ = .ok (.iconst (-1), 1) by decide +kernel) (by decide) ?_
            exact fw_ret (v := some (.int (-1 : Int32))) .ireturn (show decode _ _ = .ok (.ireturn, 1) by decide +kernel) ⟨rfl, Or.inl rfl⟩ ⟨_, rfl, h_24⟩
        · have h_25 := ipos hc31 h_4
          refine fw_bipush (v := (7 : Int32)) (show decode _ _ = .ok (.bipush 7, 2) by decide +kernel) (by decide) ?_
          exact fw_ret (v := some (.int (7 : Int32))) .ireturn (show decode _ _ = .ok (.ireturn, 1) by decide +kernel) ⟨rfl, Or.inl rfl⟩ ⟨_, rfl, h_25⟩
      · have h_26 := ipos hc32 h_3
        refine fw_bipush (v := (6 : Int32)) (show decode _ _ = .ok (.bipush 6, 2) by decide +kernel) (by decide) ?_
        exact fw_ret (v := some (.int (6 : Int32))) .ireturn (show decode _ _ = .ok (.ireturn, 1) by decide +kernel) ⟨rfl, Or.inl rfl⟩ ⟨_, rfl, h_26⟩
    · have h_27 := ipos hc33 h_2
      refine fw_iconst (v := (5 : Int32)) (show decode _ _ = .ok (.iconst 5, 1) by decide +kernel) (by decide) ?_
      exact fw_ret (v := some (.int (5 : Int32))) .ireturn (show decode _ _ = .ok (.ireturn, 1) by decide +kernel) ⟨rfl, Or.inl rfl⟩ ⟨_, rfl, h_27⟩
  · have h_28 := ipos hc34 h_1
    refine fw_iconst (v := (4 : Int32)) (show decode _ _ = .ok (.iconst 4, 1) by decide +kernel) (by decide) ?_
    exact fw_ret (v := some (.int (4 : Int32))) .ireturn (show decode _ _ = .ok (.ireturn, 1) by decide +kernel) ⟨rfl, Or.inl rfl⟩ ⟨_, rfl, h_28⟩
def j_X11_behindOne_200 (φ : Int32 → fM → Prop) (p0 : Nat) (M : fM) : Prop := isO M p0 11 ∧ w_X11_nextToken p0 M fun M1 => φ (1 : Int32) M1
set_option maxRecDepth 100000 in
theorem sj_X11_behindOne_200 {g : GT} {d : Nat} (hd : 4 ≤ d + 1) {φ : Int32 → fM → Prop} {p0 : Nat} {M : fM} (h : j_X11_behindOne_200 φ p0 M) : FW g mtX11_behindOne (d + 1) 200 [(0, .ref p0)] [] M 0 0 (rI φ) := by
  unfold j_X11_behindOne_200 at h
  refine fw_aload_n (i := 0) 0 rfl (show decode _ _ = .ok (.aload_n 0, 1) by decide +kernel) ?_
  obtain ⟨⟨hr3, n2, hs4⟩, h_1⟩ := h
  refine fw_callV (mt' := mtX11_nextToken) (mc := 0) (ms := 0) (As := []) (rest := []) 0 11 n2 (show decode _ _ = .ok (.invokevirtual 179, 3) by decide +kernel) cv_X11_179 ⟨_, rfl, rfl⟩ hr3 hs4 rfl (Nat.le_of_ble_eq_true rfl) (s_X11_nextToken (d := d) (hd_le hd (by decide)) h_1) (by decide) (by decide) (kV (bc' := 0) (bs' := 0) (by decide) (by decide) (fun M1 h_2 => ?_))
  refine fw_iconst (v := (1 : Int32)) (show decode _ _ = .ok (.iconst 1, 1) by decide +kernel) (by decide) ?_
  exact fw_ret (v := some (.int (1 : Int32))) .ireturn (show decode _ _ = .ok (.ireturn, 1) by decide +kernel) ⟨rfl, Or.inr (Or.inl ⟨rfl, rfl⟩)⟩ ⟨_, rfl, h_2⟩
def j_X11_behindOne_175 (φ : Int32 → fM → Prop) (p0 : Nat) (p3 : Int32) (p4 : Int32) (M : fM) : Prop := isO M p0 11 ∧ w_X11_settle p0 (1 : Int32) M fun M5 => isO M5 p0 11 ∧ dR (mP M5 p0 16) fun y12 => nm (p4 + (1 : Int32)) fun x14 => 6 ≤ y12 ∧ inA M5 y12 12 p3 ∧ st (wI M5 y12 (ix p3) x14) fun M20 => st (wI M20 p0 19 (0 : Int32)) fun M22 => j_X11_behindOne_200 φ p0 M22
set_option maxRecDepth 100000 in
theorem sj_X11_behindOne_175 {g : GT} {d : Nat} (hd : 4 ≤ d + 1) {φ : Int32 → fM → Prop} {p0 : Nat} {p3 : Int32} {p4 : Int32} {M : fM} (h : j_X11_behindOne_175 φ p0 p3 p4 M) : FW g mtX11_behindOne (d + 1) 175 [(0, .ref p0), (3, .int p3), (4, .int p4)] [] M 0 0 (rI φ) := by
  unfold j_X11_behindOne_175 at h
  refine fw_aload_n (i := 0) 0 rfl (show decode _ _ = .ok (.aload_n 0, 1) by decide +kernel) ?_
  refine fw_iconst (v := (1 : Int32)) (show decode _ _ = .ok (.iconst 1, 1) by decide +kernel) (by decide) ?_
  obtain ⟨⟨hr7, n6, hs8⟩, h_1⟩ := h
  refine fw_callV (mt' := mtX11_settle) (mc := 0) (ms := 0) (As := [.int (1 : Int32)]) (rest := []) 1 11 n6 (show decode _ _ = .ok (.invokevirtual 165, 3) by decide +kernel) cv_X11_165 ⟨_, rfl, rfl⟩ hr7 hs8 rfl (Nat.le_of_ble_eq_true rfl) (s_X11_settle (d := d) (hd_le hd (by decide)) h_1) (by decide) (by decide) (kV (bc' := 0) (bs' := 0) (by decide) (by decide) (fun M5 h_2 => ?_))
  refine fw_aload_n (i := 0) 0 rfl (show decode _ _ = .ok (.aload_n 0, 1) by decide +kernel) ?_
  obtain ⟨⟨hr10, n9, hs11⟩, h_3⟩ := h_2
  refine fw_getP (kd := 11) (k := 16) (show decode _ _ = .ok (.getfield 29, 3) by decide +kernel) gf_X11_29 hr10 hs11 rfl ?_
  have h_4 := dR_e h_3
  obtain ⟨y12, hy13, h_5⟩ := h_4
  refine fw_deref hy13 ?_
  refine fw_iload_n (i := 3) 1 rfl (show decode _ _ = .ok (.iload_n 3, 1) by decide +kernel) ?_
  refine fw_iload (i := 4) 2 rfl (show decode _ _ = .ok (.iload 4, 2) by decide +kernel) ?_
  refine fw_iconst (v := (1 : Int32)) (show decode _ _ = .ok (.iconst 1, 1) by decide +kernel) (by decide) ?_
  refine fw_iadd (show decode _ _ = .ok (.iadd, 1) by decide +kernel) ?_
  refine fw_nmI (fun x14 ex15 => ?_)
  have h_6 := h_5 x14 ex15
  obtain ⟨hr19, ⟨n16, hs17, hi18⟩, h_7⟩ := h_6
  refine fw_iast (show decode _ _ = .ok (.iastore, 1) by decide +kernel) hr19 hs17 hi18 ?_
  refine FW.nmM (fun M20 eM21 => ?_)
  have h_8 := h_7 M20 eM21
  refine fw_aload_n (i := 0) 0 rfl (show decode _ _ = .ok (.aload_n 0, 1) by decide +kernel) ?_
  refine fw_iconst (v := (0 : Int32)) (show decode _ _ = .ok (.iconst 0, 1) by decide +kernel) (by decide) ?_
  refine fw_putZ (kd := 11) (k := 19) (show decode _ _ = .ok (.putfield 161, 3) by decide +kernel) ⟨gf_X11_161, _, rfl, Or.inl rfl⟩ hr10 (mSw_I eM21 hs11) rfl rfl ?_
  refine FW.nmM (fun M22 eM23 => ?_)
  have h_9 := h_8 M22 eM23
  refine fw_goto 200 (show decode _ _ = .ok (.goto 5, 3) by decide +kernel) (by decide) ?_
  refine FW.sub [0] (ls' := [(0, .ref p0)]) rfl ?_
  exact sj_X11_behindOne_200 hd h_9
def j_X11_behindOne_159 (φ : Int32 → fM → Prop) (p0 : Nat) (p3 : Int32) (p4 : Int32) (M : fM) : Prop := isO M p0 11 ∧ iF ((mI M p0 9) = (58 : Int32)) (iF (p4 = (42 : Int32)) (j_X11_behindOne_175 φ p0 p3 p4 M) (φ (0 : Int32) M)) (φ (0 : Int32) M)
set_option maxRecDepth 100000 in
theorem sj_X11_behindOne_159 {g : GT} {d : Nat} (hd : 4 ≤ d + 1) {φ : Int32 → fM → Prop} {p0 : Nat} {p3 : Int32} {p4 : Int32} {M : fM} (h : j_X11_behindOne_159 φ p0 p3 p4 M) : FW g mtX11_behindOne (d + 1) 159 [(0, .ref p0), (3, .int p3), (4, .int p4)] [] M 0 0 (rI φ) := by
  unfold j_X11_behindOne_159 at h
  refine fw_aload_n (i := 0) 0 rfl (show decode _ _ = .ok (.aload_n 0, 1) by decide +kernel) ?_
  obtain ⟨⟨hr25, n24, hs26⟩, h_1⟩ := h
  refine fw_getI (kd := 11) (k := 9) (show decode _ _ = .ok (.getfield 107, 3) by decide +kernel) gf_X11_107 hr25 hs26 (Or.inl rfl) ?_
  refine fw_bipush (v := (58 : Int32)) (show decode _ _ = .ok (.bipush 58, 2) by decide +kernel) (by decide) ?_
  refine fw_icmp_ne 198 (show decode _ _ = .ok (.if_icmp .ne 33, 3) by decide +kernel) (by decide) (fun hc28 => ?_) (fun hc28 => ?_)
  · have h_2 := ineg hc28 h_1
    refine fw_iconst (v := (0 : Int32)) (show decode _ _ = .ok (.iconst 0, 1) by decide +kernel) (by decide) ?_
    exact fw_ret (v := some (.int (0 : Int32))) .ireturn (show decode _ _ = .ok (.ireturn, 1) by decide +kernel) ⟨rfl, Or.inr (Or.inl ⟨rfl, rfl⟩)⟩ ⟨_, rfl, h_2⟩
  · have h_3 := ipos hc28 h_1
    refine fw_iload (i := 4) 2 rfl (show decode _ _ = .ok (.iload 4, 2) by decide +kernel) ?_
    refine fw_bipush (v := (42 : Int32)) (show decode _ _ = .ok (.bipush 42, 2) by decide +kernel) (by decide) ?_
    refine fw_icmp_ne 198 (show decode _ _ = .ok (.if_icmp .ne 26, 3) by decide +kernel) (by decide) (fun hc27 => ?_) (fun hc27 => ?_)
    · have h_4 := ineg hc27 h_3
      refine fw_iconst (v := (0 : Int32)) (show decode _ _ = .ok (.iconst 0, 1) by decide +kernel) (by decide) ?_
      exact fw_ret (v := some (.int (0 : Int32))) .ireturn (show decode _ _ = .ok (.ireturn, 1) by decide +kernel) ⟨rfl, Or.inr (Or.inl ⟨rfl, rfl⟩)⟩ ⟨_, rfl, h_4⟩
    · have h_5 := ipos hc27 h_3
      refine FW.sub [0, 1, 2] (ls' := [(0, .ref p0), (3, .int p3), (4, .int p4)]) rfl ?_
      exact sj_X11_behindOne_175 hd h_5
def j_X11_behindOne_136 (φ : Int32 → fM → Prop) (p0 : Nat) (p3 : Int32) (p4 : Int32) (M : fM) : Prop := isO M p0 11 ∧ iF ((mI M p0 9) = (63 : Int32)) (iF (p4 = (41 : Int32)) (w_X11_isCompared p0 M fun x33 M32 => iF (x33 = 0) (j_X11_behindOne_159 φ p0 p3 p4 M32) (j_X11_behindOne_175 φ p0 p3 p4 M32)) (j_X11_behindOne_159 φ p0 p3 p4 M)) (j_X11_behindOne_159 φ p0 p3 p4 M)
set_option maxRecDepth 100000 in
theorem sj_X11_behindOne_136 {g : GT} {d : Nat} (hd : 4 ≤ d + 1) {φ : Int32 → fM → Prop} {p0 : Nat} {p3 : Int32} {p4 : Int32} {M : fM} (h : j_X11_behindOne_136 φ p0 p3 p4 M) : FW g mtX11_behindOne (d + 1) 136 [(0, .ref p0), (3, .int p3), (4, .int p4)] [] M 0 0 (rI φ) := by
  unfold j_X11_behindOne_136 at h
  refine fw_aload_n (i := 0) 0 rfl (show decode _ _ = .ok (.aload_n 0, 1) by decide +kernel) ?_
  obtain ⟨⟨hr30, n29, hs31⟩, h_1⟩ := h
  refine fw_getI (kd := 11) (k := 9) (show decode _ _ = .ok (.getfield 107, 3) by decide +kernel) gf_X11_107 hr30 hs31 (Or.inl rfl) ?_
  refine fw_bipush (v := (63 : Int32)) (show decode _ _ = .ok (.bipush 63, 2) by decide +kernel) (by decide) ?_
  refine fw_icmp_ne 159 (show decode _ _ = .ok (.if_icmp .ne 17, 3) by decide +kernel) (by decide) (fun hc36 => ?_) (fun hc36 => ?_)
  · have h_2 := ineg hc36 h_1
    refine FW.sub [0, 1, 2] (ls' := [(0, .ref p0), (3, .int p3), (4, .int p4)]) rfl ?_
    exact sj_X11_behindOne_159 hd h_2
  · have h_3 := ipos hc36 h_1
    refine fw_iload (i := 4) 2 rfl (show decode _ _ = .ok (.iload 4, 2) by decide +kernel) ?_
    refine fw_bipush (v := (41 : Int32)) (show decode _ _ = .ok (.bipush 41, 2) by decide +kernel) (by decide) ?_
    refine fw_icmp_ne 159 (show decode _ _ = .ok (.if_icmp .ne 10, 3) by decide +kernel) (by decide) (fun hc35 => ?_) (fun hc35 => ?_)
    · have h_4 := ineg hc35 h_3
      refine FW.sub [0, 1, 2] (ls' := [(0, .ref p0), (3, .int p3), (4, .int p4)]) rfl ?_
      exact sj_X11_behindOne_159 hd h_4
    · have h_5 := ipos hc35 h_3
      refine fw_aload_n (i := 0) 0 rfl (show decode _ _ = .ok (.aload_n 0, 1) by decide +kernel) ?_
      refine fw_callV (mt' := mtX11_isCompared) (mc := 0) (ms := 0) (As := []) (rest := []) 0 11 n29 (show decode _ _ = .ok (.invokevirtual 204, 3) by decide +kernel) cv_X11_204 ⟨_, rfl, rfl⟩ hr30 hs31 rfl (Nat.le_of_ble_eq_true rfl) (s_X11_isCompared (d := d) (hd_le hd (by decide)) h_5) (by decide) (by decide) (kI (bc' := 0) (bs' := 0) (by decide) (by decide) (fun x33 M32 h_6 => ?_))
      refine fw_if_ne 175 (show decode _ _ = .ok (.ifCond .ne 19, 3) by decide +kernel) (by decide) (fun hc34 => ?_) (fun hc34 => ?_)
      · have h_7 := ineg hc34 h_6
        refine FW.sub [0, 1, 2] (ls' := [(0, .ref p0), (3, .int p3), (4, .int p4)]) rfl ?_
        exact sj_X11_behindOne_175 hd h_7
      · have h_8 := ipos hc34 h_6
        refine FW.sub [0, 1, 2] (ls' := [(0, .ref p0), (3, .int p3), (4, .int p4)]) rfl ?_
        exact sj_X11_behindOne_159 hd h_8
def j_X11_behindOne_129 (φ : Int32 → fM → Prop) (p0 : Nat) (M : fM) : Prop := isO M p0 11 ∧ w_X11_whole p0 M fun M37 => j_X11_behindOne_200 φ p0 M37
set_option maxRecDepth 100000 in
theorem sj_X11_behindOne_129 {g : GT} {d : Nat} (hd : 4 ≤ d + 1) {φ : Int32 → fM → Prop} {p0 : Nat} {M : fM} (h : j_X11_behindOne_129 φ p0 M) : FW g mtX11_behindOne (d + 1) 129 [(0, .ref p0)] [] M 0 0 (rI φ) := by
  unfold j_X11_behindOne_129 at h
  refine fw_aload_n (i := 0) 0 rfl (show decode _ _ = .ok (.aload_n 0, 1) by decide +kernel) ?_
  obtain ⟨⟨hr39, n38, hs40⟩, h_1⟩ := h
  refine fw_callV (mt' := mtX11_whole) (mc := 0) (ms := 0) (As := []) (rest := []) 0 11 n38 (show decode _ _ = .ok (.invokevirtual 188, 3) by decide +kernel) cv_X11_188 ⟨_, rfl, rfl⟩ hr39 hs40 rfl (Nat.le_of_ble_eq_true rfl) (s_X11_whole (d := d) (hd_le hd (by decide)) h_1) (by decide) (by decide) (kV (bc' := 0) (bs' := 0) (by decide) (by decide) (fun M37 h_2 => ?_))
  refine fw_goto 200 (show decode _ _ = .ok (.goto 67, 3) by decide +kernel) (by decide) ?_
  refine FW.sub [0] (ls' := [(0, .ref p0)]) rfl ?_
  exact sj_X11_behindOne_200 hd h_2
def j_X11_behindOne_91 (φ : Int32 → fM → Prop) (p0 : Nat) (p4 : Int32) (M : fM) : Prop := isO M p0 11 ∧ w_X11_settle p0 (1 : Int32) M fun M41 => isO M41 p0 11 ∧ nm ((mI M41 p0 17) - (1 : Int32)) fun x48 => st (wI M41 p0 17 x48) fun M50 => nm ((mI M50 p0 18) - (1 : Int32)) fun x52 => st (wI M50 p0 18 x52) fun M54 => iF (p4 = (43 : Int32)) (w_X11_emit p0 (2 : Int32) (0 : Int32) M54 fun M56 => j_X11_behindOne_129 φ p0 M56) (j_X11_behindOne_129 φ p0 M54)
set_option maxRecDepth 100000 in
theorem sj_X11_behindOne_91 {g : GT} {d : Nat} (hd : 4 ≤ d + 1) {φ : Int32 → fM → Prop} {p0 : Nat} {p4 : Int32} {M : fM} (h : j_X11_behindOne_91 φ p0 p4 M) : FW g mtX11_behindOne (d + 1) 91 [(0, .ref p0), (4, .int p4)] [] M 0 0 (rI φ) := by
  unfold j_X11_behindOne_91 at h
  refine fw_aload_n (i := 0) 0 rfl (show decode _ _ = .ok (.aload_n 0, 1) by decide +kernel) ?_
  refine fw_iconst (v := (1 : Int32)) (show decode _ _ = .ok (.iconst 1, 1) by decide +kernel) (by decide) ?_
  obtain ⟨⟨hr43, n42, hs44⟩, h_1⟩ := h
  refine fw_callV (mt' := mtX11_settle) (mc := 0) (ms := 0) (As := [.int (1 : Int32)]) (rest := []) 1 11 n42 (show decode _ _ = .ok (.invokevirtual 165, 3) by decide +kernel) cv_X11_165 ⟨_, rfl, rfl⟩ hr43 hs44 rfl (Nat.le_of_ble_eq_true rfl) (s_X11_settle (d := d) (hd_le hd (by decide)) h_1) (by decide) (by decide) (kV (bc' := 0) (bs' := 0) (by decide) (by decide) (fun M41 h_2 => ?_))
  refine fw_aload_n (i := 0) 0 rfl (show decode _ _ = .ok (.aload_n 0, 1) by decide +kernel) ?_
  refine fw_dup (show decode _ _ = .ok (.dup, 1) by decide +kernel) rfl ?_
  obtain ⟨⟨hr46, n45, hs47⟩, h_3⟩ := h_2
  refine fw_getI (kd := 11) (k := 17) (show decode _ _ = .ok (.getfield 138, 3) by decide +kernel) gf_X11_138 hr46 hs47 (Or.inl rfl) ?_
  refine fw_iconst (v := (1 : Int32)) (show decode _ _ = .ok (.iconst 1, 1) by decide +kernel) (by decide) ?_
  refine fw_isub (show decode _ _ = .ok (.isub, 1) by decide +kernel) ?_
  refine fw_nmI (fun x48 ex49 => ?_)
  have h_4 := h_3 x48 ex49
  refine fw_putI (kd := 11) (k := 17) (show decode _ _ = .ok (.putfield 138, 3) by decide +kernel) ⟨gf_X11_138, _, rfl, Or.inl rfl⟩ hr46 hs47 rfl ?_
  refine FW.nmM (fun M50 eM51 => ?_)
  have h_5 := h_4 M50 eM51
  refine fw_aload_n (i := 0) 0 rfl (show decode _ _ = .ok (.aload_n 0, 1) by decide +kernel) ?_
  refine fw_dup (show decode _ _ = .ok (.dup, 1) by decide +kernel) rfl ?_
  refine fw_getI (kd := 11) (k := 18) (show decode _ _ = .ok (.getfield 158, 3) by decide +kernel) gf_X11_158 hr46 (mSw_I eM51 hs47) (Or.inl rfl) ?_
  refine fw_iconst (v := (1 : Int32)) (show decode _ _ = .ok (.iconst 1, 1) by decide +kernel) (by decide) ?_
  refine fw_isub (show decode _ _ = .ok (.isub, 1) by decide +kernel) ?_
  refine fw_nmI (fun x52 ex53 => ?_)
  have h_6 := h_5 x52 ex53
  refine fw_putI (kd := 11) (k := 18) (show decode _ _ = .ok (.putfield 158, 3) by decide +kernel) ⟨gf_X11_158, _, rfl, Or.inl rfl⟩ hr46 (mSw_I eM51 hs47) rfl ?_
  refine FW.nmM (fun M54 eM55 => ?_)
  have h_7 := h_6 M54 eM55
  refine fw_iload (i := 4) 1 rfl (show decode _ _ = .ok (.iload 4, 2) by decide +kernel) ?_
  refine fw_bipush (v := (43 : Int32)) (show decode _ _ = .ok (.bipush 43, 2) by decide +kernel) (by decide) ?_
  refine fw_icmp_ne 129 (show decode _ _ = .ok (.if_icmp .ne 9, 3) by decide +kernel) (by decide) (fun hc57 => ?_) (fun hc57 => ?_)
  · have h_8 := ineg hc57 h_7
    refine FW.sub [0] (ls' := [(0, .ref p0)]) rfl ?_
    exact sj_X11_behindOne_129 hd h_8
  · have h_9 := ipos hc57 h_7
    refine fw_aload_n (i := 0) 0 rfl (show decode _ _ = .ok (.aload_n 0, 1) by decide +kernel) ?_
    refine fw_iconst (v := (2 : Int32)) (show decode _ _ = .ok (.iconst 2, 1) by decide +kernel) (by decide) ?_
    refine fw_iconst (v := (0 : Int32)) (show decode _ _ = .ok (.iconst 0, 1) by decide +kernel) (by decide) ?_
    refine fw_callV (mt' := mtX11_emit) (mc := 0) (ms := 0) (As := [.int (2 : Int32), .int (0 : Int32)]) (rest := []) 2 11 n45 (show decode _ _ = .ok (.invokevirtual 155, 3) by decide +kernel) cv_X11_155 ⟨_, rfl, rfl⟩ hr46 (mSw_I eM55 (mSw_I eM51 hs47)) rfl (Nat.le_of_ble_eq_true rfl) (s_X11_emit (d := d) (hd_le hd (by decide)) h_9) (by decide) (by decide) (kV (bc' := 0) (bs' := 0) (by decide) (by decide) (fun M56 h_10 => ?_))
    refine FW.sub [0] (ls' := [(0, .ref p0)]) rfl ?_
    exact sj_X11_behindOne_129 hd h_10
def j_X11_behindOne_68 (φ : Int32 → fM → Prop) (p0 : Nat) (p3 : Int32) (p4 : Int32) (M : fM) : Prop := w_X11_w3 (101 : Int32) (110 : Int32) (100 : Int32) M fun x59 M58 => isO M58 p0 11 ∧ w_X11_isWord p0 x59 M58 fun x64 M60 => iF (x64 = 0) (j_X11_behindOne_136 φ p0 p3 p4 M60) (iF (p4 = (43 : Int32)) (j_X11_behindOne_91 φ p0 p4 M60) (j_X11_behindOne_136 φ p0 p3 p4 M60))
set_option maxRecDepth 100000 in
theorem sj_X11_behindOne_68 {g : GT} {d : Nat} (hd : 4 ≤ d + 1) {φ : Int32 → fM → Prop} {p0 : Nat} {p3 : Int32} {p4 : Int32} {M : fM} (h : j_X11_behindOne_68 φ p0 p3 p4 M) : FW g mtX11_behindOne (d + 1) 68 [(0, .ref p0), (3, .int p3), (4, .int p4)] [] M 0 0 (rI φ) := by
  unfold j_X11_behindOne_68 at h
  refine fw_aload_n (i := 0) 0 rfl (show decode _ _ = .ok (.aload_n 0, 1) by decide +kernel) ?_
  refine fw_bipush (v := (101 : Int32)) (show decode _ _ = .ok (.bipush 101, 2) by decide +kernel) (by decide) ?_
  refine fw_bipush (v := (110 : Int32)) (show decode _ _ = .ok (.bipush 110, 2) by decide +kernel) (by decide) ?_
  refine fw_bipush (v := (100 : Int32)) (show decode _ _ = .ok (.bipush 100, 2) by decide +kernel) (by decide) ?_
  refine fw_callS (mt' := mtX11_w3) (mc := 0) (ms := 0) (As := [.int (101 : Int32), .int (110 : Int32), .int (100 : Int32)]) (rest := [.ref p0]) 3 (show decode _ _ = .ok (.invokestatic 124, 3) by decide +kernel) cs_X11_124 rfl (Nat.le_of_ble_eq_true rfl) (s_X11_w3 (d := d) (hd_le hd (by decide)) h) (by decide) (by decide) (kJ (bc' := 0) (bs' := 0) (by decide) (by decide) (fun x59 M58 h_1 => ?_))
  obtain ⟨⟨hr62, n61, hs63⟩, h_2⟩ := h_1
  refine fw_callV (mt' := mtX11_isWord) (mc := 0) (ms := 0) (As := [.long x59]) (rest := []) 1 11 n61 (show decode _ _ = .ok (.invokevirtual 196, 3) by decide +kernel) cv_X11_196 ⟨_, rfl, rfl⟩ hr62 hs63 rfl (Nat.le_of_ble_eq_true rfl) (s_X11_isWord (d := d) (hd_le hd (by decide)) h_2) (by decide) (by decide) (kI (bc' := 0) (bs' := 0) (by decide) (by decide) (fun x64 M60 h_3 => ?_))
  refine fw_if_eq 136 (show decode _ _ = .ok (.ifCond .eq 55, 3) by decide +kernel) (by decide) (fun hc66 => ?_) (fun hc66 => ?_)
  · have h_4 := ipos hc66 h_3
    refine FW.sub [0, 1, 2] (ls' := [(0, .ref p0), (3, .int p3), (4, .int p4)]) rfl ?_
    exact sj_X11_behindOne_136 hd h_4
  · have h_5 := ineg hc66 h_3
    refine fw_iload (i := 4) 2 rfl (show decode _ _ = .ok (.iload 4, 2) by decide +kernel) ?_
    refine fw_bipush (v := (43 : Int32)) (show decode _ _ = .ok (.bipush 43, 2) by decide +kernel) (by decide) ?_
    refine fw_icmp_ne 136 (show decode _ _ = .ok (.if_icmp .ne 48, 3) by decide +kernel) (by decide) (fun hc65 => ?_) (fun hc65 => ?_)
    · have h_6 := ineg hc65 h_5
      refine FW.sub [0, 1, 2] (ls' := [(0, .ref p0), (3, .int p3), (4, .int p4)]) rfl ?_
      exact sj_X11_behindOne_136 hd h_6
    · have h_7 := ipos hc65 h_5
      refine FW.sub [0, 2] (ls' := [(0, .ref p0), (4, .int p4)]) rfl ?_
      exact sj_X11_behindOne_91 hd h_7
def j_X11_behindOne_25 (φ : Int32 → fM → Prop) (p0 : Nat) (p2 : Int32) (p3 : Int32) (s0 : Int32) (M : fM) : Prop := iF (p2 < 0) (isO M p0 11 ∧ iF ((mI M p0 9) = (41 : Int32)) (iF (s0 = (40 : Int32)) (j_X11_behindOne_91 φ p0 s0 M) (j_X11_behindOne_68 φ p0 p3 s0 M)) (j_X11_behindOne_68 φ p0 p3 s0 M)) (w_X11_rank p2 M fun x73 M72 => isO M72 p0 11 ∧ w_X11_settle p0 x73 M72 fun M74 => isO M74 p0 11 ∧ w_X11_push p0 p2 M74 fun M78 => isO M78 p0 11 ∧ st (wI M78 p0 19 (0 : Int32)) fun M85 => j_X11_behindOne_200 φ p0 M85)
set_option maxRecDepth 100000 in
theorem sj_X11_behindOne_25 {g : GT} {d : Nat} (hd : 4 ≤ d + 1) {φ : Int32 → fM → Prop} {p0 : Nat} {p2 : Int32} {p3 : Int32} {s0 : Int32} {M : fM} (h : j_X11_behindOne_25 φ p0 p2 p3 s0 M) : FW g mtX11_behindOne (d + 1) 25 [(0, .ref p0), (2, .int p2), (3, .int p3)] [.int s0] M 0 0 (rI φ) := by
  unfold j_X11_behindOne_25 at h
  refine fw_istore (i := 4) (ls' := [(4, .int s0), (0, .ref p0), (2, .int p2), (3, .int p3)]) (show decode _ _ = .ok (.istore 4, 2) by decide +kernel) (by decide) rfl ?_
  refine fw_iload_n (i := 2) 2 rfl (show decode _ _ = .ok (.iload_n 2, 1) by decide +kernel) ?_
  refine fw_if_lt 52 (show decode _ _ = .ok (.ifCond .lt 24, 3) by decide +kernel) (by decide) (fun hc87 => ?_) (fun hc87 => ?_)
  · have h_1 := ipos hc87 h
    refine fw_aload_n (i := 0) 1 rfl (show decode _ _ = .ok (.aload_n 0, 1) by decide +kernel) ?_
    obtain ⟨⟨hr68, n67, hs69⟩, h_2⟩ := h_1
    refine fw_getI (kd := 11) (k := 9) (show decode _ _ = .ok (.getfield 107, 3) by decide +kernel) gf_X11_107 hr68 hs69 (Or.inl rfl) ?_
    refine fw_bipush (v := (41 : Int32)) (show decode _ _ = .ok (.bipush 41, 2) by decide +kernel) (by decide) ?_
    refine fw_icmp_ne 68 (show decode _ _ = .ok (.if_icmp .ne 10, 3) by decide +kernel) (by decide) (fun hc71 => ?_) (fun hc71 => ?_)
    · have h_3 := ineg hc71 h_2
      refine FW.sub [1, 3, 0] (ls' := [(0, .ref p0), (3, .int p3), (4, .int s0)]) rfl ?_
      exact sj_X11_behindOne_68 hd h_3
    · have h_4 := ipos hc71 h_2
      refine fw_iload (i := 4) 0 rfl (show decode _ _ = .ok (.iload 4, 2) by decide +kernel) ?_
      refine fw_bipush (v := (40 : Int32)) (show decode _ _ = .ok (.bipush 40, 2) by decide +kernel) (by decide) ?_
      refine fw_icmp_eq 91 (show decode _ _ = .ok (.if_icmp .eq 26, 3) by decide +kernel) (by decide) (fun hc70 => ?_) (fun hc70 => ?_)
      · have h_5 := ipos hc70 h_4
        refine FW.sub [1, 0] (ls' := [(0, .ref p0), (4, .int s0)]) rfl ?_
        exact sj_X11_behindOne_91 hd h_5
      · have h_6 := ineg hc70 h_4
        refine FW.sub [1, 3, 0] (ls' := [(0, .ref p0), (3, .int p3), (4, .int s0)]) rfl ?_
        exact sj_X11_behindOne_68 hd h_6
  · have h_7 := ineg hc87 h
    refine fw_aload_n (i := 0) 1 rfl (show decode _ _ = .ok (.aload_n 0, 1) by decide +kernel) ?_
    refine fw_iload_n (i := 2) 2 rfl (show decode _ _ = .ok (.iload_n 2, 1) by decide +kernel) ?_
    refine fw_callS (mt' := mtX11_rank) (mc := 0) (ms := 0) (As := [.int p2]) (rest := [.ref p0]) 1 (show decode _ _ = .ok (.invokestatic 152, 3) by decide +kernel) cs_X11_152 rfl (Nat.le_of_ble_eq_true rfl) (s_X11_rank (d := d) (hd_le hd (by decide)) h_7) (by decide) (by decide) (kI (bc' := 0) (bs' := 0) (by decide) (by decide) (fun x73 M72 h_8 => ?_))
    obtain ⟨⟨hr76, n75, hs77⟩, h_9⟩ := h_8
    refine fw_callV (mt' := mtX11_settle) (mc := 0) (ms := 0) (As := [.int x73]) (rest := []) 1 11 n75 (show decode _ _ = .ok (.invokevirtual 165, 3) by decide +kernel) cv_X11_165 ⟨_, rfl, rfl⟩ hr76 hs77 rfl (Nat.le_of_ble_eq_true rfl) (s_X11_settle (d := d) (hd_le hd (by decide)) h_9) (by decide) (by decide) (kV (bc' := 0) (bs' := 0) (by decide) (by decide) (fun M74 h_10 => ?_))
    refine fw_aload_n (i := 0) 1 rfl (show decode _ _ = .ok (.aload_n 0, 1) by decide +kernel) ?_
    refine fw_iload_n (i := 2) 2 rfl (show decode _ _ = .ok (.iload_n 2, 1) by decide +kernel) ?_
    obtain ⟨⟨hr80, n79, hs81⟩, h_11⟩ := h_10
    refine fw_callV (mt' := mtX11_push) (mc := 0) (ms := 0) (As := [.int p2]) (rest := []) 1 11 n79 (show decode _ _ = .ok (.invokevirtual 176, 3) by decide +kernel) cv_X11_176 ⟨_, rfl, rfl⟩ hr80 hs81 rfl (Nat.le_of_ble_eq_true rfl) (s_X11_push (d := d) (hd_le hd (by decide)) h_11) (by decide) (by decide) (kV (bc' := 0) (bs' := 0) (by decide) (by decide) (fun M78 h_12 => ?_))
    refine fw_aload_n (i := 0) 1 rfl (show decode _ _ = .ok (.aload_n 0, 1) by decide +kernel) ?_
    refine fw_iconst (v := (0 : Int32)) (show decode _ _ = .ok (.iconst 0, 1) by decide +kernel) (by decide) ?_
    obtain ⟨⟨hr83, n82, hs84⟩, h_13⟩ := h_12
    refine fw_putZ (kd := 11) (k := 19) (show decode _ _ = .ok (.putfield 161, 3) by decide +kernel) ⟨gf_X11_161, _, rfl, Or.inl rfl⟩ hr83 hs84 rfl rfl ?_
    refine FW.nmM (fun M85 eM86 => ?_)
    have h_14 := h_13 M85 eM86
    refine fw_goto 200 (show decode _ _ = .ok (.goto 151, 3) by decide +kernel) (by decide) ?_
    refine FW.sub [1] (ls' := [(0, .ref p0)]) rfl ?_
    exact sj_X11_behindOne_200 hd h_14
def w_X11_behindOne (p0 : Nat) (p1 : Int32) (M : fM) (φ : Int32 → fM → Prop) : Prop := isO M p0 11 ∧ w_X11_betweenOf p0 p1 M fun x92 M88 => isO M88 p0 11 ∧ w_X11_marker p0 M88 fun x97 M93 => iF (0 ≤ x97) (isO M93 p0 11 ∧ dR (mP M93 p0 16) fun y101 => inA M93 y101 12 x97 ∧ j_X11_behindOne_25 φ p0 x92 x97 (mI M93 y101 (ix x97)) M93) (j_X11_behindOne_25 φ p0 x92 x97 (-1 : Int32) M93)
set_option maxRecDepth 100000 in
theorem s_X11_behindOne {g : GT} {d : Nat} (hd : 4 ≤ d) {p0 : Nat} {p1 : Int32} {M : fM} {φ : Int32 → fM → Prop} (h : w_X11_behindOne p0 p1 M φ) : FC g mtX11_behindOne d [.ref p0, .int p1] M 0 0 (rI φ) := by
  obtain ⟨d, rfl⟩ : ∃ e, d = e + 1 := ⟨d - 1, by omega⟩
  unfold w_X11_behindOne at h
  refine FC.intro (nL := 5) (by decide) rfl (Nat.le_of_ble_eq_true rfl) ?_
  show FW g mtX11_behindOne (d + 1) 0 [(0, .ref p0), (1, .int p1)] [] M 0 0 (rI φ)
  refine fw_aload_n (i := 0) 0 rfl (show decode _ _ = .ok (.aload_n 0, 1) by decide +kernel) ?_
  refine fw_iload_n (i := 1) 1 rfl (show decode _ _ = .ok (.iload_n 1, 1) by decide +kernel) ?_
  obtain ⟨⟨hr90, n89, hs91⟩, h_1⟩ := h
  refine fw_callV (mt' := mtX11_betweenOf) (mc := 0) (ms := 0) (As := [.int p1]) (rest := []) 1 11 n89 (show decode _ _ = .ok (.invokevirtual 213, 3) by decide +kernel) cv_X11_213 ⟨_, rfl, rfl⟩ hr90 hs91 rfl (Nat.le_of_ble_eq_true rfl) (s_X11_betweenOf (d := d) (hd_le hd (by decide)) h_1) (by decide) (by decide) (kI (bc' := 0) (bs' := 0) (by decide) (by decide) (fun x92 M88 h_2 => ?_))
  refine fw_istore_n (i := 2) (ls' := [(2, .int x92), (0, .ref p0), (1, .int p1)]) (show decode _ _ = .ok (.istore_n 2, 1) by decide +kernel) (by decide) rfl ?_
  refine fw_aload_n (i := 0) 1 rfl (show decode _ _ = .ok (.aload_n 0, 1) by decide +kernel) ?_
  obtain ⟨⟨hr95, n94, hs96⟩, h_3⟩ := h_2
  refine fw_callV (mt' := mtX11_marker) (mc := 0) (ms := 0) (As := []) (rest := []) 0 11 n94 (show decode _ _ = .ok (.invokevirtual 168, 3) by decide +kernel) cv_X11_168 ⟨_, rfl, rfl⟩ hr95 hs96 rfl (Nat.le_of_ble_eq_true rfl) (s_X11_marker (d := d) (hd_le hd (by decide)) h_3) (by decide) (by decide) (kI (bc' := 0) (bs' := 0) (by decide) (by decide) (fun x97 M93 h_4 => ?_))
  refine fw_istore_n (i := 3) (ls' := [(3, .int x97), (2, .int x92), (0, .ref p0), (1, .int p1)]) (show decode _ _ = .ok (.istore_n 3, 1) by decide +kernel) (by decide) rfl ?_
  refine fw_iload_n (i := 3) 0 rfl (show decode _ _ = .ok (.iload_n 3, 1) by decide +kernel) ?_
  refine fw_if_ge 19 (show decode _ _ = .ok (.ifCond .ge 7, 3) by decide +kernel) (by decide) (fun hc106 => ?_) (fun hc106 => ?_)
  · have h_5 := ipos hc106 h_4
    refine fw_aload_n (i := 0) 2 rfl (show decode _ _ = .ok (.aload_n 0, 1) by decide +kernel) ?_
    obtain ⟨⟨hr99, n98, hs100⟩, h_6⟩ := h_5
    refine fw_getP (kd := 11) (k := 16) (show decode _ _ = .ok (.getfield 29, 3) by decide +kernel) gf_X11_29 hr99 hs100 rfl ?_
    have h_7 := dR_e h_6
    obtain ⟨y101, hy102, h_8⟩ := h_7
    refine fw_deref hy102 ?_
    refine fw_iload_n (i := 3) 0 rfl (show decode _ _ = .ok (.iload_n 3, 1) by decide +kernel) ?_
    obtain ⟨⟨n103, hs104, hi105⟩, h_9⟩ := h_8
    refine fw_iald (show decode _ _ = .ok (.iaload, 1) by decide +kernel) hs104 hi105 ?_
    refine FW.sub [2, 1, 0] (ls' := [(0, .ref p0), (2, .int x92), (3, .int x97)]) rfl ?_
    exact sj_X11_behindOne_25 hd h_9
  · have h_10 := ineg hc106 h_4
    refine fw_iconst (v := (-1 : Int32)) (show decode _ _ = .ok (.iconst (-1), 1) by decide +kernel) (by decide) ?_
    refine fw_goto 25 (show decode _ _ = .ok (.goto 9, 3) by decide +kernel) (by decide) ?_
    refine FW.sub [2, 1, 0] (ls' := [(0, .ref p0), (2, .int x92), (3, .int x97)]) rfl ?_
    exact sj_X11_behindOne_25 hd h_10
