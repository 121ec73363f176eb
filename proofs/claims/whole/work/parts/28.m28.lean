def j_X11_start_76 (φ : fM → Prop) (s0 : Int64) (s1 : Int32) (s2 : Nat) (M : fM) : Prop := 6 ≤ s2 ∧ inA M s2 13 s1 ∧ st (wJ M s2 (ix s1) s0) fun M5 => φ M5
set_option maxRecDepth 100000 in
theorem sj_X11_start_76 {g : GT} {d : Nat} (hd : 1 ≤ d + 1) {φ : fM → Prop} {s0 : Int64} {s1 : Int32} {s2 : Nat} {M : fM} (h : j_X11_start_76 φ s0 s1 s2 M) : FW g mtX11_start (d + 1) 76 [] [.long s0, .int s1, .ref s2] M 0 0 (rV φ) := by
  unfold j_X11_start_76 at h
  obtain ⟨hr4, ⟨n1, hs2, hi3⟩, h_1⟩ := h
  refine fw_last (show decode _ _ = .ok (.lastore, 1) by decide +kernel) hr4 hs2 hi3 ?_
  refine FW.nmM (fun M5 eM6 => ?_)
  have h_2 := h_1 M5 eM6
  exact fw_ret (v := none) .return_ (show decode _ _ = .ok (.return_, 1) by decide +kernel) ⟨rfl, rfl⟩ ⟨rfl, h_2⟩
def j_X11_start_59 (φ : fM → Prop) (p0 : Nat) (p3 : Int32) (p4 : Int32) (s0 : Int64) (s1 : Int32) (s2 : Nat) (M : fM) : Prop := 6 ≤ s2 ∧ inA M s2 13 s1 ∧ st (wJ M s2 (ix s1) s0) fun M11 => isO M11 p0 11 ∧ dR (mP M11 p0 24) fun y16 => iF (p3 = 0) (j_X11_start_76 φ (0 : Int64) (1 : Int32) y16 M11) (j_X11_start_76 φ (Int32.toInt64 p4) (1 : Int32) y16 M11)
set_option maxRecDepth 100000 in
theorem sj_X11_start_59 {g : GT} {d : Nat} (hd : 1 ≤ d + 1) {φ : fM → Prop} {p0 : Nat} {p3 : Int32} {p4 : Int32} {s0 : Int64} {s1 : Int32} {s2 : Nat} {M : fM} (h : j_X11_start_59 φ p0 p3 p4 s0 s1 s2 M) : FW g mtX11_start (d + 1) 59 [(0, .ref p0), (3, .int p3), (4, .int p4)] [.long s0, .int s1, .ref s2] M 0 0 (rV φ) := by
  unfold j_X11_start_59 at h
  obtain ⟨hr10, ⟨n7, hs8, hi9⟩, h_1⟩ := h
  refine fw_last (show decode _ _ = .ok (.lastore, 1) by decide +kernel) hr10 hs8 hi9 ?_
  refine FW.nmM (fun M11 eM12 => ?_)
  have h_2 := h_1 M11 eM12
  refine fw_aload_n (i := 0) 0 rfl (show decode _ _ = .ok (.aload_n 0, 1) by decide +kernel) ?_
  obtain ⟨⟨hr14, n13, hs15⟩, h_3⟩ := h_2
  refine fw_getP (kd := 11) (k := 24) (show decode _ _ = .ok (.getfield 43, 3) by decide +kernel) gf_X11_43 hr14 hs15 rfl ?_
  have h_4 := dR_e h_3
  obtain ⟨y16, hy17, h_5⟩ := h_4
  refine fw_deref hy17 ?_
  refine fw_iconst (v := (1 : Int32)) (show decode _ _ = .ok (.iconst 1, 1) by decide +kernel) (by decide) ?_
  refine fw_iload_n (i := 3) 1 rfl (show decode _ _ = .ok (.iload_n 3, 1) by decide +kernel) ?_
  refine fw_if_eq 75 (show decode _ _ = .ok (.ifCond .eq 9, 3) by decide +kernel) (by decide) (fun hc18 => ?_) (fun hc18 => ?_)
  · have h_6 := ipos hc18 h_5
    refine fw_lconst (v := (0 : Int64)) (show decode _ _ = .ok (.lconst 0, 1) by decide +kernel) (by decide) ?_
    refine FW.sub [] (ls' := []) rfl ?_
    exact sj_X11_start_76 hd h_6
  · have h_7 := ineg hc18 h_5
    refine fw_iload (i := 4) 2 rfl (show decode _ _ = .ok (.iload 4, 2) by decide +kernel) ?_
    refine fw_i2l (show decode _ _ = .ok (.i2l, 1) by decide +kernel) ?_
    refine fw_goto 76 (show decode _ _ = .ok (.goto 4, 3) by decide +kernel) (by decide) ?_
    refine FW.sub [] (ls' := []) rfl ?_
    exact sj_X11_start_76 hd h_7
def b_X11_start_3 (K3 : Nat → Int32 → Int32 → Int32 → Int32 → fM → Prop) (φ : fM → Prop) (p0 : Nat) (p1 : Int32) (p2 : Int32) (p3 : Int32) (p4 : Int32) (M : fM) : Prop := iF ((480 : Int32) ≤ p4) (isO M p0 11 ∧ dR (mP M p0 0) fun y22 => inA M y22 12 (((82 : Int32) + ((3 : Int32) * p1)) + (2 : Int32)) ∧ nm (mI M y22 (ix (((82 : Int32) + ((3 : Int32) * p1)) + (2 : Int32)))) fun x27 => dR (mP M p0 24) fun y29 => iF (p2 = 0) (j_X11_start_59 φ p0 p3 x27 (0 : Int64) (0 : Int32) y29 M) (j_X11_start_59 φ p0 p3 x27 (Int32.toInt64 ((10 : Int32) - x27)) (0 : Int32) y29 M)) (isO M p0 11 ∧ dR (mP M p0 24) fun y35 => 6 ≤ y35 ∧ inA M y35 13 p4 ∧ st (wJ M y35 (ix p4) (0 : Int64)) fun M41 => nm (p4 + (1 : Int32)) fun x43 => K3 p0 p1 p2 p3 x43 M41)
def l_X11_start_3 (φ : fM → Prop) : Nat → Nat → Int32 → Int32 → Int32 → Int32 → fM → Prop
  | 0, _, _, _, _, _, _ => False
  | n + 1, p0, p1, p2, p3, p4, M => b_X11_start_3 (l_X11_start_3 φ n) φ p0 p1 p2 p3 p4 M
set_option maxRecDepth 100000 in
theorem sb_X11_start_3 {g : GT} {d : Nat} (hd : 1 ≤ d + 1) {K3 : Nat → Int32 → Int32 → Int32 → Int32 → fM → Prop} {φ : fM → Prop} (hK3 : ∀ (p0 : Nat) (p1 : Int32) (p2 : Int32) (p3 : Int32) (p4 : Int32) (M : fM), K3 p0 p1 p2 p3 p4 M → FW g mtX11_start (d + 1) 3 [(0, .ref p0), (1, .int p1), (2, .int p2), (3, .int p3), (4, .int p4)] [] M 0 0 (rV φ)) {p0 : Nat} {p1 : Int32} {p2 : Int32} {p3 : Int32} {p4 : Int32} {M : fM} (h : b_X11_start_3 K3 φ p0 p1 p2 p3 p4 M) : FW g mtX11_start (d + 1) 3 [(0, .ref p0), (1, .int p1), (2, .int p2), (3, .int p3), (4, .int p4)] [] M 0 0 (rV φ) := by
  unfold b_X11_start_3 at h
  refine fw_iload (i := 4) 4 rfl (show decode _ _ = .ok (.iload 4, 2) by decide +kernel) ?_
  refine fw_sipush (v := (480 : Int32)) (show decode _ _ = .ok (.sipush 480, 3) by decide +kernel) (by decide) ?_
  refine fw_icmp_ge 25 (show decode _ _ = .ok (.if_icmp .ge 17, 3) by decide +kernel) (by decide) (fun hc45 => ?_) (fun hc45 => ?_)
  · have h_1 := ipos hc45 h
    refine fw_aload_n (i := 0) 0 rfl (show decode _ _ = .ok (.aload_n 0, 1) by decide +kernel) ?_
    obtain ⟨⟨hr20, n19, hs21⟩, h_2⟩ := h_1
    refine fw_getP (kd := 11) (k := 0) (show decode _ _ = .ok (.getfield 7, 3) by decide +kernel) gf_X11_7 hr20 hs21 rfl ?_
    have h_3 := dR_e h_2
    obtain ⟨y22, hy23, h_4⟩ := h_3
    refine fw_deref hy23 ?_
    refine fw_bipush (v := (82 : Int32)) (show decode _ _ = .ok (.bipush 82, 2) by decide +kernel) (by decide) ?_
    refine fw_iconst (v := (3 : Int32)) (show decode _ _ = .ok (.iconst 3, 1) by decide +kernel) (by decide) ?_
    refine fw_iload_n (i := 1) 1 rfl (show decode _ _ = .ok (.iload_n 1, 1) by decide +kernel) ?_
    refine fw_imul (show decode _ _ = .ok (.imul, 1) by decide +kernel) ?_
    refine fw_iadd (show decode _ _ = .ok (.iadd, 1) by decide +kernel) ?_
    refine fw_iconst (v := (2 : Int32)) (show decode _ _ = .ok (.iconst 2, 1) by decide +kernel) (by decide) ?_
    refine fw_iadd (show decode _ _ = .ok (.iadd, 1) by decide +kernel) ?_
    obtain ⟨⟨n24, hs25, hi26⟩, h_5⟩ := h_4
    refine fw_iald (show decode _ _ = .ok (.iaload, 1) by decide +kernel) hs25 hi26 ?_
    refine fw_nmI (fun x27 ex28 => ?_)
    have h_6 := h_5 x27 ex28
    refine fw_istore (i := 4) (ls' := [(4, .int x27), (0, .ref p0), (1, .int p1), (2, .int p2), (3, .int p3)]) (show decode _ _ = .ok (.istore 4, 2) by decide +kernel) (by decide) rfl ?_
    refine fw_aload_n (i := 0) 1 rfl (show decode _ _ = .ok (.aload_n 0, 1) by decide +kernel) ?_
    refine fw_getP (kd := 11) (k := 24) (show decode _ _ = .ok (.getfield 43, 3) by decide +kernel) gf_X11_43 hr20 hs21 rfl ?_
    have h_7 := dR_e h_6
    obtain ⟨y29, hy30, h_8⟩ := h_7
    refine fw_deref hy30 ?_
    refine fw_iconst (v := (0 : Int32)) (show decode _ _ = .ok (.iconst 0, 1) by decide +kernel) (by decide) ?_
    refine fw_iload_n (i := 2) 3 rfl (show decode _ _ = .ok (.iload_n 2, 1) by decide +kernel) ?_
    refine fw_if_eq 58 (show decode _ _ = .ok (.ifCond .eq 12, 3) by decide +kernel) (by decide) (fun hc31 => ?_) (fun hc31 => ?_)
    · have h_9 := ipos hc31 h_8
      refine fw_lconst (v := (0 : Int64)) (show decode _ _ = .ok (.lconst 0, 1) by decide +kernel) (by decide) ?_
      refine FW.sub [1, 4, 0] (ls' := [(0, .ref p0), (3, .int p3), (4, .int x27)]) rfl ?_
      exact sj_X11_start_59 hd h_9
    · have h_10 := ineg hc31 h_8
      refine fw_bipush (v := (10 : Int32)) (show decode _ _ = .ok (.bipush 10, 2) by decide +kernel) (by decide) ?_
      refine fw_iload (i := 4) 0 rfl (show decode _ _ = .ok (.iload 4, 2) by decide +kernel) ?_
      refine fw_isub (show decode _ _ = .ok (.isub, 1) by decide +kernel) ?_
      refine fw_i2l (show decode _ _ = .ok (.i2l, 1) by decide +kernel) ?_
      refine fw_goto 59 (show decode _ _ = .ok (.goto 4, 3) by decide +kernel) (by decide) ?_
      refine FW.sub [1, 4, 0] (ls' := [(0, .ref p0), (3, .int p3), (4, .int x27)]) rfl ?_
      exact sj_X11_start_59 hd h_10
  · have h_11 := ineg hc45 h
    refine fw_aload_n (i := 0) 0 rfl (show decode _ _ = .ok (.aload_n 0, 1) by decide +kernel) ?_
    obtain ⟨⟨hr33, n32, hs34⟩, h_12⟩ := h_11
    refine fw_getP (kd := 11) (k := 24) (show decode _ _ = .ok (.getfield 43, 3) by decide +kernel) gf_X11_43 hr33 hs34 rfl ?_
    have h_13 := dR_e h_12
    obtain ⟨y35, hy36, h_14⟩ := h_13
    refine fw_deref hy36 ?_
    refine fw_iload (i := 4) 4 rfl (show decode _ _ = .ok (.iload 4, 2) by decide +kernel) ?_
    refine fw_lconst (v := (0 : Int64)) (show decode _ _ = .ok (.lconst 0, 1) by decide +kernel) (by decide) ?_
    obtain ⟨hr40, ⟨n37, hs38, hi39⟩, h_15⟩ := h_14
    refine fw_last (show decode _ _ = .ok (.lastore, 1) by decide +kernel) hr40 hs38 hi39 ?_
    refine FW.nmM (fun M41 eM42 => ?_)
    have h_16 := h_15 M41 eM42
    obtain ⟨x43, ex44⟩ : ∃ y : Int32, y = p4 + (1 : Int32) := ⟨_, rfl⟩
    have h_17 := h_16 x43 ex44
    refine fw_iinc (i := 4) (x := p4) (v := x43) (ls' := [(4, .int x43), (0, .ref p0), (1, .int p1), (2, .int p2), (3, .int p3)]) 4 rfl (show decode _ _ = .ok (.iinc 4 1, 3) by decide +kernel) (by rw [ex44]; rfl) (by decide) rfl ?_
    refine fw_goto 3 (show decode _ _ = .ok (.goto (-19), 3) by decide +kernel) (by decide) ?_
    refine FW.sub [1, 2, 3, 4, 0] (ls' := [(0, .ref p0), (1, .int p1), (2, .int p2), (3, .int p3), (4, .int x43)]) rfl ?_
    exact hK3 _ _ _ _ _ _ h_17
theorem sl_X11_start_3 {g : GT} {d : Nat} (hd : 1 ≤ d + 1) {φ : fM → Prop} : ∀ (n : Nat) {p0 : Nat} {p1 : Int32} {p2 : Int32} {p3 : Int32} {p4 : Int32} {M : fM}, l_X11_start_3 φ n p0 p1 p2 p3 p4 M → FW g mtX11_start (d + 1) 3 [(0, .ref p0), (1, .int p1), (2, .int p2), (3, .int p3), (4, .int p4)] [] M 0 0 (rV φ)
  | 0 => fun h => h.elim
  | n + 1 => fun h => sb_X11_start_3 hd (fun _ _ _ _ _ _ h => sl_X11_start_3 hd n h) h
def w_X11_start (p0 : Nat) (p1 : Int32) (p2 : Int32) (p3 : Int32) (M : fM) (φ : fM → Prop) : Prop := ∃ n, l_X11_start_3 φ n p0 p1 p2 p3 (0 : Int32) M
set_option maxRecDepth 100000 in
theorem s_X11_start {g : GT} {d : Nat} (hd : 1 ≤ d) {p0 : Nat} {p1 : Int32} {p2 : Int32} {p3 : Int32} {M : fM} {φ : fM → Prop} (h : w_X11_start p0 p1 p2 p3 M φ) : FC g mtX11_start d [.ref p0, .int p1, .int p2, .int p3] M 0 0 (rV φ) := by
  obtain ⟨d, rfl⟩ : ∃ e, d = e + 1 := ⟨d - 1, by omega⟩
  unfold w_X11_start at h
  refine FC.intro (nL := 5) (by decide) rfl (Nat.le_of_ble_eq_true rfl) ?_
  show FW g mtX11_start (d + 1) 0 [(0, .ref p0), (1, .int p1), (2, .int p2), (3, .int p3)] [] M 0 0 (rV φ)
  refine fw_iconst (v := (0 : Int32)) (show decode _ _ = .ok (.iconst 0, 1) by decide +kernel) (by decide) ?_
  refine fw_istore (i := 4) (ls' := [(4, .int (0 : Int32)), (0, .ref p0), (1, .int p1), (2, .int p2), (3, .int p3)]) (show decode _ _ = .ok (.istore 4, 2) by decide +kernel) (by decide) rfl ?_
  refine FW.sub [1, 2, 3, 4, 0] (ls' := [(0, .ref p0), (1, .int p1), (2, .int p2), (3, .int p3), (4, .int (0 : Int32))]) rfl ?_
  obtain ⟨nn, h_1⟩ := h
  exact sl_X11_start_3 hd nn h_1
def b_X11_tenTo_4 (K4 : Int32 → Int64 → Int32 → fM → Prop) (φ : Int64 → fM → Prop) (p0 : Int32) (p1 : Int64) (p3 : Int32) (M : fM) : Prop := iF (p0 ≤ p3) (φ p1 M) (nm (p1 * (10 : Int64)) fun x1 => nm (p3 + (1 : Int32)) fun x3 => K4 p0 x1 x3 M)
def l_X11_tenTo_4 (φ : Int64 → fM → Prop) : Nat → Int32 → Int64 → Int32 → fM → Prop
  | 0, _, _, _, _ => False
  | n + 1, p0, p1, p3, M => b_X11_tenTo_4 (l_X11_tenTo_4 φ n) φ p0 p1 p3 M
set_option maxRecDepth 100000 in
theorem sb_X11_tenTo_4 {g : GT} {d : Nat} (hd : 1 ≤ d + 1) {K4 : Int32 → Int64 → Int32 → fM → Prop} {φ : Int64 → fM → Prop} (hK4 : ∀ (p0 : Int32) (p1 : Int64) (p3 : Int32) (M : fM), K4 p0 p1 p3 M → FW g mtX11_tenTo (d + 1) 4 [(0, .int p0), (1, .long p1), (3, .int p3)] [] M 0 0 (rJ φ)) {p0 : Int32} {p1 : Int64} {p3 : Int32} {M : fM} (h : b_X11_tenTo_4 K4 φ p0 p1 p3 M) : FW g mtX11_tenTo (d + 1) 4 [(0, .int p0), (1, .long p1), (3, .int p3)] [] M 0 0 (rJ φ) := by
  unfold b_X11_tenTo_4 at h
  refine fw_iload_n (i := 3) 2 rfl (show decode _ _ = .ok (.iload_n 3, 1) by decide +kernel) ?_
  refine fw_iload_n (i := 0) 0 rfl (show decode _ _ = .ok (.iload_n 0, 1) by decide +kernel) ?_
  refine fw_icmp_ge 21 (show decode _ _ = .ok (.if_icmp .ge 15, 3) by decide +kernel) (by decide) (fun hc5 => ?_) (fun hc5 => ?_)
  · have h_1 := ipos hc5 h
    refine fw_lload_n (i := 1) 1 rfl (show decode _ _ = .ok (.lload_n 1, 1) by decide +kernel) ?_
    exact fw_ret (v := some (.long p1)) .lreturn (show decode _ _ = .ok (.lreturn, 1) by decide +kernel) ⟨rfl, rfl⟩ ⟨_, rfl, h_1⟩
  · have h_2 := ineg hc5 h
    refine fw_lload_n (i := 1) 1 rfl (show decode _ _ = .ok (.lload_n 1, 1) by decide +kernel) ?_
    refine fw_ldc2 (idx := 60) (v := (10 : Int64)) (show decode _ _ = .ok (.ldc2_w 60, 3) by decide +kernel) wd1916 ?_
    refine fw_lmul (show decode _ _ = .ok (.lmul, 1) by decide +kernel) ?_
    refine fw_nmJ (fun x1 ex2 => ?_)
    have h_3 := h_2 x1 ex2
    refine fw_lstore_n (i := 1) (ls' := [(1, .long x1), (0, .int p0), (3, .int p3)]) (show decode _ _ = .ok (.lstore_n 1, 1) by decide +kernel) (by decide) rfl ?_
    obtain ⟨x3, ex4⟩ : ∃ y : Int32, y = p3 + (1 : Int32) := ⟨_, rfl⟩
    have h_4 := h_3 x3 ex4
    refine fw_iinc (i := 3) (x := p3) (v := x3) (ls' := [(3, .int x3), (1, .long x1), (0, .int p0)]) 2 rfl (show decode _ _ = .ok (.iinc 3 1, 3) by decide +kernel) (by rw [ex4]; rfl) (by decide) rfl ?_
    refine fw_goto 4 (show decode _ _ = .ok (.goto (-14), 3) by decide +kernel) (by decide) ?_
    refine FW.sub [2, 1, 0] (ls' := [(0, .int p0), (1, .long x1), (3, .int x3)]) rfl ?_
    exact hK4 _ _ _ _ h_4
theorem sl_X11_tenTo_4 {g : GT} {d : Nat} (hd : 1 ≤ d + 1) {φ : Int64 → fM → Prop} : ∀ (n : Nat) {p0 : Int32} {p1 : Int64} {p3 : Int32} {M : fM}, l_X11_tenTo_4 φ n p0 p1 p3 M → FW g mtX11_tenTo (d + 1) 4 [(0, .int p0), (1, .long p1), (3, .int p3)] [] M 0 0 (rJ φ)
  | 0 => fun h => h.elim
  | n + 1 => fun h => sb_X11_tenTo_4 hd (fun _ _ _ _ h => sl_X11_tenTo_4 hd n h) h
def w_X11_tenTo (p0 : Int32) (M : fM) (φ : Int64 → fM → Prop) : Prop := ∃ n, l_X11_tenTo_4 φ n p0 (1 : Int64) (0 : Int32) M
set_option maxRecDepth 100000 in
theorem s_X11_tenTo {g : GT} {d : Nat} (hd : 1 ≤ d) {p0 : Int32} {M : fM} {φ : Int64 → fM → Prop} (h : w_X11_tenTo p0 M φ) : FC g mtX11_tenTo d [.int p0] M 0 0 (rJ φ) := by
  obtain ⟨d, rfl⟩ : ∃ e, d = e + 1 := ⟨d - 1, by omega⟩
  unfold w_X11_tenTo at h
  refine FC.intro (nL := 4) (by decide) rfl (Nat.le_of_ble_eq_true rfl) ?_
  show FW g mtX11_tenTo (d + 1) 0 [(0, .int p0)] [] M 0 0 (rJ φ)
  refine fw_lconst (v := (1 : Int64)) (show decode _ _ = .ok (.lconst 1, 1) by decide +kernel) (by decide) ?_
  refine fw_lstore_n (i := 1) (ls' := [(1, .long (1 : Int64)), (0, .int p0)]) (show decode _ _ = .ok (.lstore_n 1, 1) by decide +kernel) (by decide) rfl ?_
  refine fw_iconst (v := (0 : Int32)) (show decode _ _ = .ok (.iconst 0, 1) by decide +kernel) (by decide) ?_
  refine fw_istore_n (i := 3) (ls' := [(3, .int (0 : Int32)), (1, .long (1 : Int64)), (0, .int p0)]) (show decode _ _ = .ok (.istore_n 3, 1) by decide +kernel) (by decide) rfl ?_
  refine FW.sub [2, 1, 0] (ls' := [(0, .int p0), (1, .long (1 : Int64)), (3, .int (0 : Int32))]) rfl ?_
  obtain ⟨nn, h_1⟩ := h
  exact sl_X11_tenTo_4 hd nn h_1
def w_X11_cell (p0 : Int32) (p1 : Int32) (M : fM) (φ : Int32 → fM → Prop) : Prop := φ (((32 : Int32) * p0) + p1) M
set_option maxRecDepth 100000 in
theorem s_X11_cell {g : GT} {d : Nat} (hd : 1 ≤ d) {p0 : Int32} {p1 : Int32} {M : fM} {φ : Int32 → fM → Prop} (h : w_X11_cell p0 p1 M φ) : FC g mtX11_cell d [.int p0, .int p1] M 0 0 (rI φ) := by
  obtain ⟨d, rfl⟩ : ∃ e, d = e + 1 := ⟨d - 1, by omega⟩
  unfold w_X11_cell at h
  refine FC.intro (nL := 2) (by decide) rfl (Nat.le_of_ble_eq_true rfl) ?_
  show FW g mtX11_cell (d + 1) 0 [(0, .int p0), (1, .int p1)] [] M 0 0 (rI φ)
  refine fw_bipush (v := (32 : Int32)) (show decode _ _ = .ok (.bipush 32, 2) by decide +kernel) (by decide) ?_
  refine fw_iload_n (i := 0) 0 rfl (show decode _ _ = .ok (.iload_n 0, 1) by decide +kernel) ?_
  refine fw_imul (show decode _ _ = .ok (.imul, 1) by decide +kernel) ?_
  refine fw_iload_n (i := 1) 1 rfl (show decode _ _ = .ok (.iload_n 1, 1) by decide +kernel) ?_
  refine fw_iadd (show decode _ _ = .ok (.iadd, 1) by decide +kernel) ?_
  exact fw_ret (v := some (.int (((32 : Int32) * p0) + p1))) .ireturn (show decode _ _ = .ok (.ireturn, 1) by decide +kernel) ⟨rfl, Or.inl rfl⟩ ⟨_, rfl, h⟩
def j_X11_goOn_147 (φ : fM → Prop) (p6 : Int32) (p7 : Int64) (s0 : Int32) (s1 : Int32) (s2 : Nat) (M : fM) : Prop := w_X11_cell s1 s0 M fun x2 M1 => inA M1 s2 13 x2 ∧ nm ((mJ M1 s2 (ix x2)) + (p7 * (Int32.toInt64 p6))) fun x6 => 6 ≤ s2 ∧ inA M1 s2 13 x2 ∧ st (wJ M1 s2 (ix x2) x6) fun M12 => φ M12
set_option maxRecDepth 100000 in
theorem sj_X11_goOn_147 {g : GT} {d : Nat} (hd : 2 ≤ d + 1) {φ : fM → Prop} {p6 : Int32} {p7 : Int64} {s0 : Int32} {s1 : Int32} {s2 : Nat} {M : fM} (h : j_X11_goOn_147 φ p6 p7 s0 s1 s2 M) : FW g mtX11_goOn (d + 1) 147 [(6, .int p6), (7, .long p7)] [.int s0, .int s1, .ref s2] M 0 0 (rV φ) := by
  unfold j_X11_goOn_147 at h
  refine fw_callS (mt' := mtX11_cell) (mc := 0) (ms := 0) (As := [.int s1, .int s0]) (rest := [.ref s2]) 2 (show decode _ _ = .ok (.invokestatic 408, 3) by decide +kernel) cs_X11_408 rfl (Nat.le_of_ble_eq_true rfl) (s_X11_cell (d := d) (hd_le hd (by decide)) h) (by decide) (by decide) (kI (bc' := 0) (bs' := 0) (by decide) (by decide) (fun x2 M1 h_1 => ?_))
  refine fw_dup2_11 (show decode _ _ = .ok (.dup2, 1) by decide +kernel) rfl rfl ?_
  obtain ⟨⟨n3, hs4, hi5⟩, h_2⟩ := h_1
  refine fw_lald (show decode _ _ = .ok (.laload, 1) by decide +kernel) hs4 hi5 ?_
  refine fw_lload (i := 7) 1 rfl (show decode _ _ = .ok (.lload 7, 2) by decide +kernel) ?_
  refine fw_iload (i := 6) 0 rfl (show decode _ _ = .ok (.iload 6, 2) by decide +kernel) ?_
  refine fw_i2l (show decode _ _ = .ok (.i2l, 1) by decide +kernel) ?_
  refine fw_lmul (show decode _ _ = .ok (.lmul, 1) by decide +kernel) ?_
  refine fw_ladd (show decode _ _ = .ok (.ladd, 1) by decide +kernel) ?_
  refine fw_nmJ (fun x6 ex7 => ?_)
  have h_3 := h_2 x6 ex7
  obtain ⟨hr11, ⟨n8, hs9, hi10⟩, h_4⟩ := h_3
  refine fw_last (show decode _ _ = .ok (.lastore, 1) by decide +kernel) hr11 hs9 hi10 ?_
  refine FW.nmM (fun M12 eM13 => ?_)
  have h_5 := h_4 M12 eM13
  exact fw_ret (v := none) .return_ (show decode _ _ = .ok (.return_, 1) by decide +kernel) ⟨rfl, rfl⟩ ⟨rfl, h_5⟩
def j_X11_goOn_101 (φ : fM → Prop) (p0 : Nat) (p3 : Int32) (p4 : Int32) (p5 : Int32) (p6 : Int32) (p7 : Int64) (p9 : Int32) (s0 : Int32) (s1 : Int32) (s2 : Nat) (M : fM) : Prop := w_X11_cell s1 s0 M fun x15 M14 => inA M14 s2 13 x15 ∧ nm ((mJ M14 s2 (ix x15)) + (p7 * (Int32.toInt64 (((10 : Int32) - p5) - p6)))) fun x19 => 6 ≤ s2 ∧ inA M14 s2 13 x15 ∧ st (wJ M14 s2 (ix x15) x19) fun M25 => iF (p6 ≤ 0) (φ M25) (isO M25 p0 11 ∧ dR (mP M25 p0 24) fun y30 => iF (p9 = 0) (j_X11_goOn_147 φ p6 p7 (p4 + (2 : Int32)) (p3 + (1 : Int32)) y30 M25) (j_X11_goOn_147 φ p6 p7 (p3 + (1 : Int32)) (p3 + (1 : Int32)) y30 M25))
set_option maxRecDepth 100000 in
theorem sj_X11_goOn_101 {g : GT} {d : Nat} (hd : 2 ≤ d + 1) {φ : fM → Prop} {p0 : Nat} {p3 : Int32} {p4 : Int32} {p5 : Int32} {p6 : Int32} {p7 : Int64} {p9 : Int32} {s0 : Int32} {s1 : Int32} {s2 : Nat} {M : fM} (h : j_X11_goOn_101 φ p0 p3 p4 p5 p6 p7 p9 s0 s1 s2 M) : FW g mtX11_goOn (d + 1) 101 [(0, .ref p0), (3, .int p3), (4, .int p4), (5, .int p5), (6, .int p6), (7, .long p7), (9, .int p9)] [.int s0, .int s1, .ref s2] M 0 0 (rV φ) := by
  unfold j_X11_goOn_101 at h
  refine fw_callS (mt' := mtX11_cell) (mc := 0) (ms := 0) (As := [.int s1, .int s0]) (rest := [.ref s2]) 2 (show decode _ _ = .ok (.invokestatic 408, 3) by decide +kernel) cs_X11_408 rfl (Nat.le_of_ble_eq_true rfl) (s_X11_cell (d := d) (hd_le hd (by decide)) h) (by decide) (by decide) (kI (bc' := 0) (bs' := 0) (by decide) (by decide) (fun x15 M14 h_1 => ?_))
  refine fw_dup2_11 (show decode _ _ = .ok (.dup2, 1) by decide +kernel) rfl rfl ?_
  obtain ⟨⟨n16, hs17, hi18⟩, h_2⟩ := h_1
  refine fw_lald (show decode _ _ = .ok (.laload, 1) by decide +kernel) hs17 hi18 ?_
  refine fw_lload (i := 7) 5 rfl (show decode _ _ = .ok (.lload 7, 2) by decide +kernel) ?_
  refine fw_bipush (v := (10 : Int32)) (show decode _ _ = .ok (.bipush 10, 2) by decide +kernel) (by decide) ?_
  refine fw_iload (i := 5) 3 rfl (show decode _ _ = .ok (.iload 5, 2) by decide +kernel) ?_
  refine fw_isub (show decode _ _ = .ok (.isub, 1) by decide +kernel) ?_
  refine fw_iload (i := 6) 4 rfl (show decode _ _ = .ok (.iload 6, 2) by decide +kernel) ?_
  refine fw_isub (show decode _ _ = .ok (.isub, 1) by decide +kernel) ?_
  refine fw_i2l (show decode _ _ = .ok (.i2l, 1) by decide +kernel) ?_
  refine fw_lmul (show decode _ _ = .ok (.lmul, 1) by decide +kernel) ?_
  refine fw_ladd (show decode _ _ = .ok (.ladd, 1) by decide +kernel) ?_
  refine fw_nmJ (fun x19 ex20 => ?_)
  have h_3 := h_2 x19 ex20
  obtain ⟨hr24, ⟨n21, hs22, hi23⟩, h_4⟩ := h_3
  refine fw_last (show decode _ _ = .ok (.lastore, 1) by decide +kernel) hr24 hs22 hi23 ?_
  refine FW.nmM (fun M25 eM26 => ?_)
  have h_5 := h_4 M25 eM26
  refine fw_iload (i := 6) 4 rfl (show decode _ _ = .ok (.iload 6, 2) by decide +kernel) ?_
  refine fw_if_le 160 (show decode _ _ = .ok (.ifCond .le 38, 3) by decide +kernel) (by decide) (fun hc33 => ?_) (fun hc33 => ?_)
  · have h_6 := ipos hc33 h_5
    exact fw_ret (v := none) .return_ (show decode _ _ = .ok (.return_, 1) by decide +kernel) ⟨rfl, rfl⟩ ⟨rfl, h_6⟩
  · have h_7 := ineg hc33 h_5
    refine fw_aload_n (i := 0) 0 rfl (show decode _ _ = .ok (.aload_n 0, 1) by decide +kernel) ?_
    obtain ⟨⟨hr28, n27, hs29⟩, h_8⟩ := h_7
    refine fw_getP (kd := 11) (k := 24) (show decode _ _ = .ok (.getfield 43, 3) by decide +kernel) gf_X11_43 hr28 hs29 rfl ?_
    have h_9 := dR_e h_8
    obtain ⟨y30, hy31, h_10⟩ := h_9
    refine fw_deref hy31 ?_
    refine fw_iload_n (i := 3) 1 rfl (show decode _ _ = .ok (.iload_n 3, 1) by decide +kernel) ?_
    refine fw_iconst (v := (1 : Int32)) (show decode _ _ = .ok (.iconst 1, 1) by decide +kernel) (by decide) ?_
    refine fw_iadd (show decode _ _ = .ok (.iadd, 1) by decide +kernel) ?_
    refine fw_iload (i := 9) 6 rfl (show decode _ _ = .ok (.iload 9, 2) by decide +kernel) ?_
    refine fw_if_eq 143 (show decode _ _ = .ok (.ifCond .eq 9, 3) by decide +kernel) (by decide) (fun hc32 => ?_) (fun hc32 => ?_)
    · have h_11 := ipos hc32 h_10
      refine fw_iload (i := 4) 2 rfl (show decode _ _ = .ok (.iload 4, 2) by decide +kernel) ?_
      refine fw_iconst (v := (2 : Int32)) (show decode _ _ = .ok (.iconst 2, 1) by decide +kernel) (by decide) ?_
      refine fw_iadd (show decode _ _ = .ok (.iadd, 1) by decide +kernel) ?_
      refine FW.sub [4, 5] (ls' := [(6, .int p6), (7, .long p7)]) rfl ?_
      exact sj_X11_goOn_147 hd h_11
    · have h_12 := ineg hc32 h_10
      refine fw_iload_n (i := 3) 1 rfl (show decode _ _ = .ok (.iload_n 3, 1) by decide +kernel) ?_
      refine fw_iconst (v := (1 : Int32)) (show decode _ _ = .ok (.iconst 1, 1) by decide +kernel) (by decide) ?_
      refine fw_iadd (show decode _ _ = .ok (.iadd, 1) by decide +kernel) ?_
      refine fw_goto 147 (show decode _ _ = .ok (.goto 7, 3) by decide +kernel) (by decide) ?_
      refine FW.sub [4, 5] (ls' := [(6, .int p6), (7, .long p7)]) rfl ?_
      exact sj_X11_goOn_147 hd h_12
def j_X11_goOn_66 (φ : fM → Prop) (p0 : Nat) (p3 : Int32) (p4 : Int32) (p5 : Int32) (p6 : Int32) (p7 : Int64) (p9 : Int32) (s0 : Int32) (s1 : Int32) (s2 : Nat) (M : fM) : Prop := w_X11_cell s1 s0 M fun x35 M34 => inA M34 s2 13 x35 ∧ nm ((mJ M34 s2 (ix x35)) + (p7 * (Int32.toInt64 p5))) fun x39 => 6 ≤ s2 ∧ inA M34 s2 13 x35 ∧ st (wJ M34 s2 (ix x35) x39) fun M45 => isO M45 p0 11 ∧ dR (mP M45 p0 24) fun y50 => iF (p9 = 0) (j_X11_goOn_101 φ p0 p3 p4 p5 p6 p7 p9 (p4 + (1 : Int32)) (p3 + (1 : Int32)) y50 M45) (j_X11_goOn_101 φ p0 p3 p4 p5 p6 p7 p9 (p3 + (1 : Int32)) (p3 + (1 : Int32)) y50 M45)
set_option maxRecDepth 100000 in
theorem sj_X11_goOn_66 {g : GT} {d : Nat} (hd : 2 ≤ d + 1) {φ : fM → Prop} {p0 : Nat} {p3 : Int32} {p4 : Int32} {p5 : Int32} {p6 : Int32} {p7 : Int64} {p9 : Int32} {s0 : Int32} {s1 : Int32} {s2 : Nat} {M : fM} (h : j_X11_goOn_66 φ p0 p3 p4 p5 p6 p7 p9 s0 s1 s2 M) : FW g mtX11_goOn (d + 1) 66 [(0, .ref p0), (3, .int p3), (4, .int p4), (5, .int p5), (6, .int p6), (7, .long p7), (9, .int p9)] [.int s0, .int s1, .ref s2] M 0 0 (rV φ) := by
  unfold j_X11_goOn_66 at h
  refine fw_callS (mt' := mtX11_cell) (mc := 0) (ms := 0) (As := [.int s1, .int s0]) (rest := [.ref s2]) 2 (show decode _ _ = .ok (.invokestatic 408, 3) by decide +kernel) cs_X11_408 rfl (Nat.le_of_ble_eq_true rfl) (s_X11_cell (d := d) (hd_le hd (by decide)) h) (by decide) (by decide) (kI (bc' := 0) (bs' := 0) (by decide) (by decide) (fun x35 M34 h_1 => ?_))
  refine fw_dup2_11 (show decode _ _ = .ok (.dup2, 1) by decide +kernel) rfl rfl ?_
  obtain ⟨⟨n36, hs37, hi38⟩, h_2⟩ := h_1
  refine fw_lald (show decode _ _ = .ok (.laload, 1) by decide +kernel) hs37 hi38 ?_
  refine fw_lload (i := 7) 5 rfl (show decode _ _ = .ok (.lload 7, 2) by decide +kernel) ?_
  refine fw_iload (i := 5) 3 rfl (show decode _ _ = .ok (.iload 5, 2) by decide +kernel) ?_
  refine fw_i2l (show decode _ _ = .ok (.i2l, 1) by decide +kernel) ?_
  refine fw_lmul (show decode _ _ = .ok (.lmul, 1) by decide +kernel) ?_
  refine fw_ladd (show decode _ _ = .ok (.ladd, 1) by decide +kernel) ?_
  refine fw_nmJ (fun x39 ex40 => ?_)
  have h_3 := h_2 x39 ex40
  obtain ⟨hr44, ⟨n41, hs42, hi43⟩, h_4⟩ := h_3
  refine fw_last (show decode _ _ = .ok (.lastore, 1) by decide +kernel) hr44 hs42 hi43 ?_
  refine FW.nmM (fun M45 eM46 => ?_)
  have h_5 := h_4 M45 eM46
  refine fw_aload_n (i := 0) 0 rfl (show decode _ _ = .ok (.aload_n 0, 1) by decide +kernel) ?_
  obtain ⟨⟨hr48, n47, hs49⟩, h_6⟩ := h_5
  refine fw_getP (kd := 11) (k := 24) (show decode _ _ = .ok (.getfield 43, 3) by decide +kernel) gf_X11_43 hr48 hs49 rfl ?_
  have h_7 := dR_e h_6
  obtain ⟨y50, hy51, h_8⟩ := h_7
  refine fw_deref hy51 ?_
  refine fw_iload_n (i := 3) 1 rfl (show decode _ _ = .ok (.iload_n 3, 1) by decide +kernel) ?_
  refine fw_iconst (v := (1 : Int32)) (show decode _ _ = .ok (.iconst 1, 1) by decide +kernel) (by decide) ?_
  refine fw_iadd (show decode _ _ = .ok (.iadd, 1) by decide +kernel) ?_
  refine fw_iload (i := 9) 6 rfl (show decode _ _ = .ok (.iload 9, 2) by decide +kernel) ?_
  refine fw_if_eq 97 (show decode _ _ = .ok (.ifCond .eq 9, 3) by decide +kernel) (by decide) (fun hc52 => ?_) (fun hc52 => ?_)
  · have h_9 := ipos hc52 h_8
    refine fw_iload (i := 4) 2 rfl (show decode _ _ = .ok (.iload 4, 2) by decide +kernel) ?_
    refine fw_iconst (v := (1 : Int32)) (show decode _ _ = .ok (.iconst 1, 1) by decide +kernel) (by decide) ?_
    refine fw_iadd (show decode _ _ = .ok (.iadd, 1) by decide +kernel) ?_
    refine FW.sub [0, 1, 2, 3, 4, 5, 6] (ls' := [(0, .ref p0), (3, .int p3), (4, .int p4), (5, .int p5), (6, .int p6), (7, .long p7), (9, .int p9)]) rfl ?_
    exact sj_X11_goOn_101 hd h_9
  · have h_10 := ineg hc52 h_8
    refine fw_iload_n (i := 3) 1 rfl (show decode _ _ = .ok (.iload_n 3, 1) by decide +kernel) ?_
    refine fw_iconst (v := (1 : Int32)) (show decode _ _ = .ok (.iconst 1, 1) by decide +kernel) (by decide) ?_
    refine fw_iadd (show decode _ _ = .ok (.iadd, 1) by decide +kernel) ?_
    refine fw_goto 101 (show decode _ _ = .ok (.goto 7, 3) by decide +kernel) (by decide) ?_
    refine FW.sub [0, 1, 2, 3, 4, 5, 6] (ls' := [(0, .ref p0), (3, .int p3), (4, .int p4), (5, .int p5), (6, .int p6), (7, .long p7), (9, .int p9)]) rfl ?_
    exact sj_X11_goOn_101 hd h_10
def j_X11_goOn_44 (φ : fM → Prop) (p0 : Nat) (p3 : Int32) (p4 : Int32) (p5 : Int32) (p6 : Int32) (p7 : Int64) (s0 : Int32) (M : fM) : Prop := isO M p0 11 ∧ dR (mP M p0 24) fun y56 => iF (s0 = 0) (j_X11_goOn_66 φ p0 p3 p4 p5 p6 p7 s0 p4 (p3 + (1 : Int32)) y56 M) (j_X11_goOn_66 φ p0 p3 p4 p5 p6 p7 s0 (p3 + (1 : Int32)) (p3 + (1 : Int32)) y56 M)
set_option maxRecDepth 100000 in
theorem sj_X11_goOn_44 {g : GT} {d : Nat} (hd : 2 ≤ d + 1) {φ : fM → Prop} {p0 : Nat} {p3 : Int32} {p4 : Int32} {p5 : Int32} {p6 : Int32} {p7 : Int64} {s0 : Int32} {M : fM} (h : j_X11_goOn_44 φ p0 p3 p4 p5 p6 p7 s0 M) : FW g mtX11_goOn (d + 1) 44 [(0, .ref p0), (3, .int p3), (4, .int p4), (5, .int p5), (6, .int p6), (7, .long p7)] [.int s0] M 0 0 (rV φ) := by
  unfold j_X11_goOn_44 at h
  refine fw_istore (i := 9) (ls' := [(9, .int s0), (0, .ref p0), (3, .int p3), (4, .int p4), (5, .int p5), (6, .int p6), (7, .long p7)]) (show decode _ _ = .ok (.istore 9, 2) by decide +kernel) (by decide) rfl ?_
  refine fw_aload_n (i := 0) 1 rfl (show decode _ _ = .ok (.aload_n 0, 1) by decide +kernel) ?_
  obtain ⟨⟨hr54, n53, hs55⟩, h_1⟩ := h
  refine fw_getP (kd := 11) (k := 24) (show decode _ _ = .ok (.getfield 43, 3) by decide +kernel) gf_X11_43 hr54 hs55 rfl ?_
  have h_2 := dR_e h_1
  obtain ⟨y56, hy57, h_3⟩ := h_2
  refine fw_deref hy57 ?_
  refine fw_iload_n (i := 3) 2 rfl (show decode _ _ = .ok (.iload_n 3, 1) by decide +kernel) ?_
  refine fw_iconst (v := (1 : Int32)) (show decode _ _ = .ok (.iconst 1, 1) by decide +kernel) (by decide) ?_
  refine fw_iadd (show decode _ _ = .ok (.iadd, 1) by decide +kernel) ?_
  refine fw_iload (i := 9) 0 rfl (show decode _ _ = .ok (.iload 9, 2) by decide +kernel) ?_
  refine fw_if_eq 64 (show decode _ _ = .ok (.ifCond .eq 9, 3) by decide +kernel) (by decide) (fun hc58 => ?_) (fun hc58 => ?_)
  · have h_4 := ipos hc58 h_3
    refine fw_iload (i := 4) 3 rfl (show decode _ _ = .ok (.iload 4, 2) by decide +kernel) ?_
    refine FW.sub [1, 2, 3, 4, 5, 6, 0] (ls' := [(0, .ref p0), (3, .int p3), (4, .int p4), (5, .int p5), (6, .int p6), (7, .long p7), (9, .int s0)]) rfl ?_
    exact sj_X11_goOn_66 hd h_4
  · have h_5 := ineg hc58 h_3
    refine fw_iload_n (i := 3) 2 rfl (show decode _ _ = .ok (.iload_n 3, 1) by decide +kernel) ?_
    refine fw_iconst (v := (1 : Int32)) (show decode _ _ = .ok (.iconst 1, 1) by decide +kernel) (by decide) ?_
    refine fw_iadd (show decode _ _ = .ok (.iadd, 1) by decide +kernel) ?_
    refine fw_goto 66 (show decode _ _ = .ok (.goto 5, 3) by decide +kernel) (by decide) ?_
    refine FW.sub [1, 2, 3, 4, 5, 6, 0] (ls' := [(0, .ref p0), (3, .int p3), (4, .int p4), (5, .int p5), (6, .int p6), (7, .long p7), (9, .int s0)]) rfl ?_
    exact sj_X11_goOn_66 hd h_5
def j_X11_goOn_43 (φ : fM → Prop) (p0 : Nat) (p3 : Int32) (p4 : Int32) (p5 : Int32) (p6 : Int32) (p7 : Int64) (M : fM) : Prop := j_X11_goOn_44 φ p0 p3 p4 p5 p6 p7 (0 : Int32) M
set_option maxRecDepth 100000 in
theorem sj_X11_goOn_43 {g : GT} {d : Nat} (hd : 2 ≤ d + 1) {φ : fM → Prop} {p0 : Nat} {p3 : Int32} {p4 : Int32} {p5 : Int32} {p6 : Int32} {p7 : Int64} {M : fM} (h : j_X11_goOn_43 φ p0 p3 p4 p5 p6 p7 M) : FW g mtX11_goOn (d + 1) 43 [(0, .ref p0), (3, .int p3), (4, .int p4), (5, .int p5), (6, .int p6), (7, .long p7)] [] M 0 0 (rV φ) := by
  unfold j_X11_goOn_43 at h
  refine fw_iconst (v := (0 : Int32)) (show decode _ _ = .ok (.iconst 0, 1) by decide +kernel) (by decide) ?_
  refine FW.sub [0, 1, 2, 3, 4, 5] (ls' := [(0, .ref p0), (3, .int p3), (4, .int p4), (5, .int p5), (6, .int p6), (7, .long p7)]) rfl ?_
  exact sj_X11_goOn_44 hd h
def w_X11_goOn (p0 : Nat) (p1 : Int32) (p2 : Int32) (p3 : Int32) (p4 : Int32) (p5 : Int32) (p6 : Int32) (M : fM) (φ : fM → Prop) : Prop := isO M p0 11 ∧ dR (mP M p0 24) fun y62 => w_X11_cell p3 p4 M fun x65 M64 => inA M64 y62 13 x65 ∧ nm (mJ M64 y62 (ix x65)) fun x69 => isO M64 p0 11 ∧ w_X11_marksOf p0 p1 M64 fun x75 M71 => isO M71 p0 11 ∧ w_X11_has (x75 ||| (mI M71 p0 27)) (p3 + (1 : Int32)) M71 fun x80 M79 => iF (x80 = 0) (j_X11_goOn_43 φ p0 p3 p4 p5 p6 x69 M79) (iF ((p2 % (2 : Int32)) = (1 : Int32)) (j_X11_goOn_43 φ p0 p3 p4 p5 p6 x69 M79) (j_X11_goOn_44 φ p0 p3 p4 p5 p6 x69 (1 : Int32) M79))
set_option maxRecDepth 100000 in
theorem s_X11_goOn {g : GT} {d : Nat} (hd : 2 ≤ d) {p0 : Nat} {p1 : Int32} {p2 : Int32} {p3 : Int32} {p4 : Int32} {p5 : Int32} {p6 : Int32} {M : fM} {φ : fM → Prop} (h : w_X11_goOn p0 p1 p2 p3 p4 p5 p6 M φ) : FC g mtX11_goOn d [.ref p0, .int p1, .int p2, .int p3, .int p4, .int p5, .int p6] M 0 0 (rV φ) := by
  obtain ⟨d, rfl⟩ : ∃ e, d = e + 1 := ⟨d - 1, by omega⟩
  unfold w_X11_goOn at h
  refine FC.intro (nL := 10) (by decide) rfl (Nat.le_of_ble_eq_true rfl) ?_
  show FW g mtX11_goOn (d + 1) 0 [(0, .ref p0), (1, .int p1), (2, .int p2), (3, .int p3), (4, .int p4), (5, .int p5), (6, .int p6)] [] M 0 0 (rV φ)
  refine fw_aload_n (i := 0) 0 rfl (show decode _ _ = .ok (.aload_n 0, 1) by decide +kernel) ?_
  obtain ⟨⟨hr60, n59, hs61⟩, h_1⟩ := h
  refine fw_getP (kd := 11) (k := 24) (show decode _ _ = .ok (.getfield 43, 3) by decide +kernel) gf_X11_43 hr60 hs61 rfl ?_
  have h_2 := dR_e h_1
  obtain ⟨y62, hy63, h_3⟩ := h_2
  refine fw_deref hy63 ?_
  refine fw_iload_n (i := 3) 3 rfl (show decode _ _ = .ok (.iload_n 3, 1) by decide +kernel) ?_
  refine fw_iload (i := 4) 4 rfl (show decode _ _ = .ok (.iload 4, 2) by decide +kernel) ?_
  refine fw_callS (mt' := mtX11_cell) (mc := 0) (ms := 0) (As := [.int p3, .int p4]) (rest := [.ref y62]) 2 (show decode _ _ = .ok (.invokestatic 408, 3) by decide +kernel) cs_X11_408 rfl (Nat.le_of_ble_eq_true rfl) (s_X11_cell (d := d) (hd_le hd (by decide)) h_3) (by decide) (by decide) (kI (bc' := 0) (bs' := 0) (by decide) (by decide) (fun x65 M64 h_4 => ?_))
  obtain ⟨⟨n66, hs67, hi68⟩, h_5⟩ := h_4
  refine fw_lald (show decode _ _ = .ok (.laload, 1) by decide +kernel) hs67 hi68 ?_
  refine fw_nmJ (fun x69 ex70 => ?_)
  have h_6 := h_5 x69 ex70
  refine fw_lstore (i := 7) (ls' := [(7, .long x69), (0, .ref p0), (1, .int p1), (2, .int p2), (3, .int p3), (4, .int p4), (5, .int p5), (6, .int p6)]) (show decode _ _ = .ok (.lstore 7, 2) by decide +kernel) (by decide) rfl ?_
  refine fw_aload_n (i := 0) 1 rfl (show decode _ _ = .ok (.aload_n 0, 1) by decide +kernel) ?_
  refine fw_iload_n (i := 1) 2 rfl (show decode _ _ = .ok (.iload_n 1, 1) by decide +kernel) ?_
  obtain ⟨⟨hr73, n72, hs74⟩, h_7⟩ := h_6
  refine fw_callV (mt' := mtX11_marksOf) (mc := 0) (ms := 0) (As := [.int p1]) (rest := []) 1 11 n72 (show decode _ _ = .ok (.invokevirtual 85, 3) by decide +kernel) cv_X11_85 ⟨_, rfl, rfl⟩ hr73 hs74 rfl (Nat.le_of_ble_eq_true rfl) (s_X11_marksOf (d := d) (hd_le hd (by decide)) h_7) (by decide) (by decide) (kI (bc' := 0) (bs' := 0) (by decide) (by decide) (fun x75 M71 h_8 => ?_))
  refine fw_aload_n (i := 0) 1 rfl (show decode _ _ = .ok (.aload_n 0, 1) by decide +kernel) ?_
  obtain ⟨⟨hr77, n76, hs78⟩, h_9⟩ := h_8
  refine fw_getI (kd := 11) (k := 27) (show decode _ _ = .ok (.getfield 411, 3) by decide +kernel) gf_X11_411 hr77 hs78 (Or.inl rfl) ?_
  refine fw_ior (show decode _ _ = .ok (.ior, 1) by decide +kernel) ?_
  refine fw_iload_n (i := 3) 4 rfl (show decode _ _ = .ok (.iload_n 3, 1) by decide +kernel) ?_
  refine fw_iconst (v := (1 : Int32)) (show decode _ _ = .ok (.iconst 1, 1) by decide +kernel) (by decide) ?_
  refine fw_iadd (show decode _ _ = .ok (.iadd, 1) by decide +kernel) ?_
  refine fw_callS (mt' := mtX11_has) (mc := 0) (ms := 0) (As := [.int (x75 ||| (mI M71 p0 27)), .int (p3 + (1 : Int32))]) (rest := []) 2 (show decode _ _ = .ok (.invokestatic 88, 3) by decide +kernel) cs_X11_88 rfl (Nat.le_of_ble_eq_true rfl) (s_X11_has (d := d) (hd_le hd (by decide)) h_9) (by decide) (by decide) (kI (bc' := 0) (bs' := 0) (by decide) (by decide) (fun x80 M79 h_10 => ?_))
  refine fw_if_eq 43 (show decode _ _ = .ok (.ifCond .eq 14, 3) by decide +kernel) (by decide) (fun hc82 => ?_) (fun hc82 => ?_)
  · have h_11 := ipos hc82 h_10
    refine FW.sub [1, 4, 5, 6, 7, 0] (ls' := [(0, .ref p0), (3, .int p3), (4, .int p4), (5, .int p5), (6, .int p6), (7, .long x69)]) rfl ?_
    exact sj_X11_goOn_43 hd h_11
  · have h_12 := ineg hc82 h_10
    refine fw_iload_n (i := 2) 3 rfl (show decode _ _ = .ok (.iload_n 2, 1) by decide +kernel) ?_
    refine fw_iconst (v := (2 : Int32)) (show decode _ _ = .ok (.iconst 2, 1) by decide +kernel) (by decide) ?_
    refine fw_irem (show decode _ _ = .ok (.irem, 1) by decide +kernel) (by decide) ?_
    refine fw_iconst (v := (1 : Int32)) (show decode _ _ = .ok (.iconst 1, 1) by decide +kernel) (by decide) ?_
    refine fw_icmp_eq 43 (show decode _ _ = .ok (.if_icmp .eq 7, 3) by decide +kernel) (by decide) (fun hc81 => ?_) (fun hc81 => ?_)
    · have h_13 := ipos hc81 h_12
      refine FW.sub [1, 4, 5, 6, 7, 0] (ls' := [(0, .ref p0), (3, .int p3), (4, .int p4), (5, .int p5), (6, .int p6), (7, .long x69)]) rfl ?_
      exact sj_X11_goOn_43 hd h_13
    · have h_14 := ineg hc81 h_12
      refine fw_iconst (v := (1 : Int32)) (show decode _ _ = .ok (.iconst 1, 1) by decide +kernel) (by decide) ?_
      refine fw_goto 44 (show decode _ _ = .ok (.goto 4, 3) by decide +kernel) (by decide) ?_
      refine FW.sub [1, 4, 5, 6, 7, 0] (ls' := [(0, .ref p0), (3, .int p3), (4, .int p4), (5, .int p5), (6, .int p6), (7, .long x69)]) rfl ?_
      exact sj_X11_goOn_44 hd h_14
def j_X11_reckon_237 (K51 : Nat → Int32 → Int32 → Int32 → Int32 → Int32 → Int32 → Int32 → Int32 → fM → Prop) (K153 : Nat → Int32 → Int32 → Int32 → Int32 → Int32 → Int32 → Int32 → Int32 → Int64 → Int32 → Int32 → Int32 → Int32 → fM → Prop) (φ : fM → Prop) (p0 : Nat) (p1 : Int32) (p2 : Int32) (p3 : Int32) (p4 : Int32) (p6 : Int32) (p7 : Int32) (p8 : Int32) (p9 : Int32) (p10 : Int64) (p12 : Int32) (p13 : Int32) (p14 : Int32) (p15 : Int32) (s0 : Int64) (s1 : Int64) (s2 : Nat) (M : fM) : Prop := nm (s1 + s0) fun x1 => isO M s2 11 ∧ st (wJ M s2 26 x1) fun M6 => iF (p6 ≤ p9) (nm (p15 + (1 : Int32)) fun x8 => K153 p0 p1 p2 p3 p4 p6 p7 p8 p9 p10 p12 p13 p14 x8 M6) (isO M6 p0 11 ∧ w_X11_goOn p0 p2 p3 p9 p15 p12 p13 M6 fun M10 => nm (p15 + (1 : Int32)) fun x14 => K153 p0 p1 p2 p3 p4 p6 p7 p8 p9 p10 p12 p13 p14 x14 M10)
set_option maxRecDepth 100000 in
theorem sj_X11_reckon_237 {g : GT} {d : Nat} (hd : 7 ≤ d + 1) {K51 : Nat → Int32 → Int32 → Int32 → Int32 → Int32 → Int32 → Int32 → Int32 → fM → Prop} {K153 : Nat → Int32 → Int32 → Int32 → Int32 → Int32 → Int32 → Int32 → Int32 → Int64 → Int32 → Int32 → Int32 → Int32 → fM → Prop} {φ : fM → Prop} (hK51 : ∀ (p0 : Nat) (p1 : Int32) (p2 : Int32) (p3 : Int32) (p4 : Int32) (p6 : Int32) (p7 : Int32) (p8 : Int32) (p9 : Int32) (M : fM), K51 p0 p1 p2 p3 p4 p6 p7 p8 p9 M → FW g mtX11_reckon (d + 1) 51 [(0, .ref p0), (1, .int p1), (2, .int p2), (3, .int p3), (4, .int p4), (6, .int p6), (7, .int p7), (8, .int p8), (9, .int p9)] [] M 0 0 (rV φ)) (hK153 : ∀ (p0 : Nat) (p1 : Int32) (p2 : Int32) (p3 : Int32) (p4 : Int32) (p6 : Int32) (p7 : Int32) (p8 : Int32) (p9 : Int32) (p10 : Int64) (p12 : Int32) (p13 : Int32) (p14 : Int32) (p15 : Int32) (M : fM), K153 p0 p1 p2 p3 p4 p6 p7 p8 p9 p10 p12 p13 p14 p15 M → FW g mtX11_reckon (d + 1) 153 [(0, .ref p0), (1, .int p1), (2, .int p2), (3, .int p3), (4, .int p4), (6, .int p6), (7, .int p7), (8, .int p8), (9, .int p9), (10, .long p10), (12, .int p12), (13, .int p13), (14, .int p14), (15, .int p15)] [] M 0 0 (rV φ)) {p0 : Nat} {p1 : Int32} {p2 : Int32} {p3 : Int32} {p4 : Int32} {p6 : Int32} {p7 : Int32} {p8 : Int32} {p9 : Int32} {p10 : Int64} {p12 : Int32} {p13 : Int32} {p14 : Int32} {p15 : Int32} {s0 : Int64} {s1 : Int64} {s2 : Nat} {M : fM} (h : j_X11_reckon_237 K51 K153 φ p0 p1 p2 p3 p4 p6 p7 p8 p9 p10 p12 p13 p14 p15 s0 s1 s2 M) : FW g mtX11_reckon (d + 1) 237 [(0, .ref p0), (1, .int p1), (2, .int p2), (3, .int p3), (4, .int p4), (6, .int p6), (7, .int p7), (8, .int p8), (9, .int p9), (10, .long p10), (12, .int p12), (13, .int p13), (14, .int p14), (15, .int p15)] [.long s0, .long s1, .ref s2] M 0 0 (rV φ) := by
  unfold j_X11_reckon_237 at h
  refine fw_ladd (show decode _ _ = .ok (.ladd, 1) by decide +kernel) ?_
  refine fw_nmJ (fun x1 ex2 => ?_)
  have h_1 := h x1 ex2
  obtain ⟨⟨hr4, n3, hs5⟩, h_2⟩ := h_1
  refine fw_putJ (kd := 11) (k := 26) (show decode _ _ = .ok (.putfield 425, 3) by decide +kernel) ⟨gf_X11_425, _, rfl, Or.inl rfl⟩ hr4 hs5 rfl ?_
  refine FW.nmM (fun M6 eM7 => ?_)
  have h_3 := h_2 M6 eM7
  refine fw_iload (i := 9) 8 rfl (show decode _ _ = .ok (.iload 9, 2) by decide +kernel) ?_
  refine fw_iload (i := 6) 5 rfl (show decode _ _ = .ok (.iload 6, 2) by decide +kernel) ?_
  refine fw_icmp_ge 262 (show decode _ _ = .ok (.if_icmp .ge 17, 3) by decide +kernel) (by decide) (fun hc16 => ?_) (fun hc16 => ?_)
  · have h_4 := ipos hc16 h_3
    obtain ⟨x8, ex9⟩ : ∃ y : Int32, y = p15 + (1 : Int32) := ⟨_, rfl⟩
    have h_5 := h_4 x8 ex9
    refine fw_iinc (i := 15) (x := p15) (v := x8) (ls' := [(15, .int x8), (0, .ref p0), (1, .int p1), (2, .int p2), (3, .int p3), (4, .int p4), (6, .int p6), (7, .int p7), (8, .int p8), (9, .int p9), (10, .long p10), (12, .int p12), (13, .int p13), (14, .int p14)]) 13 rfl (show decode _ _ = .ok (.iinc 15 1, 3) by decide +kernel) (by rw [ex9]; rfl) (by decide) rfl ?_
    refine fw_goto 153 (show decode _ _ = .ok (.goto (-112), 3) by decide +kernel) (by decide) ?_
    refine FW.sub [1, 2, 3, 4, 5, 6, 7, 8, 9, 10, 11, 12, 13, 0] (ls' := [(0, .ref p0), (1, .int p1), (2, .int p2), (3, .int p3), (4, .int p4), (6, .int p6), (7, .int p7), (8, .int p8), (9, .int p9), (10, .long p10), (12, .int p12), (13, .int p13), (14, .int p14), (15, .int x8)]) rfl ?_
    exact hK153 _ _ _ _ _ _ _ _ _ _ _ _ _ _ _ h_5
  · have h_6 := ineg hc16 h_3
    refine fw_aload_n (i := 0) 0 rfl (show decode _ _ = .ok (.aload_n 0, 1) by decide +kernel) ?_
    refine fw_iload_n (i := 2) 2 rfl (show decode _ _ = .ok (.iload_n 2, 1) by decide +kernel) ?_
    refine fw_iload_n (i := 3) 3 rfl (show decode _ _ = .ok (.iload_n 3, 1) by decide +kernel) ?_
    refine fw_iload (i := 9) 8 rfl (show decode _ _ = .ok (.iload 9, 2) by decide +kernel) ?_
    refine fw_iload (i := 15) 13 rfl (show decode _ _ = .ok (.iload 15, 2) by decide +kernel) ?_
    refine fw_iload (i := 12) 10 rfl (show decode _ _ = .ok (.iload 12, 2) by decide +kernel) ?_
    refine fw_iload (i := 13) 11 rfl (show decode _ _ = .ok (.iload 13, 2) by decide +kernel) ?_
    obtain ⟨⟨hr12, n11, hs13⟩, h_7⟩ := h_6
    refine fw_callV (mt' := mtX11_goOn) (mc := 0) (ms := 0) (As := [.int p2, .int p3, .int p9, .int p15, .int p12, .int p13]) (rest := []) 6 11 n11 (show decode _ _ = .ok (.invokevirtual 414, 3) by decide +kernel) cv_X11_414 ⟨_, rfl, rfl⟩ hr12 hs13 rfl (Nat.le_of_ble_eq_true rfl) (s_X11_goOn (d := d) (hd_le hd (by decide)) h_7) (by decide) (by decide) (kV (bc' := 0) (bs' := 0) (by decide) (by decide) (fun M10 h_8 => ?_))
    obtain ⟨x14, ex15⟩ : ∃ y : Int32, y = p15 + (1 : Int32) := ⟨_, rfl⟩
    have h_9 := h_8 x14 ex15
    refine fw_iinc (i := 15) (x := p15) (v := x14) (ls' := [(15, .int x14), (0, .ref p0), (1, .int p1), (2, .int p2), (3, .int p3), (4, .int p4), (6, .int p6), (7, .int p7), (8, .int p8), (9, .int p9), (10, .long p10), (12, .int p12), (13, .int p13), (14, .int p14)]) 13 rfl (show decode _ _ = .ok (.iinc 15 1, 3) by decide +kernel) (by rw [ex15]; rfl) (by decide) rfl ?_
    refine fw_goto 153 (show decode _ _ = .ok (.goto (-112), 3) by decide +kernel) (by decide) ?_
    refine FW.sub [1, 2, 3, 4, 5, 6, 7, 8, 9, 10, 11, 12, 13, 0] (ls' := [(0, .ref p0), (1, .int p1), (2, .int p2), (3, .int p3), (4, .int p4), (6, .int p6), (7, .int p7), (8, .int p8), (9, .int p9), (10, .long p10), (12, .int p12), (13, .int p13), (14, .int p14), (15, .int x14)]) rfl ?_
    exact hK153 _ _ _ _ _ _ _ _ _ _ _ _ _ _ _ h_9
def j_X11_reckon_209 (K51 : Nat → Int32 → Int32 → Int32 → Int32 → Int32 → Int32 → Int32 → Int32 → fM → Prop) (K153 : Nat → Int32 → Int32 → Int32 → Int32 → Int32 → Int32 → Int32 → Int32 → Int64 → Int32 → Int32 → Int32 → Int32 → fM → Prop) (φ : fM → Prop) (p0 : Nat) (p1 : Int32) (p2 : Int32) (p3 : Int32) (p4 : Int32) (p6 : Int32) (p7 : Int32) (p8 : Int32) (p9 : Int32) (p10 : Int64) (p12 : Int32) (p13 : Int32) (p14 : Int32) (p15 : Int32) (p16 : Int64) (s0 : Int32) (s1 : Int64) (s2 : Int64) (s3 : Nat) (M : fM) : Prop := nm (s2 + (s1 * (Int32.toInt64 s0))) fun x17 => isO M s3 11 ∧ st (wJ M s3 25 x17) fun M22 => isO M22 p0 11 ∧ iF (p15 < p4) (j_X11_reckon_237 K51 K153 φ p0 p1 p2 p3 p4 p6 p7 p8 p9 p10 p12 p13 p14 p15 (p16 * (Int32.toInt64 p14)) (mJ M22 p0 26) p0 M22) (j_X11_reckon_237 K51 K153 φ p0 p1 p2 p3 p4 p6 p7 p8 p9 p10 p12 p13 p14 p15 (0 : Int64) (mJ M22 p0 26) p0 M22)
set_option maxRecDepth 100000 in
theorem sj_X11_reckon_209 {g : GT} {d : Nat} (hd : 7 ≤ d + 1) {K51 : Nat → Int32 → Int32 → Int32 → Int32 → Int32 → Int32 → Int32 → Int32 → fM → Prop} {K153 : Nat → Int32 → Int32 → Int32 → Int32 → Int32 → Int32 → Int32 → Int32 → Int64 → Int32 → Int32 → Int32 → Int32 → fM → Prop} {φ : fM → Prop} (hK51 : ∀ (p0 : Nat) (p1 : Int32) (p2 : Int32) (p3 : Int32) (p4 : Int32) (p6 : Int32) (p7 : Int32) (p8 : Int32) (p9 : Int32) (M : fM), K51 p0 p1 p2 p3 p4 p6 p7 p8 p9 M → FW g mtX11_reckon (d + 1) 51 [(0, .ref p0), (1, .int p1), (2, .int p2), (3, .int p3), (4, .int p4), (6, .int p6), (7, .int p7), (8, .int p8), (9, .int p9)] [] M 0 0 (rV φ)) (hK153 : ∀ (p0 : Nat) (p1 : Int32) (p2 : Int32) (p3 : Int32) (p4 : Int32) (p6 : Int32) (p7 : Int32) (p8 : Int32) (p9 : Int32) (p10 : Int64) (p12 : Int32) (p13 : Int32) (p14 : Int32) (p15 : Int32) (M : fM), K153 p0 p1 p2 p3 p4 p6 p7 p8 p9 p10 p12 p13 p14 p15 M → FW g mtX11_reckon (d + 1) 153 [(0, .ref p0), (1, .int p1), (2, .int p2), (3, .int p3), (4, .int p4), (6, .int p6), (7, .int p7), (8, .int p8), (9, .int p9), (10, .long p10), (12, .int p12), (13, .int p13), (14, .int p14), (15, .int p15)] [] M 0 0 (rV φ)) {p0 : Nat} {p1 : Int32} {p2 : Int32} {p3 : Int32} {p4 : Int32} {p6 : Int32} {p7 : Int32} {p8 : Int32} {p9 : Int32} {p10 : Int64} {p12 : Int32} {p13 : Int32} {p14 : Int32} {p15 : Int32} {p16 : Int64} {s0 : Int32} {s1 : Int64} {s2 : Int64} {s3 : Nat} {M : fM} (h : j_X11_reckon_209 K51 K153 φ p0 p1 p2 p3 p4 p6 p7 p8 p9 p10 p12 p13 p14 p15 p16 s0 s1 s2 s3 M) : FW g mtX11_reckon (d + 1) 209 [(0, .ref p0), (1, .int p1), (2, .int p2), (3, .int p3), (4, .int p4), (6, .int p6), (7, .int p7), (8, .int p8), (9, .int p9), (10, .long p10), (12, .int p12), (13, .int p13), (14, .int p14), (15, .int p15), (16, .long p16)] [.int s0, .long s1, .long s2, .ref s3] M 0 0 (rV φ) := by
  unfold j_X11_reckon_209 at h
  refine fw_i2l (show decode _ _ = .ok (.i2l, 1) by decide +kernel) ?_
  refine fw_lmul (show decode _ _ = .ok (.lmul, 1) by decide +kernel) ?_
  refine fw_ladd (show decode _ _ = .ok (.ladd, 1) by decide +kernel) ?_
  refine fw_nmJ (fun x17 ex18 => ?_)
  have h_1 := h x17 ex18
  obtain ⟨⟨hr20, n19, hs21⟩, h_2⟩ := h_1
  refine fw_putJ (kd := 11) (k := 25) (show decode _ _ = .ok (.putfield 422, 3) by decide +kernel) ⟨gf_X11_422, _, rfl, Or.inl rfl⟩ hr20 hs21 rfl ?_
  refine FW.nmM (fun M22 eM23 => ?_)
  have h_3 := h_2 M22 eM23
  refine fw_aload_n (i := 0) 0 rfl (show decode _ _ = .ok (.aload_n 0, 1) by decide +kernel) ?_
  refine fw_dup (show decode _ _ = .ok (.dup, 1) by decide +kernel) rfl ?_
  obtain ⟨⟨hr25, n24, hs26⟩, h_4⟩ := h_3
  refine fw_getJ (kd := 11) (k := 26) (show decode _ _ = .ok (.getfield 425, 3) by decide +kernel) gf_X11_425 hr25 hs26 rfl ?_
  refine fw_iload (i := 15) 13 rfl (show decode _ _ = .ok (.iload 15, 2) by decide +kernel) ?_
  refine fw_iload (i := 4) 4 rfl (show decode _ _ = .ok (.iload 4, 2) by decide +kernel) ?_
  refine fw_icmp_lt 231 (show decode _ _ = .ok (.if_icmp .lt 7, 3) by decide +kernel) (by decide) (fun hc27 => ?_) (fun hc27 => ?_)
  · have h_5 := ipos hc27 h_4
    refine fw_lload (i := 16) 14 rfl (show decode _ _ = .ok (.lload 16, 2) by decide +kernel) ?_
    refine fw_iload (i := 14) 12 rfl (show decode _ _ = .ok (.iload 14, 2) by decide +kernel) ?_
    refine fw_i2l (show decode _ _ = .ok (.i2l, 1) by decide +kernel) ?_
    refine fw_lmul (show decode _ _ = .ok (.lmul, 1) by decide +kernel) ?_
    refine FW.sub [0, 1, 2, 3, 4, 5, 6, 7, 8, 9, 10, 11, 12, 13] (ls' := [(0, .ref p0), (1, .int p1), (2, .int p2), (3, .int p3), (4, .int p4), (6, .int p6), (7, .int p7), (8, .int p8), (9, .int p9), (10, .long p10), (12, .int p12), (13, .int p13), (14, .int p14), (15, .int p15)]) rfl ?_
    exact sj_X11_reckon_237 hd hK51 hK153 h_5
  · have h_6 := ineg hc27 h_4
    refine fw_lconst (v := (0 : Int64)) (show decode _ _ = .ok (.lconst 0, 1) by decide +kernel) (by decide) ?_
    refine fw_goto 237 (show decode _ _ = .ok (.goto 9, 3) by decide +kernel) (by decide) ?_
    refine FW.sub [0, 1, 2, 3, 4, 5, 6, 7, 8, 9, 10, 11, 12, 13] (ls' := [(0, .ref p0), (1, .int p1), (2, .int p2), (3, .int p3), (4, .int p4), (6, .int p6), (7, .int p7), (8, .int p8), (9, .int p9), (10, .long p10), (12, .int p12), (13, .int p13), (14, .int p14), (15, .int p15)]) rfl ?_
    exact sj_X11_reckon_237 hd hK51 hK153 h_6
def b_X11_reckon_153 (K51 : Nat → Int32 → Int32 → Int32 → Int32 → Int32 → Int32 → Int32 → Int32 → fM → Prop) (K153 : Nat → Int32 → Int32 → Int32 → Int32 → Int32 → Int32 → Int32 → Int32 → Int64 → Int32 → Int32 → Int32 → Int32 → fM → Prop) (φ : fM → Prop) (p0 : Nat) (p1 : Int32) (p2 : Int32) (p3 : Int32) (p4 : Int32) (p6 : Int32) (p7 : Int32) (p8 : Int32) (p9 : Int32) (p10 : Int64) (p12 : Int32) (p13 : Int32) (p14 : Int32) (p15 : Int32) (M : fM) : Prop := iF ((30 : Int32) ≤ p15) (nm (p9 + (1 : Int32)) fun x28 => K51 p0 p1 p2 p3 p4 p6 p7 p8 x28 M) (isO M p0 11 ∧ dR (mP M p0 24) fun y33 => w_X11_cell p9 p15 M fun x36 M35 => inA M35 y33 13 x36 ∧ nm ((mJ M35 y33 (ix x36)) * p10) fun x40 => iF ((lg_cmp x40 (0 : Int64)) = 0) (nm (p15 + (1 : Int32)) fun x46 => K153 p0 p1 p2 p3 p4 p6 p7 p8 p9 p10 p12 p13 p14 x46 M35) (isO M35 p0 11 ∧ iF (p15 < p4) (j_X11_reckon_209 K51 K153 φ p0 p1 p2 p3 p4 p6 p7 p8 p9 p10 p12 p13 p14 p15 x40 ((1 : Int32) + p14) x40 (mJ M35 p0 25) p0 M35) (j_X11_reckon_209 K51 K153 φ p0 p1 p2 p3 p4 p6 p7 p8 p9 p10 p12 p13 p14 p15 x40 (3 : Int32) x40 (mJ M35 p0 25) p0 M35)))
def l_X11_reckon_153 (K51 : Nat → Int32 → Int32 → Int32 → Int32 → Int32 → Int32 → Int32 → Int32 → fM → Prop) (φ : fM → Prop) : Nat → Nat → Int32 → Int32 → Int32 → Int32 → Int32 → Int32 → Int32 → Int32 → Int64 → Int32 → Int32 → Int32 → Int32 → fM → Prop
  | 0, _, _, _, _, _, _, _, _, _, _, _, _, _, _, _ => False
  | n + 1, p0, p1, p2, p3, p4, p6, p7, p8, p9, p10, p12, p13, p14, p15, M => b_X11_reckon_153 K51 (l_X11_reckon_153 K51 φ n) φ p0 p1 p2 p3 p4 p6 p7 p8 p9 p10 p12 p13 p14 p15 M
set_option maxRecDepth 100000 in
theorem sb_X11_reckon_153 {g : GT} {d : Nat} (hd : 7 ≤ d + 1) {K51 : Nat → Int32 → Int32 → Int32 → Int32 → Int32 → Int32 → Int32 → Int32 → fM → Prop} {K153 : Nat → Int32 → Int32 → Int32 → Int32 → Int32 → Int32 → Int32 → Int32 → Int64 → Int32 → Int32 → Int32 → Int32 → fM → Prop} {φ : fM → Prop} (hK51 : ∀ (p0 : Nat) (p1 : Int32) (p2 : Int32) (p3 : Int32) (p4 : Int32) (p6 : Int32) (p7 : Int32) (p8 : Int32) (p9 : Int32) (M : fM), K51 p0 p1 p2 p3 p4 p6 p7 p8 p9 M → FW g mtX11_reckon (d + 1) 51 [(0, .ref p0), (1, .int p1), (2, .int p2), (3, .int p3), (4, .int p4), (6, .int p6), (7, .int p7), (8, .int p8), (9, .int p9)] [] M 0 0 (rV φ)) (hK153 : ∀ (p0 : Nat) (p1 : Int32) (p2 : Int32) (p3 : Int32) (p4 : Int32) (p6 : Int32) (p7 : Int32) (p8 : Int32) (p9 : Int32) (p10 : Int64) (p12 : Int32) (p13 : Int32) (p14 : Int32) (p15 : Int32) (M : fM), K153 p0 p1 p2 p3 p4 p6 p7 p8 p9 p10 p12 p13 p14 p15 M → FW g mtX11_reckon (d + 1) 153 [(0, .ref p0), (1, .int p1), (2, .int p2), (3, .int p3), (4, .int p4), (6, .int p6), (7, .int p7), (8, .int p8), (9, .int p9), (10, .long p10), (12, .int p12), (13, .int p13), (14, .int p14), (15, .int p15)] [] M 0 0 (rV φ)) {p0 : Nat} {p1 : Int32} {p2 : Int32} {p3 : Int32} {p4 : Int32} {p6 : Int32} {p7 : Int32} {p8 : Int32} {p9 : Int32} {p10 : Int64} {p12 : Int32} {p13 : Int32} {p14 : Int32} {p15 : Int32} {M : fM} (h : b_X11_reckon_153 K51 K153 φ p0 p1 p2 p3 p4 p6 p7 p8 p9 p10 p12 p13 p14 p15 M) : FW g mtX11_reckon (d + 1) 153 [(0, .ref p0), (1, .int p1), (2, .int p2), (3, .int p3), (4, .int p4), (6, .int p6), (7, .int p7), (8, .int p8), (9, .int p9), (10, .long p10), (12, .int p12), (13, .int p13), (14, .int p14), (15, .int p15)] [] M 0 0 (rV φ) := by
  unfold b_X11_reckon_153 at h
  refine fw_iload (i := 15) 13 rfl (show decode _ _ = .ok (.iload 15, 2) by decide +kernel) ?_
  refine fw_bipush (v := (30 : Int32)) (show decode _ _ = .ok (.bipush 30, 2) by decide +kernel) (by decide) ?_
  refine fw_icmp_ge 268 (show decode _ _ = .ok (.if_icmp .ge 111, 3) by decide +kernel) (by decide) (fun hc49 => ?_) (fun hc49 => ?_)
  · have h_1 := ipos hc49 h
    obtain ⟨x28, ex29⟩ : ∃ y : Int32, y = p9 + (1 : Int32) := ⟨_, rfl⟩
    have h_2 := h_1 x28 ex29
    refine fw_iinc (i := 9) (x := p9) (v := x28) (ls' := [(9, .int x28), (0, .ref p0), (1, .int p1), (2, .int p2), (3, .int p3), (4, .int p4), (6, .int p6), (7, .int p7), (8, .int p8), (10, .long p10), (12, .int p12), (13, .int p13), (14, .int p14), (15, .int p15)]) 8 rfl (show decode _ _ = .ok (.iinc 9 1, 3) by decide +kernel) (by rw [ex29]; rfl) (by decide) rfl ?_
    refine fw_goto 51 (show decode _ _ = .ok (.goto (-220), 3) by decide +kernel) (by decide) ?_
    refine FW.sub [1, 2, 3, 4, 5, 6, 7, 8, 0] (ls' := [(0, .ref p0), (1, .int p1), (2, .int p2), (3, .int p3), (4, .int p4), (6, .int p6), (7, .int p7), (8, .int p8), (9, .int x28)]) rfl ?_
    exact hK51 _ _ _ _ _ _ _ _ _ _ h_2
  · have h_3 := ineg hc49 h
    refine fw_aload_n (i := 0) 0 rfl (show decode _ _ = .ok (.aload_n 0, 1) by decide +kernel) ?_
    obtain ⟨⟨hr31, n30, hs32⟩, h_4⟩ := h_3
    refine fw_getP (kd := 11) (k := 24) (show decode _ _ = .ok (.getfield 43, 3) by decide +kernel) gf_X11_43 hr31 hs32 rfl ?_
    have h_5 := dR_e h_4
    obtain ⟨y33, hy34, h_6⟩ := h_5
    refine fw_deref hy34 ?_
    refine fw_iload (i := 9) 8 rfl (show decode _ _ = .ok (.iload 9, 2) by decide +kernel) ?_
    refine fw_iload (i := 15) 13 rfl (show decode _ _ = .ok (.iload 15, 2) by decide +kernel) ?_
    refine fw_callS (mt' := mtX11_cell) (mc := 0) (ms := 0) (As := [.int p9, .int p15]) (rest := [.ref y33]) 2 (show decode _ _ = .ok (.invokestatic 408, 3) by decide +kernel) cs_X11_408 rfl (Nat.le_of_ble_eq_true rfl) (s_X11_cell (d := d) (hd_le hd (by decide)) h_6) (by decide) (by decide) (kI (bc' := 0) (bs' := 0) (by decide) (by decide) (fun x36 M35 h_7 => ?_))
    obtain ⟨⟨n37, hs38, hi39⟩, h_8⟩ := h_7
    refine fw_lald (show decode _ _ = .ok (.laload, 1) by decide +kernel) hs38 hi39 ?_
    refine fw_lload (i := 10) 9 rfl (show decode _ _ = .ok (.lload 10, 2) by decide +kernel) ?_
    refine fw_lmul (show decode _ _ = .ok (.lmul, 1) by decide +kernel) ?_
    refine fw_nmJ (fun x40 ex41 => ?_)
    have h_9 := h_8 x40 ex41
    refine fw_lstore (i := 16) (ls' := [(16, .long x40), (0, .ref p0), (1, .int p1), (2, .int p2), (3, .int p3), (4, .int p4), (6, .int p6), (7, .int p7), (8, .int p8), (9, .int p9), (10, .long p10), (12, .int p12), (13, .int p13), (14, .int p14), (15, .int p15)]) (show decode _ _ = .ok (.lstore 16, 2) by decide +kernel) (by decide) rfl ?_
    refine fw_lload (i := 16) 0 rfl (show decode _ _ = .ok (.lload 16, 2) by decide +kernel) ?_
    refine fw_lconst (v := (0 : Int64)) (show decode _ _ = .ok (.lconst 0, 1) by decide +kernel) (by decide) ?_
    refine fw_lcmp (show decode _ _ = .ok (.lcmp, 1) by decide +kernel) ?_
    refine fw_if_ne 187 (show decode _ _ = .ok (.ifCond .ne 6, 3) by decide +kernel) (by decide) (fun hc48 => ?_) (fun hc48 => ?_)
    · have h_10 := ineg hc48 h_9
      refine fw_aload_n (i := 0) 1 rfl (show decode _ _ = .ok (.aload_n 0, 1) by decide +kernel) ?_
      refine fw_dup (show decode _ _ = .ok (.dup, 1) by decide +kernel) rfl ?_
      obtain ⟨⟨hr43, n42, hs44⟩, h_11⟩ := h_10
      refine fw_getJ (kd := 11) (k := 25) (show decode _ _ = .ok (.getfield 422, 3) by decide +kernel) gf_X11_422 hr43 hs44 rfl ?_
      refine fw_lload (i := 16) 0 rfl (show decode _ _ = .ok (.lload 16, 2) by decide +kernel) ?_
      refine fw_iload (i := 15) 14 rfl (show decode _ _ = .ok (.iload 15, 2) by decide +kernel) ?_
      refine fw_iload (i := 4) 5 rfl (show decode _ _ = .ok (.iload 4, 2) by decide +kernel) ?_
      refine fw_icmp_lt 205 (show decode _ _ = .ok (.if_icmp .lt 7, 3) by decide +kernel) (by decide) (fun hc45 => ?_) (fun hc45 => ?_)
      · have h_12 := ipos hc45 h_11
        refine fw_iconst (v := (1 : Int32)) (show decode _ _ = .ok (.iconst 1, 1) by decide +kernel) (by decide) ?_
        refine fw_iload (i := 14) 13 rfl (show decode _ _ = .ok (.iload 14, 2) by decide +kernel) ?_
        refine fw_iadd (show decode _ _ = .ok (.iadd, 1) by decide +kernel) ?_
        refine FW.sub [1, 2, 3, 4, 5, 6, 7, 8, 9, 10, 11, 12, 13, 14, 0] (ls' := [(0, .ref p0), (1, .int p1), (2, .int p2), (3, .int p3), (4, .int p4), (6, .int p6), (7, .int p7), (8, .int p8), (9, .int p9), (10, .long p10), (12, .int p12), (13, .int p13), (14, .int p14), (15, .int p15), (16, .long x40)]) rfl ?_
        exact sj_X11_reckon_209 hd hK51 hK153 h_12
      · have h_13 := ineg hc45 h_11
        refine fw_iconst (v := (3 : Int32)) (show decode _ _ = .ok (.iconst 3, 1) by decide +kernel) (by decide) ?_
        refine fw_goto 209 (show decode _ _ = .ok (.goto 7, 3) by decide +kernel) (by decide) ?_
        refine FW.sub [1, 2, 3, 4, 5, 6, 7, 8, 9, 10, 11, 12, 13, 14, 0] (ls' := [(0, .ref p0), (1, .int p1), (2, .int p2), (3, .int p3), (4, .int p4), (6, .int p6), (7, .int p7), (8, .int p8), (9, .int p9), (10, .long p10), (12, .int p12), (13, .int p13), (14, .int p14), (15, .int p15), (16, .long x40)]) rfl ?_
        exact sj_X11_reckon_209 hd hK51 hK153 h_13
    · have h_14 := ipos hc48 h_9
      refine fw_goto 262 (show decode _ _ = .ok (.goto 78, 3) by decide +kernel) (by decide) ?_
      obtain ⟨x46, ex47⟩ : ∃ y : Int32, y = p15 + (1 : Int32) := ⟨_, rfl⟩
      have h_15 := h_14 x46 ex47
      refine fw_iinc (i := 15) (x := p15) (v := x46) (ls' := [(15, .int x46), (16, .long x40), (0, .ref p0), (1, .int p1), (2, .int p2), (3, .int p3), (4, .int p4), (6, .int p6), (7, .int p7), (8, .int p8), (9, .int p9), (10, .long p10), (12, .int p12), (13, .int p13), (14, .int p14)]) 14 rfl (show decode _ _ = .ok (.iinc 15 1, 3) by decide +kernel) (by rw [ex47]; rfl) (by decide) rfl ?_
      refine fw_goto 153 (show decode _ _ = .ok (.goto (-112), 3) by decide +kernel) (by decide) ?_
      refine FW.sub [2, 3, 4, 5, 6, 7, 8, 9, 10, 11, 12, 13, 14, 0] (ls' := [(0, .ref p0), (1, .int p1), (2, .int p2), (3, .int p3), (4, .int p4), (6, .int p6), (7, .int p7), (8, .int p8), (9, .int p9), (10, .long p10), (12, .int p12), (13, .int p13), (14, .int p14), (15, .int x46)]) rfl ?_
      exact hK153 _ _ _ _ _ _ _ _ _ _ _ _ _ _ _ h_15
theorem sl_X11_reckon_153 {g : GT} {d : Nat} (hd : 7 ≤ d + 1) {K51 : Nat → Int32 → Int32 → Int32 → Int32 → Int32 → Int32 → Int32 → Int32 → fM → Prop} {φ : fM → Prop} (hK51 : ∀ (p0 : Nat) (p1 : Int32) (p2 : Int32) (p3 : Int32) (p4 : Int32) (p6 : Int32) (p7 : Int32) (p8 : Int32) (p9 : Int32) (M : fM), K51 p0 p1 p2 p3 p4 p6 p7 p8 p9 M → FW g mtX11_reckon (d + 1) 51 [(0, .ref p0), (1, .int p1), (2, .int p2), (3, .int p3), (4, .int p4), (6, .int p6), (7, .int p7), (8, .int p8), (9, .int p9)] [] M 0 0 (rV φ)) : ∀ (n : Nat) {p0 : Nat} {p1 : Int32} {p2 : Int32} {p3 : Int32} {p4 : Int32} {p6 : Int32} {p7 : Int32} {p8 : Int32} {p9 : Int32} {p10 : Int64} {p12 : Int32} {p13 : Int32} {p14 : Int32} {p15 : Int32} {M : fM}, l_X11_reckon_153 K51 φ n p0 p1 p2 p3 p4 p6 p7 p8 p9 p10 p12 p13 p14 p15 M → FW g mtX11_reckon (d + 1) 153 [(0, .ref p0), (1, .int p1), (2, .int p2), (3, .int p3), (4, .int p4), (6, .int p6), (7, .int p7), (8, .int p8), (9, .int p9), (10, .long p10), (12, .int p12), (13, .int p13), (14, .int p14), (15, .int p15)] [] M 0 0 (rV φ)
  | 0 => fun h => h.elim
  | n + 1 => fun h => sb_X11_reckon_153 hd hK51 (fun _ _ _ _ _ _ _ _ _ _ _ _ _ _ _ h => sl_X11_reckon_153 hd hK51 n h) h
def j_X11_reckon_114 (K51 : Nat → Int32 → Int32 → Int32 → Int32 → Int32 → Int32 → Int32 → Int32 → fM → Prop) (φ : fM → Prop) (p0 : Nat) (p1 : Int32) (p2 : Int32) (p3 : Int32) (p4 : Int32) (p6 : Int32) (p7 : Int32) (p8 : Int32) (p9 : Int32) (p10 : Int64) (p12 : Int32) (s0 : Int32) (M : fM) : Prop := iF (p9 = p6) (∃ n, l_X11_reckon_153 K51 φ n p0 p1 p2 p3 p4 p6 p7 p8 p9 p10 p12 s0 p7 (0 : Int32) M) (isO M p0 11 ∧ w_X11_tripsAt p0 p1 p2 p3 (p9 + (1 : Int32)) M fun x54 M50 => iF (x54 = 0) (∃ n, l_X11_reckon_153 K51 φ n p0 p1 p2 p3 p4 p6 p7 p8 p9 p10 p12 s0 (0 : Int32) (0 : Int32) M50) (∃ n, l_X11_reckon_153 K51 φ n p0 p1 p2 p3 p4 p6 p7 p8 p9 p10 p12 s0 p8 (0 : Int32) M50))
set_option maxRecDepth 100000 in
theorem sj_X11_reckon_114 {g : GT} {d : Nat} (hd : 7 ≤ d + 1) {K51 : Nat → Int32 → Int32 → Int32 → Int32 → Int32 → Int32 → Int32 → Int32 → fM → Prop} {φ : fM → Prop} (hK51 : ∀ (p0 : Nat) (p1 : Int32) (p2 : Int32) (p3 : Int32) (p4 : Int32) (p6 : Int32) (p7 : Int32) (p8 : Int32) (p9 : Int32) (M : fM), K51 p0 p1 p2 p3 p4 p6 p7 p8 p9 M → FW g mtX11_reckon (d + 1) 51 [(0, .ref p0), (1, .int p1), (2, .int p2), (3, .int p3), (4, .int p4), (6, .int p6), (7, .int p7), (8, .int p8), (9, .int p9)] [] M 0 0 (rV φ)) {p0 : Nat} {p1 : Int32} {p2 : Int32} {p3 : Int32} {p4 : Int32} {p6 : Int32} {p7 : Int32} {p8 : Int32} {p9 : Int32} {p10 : Int64} {p12 : Int32} {s0 : Int32} {M : fM} (h : j_X11_reckon_114 K51 φ p0 p1 p2 p3 p4 p6 p7 p8 p9 p10 p12 s0 M) : FW g mtX11_reckon (d + 1) 114 [(0, .ref p0), (1, .int p1), (2, .int p2), (3, .int p3), (4, .int p4), (6, .int p6), (7, .int p7), (8, .int p8), (9, .int p9), (10, .long p10), (12, .int p12)] [.int s0] M 0 0 (rV φ) := by
  unfold j_X11_reckon_114 at h
  refine fw_istore (i := 13) (ls' := [(13, .int s0), (0, .ref p0), (1, .int p1), (2, .int p2), (3, .int p3), (4, .int p4), (6, .int p6), (7, .int p7), (8, .int p8), (9, .int p9), (10, .long p10), (12, .int p12)]) (show decode _ _ = .ok (.istore 13, 2) by decide +kernel) (by decide) rfl ?_
  refine fw_iload (i := 9) 9 rfl (show decode _ _ = .ok (.iload 9, 2) by decide +kernel) ?_
  refine fw_iload (i := 6) 6 rfl (show decode _ _ = .ok (.iload 6, 2) by decide +kernel) ?_
  refine fw_icmp_ne 128 (show decode _ _ = .ok (.if_icmp .ne 8, 3) by decide +kernel) (by decide) (fun hc56 => ?_) (fun hc56 => ?_)
  · have h_1 := ineg hc56 h
    refine fw_aload_n (i := 0) 1 rfl (show decode _ _ = .ok (.aload_n 0, 1) by decide +kernel) ?_
    refine fw_iload_n (i := 1) 2 rfl (show decode _ _ = .ok (.iload_n 1, 1) by decide +kernel) ?_
    refine fw_iload_n (i := 2) 3 rfl (show decode _ _ = .ok (.iload_n 2, 1) by decide +kernel) ?_
    refine fw_iload_n (i := 3) 4 rfl (show decode _ _ = .ok (.iload_n 3, 1) by decide +kernel) ?_
    refine fw_iload (i := 9) 9 rfl (show decode _ _ = .ok (.iload 9, 2) by decide +kernel) ?_
    refine fw_iconst (v := (1 : Int32)) (show decode _ _ = .ok (.iconst 1, 1) by decide +kernel) (by decide) ?_
    refine fw_iadd (show decode _ _ = .ok (.iadd, 1) by decide +kernel) ?_
    obtain ⟨⟨hr52, n51, hs53⟩, h_2⟩ := h_1
    refine fw_callV (mt' := mtX11_tripsAt) (mc := 0) (ms := 0) (As := [.int p1, .int p2, .int p3, .int (p9 + (1 : Int32))]) (rest := []) 4 11 n51 (show decode _ _ = .ok (.invokevirtual 331, 3) by decide +kernel) cv_X11_331 ⟨_, rfl, rfl⟩ hr52 hs53 rfl (Nat.le_of_ble_eq_true rfl) (s_X11_tripsAt (d := d) (hd_le hd (by decide)) h_2) (by decide) (by decide) (kI (bc' := 0) (bs' := 0) (by decide) (by decide) (fun x54 M50 h_3 => ?_))
    refine fw_if_eq 147 (show decode _ _ = .ok (.ifCond .eq 8, 3) by decide +kernel) (by decide) (fun hc55 => ?_) (fun hc55 => ?_)
    · have h_4 := ipos hc55 h_3
      refine fw_iconst (v := (0 : Int32)) (show decode _ _ = .ok (.iconst 0, 1) by decide +kernel) (by decide) ?_
      refine fw_istore (i := 14) (ls' := [(14, .int (0 : Int32)), (13, .int s0), (0, .ref p0), (1, .int p1), (2, .int p2), (3, .int p3), (4, .int p4), (6, .int p6), (7, .int p7), (8, .int p8), (9, .int p9), (10, .long p10), (12, .int p12)]) (show decode _ _ = .ok (.istore 14, 2) by decide +kernel) (by decide) rfl ?_
      refine fw_iconst (v := (0 : Int32)) (show decode _ _ = .ok (.iconst 0, 1) by decide +kernel) (by decide) ?_
      refine fw_istore (i := 15) (ls' := [(15, .int (0 : Int32)), (14, .int (0 : Int32)), (13, .int s0), (0, .ref p0), (1, .int p1), (2, .int p2), (3, .int p3), (4, .int p4), (6, .int p6), (7, .int p7), (8, .int p8), (9, .int p9), (10, .long p10), (12, .int p12)]) (show decode _ _ = .ok (.istore 15, 2) by decide +kernel) (by decide) rfl ?_
      refine FW.sub [3, 4, 5, 6, 7, 8, 9, 10, 11, 12, 13, 2, 1, 0] (ls' := [(0, .ref p0), (1, .int p1), (2, .int p2), (3, .int p3), (4, .int p4), (6, .int p6), (7, .int p7), (8, .int p8), (9, .int p9), (10, .long p10), (12, .int p12), (13, .int s0), (14, .int (0 : Int32)), (15, .int (0 : Int32))]) rfl ?_
      obtain ⟨nn, h_5⟩ := h_4
      exact sl_X11_reckon_153 hd hK51 nn h_5
    · have h_6 := ineg hc55 h_3
      refine fw_iload (i := 8) 8 rfl (show decode _ _ = .ok (.iload 8, 2) by decide +kernel) ?_
      refine fw_goto 148 (show decode _ _ = .ok (.goto 4, 3) by decide +kernel) (by decide) ?_
      refine fw_istore (i := 14) (ls' := [(14, .int p8), (13, .int s0), (0, .ref p0), (1, .int p1), (2, .int p2), (3, .int p3), (4, .int p4), (6, .int p6), (7, .int p7), (8, .int p8), (9, .int p9), (10, .long p10), (12, .int p12)]) (show decode _ _ = .ok (.istore 14, 2) by decide +kernel) (by decide) rfl ?_
      refine fw_iconst (v := (0 : Int32)) (show decode _ _ = .ok (.iconst 0, 1) by decide +kernel) (by decide) ?_
      refine fw_istore (i := 15) (ls' := [(15, .int (0 : Int32)), (14, .int p8), (13, .int s0), (0, .ref p0), (1, .int p1), (2, .int p2), (3, .int p3), (4, .int p4), (6, .int p6), (7, .int p7), (8, .int p8), (9, .int p9), (10, .long p10), (12, .int p12)]) (show decode _ _ = .ok (.istore 15, 2) by decide +kernel) (by decide) rfl ?_
      refine FW.sub [3, 4, 5, 6, 7, 8, 9, 10, 11, 12, 13, 2, 1, 0] (ls' := [(0, .ref p0), (1, .int p1), (2, .int p2), (3, .int p3), (4, .int p4), (6, .int p6), (7, .int p7), (8, .int p8), (9, .int p9), (10, .long p10), (12, .int p12), (13, .int s0), (14, .int p8), (15, .int (0 : Int32))]) rfl ?_
      obtain ⟨nn, h_7⟩ := h_6
      exact sl_X11_reckon_153 hd hK51 nn h_7
  · have h_8 := ipos hc56 h
    refine fw_iload (i := 7) 7 rfl (show decode _ _ = .ok (.iload 7, 2) by decide +kernel) ?_
    refine fw_goto 148 (show decode _ _ = .ok (.goto 23, 3) by decide +kernel) (by decide) ?_
    refine fw_istore (i := 14) (ls' := [(14, .int p7), (13, .int s0), (0, .ref p0), (1, .int p1), (2, .int p2), (3, .int p3), (4, .int p4), (6, .int p6), (7, .int p7), (8, .int p8), (9, .int p9), (10, .long p10), (12, .int p12)]) (show decode _ _ = .ok (.istore 14, 2) by decide +kernel) (by decide) rfl ?_
    refine fw_iconst (v := (0 : Int32)) (show decode _ _ = .ok (.iconst 0, 1) by decide +kernel) (by decide) ?_
    refine fw_istore (i := 15) (ls' := [(15, .int (0 : Int32)), (14, .int p7), (13, .int s0), (0, .ref p0), (1, .int p1), (2, .int p2), (3, .int p3), (4, .int p4), (6, .int p6), (7, .int p7), (8, .int p8), (9, .int p9), (10, .long p10), (12, .int p12)]) (show decode _ _ = .ok (.istore 15, 2) by decide +kernel) (by decide) rfl ?_
    refine FW.sub [3, 4, 5, 6, 7, 8, 9, 10, 11, 12, 13, 2, 1, 0] (ls' := [(0, .ref p0), (1, .int p1), (2, .int p2), (3, .int p3), (4, .int p4), (6, .int p6), (7, .int p7), (8, .int p8), (9, .int p9), (10, .long p10), (12, .int p12), (13, .int s0), (14, .int p7), (15, .int (0 : Int32))]) rfl ?_
    obtain ⟨nn, h_9⟩ := h_8
    exact sl_X11_reckon_153 hd hK51 nn h_9
def j_X11_reckon_90 (K51 : Nat → Int32 → Int32 → Int32 → Int32 → Int32 → Int32 → Int32 → Int32 → fM → Prop) (φ : fM → Prop) (p0 : Nat) (p1 : Int32) (p2 : Int32) (p3 : Int32) (p4 : Int32) (p6 : Int32) (p7 : Int32) (p8 : Int32) (p9 : Int32) (p10 : Int64) (s0 : Int32) (M : fM) : Prop := iF (p9 = p6) (j_X11_reckon_114 K51 φ p0 p1 p2 p3 p4 p6 p7 p8 p9 p10 s0 (0 : Int32) M) (isO M p0 11 ∧ w_X11_twiceAt p0 p1 p2 p3 (p9 + (1 : Int32)) M fun x61 M57 => j_X11_reckon_114 K51 φ p0 p1 p2 p3 p4 p6 p7 p8 p9 p10 s0 x61 M57)
set_option maxRecDepth 100000 in
theorem sj_X11_reckon_90 {g : GT} {d : Nat} (hd : 7 ≤ d + 1) {K51 : Nat → Int32 → Int32 → Int32 → Int32 → Int32 → Int32 → Int32 → Int32 → fM → Prop} {φ : fM → Prop} (hK51 : ∀ (p0 : Nat) (p1 : Int32) (p2 : Int32) (p3 : Int32) (p4 : Int32) (p6 : Int32) (p7 : Int32) (p8 : Int32) (p9 : Int32) (M : fM), K51 p0 p1 p2 p3 p4 p6 p7 p8 p9 M → FW g mtX11_reckon (d + 1) 51 [(0, .ref p0), (1, .int p1), (2, .int p2), (3, .int p3), (4, .int p4), (6, .int p6), (7, .int p7), (8, .int p8), (9, .int p9)] [] M 0 0 (rV φ)) {p0 : Nat} {p1 : Int32} {p2 : Int32} {p3 : Int32} {p4 : Int32} {p6 : Int32} {p7 : Int32} {p8 : Int32} {p9 : Int32} {p10 : Int64} {s0 : Int32} {M : fM} (h : j_X11_reckon_90 K51 φ p0 p1 p2 p3 p4 p6 p7 p8 p9 p10 s0 M) : FW g mtX11_reckon (d + 1) 90 [(0, .ref p0), (1, .int p1), (2, .int p2), (3, .int p3), (4, .int p4), (6, .int p6), (7, .int p7), (8, .int p8), (9, .int p9), (10, .long p10)] [.int s0] M 0 0 (rV φ) := by
  unfold j_X11_reckon_90 at h
  refine fw_istore (i := 12) (ls' := [(12, .int s0), (0, .ref p0), (1, .int p1), (2, .int p2), (3, .int p3), (4, .int p4), (6, .int p6), (7, .int p7), (8, .int p8), (9, .int p9), (10, .long p10)]) (show decode _ _ = .ok (.istore 12, 2) by decide +kernel) (by decide) rfl ?_
  refine fw_iload (i := 9) 9 rfl (show decode _ _ = .ok (.iload 9, 2) by decide +kernel) ?_
  refine fw_iload (i := 6) 6 rfl (show decode _ _ = .ok (.iload 6, 2) by decide +kernel) ?_
  refine fw_icmp_ne 103 (show decode _ _ = .ok (.if_icmp .ne 7, 3) by decide +kernel) (by decide) (fun hc62 => ?_) (fun hc62 => ?_)
  · have h_1 := ineg hc62 h
    refine fw_aload_n (i := 0) 1 rfl (show decode _ _ = .ok (.aload_n 0, 1) by decide +kernel) ?_
    refine fw_iload_n (i := 1) 2 rfl (show decode _ _ = .ok (.iload_n 1, 1) by decide +kernel) ?_
    refine fw_iload_n (i := 2) 3 rfl (show decode _ _ = .ok (.iload_n 2, 1) by decide +kernel) ?_
    refine fw_iload_n (i := 3) 4 rfl (show decode _ _ = .ok (.iload_n 3, 1) by decide +kernel) ?_
    refine fw_iload (i := 9) 9 rfl (show decode _ _ = .ok (.iload 9, 2) by decide +kernel) ?_
    refine fw_iconst (v := (1 : Int32)) (show decode _ _ = .ok (.iconst 1, 1) by decide +kernel) (by decide) ?_
    refine fw_iadd (show decode _ _ = .ok (.iadd, 1) by decide +kernel) ?_
    obtain ⟨⟨hr59, n58, hs60⟩, h_2⟩ := h_1
    refine fw_callV (mt' := mtX11_twiceAt) (mc := 0) (ms := 0) (As := [.int p1, .int p2, .int p3, .int (p9 + (1 : Int32))]) (rest := []) 4 11 n58 (show decode _ _ = .ok (.invokevirtual 328, 3) by decide +kernel) cv_X11_328 ⟨_, rfl, rfl⟩ hr59 hs60 rfl (Nat.le_of_ble_eq_true rfl) (s_X11_twiceAt (d := d) (hd_le hd (by decide)) h_2) (by decide) (by decide) (kI (bc' := 0) (bs' := 0) (by decide) (by decide) (fun x61 M57 h_3 => ?_))
    refine FW.sub [1, 2, 3, 4, 5, 6, 7, 8, 9, 10, 0] (ls' := [(0, .ref p0), (1, .int p1), (2, .int p2), (3, .int p3), (4, .int p4), (6, .int p6), (7, .int p7), (8, .int p8), (9, .int p9), (10, .long p10), (12, .int s0)]) rfl ?_
    exact sj_X11_reckon_114 hd hK51 h_3
  · have h_4 := ipos hc62 h
    refine fw_iconst (v := (0 : Int32)) (show decode _ _ = .ok (.iconst 0, 1) by decide +kernel) (by decide) ?_
    refine fw_goto 114 (show decode _ _ = .ok (.goto 14, 3) by decide +kernel) (by decide) ?_
    refine FW.sub [1, 2, 3, 4, 5, 6, 7, 8, 9, 10, 0] (ls' := [(0, .ref p0), (1, .int p1), (2, .int p2), (3, .int p3), (4, .int p4), (6, .int p6), (7, .int p7), (8, .int p8), (9, .int p9), (10, .long p10), (12, .int s0)]) rfl ?_
    exact sj_X11_reckon_114 hd hK51 h_4
def b_X11_reckon_51 (K51 : Nat → Int32 → Int32 → Int32 → Int32 → Int32 → Int32 → Int32 → Int32 → fM → Prop) (φ : fM → Prop) (p0 : Nat) (p1 : Int32) (p2 : Int32) (p3 : Int32) (p4 : Int32) (p6 : Int32) (p7 : Int32) (p8 : Int32) (p9 : Int32) (M : fM) : Prop := iF (p6 < p9) (φ M) (w_X11_tenTo (p6 - p9) M fun x64 M63 => iF (p9 = p6) (j_X11_reckon_90 K51 φ p0 p1 p2 p3 p4 p6 p7 p8 p9 x64 (0 : Int32) M63) (isO M63 p0 11 ∧ w_X11_noneAt p0 p1 p2 p3 (p9 + (1 : Int32)) M63 fun x69 M65 => j_X11_reckon_90 K51 φ p0 p1 p2 p3 p4 p6 p7 p8 p9 x64 x69 M65))
def l_X11_reckon_51 (φ : fM → Prop) : Nat → Nat → Int32 → Int32 → Int32 → Int32 → Int32 → Int32 → Int32 → Int32 → fM → Prop
  | 0, _, _, _, _, _, _, _, _, _, _ => False
  | n + 1, p0, p1, p2, p3, p4, p6, p7, p8, p9, M => b_X11_reckon_51 (l_X11_reckon_51 φ n) φ p0 p1 p2 p3 p4 p6 p7 p8 p9 M
set_option maxRecDepth 100000 in
theorem sb_X11_reckon_51 {g : GT} {d : Nat} (hd : 7 ≤ d + 1) {K51 : Nat → Int32 → Int32 → Int32 → Int32 → Int32 → Int32 → Int32 → Int32 → fM → Prop} {φ : fM → Prop} (hK51 : ∀ (p0 : Nat) (p1 : Int32) (p2 : Int32) (p3 : Int32) (p4 : Int32) (p6 : Int32) (p7 : Int32) (p8 : Int32) (p9 : Int32) (M : fM), K51 p0 p1 p2 p3 p4 p6 p7 p8 p9 M → FW g mtX11_reckon (d + 1) 51 [(0, .ref p0), (1, .int p1), (2, .int p2), (3, .int p3), (4, .int p4), (6, .int p6), (7, .int p7), (8, .int p8), (9, .int p9)] [] M 0 0 (rV φ)) {p0 : Nat} {p1 : Int32} {p2 : Int32} {p3 : Int32} {p4 : Int32} {p6 : Int32} {p7 : Int32} {p8 : Int32} {p9 : Int32} {M : fM} (h : b_X11_reckon_51 K51 φ p0 p1 p2 p3 p4 p6 p7 p8 p9 M) : FW g mtX11_reckon (d + 1) 51 [(0, .ref p0), (1, .int p1), (2, .int p2), (3, .int p3), (4, .int p4), (6, .int p6), (7, .int p7), (8, .int p8), (9, .int p9)] [] M 0 0 (rV φ) := by
  unfold b_X11_reckon_51 at h
  refine fw_iload (i := 9) 8 rfl (show decode _ _ = .ok (.iload 9, 2) by decide +kernel) ?_
  refine fw_iload (i := 6) 5 rfl (show decode _ _ = .ok (.iload 6, 2) by decide +kernel) ?_
  refine fw_icmp_gt 274 (show decode _ _ = .ok (.if_icmp .gt 219, 3) by decide +kernel) (by decide) (fun hc71 => ?_) (fun hc71 => ?_)
  · have h_1 := ipos hc71 h
    exact fw_ret (v := none) .return_ (show decode _ _ = .ok (.return_, 1) by decide +kernel) ⟨rfl, rfl⟩ ⟨rfl, h_1⟩
  · have h_2 := ineg hc71 h
    refine fw_iload (i := 6) 5 rfl (show decode _ _ = .ok (.iload 6, 2) by decide +kernel) ?_
    refine fw_iload (i := 9) 8 rfl (show decode _ _ = .ok (.iload 9, 2) by decide +kernel) ?_
    refine fw_isub (show decode _ _ = .ok (.isub, 1) by decide +kernel) ?_
    refine fw_callS (mt' := mtX11_tenTo) (mc := 0) (ms := 0) (As := [.int (p6 - p9)]) (rest := []) 1 (show decode _ _ = .ok (.invokestatic 428, 3) by decide +kernel) cs_X11_428 rfl (Nat.le_of_ble_eq_true rfl) (s_X11_tenTo (d := d) (hd_le hd (by decide)) h_2) (by decide) (by decide) (kJ (bc' := 0) (bs' := 0) (by decide) (by decide) (fun x64 M63 h_3 => ?_))
    refine fw_lstore (i := 10) (ls' := [(10, .long x64), (0, .ref p0), (1, .int p1), (2, .int p2), (3, .int p3), (4, .int p4), (6, .int p6), (7, .int p7), (8, .int p8), (9, .int p9)]) (show decode _ _ = .ok (.lstore 10, 2) by decide +kernel) (by decide) rfl ?_
    refine fw_iload (i := 9) 9 rfl (show decode _ _ = .ok (.iload 9, 2) by decide +kernel) ?_
    refine fw_iload (i := 6) 6 rfl (show decode _ _ = .ok (.iload 6, 2) by decide +kernel) ?_
    refine fw_icmp_ne 79 (show decode _ _ = .ok (.if_icmp .ne 7, 3) by decide +kernel) (by decide) (fun hc70 => ?_) (fun hc70 => ?_)
    · have h_4 := ineg hc70 h_3
      refine fw_aload_n (i := 0) 1 rfl (show decode _ _ = .ok (.aload_n 0, 1) by decide +kernel) ?_
      refine fw_iload_n (i := 1) 2 rfl (show decode _ _ = .ok (.iload_n 1, 1) by decide +kernel) ?_
      refine fw_iload_n (i := 2) 3 rfl (show decode _ _ = .ok (.iload_n 2, 1) by decide +kernel) ?_
      refine fw_iload_n (i := 3) 4 rfl (show decode _ _ = .ok (.iload_n 3, 1) by decide +kernel) ?_
      refine fw_iload (i := 9) 9 rfl (show decode _ _ = .ok (.iload 9, 2) by decide +kernel) ?_
      refine fw_iconst (v := (1 : Int32)) (show decode _ _ = .ok (.iconst 1, 1) by decide +kernel) (by decide) ?_
      refine fw_iadd (show decode _ _ = .ok (.iadd, 1) by decide +kernel) ?_
      obtain ⟨⟨hr67, n66, hs68⟩, h_5⟩ := h_4
      refine fw_callV (mt' := mtX11_noneAt) (mc := 0) (ms := 0) (As := [.int p1, .int p2, .int p3, .int (p9 + (1 : Int32))]) (rest := []) 4 11 n66 (show decode _ _ = .ok (.invokevirtual 314, 3) by decide +kernel) cv_X11_314 ⟨_, rfl, rfl⟩ hr67 hs68 rfl (Nat.le_of_ble_eq_true rfl) (s_X11_noneAt (d := d) (hd_le hd (by decide)) h_5) (by decide) (by decide) (kI (bc' := 0) (bs' := 0) (by decide) (by decide) (fun x69 M65 h_6 => ?_))
      refine FW.sub [1, 2, 3, 4, 5, 6, 7, 8, 9, 0] (ls' := [(0, .ref p0), (1, .int p1), (2, .int p2), (3, .int p3), (4, .int p4), (6, .int p6), (7, .int p7), (8, .int p8), (9, .int p9), (10, .long x64)]) rfl ?_
      exact sj_X11_reckon_90 hd hK51 h_6
    · have h_7 := ipos hc70 h_3
      refine fw_iconst (v := (0 : Int32)) (show decode _ _ = .ok (.iconst 0, 1) by decide +kernel) (by decide) ?_
      refine fw_goto 90 (show decode _ _ = .ok (.goto 14, 3) by decide +kernel) (by decide) ?_
      refine FW.sub [1, 2, 3, 4, 5, 6, 7, 8, 9, 0] (ls' := [(0, .ref p0), (1, .int p1), (2, .int p2), (3, .int p3), (4, .int p4), (6, .int p6), (7, .int p7), (8, .int p8), (9, .int p9), (10, .long x64)]) rfl ?_
      exact sj_X11_reckon_90 hd hK51 h_7
theorem sl_X11_reckon_51 {g : GT} {d : Nat} (hd : 7 ≤ d + 1) {φ : fM → Prop} : ∀ (n : Nat) {p0 : Nat} {p1 : Int32} {p2 : Int32} {p3 : Int32} {p4 : Int32} {p6 : Int32} {p7 : Int32} {p8 : Int32} {p9 : Int32} {M : fM}, l_X11_reckon_51 φ n p0 p1 p2 p3 p4 p6 p7 p8 p9 M → FW g mtX11_reckon (d + 1) 51 [(0, .ref p0), (1, .int p1), (2, .int p2), (3, .int p3), (4, .int p4), (6, .int p6), (7, .int p7), (8, .int p8), (9, .int p9)] [] M 0 0 (rV φ)
  | 0 => fun h => h.elim
  | n + 1 => fun h => sb_X11_reckon_51 hd (fun _ _ _ _ _ _ _ _ _ _ h => sl_X11_reckon_51 hd n h) h
def w_X11_reckon (p0 : Nat) (p1 : Int32) (p2 : Int32) (p3 : Int32) (p4 : Int32) (p5 : Int32) (M : fM) (φ : fM → Prop) : Prop := isO M p0 11 ∧ w_X11_stepsOf p0 p2 M fun x76 M72 => isO M72 p0 11 ∧ w_X11_jarOf p0 p1 p2 p3 M72 fun x81 M77 => isO M77 p0 11 ∧ w_X11_fallOf p0 p1 p2 p3 M77 fun x86 M82 => isO M82 p0 11 ∧ w_X11_start p0 p1 (1 : Int32) (1 : Int32) M82 fun M87 => isO M87 p0 11 ∧ st (wI M87 p0 27 p5) fun M94 => st (wJ M94 p0 25 (0 : Int64)) fun M96 => st (wJ M96 p0 26 (0 : Int64)) fun M98 => ∃ n, l_X11_reckon_51 φ n p0 p1 p2 p3 p4 x76 x81 x86 (0 : Int32) M98
set_option maxRecDepth 100000 in
theorem s_X11_reckon {g : GT} {d : Nat} (hd : 7 ≤ d) {p0 : Nat} {p1 : Int32} {p2 : Int32} {p3 : Int32} {p4 : Int32} {p5 : Int32} {M : fM} {φ : fM → Prop} (h : w_X11_reckon p0 p1 p2 p3 p4 p5 M φ) : FC g mtX11_reckon d [.ref p0, .int p1, .int p2, .int p3, .int p4, .int p5] M 0 0 (rV φ) := by
  obtain ⟨d, rfl⟩ : ∃ e, d = e + 1 := ⟨d - 1, by omega⟩
  unfold w_X11_reckon at h
  refine FC.intro (nL := 18) (by decide) rfl (Nat.le_of_ble_eq_true rfl) ?_
  show FW g mtX11_reckon (d + 1) 0 [(0, .ref p0), (1, .int p1), (2, .int p2), (3, .int p3), (4, .int p4), (5, .int p5)] [] M 0 0 (rV φ)
  refine fw_aload_n (i := 0) 0 rfl (show decode _ _ = .ok (.aload_n 0, 1) by decide +kernel) ?_
  refine fw_iload_n (i := 2) 2 rfl (show decode _ _ = .ok (.iload_n 2, 1) by decide +kernel) ?_
  obtain ⟨⟨hr74, n73, hs75⟩, h_1⟩ := h
  refine fw_callV (mt' := mtX11_stepsOf) (mc := 0) (ms := 0) (As := [.int p2]) (rest := []) 1 11 n73 (show decode _ _ = .ok (.invokevirtual 74, 3) by decide +kernel) cv_X11_74 ⟨_, rfl, rfl⟩ hr74 hs75 rfl (Nat.le_of_ble_eq_true rfl) (s_X11_stepsOf (d := d) (hd_le hd (by decide)) h_1) (by decide) (by decide) (kI (bc' := 0) (bs' := 0) (by decide) (by decide) (fun x76 M72 h_2 => ?_))
  refine fw_istore (i := 6) (ls' := [(6, .int x76), (0, .ref p0), (1, .int p1), (2, .int p2), (3, .int p3), (4, .int p4), (5, .int p5)]) (show decode _ _ = .ok (.istore 6, 2) by decide +kernel) (by decide) rfl ?_
  refine fw_aload_n (i := 0) 1 rfl (show decode _ _ = .ok (.aload_n 0, 1) by decide +kernel) ?_
  refine fw_iload_n (i := 1) 2 rfl (show decode _ _ = .ok (.iload_n 1, 1) by decide +kernel) ?_
  refine fw_iload_n (i := 2) 3 rfl (show decode _ _ = .ok (.iload_n 2, 1) by decide +kernel) ?_
  refine fw_iload_n (i := 3) 4 rfl (show decode _ _ = .ok (.iload_n 3, 1) by decide +kernel) ?_
  obtain ⟨⟨hr79, n78, hs80⟩, h_3⟩ := h_2
  refine fw_callV (mt' := mtX11_jarOf) (mc := 0) (ms := 0) (As := [.int p1, .int p2, .int p3]) (rest := []) 3 11 n78 (show decode _ _ = .ok (.invokevirtual 335, 3) by decide +kernel) cv_X11_335 ⟨_, rfl, rfl⟩ hr79 hs80 rfl (Nat.le_of_ble_eq_true rfl) (s_X11_jarOf (d := d) (hd_le hd (by decide)) h_3) (by decide) (by decide) (kI (bc' := 0) (bs' := 0) (by decide) (by decide) (fun x81 M77 h_4 => ?_))
  refine fw_istore (i := 7) (ls' := [(7, .int x81), (6, .int x76), (0, .ref p0), (1, .int p1), (2, .int p2), (3, .int p3), (4, .int p4), (5, .int p5)]) (show decode _ _ = .ok (.istore 7, 2) by decide +kernel) (by decide) rfl ?_
  refine fw_aload_n (i := 0) 2 rfl (show decode _ _ = .ok (.aload_n 0, 1) by decide +kernel) ?_
  refine fw_iload_n (i := 1) 3 rfl (show decode _ _ = .ok (.iload_n 1, 1) by decide +kernel) ?_
  refine fw_iload_n (i := 2) 4 rfl (show decode _ _ = .ok (.iload_n 2, 1) by decide +kernel) ?_
  refine fw_iload_n (i := 3) 5 rfl (show decode _ _ = .ok (.iload_n 3, 1) by decide +kernel) ?_
  obtain ⟨⟨hr84, n83, hs85⟩, h_5⟩ := h_4
  refine fw_callV (mt' := mtX11_fallOf) (mc := 0) (ms := 0) (As := [.int p1, .int p2, .int p3]) (rest := []) 3 11 n83 (show decode _ _ = .ok (.invokevirtual 338, 3) by decide +kernel) cv_X11_338 ⟨_, rfl, rfl⟩ hr84 hs85 rfl (Nat.le_of_ble_eq_true rfl) (s_X11_fallOf (d := d) (hd_le hd (by decide)) h_5) (by decide) (by decide) (kI (bc' := 0) (bs' := 0) (by decide) (by decide) (fun x86 M82 h_6 => ?_))
  refine fw_istore (i := 8) (ls' := [(8, .int x86), (7, .int x81), (6, .int x76), (0, .ref p0), (1, .int p1), (2, .int p2), (3, .int p3), (4, .int p4), (5, .int p5)]) (show decode _ _ = .ok (.istore 8, 2) by decide +kernel) (by decide) rfl ?_
  refine fw_aload_n (i := 0) 3 rfl (show decode _ _ = .ok (.aload_n 0, 1) by decide +kernel) ?_
  refine fw_iload_n (i := 1) 4 rfl (show decode _ _ = .ok (.iload_n 1, 1) by decide +kernel) ?_
  refine fw_iconst (v := (1 : Int32)) (show decode _ _ = .ok (.iconst 1, 1) by decide +kernel) (by decide) ?_
  refine fw_iconst (v := (1 : Int32)) (show decode _ _ = .ok (.iconst 1, 1) by decide +kernel) (by decide) ?_
  obtain ⟨⟨hr89, n88, hs90⟩, h_7⟩ := h_6
  refine fw_callV (mt' := mtX11_start) (mc := 0) (ms := 0) (As := [.int p1, .int (1 : Int32), .int (1 : Int32)]) (rest := []) 3 11 n88 (show decode _ _ = .ok (.invokevirtual 418, 3) by decide +kernel) cv_X11_418 ⟨_, rfl, rfl⟩ hr89 hs90 rfl (Nat.le_of_ble_eq_true rfl) (s_X11_start (d := d) (hd_le hd (by decide)) h_7) (by decide) (by decide) (kV (bc' := 0) (bs' := 0) (by decide) (by decide) (fun M87 h_8 => ?_))
  refine fw_aload_n (i := 0) 3 rfl (show decode _ _ = .ok (.aload_n 0, 1) by decide +kernel) ?_
  refine fw_iload (i := 5) 8 rfl (show decode _ _ = .ok (.iload 5, 2) by decide +kernel) ?_
  obtain ⟨⟨hr92, n91, hs93⟩, h_9⟩ := h_8
  refine fw_putI (kd := 11) (k := 27) (show decode _ _ = .ok (.putfield 411, 3) by decide +kernel) ⟨gf_X11_411, _, rfl, Or.inl rfl⟩ hr92 hs93 rfl ?_
  refine FW.nmM (fun M94 eM95 => ?_)
  have h_10 := h_9 M94 eM95
  refine fw_aload_n (i := 0) 3 rfl (show decode _ _ = .ok (.aload_n 0, 1) by decide +kernel) ?_
  refine fw_lconst (v := (0 : Int64)) (show decode _ _ = .ok (.lconst 0, 1) by decide +kernel) (by decide) ?_
  refine fw_putJ (kd := 11) (k := 25) (show decode _ _ = .ok (.putfield 422, 3) by decide +kernel) ⟨gf_X11_422, _, rfl, Or.inl rfl⟩ hr92 (mSw_I eM95 hs93) rfl ?_
  refine FW.nmM (fun M96 eM97 => ?_)
  have h_11 := h_10 M96 eM97
  refine fw_aload_n (i := 0) 3 rfl (show decode _ _ = .ok (.aload_n 0, 1) by decide +kernel) ?_
  refine fw_lconst (v := (0 : Int64)) (show decode _ _ = .ok (.lconst 0, 1) by decide +kernel) (by decide) ?_
  refine fw_putJ (kd := 11) (k := 26) (show decode _ _ = .ok (.putfield 425, 3) by decide +kernel) ⟨gf_X11_425, _, rfl, Or.inl rfl⟩ hr92 (mSw_J eM97 (mSw_I eM95 hs93)) rfl ?_
  refine FW.nmM (fun M98 eM99 => ?_)
  have h_12 := h_11 M98 eM99
  refine fw_iconst (v := (0 : Int32)) (show decode _ _ = .ok (.iconst 0, 1) by decide +kernel) (by decide) ?_
  refine fw_istore (i := 9) (ls' := [(9, .int (0 : Int32)), (8, .int x86), (7, .int x81), (6, .int x76), (0, .ref p0), (1, .int p1), (2, .int p2), (3, .int p3), (4, .int p4), (5, .int p5)]) (show decode _ _ = .ok (.istore 9, 2) by decide +kernel) (by decide) rfl ?_
  refine FW.sub [4, 5, 6, 7, 8, 3, 2, 1, 0] (ls' := [(0, .ref p0), (1, .int p1), (2, .int p2), (3, .int p3), (4, .int p4), (6, .int x76), (7, .int x81), (8, .int x86), (9, .int (0 : Int32))]) rfl ?_
  obtain ⟨nn, h_13⟩ := h_12
  exact sl_X11_reckon_51 hd nn h_13
def j_X11_best_44 (K6 : Nat → Int32 → Int32 → Int32 → Int32 → Int32 → Int32 → fM → Prop) (φ : Int32 → fM → Prop) (p0 : Nat) (p1 : Int32) (p2 : Int32) (p3 : Int32) (p4 : Int32) (p6 : Int32) (M : fM) : Prop := isO M p0 11 ∧ nm (mJ M p0 25) fun x4 => st (wJ M p0 28 x4) fun M6 => nm (mJ M6 p0 26) fun x8 => st (wJ M6 p0 29 x8) fun M10 => nm (p6 + (1 : Int32)) fun x12 => K6 p0 p1 p2 p3 p4 p6 x12 M10
set_option maxRecDepth 100000 in
theorem sj_X11_best_44 {g : GT} {d : Nat} (hd : 8 ≤ d + 1) {K6 : Nat → Int32 → Int32 → Int32 → Int32 → Int32 → Int32 → fM → Prop} {φ : Int32 → fM → Prop} (hK6 : ∀ (p0 : Nat) (p1 : Int32) (p2 : Int32) (p3 : Int32) (p4 : Int32) (p5 : Int32) (p6 : Int32) (M : fM), K6 p0 p1 p2 p3 p4 p5 p6 M → FW g mtX11_best (d + 1) 6 [(0, .ref p0), (1, .int p1), (2, .int p2), (3, .int p3), (4, .int p4), (5, .int p5), (6, .int p6)] [] M 0 0 (rI φ)) {p0 : Nat} {p1 : Int32} {p2 : Int32} {p3 : Int32} {p4 : Int32} {p6 : Int32} {M : fM} (h : j_X11_best_44 K6 φ p0 p1 p2 p3 p4 p6 M) : FW g mtX11_best (d + 1) 44 [(0, .ref p0), (1, .int p1), (2, .int p2), (3, .int p3), (4, .int p4), (6, .int p6)] [] M 0 0 (rI φ) := by
  unfold j_X11_best_44 at h
  refine fw_iload (i := 6) 5 rfl (show decode _ _ = .ok (.iload 6, 2) by decide +kernel) ?_
  refine fw_istore (i := 5) (ls' := [(5, .int p6), (0, .ref p0), (1, .int p1), (2, .int p2), (3, .int p3), (4, .int p4), (6, .int p6)]) (show decode _ _ = .ok (.istore 5, 2) by decide +kernel) (by decide) rfl ?_
  refine fw_aload_n (i := 0) 1 rfl (show decode _ _ = .ok (.aload_n 0, 1) by decide +kernel) ?_
  refine fw_aload_n (i := 0) 1 rfl (show decode _ _ = .ok (.aload_n 0, 1) by decide +kernel) ?_
  obtain ⟨⟨hr2, n1, hs3⟩, h_1⟩ := h
  refine fw_getJ (kd := 11) (k := 25) (show decode _ _ = .ok (.getfield 422, 3) by decide +kernel) gf_X11_422 hr2 hs3 rfl ?_
  refine fw_nmJ (fun x4 ex5 => ?_)
  have h_2 := h_1 x4 ex5
  refine fw_putJ (kd := 11) (k := 28) (show decode _ _ = .ok (.putfield 444, 3) by decide +kernel) ⟨gf_X11_444, _, rfl, Or.inl rfl⟩ hr2 hs3 rfl ?_
  refine FW.nmM (fun M6 eM7 => ?_)
  have h_3 := h_2 M6 eM7
  refine fw_aload_n (i := 0) 1 rfl (show decode _ _ = .ok (.aload_n 0, 1) by decide +kernel) ?_
  refine fw_aload_n (i := 0) 1 rfl (show decode _ _ = .ok (.aload_n 0, 1) by decide +kernel) ?_
  refine fw_getJ (kd := 11) (k := 26) (show decode _ _ = .ok (.getfield 425, 3) by decide +kernel) gf_X11_425 hr2 (mSw_J eM7 hs3) rfl ?_
  refine fw_nmJ (fun x8 ex9 => ?_)
  have h_4 := h_3 x8 ex9
  refine fw_putJ (kd := 11) (k := 29) (show decode _ _ = .ok (.putfield 447, 3) by decide +kernel) ⟨gf_X11_447, _, rfl, Or.inl rfl⟩ hr2 (mSw_J eM7 hs3) rfl ?_
  refine FW.nmM (fun M10 eM11 => ?_)
  have h_5 := h_4 M10 eM11
  obtain ⟨x12, ex13⟩ : ∃ y : Int32, y = p6 + (1 : Int32) := ⟨_, rfl⟩
  have h_6 := h_5 x12 ex13
  refine fw_iinc (i := 6) (x := p6) (v := x12) (ls' := [(6, .int x12), (5, .int p6), (0, .ref p0), (1, .int p1), (2, .int p2), (3, .int p3), (4, .int p4)]) 6 rfl (show decode _ _ = .ok (.iinc 6 1, 3) by decide +kernel) (by rw [ex13]; rfl) (by decide) rfl ?_
  refine fw_goto 6 (show decode _ _ = .ok (.goto (-61), 3) by decide +kernel) (by decide) ?_
  refine FW.sub [2, 3, 4, 5, 6, 1, 0] (ls' := [(0, .ref p0), (1, .int p1), (2, .int p2), (3, .int p3), (4, .int p4), (5, .int p6), (6, .int x12)]) rfl ?_
  exact hK6 _ _ _ _ _ _ _ _ h_6
def b_X11_best_6 (K6 : Nat → Int32 → Int32 → Int32 → Int32 → Int32 → Int32 → fM → Prop) (φ : Int32 → fM → Prop) (p0 : Nat) (p1 : Int32) (p2 : Int32) (p3 : Int32) (p4 : Int32) (p5 : Int32) (p6 : Int32) (M : fM) : Prop := iF ((31 : Int32) ≤ p6) (φ p5 M) (isO M p0 11 ∧ w_X11_reckon p0 p1 p2 p3 p6 p4 M fun M14 => iF (p5 < 0) (j_X11_best_44 K6 φ p0 p1 p2 p3 p4 p6 M14) (isO M14 p0 11 ∧ iF ((lg_cmp (mJ M14 p0 25) (mJ M14 p0 28)) < 0) (j_X11_best_44 K6 φ p0 p1 p2 p3 p4 p6 M14) (nm (p6 + (1 : Int32)) fun x21 => K6 p0 p1 p2 p3 p4 p5 x21 M14)))
def l_X11_best_6 (φ : Int32 → fM → Prop) : Nat → Nat → Int32 → Int32 → Int32 → Int32 → Int32 → Int32 → fM → Prop
  | 0, _, _, _, _, _, _, _, _ => False
  | n + 1, p0, p1, p2, p3, p4, p5, p6, M => b_X11_best_6 (l_X11_best_6 φ n) φ p0 p1 p2 p3 p4 p5 p6 M
set_option maxRecDepth 100000 in
theorem sb_X11_best_6 {g : GT} {d : Nat} (hd : 8 ≤ d + 1) {K6 : Nat → Int32 → Int32 → Int32 → Int32 → Int32 → Int32 → fM → Prop} {φ : Int32 → fM → Prop} (hK6 : ∀ (p0 : Nat) (p1 : Int32) (p2 : Int32) (p3 : Int32) (p4 : Int32) (p5 : Int32) (p6 : Int32) (M : fM), K6 p0 p1 p2 p3 p4 p5 p6 M → FW g mtX11_best (d + 1) 6 [(0, .ref p0), (1, .int p1), (2, .int p2), (3, .int p3), (4, .int p4), (5, .int p5), (6, .int p6)] [] M 0 0 (rI φ)) {p0 : Nat} {p1 : Int32} {p2 : Int32} {p3 : Int32} {p4 : Int32} {p5 : Int32} {p6 : Int32} {M : fM} (h : b_X11_best_6 K6 φ p0 p1 p2 p3 p4 p5 p6 M) : FW g mtX11_best (d + 1) 6 [(0, .ref p0), (1, .int p1), (2, .int p2), (3, .int p3), (4, .int p4), (5, .int p5), (6, .int p6)] [] M 0 0 (rI φ) := by
  unfold b_X11_best_6 at h
  refine fw_iload (i := 6) 6 rfl (show decode _ _ = .ok (.iload 6, 2) by decide +kernel) ?_
  refine fw_bipush (v := (31 : Int32)) (show decode _ _ = .ok (.bipush 31, 2) by decide +kernel) (by decide) ?_
  refine fw_icmp_ge 70 (show decode _ _ = .ok (.if_icmp .ge 60, 3) by decide +kernel) (by decide) (fun hc25 => ?_) (fun hc25 => ?_)
  · have h_1 := ipos hc25 h
    refine fw_iload (i := 5) 5 rfl (show decode _ _ = .ok (.iload 5, 2) by decide +kernel) ?_
    exact fw_ret (v := some (.int p5)) .ireturn (show decode _ _ = .ok (.ireturn, 1) by decide +kernel) ⟨rfl, Or.inl rfl⟩ ⟨_, rfl, h_1⟩
  · have h_2 := ineg hc25 h
    refine fw_aload_n (i := 0) 0 rfl (show decode _ _ = .ok (.aload_n 0, 1) by decide +kernel) ?_
    refine fw_iload_n (i := 1) 1 rfl (show decode _ _ = .ok (.iload_n 1, 1) by decide +kernel) ?_
    refine fw_iload_n (i := 2) 2 rfl (show decode _ _ = .ok (.iload_n 2, 1) by decide +kernel) ?_
    refine fw_iload_n (i := 3) 3 rfl (show decode _ _ = .ok (.iload_n 3, 1) by decide +kernel) ?_
    refine fw_iload (i := 6) 6 rfl (show decode _ _ = .ok (.iload 6, 2) by decide +kernel) ?_
    refine fw_iload (i := 4) 4 rfl (show decode _ _ = .ok (.iload 4, 2) by decide +kernel) ?_
    obtain ⟨⟨hr16, n15, hs17⟩, h_3⟩ := h_2
    refine fw_callV (mt' := mtX11_reckon) (mc := 0) (ms := 0) (As := [.int p1, .int p2, .int p3, .int p6, .int p4]) (rest := []) 5 11 n15 (show decode _ _ = .ok (.invokevirtual 441, 3) by decide +kernel) cv_X11_441 ⟨_, rfl, rfl⟩ hr16 hs17 rfl (Nat.le_of_ble_eq_true rfl) (s_X11_reckon (d := d) (hd_le hd (by decide)) h_3) (by decide) (by decide) (kV (bc' := 0) (bs' := 0) (by decide) (by decide) (fun M14 h_4 => ?_))
    refine fw_iload (i := 5) 5 rfl (show decode _ _ = .ok (.iload 5, 2) by decide +kernel) ?_
    refine fw_if_lt 44 (show decode _ _ = .ok (.ifCond .lt 18, 3) by decide +kernel) (by decide) (fun hc24 => ?_) (fun hc24 => ?_)
    · have h_5 := ipos hc24 h_4
      refine FW.sub [0, 1, 2, 3, 4, 6] (ls' := [(0, .ref p0), (1, .int p1), (2, .int p2), (3, .int p3), (4, .int p4), (6, .int p6)]) rfl ?_
      exact sj_X11_best_44 hd hK6 h_5
    · have h_6 := ineg hc24 h_4
      refine fw_aload_n (i := 0) 0 rfl (show decode _ _ = .ok (.aload_n 0, 1) by decide +kernel) ?_
      obtain ⟨⟨hr19, n18, hs20⟩, h_7⟩ := h_6
      refine fw_getJ (kd := 11) (k := 25) (show decode _ _ = .ok (.getfield 422, 3) by decide +kernel) gf_X11_422 hr19 hs20 rfl ?_
      refine fw_aload_n (i := 0) 0 rfl (show decode _ _ = .ok (.aload_n 0, 1) by decide +kernel) ?_
      refine fw_getJ (kd := 11) (k := 28) (show decode _ _ = .ok (.getfield 444, 3) by decide +kernel) gf_X11_444 hr19 hs20 rfl ?_
      refine fw_lcmp (show decode _ _ = .ok (.lcmp, 1) by decide +kernel) ?_
      refine fw_if_lt 44 (show decode _ _ = .ok (.ifCond .lt 6, 3) by decide +kernel) (by decide) (fun hc23 => ?_) (fun hc23 => ?_)
      · have h_8 := ipos hc23 h_7
        refine FW.sub [0, 1, 2, 3, 4, 6] (ls' := [(0, .ref p0), (1, .int p1), (2, .int p2), (3, .int p3), (4, .int p4), (6, .int p6)]) rfl ?_
        exact sj_X11_best_44 hd hK6 h_8
      · have h_9 := ineg hc23 h_7
        refine fw_goto 64 (show decode _ _ = .ok (.goto 23, 3) by decide +kernel) (by decide) ?_
        obtain ⟨x21, ex22⟩ : ∃ y : Int32, y = p6 + (1 : Int32) := ⟨_, rfl⟩
        have h_10 := h_9 x21 ex22
        refine fw_iinc (i := 6) (x := p6) (v := x21) (ls' := [(6, .int x21), (0, .ref p0), (1, .int p1), (2, .int p2), (3, .int p3), (4, .int p4), (5, .int p5)]) 6 rfl (show decode _ _ = .ok (.iinc 6 1, 3) by decide +kernel) (by rw [ex22]; rfl) (by decide) rfl ?_
        refine fw_goto 6 (show decode _ _ = .ok (.goto (-61), 3) by decide +kernel) (by decide) ?_
        refine FW.sub [1, 2, 3, 4, 5, 6, 0] (ls' := [(0, .ref p0), (1, .int p1), (2, .int p2), (3, .int p3), (4, .int p4), (5, .int p5), (6, .int x21)]) rfl ?_
        exact hK6 _ _ _ _ _ _ _ _ h_10
theorem sl_X11_best_6 {g : GT} {d : Nat} (hd : 8 ≤ d + 1) {φ : Int32 → fM → Prop} : ∀ (n : Nat) {p0 : Nat} {p1 : Int32} {p2 : Int32} {p3 : Int32} {p4 : Int32} {p5 : Int32} {p6 : Int32} {M : fM}, l_X11_best_6 φ n p0 p1 p2 p3 p4 p5 p6 M → FW g mtX11_best (d + 1) 6 [(0, .ref p0), (1, .int p1), (2, .int p2), (3, .int p3), (4, .int p4), (5, .int p5), (6, .int p6)] [] M 0 0 (rI φ)
  | 0 => fun h => h.elim
  | n + 1 => fun h => sb_X11_best_6 hd (fun _ _ _ _ _ _ _ _ h => sl_X11_best_6 hd n h) h
def w_X11_best (p0 : Nat) (p1 : Int32) (p2 : Int32) (p3 : Int32) (p4 : Int32) (M : fM) (φ : Int32 → fM → Prop) : Prop := ∃ n, l_X11_best_6 φ n p0 p1 p2 p3 p4 (-1 : Int32) (0 : Int32) M
set_option maxRecDepth 100000 in
theorem s_X11_best {g : GT} {d : Nat} (hd : 8 ≤ d) {p0 : Nat} {p1 : Int32} {p2 : Int32} {p3 : Int32} {p4 : Int32} {M : fM} {φ : Int32 → fM → Prop} (h : w_X11_best p0 p1 p2 p3 p4 M φ) : FC g mtX11_best d [.ref p0, .int p1, .int p2, .int p3, .int p4] M 0 0 (rI φ) := by
  obtain ⟨d, rfl⟩ : ∃ e, d = e + 1 := ⟨d - 1, by omega⟩
  unfold w_X11_best at h
  refine FC.intro (nL := 7) (by decide) rfl (Nat.le_of_ble_eq_true rfl) ?_
  show FW g mtX11_best (d + 1) 0 [(0, .ref p0), (1, .int p1), (2, .int p2), (3, .int p3), (4, .int p4)] [] M 0 0 (rI φ)
  refine fw_iconst (v := (-1 : Int32)) (show decode _ _ = .ok (.iconst (-1), 1) by decide +kernel) (by decide) ?_
  refine fw_istore (i := 5) (ls' := [(5, .int (-1 : Int32)), (0, .ref p0), (1, .int p1), (2, .int p2), (3, .int p3), (4, .int p4)]) (show decode _ _ = .ok (.istore 5, 2) by decide +kernel) (by decide) rfl ?_
  refine fw_iconst (v := (0 : Int32)) (show decode _ _ = .ok (.iconst 0, 1) by decide +kernel) (by decide) ?_
  refine fw_istore (i := 6) (ls' := [(6, .int (0 : Int32)), (5, .int (-1 : Int32)), (0, .ref p0), (1, .int p1), (2, .int p2), (3, .int p3), (4, .int p4)]) (show decode _ _ = .ok (.istore 6, 2) by decide +kernel) (by decide) rfl ?_
  refine FW.sub [2, 3, 4, 5, 6, 1, 0] (ls' := [(0, .ref p0), (1, .int p1), (2, .int p2), (3, .int p3), (4, .int p4), (5, .int (-1 : Int32)), (6, .int (0 : Int32))]) rfl ?_
  obtain ⟨nn, h_1⟩ := h
  exact sl_X11_best_6 hd nn h_1
def j_X11_parsed_67 (φ : Int32 → fM → Prop) (p0 : Nat) (M : fM) : Prop := isO M p0 11 ∧ w_X11_settle p0 (1 : Int32) M fun M1 => φ (0 : Int32) M1
set_option maxRecDepth 100000 in
theorem sj_X11_parsed_67 {g : GT} {d : Nat} (hd : 6 ≤ d + 1) {φ : Int32 → fM → Prop} {p0 : Nat} {M : fM} (h : j_X11_parsed_67 φ p0 M) : FW g mtX11_parsed (d + 1) 67 [(0, .ref p0)] [] M 0 0 (rI φ) := by
  unfold j_X11_parsed_67 at h
  refine fw_aload_n (i := 0) 0 rfl (show decode _ _ = .ok (.aload_n 0, 1) by decide +kernel) ?_
  refine fw_iconst (v := (1 : Int32)) (show decode _ _ = .ok (.iconst 1, 1) by decide +kernel) (by decide) ?_
  obtain ⟨⟨hr3, n2, hs4⟩, h_1⟩ := h
  refine fw_callV (mt' := mtX11_settle) (mc := 0) (ms := 0) (As := [.int (1 : Int32)]) (rest := []) 1 11 n2 (show decode _ _ = .ok (.invokevirtual 165, 3) by decide +kernel) cv_X11_165 ⟨_, rfl, rfl⟩ hr3 hs4 rfl (Nat.le_of_ble_eq_true rfl) (s_X11_settle (d := d) (hd_le hd (by decide)) h_1) (by decide) (by decide) (kV (bc' := 0) (bs' := 0) (by decide) (by decide) (fun M1 h_2 => ?_))
  refine fw_iconst (v := (0 : Int32)) (show decode _ _ = .ok (.iconst 0, 1) by decide +kernel) (by decide) ?_
  exact fw_ret (v := some (.int (0 : Int32))) .ireturn (show decode _ _ = .ok (.ireturn, 1) by decide +kernel) ⟨rfl, Or.inl rfl⟩ ⟨_, rfl, h_2⟩
def b_X11_parsed_12 (K12 : Nat → Int32 → Int32 → fM → Prop) (φ : Int32 → fM → Prop) (p0 : Nat) (p1 : Int32) (p2 : Int32) (M : fM) : Prop := iF (p2 = 0) (isO M p0 11 ∧ w_X11_marker p0 M fun x9 M5 => iF (0 ≤ x9) (φ (1 : Int32) M5) (iF (p1 = 0) (j_X11_parsed_67 φ p0 M5) (isO M5 p0 11 ∧ w_X11_isCompared p0 M5 fun x14 M10 => iF (x14 = 0) (φ (1 : Int32) M10) (j_X11_parsed_67 φ p0 M10)))) (isO M p0 11 ∧ iF ((mI M p0 19) = 0) (w_X11_beginOne p0 p1 M fun x22 M21 => iF (x22 = 0) (K12 p0 p1 p2 M21) (φ x22 M21)) (w_X11_behindOne p0 p1 M fun x25 M24 => K12 p0 p1 x25 M24))
def l_X11_parsed_12 (φ : Int32 → fM → Prop) : Nat → Nat → Int32 → Int32 → fM → Prop
  | 0, _, _, _, _ => False
  | n + 1, p0, p1, p2, M => b_X11_parsed_12 (l_X11_parsed_12 φ n) φ p0 p1 p2 M
set_option maxRecDepth 100000 in
theorem sb_X11_parsed_12 {g : GT} {d : Nat} (hd : 6 ≤ d + 1) {K12 : Nat → Int32 → Int32 → fM → Prop} {φ : Int32 → fM → Prop} (hK12 : ∀ (p0 : Nat) (p1 : Int32) (p2 : Int32) (M : fM), K12 p0 p1 p2 M → FW g mtX11_parsed (d + 1) 12 [(0, .ref p0), (1, .int p1), (2, .int p2)] [] M 0 0 (rI φ)) {p0 : Nat} {p1 : Int32} {p2 : Int32} {M : fM} (h : b_X11_parsed_12 K12 φ p0 p1 p2 M) : FW g mtX11_parsed (d + 1) 12 [(0, .ref p0), (1, .int p1), (2, .int p2)] [] M 0 0 (rI φ) := by
  unfold b_X11_parsed_12 at h
  refine fw_iload_n (i := 2) 2 rfl (show decode _ _ = .ok (.iload_n 2, 1) by decide +kernel) ?_
  refine fw_if_eq 47 (show decode _ _ = .ok (.ifCond .eq 34, 3) by decide +kernel) (by decide) (fun hc27 => ?_) (fun hc27 => ?_)
  · have h_1 := ipos hc27 h
    refine fw_aload_n (i := 0) 0 rfl (show decode _ _ = .ok (.aload_n 0, 1) by decide +kernel) ?_
    obtain ⟨⟨hr7, n6, hs8⟩, h_2⟩ := h_1
    refine fw_callV (mt' := mtX11_marker) (mc := 0) (ms := 0) (As := []) (rest := []) 0 11 n6 (show decode _ _ = .ok (.invokevirtual 168, 3) by decide +kernel) cv_X11_168 ⟨_, rfl, rfl⟩ hr7 hs8 rfl (Nat.le_of_ble_eq_true rfl) (s_X11_marker (d := d) (hd_le hd (by decide)) h_2) (by decide) (by decide) (kI (bc' := 0) (bs' := 0) (by decide) (by decide) (fun x9 M5 h_3 => ?_))
    refine fw_if_ge 65 (show decode _ _ = .ok (.ifCond .ge 14, 3) by decide +kernel) (by decide) (fun hc17 => ?_) (fun hc17 => ?_)
    · have h_4 := ipos hc17 h_3
      refine fw_iconst (v := (1 : Int32)) (show decode _ _ = .ok (.iconst 1, 1) by decide +kernel) (by decide) ?_
      exact fw_ret (v := some (.int (1 : Int32))) .ireturn (show decode _ _ = .ok (.ireturn, 1) by decide +kernel) ⟨rfl, Or.inl rfl⟩ ⟨_, rfl, h_4⟩
    · have h_5 := ineg hc17 h_3
      refine fw_iload_n (i := 1) 1 rfl (show decode _ _ = .ok (.iload_n 1, 1) by decide +kernel) ?_
      refine fw_if_eq 67 (show decode _ _ = .ok (.ifCond .eq 12, 3) by decide +kernel) (by decide) (fun hc16 => ?_) (fun hc16 => ?_)
      · have h_6 := ipos hc16 h_5
        refine FW.sub [0] (ls' := [(0, .ref p0)]) rfl ?_
        exact sj_X11_parsed_67 hd h_6
      · have h_7 := ineg hc16 h_5
        refine fw_aload_n (i := 0) 0 rfl (show decode _ _ = .ok (.aload_n 0, 1) by decide +kernel) ?_
        obtain ⟨⟨hr12, n11, hs13⟩, h_8⟩ := h_7
        refine fw_callV (mt' := mtX11_isCompared) (mc := 0) (ms := 0) (As := []) (rest := []) 0 11 n11 (show decode _ _ = .ok (.invokevirtual 204, 3) by decide +kernel) cv_X11_204 ⟨_, rfl, rfl⟩ hr12 hs13 rfl (Nat.le_of_ble_eq_true rfl) (s_X11_isCompared (d := d) (hd_le hd (by decide)) h_8) (by decide) (by decide) (kI (bc' := 0) (bs' := 0) (by decide) (by decide) (fun x14 M10 h_9 => ?_))
        refine fw_if_ne 67 (show decode _ _ = .ok (.ifCond .ne 5, 3) by decide +kernel) (by decide) (fun hc15 => ?_) (fun hc15 => ?_)
        · have h_10 := ineg hc15 h_9
          refine FW.sub [0] (ls' := [(0, .ref p0)]) rfl ?_
          exact sj_X11_parsed_67 hd h_10
        · have h_11 := ipos hc15 h_9
          refine fw_iconst (v := (1 : Int32)) (show decode _ _ = .ok (.iconst 1, 1) by decide +kernel) (by decide) ?_
          exact fw_ret (v := some (.int (1 : Int32))) .ireturn (show decode _ _ = .ok (.ireturn, 1) by decide +kernel) ⟨rfl, Or.inl rfl⟩ ⟨_, rfl, h_11⟩
  · have h_12 := ineg hc27 h
    refine fw_aload_n (i := 0) 0 rfl (show decode _ _ = .ok (.aload_n 0, 1) by decide +kernel) ?_
    obtain ⟨⟨hr19, n18, hs20⟩, h_13⟩ := h_12
    refine fw_getI (kd := 11) (k := 19) (show decode _ _ = .ok (.getfield 161, 3) by decide +kernel) gf_X11_161 hr19 hs20 (Or.inr rfl) ?_
    refine fw_if_eq 32 (show decode _ _ = .ok (.ifCond .eq 12, 3) by decide +kernel) (by decide) (fun hc26 => ?_) (fun hc26 => ?_)
    · have h_14 := ipos hc26 h_13
      refine fw_aload_n (i := 0) 0 rfl (show decode _ _ = .ok (.aload_n 0, 1) by decide +kernel) ?_
      refine fw_iload_n (i := 1) 1 rfl (show decode _ _ = .ok (.iload_n 1, 1) by decide +kernel) ?_
      refine fw_callV (mt' := mtX11_beginOne) (mc := 0) (ms := 0) (As := [.int p1]) (rest := []) 1 11 n18 (show decode _ _ = .ok (.invokevirtual 219, 3) by decide +kernel) cv_X11_219 ⟨_, rfl, rfl⟩ hr19 hs20 rfl (Nat.le_of_ble_eq_true rfl) (s_X11_beginOne (d := d) (hd_le hd (by decide)) h_14) (by decide) (by decide) (kI (bc' := 0) (bs' := 0) (by decide) (by decide) (fun x22 M21 h_15 => ?_))
      refine fw_istore_n (i := 3) (ls' := [(3, .int x22), (0, .ref p0), (1, .int p1), (2, .int p2)]) (show decode _ _ = .ok (.istore_n 3, 1) by decide +kernel) (by decide) rfl ?_
      refine fw_iload_n (i := 3) 0 rfl (show decode _ _ = .ok (.iload_n 3, 1) by decide +kernel) ?_
      refine fw_if_eq 44 (show decode _ _ = .ok (.ifCond .eq 5, 3) by decide +kernel) (by decide) (fun hc23 => ?_) (fun hc23 => ?_)
      · have h_16 := ipos hc23 h_15
        refine fw_goto 12 (show decode _ _ = .ok (.goto (-32), 3) by decide +kernel) (by decide) ?_
        refine FW.sub [1, 2, 3] (ls' := [(0, .ref p0), (1, .int p1), (2, .int p2)]) rfl ?_
        exact hK12 _ _ _ _ h_16
      · have h_17 := ineg hc23 h_15
        refine fw_iload_n (i := 3) 0 rfl (show decode _ _ = .ok (.iload_n 3, 1) by decide +kernel) ?_
        exact fw_ret (v := some (.int x22)) .ireturn (show decode _ _ = .ok (.ireturn, 1) by decide +kernel) ⟨rfl, Or.inl rfl⟩ ⟨_, rfl, h_17⟩
    · have h_18 := ineg hc26 h_13
      refine fw_aload_n (i := 0) 0 rfl (show decode _ _ = .ok (.aload_n 0, 1) by decide +kernel) ?_
      refine fw_iload_n (i := 1) 1 rfl (show decode _ _ = .ok (.iload_n 1, 1) by decide +kernel) ?_
      refine fw_callV (mt' := mtX11_behindOne) (mc := 0) (ms := 0) (As := [.int p1]) (rest := []) 1 11 n18 (show decode _ _ = .ok (.invokevirtual 216, 3) by decide +kernel) cv_X11_216 ⟨_, rfl, rfl⟩ hr19 hs20 rfl (Nat.le_of_ble_eq_true rfl) (s_X11_behindOne (d := d) (hd_le hd (by decide)) h_18) (by decide) (by decide) (kI (bc' := 0) (bs' := 0) (by decide) (by decide) (fun x25 M24 h_19 => ?_))
      refine fw_istore_n (i := 2) (ls' := [(2, .int x25), (0, .ref p0), (1, .int p1)]) (show decode _ _ = .ok (.istore_n 2, 1) by decide +kernel) (by decide) rfl ?_
      refine fw_goto 12 (show decode _ _ = .ok (.goto (-17), 3) by decide +kernel) (by decide) ?_
      refine FW.sub [1, 2, 0] (ls' := [(0, .ref p0), (1, .int p1), (2, .int x25)]) rfl ?_
      exact hK12 _ _ _ _ h_19
theorem sl_X11_parsed_12 {g : GT} {d : Nat} (hd : 6 ≤ d + 1) {φ : Int32 → fM → Prop} : ∀ (n : Nat) {p0 : Nat} {p1 : Int32} {p2 : Int32} {M : fM}, l_X11_parsed_12 φ n p0 p1 p2 M → FW g mtX11_parsed (d + 1) 12 [(0, .ref p0), (1, .int p1), (2, .int p2)] [] M 0 0 (rI φ)
  | 0 => fun h => h.elim
  | n + 1 => fun h => sb_X11_parsed_12 hd (fun _ _ _ _ h => sl_X11_parsed_12 hd n h) h
def w_X11_parsed (p0 : Nat) (p1 : Int32) (M : fM) (φ : Int32 → fM → Prop) : Prop := isO M p0 11 ∧ st (wI M p0 17 (0 : Int32)) fun M31 => st (wI M31 p0 19 (0 : Int32)) fun M33 => ∃ n, l_X11_parsed_12 φ n p0 p1 (1 : Int32) M33
set_option maxRecDepth 100000 in
theorem s_X11_parsed {g : GT} {d : Nat} (hd : 6 ≤ d) {p0 : Nat} {p1 : Int32} {M : fM} {φ : Int32 → fM → Prop} (h : w_X11_parsed p0 p1 M φ) : FC g mtX11_parsed d [.ref p0, .int p1] M 0 0 (rI φ) := by
  obtain ⟨d, rfl⟩ : ∃ e, d = e + 1 := ⟨d - 1, by omega⟩
  unfold w_X11_parsed at h
  refine FC.intro (nL := 4) (by decide) rfl (Nat.le_of_ble_eq_true rfl) ?_
  show FW g mtX11_parsed (d + 1) 0 [(0, .ref p0), (1, .int p1)] [] M 0 0 (rI φ)
  refine fw_aload_n (i := 0) 0 rfl (show decode _ _ = .ok (.aload_n 0, 1) by decide +kernel) ?_
  refine fw_iconst (v := (0 : Int32)) (show decode _ _ = .ok (.iconst 0, 1) by decide +kernel) (by decide) ?_
  obtain ⟨⟨hr29, n28, hs30⟩, h_1⟩ := h
  refine fw_putI (kd := 11) (k := 17) (show decode _ _ = .ok (.putfield 138, 3) by decide +kernel) ⟨gf_X11_138, _, rfl, Or.inl rfl⟩ hr29 hs30 rfl ?_
  refine FW.nmM (fun M31 eM32 => ?_)
  have h_2 := h_1 M31 eM32
  refine fw_aload_n (i := 0) 0 rfl (show decode _ _ = .ok (.aload_n 0, 1) by decide +kernel) ?_
  refine fw_iconst (v := (0 : Int32)) (show decode _ _ = .ok (.iconst 0, 1) by decide +kernel) (by decide) ?_
  refine fw_putZ (kd := 11) (k := 19) (show decode _ _ = .ok (.putfield 161, 3) by decide +kernel) ⟨gf_X11_161, _, rfl, Or.inl rfl⟩ hr29 (mSw_I eM32 hs30) rfl rfl ?_
  refine FW.nmM (fun M33 eM34 => ?_)
  have h_3 := h_2 M33 eM34
  refine fw_iconst (v := (1 : Int32)) (show decode _ _ = .ok (.iconst 1, 1) by decide +kernel) (by decide) ?_
  refine fw_istore_n (i := 2) (ls' := [(2, .int (1 : Int32)), (0, .ref p0), (1, .int p1)]) (show decode _ _ = .ok (.istore_n 2, 1) by decide +kernel) (by decide) rfl ?_
  refine FW.sub [1, 2, 0] (ls' := [(0, .ref p0), (1, .int p1), (2, .int (1 : Int32))]) rfl ?_
  obtain ⟨nn, h_4⟩ := h_3
  exact sl_X11_parsed_12 hd nn h_4
def j_X11_lawClause_23 (φ : Int32 → fM → Prop) (p0 : Nat) (p2 : Int32) (s0 : Int32) (s1 : Nat) (M : fM) : Prop := isO M s1 11 ∧ w_X11_parsed s1 s0 M fun x5 M1 => isO M1 p0 11 ∧ dR (mP M1 p0 2) fun y9 => nm (mI M1 p0 14) fun x11 => 6 ≤ y9 ∧ inA M1 y9 12 (p2 + (3 : Int32)) ∧ st (wI M1 y9 (ix (p2 + (3 : Int32))) x11) fun M17 => φ x5 M17
set_option maxRecDepth 100000 in
theorem sj_X11_lawClause_23 {g : GT} {d : Nat} (hd : 7 ≤ d + 1) {φ : Int32 → fM → Prop} {p0 : Nat} {p2 : Int32} {s0 : Int32} {s1 : Nat} {M : fM} (h : j_X11_lawClause_23 φ p0 p2 s0 s1 M) : FW g mtX11_lawClause (d + 1) 23 [(0, .ref p0), (2, .int p2)] [.int s0, .ref s1] M 0 0 (rI φ) := by
  unfold j_X11_lawClause_23 at h
  obtain ⟨⟨hr3, n2, hs4⟩, h_1⟩ := h
  refine fw_callV (mt' := mtX11_parsed) (mc := 0) (ms := 0) (As := [.int s0]) (rest := []) 1 11 n2 (show decode _ _ = .ok (.invokevirtual 232, 3) by decide +kernel) cv_X11_232 ⟨_, rfl, rfl⟩ hr3 hs4 rfl (Nat.le_of_ble_eq_true rfl) (s_X11_parsed (d := d) (hd_le hd (by decide)) h_1) (by decide) (by decide) (kI (bc' := 0) (bs' := 0) (by decide) (by decide) (fun x5 M1 h_2 => ?_))
  refine fw_istore_n (i := 3) (ls' := [(3, .int x5), (0, .ref p0), (2, .int p2)]) (show decode _ _ = .ok (.istore_n 3, 1) by decide +kernel) (by decide) rfl ?_
  refine fw_aload_n (i := 0) 1 rfl (show decode _ _ = .ok (.aload_n 0, 1) by decide +kernel) ?_
  obtain ⟨⟨hr7, n6, hs8⟩, h_3⟩ := h_2
  refine fw_getP (kd := 11) (k := 2) (show decode _ _ = .ok (.getfield 16, 3) by decide +kernel) gf_X11_16 hr7 hs8 rfl ?_
  have h_4 := dR_e h_3
  obtain ⟨y9, hy10, h_5⟩ := h_4
  refine fw_deref hy10 ?_
  refine fw_iload_n (i := 2) 2 rfl (show decode _ _ = .ok (.iload_n 2, 1) by decide +kernel) ?_
  refine fw_iconst (v := (3 : Int32)) (show decode _ _ = .ok (.iconst 3, 1) by decide +kernel) (by decide) ?_
  refine fw_iadd (show decode _ _ = .ok (.iadd, 1) by decide +kernel) ?_
  refine fw_aload_n (i := 0) 1 rfl (show decode _ _ = .ok (.aload_n 0, 1) by decide +kernel) ?_
  refine fw_getI (kd := 11) (k := 14) (show decode _ _ = .ok (.getfield 135, 3) by decide +kernel) gf_X11_135 hr7 hs8 (Or.inl rfl) ?_
  refine fw_nmI (fun x11 ex12 => ?_)
  have h_6 := h_5 x11 ex12
  obtain ⟨hr16, ⟨n13, hs14, hi15⟩, h_7⟩ := h_6
  refine fw_iast (show decode _ _ = .ok (.iastore, 1) by decide +kernel) hr16 hs14 hi15 ?_
  refine FW.nmM (fun M17 eM18 => ?_)
  have h_8 := h_7 M17 eM18
  refine fw_iload_n (i := 3) 0 rfl (show decode _ _ = .ok (.iload_n 3, 1) by decide +kernel) ?_
  exact fw_ret (v := some (.int x5)) .ireturn (show decode _ _ = .ok (.ireturn, 1) by decide +kernel) ⟨rfl, Or.inl rfl⟩ ⟨_, rfl, h_8⟩
def w_X11_lawClause (p0 : Nat) (p1 : Int32) (p2 : Int32) (M : fM) (φ : Int32 → fM → Prop) : Prop := isO M p0 11 ∧ dR (mP M p0 2) fun y22 => nm (mI M p0 14) fun x24 => 6 ≤ y22 ∧ inA M y22 12 (p2 + (2 : Int32)) ∧ st (wI M y22 (ix (p2 + (2 : Int32))) x24) fun M30 => iF (p1 = (2 : Int32)) (j_X11_lawClause_23 φ p0 p2 (1 : Int32) p0 M30) (j_X11_lawClause_23 φ p0 p2 (0 : Int32) p0 M30)
set_option maxRecDepth 100000 in
theorem s_X11_lawClause {g : GT} {d : Nat} (hd : 7 ≤ d) {p0 : Nat} {p1 : Int32} {p2 : Int32} {M : fM} {φ : Int32 → fM → Prop} (h : w_X11_lawClause p0 p1 p2 M φ) : FC g mtX11_lawClause d [.ref p0, .int p1, .int p2] M 0 0 (rI φ) := by
  obtain ⟨d, rfl⟩ : ∃ e, d = e + 1 := ⟨d - 1, by omega⟩
  unfold w_X11_lawClause at h
  refine FC.intro (nL := 4) (by decide) rfl (Nat.le_of_ble_eq_true rfl) ?_
  show FW g mtX11_lawClause (d + 1) 0 [(0, .ref p0), (1, .int p1), (2, .int p2)] [] M 0 0 (rI φ)
  refine fw_aload_n (i := 0) 0 rfl (show decode _ _ = .ok (.aload_n 0, 1) by decide +kernel) ?_
  obtain ⟨⟨hr20, n19, hs21⟩, h_1⟩ := h
  refine fw_getP (kd := 11) (k := 2) (show decode _ _ = .ok (.getfield 16, 3) by decide +kernel) gf_X11_16 hr20 hs21 rfl ?_
  have h_2 := dR_e h_1
  obtain ⟨y22, hy23, h_3⟩ := h_2
  refine fw_deref hy23 ?_
  refine fw_iload_n (i := 2) 2 rfl (show decode _ _ = .ok (.iload_n 2, 1) by decide +kernel) ?_
  refine fw_iconst (v := (2 : Int32)) (show decode _ _ = .ok (.iconst 2, 1) by decide +kernel) (by decide) ?_
  refine fw_iadd (show decode _ _ = .ok (.iadd, 1) by decide +kernel) ?_
  refine fw_aload_n (i := 0) 0 rfl (show decode _ _ = .ok (.aload_n 0, 1) by decide +kernel) ?_
  refine fw_getI (kd := 11) (k := 14) (show decode _ _ = .ok (.getfield 135, 3) by decide +kernel) gf_X11_135 hr20 hs21 (Or.inl rfl) ?_
  refine fw_nmI (fun x24 ex25 => ?_)
  have h_4 := h_3 x24 ex25
  obtain ⟨hr29, ⟨n26, hs27, hi28⟩, h_5⟩ := h_4
  refine fw_iast (show decode _ _ = .ok (.iastore, 1) by decide +kernel) hr29 hs27 hi28 ?_
  refine FW.nmM (fun M30 eM31 => ?_)
  have h_6 := h_5 M30 eM31
  refine fw_aload_n (i := 0) 0 rfl (show decode _ _ = .ok (.aload_n 0, 1) by decide +kernel) ?_
  refine fw_iload_n (i := 1) 1 rfl (show decode _ _ = .ok (.iload_n 1, 1) by decide +kernel) ?_
  refine fw_iconst (v := (2 : Int32)) (show decode _ _ = .ok (.iconst 2, 1) by decide +kernel) (by decide) ?_
  refine fw_icmp_ne 22 (show decode _ _ = .ok (.if_icmp .ne 7, 3) by decide +kernel) (by decide) (fun hc32 => ?_) (fun hc32 => ?_)
  · have h_7 := ineg hc32 h_6
    refine fw_iconst (v := (0 : Int32)) (show decode _ _ = .ok (.iconst 0, 1) by decide +kernel) (by decide) ?_
    refine FW.sub [0, 2] (ls' := [(0, .ref p0), (2, .int p2)]) rfl ?_
    exact sj_X11_lawClause_23 hd h_7
  · have h_8 := ipos hc32 h_6
    refine fw_iconst (v := (1 : Int32)) (show decode _ _ = .ok (.iconst 1, 1) by decide +kernel) (by decide) ?_
    refine fw_goto 23 (show decode _ _ = .ok (.goto 4, 3) by decide +kernel) (by decide) ?_
    refine FW.sub [0, 2] (ls' := [(0, .ref p0), (2, .int p2)]) rfl ?_
    exact sj_X11_lawClause_23 hd h_8
def w_X11_figure (p0 : Nat) (p1 : Int32) (p2 : Int32) (p3 : Int32) (M : fM) (φ : Int32 → fM → Prop) : Prop := isO M p0 11 ∧ iF ((mI M p0 9) = (1 : Int32)) (w_X11_isIn (mI M p0 10) p2 p3 M fun x5 M4 => iF (x5 = 0) (φ (2 : Int32) M4) (isO M4 p0 11 ∧ dR (mP M4 p0 2) fun y9 => nm (mI M4 p0 10) fun x11 => 6 ≤ y9 ∧ inA M4 y9 12 p1 ∧ st (wI M4 y9 (ix p1) x11) fun M17 => w_X11_nextToken p0 M17 fun M19 => φ (0 : Int32) M19)) (φ (1 : Int32) M)
set_option maxRecDepth 100000 in
theorem s_X11_figure {g : GT} {d : Nat} (hd : 4 ≤ d) {p0 : Nat} {p1 : Int32} {p2 : Int32} {p3 : Int32} {M : fM} {φ : Int32 → fM → Prop} (h : w_X11_figure p0 p1 p2 p3 M φ) : FC g mtX11_figure d [.ref p0, .int p1, .int p2, .int p3] M 0 0 (rI φ) := by
  obtain ⟨d, rfl⟩ : ∃ e, d = e + 1 := ⟨d - 1, by omega⟩
  unfold w_X11_figure at h
  refine FC.intro (nL := 4) (by decide) rfl (Nat.le_of_ble_eq_true rfl) ?_
  show FW g mtX11_figure (d + 1) 0 [(0, .ref p0), (1, .int p1), (2, .int p2), (3, .int p3)] [] M 0 0 (rI φ)
  refine fw_aload_n (i := 0) 0 rfl (show decode _ _ = .ok (.aload_n 0, 1) by decide +kernel) ?_
  obtain ⟨⟨hr2, n1, hs3⟩, h_1⟩ := h
  refine fw_getI (kd := 11) (k := 9) (show decode _ _ = .ok (.getfield 107, 3) by decide +kernel) gf_X11_107 hr2 hs3 (Or.inl rfl) ?_
  refine fw_iconst (v := (1 : Int32)) (show decode _ _ = .ok (.iconst 1, 1) by decide +kernel) (by decide) ?_
  refine fw_icmp_eq 10 (show decode _ _ = .ok (.if_icmp .eq 5, 3) by decide +kernel) (by decide) (fun hc21 => ?_) (fun hc21 => ?_)
  · have h_2 := ipos hc21 h_1
    refine fw_aload_n (i := 0) 0 rfl (show decode _ _ = .ok (.aload_n 0, 1) by decide +kernel) ?_
    refine fw_getI (kd := 11) (k := 10) (show decode _ _ = .ok (.getfield 113, 3) by decide +kernel) gf_X11_113 hr2 hs3 (Or.inl rfl) ?_
    refine fw_iload_n (i := 2) 2 rfl (show decode _ _ = .ok (.iload_n 2, 1) by decide +kernel) ?_
    refine fw_iload_n (i := 3) 3 rfl (show decode _ _ = .ok (.iload_n 3, 1) by decide +kernel) ?_
    refine fw_callS (mt' := mtX11_isIn) (mc := 0) (ms := 0) (As := [.int (mI M p0 10), .int p2, .int p3]) (rest := []) 3 (show decode _ _ = .ok (.invokestatic 66, 3) by decide +kernel) cs_X11_66 rfl (Nat.le_of_ble_eq_true rfl) (s_X11_isIn (d := d) (hd_le hd (by decide)) h_2) (by decide) (by decide) (kI (bc' := 0) (bs' := 0) (by decide) (by decide) (fun x5 M4 h_3 => ?_))
    refine fw_if_ne 24 (show decode _ _ = .ok (.ifCond .ne 5, 3) by decide +kernel) (by decide) (fun hc20 => ?_) (fun hc20 => ?_)
    · have h_4 := ineg hc20 h_3
      refine fw_aload_n (i := 0) 0 rfl (show decode _ _ = .ok (.aload_n 0, 1) by decide +kernel) ?_
      obtain ⟨⟨hr7, n6, hs8⟩, h_5⟩ := h_4
      refine fw_getP (kd := 11) (k := 2) (show decode _ _ = .ok (.getfield 16, 3) by decide +kernel) gf_X11_16 hr7 hs8 rfl ?_
      have h_6 := dR_e h_5
      obtain ⟨y9, hy10, h_7⟩ := h_6
      refine fw_deref hy10 ?_
      refine fw_iload_n (i := 1) 1 rfl (show decode _ _ = .ok (.iload_n 1, 1) by decide +kernel) ?_
      refine fw_aload_n (i := 0) 0 rfl (show decode _ _ = .ok (.aload_n 0, 1) by decide +kernel) ?_
      refine fw_getI (kd := 11) (k := 10) (show decode _ _ = .ok (.getfield 113, 3) by decide +kernel) gf_X11_113 hr7 hs8 (Or.inl rfl) ?_
      refine fw_nmI (fun x11 ex12 => ?_)
      have h_8 := h_7 x11 ex12
      obtain ⟨hr16, ⟨n13, hs14, hi15⟩, h_9⟩ := h_8
      refine fw_iast (show decode _ _ = .ok (.iastore, 1) by decide +kernel) hr16 hs14 hi15 ?_
      refine FW.nmM (fun M17 eM18 => ?_)
      have h_10 := h_9 M17 eM18
      refine fw_aload_n (i := 0) 0 rfl (show decode _ _ = .ok (.aload_n 0, 1) by decide +kernel) ?_
      refine fw_callV (mt' := mtX11_nextToken) (mc := 0) (ms := 0) (As := []) (rest := []) 0 11 n6 (show decode _ _ = .ok (.invokevirtual 179, 3) by decide +kernel) cv_X11_179 ⟨_, rfl, rfl⟩ hr7 (mSw_I eM18 hs8) rfl (Nat.le_of_ble_eq_true rfl) (s_X11_nextToken (d := d) (hd_le hd (by decide)) h_10) (by decide) (by decide) (kV (bc' := 0) (bs' := 0) (by decide) (by decide) (fun M19 h_11 => ?_))
      refine fw_iconst (v := (0 : Int32)) (show decode _ _ = .ok (.iconst 0, 1) by decide +kernel) (by decide) ?_
      exact fw_ret (v := some (.int (0 : Int32))) .ireturn (show decode _ _ = .ok (.ireturn, 1) by decide +kernel) ⟨rfl, Or.inl rfl⟩ ⟨_, rfl, h_11⟩
    · have h_12 := ipos hc20 h_3
      refine fw_iconst (v := (2 : Int32)) (show decode _ _ = .ok (.iconst 2, 1) by decide +kernel) (by decide) ?_
      exact fw_ret (v := some (.int (2 : Int32))) .ireturn (show decode _ _ = .ok (.ireturn, 1) by decide +kernel) ⟨rfl, Or.inl rfl⟩ ⟨_, rfl, h_12⟩
  · have h_13 := ineg hc21 h_1
    refine fw_iconst (v := (1 : Int32)) (show decode _ _ = .ok (.iconst 1, 1) by decide +kernel) (by decide) ?_
    exact fw_ret (v := some (.int (1 : Int32))) .ireturn (show decode _ _ = .ok (.ireturn, 1) by decide +kernel) ⟨rfl, Or.inl rfl⟩ ⟨_, rfl, h_13⟩
def w_X11_worded (p0 : Nat) (p1 : Int64) (p3 : Int32) (p4 : Int32) (p5 : Int32) (M : fM) (φ : Int32 → fM → Prop) : Prop := isO M p0 11 ∧ w_X11_isWord p0 p1 M fun x5 M1 => iF (x5 = 0) (φ (1 : Int32) M1) (isO M1 p0 11 ∧ w_X11_nextToken p0 M1 fun M6 => isO M6 p0 11 ∧ w_X11_figure p0 p3 p4 p5 M6 fun x14 M10 => φ x14 M10)
set_option maxRecDepth 100000 in
theorem s_X11_worded {g : GT} {d : Nat} (hd : 5 ≤ d) {p0 : Nat} {p1 : Int64} {p3 : Int32} {p4 : Int32} {p5 : Int32} {M : fM} {φ : Int32 → fM → Prop} (h : w_X11_worded p0 p1 p3 p4 p5 M φ) : FC g mtX11_worded d [.ref p0, .long p1, .int p3, .int p4, .int p5] M 0 0 (rI φ) := by
  obtain ⟨d, rfl⟩ : ∃ e, d = e + 1 := ⟨d - 1, by omega⟩
  unfold w_X11_worded at h
  refine FC.intro (nL := 6) (by decide) rfl (Nat.le_of_ble_eq_true rfl) ?_
  show FW g mtX11_worded (d + 1) 0 [(0, .ref p0), (1, .long p1), (3, .int p3), (4, .int p4), (5, .int p5)] [] M 0 0 (rI φ)
  refine fw_aload_n (i := 0) 0 rfl (show decode _ _ = .ok (.aload_n 0, 1) by decide +kernel) ?_
  refine fw_lload_n (i := 1) 1 rfl (show decode _ _ = .ok (.lload_n 1, 1) by decide +kernel) ?_
  obtain ⟨⟨hr3, n2, hs4⟩, h_1⟩ := h
  refine fw_callV (mt' := mtX11_isWord) (mc := 0) (ms := 0) (As := [.long p1]) (rest := []) 1 11 n2 (show decode _ _ = .ok (.invokevirtual 196, 3) by decide +kernel) cv_X11_196 ⟨_, rfl, rfl⟩ hr3 hs4 rfl (Nat.le_of_ble_eq_true rfl) (s_X11_isWord (d := d) (hd_le hd (by decide)) h_1) (by decide) (by decide) (kI (bc' := 0) (bs' := 0) (by decide) (by decide) (fun x5 M1 h_2 => ?_))
  refine fw_if_ne 10 (show decode _ _ = .ok (.ifCond .ne 5, 3) by decide +kernel) (by decide) (fun hc15 => ?_) (fun hc15 => ?_)
  · have h_3 := ineg hc15 h_2
    refine fw_aload_n (i := 0) 0 rfl (show decode _ _ = .ok (.aload_n 0, 1) by decide +kernel) ?_
    obtain ⟨⟨hr8, n7, hs9⟩, h_4⟩ := h_3
    refine fw_callV (mt' := mtX11_nextToken) (mc := 0) (ms := 0) (As := []) (rest := []) 0 11 n7 (show decode _ _ = .ok (.invokevirtual 179, 3) by decide +kernel) cv_X11_179 ⟨_, rfl, rfl⟩ hr8 hs9 rfl (Nat.le_of_ble_eq_true rfl) (s_X11_nextToken (d := d) (hd_le hd (by decide)) h_4) (by decide) (by decide) (kV (bc' := 0) (bs' := 0) (by decide) (by decide) (fun M6 h_5 => ?_))
    refine fw_aload_n (i := 0) 0 rfl (show decode _ _ = .ok (.aload_n 0, 1) by decide +kernel) ?_
    refine fw_iload_n (i := 3) 2 rfl (show decode _ _ = .ok (.iload_n 3, 1) by decide +kernel) ?_
    refine fw_iload (i := 4) 3 rfl (show decode _ _ = .ok (.iload 4, 2) by decide +kernel) ?_
    refine fw_iload (i := 5) 4 rfl (show decode _ _ = .ok (.iload 5, 2) by decide +kernel) ?_
    obtain ⟨⟨hr12, n11, hs13⟩, h_6⟩ := h_5
    refine fw_callV (mt' := mtX11_figure) (mc := 0) (ms := 0) (As := [.int p3, .int p4, .int p5]) (rest := []) 3 11 n11 (show decode _ _ = .ok (.invokevirtual 222, 3) by decide +kernel) cv_X11_222 ⟨_, rfl, rfl⟩ hr12 hs13 rfl (Nat.le_of_ble_eq_true rfl) (s_X11_figure (d := d) (hd_le hd (by decide)) h_6) (by decide) (by decide) (kI (bc' := 0) (bs' := 0) (by decide) (by decide) (fun x14 M10 h_7 => ?_))
    exact fw_ret (v := some (.int x14)) .ireturn (show decode _ _ = .ok (.ireturn, 1) by decide +kernel) ⟨rfl, Or.inl rfl⟩ ⟨_, rfl, h_7⟩
  · have h_8 := ipos hc15 h_2
    refine fw_iconst (v := (1 : Int32)) (show decode _ _ = .ok (.iconst 1, 1) by decide +kernel) (by decide) ?_
    exact fw_ret (v := some (.int (1 : Int32))) .ireturn (show decode _ _ = .ok (.ireturn, 1) by decide +kernel) ⟨rfl, Or.inl rfl⟩ ⟨_, rfl, h_8⟩
