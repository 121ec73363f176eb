def j_X9_weekAct_135 (K20 : Nat → Int32 → Int32 → Int32 → fM → Prop) (φ : Int32 → fM → Prop) (p0 : Nat) (p2 : Int32) (p3 : Int32) (p4 : Int32) (M : fM) : Prop := isO M p0 9 ∧ dR (mP M p0 0) fun y4 => dR (mP M p0 0) fun y6 => isO M y6 5 ∧ w_X5_lines y6 M fun x12 M8 => isO M8 y4 5 ∧ w_X5_lineOf y4 (x12 - (1 : Int32)) (5 : Int32) M8 fun x17 M13 => nm (p3 + x17) fun x18 => isO M13 p0 9 ∧ dR (mP M13 p0 0) fun y23 => dR (mP M13 p0 0) fun y25 => isO M13 y25 5 ∧ nm (imin (999 : Int32) ((mI M13 y25 6) + (1 : Int32))) fun x30 => isO M13 y23 5 ∧ st (wI M13 y23 6 x30) fun M35 => nm (p4 + (1 : Int32)) fun x37 => K20 p0 p2 x18 x37 M35
set_option maxRecDepth 100000 in
theorem sj_X9_weekAct_135 {g : GT} {d : Nat} (hd : 5 ≤ d + 1) {K20 : Nat → Int32 → Int32 → Int32 → fM → Prop} {φ : Int32 → fM → Prop} (hK20 : ∀ (p0 : Nat) (p2 : Int32) (p3 : Int32) (p4 : Int32) (M : fM), K20 p0 p2 p3 p4 M → FW g mtX9_weekAct (d + 1) 20 [(0, .ref p0), (2, .int p2), (3, .int p3), (4, .int p4)] [] M 0 0 (rI φ)) {p0 : Nat} {p2 : Int32} {p3 : Int32} {p4 : Int32} {M : fM} (h : j_X9_weekAct_135 K20 φ p0 p2 p3 p4 M) : FW g mtX9_weekAct (d + 1) 135 [(0, .ref p0), (2, .int p2), (3, .int p3), (4, .int p4)] [] M 0 0 (rI φ) := by
  unfold j_X9_weekAct_135 at h
  refine fw_iload_n (i := 3) 2 rfl (show decode _ _ = .ok (.iload_n 3, 1) by decide +kernel) ?_
  refine fw_aload_n (i := 0) 0 rfl (show decode _ _ = .ok (.aload_n 0, 1) by decide +kernel) ?_
  obtain ⟨⟨hr2, n1, hs3⟩, h_1⟩ := h
  refine fw_getP (kd := 9) (k := 0) (show decode _ _ = .ok (.getfield 9, 3) by decide +kernel) gf_X9_9 hr2 hs3 rfl ?_
  have h_2 := dR_e h_1
  obtain ⟨y4, hy5, h_3⟩ := h_2
  refine fw_deref hy5 ?_
  refine fw_aload_n (i := 0) 0 rfl (show decode _ _ = .ok (.aload_n 0, 1) by decide +kernel) ?_
  refine fw_getP (kd := 9) (k := 0) (show decode _ _ = .ok (.getfield 9, 3) by decide +kernel) gf_X9_9 hr2 hs3 rfl ?_
  have h_4 := dR_e h_3
  obtain ⟨y6, hy7, h_5⟩ := h_4
  refine fw_deref hy7 ?_
  obtain ⟨⟨hr10, n9, hs11⟩, h_6⟩ := h_5
  refine fw_callV (mt' := mtX5_lines) (mc := 0) (ms := 0) (As := []) (rest := [.ref y4, .int p3]) 0 5 n9 (show decode _ _ = .ok (.invokevirtual 79, 3) by decide +kernel) cv_X9_79 ⟨_, rfl, rfl⟩ hr10 hs11 rfl (Nat.le_of_ble_eq_true rfl) (s_X5_lines (d := d) (hd_le hd (by decide)) h_6) (by decide) (by decide) (kI (bc' := 0) (bs' := 0) (by decide) (by decide) (fun x12 M8 h_7 => ?_))
  refine fw_iconst (v := (1 : Int32)) (show decode _ _ = .ok (.iconst 1, 1) by decide +kernel) (by decide) ?_
  refine fw_isub (show decode _ _ = .ok (.isub, 1) by decide +kernel) ?_
  refine fw_iconst (v := (5 : Int32)) (show decode _ _ = .ok (.iconst 5, 1) by decide +kernel) (by decide) ?_
  obtain ⟨⟨hr15, n14, hs16⟩, h_8⟩ := h_7
  refine fw_callV (mt' := mtX5_lineOf) (mc := 0) (ms := 0) (As := [.int (x12 - (1 : Int32)), .int (5 : Int32)]) (rest := [.int p3]) 2 5 n14 (show decode _ _ = .ok (.invokevirtual 82, 3) by decide +kernel) cv_X9_82 ⟨_, rfl, rfl⟩ hr15 hs16 rfl (Nat.le_of_ble_eq_true rfl) (s_X5_lineOf (d := d) (hd_le hd (by decide)) h_8) (by decide) (by decide) (kI (bc' := 0) (bs' := 0) (by decide) (by decide) (fun x17 M13 h_9 => ?_))
  refine fw_iadd (show decode _ _ = .ok (.iadd, 1) by decide +kernel) ?_
  refine fw_nmI (fun x18 ex19 => ?_)
  have h_10 := h_9 x18 ex19
  refine fw_istore_n (i := 3) (ls' := [(3, .int x18), (0, .ref p0), (2, .int p2), (4, .int p4)]) (show decode _ _ = .ok (.istore_n 3, 1) by decide +kernel) (by decide) rfl ?_
  refine fw_aload_n (i := 0) 1 rfl (show decode _ _ = .ok (.aload_n 0, 1) by decide +kernel) ?_
  obtain ⟨⟨hr21, n20, hs22⟩, h_11⟩ := h_10
  refine fw_getP (kd := 9) (k := 0) (show decode _ _ = .ok (.getfield 9, 3) by decide +kernel) gf_X9_9 hr21 hs22 rfl ?_
  have h_12 := dR_e h_11
  obtain ⟨y23, hy24, h_13⟩ := h_12
  refine fw_deref hy24 ?_
  refine fw_sipush (v := (999 : Int32)) (show decode _ _ = .ok (.sipush 999, 3) by decide +kernel) (by decide) ?_
  refine fw_aload_n (i := 0) 1 rfl (show decode _ _ = .ok (.aload_n 0, 1) by decide +kernel) ?_
  refine fw_getP (kd := 9) (k := 0) (show decode _ _ = .ok (.getfield 9, 3) by decide +kernel) gf_X9_9 hr21 hs22 rfl ?_
  have h_14 := dR_e h_13
  obtain ⟨y25, hy26, h_15⟩ := h_14
  refine fw_deref hy26 ?_
  obtain ⟨⟨hr28, n27, hs29⟩, h_16⟩ := h_15
  refine fw_getI (kd := 5) (k := 6) (show decode _ _ = .ok (.getfield 67, 3) by decide +kernel) gf_X9_67 hr28 hs29 (Or.inl rfl) ?_
  refine fw_iconst (v := (1 : Int32)) (show decode _ _ = .ok (.iconst 1, 1) by decide +kernel) (by decide) ?_
  refine fw_iadd (show decode _ _ = .ok (.iadd, 1) by decide +kernel) ?_
  refine fw_mmin (idx := 86) (rest := [.ref y23]) (show decode _ _ = .ok (.invokestatic 86, 3) by decide +kernel) ⟨wd1036, wd641, wd142, wd642⟩ (Nat.le_of_ble_eq_true rfl) ?_
  refine fw_nmI (fun x30 ex31 => ?_)
  have h_17 := h_16 x30 ex31
  obtain ⟨⟨hr33, n32, hs34⟩, h_18⟩ := h_17
  refine fw_putI (kd := 5) (k := 6) (show decode _ _ = .ok (.putfield 67, 3) by decide +kernel) ⟨gf_X9_67, _, rfl, Or.inl rfl⟩ hr33 hs34 rfl ?_
  refine FW.nmM (fun M35 eM36 => ?_)
  have h_19 := h_18 M35 eM36
  obtain ⟨x37, ex38⟩ : ∃ y : Int32, y = p4 + (1 : Int32) := ⟨_, rfl⟩
  have h_20 := h_19 x37 ex38
  refine fw_iinc (i := 4) (x := p4) (v := x37) (ls' := [(4, .int x37), (3, .int x18), (0, .ref p0), (2, .int p2)]) 3 rfl (show decode _ _ = .ok (.iinc 4 1, 3) by decide +kernel) (by rw [ex38]; rfl) (by decide) rfl ?_
  refine fw_goto 20 (show decode _ _ = .ok (.goto (-160), 3) by decide +kernel) (by decide) ?_
  refine FW.sub [2, 3, 1, 0] (ls' := [(0, .ref p0), (2, .int p2), (3, .int x18), (4, .int x37)]) rfl ?_
  exact hK20 _ _ _ _ _ h_20
def j_X9_weekAct_125 (K20 : Nat → Int32 → Int32 → Int32 → fM → Prop) (K89 : Nat → Int32 → Int32 → Int32 → Int32 → fM → Prop) (φ : Int32 → fM → Prop) (p0 : Nat) (p2 : Int32) (p3 : Int32) (p4 : Int32) (p7 : Int32) (s0 : Int32) (s1 : Nat) (M : fM) : Prop := isO M s1 9 ∧ w_X9_goOn s1 s0 M fun x43 M39 => nm (p7 + (1 : Int32)) fun x44 => K89 p0 p2 p3 p4 x44 M39
set_option maxRecDepth 100000 in
theorem sj_X9_weekAct_125 {g : GT} {d : Nat} (hd : 5 ≤ d + 1) {K20 : Nat → Int32 → Int32 → Int32 → fM → Prop} {K89 : Nat → Int32 → Int32 → Int32 → Int32 → fM → Prop} {φ : Int32 → fM → Prop} (hK20 : ∀ (p0 : Nat) (p2 : Int32) (p3 : Int32) (p4 : Int32) (M : fM), K20 p0 p2 p3 p4 M → FW g mtX9_weekAct (d + 1) 20 [(0, .ref p0), (2, .int p2), (3, .int p3), (4, .int p4)] [] M 0 0 (rI φ)) (hK89 : ∀ (p0 : Nat) (p2 : Int32) (p3 : Int32) (p4 : Int32) (p7 : Int32) (M : fM), K89 p0 p2 p3 p4 p7 M → FW g mtX9_weekAct (d + 1) 89 [(0, .ref p0), (2, .int p2), (3, .int p3), (4, .int p4), (7, .int p7)] [] M 0 0 (rI φ)) {p0 : Nat} {p2 : Int32} {p3 : Int32} {p4 : Int32} {p7 : Int32} {s0 : Int32} {s1 : Nat} {M : fM} (h : j_X9_weekAct_125 K20 K89 φ p0 p2 p3 p4 p7 s0 s1 M) : FW g mtX9_weekAct (d + 1) 125 [(0, .ref p0), (2, .int p2), (3, .int p3), (4, .int p4), (7, .int p7)] [.int s0, .ref s1] M 0 0 (rI φ) := by
  unfold j_X9_weekAct_125 at h
  obtain ⟨⟨hr41, n40, hs42⟩, h_1⟩ := h
  refine fw_callV (mt' := mtX9_goOn) (mc := 0) (ms := 0) (As := [.int s0]) (rest := []) 1 9 n40 (show decode _ _ = .ok (.invokevirtual 44, 3) by decide +kernel) cv_X9_44 ⟨_, rfl, rfl⟩ hr41 hs42 rfl (Nat.le_of_ble_eq_true rfl) (s_X9_goOn (d := d) (hd_le hd (by decide)) h_1) (by decide) (by decide) (kI (bc' := 0) (bs' := 0) (by decide) (by decide) (fun x43 M39 h_2 => ?_))
  refine fw_pop (show decode _ _ = .ok (.pop, 1) by decide +kernel) rfl ?_
  obtain ⟨x44, ex45⟩ : ∃ y : Int32, y = p7 + (1 : Int32) := ⟨_, rfl⟩
  have h_3 := h_2 x44 ex45
  refine fw_iinc (i := 7) (x := p7) (v := x44) (ls' := [(7, .int x44), (0, .ref p0), (2, .int p2), (3, .int p3), (4, .int p4)]) 4 rfl (show decode _ _ = .ok (.iinc 7 1, 3) by decide +kernel) (by rw [ex45]; rfl) (by decide) rfl ?_
  refine fw_goto 89 (show decode _ _ = .ok (.goto (-43), 3) by decide +kernel) (by decide) ?_
  refine FW.sub [1, 2, 3, 4, 0] (ls' := [(0, .ref p0), (2, .int p2), (3, .int p3), (4, .int p4), (7, .int x44)]) rfl ?_
  exact hK89 _ _ _ _ _ _ h_3
def b_X9_weekAct_89 (K20 : Nat → Int32 → Int32 → Int32 → fM → Prop) (K89 : Nat → Int32 → Int32 → Int32 → Int32 → fM → Prop) (φ : Int32 → fM → Prop) (p0 : Nat) (p2 : Int32) (p3 : Int32) (p4 : Int32) (p7 : Int32) (M : fM) : Prop := iF ((14 : Int32) < p7) (j_X9_weekAct_135 K20 φ p0 p2 p3 p4 M) (isO M p0 9 ∧ dR (mP M p0 0) fun y49 => isO M y49 5 ∧ w_X5_isOnWay y49 M fun x55 M51 => iF (x55 = 0) (j_X9_weekAct_135 K20 φ p0 p2 p3 p4 M51) (isO M51 p0 9 ∧ dR (mP M51 p0 0) fun y59 => isO M51 y59 5 ∧ dR (mP M51 y59 7) fun y64 => inA M51 y64 12 (4 : Int32) ∧ iF (p2 ≤ (mI M51 y64 (ix (4 : Int32)))) (j_X9_weekAct_125 K20 K89 φ p0 p2 p3 p4 p7 (0 : Int32) p0 M51) (j_X9_weekAct_125 K20 K89 φ p0 p2 p3 p4 p7 (1 : Int32) p0 M51)))
def l_X9_weekAct_89 (K20 : Nat → Int32 → Int32 → Int32 → fM → Prop) (φ : Int32 → fM → Prop) : Nat → Nat → Int32 → Int32 → Int32 → Int32 → fM → Prop
  | 0, _, _, _, _, _, _ => False
  | n + 1, p0, p2, p3, p4, p7, M => b_X9_weekAct_89 K20 (l_X9_weekAct_89 K20 φ n) φ p0 p2 p3 p4 p7 M
set_option maxRecDepth 100000 in
theorem sb_X9_weekAct_89 {g : GT} {d : Nat} (hd : 5 ≤ d + 1) {K20 : Nat → Int32 → Int32 → Int32 → fM → Prop} {K89 : Nat → Int32 → Int32 → Int32 → Int32 → fM → Prop} {φ : Int32 → fM → Prop} (hK20 : ∀ (p0 : Nat) (p2 : Int32) (p3 : Int32) (p4 : Int32) (M : fM), K20 p0 p2 p3 p4 M → FW g mtX9_weekAct (d + 1) 20 [(0, .ref p0), (2, .int p2), (3, .int p3), (4, .int p4)] [] M 0 0 (rI φ)) (hK89 : ∀ (p0 : Nat) (p2 : Int32) (p3 : Int32) (p4 : Int32) (p7 : Int32) (M : fM), K89 p0 p2 p3 p4 p7 M → FW g mtX9_weekAct (d + 1) 89 [(0, .ref p0), (2, .int p2), (3, .int p3), (4, .int p4), (7, .int p7)] [] M 0 0 (rI φ)) {p0 : Nat} {p2 : Int32} {p3 : Int32} {p4 : Int32} {p7 : Int32} {M : fM} (h : b_X9_weekAct_89 K20 K89 φ p0 p2 p3 p4 p7 M) : FW g mtX9_weekAct (d + 1) 89 [(0, .ref p0), (2, .int p2), (3, .int p3), (4, .int p4), (7, .int p7)] [] M 0 0 (rI φ) := by
  unfold b_X9_weekAct_89 at h
  refine fw_iload (i := 7) 4 rfl (show decode _ _ = .ok (.iload 7, 2) by decide +kernel) ?_
  refine fw_bipush (v := (14 : Int32)) (show decode _ _ = .ok (.bipush 14, 2) by decide +kernel) (by decide) ?_
  refine fw_icmp_gt 135 (show decode _ _ = .ok (.if_icmp .gt 42, 3) by decide +kernel) (by decide) (fun hc71 => ?_) (fun hc71 => ?_)
  · have h_1 := ipos hc71 h
    refine FW.sub [0, 1, 2, 3] (ls' := [(0, .ref p0), (2, .int p2), (3, .int p3), (4, .int p4)]) rfl ?_
    exact sj_X9_weekAct_135 hd hK20 h_1
  · have h_2 := ineg hc71 h
    refine fw_aload_n (i := 0) 0 rfl (show decode _ _ = .ok (.aload_n 0, 1) by decide +kernel) ?_
    obtain ⟨⟨hr47, n46, hs48⟩, h_3⟩ := h_2
    refine fw_getP (kd := 9) (k := 0) (show decode _ _ = .ok (.getfield 9, 3) by decide +kernel) gf_X9_9 hr47 hs48 rfl ?_
    have h_4 := dR_e h_3
    obtain ⟨y49, hy50, h_5⟩ := h_4
    refine fw_deref hy50 ?_
    obtain ⟨⟨hr53, n52, hs54⟩, h_6⟩ := h_5
    refine fw_callV (mt' := mtX5_isOnWay) (mc := 0) (ms := 0) (As := []) (rest := []) 0 5 n52 (show decode _ _ = .ok (.invokevirtual 40, 3) by decide +kernel) cv_X9_40 ⟨_, rfl, rfl⟩ hr53 hs54 rfl (Nat.le_of_ble_eq_true rfl) (s_X5_isOnWay (d := d) (hd_le hd (by decide)) h_6) (by decide) (by decide) (kI (bc' := 0) (bs' := 0) (by decide) (by decide) (fun x55 M51 h_7 => ?_))
    refine fw_if_eq 135 (show decode _ _ = .ok (.ifCond .eq 32, 3) by decide +kernel) (by decide) (fun hc70 => ?_) (fun hc70 => ?_)
    · have h_8 := ipos hc70 h_7
      refine FW.sub [0, 1, 2, 3] (ls' := [(0, .ref p0), (2, .int p2), (3, .int p3), (4, .int p4)]) rfl ?_
      exact sj_X9_weekAct_135 hd hK20 h_8
    · have h_9 := ineg hc70 h_7
      refine fw_aload_n (i := 0) 0 rfl (show decode _ _ = .ok (.aload_n 0, 1) by decide +kernel) ?_
      refine fw_aload_n (i := 0) 0 rfl (show decode _ _ = .ok (.aload_n 0, 1) by decide +kernel) ?_
      obtain ⟨⟨hr57, n56, hs58⟩, h_10⟩ := h_9
      refine fw_getP (kd := 9) (k := 0) (show decode _ _ = .ok (.getfield 9, 3) by decide +kernel) gf_X9_9 hr57 hs58 rfl ?_
      have h_11 := dR_e h_10
      obtain ⟨y59, hy60, h_12⟩ := h_11
      refine fw_deref hy60 ?_
      obtain ⟨⟨hr62, n61, hs63⟩, h_13⟩ := h_12
      refine fw_getP (kd := 5) (k := 7) (show decode _ _ = .ok (.getfield 36, 3) by decide +kernel) gf_X9_36 hr62 hs63 rfl ?_
      have h_14 := dR_e h_13
      obtain ⟨y64, hy65, h_15⟩ := h_14
      refine fw_deref hy65 ?_
      refine fw_iconst (v := (4 : Int32)) (show decode _ _ = .ok (.iconst 4, 1) by decide +kernel) (by decide) ?_
      obtain ⟨⟨n66, hs67, hi68⟩, h_16⟩ := h_15
      refine fw_iald (show decode _ _ = .ok (.iaload, 1) by decide +kernel) hs67 hi68 ?_
      refine fw_iload_n (i := 2) 1 rfl (show decode _ _ = .ok (.iload_n 2, 1) by decide +kernel) ?_
      refine fw_icmp_ge 124 (show decode _ _ = .ok (.if_icmp .ge 7, 3) by decide +kernel) (by decide) (fun hc69 => ?_) (fun hc69 => ?_)
      · have h_17 := ipos hc69 h_16
        refine fw_iconst (v := (0 : Int32)) (show decode _ _ = .ok (.iconst 0, 1) by decide +kernel) (by decide) ?_
        refine FW.sub [0, 1, 2, 3, 4] (ls' := [(0, .ref p0), (2, .int p2), (3, .int p3), (4, .int p4), (7, .int p7)]) rfl ?_
        exact sj_X9_weekAct_125 hd hK20 hK89 h_17
      · have h_18 := ineg hc69 h_16
        refine fw_iconst (v := (1 : Int32)) (show decode _ _ = .ok (.iconst 1, 1) by decide +kernel) (by decide) ?_
        refine fw_goto 125 (show decode _ _ = .ok (.goto 4, 3) by decide +kernel) (by decide) ?_
        refine FW.sub [0, 1, 2, 3, 4] (ls' := [(0, .ref p0), (2, .int p2), (3, .int p3), (4, .int p4), (7, .int p7)]) rfl ?_
        exact sj_X9_weekAct_125 hd hK20 hK89 h_18
theorem sl_X9_weekAct_89 {g : GT} {d : Nat} (hd : 5 ≤ d + 1) {K20 : Nat → Int32 → Int32 → Int32 → fM → Prop} {φ : Int32 → fM → Prop} (hK20 : ∀ (p0 : Nat) (p2 : Int32) (p3 : Int32) (p4 : Int32) (M : fM), K20 p0 p2 p3 p4 M → FW g mtX9_weekAct (d + 1) 20 [(0, .ref p0), (2, .int p2), (3, .int p3), (4, .int p4)] [] M 0 0 (rI φ)) : ∀ (n : Nat) {p0 : Nat} {p2 : Int32} {p3 : Int32} {p4 : Int32} {p7 : Int32} {M : fM}, l_X9_weekAct_89 K20 φ n p0 p2 p3 p4 p7 M → FW g mtX9_weekAct (d + 1) 89 [(0, .ref p0), (2, .int p2), (3, .int p3), (4, .int p4), (7, .int p7)] [] M 0 0 (rI φ)
  | 0 => fun h => h.elim
  | n + 1 => fun h => sb_X9_weekAct_89 hd hK20 (fun _ _ _ _ _ _ h => sl_X9_weekAct_89 hd hK20 n h) h
def j_X9_weekAct_56 (K20 : Nat → Int32 → Int32 → Int32 → fM → Prop) (φ : Int32 → fM → Prop) (p0 : Nat) (p2 : Int32) (p3 : Int32) (p4 : Int32) (s0 : Int32) (M : fM) : Prop := isO M p0 9 ∧ w_X9_stir p0 M fun M72 => isO M72 p0 9 ∧ dR (mP M72 p0 0) fun y79 => isO M72 y79 5 ∧ nm ((mI M72 y79 5) % (4 : Int32)) fun x84 => w_X9_stir p0 M72 fun M86 => isO M86 p0 9 ∧ w_X9_start p0 s0 x84 (0 : Int32) M86 fun M87 => ∃ n, l_X9_weekAct_89 K20 φ n p0 p2 p3 p4 (0 : Int32) M87
set_option maxRecDepth 100000 in
theorem sj_X9_weekAct_56 {g : GT} {d : Nat} (hd : 5 ≤ d + 1) {K20 : Nat → Int32 → Int32 → Int32 → fM → Prop} {φ : Int32 → fM → Prop} (hK20 : ∀ (p0 : Nat) (p2 : Int32) (p3 : Int32) (p4 : Int32) (M : fM), K20 p0 p2 p3 p4 M → FW g mtX9_weekAct (d + 1) 20 [(0, .ref p0), (2, .int p2), (3, .int p3), (4, .int p4)] [] M 0 0 (rI φ)) {p0 : Nat} {p2 : Int32} {p3 : Int32} {p4 : Int32} {s0 : Int32} {M : fM} (h : j_X9_weekAct_56 K20 φ p0 p2 p3 p4 s0 M) : FW g mtX9_weekAct (d + 1) 56 [(0, .ref p0), (2, .int p2), (3, .int p3), (4, .int p4)] [.int s0] M 0 0 (rI φ) := by
  unfold j_X9_weekAct_56 at h
  refine fw_istore (i := 5) (ls' := [(5, .int s0), (0, .ref p0), (2, .int p2), (3, .int p3), (4, .int p4)]) (show decode _ _ = .ok (.istore 5, 2) by decide +kernel) (by decide) rfl ?_
  refine fw_aload_n (i := 0) 1 rfl (show decode _ _ = .ok (.aload_n 0, 1) by decide +kernel) ?_
  obtain ⟨⟨hr74, n73, hs75⟩, h_1⟩ := h
  refine fw_callV (mt' := mtX9_stir) (mc := 0) (ms := 0) (As := []) (rest := []) 0 9 n73 (show decode _ _ = .ok (.invokevirtual 76, 3) by decide +kernel) cv_X9_76 ⟨_, rfl, rfl⟩ hr74 hs75 rfl (Nat.le_of_ble_eq_true rfl) (s_X9_stir (d := d) (hd_le hd (by decide)) h_1) (by decide) (by decide) (kV (bc' := 0) (bs' := 0) (by decide) (by decide) (fun M72 h_2 => ?_))
  refine fw_aload_n (i := 0) 1 rfl (show decode _ _ = .ok (.aload_n 0, 1) by decide +kernel) ?_
  obtain ⟨⟨hr77, n76, hs78⟩, h_3⟩ := h_2
  refine fw_getP (kd := 9) (k := 0) (show decode _ _ = .ok (.getfield 9, 3) by decide +kernel) gf_X9_9 hr77 hs78 rfl ?_
  have h_4 := dR_e h_3
  obtain ⟨y79, hy80, h_5⟩ := h_4
  refine fw_deref hy80 ?_
  obtain ⟨⟨hr82, n81, hs83⟩, h_6⟩ := h_5
  refine fw_getI (kd := 5) (k := 5) (show decode _ _ = .ok (.getfield 70, 3) by decide +kernel) gf_X9_70 hr82 hs83 (Or.inl rfl) ?_
  refine fw_iconst (v := (4 : Int32)) (show decode _ _ = .ok (.iconst 4, 1) by decide +kernel) (by decide) ?_
  refine fw_irem (show decode _ _ = .ok (.irem, 1) by decide +kernel) (by decide) ?_
  refine fw_nmI (fun x84 ex85 => ?_)
  have h_7 := h_6 x84 ex85
  refine fw_istore (i := 6) (ls' := [(6, .int x84), (5, .int s0), (0, .ref p0), (2, .int p2), (3, .int p3), (4, .int p4)]) (show decode _ _ = .ok (.istore 6, 2) by decide +kernel) (by decide) rfl ?_
  refine fw_aload_n (i := 0) 2 rfl (show decode _ _ = .ok (.aload_n 0, 1) by decide +kernel) ?_
  refine fw_callV (mt' := mtX9_stir) (mc := 0) (ms := 0) (As := []) (rest := []) 0 9 n76 (show decode _ _ = .ok (.invokevirtual 76, 3) by decide +kernel) cv_X9_76 ⟨_, rfl, rfl⟩ hr77 hs78 rfl (Nat.le_of_ble_eq_true rfl) (s_X9_stir (d := d) (hd_le hd (by decide)) h_7) (by decide) (by decide) (kV (bc' := 0) (bs' := 0) (by decide) (by decide) (fun M86 h_8 => ?_))
  refine fw_aload_n (i := 0) 2 rfl (show decode _ _ = .ok (.aload_n 0, 1) by decide +kernel) ?_
  refine fw_iload (i := 5) 1 rfl (show decode _ _ = .ok (.iload 5, 2) by decide +kernel) ?_
  refine fw_iload (i := 6) 0 rfl (show decode _ _ = .ok (.iload 6, 2) by decide +kernel) ?_
  refine fw_iconst (v := (0 : Int32)) (show decode _ _ = .ok (.iconst 0, 1) by decide +kernel) (by decide) ?_
  obtain ⟨⟨hr89, n88, hs90⟩, h_9⟩ := h_8
  refine fw_callV (mt' := mtX9_start) (mc := 0) (ms := 0) (As := [.int s0, .int x84, .int (0 : Int32)]) (rest := []) 3 9 n88 (show decode _ _ = .ok (.invokevirtual 32, 3) by decide +kernel) cv_X9_32 ⟨_, rfl, rfl⟩ hr89 hs90 rfl (Nat.le_of_ble_eq_true rfl) (s_X9_start (d := d) (hd_le hd (by decide)) h_9) (by decide) (by decide) (kV (bc' := 0) (bs' := 0) (by decide) (by decide) (fun M87 h_10 => ?_))
  refine fw_iconst (v := (0 : Int32)) (show decode _ _ = .ok (.iconst 0, 1) by decide +kernel) (by decide) ?_
  refine fw_istore (i := 7) (ls' := [(7, .int (0 : Int32)), (6, .int x84), (5, .int s0), (0, .ref p0), (2, .int p2), (3, .int p3), (4, .int p4)]) (show decode _ _ = .ok (.istore 7, 2) by decide +kernel) (by decide) rfl ?_
  refine FW.sub [3, 4, 5, 6, 0] (ls' := [(0, .ref p0), (2, .int p2), (3, .int p3), (4, .int p4), (7, .int (0 : Int32))]) rfl ?_
  obtain ⟨nn, h_11⟩ := h_10
  exact sl_X9_weekAct_89 hd hK20 nn h_11
def b_X9_weekAct_20 (K20 : Nat → Int32 → Int32 → Int32 → fM → Prop) (φ : Int32 → fM → Prop) (p0 : Nat) (p2 : Int32) (p3 : Int32) (p4 : Int32) (M : fM) : Prop := iF ((7 : Int32) ≤ p4) (φ p3 M) (isO M p0 9 ∧ dR (mP M p0 0) fun y94 => isO M y94 5 ∧ iF ((mI M y94 4) ≤ 0) (j_X9_weekAct_56 K20 φ p0 p2 p3 p4 (-1 : Int32) M) (dR (mP M p0 0) fun y99 => isO M y99 5 ∧ dR (mP M p0 0) fun y104 => isO M y104 5 ∧ ¬ (mI M y104 4) = 0 ∧ j_X9_weekAct_56 K20 φ p0 p2 p3 p4 ((mI M y99 5) % (mI M y104 4)) M))
def l_X9_weekAct_20 (φ : Int32 → fM → Prop) : Nat → Nat → Int32 → Int32 → Int32 → fM → Prop
  | 0, _, _, _, _, _ => False
  | n + 1, p0, p2, p3, p4, M => b_X9_weekAct_20 (l_X9_weekAct_20 φ n) φ p0 p2 p3 p4 M
set_option maxRecDepth 100000 in
theorem sb_X9_weekAct_20 {g : GT} {d : Nat} (hd : 5 ≤ d + 1) {K20 : Nat → Int32 → Int32 → Int32 → fM → Prop} {φ : Int32 → fM → Prop} (hK20 : ∀ (p0 : Nat) (p2 : Int32) (p3 : Int32) (p4 : Int32) (M : fM), K20 p0 p2 p3 p4 M → FW g mtX9_weekAct (d + 1) 20 [(0, .ref p0), (2, .int p2), (3, .int p3), (4, .int p4)] [] M 0 0 (rI φ)) {p0 : Nat} {p2 : Int32} {p3 : Int32} {p4 : Int32} {M : fM} (h : b_X9_weekAct_20 K20 φ p0 p2 p3 p4 M) : FW g mtX9_weekAct (d + 1) 20 [(0, .ref p0), (2, .int p2), (3, .int p3), (4, .int p4)] [] M 0 0 (rI φ) := by
  unfold b_X9_weekAct_20 at h
  refine fw_iload (i := 4) 3 rfl (show decode _ _ = .ok (.iload 4, 2) by decide +kernel) ?_
  refine fw_bipush (v := (7 : Int32)) (show decode _ _ = .ok (.bipush 7, 2) by decide +kernel) (by decide) ?_
  refine fw_icmp_ge 183 (show decode _ _ = .ok (.if_icmp .ge 159, 3) by decide +kernel) (by decide) (fun hc111 => ?_) (fun hc111 => ?_)
  · have h_1 := ipos hc111 h
    refine fw_iload_n (i := 3) 2 rfl (show decode _ _ = .ok (.iload_n 3, 1) by decide +kernel) ?_
    exact fw_ret (v := some (.int p3)) .ireturn (show decode _ _ = .ok (.ireturn, 1) by decide +kernel) ⟨rfl, Or.inl rfl⟩ ⟨_, rfl, h_1⟩
  · have h_2 := ineg hc111 h
    refine fw_aload_n (i := 0) 0 rfl (show decode _ _ = .ok (.aload_n 0, 1) by decide +kernel) ?_
    obtain ⟨⟨hr92, n91, hs93⟩, h_3⟩ := h_2
    refine fw_getP (kd := 9) (k := 0) (show decode _ _ = .ok (.getfield 9, 3) by decide +kernel) gf_X9_9 hr92 hs93 rfl ?_
    have h_4 := dR_e h_3
    obtain ⟨y94, hy95, h_5⟩ := h_4
    refine fw_deref hy95 ?_
    obtain ⟨⟨hr97, n96, hs98⟩, h_6⟩ := h_5
    refine fw_getI (kd := 5) (k := 4) (show decode _ _ = .ok (.getfield 73, 3) by decide +kernel) gf_X9_73 hr97 hs98 (Or.inl rfl) ?_
    refine fw_if_le 55 (show decode _ _ = .ok (.ifCond .le 21, 3) by decide +kernel) (by decide) (fun hc110 => ?_) (fun hc110 => ?_)
    · have h_7 := ipos hc110 h_6
      refine fw_iconst (v := (-1 : Int32)) (show decode _ _ = .ok (.iconst (-1), 1) by decide +kernel) (by decide) ?_
      refine FW.sub [0, 1, 2, 3] (ls' := [(0, .ref p0), (2, .int p2), (3, .int p3), (4, .int p4)]) rfl ?_
      exact sj_X9_weekAct_56 hd hK20 h_7
    · have h_8 := ineg hc110 h_6
      refine fw_aload_n (i := 0) 0 rfl (show decode _ _ = .ok (.aload_n 0, 1) by decide +kernel) ?_
      refine fw_getP (kd := 9) (k := 0) (show decode _ _ = .ok (.getfield 9, 3) by decide +kernel) gf_X9_9 hr92 hs93 rfl ?_
      have h_9 := dR_e h_8
      obtain ⟨y99, hy100, h_10⟩ := h_9
      refine fw_deref hy100 ?_
      obtain ⟨⟨hr102, n101, hs103⟩, h_11⟩ := h_10
      refine fw_getI (kd := 5) (k := 5) (show decode _ _ = .ok (.getfield 70, 3) by decide +kernel) gf_X9_70 hr102 hs103 (Or.inl rfl) ?_
      refine fw_aload_n (i := 0) 0 rfl (show decode _ _ = .ok (.aload_n 0, 1) by decide +kernel) ?_
      refine fw_getP (kd := 9) (k := 0) (show decode _ _ = .ok (.getfield 9, 3) by decide +kernel) gf_X9_9 hr92 hs93 rfl ?_
      have h_12 := dR_e h_11
      obtain ⟨y104, hy105, h_13⟩ := h_12
      refine fw_deref hy105 ?_
      obtain ⟨⟨hr107, n106, hs108⟩, h_14⟩ := h_13
      refine fw_getI (kd := 5) (k := 4) (show decode _ _ = .ok (.getfield 73, 3) by decide +kernel) gf_X9_73 hr107 hs108 (Or.inl rfl) ?_
      obtain ⟨hne109, h_15⟩ := h_14
      refine fw_irem (show decode _ _ = .ok (.irem, 1) by decide +kernel) hne109 ?_
      refine fw_goto 56 (show decode _ _ = .ok (.goto 4, 3) by decide +kernel) (by decide) ?_
      refine FW.sub [0, 1, 2, 3] (ls' := [(0, .ref p0), (2, .int p2), (3, .int p3), (4, .int p4)]) rfl ?_
      exact sj_X9_weekAct_56 hd hK20 h_15
theorem sl_X9_weekAct_20 {g : GT} {d : Nat} (hd : 5 ≤ d + 1) {φ : Int32 → fM → Prop} : ∀ (n : Nat) {p0 : Nat} {p2 : Int32} {p3 : Int32} {p4 : Int32} {M : fM}, l_X9_weekAct_20 φ n p0 p2 p3 p4 M → FW g mtX9_weekAct (d + 1) 20 [(0, .ref p0), (2, .int p2), (3, .int p3), (4, .int p4)] [] M 0 0 (rI φ)
  | 0 => fun h => h.elim
  | n + 1 => fun h => sb_X9_weekAct_20 hd (fun _ _ _ _ _ h => sl_X9_weekAct_20 hd n h) h
def w_X9_weekAct (p0 : Nat) (p1 : Int32) (p2 : Int32) (M : fM) (φ : Int32 → fM → Prop) : Prop := isO M p0 9 ∧ dR (mP M p0 0) fun y115 => isO M y115 5 ∧ w_X5_remember y115 M fun M117 => isO M117 p0 9 ∧ dR (mP M117 p0 0) fun y124 => isO M117 y124 5 ∧ st (wI M117 y124 5 p1) fun M129 => ∃ n, l_X9_weekAct_20 φ n p0 p2 (0 : Int32) (0 : Int32) M129
set_option maxRecDepth 100000 in
theorem s_X9_weekAct {g : GT} {d : Nat} (hd : 5 ≤ d) {p0 : Nat} {p1 : Int32} {p2 : Int32} {M : fM} {φ : Int32 → fM → Prop} (h : w_X9_weekAct p0 p1 p2 M φ) : FC g mtX9_weekAct d [.ref p0, .int p1, .int p2] M 0 0 (rI φ) := by
  obtain ⟨d, rfl⟩ : ∃ e, d = e + 1 := ⟨d - 1, by omega⟩
  unfold w_X9_weekAct at h
  refine FC.intro (nL := 8) (by decide) rfl (Nat.le_of_ble_eq_true rfl) ?_
  show FW g mtX9_weekAct (d + 1) 0 [(0, .ref p0), (1, .int p1), (2, .int p2)] [] M 0 0 (rI φ)
  refine fw_aload_n (i := 0) 0 rfl (show decode _ _ = .ok (.aload_n 0, 1) by decide +kernel) ?_
  obtain ⟨⟨hr113, n112, hs114⟩, h_1⟩ := h
  refine fw_getP (kd := 9) (k := 0) (show decode _ _ = .ok (.getfield 9, 3) by decide +kernel) gf_X9_9 hr113 hs114 rfl ?_
  have h_2 := dR_e h_1
  obtain ⟨y115, hy116, h_3⟩ := h_2
  refine fw_deref hy116 ?_
  obtain ⟨⟨hr119, n118, hs120⟩, h_4⟩ := h_3
  refine fw_callV (mt' := mtX5_remember) (mc := 0) (ms := 0) (As := []) (rest := []) 0 5 n118 (show decode _ _ = .ok (.invokevirtual 29, 3) by decide +kernel) cv_X9_29 ⟨_, rfl, rfl⟩ hr119 hs120 rfl (Nat.le_of_ble_eq_true rfl) (s_X5_remember (d := d) (hd_le hd (by decide)) h_4) (by decide) (by decide) (kV (bc' := 0) (bs' := 0) (by decide) (by decide) (fun M117 h_5 => ?_))
  refine fw_aload_n (i := 0) 0 rfl (show decode _ _ = .ok (.aload_n 0, 1) by decide +kernel) ?_
  obtain ⟨⟨hr122, n121, hs123⟩, h_6⟩ := h_5
  refine fw_getP (kd := 9) (k := 0) (show decode _ _ = .ok (.getfield 9, 3) by decide +kernel) gf_X9_9 hr122 hs123 rfl ?_
  have h_7 := dR_e h_6
  obtain ⟨y124, hy125, h_8⟩ := h_7
  refine fw_deref hy125 ?_
  refine fw_iload_n (i := 1) 1 rfl (show decode _ _ = .ok (.iload_n 1, 1) by decide +kernel) ?_
  obtain ⟨⟨hr127, n126, hs128⟩, h_9⟩ := h_8
  refine fw_putI (kd := 5) (k := 5) (show decode _ _ = .ok (.putfield 70, 3) by decide +kernel) ⟨gf_X9_70, _, rfl, Or.inl rfl⟩ hr127 hs128 rfl ?_
  refine FW.nmM (fun M129 eM130 => ?_)
  have h_10 := h_9 M129 eM130
  refine fw_iconst (v := (0 : Int32)) (show decode _ _ = .ok (.iconst 0, 1) by decide +kernel) (by decide) ?_
  refine fw_istore_n (i := 3) (ls' := [(3, .int (0 : Int32)), (0, .ref p0), (1, .int p1), (2, .int p2)]) (show decode _ _ = .ok (.istore_n 3, 1) by decide +kernel) (by decide) rfl ?_
  refine fw_iconst (v := (0 : Int32)) (show decode _ _ = .ok (.iconst 0, 1) by decide +kernel) (by decide) ?_
  refine fw_istore (i := 4) (ls' := [(4, .int (0 : Int32)), (3, .int (0 : Int32)), (0, .ref p0), (1, .int p1), (2, .int p2)]) (show decode _ _ = .ok (.istore 4, 2) by decide +kernel) (by decide) rfl ?_
  refine FW.sub [2, 4, 1, 0] (ls' := [(0, .ref p0), (2, .int p2), (3, .int (0 : Int32)), (4, .int (0 : Int32))]) rfl ?_
  obtain ⟨nn, h_11⟩ := h_10
  exact sl_X9_weekAct_20 hd nn h_11
def w_X10_week (p0 : Nat) (p1 : Int32) (p2 : Int32) (M : fM) (φ : Int32 → fM → Prop) : Prop := w_X10_isSeed p1 M fun x2 M1 => iF (x2 = 0) (φ (-1 : Int32) M1) (iF (p2 < 0) (φ (-1 : Int32) M1) (iF ((30 : Int32) < p2) (φ (-1 : Int32) M1) (isO M1 p0 10 ∧ dR (mP M1 p0 0) fun y6 => isO M1 y6 5 ∧ iF ((1 : Int32) ≤ (mI M1 y6 4)) (dR (mP M1 p0 4) fun y11 => w_X10_seeded p1 M1 fun x14 M13 => isO M13 y11 9 ∧ w_X9_weekAct y11 x14 p2 M13 fun x19 M15 => φ x19 M15) (φ (-1 : Int32) M1))))
set_option maxRecDepth 100000 in
theorem s_X10_week {g : GT} {d : Nat} (hd : 6 ≤ d) {p0 : Nat} {p1 : Int32} {p2 : Int32} {M : fM} {φ : Int32 → fM → Prop} (h : w_X10_week p0 p1 p2 M φ) : FC g mtX10_week d [.ref p0, .int p1, .int p2] M 0 0 (rI φ) := by
  obtain ⟨d, rfl⟩ : ∃ e, d = e + 1 := ⟨d - 1, by omega⟩
  unfold w_X10_week at h
  refine FC.intro (nL := 3) (by decide) rfl (Nat.le_of_ble_eq_true rfl) ?_
  show FW g mtX10_week (d + 1) 0 [(0, .ref p0), (1, .int p1), (2, .int p2)] [] M 0 0 (rI φ)
  refine fw_iload_n (i := 1) 1 rfl (show decode _ _ = .ok (.iload_n 1, 1) by decide +kernel) ?_
  refine fw_callS (mt' := mtX10_isSeed) (mc := 0) (ms := 0) (As := [.int p1]) (rest := []) 1 (show decode _ _ = .ok (.invokestatic 87, 3) by decide +kernel) cs_X10_87 rfl (Nat.le_of_ble_eq_true rfl) (s_X10_isSeed (d := d) (hd_le hd (by decide)) h) (by decide) (by decide) (kI (bc' := 0) (bs' := 0) (by decide) (by decide) (fun x2 M1 h_1 => ?_))
  refine fw_if_eq 28 (show decode _ _ = .ok (.ifCond .eq 24, 3) by decide +kernel) (by decide) (fun hc23 => ?_) (fun hc23 => ?_)
  · have h_2 := ipos hc23 h_1
    refine fw_iconst (v := (-1 : Int32)) (show decode _ _ = .ok (.iconst (-1), 1) by decide +kernel) (by decide) ?_
    exact fw_ret (v := some (.int (-1 : Int32))) .ireturn (show decode _ _ = .ok (.ireturn, 1) by decide +kernel) ⟨rfl, Or.inl rfl⟩ ⟨_, rfl, h_2⟩
  · have h_3 := ineg hc23 h_1
    refine fw_iload_n (i := 2) 2 rfl (show decode _ _ = .ok (.iload_n 2, 1) by decide +kernel) ?_
    refine fw_if_lt 28 (show decode _ _ = .ok (.ifCond .lt 20, 3) by decide +kernel) (by decide) (fun hc22 => ?_) (fun hc22 => ?_)
    · have h_4 := ipos hc22 h_3
      refine fw_iconst (v := (-1 : Int32)) (show decode _ _ = .ok (.iconst (-1), 1) by decide +kernel) (by decide) ?_
      exact fw_ret (v := some (.int (-1 : Int32))) .ireturn (show decode _ _ = .ok (.ireturn, 1) by decide +kernel) ⟨rfl, Or.inl rfl⟩ ⟨_, rfl, h_4⟩
    · have h_5 := ineg hc22 h_3
      refine fw_iload_n (i := 2) 2 rfl (show decode _ _ = .ok (.iload_n 2, 1) by decide +kernel) ?_
      refine fw_bipush (v := (30 : Int32)) (show decode _ _ = .ok (.bipush 30, 2) by decide +kernel) (by decide) ?_
      refine fw_icmp_gt 28 (show decode _ _ = .ok (.if_icmp .gt 14, 3) by decide +kernel) (by decide) (fun hc21 => ?_) (fun hc21 => ?_)
      · have h_6 := ipos hc21 h_5
        refine fw_iconst (v := (-1 : Int32)) (show decode _ _ = .ok (.iconst (-1), 1) by decide +kernel) (by decide) ?_
        exact fw_ret (v := some (.int (-1 : Int32))) .ireturn (show decode _ _ = .ok (.ireturn, 1) by decide +kernel) ⟨rfl, Or.inl rfl⟩ ⟨_, rfl, h_6⟩
      · have h_7 := ineg hc21 h_5
        refine fw_aload_n (i := 0) 0 rfl (show decode _ _ = .ok (.aload_n 0, 1) by decide +kernel) ?_
        obtain ⟨⟨hr4, n3, hs5⟩, h_8⟩ := h_7
        refine fw_getP (kd := 10) (k := 0) (show decode _ _ = .ok (.getfield 13, 3) by decide +kernel) gf_X10_13 hr4 hs5 rfl ?_
        have h_9 := dR_e h_8
        obtain ⟨y6, hy7, h_10⟩ := h_9
        refine fw_deref hy7 ?_
        obtain ⟨⟨hr9, n8, hs10⟩, h_11⟩ := h_10
        refine fw_getI (kd := 5) (k := 4) (show decode _ _ = .ok (.getfield 156, 3) by decide +kernel) gf_X10_156 hr9 hs10 (Or.inl rfl) ?_
        refine fw_iconst (v := (1 : Int32)) (show decode _ _ = .ok (.iconst 1, 1) by decide +kernel) (by decide) ?_
        refine fw_icmp_ge 30 (show decode _ _ = .ok (.if_icmp .ge 5, 3) by decide +kernel) (by decide) (fun hc20 => ?_) (fun hc20 => ?_)
        · have h_12 := ipos hc20 h_11
          refine fw_aload_n (i := 0) 0 rfl (show decode _ _ = .ok (.aload_n 0, 1) by decide +kernel) ?_
          refine fw_getP (kd := 10) (k := 4) (show decode _ _ = .ok (.getfield 43, 3) by decide +kernel) gf_X10_43 hr4 hs5 rfl ?_
          have h_13 := dR_e h_12
          obtain ⟨y11, hy12, h_14⟩ := h_13
          refine fw_deref hy12 ?_
          refine fw_iload_n (i := 1) 1 rfl (show decode _ _ = .ok (.iload_n 1, 1) by decide +kernel) ?_
          refine fw_callS (mt' := mtX10_seeded) (mc := 0) (ms := 0) (As := [.int p1]) (rest := [.ref y11]) 1 (show decode _ _ = .ok (.invokestatic 91, 3) by decide +kernel) cs_X10_91 rfl (Nat.le_of_ble_eq_true rfl) (s_X10_seeded (d := d) (hd_le hd (by decide)) h_14) (by decide) (by decide) (kI (bc' := 0) (bs' := 0) (by decide) (by decide) (fun x14 M13 h_15 => ?_))
          refine fw_iload_n (i := 2) 2 rfl (show decode _ _ = .ok (.iload_n 2, 1) by decide +kernel) ?_
          obtain ⟨⟨hr17, n16, hs18⟩, h_16⟩ := h_15
          refine fw_callV (mt' := mtX9_weekAct) (mc := 0) (ms := 0) (As := [.int x14, .int p2]) (rest := []) 2 9 n16 (show decode _ _ = .ok (.invokevirtual 159, 3) by decide +kernel) cv_X10_159 ⟨_, rfl, rfl⟩ hr17 hs18 rfl (Nat.le_of_ble_eq_true rfl) (s_X9_weekAct (d := d) (hd_le hd (by decide)) h_16) (by decide) (by decide) (kI (bc' := 0) (bs' := 0) (by decide) (by decide) (fun x19 M15 h_17 => ?_))
          exact fw_ret (v := some (.int x19)) .ireturn (show decode _ _ = .ok (.ireturn, 1) by decide +kernel) ⟨rfl, Or.inl rfl⟩ ⟨_, rfl, h_17⟩
        · have h_18 := ineg hc20 h_11
          refine fw_iconst (v := (-1 : Int32)) (show decode _ _ = .ok (.iconst (-1), 1) by decide +kernel) (by decide) ?_
          exact fw_ret (v := some (.int (-1 : Int32))) .ireturn (show decode _ _ = .ok (.ireturn, 1) by decide +kernel) ⟨rfl, Or.inl rfl⟩ ⟨_, rfl, h_18⟩
def b_X3_oddsAt_36 (K36 : Nat → Int32 → Int32 → Int32 → Int64 → Int32 → fM → Prop) (φ : Int64 → fM → Prop) (p0 : Nat) (p1 : Int32) (p2 : Int32) (p3 : Int32) (p4 : Int64) (p6 : Int32) (M : fM) : Prop := isO M p0 3 ∧ iF ((mI M p0 3) < p6) (iF ((lg_cmp p4 (0 : Int64)) = 0) (φ (-1 : Int64) M) (w_X3_evenChance p0 p2 p1 M fun x5 M4 => w_X10_part x5 p4 p3 M4 fun x7 M6 => φ x7 M6)) (w_X3_evenChance p0 p6 p1 M fun x10 M9 => nm (p4 + x10) fun x11 => nm (p6 + (1 : Int32)) fun x13 => K36 p0 p1 p2 p3 x11 x13 M9)
def l_X3_oddsAt_36 (φ : Int64 → fM → Prop) : Nat → Nat → Int32 → Int32 → Int32 → Int64 → Int32 → fM → Prop
  | 0, _, _, _, _, _, _, _ => False
  | n + 1, p0, p1, p2, p3, p4, p6, M => b_X3_oddsAt_36 (l_X3_oddsAt_36 φ n) φ p0 p1 p2 p3 p4 p6 M
set_option maxRecDepth 100000 in
theorem sb_X3_oddsAt_36 {g : GT} {d : Nat} (hd : 5 ≤ d + 1) {K36 : Nat → Int32 → Int32 → Int32 → Int64 → Int32 → fM → Prop} {φ : Int64 → fM → Prop} (hK36 : ∀ (p0 : Nat) (p1 : Int32) (p2 : Int32) (p3 : Int32) (p4 : Int64) (p6 : Int32) (M : fM), K36 p0 p1 p2 p3 p4 p6 M → FW g mtX3_oddsAt (d + 1) 36 [(0, .ref p0), (1, .int p1), (2, .int p2), (3, .int p3), (4, .long p4), (6, .int p6)] [] M 0 0 (rJ φ)) {p0 : Nat} {p1 : Int32} {p2 : Int32} {p3 : Int32} {p4 : Int64} {p6 : Int32} {M : fM} (h : b_X3_oddsAt_36 K36 φ p0 p1 p2 p3 p4 p6 M) : FW g mtX3_oddsAt (d + 1) 36 [(0, .ref p0), (1, .int p1), (2, .int p2), (3, .int p3), (4, .long p4), (6, .int p6)] [] M 0 0 (rJ φ) := by
  unfold b_X3_oddsAt_36 at h
  refine fw_iload (i := 6) 5 rfl (show decode _ _ = .ok (.iload 6, 2) by decide +kernel) ?_
  refine fw_aload_n (i := 0) 0 rfl (show decode _ _ = .ok (.aload_n 0, 1) by decide +kernel) ?_
  obtain ⟨⟨hr2, n1, hs3⟩, h_1⟩ := h
  refine fw_getI (kd := 3) (k := 3) (show decode _ _ = .ok (.getfield 52, 3) by decide +kernel) gf_X3_52 hr2 hs3 (Or.inl rfl) ?_
  refine fw_icmp_gt 63 (show decode _ _ = .ok (.if_icmp .gt 21, 3) by decide +kernel) (by decide) (fun hc15 => ?_) (fun hc15 => ?_)
  · have h_2 := ipos hc15 h_1
    refine fw_lload (i := 4) 4 rfl (show decode _ _ = .ok (.lload 4, 2) by decide +kernel) ?_
    refine fw_lconst (v := (0 : Int64)) (show decode _ _ = .ok (.lconst 0, 1) by decide +kernel) (by decide) ?_
    refine fw_lcmp (show decode _ _ = .ok (.lcmp, 1) by decide +kernel) ?_
    refine fw_if_ne 76 (show decode _ _ = .ok (.ifCond .ne 9, 3) by decide +kernel) (by decide) (fun hc8 => ?_) (fun hc8 => ?_)
    · have h_3 := ineg hc8 h_2
      refine fw_aload_n (i := 0) 0 rfl (show decode _ _ = .ok (.aload_n 0, 1) by decide +kernel) ?_
      refine fw_iload_n (i := 2) 2 rfl (show decode _ _ = .ok (.iload_n 2, 1) by decide +kernel) ?_
      refine fw_iload_n (i := 1) 1 rfl (show decode _ _ = .ok (.iload_n 1, 1) by decide +kernel) ?_
      refine fw_callV (mt' := mtX3_evenChance) (mc := 0) (ms := 0) (As := [.int p2, .int p1]) (rest := []) 2 3 n1 (show decode _ _ = .ok (.invokevirtual 148, 3) by decide +kernel) cv_X3_148 ⟨_, rfl, rfl⟩ hr2 hs3 rfl (Nat.le_of_ble_eq_true rfl) (s_X3_evenChance (d := d) (hd_le hd (by decide)) h_3) (by decide) (by decide) (kJ (bc' := 0) (bs' := 0) (by decide) (by decide) (fun x5 M4 h_4 => ?_))
      refine fw_lload (i := 4) 4 rfl (show decode _ _ = .ok (.lload 4, 2) by decide +kernel) ?_
      refine fw_iload_n (i := 3) 3 rfl (show decode _ _ = .ok (.iload_n 3, 1) by decide +kernel) ?_
      refine fw_callSN (mt' := mtX10_part) (mc := 0) (ms := 0) (As := [.long x5, .long p4, .int p3]) (rest := []) 3 "OneStepMore" (show decode _ _ = .ok (.invokestatic 151, 3) by decide +kernel) ns_X3_151 rfl (Nat.le_of_ble_eq_true rfl) (s_X10_part (d := d) (hd_le hd (by decide)) h_4) (by decide) (by decide) (kJ (bc' := 0) (bs' := 0) (by decide) (by decide) (fun x7 M6 h_5 => ?_))
      exact fw_ret (v := some (.long x7)) .lreturn (show decode _ _ = .ok (.lreturn, 1) by decide +kernel) ⟨rfl, rfl⟩ ⟨_, rfl, h_5⟩
    · have h_6 := ipos hc8 h_2
      refine fw_ldc2 (idx := 143) (v := (-1 : Int64)) (show decode _ _ = .ok (.ldc2_w 143, 3) by decide +kernel) wd1110 ?_
      refine fw_goto 88 (show decode _ _ = .ok (.goto 15, 3) by decide +kernel) (by decide) ?_
      exact fw_ret (v := some (.long (-1 : Int64))) .lreturn (show decode _ _ = .ok (.lreturn, 1) by decide +kernel) ⟨rfl, rfl⟩ ⟨_, rfl, h_6⟩
  · have h_7 := ineg hc15 h_1
    refine fw_lload (i := 4) 4 rfl (show decode _ _ = .ok (.lload 4, 2) by decide +kernel) ?_
    refine fw_aload_n (i := 0) 0 rfl (show decode _ _ = .ok (.aload_n 0, 1) by decide +kernel) ?_
    refine fw_iload (i := 6) 5 rfl (show decode _ _ = .ok (.iload 6, 2) by decide +kernel) ?_
    refine fw_iload_n (i := 1) 1 rfl (show decode _ _ = .ok (.iload_n 1, 1) by decide +kernel) ?_
    refine fw_callV (mt' := mtX3_evenChance) (mc := 0) (ms := 0) (As := [.int p6, .int p1]) (rest := [.long p4]) 2 3 n1 (show decode _ _ = .ok (.invokevirtual 148, 3) by decide +kernel) cv_X3_148 ⟨_, rfl, rfl⟩ hr2 hs3 rfl (Nat.le_of_ble_eq_true rfl) (s_X3_evenChance (d := d) (hd_le hd (by decide)) h_7) (by decide) (by decide) (kJ (bc' := 0) (bs' := 0) (by decide) (by decide) (fun x10 M9 h_8 => ?_))
    refine fw_ladd (show decode _ _ = .ok (.ladd, 1) by decide +kernel) ?_
    refine fw_nmJ (fun x11 ex12 => ?_)
    have h_9 := h_8 x11 ex12
    refine fw_lstore (i := 4) (ls' := [(4, .long x11), (0, .ref p0), (1, .int p1), (2, .int p2), (3, .int p3), (6, .int p6)]) (show decode _ _ = .ok (.lstore 4, 2) by decide +kernel) (by decide) rfl ?_
    obtain ⟨x13, ex14⟩ : ∃ y : Int32, y = p6 + (1 : Int32) := ⟨_, rfl⟩
    have h_10 := h_9 x13 ex14
    refine fw_iinc (i := 6) (x := p6) (v := x13) (ls' := [(6, .int x13), (4, .long x11), (0, .ref p0), (1, .int p1), (2, .int p2), (3, .int p3)]) 5 rfl (show decode _ _ = .ok (.iinc 6 1, 3) by decide +kernel) (by rw [ex14]; rfl) (by decide) rfl ?_
    refine fw_goto 36 (show decode _ _ = .ok (.goto (-24), 3) by decide +kernel) (by decide) ?_
    refine FW.sub [2, 3, 4, 5, 1, 0] (ls' := [(0, .ref p0), (1, .int p1), (2, .int p2), (3, .int p3), (4, .long x11), (6, .int x13)]) rfl ?_
    exact hK36 _ _ _ _ _ _ _ h_10
theorem sl_X3_oddsAt_36 {g : GT} {d : Nat} (hd : 5 ≤ d + 1) {φ : Int64 → fM → Prop} : ∀ (n : Nat) {p0 : Nat} {p1 : Int32} {p2 : Int32} {p3 : Int32} {p4 : Int64} {p6 : Int32} {M : fM}, l_X3_oddsAt_36 φ n p0 p1 p2 p3 p4 p6 M → FW g mtX3_oddsAt (d + 1) 36 [(0, .ref p0), (1, .int p1), (2, .int p2), (3, .int p3), (4, .long p4), (6, .int p6)] [] M 0 0 (rJ φ)
  | 0 => fun h => h.elim
  | n + 1 => fun h => sb_X3_oddsAt_36 hd (fun _ _ _ _ _ _ _ h => sl_X3_oddsAt_36 hd n h) h
def w_X3_oddsAt (p0 : Nat) (p1 : Int32) (p2 : Int32) (p3 : Int32) (M : fM) (φ : Int64 → fM → Prop) : Prop := iF (p1 < 0) (φ (-1 : Int64) M) (iF ((30 : Int32) ≤ p1) (φ (-1 : Int64) M) (iF (p2 < 0) (φ (-1 : Int64) M) (isO M p0 3 ∧ iF (p2 ≤ (mI M p0 3)) (w_X3_spread p0 M fun M19 => ∃ n, l_X3_oddsAt_36 φ n p0 p1 p2 p3 (0 : Int64) (0 : Int32) M19) (φ (-1 : Int64) M))))
set_option maxRecDepth 100000 in
theorem s_X3_oddsAt {g : GT} {d : Nat} (hd : 5 ≤ d) {p0 : Nat} {p1 : Int32} {p2 : Int32} {p3 : Int32} {M : fM} {φ : Int64 → fM → Prop} (h : w_X3_oddsAt p0 p1 p2 p3 M φ) : FC g mtX3_oddsAt d [.ref p0, .int p1, .int p2, .int p3] M 0 0 (rJ φ) := by
  obtain ⟨d, rfl⟩ : ∃ e, d = e + 1 := ⟨d - 1, by omega⟩
  unfold w_X3_oddsAt at h
  refine FC.intro (nL := 7) (by decide) rfl (Nat.le_of_ble_eq_true rfl) ?_
  show FW g mtX3_oddsAt (d + 1) 0 [(0, .ref p0), (1, .int p1), (2, .int p2), (3, .int p3)] [] M 0 0 (rJ φ)
  refine fw_iload_n (i := 1) 1 rfl (show decode _ _ = .ok (.iload_n 1, 1) by decide +kernel) ?_
  refine fw_if_lt 22 (show decode _ _ = .ok (.ifCond .lt 21, 3) by decide +kernel) (by decide) (fun hc23 => ?_) (fun hc23 => ?_)
  · have h_1 := ipos hc23 h
    refine fw_ldc2 (idx := 143) (v := (-1 : Int64)) (show decode _ _ = .ok (.ldc2_w 143, 3) by decide +kernel) wd1110 ?_
    exact fw_ret (v := some (.long (-1 : Int64))) .lreturn (show decode _ _ = .ok (.lreturn, 1) by decide +kernel) ⟨rfl, rfl⟩ ⟨_, rfl, h_1⟩
  · have h_2 := ineg hc23 h
    refine fw_iload_n (i := 1) 1 rfl (show decode _ _ = .ok (.iload_n 1, 1) by decide +kernel) ?_
    refine fw_bipush (v := (30 : Int32)) (show decode _ _ = .ok (.bipush 30, 2) by decide +kernel) (by decide) ?_
    refine fw_icmp_ge 22 (show decode _ _ = .ok (.if_icmp .ge 15, 3) by decide +kernel) (by decide) (fun hc22 => ?_) (fun hc22 => ?_)
    · have h_3 := ipos hc22 h_2
      refine fw_ldc2 (idx := 143) (v := (-1 : Int64)) (show decode _ _ = .ok (.ldc2_w 143, 3) by decide +kernel) wd1110 ?_
      exact fw_ret (v := some (.long (-1 : Int64))) .lreturn (show decode _ _ = .ok (.lreturn, 1) by decide +kernel) ⟨rfl, rfl⟩ ⟨_, rfl, h_3⟩
    · have h_4 := ineg hc22 h_2
      refine fw_iload_n (i := 2) 2 rfl (show decode _ _ = .ok (.iload_n 2, 1) by decide +kernel) ?_
      refine fw_if_lt 22 (show decode _ _ = .ok (.ifCond .lt 11, 3) by decide +kernel) (by decide) (fun hc21 => ?_) (fun hc21 => ?_)
      · have h_5 := ipos hc21 h_4
        refine fw_ldc2 (idx := 143) (v := (-1 : Int64)) (show decode _ _ = .ok (.ldc2_w 143, 3) by decide +kernel) wd1110 ?_
        exact fw_ret (v := some (.long (-1 : Int64))) .lreturn (show decode _ _ = .ok (.lreturn, 1) by decide +kernel) ⟨rfl, rfl⟩ ⟨_, rfl, h_5⟩
      · have h_6 := ineg hc21 h_4
        refine fw_iload_n (i := 2) 2 rfl (show decode _ _ = .ok (.iload_n 2, 1) by decide +kernel) ?_
        refine fw_aload_n (i := 0) 0 rfl (show decode _ _ = .ok (.aload_n 0, 1) by decide +kernel) ?_
        obtain ⟨⟨hr17, n16, hs18⟩, h_7⟩ := h_6
        refine fw_getI (kd := 3) (k := 3) (show decode _ _ = .ok (.getfield 52, 3) by decide +kernel) gf_X3_52 hr17 hs18 (Or.inl rfl) ?_
        refine fw_icmp_le 26 (show decode _ _ = .ok (.if_icmp .le 7, 3) by decide +kernel) (by decide) (fun hc20 => ?_) (fun hc20 => ?_)
        · have h_8 := ipos hc20 h_7
          refine fw_aload_n (i := 0) 0 rfl (show decode _ _ = .ok (.aload_n 0, 1) by decide +kernel) ?_
          refine fw_callV (mt' := mtX3_spread) (mc := 0) (ms := 0) (As := []) (rest := []) 0 3 n16 (show decode _ _ = .ok (.invokevirtual 145, 3) by decide +kernel) cv_X3_145 ⟨_, rfl, rfl⟩ hr17 hs18 rfl (Nat.le_of_ble_eq_true rfl) (s_X3_spread (d := d) (hd_le hd (by decide)) h_8) (by decide) (by decide) (kV (bc' := 0) (bs' := 0) (by decide) (by decide) (fun M19 h_9 => ?_))
          refine fw_lconst (v := (0 : Int64)) (show decode _ _ = .ok (.lconst 0, 1) by decide +kernel) (by decide) ?_
          refine fw_lstore (i := 4) (ls' := [(4, .long (0 : Int64)), (0, .ref p0), (1, .int p1), (2, .int p2), (3, .int p3)]) (show decode _ _ = .ok (.lstore 4, 2) by decide +kernel) (by decide) rfl ?_
          refine fw_iconst (v := (0 : Int32)) (show decode _ _ = .ok (.iconst 0, 1) by decide +kernel) (by decide) ?_
          refine fw_istore (i := 6) (ls' := [(6, .int (0 : Int32)), (4, .long (0 : Int64)), (0, .ref p0), (1, .int p1), (2, .int p2), (3, .int p3)]) (show decode _ _ = .ok (.istore 6, 2) by decide +kernel) (by decide) rfl ?_
          refine FW.sub [2, 3, 4, 5, 1, 0] (ls' := [(0, .ref p0), (1, .int p1), (2, .int p2), (3, .int p3), (4, .long (0 : Int64)), (6, .int (0 : Int32))]) rfl ?_
          obtain ⟨nn, h_10⟩ := h_9
          exact sl_X3_oddsAt_36 hd nn h_10
        · have h_11 := ineg hc20 h_7
          refine fw_ldc2 (idx := 143) (v := (-1 : Int64)) (show decode _ _ = .ok (.ldc2_w 143, 3) by decide +kernel) wd1110 ?_
          exact fw_ret (v := some (.long (-1 : Int64))) .lreturn (show decode _ _ = .ok (.lreturn, 1) by decide +kernel) ⟨rfl, rfl⟩ ⟨_, rfl, h_11⟩
def w_X10_where (p0 : Nat) (p1 : Int32) (p2 : Int32) (p3 : Int32) (p4 : Int32) (p5 : Int32) (p6 : Int32) (M : fM) (φ : Int64 → fM → Prop) : Prop := isO M p0 10 ∧ dR (mP M p0 5) fun y4 => isO M y4 3 ∧ w_X3_look y4 p1 p2 p3 M fun x10 M6 => iF (x10 = 0) (φ (-1 : Int64) M6) (isO M6 p0 10 ∧ dR (mP M6 p0 5) fun y14 => isO M6 y14 3 ∧ w_X3_oddsAt y14 p4 p5 p6 M6 fun x20 M16 => φ x20 M16)
set_option maxRecDepth 100000 in
theorem s_X10_where {g : GT} {d : Nat} (hd : 6 ≤ d) {p0 : Nat} {p1 : Int32} {p2 : Int32} {p3 : Int32} {p4 : Int32} {p5 : Int32} {p6 : Int32} {M : fM} {φ : Int64 → fM → Prop} (h : w_X10_where p0 p1 p2 p3 p4 p5 p6 M φ) : FC g mtX10_where d [.ref p0, .int p1, .int p2, .int p3, .int p4, .int p5, .int p6] M 0 0 (rJ φ) := by
  obtain ⟨d, rfl⟩ : ∃ e, d = e + 1 := ⟨d - 1, by omega⟩
  unfold w_X10_where at h
  refine FC.intro (nL := 7) (by decide) rfl (Nat.le_of_ble_eq_true rfl) ?_
  show FW g mtX10_where (d + 1) 0 [(0, .ref p0), (1, .int p1), (2, .int p2), (3, .int p3), (4, .int p4), (5, .int p5), (6, .int p6)] [] M 0 0 (rJ φ)
  refine fw_aload_n (i := 0) 0 rfl (show decode _ _ = .ok (.aload_n 0, 1) by decide +kernel) ?_
  obtain ⟨⟨hr2, n1, hs3⟩, h_1⟩ := h
  refine fw_getP (kd := 10) (k := 5) (show decode _ _ = .ok (.getfield 50, 3) by decide +kernel) gf_X10_50 hr2 hs3 rfl ?_
  have h_2 := dR_e h_1
  obtain ⟨y4, hy5, h_3⟩ := h_2
  refine fw_deref hy5 ?_
  refine fw_iload_n (i := 1) 1 rfl (show decode _ _ = .ok (.iload_n 1, 1) by decide +kernel) ?_
  refine fw_iload_n (i := 2) 2 rfl (show decode _ _ = .ok (.iload_n 2, 1) by decide +kernel) ?_
  refine fw_iload_n (i := 3) 3 rfl (show decode _ _ = .ok (.iload_n 3, 1) by decide +kernel) ?_
  obtain ⟨⟨hr8, n7, hs9⟩, h_4⟩ := h_3
  refine fw_callV (mt' := mtX3_look) (mc := 0) (ms := 0) (As := [.int p1, .int p2, .int p3]) (rest := []) 3 3 n7 (show decode _ _ = .ok (.invokevirtual 203, 3) by decide +kernel) cv_X10_203 ⟨_, rfl, rfl⟩ hr8 hs9 rfl (Nat.le_of_ble_eq_true rfl) (s_X3_look (d := d) (hd_le hd (by decide)) h_4) (by decide) (by decide) (kI (bc' := 0) (bs' := 0) (by decide) (by decide) (fun x10 M6 h_5 => ?_))
  refine fw_if_eq 29 (show decode _ _ = .ok (.ifCond .eq 19, 3) by decide +kernel) (by decide) (fun hc21 => ?_) (fun hc21 => ?_)
  · have h_6 := ipos hc21 h_5
    refine fw_ldc2 (idx := 210) (v := (-1 : Int64)) (show decode _ _ = .ok (.ldc2_w 210, 3) by decide +kernel) wd1151 ?_
    exact fw_ret (v := some (.long (-1 : Int64))) .lreturn (show decode _ _ = .ok (.lreturn, 1) by decide +kernel) ⟨rfl, rfl⟩ ⟨_, rfl, h_6⟩
  · have h_7 := ineg hc21 h_5
    refine fw_aload_n (i := 0) 0 rfl (show decode _ _ = .ok (.aload_n 0, 1) by decide +kernel) ?_
    obtain ⟨⟨hr12, n11, hs13⟩, h_8⟩ := h_7
    refine fw_getP (kd := 10) (k := 5) (show decode _ _ = .ok (.getfield 50, 3) by decide +kernel) gf_X10_50 hr12 hs13 rfl ?_
    have h_9 := dR_e h_8
    obtain ⟨y14, hy15, h_10⟩ := h_9
    refine fw_deref hy15 ?_
    refine fw_iload (i := 4) 4 rfl (show decode _ _ = .ok (.iload 4, 2) by decide +kernel) ?_
    refine fw_iload (i := 5) 5 rfl (show decode _ _ = .ok (.iload 5, 2) by decide +kernel) ?_
    refine fw_iload (i := 6) 6 rfl (show decode _ _ = .ok (.iload 6, 2) by decide +kernel) ?_
    obtain ⟨⟨hr18, n17, hs19⟩, h_11⟩ := h_10
    refine fw_callV (mt' := mtX3_oddsAt) (mc := 0) (ms := 0) (As := [.int p4, .int p5, .int p6]) (rest := []) 3 3 n17 (show decode _ _ = .ok (.invokevirtual 206, 3) by decide +kernel) cv_X10_206 ⟨_, rfl, rfl⟩ hr18 hs19 rfl (Nat.le_of_ble_eq_true rfl) (s_X3_oddsAt (d := d) (hd_le hd (by decide)) h_11) (by decide) (by decide) (kJ (bc' := 0) (bs' := 0) (by decide) (by decide) (fun x20 M16 h_12 => ?_))
    refine fw_goto 32 (show decode _ _ = .ok (.goto 6, 3) by decide +kernel) (by decide) ?_
    exact fw_ret (v := some (.long x20)) .lreturn (show decode _ _ = .ok (.lreturn, 1) by decide +kernel) ⟨rfl, rfl⟩ ⟨_, rfl, h_12⟩
def w_X3_chanceOfJar (p0 : Nat) (p1 : Int32) (M : fM) (φ : Int64 → fM → Prop) : Prop := isO M p0 3 ∧ w_X3_chance p0 (mI M p0 3) p1 M fun x5 M4 => isO M4 p0 3 ∧ w_X3_power ((14 : Int32) - (mI M4 p0 3)) M4 fun x10 M9 => φ (x5 * x10) M9
set_option maxRecDepth 100000 in
theorem s_X3_chanceOfJar {g : GT} {d : Nat} (hd : 2 ≤ d) {p0 : Nat} {p1 : Int32} {M : fM} {φ : Int64 → fM → Prop} (h : w_X3_chanceOfJar p0 p1 M φ) : FC g mtX3_chanceOfJar d [.ref p0, .int p1] M 0 0 (rJ φ) := by
  obtain ⟨d, rfl⟩ : ∃ e, d = e + 1 := ⟨d - 1, by omega⟩
  unfold w_X3_chanceOfJar at h
  refine FC.intro (nL := 2) (by decide) rfl (Nat.le_of_ble_eq_true rfl) ?_
  show FW g mtX3_chanceOfJar (d + 1) 0 [(0, .ref p0), (1, .int p1)] [] M 0 0 (rJ φ)
  refine fw_aload_n (i := 0) 0 rfl (show decode _ _ = .ok (.aload_n 0, 1) by decide +kernel) ?_
  refine fw_aload_n (i := 0) 0 rfl (show decode _ _ = .ok (.aload_n 0, 1) by decide +kernel) ?_
  obtain ⟨⟨hr2, n1, hs3⟩, h_1⟩ := h
  refine fw_getI (kd := 3) (k := 3) (show decode _ _ = .ok (.getfield 52, 3) by decide +kernel) gf_X3_52 hr2 hs3 (Or.inl rfl) ?_
  refine fw_iload_n (i := 1) 1 rfl (show decode _ _ = .ok (.iload_n 1, 1) by decide +kernel) ?_
  refine fw_callV (mt' := mtX3_chance) (mc := 0) (ms := 0) (As := [.int (mI M p0 3), .int p1]) (rest := []) 2 3 n1 (show decode _ _ = .ok (.invokevirtual 130, 3) by decide +kernel) cv_X3_130 ⟨_, rfl, rfl⟩ hr2 hs3 rfl (Nat.le_of_ble_eq_true rfl) (s_X3_chance (d := d) (hd_le hd (by decide)) h_1) (by decide) (by decide) (kJ (bc' := 0) (bs' := 0) (by decide) (by decide) (fun x5 M4 h_2 => ?_))
  refine fw_bipush (v := (14 : Int32)) (show decode _ _ = .ok (.bipush 14, 2) by decide +kernel) (by decide) ?_
  refine fw_aload_n (i := 0) 0 rfl (show decode _ _ = .ok (.aload_n 0, 1) by decide +kernel) ?_
  obtain ⟨⟨hr7, n6, hs8⟩, h_3⟩ := h_2
  refine fw_getI (kd := 3) (k := 3) (show decode _ _ = .ok (.getfield 52, 3) by decide +kernel) gf_X3_52 hr7 hs8 (Or.inl rfl) ?_
  refine fw_isub (show decode _ _ = .ok (.isub, 1) by decide +kernel) ?_
  refine fw_callS (mt' := mtX3_power) (mc := 0) (ms := 0) (As := [.int ((14 : Int32) - (mI M4 p0 3))]) (rest := [.long x5]) 1 (show decode _ _ = .ok (.invokestatic 136, 3) by decide +kernel) cs_X3_136 rfl (Nat.le_of_ble_eq_true rfl) (s_X3_power (d := d) (hd_le hd (by decide)) h_3) (by decide) (by decide) (kJ (bc' := 0) (bs' := 0) (by decide) (by decide) (fun x10 M9 h_4 => ?_))
  refine fw_lmul (show decode _ _ = .ok (.lmul, 1) by decide +kernel) ?_
  exact fw_ret (v := some (.long (x5 * x10))) .lreturn (show decode _ _ = .ok (.lreturn, 1) by decide +kernel) ⟨rfl, rfl⟩ ⟨_, rfl, h_4⟩
def w_X3_oddsOfLanding (p0 : Nat) (p1 : Int32) (p2 : Int32) (M : fM) (φ : Int64 → fM → Prop) : Prop := iF (p1 < 0) (φ (-1 : Int64) M) (iF (p1 < (30 : Int32)) (isO M p0 3 ∧ w_X3_spread p0 M fun M1 => isO M1 p0 3 ∧ w_X3_chanceOfJar p0 p1 M1 fun x9 M5 => isO M5 p0 3 ∧ w_X3_spreadFrom p0 (0 : Int32) (mI M5 p0 6) (mI M5 p0 5) M5 fun M13 => iF ((lg_cmp x9 (0 : Int64)) = 0) (φ (-1 : Int64) M13) (isO M13 p0 3 ∧ w_X3_chanceOfJar p0 p1 M13 fun x18 M14 => w_X10_part x18 x9 p2 M14 fun x20 M19 => φ x20 M19)) (φ (-1 : Int64) M))
set_option maxRecDepth 100000 in
theorem s_X3_oddsOfLanding {g : GT} {d : Nat} (hd : 5 ≤ d) {p0 : Nat} {p1 : Int32} {p2 : Int32} {M : fM} {φ : Int64 → fM → Prop} (h : w_X3_oddsOfLanding p0 p1 p2 M φ) : FC g mtX3_oddsOfLanding d [.ref p0, .int p1, .int p2] M 0 0 (rJ φ) := by
  obtain ⟨d, rfl⟩ : ∃ e, d = e + 1 := ⟨d - 1, by omega⟩
  unfold w_X3_oddsOfLanding at h
  refine FC.intro (nL := 5) (by decide) rfl (Nat.le_of_ble_eq_true rfl) ?_
  show FW g mtX3_oddsOfLanding (d + 1) 0 [(0, .ref p0), (1, .int p1), (2, .int p2)] [] M 0 0 (rJ φ)
  refine fw_iload_n (i := 1) 1 rfl (show decode _ _ = .ok (.iload_n 1, 1) by decide +kernel) ?_
  refine fw_if_lt 10 (show decode _ _ = .ok (.ifCond .lt 9, 3) by decide +kernel) (by decide) (fun hc23 => ?_) (fun hc23 => ?_)
  · have h_1 := ipos hc23 h
    refine fw_ldc2 (idx := 143) (v := (-1 : Int64)) (show decode _ _ = .ok (.ldc2_w 143, 3) by decide +kernel) wd1110 ?_
    exact fw_ret (v := some (.long (-1 : Int64))) .lreturn (show decode _ _ = .ok (.lreturn, 1) by decide +kernel) ⟨rfl, rfl⟩ ⟨_, rfl, h_1⟩
  · have h_2 := ineg hc23 h
    refine fw_iload_n (i := 1) 1 rfl (show decode _ _ = .ok (.iload_n 1, 1) by decide +kernel) ?_
    refine fw_bipush (v := (30 : Int32)) (show decode _ _ = .ok (.bipush 30, 2) by decide +kernel) (by decide) ?_
    refine fw_icmp_lt 14 (show decode _ _ = .ok (.if_icmp .lt 7, 3) by decide +kernel) (by decide) (fun hc22 => ?_) (fun hc22 => ?_)
    · have h_3 := ipos hc22 h_2
      refine fw_aload_n (i := 0) 0 rfl (show decode _ _ = .ok (.aload_n 0, 1) by decide +kernel) ?_
      obtain ⟨⟨hr3, n2, hs4⟩, h_4⟩ := h_3
      refine fw_callV (mt' := mtX3_spread) (mc := 0) (ms := 0) (As := []) (rest := []) 0 3 n2 (show decode _ _ = .ok (.invokevirtual 145, 3) by decide +kernel) cv_X3_145 ⟨_, rfl, rfl⟩ hr3 hs4 rfl (Nat.le_of_ble_eq_true rfl) (s_X3_spread (d := d) (hd_le hd (by decide)) h_4) (by decide) (by decide) (kV (bc' := 0) (bs' := 0) (by decide) (by decide) (fun M1 h_5 => ?_))
      refine fw_aload_n (i := 0) 0 rfl (show decode _ _ = .ok (.aload_n 0, 1) by decide +kernel) ?_
      refine fw_iload_n (i := 1) 1 rfl (show decode _ _ = .ok (.iload_n 1, 1) by decide +kernel) ?_
      obtain ⟨⟨hr7, n6, hs8⟩, h_6⟩ := h_5
      refine fw_callV (mt' := mtX3_chanceOfJar) (mc := 0) (ms := 0) (As := [.int p1]) (rest := []) 1 3 n6 (show decode _ _ = .ok (.invokevirtual 187, 3) by decide +kernel) cv_X3_187 ⟨_, rfl, rfl⟩ hr7 hs8 rfl (Nat.le_of_ble_eq_true rfl) (s_X3_chanceOfJar (d := d) (hd_le hd (by decide)) h_6) (by decide) (by decide) (kJ (bc' := 0) (bs' := 0) (by decide) (by decide) (fun x9 M5 h_7 => ?_))
      refine fw_lstore_n (i := 3) (ls' := [(3, .long x9), (0, .ref p0), (1, .int p1), (2, .int p2)]) (show decode _ _ = .ok (.lstore_n 3, 1) by decide +kernel) (by decide) rfl ?_
      refine fw_aload_n (i := 0) 1 rfl (show decode _ _ = .ok (.aload_n 0, 1) by decide +kernel) ?_
      refine fw_iconst (v := (0 : Int32)) (show decode _ _ = .ok (.iconst 0, 1) by decide +kernel) (by decide) ?_
      refine fw_aload_n (i := 0) 1 rfl (show decode _ _ = .ok (.aload_n 0, 1) by decide +kernel) ?_
      obtain ⟨⟨hr11, n10, hs12⟩, h_8⟩ := h_7
      refine fw_getI (kd := 3) (k := 6) (show decode _ _ = .ok (.getfield 68, 3) by decide +kernel) gf_X3_68 hr11 hs12 (Or.inl rfl) ?_
      refine fw_aload_n (i := 0) 1 rfl (show decode _ _ = .ok (.aload_n 0, 1) by decide +kernel) ?_
      refine fw_getI (kd := 3) (k := 5) (show decode _ _ = .ok (.getfield 60, 3) by decide +kernel) gf_X3_60 hr11 hs12 (Or.inl rfl) ?_
      refine fw_callV (mt' := mtX3_spreadFrom) (mc := 0) (ms := 0) (As := [.int (0 : Int32), .int (mI M5 p0 6), .int (mI M5 p0 5)]) (rest := []) 3 3 n10 (show decode _ _ = .ok (.invokevirtual 109, 3) by decide +kernel) cv_X3_109 ⟨_, rfl, rfl⟩ hr11 hs12 rfl (Nat.le_of_ble_eq_true rfl) (s_X3_spreadFrom (d := d) (hd_le hd (by decide)) h_8) (by decide) (by decide) (kV (bc' := 0) (bs' := 0) (by decide) (by decide) (fun M13 h_9 => ?_))
      refine fw_lload_n (i := 3) 0 rfl (show decode _ _ = .ok (.lload_n 3, 1) by decide +kernel) ?_
      refine fw_lconst (v := (0 : Int64)) (show decode _ _ = .ok (.lconst 0, 1) by decide +kernel) (by decide) ?_
      refine fw_lcmp (show decode _ _ = .ok (.lcmp, 1) by decide +kernel) ?_
      refine fw_if_ne 49 (show decode _ _ = .ok (.ifCond .ne 9, 3) by decide +kernel) (by decide) (fun hc21 => ?_) (fun hc21 => ?_)
      · have h_10 := ineg hc21 h_9
        refine fw_aload_n (i := 0) 1 rfl (show decode _ _ = .ok (.aload_n 0, 1) by decide +kernel) ?_
        refine fw_iload_n (i := 1) 2 rfl (show decode _ _ = .ok (.iload_n 1, 1) by decide +kernel) ?_
        obtain ⟨⟨hr16, n15, hs17⟩, h_11⟩ := h_10
        refine fw_callV (mt' := mtX3_chanceOfJar) (mc := 0) (ms := 0) (As := [.int p1]) (rest := []) 1 3 n15 (show decode _ _ = .ok (.invokevirtual 187, 3) by decide +kernel) cv_X3_187 ⟨_, rfl, rfl⟩ hr16 hs17 rfl (Nat.le_of_ble_eq_true rfl) (s_X3_chanceOfJar (d := d) (hd_le hd (by decide)) h_11) (by decide) (by decide) (kJ (bc' := 0) (bs' := 0) (by decide) (by decide) (fun x18 M14 h_12 => ?_))
        refine fw_lload_n (i := 3) 0 rfl (show decode _ _ = .ok (.lload_n 3, 1) by decide +kernel) ?_
        refine fw_iload_n (i := 2) 3 rfl (show decode _ _ = .ok (.iload_n 2, 1) by decide +kernel) ?_
        refine fw_callSN (mt' := mtX10_part) (mc := 0) (ms := 0) (As := [.long x18, .long x9, .int p2]) (rest := []) 3 "OneStepMore" (show decode _ _ = .ok (.invokestatic 151, 3) by decide +kernel) ns_X3_151 rfl (Nat.le_of_ble_eq_true rfl) (s_X10_part (d := d) (hd_le hd (by decide)) h_12) (by decide) (by decide) (kJ (bc' := 0) (bs' := 0) (by decide) (by decide) (fun x20 M19 h_13 => ?_))
        exact fw_ret (v := some (.long x20)) .lreturn (show decode _ _ = .ok (.lreturn, 1) by decide +kernel) ⟨rfl, rfl⟩ ⟨_, rfl, h_13⟩
      · have h_14 := ipos hc21 h_9
        refine fw_ldc2 (idx := 143) (v := (-1 : Int64)) (show decode _ _ = .ok (.ldc2_w 143, 3) by decide +kernel) wd1110 ?_
        refine fw_goto 59 (show decode _ _ = .ok (.goto 13, 3) by decide +kernel) (by decide) ?_
        exact fw_ret (v := some (.long (-1 : Int64))) .lreturn (show decode _ _ = .ok (.lreturn, 1) by decide +kernel) ⟨rfl, rfl⟩ ⟨_, rfl, h_14⟩
    · have h_15 := ineg hc22 h_2
      refine fw_ldc2 (idx := 143) (v := (-1 : Int64)) (show decode _ _ = .ok (.ldc2_w 143, 3) by decide +kernel) wd1110 ?_
      exact fw_ret (v := some (.long (-1 : Int64))) .lreturn (show decode _ _ = .ok (.lreturn, 1) by decide +kernel) ⟨rfl, rfl⟩ ⟨_, rfl, h_15⟩
def w_X10_whether (p0 : Nat) (p1 : Int32) (p2 : Int32) (p3 : Int32) (p4 : Int32) (M : fM) (φ : Int64 → fM → Prop) : Prop := isO M p0 10 ∧ dR (mP M p0 5) fun y4 => isO M y4 3 ∧ w_X3_look y4 p1 p2 (0 : Int32) M fun x10 M6 => iF (x10 = 0) (φ (-1 : Int64) M6) (isO M6 p0 10 ∧ dR (mP M6 p0 5) fun y14 => isO M6 y14 3 ∧ w_X3_oddsOfLanding y14 p3 p4 M6 fun x20 M16 => φ x20 M16)
set_option maxRecDepth 100000 in
theorem s_X10_whether {g : GT} {d : Nat} (hd : 6 ≤ d) {p0 : Nat} {p1 : Int32} {p2 : Int32} {p3 : Int32} {p4 : Int32} {M : fM} {φ : Int64 → fM → Prop} (h : w_X10_whether p0 p1 p2 p3 p4 M φ) : FC g mtX10_whether d [.ref p0, .int p1, .int p2, .int p3, .int p4] M 0 0 (rJ φ) := by
  obtain ⟨d, rfl⟩ : ∃ e, d = e + 1 := ⟨d - 1, by omega⟩
  unfold w_X10_whether at h
  refine FC.intro (nL := 5) (by decide) rfl (Nat.le_of_ble_eq_true rfl) ?_
  show FW g mtX10_whether (d + 1) 0 [(0, .ref p0), (1, .int p1), (2, .int p2), (3, .int p3), (4, .int p4)] [] M 0 0 (rJ φ)
  refine fw_aload_n (i := 0) 0 rfl (show decode _ _ = .ok (.aload_n 0, 1) by decide +kernel) ?_
  obtain ⟨⟨hr2, n1, hs3⟩, h_1⟩ := h
  refine fw_getP (kd := 10) (k := 5) (show decode _ _ = .ok (.getfield 50, 3) by decide +kernel) gf_X10_50 hr2 hs3 rfl ?_
  have h_2 := dR_e h_1
  obtain ⟨y4, hy5, h_3⟩ := h_2
  refine fw_deref hy5 ?_
  refine fw_iload_n (i := 1) 1 rfl (show decode _ _ = .ok (.iload_n 1, 1) by decide +kernel) ?_
  refine fw_iload_n (i := 2) 2 rfl (show decode _ _ = .ok (.iload_n 2, 1) by decide +kernel) ?_
  refine fw_iconst (v := (0 : Int32)) (show decode _ _ = .ok (.iconst 0, 1) by decide +kernel) (by decide) ?_
  obtain ⟨⟨hr8, n7, hs9⟩, h_4⟩ := h_3
  refine fw_callV (mt' := mtX3_look) (mc := 0) (ms := 0) (As := [.int p1, .int p2, .int (0 : Int32)]) (rest := []) 3 3 n7 (show decode _ _ = .ok (.invokevirtual 203, 3) by decide +kernel) cv_X10_203 ⟨_, rfl, rfl⟩ hr8 hs9 rfl (Nat.le_of_ble_eq_true rfl) (s_X3_look (d := d) (hd_le hd (by decide)) h_4) (by decide) (by decide) (kI (bc' := 0) (bs' := 0) (by decide) (by decide) (fun x10 M6 h_5 => ?_))
  refine fw_if_eq 26 (show decode _ _ = .ok (.ifCond .eq 16, 3) by decide +kernel) (by decide) (fun hc21 => ?_) (fun hc21 => ?_)
  · have h_6 := ipos hc21 h_5
    refine fw_ldc2 (idx := 210) (v := (-1 : Int64)) (show decode _ _ = .ok (.ldc2_w 210, 3) by decide +kernel) wd1151 ?_
    exact fw_ret (v := some (.long (-1 : Int64))) .lreturn (show decode _ _ = .ok (.lreturn, 1) by decide +kernel) ⟨rfl, rfl⟩ ⟨_, rfl, h_6⟩
  · have h_7 := ineg hc21 h_5
    refine fw_aload_n (i := 0) 0 rfl (show decode _ _ = .ok (.aload_n 0, 1) by decide +kernel) ?_
    obtain ⟨⟨hr12, n11, hs13⟩, h_8⟩ := h_7
    refine fw_getP (kd := 10) (k := 5) (show decode _ _ = .ok (.getfield 50, 3) by decide +kernel) gf_X10_50 hr12 hs13 rfl ?_
    have h_9 := dR_e h_8
    obtain ⟨y14, hy15, h_10⟩ := h_9
    refine fw_deref hy15 ?_
    refine fw_iload_n (i := 3) 3 rfl (show decode _ _ = .ok (.iload_n 3, 1) by decide +kernel) ?_
    refine fw_iload (i := 4) 4 rfl (show decode _ _ = .ok (.iload 4, 2) by decide +kernel) ?_
    obtain ⟨⟨hr18, n17, hs19⟩, h_11⟩ := h_10
    refine fw_callV (mt' := mtX3_oddsOfLanding) (mc := 0) (ms := 0) (As := [.int p3, .int p4]) (rest := []) 2 3 n17 (show decode _ _ = .ok (.invokevirtual 238, 3) by decide +kernel) cv_X10_238 ⟨_, rfl, rfl⟩ hr18 hs19 rfl (Nat.le_of_ble_eq_true rfl) (s_X3_oddsOfLanding (d := d) (hd_le hd (by decide)) h_11) (by decide) (by decide) (kJ (bc' := 0) (bs' := 0) (by decide) (by decide) (fun x20 M16 h_12 => ?_))
    refine fw_goto 29 (show decode _ _ = .ok (.goto 6, 3) by decide +kernel) (by decide) ?_
    exact fw_ret (v := some (.long x20)) .lreturn (show decode _ _ = .ok (.lreturn, 1) by decide +kernel) ⟨rfl, rfl⟩ ⟨_, rfl, h_12⟩
def b_X3_oddsOfHouse_57 (K57 : Nat → Int32 → Int32 → Int32 → Int32 → Int64 → Int64 → Int32 → fM → Prop) (φ : Int64 → fM → Prop) (p0 : Nat) (p1 : Int32) (p2 : Int32) (p3 : Int32) (p4 : Int32) (p6 : Int64) (p8 : Int64) (p10 : Int32) (M : fM) : Prop := iF ((4 : Int32) ≤ p10) (iF ((lg_cmp p6 (0 : Int64)) = 0) (w_X10_part (0 : Int64) (1 : Int64) p4 M fun x4 M3 => φ x4 M3) (w_X10_part p8 p6 p4 M fun x2 M1 => φ x2 M1)) (isO M p0 3 ∧ dR (mP M p0 1) fun y9 => isO M y9 5 ∧ w_X5_houseOf y9 p10 M fun o15 M11 => gN o15 (fun y16 => isO M11 y16 0 ∧ iF ((mI M11 y16 4) = 0) (nm (p10 + (1 : Int32)) fun x21 => K57 p0 p1 p2 p3 p4 p6 p8 x21 M11) (isO M11 p0 3 ∧ w_X3_look p0 p1 p10 (0 : Int32) M11 fun x27 M23 => iF (x27 = 0) (nm (p10 + (1 : Int32)) fun x28 => K57 p0 p1 p2 p3 p4 p6 p8 x28 M23) (isO M23 p0 3 ∧ w_X3_spread p0 M23 fun M30 => isO M30 p0 3 ∧ w_X3_chanceOfJar p0 p2 M30 fun x38 M34 => nm (p6 + x38) fun x39 => iF (p10 = p3) (isO M34 p0 3 ∧ w_X3_chanceOfJar p0 p2 M34 fun x49 M45 => nm (p8 + x49) fun x50 => nm (p10 + (1 : Int32)) fun x52 => K57 p0 p1 p2 p3 p4 x39 x50 x52 M45) (nm (p8 + (0 : Int64)) fun x41 => nm (p10 + (1 : Int32)) fun x43 => K57 p0 p1 p2 p3 p4 x39 x41 x43 M34)))) (nm (p10 + (1 : Int32)) fun x57 => K57 p0 p1 p2 p3 p4 p6 p8 x57 M11))
def l_X3_oddsOfHouse_57 (φ : Int64 → fM → Prop) : Nat → Nat → Int32 → Int32 → Int32 → Int32 → Int64 → Int64 → Int32 → fM → Prop
  | 0, _, _, _, _, _, _, _, _, _ => False
  | n + 1, p0, p1, p2, p3, p4, p6, p8, p10, M => b_X3_oddsOfHouse_57 (l_X3_oddsOfHouse_57 φ n) φ p0 p1 p2 p3 p4 p6 p8 p10 M
set_option maxRecDepth 100000 in
theorem sb_X3_oddsOfHouse_57 {g : GT} {d : Nat} (hd : 5 ≤ d + 1) {K57 : Nat → Int32 → Int32 → Int32 → Int32 → Int64 → Int64 → Int32 → fM → Prop} {φ : Int64 → fM → Prop} (hK57 : ∀ (p0 : Nat) (p1 : Int32) (p2 : Int32) (p3 : Int32) (p4 : Int32) (p6 : Int64) (p8 : Int64) (p10 : Int32) (M : fM), K57 p0 p1 p2 p3 p4 p6 p8 p10 M → FW g mtX3_oddsOfHouse (d + 1) 57 [(0, .ref p0), (1, .int p1), (2, .int p2), (3, .int p3), (4, .int p4), (6, .long p6), (8, .long p8), (10, .int p10)] [] M 0 0 (rJ φ)) {p0 : Nat} {p1 : Int32} {p2 : Int32} {p3 : Int32} {p4 : Int32} {p6 : Int64} {p8 : Int64} {p10 : Int32} {M : fM} (h : b_X3_oddsOfHouse_57 K57 φ p0 p1 p2 p3 p4 p6 p8 p10 M) : FW g mtX3_oddsOfHouse (d + 1) 57 [(0, .ref p0), (1, .int p1), (2, .int p2), (3, .int p3), (4, .int p4), (6, .long p6), (8, .long p8), (10, .int p10)] [] M 0 0 (rJ φ) := by
  unfold b_X3_oddsOfHouse_57 at h
  refine fw_iload (i := 10) 7 rfl (show decode _ _ = .ok (.iload 10, 2) by decide +kernel) ?_
  refine fw_iconst (v := (4 : Int32)) (show decode _ _ = .ok (.iconst 4, 1) by decide +kernel) (by decide) ?_
  refine fw_icmp_ge 138 (show decode _ _ = .ok (.if_icmp .ge 78, 3) by decide +kernel) (by decide) (fun hc59 => ?_) (fun hc59 => ?_)
  · have h_1 := ipos hc59 h
    refine fw_lload (i := 6) 5 rfl (show decode _ _ = .ok (.lload 6, 2) by decide +kernel) ?_
    refine fw_lconst (v := (0 : Int64)) (show decode _ _ = .ok (.lconst 0, 1) by decide +kernel) (by decide) ?_
    refine fw_lcmp (show decode _ _ = .ok (.lcmp, 1) by decide +kernel) ?_
    refine fw_if_ne 155 (show decode _ _ = .ok (.ifCond .ne 13, 3) by decide +kernel) (by decide) (fun hc5 => ?_) (fun hc5 => ?_)
    · have h_2 := ineg hc5 h_1
      refine fw_lload (i := 8) 6 rfl (show decode _ _ = .ok (.lload 8, 2) by decide +kernel) ?_
      refine fw_lload (i := 6) 5 rfl (show decode _ _ = .ok (.lload 6, 2) by decide +kernel) ?_
      refine fw_iload (i := 4) 4 rfl (show decode _ _ = .ok (.iload 4, 2) by decide +kernel) ?_
      refine fw_callSN (mt' := mtX10_part) (mc := 0) (ms := 0) (As := [.long p8, .long p6, .int p4]) (rest := []) 3 "OneStepMore" (show decode _ _ = .ok (.invokestatic 151, 3) by decide +kernel) ns_X3_151 rfl (Nat.le_of_ble_eq_true rfl) (s_X10_part (d := d) (hd_le hd (by decide)) h_2) (by decide) (by decide) (kJ (bc' := 0) (bs' := 0) (by decide) (by decide) (fun x2 M1 h_3 => ?_))
      exact fw_ret (v := some (.long x2)) .lreturn (show decode _ _ = .ok (.lreturn, 1) by decide +kernel) ⟨rfl, rfl⟩ ⟨_, rfl, h_3⟩
    · have h_4 := ipos hc5 h_1
      refine fw_lconst (v := (0 : Int64)) (show decode _ _ = .ok (.lconst 0, 1) by decide +kernel) (by decide) ?_
      refine fw_lconst (v := (1 : Int64)) (show decode _ _ = .ok (.lconst 1, 1) by decide +kernel) (by decide) ?_
      refine fw_iload (i := 4) 4 rfl (show decode _ _ = .ok (.iload 4, 2) by decide +kernel) ?_
      refine fw_callSN (mt' := mtX10_part) (mc := 0) (ms := 0) (As := [.long (0 : Int64), .long (1 : Int64), .int p4]) (rest := []) 3 "OneStepMore" (show decode _ _ = .ok (.invokestatic 151, 3) by decide +kernel) ns_X3_151 rfl (Nat.le_of_ble_eq_true rfl) (s_X10_part (d := d) (hd_le hd (by decide)) h_4) (by decide) (by decide) (kJ (bc' := 0) (bs' := 0) (by decide) (by decide) (fun x4 M3 h_5 => ?_))
      refine fw_goto 164 (show decode _ _ = .ok (.goto 12, 3) by decide +kernel) (by decide) ?_
      exact fw_ret (v := some (.long x4)) .lreturn (show decode _ _ = .ok (.lreturn, 1) by decide +kernel) ⟨rfl, rfl⟩ ⟨_, rfl, h_5⟩
  · have h_6 := ineg hc59 h
    refine fw_aload_n (i := 0) 0 rfl (show decode _ _ = .ok (.aload_n 0, 1) by decide +kernel) ?_
    obtain ⟨⟨hr7, n6, hs8⟩, h_7⟩ := h_6
    refine fw_getP (kd := 3) (k := 1) (show decode _ _ = .ok (.getfield 28, 3) by decide +kernel) gf_X3_28 hr7 hs8 rfl ?_
    have h_8 := dR_e h_7
    obtain ⟨y9, hy10, h_9⟩ := h_8
    refine fw_deref hy10 ?_
    refine fw_iload (i := 10) 7 rfl (show decode _ _ = .ok (.iload 10, 2) by decide +kernel) ?_
    obtain ⟨⟨hr13, n12, hs14⟩, h_10⟩ := h_9
    refine fw_callV (mt' := mtX5_houseOf) (mc := 0) (ms := 0) (As := [.int p10]) (rest := []) 1 5 n12 (show decode _ _ = .ok (.invokevirtual 36, 3) by decide +kernel) cv_X3_36 ⟨_, rfl, rfl⟩ hr13 hs14 rfl (Nat.le_of_ble_eq_true rfl) (s_X5_houseOf (d := d) (hd_le hd (by decide)) h_10) (by decide) (by decide) (kP (bc' := 0) (bs' := 0) (by decide) (by decide) (fun o15 M11 h_11 => ?_))
    refine fw_astoreq (i := 11) (ls' := [(11, fr o15), (0, .ref p0), (1, .int p1), (2, .int p2), (3, .int p3), (4, .int p4), (6, .long p6), (8, .long p8), (10, .int p10)]) (show decode _ _ = .ok (.astore 11, 2) by decide +kernel) (by decide) rfl ?_
    refine fw_aloadq (i := 11) 0 rfl (show decode _ _ = .ok (.aload 11, 2) by decide +kernel) ?_
    refine fw_ifnull (x := o15) 132 (show decode _ _ = .ok (.ifnull 56, 3) by decide +kernel) (by decide) (fun hy17 => ?_) (fun y16 hy17 => ?_)
    · have h_12 := gN_n hy17 h_11
      subst hy17
      obtain ⟨x57, ex58⟩ : ∃ y : Int32, y = p10 + (1 : Int32) := ⟨_, rfl⟩
      have h_13 := h_12 x57 ex58
      refine fw_iinc (i := 10) (x := p10) (v := x57) (ls' := [(10, .int x57), (11, fr none), (0, .ref p0), (1, .int p1), (2, .int p2), (3, .int p3), (4, .int p4), (6, .long p6), (8, .long p8)]) 8 rfl (show decode _ _ = .ok (.iinc 10 1, 3) by decide +kernel) (by rw [ex58]; rfl) (by decide) rfl ?_
      refine fw_goto 57 (show decode _ _ = .ok (.goto (-78), 3) by decide +kernel) (by decide) ?_
      refine FW.sub [2, 3, 4, 5, 6, 7, 8, 0] (ls' := [(0, .ref p0), (1, .int p1), (2, .int p2), (3, .int p3), (4, .int p4), (6, .long p6), (8, .long p8), (10, .int x57)]) rfl ?_
      exact hK57 _ _ _ _ _ _ _ _ _ h_13
    · have h_14 := gN_s hy17 h_11
      subst hy17
      refine fw_aload (i := 11) 0 rfl (show decode _ _ = .ok (.aload 11, 2) by decide +kernel) ?_
      obtain ⟨⟨hr19, n18, hs20⟩, h_15⟩ := h_14
      refine fw_getI (kd := 0) (k := 4) (show decode _ _ = .ok (.getfield 184, 3) by decide +kernel) gf_X3_184 hr19 hs20 (Or.inr rfl) ?_
      refine fw_if_eq 132 (show decode _ _ = .ok (.ifCond .eq 48, 3) by decide +kernel) (by decide) (fun hc56 => ?_) (fun hc56 => ?_)
      · have h_16 := ipos hc56 h_15
        obtain ⟨x21, ex22⟩ : ∃ y : Int32, y = p10 + (1 : Int32) := ⟨_, rfl⟩
        have h_17 := h_16 x21 ex22
        refine fw_iinc (i := 10) (x := p10) (v := x21) (ls' := [(10, .int x21), (11, .ref y16), (0, .ref p0), (1, .int p1), (2, .int p2), (3, .int p3), (4, .int p4), (6, .long p6), (8, .long p8)]) 8 rfl (show decode _ _ = .ok (.iinc 10 1, 3) by decide +kernel) (by rw [ex22]; rfl) (by decide) rfl ?_
        refine fw_goto 57 (show decode _ _ = .ok (.goto (-78), 3) by decide +kernel) (by decide) ?_
        refine FW.sub [2, 3, 4, 5, 6, 7, 8, 0] (ls' := [(0, .ref p0), (1, .int p1), (2, .int p2), (3, .int p3), (4, .int p4), (6, .long p6), (8, .long p8), (10, .int x21)]) rfl ?_
        exact hK57 _ _ _ _ _ _ _ _ _ h_17
      · have h_18 := ineg hc56 h_15
        refine fw_aload_n (i := 0) 1 rfl (show decode _ _ = .ok (.aload_n 0, 1) by decide +kernel) ?_
        refine fw_iload_n (i := 1) 2 rfl (show decode _ _ = .ok (.iload_n 1, 1) by decide +kernel) ?_
        refine fw_iload (i := 10) 8 rfl (show decode _ _ = .ok (.iload 10, 2) by decide +kernel) ?_
        refine fw_iconst (v := (0 : Int32)) (show decode _ _ = .ok (.iconst 0, 1) by decide +kernel) (by decide) ?_
        obtain ⟨⟨hr25, n24, hs26⟩, h_19⟩ := h_18
        refine fw_callV (mt' := mtX3_look) (mc := 0) (ms := 0) (As := [.int p1, .int p10, .int (0 : Int32)]) (rest := []) 3 3 n24 (show decode _ _ = .ok (.invokevirtual 172, 3) by decide +kernel) cv_X3_172 ⟨_, rfl, rfl⟩ hr25 hs26 rfl (Nat.le_of_ble_eq_true rfl) (s_X3_look (d := d) (hd_le hd (by decide)) h_19) (by decide) (by decide) (kI (bc' := 0) (bs' := 0) (by decide) (by decide) (fun x27 M23 h_20 => ?_))
        refine fw_if_eq 132 (show decode _ _ = .ok (.ifCond .eq 37, 3) by decide +kernel) (by decide) (fun hc55 => ?_) (fun hc55 => ?_)
        · have h_21 := ipos hc55 h_20
          obtain ⟨x28, ex29⟩ : ∃ y : Int32, y = p10 + (1 : Int32) := ⟨_, rfl⟩
          have h_22 := h_21 x28 ex29
          refine fw_iinc (i := 10) (x := p10) (v := x28) (ls' := [(10, .int x28), (11, .ref y16), (0, .ref p0), (1, .int p1), (2, .int p2), (3, .int p3), (4, .int p4), (6, .long p6), (8, .long p8)]) 8 rfl (show decode _ _ = .ok (.iinc 10 1, 3) by decide +kernel) (by rw [ex29]; rfl) (by decide) rfl ?_
          refine fw_goto 57 (show decode _ _ = .ok (.goto (-78), 3) by decide +kernel) (by decide) ?_
          refine FW.sub [2, 3, 4, 5, 6, 7, 8, 0] (ls' := [(0, .ref p0), (1, .int p1), (2, .int p2), (3, .int p3), (4, .int p4), (6, .long p6), (8, .long p8), (10, .int x28)]) rfl ?_
          exact hK57 _ _ _ _ _ _ _ _ _ h_22
        · have h_23 := ineg hc55 h_20
          refine fw_aload_n (i := 0) 1 rfl (show decode _ _ = .ok (.aload_n 0, 1) by decide +kernel) ?_
          obtain ⟨⟨hr32, n31, hs33⟩, h_24⟩ := h_23
          refine fw_callV (mt' := mtX3_spread) (mc := 0) (ms := 0) (As := []) (rest := []) 0 3 n31 (show decode _ _ = .ok (.invokevirtual 145, 3) by decide +kernel) cv_X3_145 ⟨_, rfl, rfl⟩ hr32 hs33 rfl (Nat.le_of_ble_eq_true rfl) (s_X3_spread (d := d) (hd_le hd (by decide)) h_24) (by decide) (by decide) (kV (bc' := 0) (bs' := 0) (by decide) (by decide) (fun M30 h_25 => ?_))
          refine fw_lload (i := 6) 6 rfl (show decode _ _ = .ok (.lload 6, 2) by decide +kernel) ?_
          refine fw_aload_n (i := 0) 1 rfl (show decode _ _ = .ok (.aload_n 0, 1) by decide +kernel) ?_
          refine fw_iload_n (i := 2) 3 rfl (show decode _ _ = .ok (.iload_n 2, 1) by decide +kernel) ?_
          obtain ⟨⟨hr36, n35, hs37⟩, h_26⟩ := h_25
          refine fw_callV (mt' := mtX3_chanceOfJar) (mc := 0) (ms := 0) (As := [.int p2]) (rest := [.long p6]) 1 3 n35 (show decode _ _ = .ok (.invokevirtual 187, 3) by decide +kernel) cv_X3_187 ⟨_, rfl, rfl⟩ hr36 hs37 rfl (Nat.le_of_ble_eq_true rfl) (s_X3_chanceOfJar (d := d) (hd_le hd (by decide)) h_26) (by decide) (by decide) (kJ (bc' := 0) (bs' := 0) (by decide) (by decide) (fun x38 M34 h_27 => ?_))
          refine fw_ladd (show decode _ _ = .ok (.ladd, 1) by decide +kernel) ?_
          refine fw_nmJ (fun x39 ex40 => ?_)
          have h_28 := h_27 x39 ex40
          refine fw_lstore (i := 6) (ls' := [(6, .long x39), (11, .ref y16), (0, .ref p0), (1, .int p1), (2, .int p2), (3, .int p3), (4, .int p4), (8, .long p8), (10, .int p10)]) (show decode _ _ = .ok (.lstore 6, 2) by decide +kernel) (by decide) rfl ?_
          refine fw_lload (i := 8) 7 rfl (show decode _ _ = .ok (.lload 8, 2) by decide +kernel) ?_
          refine fw_iload (i := 10) 8 rfl (show decode _ _ = .ok (.iload 10, 2) by decide +kernel) ?_
          refine fw_iload_n (i := 3) 5 rfl (show decode _ _ = .ok (.iload_n 3, 1) by decide +kernel) ?_
          refine fw_icmp_ne 128 (show decode _ _ = .ok (.if_icmp .ne 11, 3) by decide +kernel) (by decide) (fun hc54 => ?_) (fun hc54 => ?_)
          · have h_29 := ineg hc54 h_28
            refine fw_lconst (v := (0 : Int64)) (show decode _ _ = .ok (.lconst 0, 1) by decide +kernel) (by decide) ?_
            refine fw_ladd (show decode _ _ = .ok (.ladd, 1) by decide +kernel) ?_
            refine fw_nmJ (fun x41 ex42 => ?_)
            have h_30 := h_29 x41 ex42
            refine fw_lstore (i := 8) (ls' := [(8, .long x41), (6, .long x39), (11, .ref y16), (0, .ref p0), (1, .int p1), (2, .int p2), (3, .int p3), (4, .int p4), (10, .int p10)]) (show decode _ _ = .ok (.lstore 8, 2) by decide +kernel) (by decide) rfl ?_
            obtain ⟨x43, ex44⟩ : ∃ y : Int32, y = p10 + (1 : Int32) := ⟨_, rfl⟩
            have h_31 := h_30 x43 ex44
            refine fw_iinc (i := 10) (x := p10) (v := x43) (ls' := [(10, .int x43), (8, .long x41), (6, .long x39), (11, .ref y16), (0, .ref p0), (1, .int p1), (2, .int p2), (3, .int p3), (4, .int p4)]) 8 rfl (show decode _ _ = .ok (.iinc 10 1, 3) by decide +kernel) (by rw [ex44]; rfl) (by decide) rfl ?_
            refine fw_goto 57 (show decode _ _ = .ok (.goto (-78), 3) by decide +kernel) (by decide) ?_
            refine FW.sub [4, 5, 6, 7, 8, 2, 1, 0] (ls' := [(0, .ref p0), (1, .int p1), (2, .int p2), (3, .int p3), (4, .int p4), (6, .long x39), (8, .long x41), (10, .int x43)]) rfl ?_
            exact hK57 _ _ _ _ _ _ _ _ _ h_31
          · have h_32 := ipos hc54 h_28
            refine fw_aload_n (i := 0) 2 rfl (show decode _ _ = .ok (.aload_n 0, 1) by decide +kernel) ?_
            refine fw_iload_n (i := 2) 4 rfl (show decode _ _ = .ok (.iload_n 2, 1) by decide +kernel) ?_
            obtain ⟨⟨hr47, n46, hs48⟩, h_33⟩ := h_32
            refine fw_callV (mt' := mtX3_chanceOfJar) (mc := 0) (ms := 0) (As := [.int p2]) (rest := [.long p8]) 1 3 n46 (show decode _ _ = .ok (.invokevirtual 187, 3) by decide +kernel) cv_X3_187 ⟨_, rfl, rfl⟩ hr47 hs48 rfl (Nat.le_of_ble_eq_true rfl) (s_X3_chanceOfJar (d := d) (hd_le hd (by decide)) h_33) (by decide) (by decide) (kJ (bc' := 0) (bs' := 0) (by decide) (by decide) (fun x49 M45 h_34 => ?_))
            refine fw_goto 129 (show decode _ _ = .ok (.goto 4, 3) by decide +kernel) (by decide) ?_
            refine fw_ladd (show decode _ _ = .ok (.ladd, 1) by decide +kernel) ?_
            refine fw_nmJ (fun x50 ex51 => ?_)
            have h_35 := h_34 x50 ex51
            refine fw_lstore (i := 8) (ls' := [(8, .long x50), (6, .long x39), (11, .ref y16), (0, .ref p0), (1, .int p1), (2, .int p2), (3, .int p3), (4, .int p4), (10, .int p10)]) (show decode _ _ = .ok (.lstore 8, 2) by decide +kernel) (by decide) rfl ?_
            obtain ⟨x52, ex53⟩ : ∃ y : Int32, y = p10 + (1 : Int32) := ⟨_, rfl⟩
            have h_36 := h_35 x52 ex53
            refine fw_iinc (i := 10) (x := p10) (v := x52) (ls' := [(10, .int x52), (8, .long x50), (6, .long x39), (11, .ref y16), (0, .ref p0), (1, .int p1), (2, .int p2), (3, .int p3), (4, .int p4)]) 8 rfl (show decode _ _ = .ok (.iinc 10 1, 3) by decide +kernel) (by rw [ex53]; rfl) (by decide) rfl ?_
            refine fw_goto 57 (show decode _ _ = .ok (.goto (-78), 3) by decide +kernel) (by decide) ?_
            refine FW.sub [4, 5, 6, 7, 8, 2, 1, 0] (ls' := [(0, .ref p0), (1, .int p1), (2, .int p2), (3, .int p3), (4, .int p4), (6, .long x39), (8, .long x50), (10, .int x52)]) rfl ?_
            exact hK57 _ _ _ _ _ _ _ _ _ h_36
theorem sl_X3_oddsOfHouse_57 {g : GT} {d : Nat} (hd : 5 ≤ d + 1) {φ : Int64 → fM → Prop} : ∀ (n : Nat) {p0 : Nat} {p1 : Int32} {p2 : Int32} {p3 : Int32} {p4 : Int32} {p6 : Int64} {p8 : Int64} {p10 : Int32} {M : fM}, l_X3_oddsOfHouse_57 φ n p0 p1 p2 p3 p4 p6 p8 p10 M → FW g mtX3_oddsOfHouse (d + 1) 57 [(0, .ref p0), (1, .int p1), (2, .int p2), (3, .int p3), (4, .int p4), (6, .long p6), (8, .long p8), (10, .int p10)] [] M 0 0 (rJ φ)
  | 0 => fun h => h.elim
  | n + 1 => fun h => sb_X3_oddsOfHouse_57 hd (fun _ _ _ _ _ _ _ _ _ h => sl_X3_oddsOfHouse_57 hd n h) h
def w_X3_oddsOfHouse (p0 : Nat) (p1 : Int32) (p2 : Int32) (p3 : Int32) (p4 : Int32) (M : fM) (φ : Int64 → fM → Prop) : Prop := isO M p0 3 ∧ dR (mP M p0 1) fun y63 => isO M y63 5 ∧ w_X5_houseOf y63 p3 M fun o69 M65 => gN o69 (fun y70 => isO M65 y70 0 ∧ iF ((mI M65 y70 4) = 0) (φ (-1 : Int64) M65) (iF (p2 < 0) (φ (-1 : Int64) M65) (iF ((30 : Int32) ≤ p2) (φ (-1 : Int64) M65) (isO M65 p0 3 ∧ dR (mP M65 p0 1) fun y78 => isO M65 y78 5 ∧ w_X5_isPerson y78 p1 M65 fun x84 M80 => iF (x84 = 0) (φ (-1 : Int64) M80) (∃ n, l_X3_oddsOfHouse_57 φ n p0 p1 p2 p3 p4 (0 : Int64) (0 : Int64) (0 : Int32) M80))))) (φ (-1 : Int64) M65)
set_option maxRecDepth 100000 in
theorem s_X3_oddsOfHouse {g : GT} {d : Nat} (hd : 5 ≤ d) {p0 : Nat} {p1 : Int32} {p2 : Int32} {p3 : Int32} {p4 : Int32} {M : fM} {φ : Int64 → fM → Prop} (h : w_X3_oddsOfHouse p0 p1 p2 p3 p4 M φ) : FC g mtX3_oddsOfHouse d [.ref p0, .int p1, .int p2, .int p3, .int p4] M 0 0 (rJ φ) := by
  obtain ⟨d, rfl⟩ : ∃ e, d = e + 1 := ⟨d - 1, by omega⟩
  unfold w_X3_oddsOfHouse at h
  refine FC.intro (nL := 12) (by decide) rfl (Nat.le_of_ble_eq_true rfl) ?_
  show FW g mtX3_oddsOfHouse (d + 1) 0 [(0, .ref p0), (1, .int p1), (2, .int p2), (3, .int p3), (4, .int p4)] [] M 0 0 (rJ φ)
  refine fw_aload_n (i := 0) 0 rfl (show decode _ _ = .ok (.aload_n 0, 1) by decide +kernel) ?_
  obtain ⟨⟨hr61, n60, hs62⟩, h_1⟩ := h
  refine fw_getP (kd := 3) (k := 1) (show decode _ _ = .ok (.getfield 28, 3) by decide +kernel) gf_X3_28 hr61 hs62 rfl ?_
  have h_2 := dR_e h_1
  obtain ⟨y63, hy64, h_3⟩ := h_2
  refine fw_deref hy64 ?_
  refine fw_iload_n (i := 3) 3 rfl (show decode _ _ = .ok (.iload_n 3, 1) by decide +kernel) ?_
  obtain ⟨⟨hr67, n66, hs68⟩, h_4⟩ := h_3
  refine fw_callV (mt' := mtX5_houseOf) (mc := 0) (ms := 0) (As := [.int p3]) (rest := []) 1 5 n66 (show decode _ _ = .ok (.invokevirtual 36, 3) by decide +kernel) cv_X3_36 ⟨_, rfl, rfl⟩ hr67 hs68 rfl (Nat.le_of_ble_eq_true rfl) (s_X5_houseOf (d := d) (hd_le hd (by decide)) h_4) (by decide) (by decide) (kP (bc' := 0) (bs' := 0) (by decide) (by decide) (fun o69 M65 h_5 => ?_))
  refine fw_astoreq (i := 5) (ls' := [(5, fr o69), (0, .ref p0), (1, .int p1), (2, .int p2), (3, .int p3), (4, .int p4)]) (show decode _ _ = .ok (.astore 5, 2) by decide +kernel) (by decide) rfl ?_
  refine fw_aloadq (i := 5) 0 rfl (show decode _ _ = .ok (.aload 5, 2) by decide +kernel) ?_
  refine fw_ifnull (x := o69) 44 (show decode _ _ = .ok (.ifnull 32, 3) by decide +kernel) (by decide) (fun hy71 => ?_) (fun y70 hy71 => ?_)
  · have h_6 := gN_n hy71 h_5
    subst hy71
    refine fw_ldc2 (idx := 143) (v := (-1 : Int64)) (show decode _ _ = .ok (.ldc2_w 143, 3) by decide +kernel) wd1110 ?_
    exact fw_ret (v := some (.long (-1 : Int64))) .lreturn (show decode _ _ = .ok (.lreturn, 1) by decide +kernel) ⟨rfl, rfl⟩ ⟨_, rfl, h_6⟩
  · have h_7 := gN_s hy71 h_5
    subst hy71
    refine fw_aload (i := 5) 0 rfl (show decode _ _ = .ok (.aload 5, 2) by decide +kernel) ?_
    obtain ⟨⟨hr73, n72, hs74⟩, h_8⟩ := h_7
    refine fw_getI (kd := 0) (k := 4) (show decode _ _ = .ok (.getfield 184, 3) by decide +kernel) gf_X3_184 hr73 hs74 (Or.inr rfl) ?_
    refine fw_if_eq 44 (show decode _ _ = .ok (.ifCond .eq 24, 3) by decide +kernel) (by decide) (fun hc88 => ?_) (fun hc88 => ?_)
    · have h_9 := ipos hc88 h_8
      refine fw_ldc2 (idx := 143) (v := (-1 : Int64)) (show decode _ _ = .ok (.ldc2_w 143, 3) by decide +kernel) wd1110 ?_
      exact fw_ret (v := some (.long (-1 : Int64))) .lreturn (show decode _ _ = .ok (.lreturn, 1) by decide +kernel) ⟨rfl, rfl⟩ ⟨_, rfl, h_9⟩
    · have h_10 := ineg hc88 h_8
      refine fw_iload_n (i := 2) 3 rfl (show decode _ _ = .ok (.iload_n 2, 1) by decide +kernel) ?_
      refine fw_if_lt 44 (show decode _ _ = .ok (.ifCond .lt 20, 3) by decide +kernel) (by decide) (fun hc87 => ?_) (fun hc87 => ?_)
      · have h_11 := ipos hc87 h_10
        refine fw_ldc2 (idx := 143) (v := (-1 : Int64)) (show decode _ _ = .ok (.ldc2_w 143, 3) by decide +kernel) wd1110 ?_
        exact fw_ret (v := some (.long (-1 : Int64))) .lreturn (show decode _ _ = .ok (.lreturn, 1) by decide +kernel) ⟨rfl, rfl⟩ ⟨_, rfl, h_11⟩
      · have h_12 := ineg hc87 h_10
        refine fw_iload_n (i := 2) 3 rfl (show decode _ _ = .ok (.iload_n 2, 1) by decide +kernel) ?_
        refine fw_bipush (v := (30 : Int32)) (show decode _ _ = .ok (.bipush 30, 2) by decide +kernel) (by decide) ?_
        refine fw_icmp_ge 44 (show decode _ _ = .ok (.if_icmp .ge 14, 3) by decide +kernel) (by decide) (fun hc86 => ?_) (fun hc86 => ?_)
        · have h_13 := ipos hc86 h_12
          refine fw_ldc2 (idx := 143) (v := (-1 : Int64)) (show decode _ _ = .ok (.ldc2_w 143, 3) by decide +kernel) wd1110 ?_
          exact fw_ret (v := some (.long (-1 : Int64))) .lreturn (show decode _ _ = .ok (.lreturn, 1) by decide +kernel) ⟨rfl, rfl⟩ ⟨_, rfl, h_13⟩
        · have h_14 := ineg hc86 h_12
          refine fw_aload_n (i := 0) 1 rfl (show decode _ _ = .ok (.aload_n 0, 1) by decide +kernel) ?_
          obtain ⟨⟨hr76, n75, hs77⟩, h_15⟩ := h_14
          refine fw_getP (kd := 3) (k := 1) (show decode _ _ = .ok (.getfield 28, 3) by decide +kernel) gf_X3_28 hr76 hs77 rfl ?_
          have h_16 := dR_e h_15
          obtain ⟨y78, hy79, h_17⟩ := h_16
          refine fw_deref hy79 ?_
          refine fw_iload_n (i := 1) 2 rfl (show decode _ _ = .ok (.iload_n 1, 1) by decide +kernel) ?_
          obtain ⟨⟨hr82, n81, hs83⟩, h_18⟩ := h_17
          refine fw_callV (mt' := mtX5_isPerson) (mc := 0) (ms := 0) (As := [.int p1]) (rest := []) 1 5 n81 (show decode _ _ = .ok (.invokevirtual 42, 3) by decide +kernel) cv_X3_42 ⟨_, rfl, rfl⟩ hr82 hs83 rfl (Nat.le_of_ble_eq_true rfl) (s_X5_isPerson (d := d) (hd_le hd (by decide)) h_18) (by decide) (by decide) (kI (bc' := 0) (bs' := 0) (by decide) (by decide) (fun x84 M80 h_19 => ?_))
          refine fw_if_ne 48 (show decode _ _ = .ok (.ifCond .ne 7, 3) by decide +kernel) (by decide) (fun hc85 => ?_) (fun hc85 => ?_)
          · have h_20 := ineg hc85 h_19
            refine fw_lconst (v := (0 : Int64)) (show decode _ _ = .ok (.lconst 0, 1) by decide +kernel) (by decide) ?_
            refine fw_lstore (i := 6) (ls' := [(6, .long (0 : Int64)), (5, .ref y70), (0, .ref p0), (1, .int p1), (2, .int p2), (3, .int p3), (4, .int p4)]) (show decode _ _ = .ok (.lstore 6, 2) by decide +kernel) (by decide) rfl ?_
            refine fw_lconst (v := (0 : Int64)) (show decode _ _ = .ok (.lconst 0, 1) by decide +kernel) (by decide) ?_
            refine fw_lstore (i := 8) (ls' := [(8, .long (0 : Int64)), (6, .long (0 : Int64)), (5, .ref y70), (0, .ref p0), (1, .int p1), (2, .int p2), (3, .int p3), (4, .int p4)]) (show decode _ _ = .ok (.lstore 8, 2) by decide +kernel) (by decide) rfl ?_
            refine fw_iconst (v := (0 : Int32)) (show decode _ _ = .ok (.iconst 0, 1) by decide +kernel) (by decide) ?_
            refine fw_istore (i := 10) (ls' := [(10, .int (0 : Int32)), (8, .long (0 : Int64)), (6, .long (0 : Int64)), (5, .ref y70), (0, .ref p0), (1, .int p1), (2, .int p2), (3, .int p3), (4, .int p4)]) (show decode _ _ = .ok (.istore 10, 2) by decide +kernel) (by decide) rfl ?_
            refine FW.sub [4, 5, 6, 7, 8, 2, 1, 0] (ls' := [(0, .ref p0), (1, .int p1), (2, .int p2), (3, .int p3), (4, .int p4), (6, .long (0 : Int64)), (8, .long (0 : Int64)), (10, .int (0 : Int32))]) rfl ?_
            obtain ⟨nn, h_21⟩ := h_20
            exact sl_X3_oddsOfHouse_57 hd nn h_21
          · have h_22 := ipos hc85 h_19
            refine fw_ldc2 (idx := 143) (v := (-1 : Int64)) (show decode _ _ = .ok (.ldc2_w 143, 3) by decide +kernel) wd1110 ?_
            exact fw_ret (v := some (.long (-1 : Int64))) .lreturn (show decode _ _ = .ok (.lreturn, 1) by decide +kernel) ⟨rfl, rfl⟩ ⟨_, rfl, h_22⟩
def w_X10_which (p0 : Nat) (p1 : Int32) (p2 : Int32) (p3 : Int32) (p4 : Int32) (M : fM) (φ : Int64 → fM → Prop) : Prop := isO M p0 10 ∧ dR (mP M p0 5) fun y4 => isO M y4 3 ∧ w_X3_oddsOfHouse y4 p1 p2 p3 p4 M fun x10 M6 => φ x10 M6
set_option maxRecDepth 100000 in
theorem s_X10_which {g : GT} {d : Nat} (hd : 6 ≤ d) {p0 : Nat} {p1 : Int32} {p2 : Int32} {p3 : Int32} {p4 : Int32} {M : fM} {φ : Int64 → fM → Prop} (h : w_X10_which p0 p1 p2 p3 p4 M φ) : FC g mtX10_which d [.ref p0, .int p1, .int p2, .int p3, .int p4] M 0 0 (rJ φ) := by
  obtain ⟨d, rfl⟩ : ∃ e, d = e + 1 := ⟨d - 1, by omega⟩
  unfold w_X10_which at h
  refine FC.intro (nL := 5) (by decide) rfl (Nat.le_of_ble_eq_true rfl) ?_
  show FW g mtX10_which (d + 1) 0 [(0, .ref p0), (1, .int p1), (2, .int p2), (3, .int p3), (4, .int p4)] [] M 0 0 (rJ φ)
  refine fw_aload_n (i := 0) 0 rfl (show decode _ _ = .ok (.aload_n 0, 1) by decide +kernel) ?_
  obtain ⟨⟨hr2, n1, hs3⟩, h_1⟩ := h
  refine fw_getP (kd := 10) (k := 5) (show decode _ _ = .ok (.getfield 50, 3) by decide +kernel) gf_X10_50 hr2 hs3 rfl ?_
  have h_2 := dR_e h_1
  obtain ⟨y4, hy5, h_3⟩ := h_2
  refine fw_deref hy5 ?_
  refine fw_iload_n (i := 1) 1 rfl (show decode _ _ = .ok (.iload_n 1, 1) by decide +kernel) ?_
  refine fw_iload_n (i := 2) 2 rfl (show decode _ _ = .ok (.iload_n 2, 1) by decide +kernel) ?_
  refine fw_iload_n (i := 3) 3 rfl (show decode _ _ = .ok (.iload_n 3, 1) by decide +kernel) ?_
  refine fw_iload (i := 4) 4 rfl (show decode _ _ = .ok (.iload 4, 2) by decide +kernel) ?_
  obtain ⟨⟨hr8, n7, hs9⟩, h_4⟩ := h_3
  refine fw_callV (mt' := mtX3_oddsOfHouse) (mc := 0) (ms := 0) (As := [.int p1, .int p2, .int p3, .int p4]) (rest := []) 4 3 n7 (show decode _ _ = .ok (.invokevirtual 234, 3) by decide +kernel) cv_X10_234 ⟨_, rfl, rfl⟩ hr8 hs9 rfl (Nat.le_of_ble_eq_true rfl) (s_X3_oddsOfHouse (d := d) (hd_le hd (by decide)) h_4) (by decide) (by decide) (kJ (bc' := 0) (bs' := 0) (by decide) (by decide) (fun x10 M6 h_5 => ?_))
  exact fw_ret (v := some (.long x10)) .lreturn (show decode _ _ = .ok (.lreturn, 1) by decide +kernel) ⟨rfl, rfl⟩ ⟨_, rfl, h_5⟩
def b_X3_bestMark_18 (K18 : Nat → Int64 → Int32 → Int32 → fM → Prop) (φ : Int32 → fM → Prop) (p0 : Nat) (p1 : Int64) (p3 : Int32) (p4 : Int32) (M : fM) : Prop := isO M p0 3 ∧ iF ((mI M p0 3) < p4) (φ p3 M) (iF ((mI M p0 4) = 0) (iF ((((mI M p0 5) >>> (p4 &&& 31)) &&& (1 : Int32)) = 0) (w_X3_spreadFrom p0 ((10 : Int32) - (mI M p0 6)) (mI M p0 6) ((mI M p0 5) ||| ((1 : Int32) <<< (p4 &&& 31))) M fun M6 => isO M6 p0 3 ∧ w_X3_chooseFrom p0 M6 fun M7 => isO M7 p0 3 ∧ iF (0 ≤ (lg_cmp (mJ M7 p0 12) p1)) (nm (p4 + (1 : Int32)) fun x14 => K18 p0 p1 p3 x14 M7) (nm (mJ M7 p0 12) fun x16 => nm (p4 + (1 : Int32)) fun x18 => K18 p0 x16 p4 x18 M7)) (nm (p4 + (1 : Int32)) fun x4 => K18 p0 p1 p3 x4 M)) (φ p3 M))
def l_X3_bestMark_18 (φ : Int32 → fM → Prop) : Nat → Nat → Int64 → Int32 → Int32 → fM → Prop
  | 0, _, _, _, _, _ => False
  | n + 1, p0, p1, p3, p4, M => b_X3_bestMark_18 (l_X3_bestMark_18 φ n) φ p0 p1 p3 p4 M
set_option maxRecDepth 100000 in
theorem sb_X3_bestMark_18 {g : GT} {d : Nat} (hd : 5 ≤ d + 1) {K18 : Nat → Int64 → Int32 → Int32 → fM → Prop} {φ : Int32 → fM → Prop} (hK18 : ∀ (p0 : Nat) (p1 : Int64) (p3 : Int32) (p4 : Int32) (M : fM), K18 p0 p1 p3 p4 M → FW g mtX3_bestMark (d + 1) 18 [(0, .ref p0), (1, .long p1), (3, .int p3), (4, .int p4)] [] M 0 0 (rI φ)) {p0 : Nat} {p1 : Int64} {p3 : Int32} {p4 : Int32} {M : fM} (h : b_X3_bestMark_18 K18 φ p0 p1 p3 p4 M) : FW g mtX3_bestMark (d + 1) 18 [(0, .ref p0), (1, .long p1), (3, .int p3), (4, .int p4)] [] M 0 0 (rI φ) := by
  unfold b_X3_bestMark_18 at h
  refine fw_iload (i := 4) 3 rfl (show decode _ _ = .ok (.iload 4, 2) by decide +kernel) ?_
  refine fw_aload_n (i := 0) 0 rfl (show decode _ _ = .ok (.aload_n 0, 1) by decide +kernel) ?_
  obtain ⟨⟨hr2, n1, hs3⟩, h_1⟩ := h
  refine fw_getI (kd := 3) (k := 3) (show decode _ _ = .ok (.getfield 52, 3) by decide +kernel) gf_X3_52 hr2 hs3 (Or.inl rfl) ?_
  refine fw_icmp_gt 97 (show decode _ _ = .ok (.if_icmp .gt 73, 3) by decide +kernel) (by decide) (fun hc23 => ?_) (fun hc23 => ?_)
  · have h_2 := ipos hc23 h_1
    refine fw_iload_n (i := 3) 2 rfl (show decode _ _ = .ok (.iload_n 3, 1) by decide +kernel) ?_
    exact fw_ret (v := some (.int p3)) .ireturn (show decode _ _ = .ok (.ireturn, 1) by decide +kernel) ⟨rfl, Or.inl rfl⟩ ⟨_, rfl, h_2⟩
  · have h_3 := ineg hc23 h_1
    refine fw_aload_n (i := 0) 0 rfl (show decode _ _ = .ok (.aload_n 0, 1) by decide +kernel) ?_
    refine fw_getI (kd := 3) (k := 4) (show decode _ _ = .ok (.getfield 53, 3) by decide +kernel) gf_X3_53 hr2 hs3 (Or.inr rfl) ?_
    refine fw_if_ne 97 (show decode _ _ = .ok (.ifCond .ne 66, 3) by decide +kernel) (by decide) (fun hc22 => ?_) (fun hc22 => ?_)
    · have h_4 := ineg hc22 h_3
      refine fw_iload_n (i := 3) 2 rfl (show decode _ _ = .ok (.iload_n 3, 1) by decide +kernel) ?_
      exact fw_ret (v := some (.int p3)) .ireturn (show decode _ _ = .ok (.ireturn, 1) by decide +kernel) ⟨rfl, Or.inl rfl⟩ ⟨_, rfl, h_4⟩
    · have h_5 := ipos hc22 h_3
      refine fw_aload_n (i := 0) 0 rfl (show decode _ _ = .ok (.aload_n 0, 1) by decide +kernel) ?_
      refine fw_getI (kd := 3) (k := 5) (show decode _ _ = .ok (.getfield 60, 3) by decide +kernel) gf_X3_60 hr2 hs3 (Or.inl rfl) ?_
      refine fw_iload (i := 4) 3 rfl (show decode _ _ = .ok (.iload 4, 2) by decide +kernel) ?_
      refine fw_ishr (show decode _ _ = .ok (.ishr, 1) by decide +kernel) ?_
      refine fw_iconst (v := (1 : Int32)) (show decode _ _ = .ok (.iconst 1, 1) by decide +kernel) (by decide) ?_
      refine fw_iand (show decode _ _ = .ok (.iand, 1) by decide +kernel) ?_
      refine fw_if_ne 91 (show decode _ _ = .ok (.ifCond .ne 48, 3) by decide +kernel) (by decide) (fun hc21 => ?_) (fun hc21 => ?_)
      · have h_6 := ineg hc21 h_5
        obtain ⟨x4, ex5⟩ : ∃ y : Int32, y = p4 + (1 : Int32) := ⟨_, rfl⟩
        have h_7 := h_6 x4 ex5
        refine fw_iinc (i := 4) (x := p4) (v := x4) (ls' := [(4, .int x4), (0, .ref p0), (1, .long p1), (3, .int p3)]) 3 rfl (show decode _ _ = .ok (.iinc 4 1, 3) by decide +kernel) (by rw [ex5]; rfl) (by decide) rfl ?_
        refine fw_goto 18 (show decode _ _ = .ok (.goto (-76), 3) by decide +kernel) (by decide) ?_
        refine FW.sub [1, 2, 3, 0] (ls' := [(0, .ref p0), (1, .long p1), (3, .int p3), (4, .int x4)]) rfl ?_
        exact hK18 _ _ _ _ _ h_7
      · have h_8 := ipos hc21 h_5
        refine fw_aload_n (i := 0) 0 rfl (show decode _ _ = .ok (.aload_n 0, 1) by decide +kernel) ?_
        refine fw_bipush (v := (10 : Int32)) (show decode _ _ = .ok (.bipush 10, 2) by decide +kernel) (by decide) ?_
        refine fw_aload_n (i := 0) 0 rfl (show decode _ _ = .ok (.aload_n 0, 1) by decide +kernel) ?_
        refine fw_getI (kd := 3) (k := 6) (show decode _ _ = .ok (.getfield 68, 3) by decide +kernel) gf_X3_68 hr2 hs3 (Or.inl rfl) ?_
        refine fw_isub (show decode _ _ = .ok (.isub, 1) by decide +kernel) ?_
        refine fw_aload_n (i := 0) 0 rfl (show decode _ _ = .ok (.aload_n 0, 1) by decide +kernel) ?_
        refine fw_getI (kd := 3) (k := 6) (show decode _ _ = .ok (.getfield 68, 3) by decide +kernel) gf_X3_68 hr2 hs3 (Or.inl rfl) ?_
        refine fw_aload_n (i := 0) 0 rfl (show decode _ _ = .ok (.aload_n 0, 1) by decide +kernel) ?_
        refine fw_getI (kd := 3) (k := 5) (show decode _ _ = .ok (.getfield 60, 3) by decide +kernel) gf_X3_60 hr2 hs3 (Or.inl rfl) ?_
        refine fw_iconst (v := (1 : Int32)) (show decode _ _ = .ok (.iconst 1, 1) by decide +kernel) (by decide) ?_
        refine fw_iload (i := 4) 3 rfl (show decode _ _ = .ok (.iload 4, 2) by decide +kernel) ?_
        refine fw_ishl (show decode _ _ = .ok (.ishl, 1) by decide +kernel) ?_
        refine fw_ior (show decode _ _ = .ok (.ior, 1) by decide +kernel) ?_
        refine fw_callV (mt' := mtX3_spreadFrom) (mc := 0) (ms := 0) (As := [.int ((10 : Int32) - (mI M p0 6)), .int (mI M p0 6), .int ((mI M p0 5) ||| ((1 : Int32) <<< (p4 &&& 31)))]) (rest := []) 3 3 n1 (show decode _ _ = .ok (.invokevirtual 109, 3) by decide +kernel) cv_X3_109 ⟨_, rfl, rfl⟩ hr2 hs3 rfl (Nat.le_of_ble_eq_true rfl) (s_X3_spreadFrom (d := d) (hd_le hd (by decide)) h_8) (by decide) (by decide) (kV (bc' := 0) (bs' := 0) (by decide) (by decide) (fun M6 h_9 => ?_))
        refine fw_aload_n (i := 0) 0 rfl (show decode _ _ = .ok (.aload_n 0, 1) by decide +kernel) ?_
        obtain ⟨⟨hr9, n8, hs10⟩, h_10⟩ := h_9
        refine fw_callV (mt' := mtX3_chooseFrom) (mc := 0) (ms := 0) (As := []) (rest := []) 0 3 n8 (show decode _ _ = .ok (.invokevirtual 169, 3) by decide +kernel) cv_X3_169 ⟨_, rfl, rfl⟩ hr9 hs10 rfl (Nat.le_of_ble_eq_true rfl) (s_X3_chooseFrom (d := d) (hd_le hd (by decide)) h_10) (by decide) (by decide) (kV (bc' := 0) (bs' := 0) (by decide) (by decide) (fun M7 h_11 => ?_))
        refine fw_aload_n (i := 0) 0 rfl (show decode _ _ = .ok (.aload_n 0, 1) by decide +kernel) ?_
        obtain ⟨⟨hr12, n11, hs13⟩, h_12⟩ := h_11
        refine fw_getJ (kd := 3) (k := 12) (show decode _ _ = .ok (.getfield 165, 3) by decide +kernel) gf_X3_165 hr12 hs13 rfl ?_
        refine fw_lload_n (i := 1) 1 rfl (show decode _ _ = .ok (.lload_n 1, 1) by decide +kernel) ?_
        refine fw_lcmp (show decode _ _ = .ok (.lcmp, 1) by decide +kernel) ?_
        refine fw_if_ge 91 (show decode _ _ = .ok (.ifCond .ge 11, 3) by decide +kernel) (by decide) (fun hc20 => ?_) (fun hc20 => ?_)
        · have h_13 := ipos hc20 h_12
          obtain ⟨x14, ex15⟩ : ∃ y : Int32, y = p4 + (1 : Int32) := ⟨_, rfl⟩
          have h_14 := h_13 x14 ex15
          refine fw_iinc (i := 4) (x := p4) (v := x14) (ls' := [(4, .int x14), (0, .ref p0), (1, .long p1), (3, .int p3)]) 3 rfl (show decode _ _ = .ok (.iinc 4 1, 3) by decide +kernel) (by rw [ex15]; rfl) (by decide) rfl ?_
          refine fw_goto 18 (show decode _ _ = .ok (.goto (-76), 3) by decide +kernel) (by decide) ?_
          refine FW.sub [1, 2, 3, 0] (ls' := [(0, .ref p0), (1, .long p1), (3, .int p3), (4, .int x14)]) rfl ?_
          exact hK18 _ _ _ _ _ h_14
        · have h_15 := ineg hc20 h_12
          refine fw_aload_n (i := 0) 0 rfl (show decode _ _ = .ok (.aload_n 0, 1) by decide +kernel) ?_
          refine fw_getJ (kd := 3) (k := 12) (show decode _ _ = .ok (.getfield 165, 3) by decide +kernel) gf_X3_165 hr12 hs13 rfl ?_
          refine fw_nmJ (fun x16 ex17 => ?_)
          have h_16 := h_15 x16 ex17
          refine fw_lstore_n (i := 1) (ls' := [(1, .long x16), (0, .ref p0), (3, .int p3), (4, .int p4)]) (show decode _ _ = .ok (.lstore_n 1, 1) by decide +kernel) (by decide) rfl ?_
          refine fw_iload (i := 4) 3 rfl (show decode _ _ = .ok (.iload 4, 2) by decide +kernel) ?_
          refine fw_istore_n (i := 3) (ls' := [(3, .int p4), (1, .long x16), (0, .ref p0), (4, .int p4)]) (show decode _ _ = .ok (.istore_n 3, 1) by decide +kernel) (by decide) rfl ?_
          obtain ⟨x18, ex19⟩ : ∃ y : Int32, y = p4 + (1 : Int32) := ⟨_, rfl⟩
          have h_17 := h_16 x18 ex19
          refine fw_iinc (i := 4) (x := p4) (v := x18) (ls' := [(4, .int x18), (3, .int p4), (1, .long x16), (0, .ref p0)]) 3 rfl (show decode _ _ = .ok (.iinc 4 1, 3) by decide +kernel) (by rw [ex19]; rfl) (by decide) rfl ?_
          refine fw_goto 18 (show decode _ _ = .ok (.goto (-76), 3) by decide +kernel) (by decide) ?_
          refine FW.sub [3, 2, 1, 0] (ls' := [(0, .ref p0), (1, .long x16), (3, .int p4), (4, .int x18)]) rfl ?_
          exact hK18 _ _ _ _ _ h_17
theorem sl_X3_bestMark_18 {g : GT} {d : Nat} (hd : 5 ≤ d + 1) {φ : Int32 → fM → Prop} : ∀ (n : Nat) {p0 : Nat} {p1 : Int64} {p3 : Int32} {p4 : Int32} {M : fM}, l_X3_bestMark_18 φ n p0 p1 p3 p4 M → FW g mtX3_bestMark (d + 1) 18 [(0, .ref p0), (1, .long p1), (3, .int p3), (4, .int p4)] [] M 0 0 (rI φ)
  | 0 => fun h => h.elim
  | n + 1 => fun h => sb_X3_bestMark_18 hd (fun _ _ _ _ _ h => sl_X3_bestMark_18 hd n h) h
def w_X3_bestMark (p0 : Nat) (M : fM) (φ : Int32 → fM → Prop) : Prop := isO M p0 3 ∧ w_X3_spread p0 M fun M24 => isO M24 p0 3 ∧ w_X3_chooseFrom p0 M24 fun M28 => isO M28 p0 3 ∧ nm (mJ M28 p0 12) fun x35 => ∃ n, l_X3_bestMark_18 φ n p0 x35 (-1 : Int32) (1 : Int32) M28
set_option maxRecDepth 100000 in
theorem s_X3_bestMark {g : GT} {d : Nat} (hd : 5 ≤ d) {p0 : Nat} {M : fM} {φ : Int32 → fM → Prop} (h : w_X3_bestMark p0 M φ) : FC g mtX3_bestMark d [.ref p0] M 0 0 (rI φ) := by
  obtain ⟨d, rfl⟩ : ∃ e, d = e + 1 := ⟨d - 1, by omega⟩
  unfold w_X3_bestMark at h
  refine FC.intro (nL := 5) (by decide) rfl (Nat.le_of_ble_eq_true rfl) ?_
  show FW g mtX3_bestMark (d + 1) 0 [(0, .ref p0)] [] M 0 0 (rI φ)
  refine fw_aload_n (i := 0) 0 rfl (show decode _ _ = .ok (.aload_n 0, 1) by decide +kernel) ?_
  obtain ⟨⟨hr26, n25, hs27⟩, h_1⟩ := h
  refine fw_callV (mt' := mtX3_spread) (mc := 0) (ms := 0) (As := []) (rest := []) 0 3 n25 (show decode _ _ = .ok (.invokevirtual 145, 3) by decide +kernel) cv_X3_145 ⟨_, rfl, rfl⟩ hr26 hs27 rfl (Nat.le_of_ble_eq_true rfl) (s_X3_spread (d := d) (hd_le hd (by decide)) h_1) (by decide) (by decide) (kV (bc' := 0) (bs' := 0) (by decide) (by decide) (fun M24 h_2 => ?_))
  refine fw_aload_n (i := 0) 0 rfl (show decode _ _ = .ok (.aload_n 0, 1) by decide +kernel) ?_
  obtain ⟨⟨hr30, n29, hs31⟩, h_3⟩ := h_2
  refine fw_callV (mt' := mtX3_chooseFrom) (mc := 0) (ms := 0) (As := []) (rest := []) 0 3 n29 (show decode _ _ = .ok (.invokevirtual 169, 3) by decide +kernel) cv_X3_169 ⟨_, rfl, rfl⟩ hr30 hs31 rfl (Nat.le_of_ble_eq_true rfl) (s_X3_chooseFrom (d := d) (hd_le hd (by decide)) h_3) (by decide) (by decide) (kV (bc' := 0) (bs' := 0) (by decide) (by decide) (fun M28 h_4 => ?_))
  refine fw_aload_n (i := 0) 0 rfl (show decode _ _ = .ok (.aload_n 0, 1) by decide +kernel) ?_
  obtain ⟨⟨hr33, n32, hs34⟩, h_5⟩ := h_4
  refine fw_getJ (kd := 3) (k := 12) (show decode _ _ = .ok (.getfield 165, 3) by decide +kernel) gf_X3_165 hr33 hs34 rfl ?_
  refine fw_nmJ (fun x35 ex36 => ?_)
  have h_6 := h_5 x35 ex36
  refine fw_lstore_n (i := 1) (ls' := [(1, .long x35), (0, .ref p0)]) (show decode _ _ = .ok (.lstore_n 1, 1) by decide +kernel) (by decide) rfl ?_
  refine fw_iconst (v := (-1 : Int32)) (show decode _ _ = .ok (.iconst (-1), 1) by decide +kernel) (by decide) ?_
  refine fw_istore_n (i := 3) (ls' := [(3, .int (-1 : Int32)), (1, .long x35), (0, .ref p0)]) (show decode _ _ = .ok (.istore_n 3, 1) by decide +kernel) (by decide) rfl ?_
  refine fw_iconst (v := (1 : Int32)) (show decode _ _ = .ok (.iconst 1, 1) by decide +kernel) (by decide) ?_
  refine fw_istore (i := 4) (ls' := [(4, .int (1 : Int32)), (3, .int (-1 : Int32)), (1, .long x35), (0, .ref p0)]) (show decode _ _ = .ok (.istore 4, 2) by decide +kernel) (by decide) rfl ?_
  refine FW.sub [3, 2, 1, 0] (ls' := [(0, .ref p0), (1, .long x35), (3, .int (-1 : Int32)), (4, .int (1 : Int32))]) rfl ?_
  obtain ⟨nn, h_7⟩ := h_6
  exact sl_X3_bestMark_18 hd nn h_7
def w_X10_worth (p0 : Nat) (p1 : Int32) (p2 : Int32) (p3 : Int32) (M : fM) (φ : Int32 → fM → Prop) : Prop := isO M p0 10 ∧ dR (mP M p0 5) fun y4 => isO M y4 3 ∧ w_X3_look y4 p1 p2 p3 M fun x10 M6 => iF (x10 = 0) (φ (-1 : Int32) M6) (isO M6 p0 10 ∧ dR (mP M6 p0 5) fun y14 => isO M6 y14 3 ∧ w_X3_bestMark y14 M6 fun x20 M16 => φ x20 M16)
set_option maxRecDepth 100000 in
theorem s_X10_worth {g : GT} {d : Nat} (hd : 6 ≤ d) {p0 : Nat} {p1 : Int32} {p2 : Int32} {p3 : Int32} {M : fM} {φ : Int32 → fM → Prop} (h : w_X10_worth p0 p1 p2 p3 M φ) : FC g mtX10_worth d [.ref p0, .int p1, .int p2, .int p3] M 0 0 (rI φ) := by
  obtain ⟨d, rfl⟩ : ∃ e, d = e + 1 := ⟨d - 1, by omega⟩
  unfold w_X10_worth at h
  refine FC.intro (nL := 4) (by decide) rfl (Nat.le_of_ble_eq_true rfl) ?_
  show FW g mtX10_worth (d + 1) 0 [(0, .ref p0), (1, .int p1), (2, .int p2), (3, .int p3)] [] M 0 0 (rI φ)
  refine fw_aload_n (i := 0) 0 rfl (show decode _ _ = .ok (.aload_n 0, 1) by decide +kernel) ?_
  obtain ⟨⟨hr2, n1, hs3⟩, h_1⟩ := h
  refine fw_getP (kd := 10) (k := 5) (show decode _ _ = .ok (.getfield 50, 3) by decide +kernel) gf_X10_50 hr2 hs3 rfl ?_
  have h_2 := dR_e h_1
  obtain ⟨y4, hy5, h_3⟩ := h_2
  refine fw_deref hy5 ?_
  refine fw_iload_n (i := 1) 1 rfl (show decode _ _ = .ok (.iload_n 1, 1) by decide +kernel) ?_
  refine fw_iload_n (i := 2) 2 rfl (show decode _ _ = .ok (.iload_n 2, 1) by decide +kernel) ?_
  refine fw_iload_n (i := 3) 3 rfl (show decode _ _ = .ok (.iload_n 3, 1) by decide +kernel) ?_
  obtain ⟨⟨hr8, n7, hs9⟩, h_4⟩ := h_3
  refine fw_callV (mt' := mtX3_look) (mc := 0) (ms := 0) (As := [.int p1, .int p2, .int p3]) (rest := []) 3 3 n7 (show decode _ _ = .ok (.invokevirtual 203, 3) by decide +kernel) cv_X10_203 ⟨_, rfl, rfl⟩ hr8 hs9 rfl (Nat.le_of_ble_eq_true rfl) (s_X3_look (d := d) (hd_le hd (by decide)) h_4) (by decide) (by decide) (kI (bc' := 0) (bs' := 0) (by decide) (by decide) (fun x10 M6 h_5 => ?_))
  refine fw_if_eq 23 (show decode _ _ = .ok (.ifCond .eq 13, 3) by decide +kernel) (by decide) (fun hc21 => ?_) (fun hc21 => ?_)
  · have h_6 := ipos hc21 h_5
    refine fw_iconst (v := (-1 : Int32)) (show decode _ _ = .ok (.iconst (-1), 1) by decide +kernel) (by decide) ?_
    exact fw_ret (v := some (.int (-1 : Int32))) .ireturn (show decode _ _ = .ok (.ireturn, 1) by decide +kernel) ⟨rfl, Or.inl rfl⟩ ⟨_, rfl, h_6⟩
  · have h_7 := ineg hc21 h_5
    refine fw_aload_n (i := 0) 0 rfl (show decode _ _ = .ok (.aload_n 0, 1) by decide +kernel) ?_
    obtain ⟨⟨hr12, n11, hs13⟩, h_8⟩ := h_7
    refine fw_getP (kd := 10) (k := 5) (show decode _ _ = .ok (.getfield 50, 3) by decide +kernel) gf_X10_50 hr12 hs13 rfl ?_
    have h_9 := dR_e h_8
    obtain ⟨y14, hy15, h_10⟩ := h_9
    refine fw_deref hy15 ?_
    obtain ⟨⟨hr18, n17, hs19⟩, h_11⟩ := h_10
    refine fw_callV (mt' := mtX3_bestMark) (mc := 0) (ms := 0) (As := []) (rest := []) 0 3 n17 (show decode _ _ = .ok (.invokevirtual 225, 3) by decide +kernel) cv_X10_225 ⟨_, rfl, rfl⟩ hr18 hs19 rfl (Nat.le_of_ble_eq_true rfl) (s_X3_bestMark (d := d) (hd_le hd (by decide)) h_11) (by decide) (by decide) (kI (bc' := 0) (bs' := 0) (by decide) (by decide) (fun x20 M16 h_12 => ?_))
    refine fw_goto 24 (show decode _ _ = .ok (.goto 4, 3) by decide +kernel) (by decide) ?_
    exact fw_ret (v := some (.int x20)) .ireturn (show decode _ _ = .ok (.ireturn, 1) by decide +kernel) ⟨rfl, Or.inl rfl⟩ ⟨_, rfl, h_12⟩
def w_X11_isIn (p0 : Int32) (p1 : Int32) (p2 : Int32) (M : fM) (φ : Int32 → fM → Prop) : Prop := iF (p0 < p1) (φ (0 : Int32) M) (iF (p2 < p0) (φ (0 : Int32) M) (φ (1 : Int32) M))
set_option maxRecDepth 100000 in
theorem s_X11_isIn {g : GT} {d : Nat} (hd : 1 ≤ d) {p0 : Int32} {p1 : Int32} {p2 : Int32} {M : fM} {φ : Int32 → fM → Prop} (h : w_X11_isIn p0 p1 p2 M φ) : FC g mtX11_isIn d [.int p0, .int p1, .int p2] M 0 0 (rI φ) := by
  obtain ⟨d, rfl⟩ : ∃ e, d = e + 1 := ⟨d - 1, by omega⟩
  unfold w_X11_isIn at h
  refine FC.intro (nL := 3) (by decide) rfl (Nat.le_of_ble_eq_true rfl) ?_
  show FW g mtX11_isIn (d + 1) 0 [(0, .int p0), (1, .int p1), (2, .int p2)] [] M 0 0 (rI φ)
  refine fw_iload_n (i := 0) 0 rfl (show decode _ _ = .ok (.iload_n 0, 1) by decide +kernel) ?_
  refine fw_iload_n (i := 1) 1 rfl (show decode _ _ = .ok (.iload_n 1, 1) by decide +kernel) ?_
  refine fw_icmp_lt 14 (show decode _ _ = .ok (.if_icmp .lt 12, 3) by decide +kernel) (by decide) (fun hc2 => ?_) (fun hc2 => ?_)
  · have h_1 := ipos hc2 h
    refine fw_iconst (v := (0 : Int32)) (show decode _ _ = .ok (.iconst 0, 1) by decide +kernel) (by decide) ?_
    exact fw_ret (v := some (.int (0 : Int32))) .ireturn (show decode _ _ = .ok (.ireturn, 1) by decide +kernel) ⟨rfl, Or.inr (Or.inl ⟨rfl, rfl⟩)⟩ ⟨_, rfl, h_1⟩
  · have h_2 := ineg hc2 h
    refine fw_iload_n (i := 0) 0 rfl (show decode _ _ = .ok (.iload_n 0, 1) by decide +kernel) ?_
    refine fw_iload_n (i := 2) 2 rfl (show decode _ _ = .ok (.iload_n 2, 1) by decide +kernel) ?_
    refine fw_icmp_gt 14 (show decode _ _ = .ok (.if_icmp .gt 7, 3) by decide +kernel) (by decide) (fun hc1 => ?_) (fun hc1 => ?_)
    · have h_3 := ipos hc1 h_2
      refine fw_iconst (v := (0 : Int32)) (show decode _ _ = .ok (.iconst 0, 1) by decide +kernel) (by decide) ?_
      exact fw_ret (v := some (.int (0 : Int32))) .ireturn (show decode _ _ = .ok (.ireturn, 1) by decide +kernel) ⟨rfl, Or.inr (Or.inl ⟨rfl, rfl⟩)⟩ ⟨_, rfl, h_3⟩
    · have h_4 := ineg hc1 h_2
      refine fw_iconst (v := (1 : Int32)) (show decode _ _ = .ok (.iconst 1, 1) by decide +kernel) (by decide) ?_
      refine fw_goto 15 (show decode _ _ = .ok (.goto 4, 3) by decide +kernel) (by decide) ?_
      exact fw_ret (v := some (.int (1 : Int32))) .ireturn (show decode _ _ = .ok (.ireturn, 1) by decide +kernel) ⟨rfl, Or.inr (Or.inl ⟨rfl, rfl⟩)⟩ ⟨_, rfl, h_4⟩
