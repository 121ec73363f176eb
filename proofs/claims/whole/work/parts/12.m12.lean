def b_X2_anyoneTrips_3 (K3 : Nat → Nat → Int32 → Int32 → Int32 → Int32 → Int32 → fM → Prop) (φ : Int32 → fM → Prop) (p0 : Nat) (p1 : Nat) (p2 : Int32) (p3 : Int32) (p4 : Int32) (p5 : Int32) (p6 : Int32) (M : fM) : Prop := isO M p0 2 ∧ dR (mP M p0 0) fun y4 => isO M y4 5 ∧ iF ((mI M y4 4) ≤ p6) (φ (0 : Int32) M) (dR (mP M p0 1) fun y9 => dR (mP M p0 0) fun y11 => dR (mP M p0 0) fun y13 => dR (mP M p0 0) fun y15 => isO M y15 5 ∧ isO M y13 5 ∧ w_X5_textOf y13 (mI M y15 15) M fun o24 M20 => isO M20 y9 1 ∧ w_X1_turnTo y9 y11 o24 p6 p2 (0 : Int32) M20 fun M25 => isO M25 p0 2 ∧ dR (mP M25 p0 1) fun y32 => isO M25 y32 1 ∧ w_X1_face y32 p1 p3 M25 fun M34 => isO M34 p0 2 ∧ dR (mP M34 p0 1) fun y41 => isO M34 y41 1 ∧ w_X1_suppose y41 p4 p5 M34 fun M43 => isO M43 p0 2 ∧ dR (mP M43 p0 1) fun y50 => isO M43 y50 1 ∧ w_X1_tripsNow y50 M43 fun x56 M52 => iF (x56 = 0) (nm (p6 + (1 : Int32)) fun x57 => K3 p0 p1 p2 p3 p4 p5 x57 M52) (φ (1 : Int32) M52))
def l_X2_anyoneTrips_3 (φ : Int32 → fM → Prop) : Nat → Nat → Nat → Int32 → Int32 → Int32 → Int32 → Int32 → fM → Prop
  | 0, _, _, _, _, _, _, _, _ => False
  | n + 1, p0, p1, p2, p3, p4, p5, p6, M => b_X2_anyoneTrips_3 (l_X2_anyoneTrips_3 φ n) φ p0 p1 p2 p3 p4 p5 p6 M
set_option maxRecDepth 100000 in
theorem sb_X2_anyoneTrips_3 {g : GT} {d : Nat} (hd : 4 ≤ d + 1) {K3 : Nat → Nat → Int32 → Int32 → Int32 → Int32 → Int32 → fM → Prop} {φ : Int32 → fM → Prop} (hK3 : ∀ (p0 : Nat) (p1 : Nat) (p2 : Int32) (p3 : Int32) (p4 : Int32) (p5 : Int32) (p6 : Int32) (M : fM), K3 p0 p1 p2 p3 p4 p5 p6 M → FW g mtX2_anyoneTrips (d + 1) 3 [(0, .ref p0), (1, .ref p1), (2, .int p2), (3, .int p3), (4, .int p4), (5, .int p5), (6, .int p6)] [] M 0 0 (rI φ)) {p0 : Nat} {p1 : Nat} {p2 : Int32} {p3 : Int32} {p4 : Int32} {p5 : Int32} {p6 : Int32} {M : fM} (h : b_X2_anyoneTrips_3 K3 φ p0 p1 p2 p3 p4 p5 p6 M) : FW g mtX2_anyoneTrips (d + 1) 3 [(0, .ref p0), (1, .ref p1), (2, .int p2), (3, .int p3), (4, .int p4), (5, .int p5), (6, .int p6)] [] M 0 0 (rI φ) := by
  unfold b_X2_anyoneTrips_3 at h
  refine fw_iload (i := 6) 6 rfl (show decode _ _ = .ok (.iload 6, 2) by decide +kernel) ?_
  refine fw_aload_n (i := 0) 0 rfl (show decode _ _ = .ok (.aload_n 0, 1) by decide +kernel) ?_
  obtain ⟨⟨hr2, n1, hs3⟩, h_1⟩ := h
  refine fw_getP (kd := 2) (k := 0) (show decode _ _ = .ok (.getfield 21, 3) by decide +kernel) gf_X2_21 hr2 hs3 rfl ?_
  have h_2 := dR_e h_1
  obtain ⟨y4, hy5, h_3⟩ := h_2
  refine fw_deref hy5 ?_
  obtain ⟨⟨hr7, n6, hs8⟩, h_4⟩ := h_3
  refine fw_getI (kd := 5) (k := 4) (show decode _ _ = .ok (.getfield 92, 3) by decide +kernel) gf_X2_92 hr7 hs8 (Or.inl rfl) ?_
  refine fw_icmp_ge 82 (show decode _ _ = .ok (.if_icmp .ge 70, 3) by decide +kernel) (by decide) (fun hc60 => ?_) (fun hc60 => ?_)
  · have h_5 := ipos hc60 h_4
    refine fw_iconst (v := (0 : Int32)) (show decode _ _ = .ok (.iconst 0, 1) by decide +kernel) (by decide) ?_
    exact fw_ret (v := some (.int (0 : Int32))) .ireturn (show decode _ _ = .ok (.ireturn, 1) by decide +kernel) ⟨rfl, Or.inr (Or.inl ⟨rfl, rfl⟩)⟩ ⟨_, rfl, h_5⟩
  · have h_6 := ineg hc60 h_4
    refine fw_aload_n (i := 0) 0 rfl (show decode _ _ = .ok (.aload_n 0, 1) by decide +kernel) ?_
    refine fw_getP (kd := 2) (k := 1) (show decode _ _ = .ok (.getfield 25, 3) by decide +kernel) gf_X2_25 hr2 hs3 rfl ?_
    have h_7 := dR_e h_6
    obtain ⟨y9, hy10, h_8⟩ := h_7
    refine fw_deref hy10 ?_
    refine fw_aload_n (i := 0) 0 rfl (show decode _ _ = .ok (.aload_n 0, 1) by decide +kernel) ?_
    refine fw_getP (kd := 2) (k := 0) (show decode _ _ = .ok (.getfield 21, 3) by decide +kernel) gf_X2_21 hr2 hs3 rfl ?_
    have h_9 := dR_e h_8
    obtain ⟨y11, hy12, h_10⟩ := h_9
    refine fw_deref hy12 ?_
    refine fw_aload_n (i := 0) 0 rfl (show decode _ _ = .ok (.aload_n 0, 1) by decide +kernel) ?_
    refine fw_getP (kd := 2) (k := 0) (show decode _ _ = .ok (.getfield 21, 3) by decide +kernel) gf_X2_21 hr2 hs3 rfl ?_
    have h_11 := dR_e h_10
    obtain ⟨y13, hy14, h_12⟩ := h_11
    refine fw_deref hy14 ?_
    refine fw_aload_n (i := 0) 0 rfl (show decode _ _ = .ok (.aload_n 0, 1) by decide +kernel) ?_
    refine fw_getP (kd := 2) (k := 0) (show decode _ _ = .ok (.getfield 21, 3) by decide +kernel) gf_X2_21 hr2 hs3 rfl ?_
    have h_13 := dR_e h_12
    obtain ⟨y15, hy16, h_14⟩ := h_13
    refine fw_deref hy16 ?_
    obtain ⟨⟨hr18, n17, hs19⟩, h_15⟩ := h_14
    refine fw_getI (kd := 5) (k := 15) (show decode _ _ = .ok (.getfield 95, 3) by decide +kernel) gf_X2_95 hr18 hs19 (Or.inl rfl) ?_
    obtain ⟨⟨hr22, n21, hs23⟩, h_16⟩ := h_15
    refine fw_callV (mt' := mtX5_textOf) (mc := 0) (ms := 0) (As := [.int (mI M y15 15)]) (rest := [.ref y11, .ref y9]) 1 5 n21 (show decode _ _ = .ok (.invokevirtual 98, 3) by decide +kernel) cv_X2_98 ⟨_, rfl, rfl⟩ hr22 hs23 rfl (Nat.le_of_ble_eq_true rfl) (s_X5_textOf (d := d) (hd_le hd (by decide)) h_16) (by decide) (by decide) (kP (bc' := 0) (bs' := 0) (by decide) (by decide) (fun o24 M20 h_17 => ?_))
    refine fw_iload (i := 6) 6 rfl (show decode _ _ = .ok (.iload 6, 2) by decide +kernel) ?_
    refine fw_iload_n (i := 2) 2 rfl (show decode _ _ = .ok (.iload_n 2, 1) by decide +kernel) ?_
    refine fw_iconst (v := (0 : Int32)) (show decode _ _ = .ok (.iconst 0, 1) by decide +kernel) (by decide) ?_
    obtain ⟨⟨hr27, n26, hs28⟩, h_18⟩ := h_17
    refine fw_callV (mt' := mtX1_turnTo) (mc := 0) (ms := 0) (As := [.ref y11, fr o24, .int p6, .int p2, .int (0 : Int32)]) (rest := []) 5 1 n26 (show decode _ _ = .ok (.invokevirtual 102, 3) by decide +kernel) cv_X2_102 ⟨_, rfl, rfl⟩ hr27 hs28 rfl (Nat.le_of_ble_eq_true rfl) (s_X1_turnTo (d := d) (hd_le hd (by decide)) h_18) (by decide) (by decide) (kV (bc' := 0) (bs' := 0) (by decide) (by decide) (fun M25 h_19 => ?_))
    refine fw_aload_n (i := 0) 0 rfl (show decode _ _ = .ok (.aload_n 0, 1) by decide +kernel) ?_
    obtain ⟨⟨hr30, n29, hs31⟩, h_20⟩ := h_19
    refine fw_getP (kd := 2) (k := 1) (show decode _ _ = .ok (.getfield 25, 3) by decide +kernel) gf_X2_25 hr30 hs31 rfl ?_
    have h_21 := dR_e h_20
    obtain ⟨y32, hy33, h_22⟩ := h_21
    refine fw_deref hy33 ?_
    refine fw_aload_n (i := 1) 1 rfl (show decode _ _ = .ok (.aload_n 1, 1) by decide +kernel) ?_
    refine fw_iload_n (i := 3) 3 rfl (show decode _ _ = .ok (.iload_n 3, 1) by decide +kernel) ?_
    obtain ⟨⟨hr36, n35, hs37⟩, h_23⟩ := h_22
    refine fw_callV (mt' := mtX1_face) (mc := 0) (ms := 0) (As := [.ref p1, .int p3]) (rest := []) 2 1 n35 (show decode _ _ = .ok (.invokevirtual 108, 3) by decide +kernel) cv_X2_108 ⟨_, rfl, rfl⟩ hr36 hs37 rfl (Nat.le_of_ble_eq_true rfl) (s_X1_face (d := d) (hd_le hd (by decide)) h_23) (by decide) (by decide) (kV (bc' := 0) (bs' := 0) (by decide) (by decide) (fun M34 h_24 => ?_))
    refine fw_aload_n (i := 0) 0 rfl (show decode _ _ = .ok (.aload_n 0, 1) by decide +kernel) ?_
    obtain ⟨⟨hr39, n38, hs40⟩, h_25⟩ := h_24
    refine fw_getP (kd := 2) (k := 1) (show decode _ _ = .ok (.getfield 25, 3) by decide +kernel) gf_X2_25 hr39 hs40 rfl ?_
    have h_26 := dR_e h_25
    obtain ⟨y41, hy42, h_27⟩ := h_26
    refine fw_deref hy42 ?_
    refine fw_iload (i := 4) 4 rfl (show decode _ _ = .ok (.iload 4, 2) by decide +kernel) ?_
    refine fw_iload (i := 5) 5 rfl (show decode _ _ = .ok (.iload 5, 2) by decide +kernel) ?_
    obtain ⟨⟨hr45, n44, hs46⟩, h_28⟩ := h_27
    refine fw_callV (mt' := mtX1_suppose) (mc := 0) (ms := 0) (As := [.int p4, .int p5]) (rest := []) 2 1 n44 (show decode _ _ = .ok (.invokevirtual 112, 3) by decide +kernel) cv_X2_112 ⟨_, rfl, rfl⟩ hr45 hs46 rfl (Nat.le_of_ble_eq_true rfl) (s_X1_suppose (d := d) (hd_le hd (by decide)) h_28) (by decide) (by decide) (kV (bc' := 0) (bs' := 0) (by decide) (by decide) (fun M43 h_29 => ?_))
    refine fw_aload_n (i := 0) 0 rfl (show decode _ _ = .ok (.aload_n 0, 1) by decide +kernel) ?_
    obtain ⟨⟨hr48, n47, hs49⟩, h_30⟩ := h_29
    refine fw_getP (kd := 2) (k := 1) (show decode _ _ = .ok (.getfield 25, 3) by decide +kernel) gf_X2_25 hr48 hs49 rfl ?_
    have h_31 := dR_e h_30
    obtain ⟨y50, hy51, h_32⟩ := h_31
    refine fw_deref hy51 ?_
    obtain ⟨⟨hr54, n53, hs55⟩, h_33⟩ := h_32
    refine fw_callV (mt' := mtX1_tripsNow) (mc := 0) (ms := 0) (As := []) (rest := []) 0 1 n53 (show decode _ _ = .ok (.invokevirtual 116, 3) by decide +kernel) cv_X2_116 ⟨_, rfl, rfl⟩ hr54 hs55 rfl (Nat.le_of_ble_eq_true rfl) (s_X1_tripsNow (d := d) (hd_le hd (by decide)) h_33) (by decide) (by decide) (kI (bc' := 0) (bs' := 0) (by decide) (by decide) (fun x56 M52 h_34 => ?_))
    refine fw_if_eq 76 (show decode _ _ = .ok (.ifCond .eq 5, 3) by decide +kernel) (by decide) (fun hc59 => ?_) (fun hc59 => ?_)
    · have h_35 := ipos hc59 h_34
      obtain ⟨x57, ex58⟩ : ∃ y : Int32, y = p6 + (1 : Int32) := ⟨_, rfl⟩
      have h_36 := h_35 x57 ex58
      refine fw_iinc (i := 6) (x := p6) (v := x57) (ls' := [(6, .int x57), (0, .ref p0), (1, .ref p1), (2, .int p2), (3, .int p3), (4, .int p4), (5, .int p5)]) 6 rfl (show decode _ _ = .ok (.iinc 6 1, 3) by decide +kernel) (by rw [ex58]; rfl) (by decide) rfl ?_
      refine fw_goto 3 (show decode _ _ = .ok (.goto (-76), 3) by decide +kernel) (by decide) ?_
      refine FW.sub [1, 2, 3, 4, 5, 6, 0] (ls' := [(0, .ref p0), (1, .ref p1), (2, .int p2), (3, .int p3), (4, .int p4), (5, .int p5), (6, .int x57)]) rfl ?_
      exact hK3 _ _ _ _ _ _ _ _ h_36
    · have h_37 := ineg hc59 h_34
      refine fw_iconst (v := (1 : Int32)) (show decode _ _ = .ok (.iconst 1, 1) by decide +kernel) (by decide) ?_
      exact fw_ret (v := some (.int (1 : Int32))) .ireturn (show decode _ _ = .ok (.ireturn, 1) by decide +kernel) ⟨rfl, Or.inr (Or.inl ⟨rfl, rfl⟩)⟩ ⟨_, rfl, h_37⟩
theorem sl_X2_anyoneTrips_3 {g : GT} {d : Nat} (hd : 4 ≤ d + 1) {φ : Int32 → fM → Prop} : ∀ (n : Nat) {p0 : Nat} {p1 : Nat} {p2 : Int32} {p3 : Int32} {p4 : Int32} {p5 : Int32} {p6 : Int32} {M : fM}, l_X2_anyoneTrips_3 φ n p0 p1 p2 p3 p4 p5 p6 M → FW g mtX2_anyoneTrips (d + 1) 3 [(0, .ref p0), (1, .ref p1), (2, .int p2), (3, .int p3), (4, .int p4), (5, .int p5), (6, .int p6)] [] M 0 0 (rI φ)
  | 0 => fun h => h.elim
  | n + 1 => fun h => sb_X2_anyoneTrips_3 hd (fun _ _ _ _ _ _ _ _ h => sl_X2_anyoneTrips_3 hd n h) h
def w_X2_anyoneTrips (p0 : Nat) (p1 : Nat) (p2 : Int32) (p3 : Int32) (p4 : Int32) (p5 : Int32) (M : fM) (φ : Int32 → fM → Prop) : Prop := ∃ n, l_X2_anyoneTrips_3 φ n p0 p1 p2 p3 p4 p5 (0 : Int32) M
set_option maxRecDepth 100000 in
theorem s_X2_anyoneTrips {g : GT} {d : Nat} (hd : 4 ≤ d) {p0 : Nat} {p1 : Nat} {p2 : Int32} {p3 : Int32} {p4 : Int32} {p5 : Int32} {M : fM} {φ : Int32 → fM → Prop} (h : w_X2_anyoneTrips p0 p1 p2 p3 p4 p5 M φ) : FC g mtX2_anyoneTrips d [.ref p0, .ref p1, .int p2, .int p3, .int p4, .int p5] M 0 0 (rI φ) := by
  obtain ⟨d, rfl⟩ : ∃ e, d = e + 1 := ⟨d - 1, by omega⟩
  unfold w_X2_anyoneTrips at h
  refine FC.intro (nL := 7) (by decide) rfl (Nat.le_of_ble_eq_true rfl) ?_
  show FW g mtX2_anyoneTrips (d + 1) 0 [(0, .ref p0), (1, .ref p1), (2, .int p2), (3, .int p3), (4, .int p4), (5, .int p5)] [] M 0 0 (rI φ)
  refine fw_iconst (v := (0 : Int32)) (show decode _ _ = .ok (.iconst 0, 1) by decide +kernel) (by decide) ?_
  refine fw_istore (i := 6) (ls' := [(6, .int (0 : Int32)), (0, .ref p0), (1, .ref p1), (2, .int p2), (3, .int p3), (4, .int p4), (5, .int p5)]) (show decode _ _ = .ok (.istore 6, 2) by decide +kernel) (by decide) rfl ?_
  refine FW.sub [1, 2, 3, 4, 5, 6, 0] (ls' := [(0, .ref p0), (1, .ref p1), (2, .int p2), (3, .int p3), (4, .int p4), (5, .int p5), (6, .int (0 : Int32))]) rfl ?_
  obtain ⟨nn, h_1⟩ := h
  exact sl_X2_anyoneTrips_3 hd nn h_1
def b_X2_choose_33 (K33 : Nat → Nat → Int32 → Int32 → Int32 → Int32 → Int32 → fM → Prop) (φ : fM → Prop) (p0 : Nat) (p1 : Nat) (p2 : Int32) (p3 : Int32) (p4 : Int32) (p5 : Int32) (p6 : Int32) (M : fM) : Prop := iF ((9 : Int32) ≤ p6) (φ M) (isO M p0 2 ∧ w_X2_cheapest p0 M fun x5 M1 => isO M1 p0 2 ∧ dR (mP M1 p0 4) fun y9 => w_X10_cell y9 x5 M1 fun x12 M11 => iF (x12 < (1000000 : Int32)) (isO M11 p0 2 ∧ w_X2_anyoneTrips p0 p1 p2 p3 x5 p4 M11 fun x17 M13 => iF (x17 = 0) (isO M13 p0 2 ∧ dR (mP M13 p0 2) fun y29 => dR (mP M13 p0 4) fun y31 => w_X10_cell y31 x5 M13 fun x34 M33 => w_X10_put y29 p5 x34 M33 fun M35 => isO M35 p0 2 ∧ dR (mP M35 p0 3) fun y39 => w_X10_put y39 p5 x5 M35 fun M41 => φ M41) (isO M13 p0 2 ∧ dR (mP M13 p0 4) fun y21 => w_X10_put y21 x5 (1000000 : Int32) M13 fun M23 => nm (p6 + (1 : Int32)) fun x24 => K33 p0 p1 p2 p3 p4 p5 x24 M23)) (φ M11))
def l_X2_choose_33 (φ : fM → Prop) : Nat → Nat → Nat → Int32 → Int32 → Int32 → Int32 → Int32 → fM → Prop
  | 0, _, _, _, _, _, _, _, _ => False
  | n + 1, p0, p1, p2, p3, p4, p5, p6, M => b_X2_choose_33 (l_X2_choose_33 φ n) φ p0 p1 p2 p3 p4 p5 p6 M
set_option maxRecDepth 100000 in
theorem sb_X2_choose_33 {g : GT} {d : Nat} (hd : 5 ≤ d + 1) {K33 : Nat → Nat → Int32 → Int32 → Int32 → Int32 → Int32 → fM → Prop} {φ : fM → Prop} (hK33 : ∀ (p0 : Nat) (p1 : Nat) (p2 : Int32) (p3 : Int32) (p4 : Int32) (p5 : Int32) (p6 : Int32) (M : fM), K33 p0 p1 p2 p3 p4 p5 p6 M → FW g mtX2_choose (d + 1) 33 [(0, .ref p0), (1, .ref p1), (2, .int p2), (3, .int p3), (4, .int p4), (5, .int p5), (6, .int p6)] [] M 0 0 (rV φ)) {p0 : Nat} {p1 : Nat} {p2 : Int32} {p3 : Int32} {p4 : Int32} {p5 : Int32} {p6 : Int32} {M : fM} (h : b_X2_choose_33 K33 φ p0 p1 p2 p3 p4 p5 p6 M) : FW g mtX2_choose (d + 1) 33 [(0, .ref p0), (1, .ref p1), (2, .int p2), (3, .int p3), (4, .int p4), (5, .int p5), (6, .int p6)] [] M 0 0 (rV φ) := by
  unfold b_X2_choose_33 at h
  refine fw_iload (i := 6) 6 rfl (show decode _ _ = .ok (.iload 6, 2) by decide +kernel) ?_
  refine fw_bipush (v := (9 : Int32)) (show decode _ _ = .ok (.bipush 9, 2) by decide +kernel) (by decide) ?_
  refine fw_icmp_ge 122 (show decode _ _ = .ok (.if_icmp .ge 85, 3) by decide +kernel) (by decide) (fun hc44 => ?_) (fun hc44 => ?_)
  · have h_1 := ipos hc44 h
    exact fw_ret (v := none) .return_ (show decode _ _ = .ok (.return_, 1) by decide +kernel) ⟨rfl, rfl⟩ ⟨rfl, h_1⟩
  · have h_2 := ineg hc44 h
    refine fw_aload_n (i := 0) 0 rfl (show decode _ _ = .ok (.aload_n 0, 1) by decide +kernel) ?_
    obtain ⟨⟨hr3, n2, hs4⟩, h_3⟩ := h_2
    refine fw_callV (mt' := mtX2_cheapest) (mc := 0) (ms := 0) (As := []) (rest := []) 0 2 n2 (show decode _ _ = .ok (.invokevirtual 84, 3) by decide +kernel) cv_X2_84 ⟨_, rfl, rfl⟩ hr3 hs4 rfl (Nat.le_of_ble_eq_true rfl) (s_X2_cheapest (d := d) (hd_le hd (by decide)) h_3) (by decide) (by decide) (kI (bc' := 0) (bs' := 0) (by decide) (by decide) (fun x5 M1 h_4 => ?_))
    refine fw_istore (i := 7) (ls' := [(7, .int x5), (0, .ref p0), (1, .ref p1), (2, .int p2), (3, .int p3), (4, .int p4), (5, .int p5), (6, .int p6)]) (show decode _ _ = .ok (.istore 7, 2) by decide +kernel) (by decide) rfl ?_
    refine fw_aload_n (i := 0) 1 rfl (show decode _ _ = .ok (.aload_n 0, 1) by decide +kernel) ?_
    obtain ⟨⟨hr7, n6, hs8⟩, h_5⟩ := h_4
    refine fw_getP (kd := 2) (k := 4) (show decode _ _ = .ok (.getfield 18, 3) by decide +kernel) gf_X2_18 hr7 hs8 rfl ?_
    have h_6 := dR_e h_5
    obtain ⟨y9, hy10, h_7⟩ := h_6
    refine fw_deref hy10 ?_
    refine fw_iload (i := 7) 0 rfl (show decode _ _ = .ok (.iload 7, 2) by decide +kernel) ?_
    refine fw_callSN (mt' := mtX10_cell) (mc := 0) (ms := 0) (As := [.ref y9, .int x5]) (rest := []) 2 "OneStepMore" (show decode _ _ = .ok (.invokestatic 45, 3) by decide +kernel) ns_X2_45 rfl (Nat.le_of_ble_eq_true rfl) (s_X10_cell (d := d) (hd_le hd (by decide)) h_7) (by decide) (by decide) (kI (bc' := 0) (bs' := 0) (by decide) (by decide) (fun x12 M11 h_8 => ?_))
    refine fw_ldc (idx := 49) (v := (1000000 : Int32)) (show decode _ _ = .ok (.ldc 49, 2) by decide +kernel) wd1322 ?_
    refine fw_icmp_lt 61 (show decode _ _ = .ok (.if_icmp .lt 4, 3) by decide +kernel) (by decide) (fun hc43 => ?_) (fun hc43 => ?_)
    · have h_9 := ipos hc43 h_8
      refine fw_aload_n (i := 0) 1 rfl (show decode _ _ = .ok (.aload_n 0, 1) by decide +kernel) ?_
      refine fw_aload_n (i := 1) 2 rfl (show decode _ _ = .ok (.aload_n 1, 1) by decide +kernel) ?_
      refine fw_iload_n (i := 2) 3 rfl (show decode _ _ = .ok (.iload_n 2, 1) by decide +kernel) ?_
      refine fw_iload_n (i := 3) 4 rfl (show decode _ _ = .ok (.iload_n 3, 1) by decide +kernel) ?_
      refine fw_iload (i := 7) 0 rfl (show decode _ _ = .ok (.iload 7, 2) by decide +kernel) ?_
      refine fw_iload (i := 4) 5 rfl (show decode _ _ = .ok (.iload 4, 2) by decide +kernel) ?_
      obtain ⟨⟨hr15, n14, hs16⟩, h_10⟩ := h_9
      refine fw_callV (mt' := mtX2_anyoneTrips) (mc := 0) (ms := 0) (As := [.ref p1, .int p2, .int p3, .int x5, .int p4]) (rest := []) 5 2 n14 (show decode _ _ = .ok (.invokevirtual 88, 3) by decide +kernel) cv_X2_88 ⟨_, rfl, rfl⟩ hr15 hs16 rfl (Nat.le_of_ble_eq_true rfl) (s_X2_anyoneTrips (d := d) (hd_le hd (by decide)) h_10) (by decide) (by decide) (kI (bc' := 0) (bs' := 0) (by decide) (by decide) (fun x17 M13 h_11 => ?_))
      refine fw_if_ne 105 (show decode _ _ = .ok (.ifCond .ne 33, 3) by decide +kernel) (by decide) (fun hc42 => ?_) (fun hc42 => ?_)
      · have h_12 := ineg hc42 h_11
        refine fw_aload_n (i := 0) 1 rfl (show decode _ _ = .ok (.aload_n 0, 1) by decide +kernel) ?_
        obtain ⟨⟨hr19, n18, hs20⟩, h_13⟩ := h_12
        refine fw_getP (kd := 2) (k := 4) (show decode _ _ = .ok (.getfield 18, 3) by decide +kernel) gf_X2_18 hr19 hs20 rfl ?_
        have h_14 := dR_e h_13
        obtain ⟨y21, hy22, h_15⟩ := h_14
        refine fw_deref hy22 ?_
        refine fw_iload (i := 7) 0 rfl (show decode _ _ = .ok (.iload 7, 2) by decide +kernel) ?_
        refine fw_ldc (idx := 49) (v := (1000000 : Int32)) (show decode _ _ = .ok (.ldc 49, 2) by decide +kernel) wd1322 ?_
        refine fw_callSN (mt' := mtX10_put) (mc := 0) (ms := 0) (As := [.ref y21, .int x5, .int (1000000 : Int32)]) (rest := []) 3 "OneStepMore" (show decode _ _ = .ok (.invokestatic 80, 3) by decide +kernel) ns_X2_80 rfl (Nat.le_of_ble_eq_true rfl) (s_X10_put (d := d) (hd_le hd (by decide)) h_15) (by decide) (by decide) (kV (bc' := 0) (bs' := 0) (by decide) (by decide) (fun M23 h_16 => ?_))
        obtain ⟨x24, ex25⟩ : ∃ y : Int32, y = p6 + (1 : Int32) := ⟨_, rfl⟩
        have h_17 := h_16 x24 ex25
        refine fw_iinc (i := 6) (x := p6) (v := x24) (ls' := [(6, .int x24), (7, .int x5), (0, .ref p0), (1, .ref p1), (2, .int p2), (3, .int p3), (4, .int p4), (5, .int p5)]) 7 rfl (show decode _ _ = .ok (.iinc 6 1, 3) by decide +kernel) (by rw [ex25]; rfl) (by decide) rfl ?_
        refine fw_goto 33 (show decode _ _ = .ok (.goto (-86), 3) by decide +kernel) (by decide) ?_
        refine FW.sub [2, 3, 4, 5, 6, 7, 0] (ls' := [(0, .ref p0), (1, .ref p1), (2, .int p2), (3, .int p3), (4, .int p4), (5, .int p5), (6, .int x24)]) rfl ?_
        exact hK33 _ _ _ _ _ _ _ _ h_17
      · have h_18 := ipos hc42 h_11
        refine fw_aload_n (i := 0) 1 rfl (show decode _ _ = .ok (.aload_n 0, 1) by decide +kernel) ?_
        obtain ⟨⟨hr27, n26, hs28⟩, h_19⟩ := h_18
        refine fw_getP (kd := 2) (k := 2) (show decode _ _ = .ok (.getfield 11, 3) by decide +kernel) gf_X2_11 hr27 hs28 rfl ?_
        have h_20 := dR_e h_19
        obtain ⟨y29, hy30, h_21⟩ := h_20
        refine fw_deref hy30 ?_
        refine fw_iload (i := 5) 6 rfl (show decode _ _ = .ok (.iload 5, 2) by decide +kernel) ?_
        refine fw_aload_n (i := 0) 1 rfl (show decode _ _ = .ok (.aload_n 0, 1) by decide +kernel) ?_
        refine fw_getP (kd := 2) (k := 4) (show decode _ _ = .ok (.getfield 18, 3) by decide +kernel) gf_X2_18 hr27 hs28 rfl ?_
        have h_22 := dR_e h_21
        obtain ⟨y31, hy32, h_23⟩ := h_22
        refine fw_deref hy32 ?_
        refine fw_iload (i := 7) 0 rfl (show decode _ _ = .ok (.iload 7, 2) by decide +kernel) ?_
        refine fw_callSN (mt' := mtX10_cell) (mc := 0) (ms := 0) (As := [.ref y31, .int x5]) (rest := [.int p5, .ref y29]) 2 "OneStepMore" (show decode _ _ = .ok (.invokestatic 45, 3) by decide +kernel) ns_X2_45 rfl (Nat.le_of_ble_eq_true rfl) (s_X10_cell (d := d) (hd_le hd (by decide)) h_23) (by decide) (by decide) (kI (bc' := 0) (bs' := 0) (by decide) (by decide) (fun x34 M33 h_24 => ?_))
        refine fw_callSN (mt' := mtX10_put) (mc := 0) (ms := 0) (As := [.ref y29, .int p5, .int x34]) (rest := []) 3 "OneStepMore" (show decode _ _ = .ok (.invokestatic 80, 3) by decide +kernel) ns_X2_80 rfl (Nat.le_of_ble_eq_true rfl) (s_X10_put (d := d) (hd_le hd (by decide)) h_24) (by decide) (by decide) (kV (bc' := 0) (bs' := 0) (by decide) (by decide) (fun M35 h_25 => ?_))
        refine fw_aload_n (i := 0) 1 rfl (show decode _ _ = .ok (.aload_n 0, 1) by decide +kernel) ?_
        obtain ⟨⟨hr37, n36, hs38⟩, h_26⟩ := h_25
        refine fw_getP (kd := 2) (k := 3) (show decode _ _ = .ok (.getfield 15, 3) by decide +kernel) gf_X2_15 hr37 hs38 rfl ?_
        have h_27 := dR_e h_26
        obtain ⟨y39, hy40, h_28⟩ := h_27
        refine fw_deref hy40 ?_
        refine fw_iload (i := 5) 6 rfl (show decode _ _ = .ok (.iload 5, 2) by decide +kernel) ?_
        refine fw_iload (i := 7) 0 rfl (show decode _ _ = .ok (.iload 7, 2) by decide +kernel) ?_
        refine fw_callSN (mt' := mtX10_put) (mc := 0) (ms := 0) (As := [.ref y39, .int p5, .int x5]) (rest := []) 3 "OneStepMore" (show decode _ _ = .ok (.invokestatic 80, 3) by decide +kernel) ns_X2_80 rfl (Nat.le_of_ble_eq_true rfl) (s_X10_put (d := d) (hd_le hd (by decide)) h_28) (by decide) (by decide) (kV (bc' := 0) (bs' := 0) (by decide) (by decide) (fun M41 h_29 => ?_))
        exact fw_ret (v := none) .return_ (show decode _ _ = .ok (.return_, 1) by decide +kernel) ⟨rfl, rfl⟩ ⟨rfl, h_29⟩
    · have h_30 := ineg hc43 h_8
      exact fw_ret (v := none) .return_ (show decode _ _ = .ok (.return_, 1) by decide +kernel) ⟨rfl, rfl⟩ ⟨rfl, h_30⟩
theorem sl_X2_choose_33 {g : GT} {d : Nat} (hd : 5 ≤ d + 1) {φ : fM → Prop} : ∀ (n : Nat) {p0 : Nat} {p1 : Nat} {p2 : Int32} {p3 : Int32} {p4 : Int32} {p5 : Int32} {p6 : Int32} {M : fM}, l_X2_choose_33 φ n p0 p1 p2 p3 p4 p5 p6 M → FW g mtX2_choose (d + 1) 33 [(0, .ref p0), (1, .ref p1), (2, .int p2), (3, .int p3), (4, .int p4), (5, .int p5), (6, .int p6)] [] M 0 0 (rV φ)
  | 0 => fun h => h.elim
  | n + 1 => fun h => sb_X2_choose_33 hd (fun _ _ _ _ _ _ _ _ h => sl_X2_choose_33 hd n h) h
def w_X2_choose (p0 : Nat) (p1 : Nat) (p2 : Int32) (p3 : Int32) (p4 : Int32) (M : fM) (φ : fM → Prop) : Prop := nm ((p3 * (10 : Int32)) + p4) fun x45 => isO M p0 2 ∧ dR (mP M p0 2) fun y50 => w_X10_put y50 x45 (1000000 : Int32) M fun M52 => isO M52 p0 2 ∧ dR (mP M52 p0 3) fun y56 => w_X10_put y56 x45 (5 : Int32) M52 fun M58 => ∃ n, l_X2_choose_33 φ n p0 p1 p2 p3 p4 x45 (0 : Int32) M58
set_option maxRecDepth 100000 in
theorem s_X2_choose {g : GT} {d : Nat} (hd : 5 ≤ d) {p0 : Nat} {p1 : Nat} {p2 : Int32} {p3 : Int32} {p4 : Int32} {M : fM} {φ : fM → Prop} (h : w_X2_choose p0 p1 p2 p3 p4 M φ) : FC g mtX2_choose d [.ref p0, .ref p1, .int p2, .int p3, .int p4] M 0 0 (rV φ) := by
  obtain ⟨d, rfl⟩ : ∃ e, d = e + 1 := ⟨d - 1, by omega⟩
  unfold w_X2_choose at h
  refine FC.intro (nL := 8) (by decide) rfl (Nat.le_of_ble_eq_true rfl) ?_
  show FW g mtX2_choose (d + 1) 0 [(0, .ref p0), (1, .ref p1), (2, .int p2), (3, .int p3), (4, .int p4)] [] M 0 0 (rV φ)
  refine fw_iload_n (i := 3) 3 rfl (show decode _ _ = .ok (.iload_n 3, 1) by decide +kernel) ?_
  refine fw_bipush (v := (10 : Int32)) (show decode _ _ = .ok (.bipush 10, 2) by decide +kernel) (by decide) ?_
  refine fw_imul (show decode _ _ = .ok (.imul, 1) by decide +kernel) ?_
  refine fw_iload (i := 4) 4 rfl (show decode _ _ = .ok (.iload 4, 2) by decide +kernel) ?_
  refine fw_iadd (show decode _ _ = .ok (.iadd, 1) by decide +kernel) ?_
  refine fw_nmI (fun x45 ex46 => ?_)
  have h_1 := h x45 ex46
  refine fw_istore (i := 5) (ls' := [(5, .int x45), (0, .ref p0), (1, .ref p1), (2, .int p2), (3, .int p3), (4, .int p4)]) (show decode _ _ = .ok (.istore 5, 2) by decide +kernel) (by decide) rfl ?_
  refine fw_aload_n (i := 0) 1 rfl (show decode _ _ = .ok (.aload_n 0, 1) by decide +kernel) ?_
  obtain ⟨⟨hr48, n47, hs49⟩, h_2⟩ := h_1
  refine fw_getP (kd := 2) (k := 2) (show decode _ _ = .ok (.getfield 11, 3) by decide +kernel) gf_X2_11 hr48 hs49 rfl ?_
  have h_3 := dR_e h_2
  obtain ⟨y50, hy51, h_4⟩ := h_3
  refine fw_deref hy51 ?_
  refine fw_iload (i := 5) 0 rfl (show decode _ _ = .ok (.iload 5, 2) by decide +kernel) ?_
  refine fw_ldc (idx := 49) (v := (1000000 : Int32)) (show decode _ _ = .ok (.ldc 49, 2) by decide +kernel) wd1322 ?_
  refine fw_callSN (mt' := mtX10_put) (mc := 0) (ms := 0) (As := [.ref y50, .int x45, .int (1000000 : Int32)]) (rest := []) 3 "OneStepMore" (show decode _ _ = .ok (.invokestatic 80, 3) by decide +kernel) ns_X2_80 rfl (Nat.le_of_ble_eq_true rfl) (s_X10_put (d := d) (hd_le hd (by decide)) h_4) (by decide) (by decide) (kV (bc' := 0) (bs' := 0) (by decide) (by decide) (fun M52 h_5 => ?_))
  refine fw_aload_n (i := 0) 1 rfl (show decode _ _ = .ok (.aload_n 0, 1) by decide +kernel) ?_
  obtain ⟨⟨hr54, n53, hs55⟩, h_6⟩ := h_5
  refine fw_getP (kd := 2) (k := 3) (show decode _ _ = .ok (.getfield 15, 3) by decide +kernel) gf_X2_15 hr54 hs55 rfl ?_
  have h_7 := dR_e h_6
  obtain ⟨y56, hy57, h_8⟩ := h_7
  refine fw_deref hy57 ?_
  refine fw_iload (i := 5) 0 rfl (show decode _ _ = .ok (.iload 5, 2) by decide +kernel) ?_
  refine fw_iconst (v := (5 : Int32)) (show decode _ _ = .ok (.iconst 5, 1) by decide +kernel) (by decide) ?_
  refine fw_callSN (mt' := mtX10_put) (mc := 0) (ms := 0) (As := [.ref y56, .int x45, .int (5 : Int32)]) (rest := []) 3 "OneStepMore" (show decode _ _ = .ok (.invokestatic 80, 3) by decide +kernel) ns_X2_80 rfl (Nat.le_of_ble_eq_true rfl) (s_X10_put (d := d) (hd_le hd (by decide)) h_8) (by decide) (by decide) (kV (bc' := 0) (bs' := 0) (by decide) (by decide) (fun M58 h_9 => ?_))
  refine fw_iconst (v := (0 : Int32)) (show decode _ _ = .ok (.iconst 0, 1) by decide +kernel) (by decide) ?_
  refine fw_istore (i := 6) (ls' := [(6, .int (0 : Int32)), (5, .int x45), (0, .ref p0), (1, .ref p1), (2, .int p2), (3, .int p3), (4, .int p4)]) (show decode _ _ = .ok (.istore 6, 2) by decide +kernel) (by decide) rfl ?_
  refine FW.sub [2, 3, 4, 5, 6, 1, 0] (ls' := [(0, .ref p0), (1, .ref p1), (2, .int p2), (3, .int p3), (4, .int p4), (5, .int x45), (6, .int (0 : Int32))]) rfl ?_
  obtain ⟨nn, h_10⟩ := h_9
  exact sl_X2_choose_33 hd nn h_10
def j_X2_plan_42 (K14 : Nat → Nat → Int32 → Int32 → Int32 → fM → Prop) (K23 : Nat → Nat → Int32 → Int32 → Int32 → Int32 → fM → Prop) (φ : fM → Prop) (p0 : Nat) (p1 : Nat) (p2 : Int32) (p3 : Int32) (p4 : Int32) (p5 : Int32) (M : fM) : Prop := isO M p0 2 ∧ w_X2_weigh p0 p1 p4 p3 M fun M1 => isO M1 p0 2 ∧ w_X2_choose p0 p1 p2 p4 p5 M1 fun M5 => nm (p5 + (1 : Int32)) fun x9 => K23 p0 p1 p2 p3 p4 x9 M5
set_option maxRecDepth 100000 in
theorem sj_X2_plan_42 {g : GT} {d : Nat} (hd : 6 ≤ d + 1) {K14 : Nat → Nat → Int32 → Int32 → Int32 → fM → Prop} {K23 : Nat → Nat → Int32 → Int32 → Int32 → Int32 → fM → Prop} {φ : fM → Prop} (hK14 : ∀ (p0 : Nat) (p1 : Nat) (p2 : Int32) (p3 : Int32) (p4 : Int32) (M : fM), K14 p0 p1 p2 p3 p4 M → FW g mtX2_plan (d + 1) 14 [(0, .ref p0), (1, .ref p1), (2, .int p2), (3, .int p3), (4, .int p4)] [] M 0 0 (rV φ)) (hK23 : ∀ (p0 : Nat) (p1 : Nat) (p2 : Int32) (p3 : Int32) (p4 : Int32) (p5 : Int32) (M : fM), K23 p0 p1 p2 p3 p4 p5 M → FW g mtX2_plan (d + 1) 23 [(0, .ref p0), (1, .ref p1), (2, .int p2), (3, .int p3), (4, .int p4), (5, .int p5)] [] M 0 0 (rV φ)) {p0 : Nat} {p1 : Nat} {p2 : Int32} {p3 : Int32} {p4 : Int32} {p5 : Int32} {M : fM} (h : j_X2_plan_42 K14 K23 φ p0 p1 p2 p3 p4 p5 M) : FW g mtX2_plan (d + 1) 42 [(0, .ref p0), (1, .ref p1), (2, .int p2), (3, .int p3), (4, .int p4), (5, .int p5)] [] M 0 0 (rV φ) := by
  unfold j_X2_plan_42 at h
  refine fw_aload_n (i := 0) 0 rfl (show decode _ _ = .ok (.aload_n 0, 1) by decide +kernel) ?_
  refine fw_aload_n (i := 1) 1 rfl (show decode _ _ = .ok (.aload_n 1, 1) by decide +kernel) ?_
  refine fw_iload (i := 4) 4 rfl (show decode _ _ = .ok (.iload 4, 2) by decide +kernel) ?_
  refine fw_iload_n (i := 3) 3 rfl (show decode _ _ = .ok (.iload_n 3, 1) by decide +kernel) ?_
  obtain ⟨⟨hr3, n2, hs4⟩, h_1⟩ := h
  refine fw_callV (mt' := mtX2_weigh) (mc := 0) (ms := 0) (As := [.ref p1, .int p4, .int p3]) (rest := []) 3 2 n2 (show decode _ _ = .ok (.invokevirtual 60, 3) by decide +kernel) cv_X2_60 ⟨_, rfl, rfl⟩ hr3 hs4 rfl (Nat.le_of_ble_eq_true rfl) (s_X2_weigh (d := d) (hd_le hd (by decide)) h_1) (by decide) (by decide) (kV (bc' := 0) (bs' := 0) (by decide) (by decide) (fun M1 h_2 => ?_))
  refine fw_aload_n (i := 0) 0 rfl (show decode _ _ = .ok (.aload_n 0, 1) by decide +kernel) ?_
  refine fw_aload_n (i := 1) 1 rfl (show decode _ _ = .ok (.aload_n 1, 1) by decide +kernel) ?_
  refine fw_iload_n (i := 2) 2 rfl (show decode _ _ = .ok (.iload_n 2, 1) by decide +kernel) ?_
  refine fw_iload (i := 4) 4 rfl (show decode _ _ = .ok (.iload 4, 2) by decide +kernel) ?_
  refine fw_iload (i := 5) 5 rfl (show decode _ _ = .ok (.iload 5, 2) by decide +kernel) ?_
  obtain ⟨⟨hr7, n6, hs8⟩, h_3⟩ := h_2
  refine fw_callV (mt' := mtX2_choose) (mc := 0) (ms := 0) (As := [.ref p1, .int p2, .int p4, .int p5]) (rest := []) 4 2 n6 (show decode _ _ = .ok (.invokevirtual 63, 3) by decide +kernel) cv_X2_63 ⟨_, rfl, rfl⟩ hr7 hs8 rfl (Nat.le_of_ble_eq_true rfl) (s_X2_choose (d := d) (hd_le hd (by decide)) h_3) (by decide) (by decide) (kV (bc' := 0) (bs' := 0) (by decide) (by decide) (fun M5 h_4 => ?_))
  obtain ⟨x9, ex10⟩ : ∃ y : Int32, y = p5 + (1 : Int32) := ⟨_, rfl⟩
  have h_5 := h_4 x9 ex10
  refine fw_iinc (i := 5) (x := p5) (v := x9) (ls' := [(5, .int x9), (0, .ref p0), (1, .ref p1), (2, .int p2), (3, .int p3), (4, .int p4)]) 5 rfl (show decode _ _ = .ok (.iinc 5 1, 3) by decide +kernel) (by rw [ex10]; rfl) (by decide) rfl ?_
  refine fw_goto 23 (show decode _ _ = .ok (.goto (-40), 3) by decide +kernel) (by decide) ?_
  refine FW.sub [1, 2, 3, 4, 5, 0] (ls' := [(0, .ref p0), (1, .ref p1), (2, .int p2), (3, .int p3), (4, .int p4), (5, .int x9)]) rfl ?_
  exact hK23 _ _ _ _ _ _ _ h_5
def b_X2_plan_23 (K14 : Nat → Nat → Int32 → Int32 → Int32 → fM → Prop) (K23 : Nat → Nat → Int32 → Int32 → Int32 → Int32 → fM → Prop) (φ : fM → Prop) (p0 : Nat) (p1 : Nat) (p2 : Int32) (p3 : Int32) (p4 : Int32) (p5 : Int32) (M : fM) : Prop := iF ((9 : Int32) < p5) (nm (p4 + (-1 : Int32)) fun x11 => K14 p0 p1 p2 p3 x11 M) (iF ((1 : Int32) < p4) (j_X2_plan_42 K14 K23 φ p0 p1 p2 p3 p4 p5 M) (iF (p5 = (5 : Int32)) (j_X2_plan_42 K14 K23 φ p0 p1 p2 p3 p4 p5 M) (nm (p5 + (1 : Int32)) fun x13 => K23 p0 p1 p2 p3 p4 x13 M)))
def l_X2_plan_23 (K14 : Nat → Nat → Int32 → Int32 → Int32 → fM → Prop) (φ : fM → Prop) : Nat → Nat → Nat → Int32 → Int32 → Int32 → Int32 → fM → Prop
  | 0, _, _, _, _, _, _, _ => False
  | n + 1, p0, p1, p2, p3, p4, p5, M => b_X2_plan_23 K14 (l_X2_plan_23 K14 φ n) φ p0 p1 p2 p3 p4 p5 M
set_option maxRecDepth 100000 in
theorem sb_X2_plan_23 {g : GT} {d : Nat} (hd : 6 ≤ d + 1) {K14 : Nat → Nat → Int32 → Int32 → Int32 → fM → Prop} {K23 : Nat → Nat → Int32 → Int32 → Int32 → Int32 → fM → Prop} {φ : fM → Prop} (hK14 : ∀ (p0 : Nat) (p1 : Nat) (p2 : Int32) (p3 : Int32) (p4 : Int32) (M : fM), K14 p0 p1 p2 p3 p4 M → FW g mtX2_plan (d + 1) 14 [(0, .ref p0), (1, .ref p1), (2, .int p2), (3, .int p3), (4, .int p4)] [] M 0 0 (rV φ)) (hK23 : ∀ (p0 : Nat) (p1 : Nat) (p2 : Int32) (p3 : Int32) (p4 : Int32) (p5 : Int32) (M : fM), K23 p0 p1 p2 p3 p4 p5 M → FW g mtX2_plan (d + 1) 23 [(0, .ref p0), (1, .ref p1), (2, .int p2), (3, .int p3), (4, .int p4), (5, .int p5)] [] M 0 0 (rV φ)) {p0 : Nat} {p1 : Nat} {p2 : Int32} {p3 : Int32} {p4 : Int32} {p5 : Int32} {M : fM} (h : b_X2_plan_23 K14 K23 φ p0 p1 p2 p3 p4 p5 M) : FW g mtX2_plan (d + 1) 23 [(0, .ref p0), (1, .ref p1), (2, .int p2), (3, .int p3), (4, .int p4), (5, .int p5)] [] M 0 0 (rV φ) := by
  unfold b_X2_plan_23 at h
  refine fw_iload (i := 5) 5 rfl (show decode _ _ = .ok (.iload 5, 2) by decide +kernel) ?_
  refine fw_bipush (v := (9 : Int32)) (show decode _ _ = .ok (.bipush 9, 2) by decide +kernel) (by decide) ?_
  refine fw_icmp_gt 66 (show decode _ _ = .ok (.if_icmp .gt 39, 3) by decide +kernel) (by decide) (fun hc17 => ?_) (fun hc17 => ?_)
  · have h_1 := ipos hc17 h
    obtain ⟨x11, ex12⟩ : ∃ y : Int32, y = p4 + (-1 : Int32) := ⟨_, rfl⟩
    have h_2 := h_1 x11 ex12
    refine fw_iinc (i := 4) (x := p4) (v := x11) (ls' := [(4, .int x11), (0, .ref p0), (1, .ref p1), (2, .int p2), (3, .int p3), (5, .int p5)]) 4 rfl (show decode _ _ = .ok (.iinc 4 (-1), 3) by decide +kernel) (by rw [ex12]; rfl) (by decide) rfl ?_
    refine fw_goto 14 (show decode _ _ = .ok (.goto (-55), 3) by decide +kernel) (by decide) ?_
    refine FW.sub [1, 2, 3, 4, 0] (ls' := [(0, .ref p0), (1, .ref p1), (2, .int p2), (3, .int p3), (4, .int x11)]) rfl ?_
    exact hK14 _ _ _ _ _ _ h_2
  · have h_3 := ineg hc17 h
    refine fw_iload (i := 4) 4 rfl (show decode _ _ = .ok (.iload 4, 2) by decide +kernel) ?_
    refine fw_iconst (v := (1 : Int32)) (show decode _ _ = .ok (.iconst 1, 1) by decide +kernel) (by decide) ?_
    refine fw_icmp_gt 42 (show decode _ _ = .ok (.if_icmp .gt 9, 3) by decide +kernel) (by decide) (fun hc16 => ?_) (fun hc16 => ?_)
    · have h_4 := ipos hc16 h_3
      refine FW.sub [0, 1, 2, 3, 4, 5] (ls' := [(0, .ref p0), (1, .ref p1), (2, .int p2), (3, .int p3), (4, .int p4), (5, .int p5)]) rfl ?_
      exact sj_X2_plan_42 hd hK14 hK23 h_4
    · have h_5 := ineg hc16 h_3
      refine fw_iload (i := 5) 5 rfl (show decode _ _ = .ok (.iload 5, 2) by decide +kernel) ?_
      refine fw_iconst (v := (5 : Int32)) (show decode _ _ = .ok (.iconst 5, 1) by decide +kernel) (by decide) ?_
      refine fw_icmp_ne 60 (show decode _ _ = .ok (.if_icmp .ne 21, 3) by decide +kernel) (by decide) (fun hc15 => ?_) (fun hc15 => ?_)
      · have h_6 := ineg hc15 h_5
        obtain ⟨x13, ex14⟩ : ∃ y : Int32, y = p5 + (1 : Int32) := ⟨_, rfl⟩
        have h_7 := h_6 x13 ex14
        refine fw_iinc (i := 5) (x := p5) (v := x13) (ls' := [(5, .int x13), (0, .ref p0), (1, .ref p1), (2, .int p2), (3, .int p3), (4, .int p4)]) 5 rfl (show decode _ _ = .ok (.iinc 5 1, 3) by decide +kernel) (by rw [ex14]; rfl) (by decide) rfl ?_
        refine fw_goto 23 (show decode _ _ = .ok (.goto (-40), 3) by decide +kernel) (by decide) ?_
        refine FW.sub [1, 2, 3, 4, 5, 0] (ls' := [(0, .ref p0), (1, .ref p1), (2, .int p2), (3, .int p3), (4, .int p4), (5, .int x13)]) rfl ?_
        exact hK23 _ _ _ _ _ _ _ h_7
      · have h_8 := ipos hc15 h_5
        refine FW.sub [0, 1, 2, 3, 4, 5] (ls' := [(0, .ref p0), (1, .ref p1), (2, .int p2), (3, .int p3), (4, .int p4), (5, .int p5)]) rfl ?_
        exact sj_X2_plan_42 hd hK14 hK23 h_8
theorem sl_X2_plan_23 {g : GT} {d : Nat} (hd : 6 ≤ d + 1) {K14 : Nat → Nat → Int32 → Int32 → Int32 → fM → Prop} {φ : fM → Prop} (hK14 : ∀ (p0 : Nat) (p1 : Nat) (p2 : Int32) (p3 : Int32) (p4 : Int32) (M : fM), K14 p0 p1 p2 p3 p4 M → FW g mtX2_plan (d + 1) 14 [(0, .ref p0), (1, .ref p1), (2, .int p2), (3, .int p3), (4, .int p4)] [] M 0 0 (rV φ)) : ∀ (n : Nat) {p0 : Nat} {p1 : Nat} {p2 : Int32} {p3 : Int32} {p4 : Int32} {p5 : Int32} {M : fM}, l_X2_plan_23 K14 φ n p0 p1 p2 p3 p4 p5 M → FW g mtX2_plan (d + 1) 23 [(0, .ref p0), (1, .ref p1), (2, .int p2), (3, .int p3), (4, .int p4), (5, .int p5)] [] M 0 0 (rV φ)
  | 0 => fun h => h.elim
  | n + 1 => fun h => sb_X2_plan_23 hd hK14 (fun _ _ _ _ _ _ _ h => sl_X2_plan_23 hd hK14 n h) h
def b_X2_plan_14 (K14 : Nat → Nat → Int32 → Int32 → Int32 → fM → Prop) (φ : fM → Prop) (p0 : Nat) (p1 : Nat) (p2 : Int32) (p3 : Int32) (p4 : Int32) (M : fM) : Prop := iF (p4 < (1 : Int32)) (φ M) (∃ n, l_X2_plan_23 K14 φ n p0 p1 p2 p3 p4 (1 : Int32) M)
def l_X2_plan_14 (φ : fM → Prop) : Nat → Nat → Nat → Int32 → Int32 → Int32 → fM → Prop
  | 0, _, _, _, _, _, _ => False
  | n + 1, p0, p1, p2, p3, p4, M => b_X2_plan_14 (l_X2_plan_14 φ n) φ p0 p1 p2 p3 p4 M
set_option maxRecDepth 100000 in
theorem sb_X2_plan_14 {g : GT} {d : Nat} (hd : 6 ≤ d + 1) {K14 : Nat → Nat → Int32 → Int32 → Int32 → fM → Prop} {φ : fM → Prop} (hK14 : ∀ (p0 : Nat) (p1 : Nat) (p2 : Int32) (p3 : Int32) (p4 : Int32) (M : fM), K14 p0 p1 p2 p3 p4 M → FW g mtX2_plan (d + 1) 14 [(0, .ref p0), (1, .ref p1), (2, .int p2), (3, .int p3), (4, .int p4)] [] M 0 0 (rV φ)) {p0 : Nat} {p1 : Nat} {p2 : Int32} {p3 : Int32} {p4 : Int32} {M : fM} (h : b_X2_plan_14 K14 φ p0 p1 p2 p3 p4 M) : FW g mtX2_plan (d + 1) 14 [(0, .ref p0), (1, .ref p1), (2, .int p2), (3, .int p3), (4, .int p4)] [] M 0 0 (rV φ) := by
  unfold b_X2_plan_14 at h
  refine fw_iload (i := 4) 4 rfl (show decode _ _ = .ok (.iload 4, 2) by decide +kernel) ?_
  refine fw_iconst (v := (1 : Int32)) (show decode _ _ = .ok (.iconst 1, 1) by decide +kernel) (by decide) ?_
  refine fw_icmp_lt 72 (show decode _ _ = .ok (.if_icmp .lt 55, 3) by decide +kernel) (by decide) (fun hc18 => ?_) (fun hc18 => ?_)
  · have h_1 := ipos hc18 h
    exact fw_ret (v := none) .return_ (show decode _ _ = .ok (.return_, 1) by decide +kernel) ⟨rfl, rfl⟩ ⟨rfl, h_1⟩
  · have h_2 := ineg hc18 h
    refine fw_iconst (v := (1 : Int32)) (show decode _ _ = .ok (.iconst 1, 1) by decide +kernel) (by decide) ?_
    refine fw_istore (i := 5) (ls' := [(5, .int (1 : Int32)), (0, .ref p0), (1, .ref p1), (2, .int p2), (3, .int p3), (4, .int p4)]) (show decode _ _ = .ok (.istore 5, 2) by decide +kernel) (by decide) rfl ?_
    refine FW.sub [1, 2, 3, 4, 5, 0] (ls' := [(0, .ref p0), (1, .ref p1), (2, .int p2), (3, .int p3), (4, .int p4), (5, .int (1 : Int32))]) rfl ?_
    obtain ⟨nn, h_3⟩ := h_2
    exact sl_X2_plan_23 hd hK14 nn h_3
theorem sl_X2_plan_14 {g : GT} {d : Nat} (hd : 6 ≤ d + 1) {φ : fM → Prop} : ∀ (n : Nat) {p0 : Nat} {p1 : Nat} {p2 : Int32} {p3 : Int32} {p4 : Int32} {M : fM}, l_X2_plan_14 φ n p0 p1 p2 p3 p4 M → FW g mtX2_plan (d + 1) 14 [(0, .ref p0), (1, .ref p1), (2, .int p2), (3, .int p3), (4, .int p4)] [] M 0 0 (rV φ)
  | 0 => fun h => h.elim
  | n + 1 => fun h => sb_X2_plan_14 hd (fun _ _ _ _ _ _ h => sl_X2_plan_14 hd n h) h
def w_X2_plan (p0 : Nat) (p1 : Nat) (p2 : Int32) (p3 : Int32) (M : fM) (φ : fM → Prop) : Prop := isO M p0 2 ∧ dR (mP M p0 2) fun y22 => w_J7_fill_53178 y22 (0 : Int32) M fun M24 => isO M24 p1 0 ∧ nm (mI M24 p1 0) fun x28 => ∃ n, l_X2_plan_14 φ n p0 p1 p2 p3 x28 M24
set_option maxRecDepth 100000 in
theorem s_X2_plan {g : GT} {d : Nat} (hd : 6 ≤ d) {p0 : Nat} {p1 : Nat} {p2 : Int32} {p3 : Int32} {M : fM} {φ : fM → Prop} (h : w_X2_plan p0 p1 p2 p3 M φ) : FC g mtX2_plan d [.ref p0, .ref p1, .int p2, .int p3] M 0 0 (rV φ) := by
  obtain ⟨d, rfl⟩ : ∃ e, d = e + 1 := ⟨d - 1, by omega⟩
  unfold w_X2_plan at h
  refine FC.intro (nL := 6) (by decide) rfl (Nat.le_of_ble_eq_true rfl) ?_
  show FW g mtX2_plan (d + 1) 0 [(0, .ref p0), (1, .ref p1), (2, .int p2), (3, .int p3)] [] M 0 0 (rV φ)
  refine fw_aload_n (i := 0) 0 rfl (show decode _ _ = .ok (.aload_n 0, 1) by decide +kernel) ?_
  obtain ⟨⟨hr20, n19, hs21⟩, h_1⟩ := h
  refine fw_getP (kd := 2) (k := 2) (show decode _ _ = .ok (.getfield 11, 3) by decide +kernel) gf_X2_11 hr20 hs21 rfl ?_
  have h_2 := dR_e h_1
  obtain ⟨y22, hy23, h_3⟩ := h_2
  refine fw_deref hy23 ?_
  refine fw_iconst (v := (0 : Int32)) (show decode _ _ = .ok (.iconst 0, 1) by decide +kernel) (by decide) ?_
  refine fw_callS (mt' := mtJ7_fill_53178) (mc := 0) (ms := 0) (As := [.ref y22, .int (0 : Int32)]) (rest := []) 2 (show decode _ _ = .ok (.invokestatic 50, 3) by decide +kernel) cs_X2_50 rfl (Nat.le_of_ble_eq_true rfl) (s_J7_fill_53178 (d := d) (hd_le hd (by decide)) h_3) (by decide) (by decide) (kV (bc' := 0) (bs' := 0) (by decide) (by decide) (fun M24 h_4 => ?_))
  refine fw_aload_n (i := 1) 1 rfl (show decode _ _ = .ok (.aload_n 1, 1) by decide +kernel) ?_
  obtain ⟨⟨hr26, n25, hs27⟩, h_5⟩ := h_4
  refine fw_getI (kd := 0) (k := 0) (show decode _ _ = .ok (.getfield 56, 3) by decide +kernel) gf_X2_56 hr26 hs27 (Or.inl rfl) ?_
  refine fw_nmI (fun x28 ex29 => ?_)
  have h_6 := h_5 x28 ex29
  refine fw_istore (i := 4) (ls' := [(4, .int x28), (0, .ref p0), (1, .ref p1), (2, .int p2), (3, .int p3)]) (show decode _ _ = .ok (.istore 4, 2) by decide +kernel) (by decide) rfl ?_
  refine FW.sub [1, 2, 3, 4, 0] (ls' := [(0, .ref p0), (1, .ref p1), (2, .int p2), (3, .int p3), (4, .int x28)]) rfl ?_
  obtain ⟨nn, h_7⟩ := h_6
  exact sl_X2_plan_14 hd nn h_7
def b_X2_levelled_73 (K73 : Nat → Int32 → Int32 → Int32 → fM → Prop) (φ : Int32 → fM → Prop) (p0 : Nat) (p2 : Int32) (p6 : Int32) (p7 : Int32) (M : fM) : Prop := iF (p2 < p7) (φ p6 M) (isO M p0 2 ∧ dR (mP M p0 3) fun y4 => w_X10_cell y4 ((p7 * (10 : Int32)) + p6) M fun x7 M6 => nm (p7 + (1 : Int32)) fun x8 => K73 p0 p2 x7 x8 M6)
def l_X2_levelled_73 (φ : Int32 → fM → Prop) : Nat → Nat → Int32 → Int32 → Int32 → fM → Prop
  | 0, _, _, _, _, _ => False
  | n + 1, p0, p2, p6, p7, M => b_X2_levelled_73 (l_X2_levelled_73 φ n) φ p0 p2 p6 p7 M
set_option maxRecDepth 100000 in
theorem sb_X2_levelled_73 {g : GT} {d : Nat} (hd : 7 ≤ d + 1) {K73 : Nat → Int32 → Int32 → Int32 → fM → Prop} {φ : Int32 → fM → Prop} (hK73 : ∀ (p0 : Nat) (p2 : Int32) (p6 : Int32) (p7 : Int32) (M : fM), K73 p0 p2 p6 p7 M → FW g mtX2_levelled (d + 1) 73 [(0, .ref p0), (2, .int p2), (6, .int p6), (7, .int p7)] [] M 0 0 (rI φ)) {p0 : Nat} {p2 : Int32} {p6 : Int32} {p7 : Int32} {M : fM} (h : b_X2_levelled_73 K73 φ p0 p2 p6 p7 M) : FW g mtX2_levelled (d + 1) 73 [(0, .ref p0), (2, .int p2), (6, .int p6), (7, .int p7)] [] M 0 0 (rI φ) := by
  unfold b_X2_levelled_73 at h
  refine fw_iload (i := 7) 3 rfl (show decode _ _ = .ok (.iload 7, 2) by decide +kernel) ?_
  refine fw_iload_n (i := 2) 1 rfl (show decode _ _ = .ok (.iload_n 2, 1) by decide +kernel) ?_
  refine fw_icmp_gt 102 (show decode _ _ = .ok (.if_icmp .gt 26, 3) by decide +kernel) (by decide) (fun hc10 => ?_) (fun hc10 => ?_)
  · have h_1 := ipos hc10 h
    refine fw_iload (i := 6) 2 rfl (show decode _ _ = .ok (.iload 6, 2) by decide +kernel) ?_
    exact fw_ret (v := some (.int p6)) .ireturn (show decode _ _ = .ok (.ireturn, 1) by decide +kernel) ⟨rfl, Or.inl rfl⟩ ⟨_, rfl, h_1⟩
  · have h_2 := ineg hc10 h
    refine fw_aload_n (i := 0) 0 rfl (show decode _ _ = .ok (.aload_n 0, 1) by decide +kernel) ?_
    obtain ⟨⟨hr2, n1, hs3⟩, h_3⟩ := h_2
    refine fw_getP (kd := 2) (k := 3) (show decode _ _ = .ok (.getfield 15, 3) by decide +kernel) gf_X2_15 hr2 hs3 rfl ?_
    have h_4 := dR_e h_3
    obtain ⟨y4, hy5, h_5⟩ := h_4
    refine fw_deref hy5 ?_
    refine fw_iload (i := 7) 3 rfl (show decode _ _ = .ok (.iload 7, 2) by decide +kernel) ?_
    refine fw_bipush (v := (10 : Int32)) (show decode _ _ = .ok (.bipush 10, 2) by decide +kernel) (by decide) ?_
    refine fw_imul (show decode _ _ = .ok (.imul, 1) by decide +kernel) ?_
    refine fw_iload (i := 6) 2 rfl (show decode _ _ = .ok (.iload 6, 2) by decide +kernel) ?_
    refine fw_iadd (show decode _ _ = .ok (.iadd, 1) by decide +kernel) ?_
    refine fw_callSN (mt' := mtX10_cell) (mc := 0) (ms := 0) (As := [.ref y4, .int ((p7 * (10 : Int32)) + p6)]) (rest := []) 2 "OneStepMore" (show decode _ _ = .ok (.invokestatic 45, 3) by decide +kernel) ns_X2_45 rfl (Nat.le_of_ble_eq_true rfl) (s_X10_cell (d := d) (hd_le hd (by decide)) h_5) (by decide) (by decide) (kI (bc' := 0) (bs' := 0) (by decide) (by decide) (fun x7 M6 h_6 => ?_))
    refine fw_istore (i := 6) (ls' := [(6, .int x7), (0, .ref p0), (2, .int p2), (7, .int p7)]) (show decode _ _ = .ok (.istore 6, 2) by decide +kernel) (by decide) rfl ?_
    obtain ⟨x8, ex9⟩ : ∃ y : Int32, y = p7 + (1 : Int32) := ⟨_, rfl⟩
    have h_7 := h_6 x8 ex9
    refine fw_iinc (i := 7) (x := p7) (v := x8) (ls' := [(7, .int x8), (6, .int x7), (0, .ref p0), (2, .int p2)]) 3 rfl (show decode _ _ = .ok (.iinc 7 1, 3) by decide +kernel) (by rw [ex9]; rfl) (by decide) rfl ?_
    refine fw_goto 73 (show decode _ _ = .ok (.goto (-26), 3) by decide +kernel) (by decide) ?_
    refine FW.sub [2, 3, 1, 0] (ls' := [(0, .ref p0), (2, .int p2), (6, .int x7), (7, .int x8)]) rfl ?_
    exact hK73 _ _ _ _ _ h_7
theorem sl_X2_levelled_73 {g : GT} {d : Nat} (hd : 7 ≤ d + 1) {φ : Int32 → fM → Prop} : ∀ (n : Nat) {p0 : Nat} {p2 : Int32} {p6 : Int32} {p7 : Int32} {M : fM}, l_X2_levelled_73 φ n p0 p2 p6 p7 M → FW g mtX2_levelled (d + 1) 73 [(0, .ref p0), (2, .int p2), (6, .int p6), (7, .int p7)] [] M 0 0 (rI φ)
  | 0 => fun h => h.elim
  | n + 1 => fun h => sb_X2_levelled_73 hd (fun _ _ _ _ _ h => sl_X2_levelled_73 hd n h) h
def j_X2_levelled_31 (φ : Int32 → fM → Prop) (p0 : Nat) (p1 : Int32) (p2 : Int32) (p3 : Int32) (p4 : Nat) (M : fM) : Prop := isO M p0 2 ∧ w_X2_plan p0 p4 p1 p3 M fun M11 => isO M11 p0 2 ∧ dR (mP M11 p0 2) fun y18 => w_X10_cell y18 (15 : Int32) M11 fun x21 M20 => iF (x21 < (1000000 : Int32)) (iF (p2 = (-1 : Int32)) (φ x21 M20) (∃ n, l_X2_levelled_73 φ n p0 p2 (5 : Int32) (1 : Int32) M20)) (φ (-1 : Int32) M20)
set_option maxRecDepth 100000 in
theorem sj_X2_levelled_31 {g : GT} {d : Nat} (hd : 7 ≤ d + 1) {φ : Int32 → fM → Prop} {p0 : Nat} {p1 : Int32} {p2 : Int32} {p3 : Int32} {p4 : Nat} {M : fM} (h : j_X2_levelled_31 φ p0 p1 p2 p3 p4 M) : FW g mtX2_levelled (d + 1) 31 [(0, .ref p0), (1, .int p1), (2, .int p2), (3, .int p3), (4, .ref p4)] [] M 0 0 (rI φ) := by
  unfold j_X2_levelled_31 at h
  refine fw_aload_n (i := 0) 0 rfl (show decode _ _ = .ok (.aload_n 0, 1) by decide +kernel) ?_
  refine fw_aload (i := 4) 4 rfl (show decode _ _ = .ok (.aload 4, 2) by decide +kernel) ?_
  refine fw_iload_n (i := 1) 1 rfl (show decode _ _ = .ok (.iload_n 1, 1) by decide +kernel) ?_
  refine fw_iload_n (i := 3) 3 rfl (show decode _ _ = .ok (.iload_n 3, 1) by decide +kernel) ?_
  obtain ⟨⟨hr13, n12, hs14⟩, h_1⟩ := h
  refine fw_callV (mt' := mtX2_plan) (mc := 0) (ms := 0) (As := [.ref p4, .int p1, .int p3]) (rest := []) 3 2 n12 (show decode _ _ = .ok (.invokevirtual 41, 3) by decide +kernel) cv_X2_41 ⟨_, rfl, rfl⟩ hr13 hs14 rfl (Nat.le_of_ble_eq_true rfl) (s_X2_plan (d := d) (hd_le hd (by decide)) h_1) (by decide) (by decide) (kV (bc' := 0) (bs' := 0) (by decide) (by decide) (fun M11 h_2 => ?_))
  refine fw_aload_n (i := 0) 0 rfl (show decode _ _ = .ok (.aload_n 0, 1) by decide +kernel) ?_
  obtain ⟨⟨hr16, n15, hs17⟩, h_3⟩ := h_2
  refine fw_getP (kd := 2) (k := 2) (show decode _ _ = .ok (.getfield 11, 3) by decide +kernel) gf_X2_11 hr16 hs17 rfl ?_
  have h_4 := dR_e h_3
  obtain ⟨y18, hy19, h_5⟩ := h_4
  refine fw_deref hy19 ?_
  refine fw_bipush (v := (15 : Int32)) (show decode _ _ = .ok (.bipush 15, 2) by decide +kernel) (by decide) ?_
  refine fw_callSN (mt' := mtX10_cell) (mc := 0) (ms := 0) (As := [.ref y18, .int (15 : Int32)]) (rest := []) 2 "OneStepMore" (show decode _ _ = .ok (.invokestatic 45, 3) by decide +kernel) ns_X2_45 rfl (Nat.le_of_ble_eq_true rfl) (s_X10_cell (d := d) (hd_le hd (by decide)) h_5) (by decide) (by decide) (kI (bc' := 0) (bs' := 0) (by decide) (by decide) (fun x21 M20 h_6 => ?_))
  refine fw_istore (i := 5) (ls' := [(5, .int x21), (0, .ref p0), (1, .int p1), (2, .int p2), (3, .int p3), (4, .ref p4)]) (show decode _ _ = .ok (.istore 5, 2) by decide +kernel) (by decide) rfl ?_
  refine fw_iload (i := 5) 0 rfl (show decode _ _ = .ok (.iload 5, 2) by decide +kernel) ?_
  refine fw_ldc (idx := 49) (v := (1000000 : Int32)) (show decode _ _ = .ok (.ldc 49, 2) by decide +kernel) wd1322 ?_
  refine fw_icmp_lt 59 (show decode _ _ = .ok (.if_icmp .lt 5, 3) by decide +kernel) (by decide) (fun hc23 => ?_) (fun hc23 => ?_)
  · have h_7 := ipos hc23 h_6
    refine fw_iload_n (i := 2) 3 rfl (show decode _ _ = .ok (.iload_n 2, 1) by decide +kernel) ?_
    refine fw_iconst (v := (-1 : Int32)) (show decode _ _ = .ok (.iconst (-1), 1) by decide +kernel) (by decide) ?_
    refine fw_icmp_ne 67 (show decode _ _ = .ok (.if_icmp .ne 6, 3) by decide +kernel) (by decide) (fun hc22 => ?_) (fun hc22 => ?_)
    · have h_8 := ineg hc22 h_7
      refine fw_iconst (v := (5 : Int32)) (show decode _ _ = .ok (.iconst 5, 1) by decide +kernel) (by decide) ?_
      refine fw_istore (i := 6) (ls' := [(6, .int (5 : Int32)), (5, .int x21), (0, .ref p0), (1, .int p1), (2, .int p2), (3, .int p3), (4, .ref p4)]) (show decode _ _ = .ok (.istore 6, 2) by decide +kernel) (by decide) rfl ?_
      refine fw_iconst (v := (1 : Int32)) (show decode _ _ = .ok (.iconst 1, 1) by decide +kernel) (by decide) ?_
      refine fw_istore (i := 7) (ls' := [(7, .int (1 : Int32)), (6, .int (5 : Int32)), (5, .int x21), (0, .ref p0), (1, .int p1), (2, .int p2), (3, .int p3), (4, .ref p4)]) (show decode _ _ = .ok (.istore 7, 2) by decide +kernel) (by decide) rfl ?_
      refine FW.sub [3, 5, 1, 0] (ls' := [(0, .ref p0), (2, .int p2), (6, .int (5 : Int32)), (7, .int (1 : Int32))]) rfl ?_
      obtain ⟨nn, h_9⟩ := h_8
      exact sl_X2_levelled_73 hd nn h_9
    · have h_10 := ipos hc22 h_7
      refine fw_iload (i := 5) 0 rfl (show decode _ _ = .ok (.iload 5, 2) by decide +kernel) ?_
      exact fw_ret (v := some (.int x21)) .ireturn (show decode _ _ = .ok (.ireturn, 1) by decide +kernel) ⟨rfl, Or.inl rfl⟩ ⟨_, rfl, h_10⟩
  · have h_11 := ineg hc23 h_6
    refine fw_iconst (v := (-1 : Int32)) (show decode _ _ = .ok (.iconst (-1), 1) by decide +kernel) (by decide) ?_
    exact fw_ret (v := some (.int (-1 : Int32))) .ireturn (show decode _ _ = .ok (.ireturn, 1) by decide +kernel) ⟨rfl, Or.inl rfl⟩ ⟨_, rfl, h_11⟩
def w_X2_levelled (p0 : Nat) (p1 : Int32) (p2 : Int32) (p3 : Int32) (M : fM) (φ : Int32 → fM → Prop) : Prop := isO M p0 2 ∧ dR (mP M p0 0) fun y27 => isO M y27 5 ∧ w_X5_houseOf y27 p1 M fun o33 M29 => gN o33 (fun y34 => iF (p2 = (-1 : Int32)) (j_X2_levelled_31 φ p0 p1 p2 p3 y34 M29) (isO M29 y34 0 ∧ w_X0_hasStep y34 p2 M29 fun x40 M36 => iF (x40 = 0) (φ (-1 : Int32) M36) (j_X2_levelled_31 φ p0 p1 p2 p3 y34 M36))) (φ (-1 : Int32) M29)
set_option maxRecDepth 100000 in
theorem s_X2_levelled {g : GT} {d : Nat} (hd : 7 ≤ d) {p0 : Nat} {p1 : Int32} {p2 : Int32} {p3 : Int32} {M : fM} {φ : Int32 → fM → Prop} (h : w_X2_levelled p0 p1 p2 p3 M φ) : FC g mtX2_levelled d [.ref p0, .int p1, .int p2, .int p3] M 0 0 (rI φ) := by
  obtain ⟨d, rfl⟩ : ∃ e, d = e + 1 := ⟨d - 1, by omega⟩
  unfold w_X2_levelled at h
  refine FC.intro (nL := 8) (by decide) rfl (Nat.le_of_ble_eq_true rfl) ?_
  show FW g mtX2_levelled (d + 1) 0 [(0, .ref p0), (1, .int p1), (2, .int p2), (3, .int p3)] [] M 0 0 (rI φ)
  refine fw_aload_n (i := 0) 0 rfl (show decode _ _ = .ok (.aload_n 0, 1) by decide +kernel) ?_
  obtain ⟨⟨hr25, n24, hs26⟩, h_1⟩ := h
  refine fw_getP (kd := 2) (k := 0) (show decode _ _ = .ok (.getfield 21, 3) by decide +kernel) gf_X2_21 hr25 hs26 rfl ?_
  have h_2 := dR_e h_1
  obtain ⟨y27, hy28, h_3⟩ := h_2
  refine fw_deref hy28 ?_
  refine fw_iload_n (i := 1) 1 rfl (show decode _ _ = .ok (.iload_n 1, 1) by decide +kernel) ?_
  obtain ⟨⟨hr31, n30, hs32⟩, h_4⟩ := h_3
  refine fw_callV (mt' := mtX5_houseOf) (mc := 0) (ms := 0) (As := [.int p1]) (rest := []) 1 5 n30 (show decode _ _ = .ok (.invokevirtual 29, 3) by decide +kernel) cv_X2_29 ⟨_, rfl, rfl⟩ hr31 hs32 rfl (Nat.le_of_ble_eq_true rfl) (s_X5_houseOf (d := d) (hd_le hd (by decide)) h_4) (by decide) (by decide) (kP (bc' := 0) (bs' := 0) (by decide) (by decide) (fun o33 M29 h_5 => ?_))
  refine fw_astoreq (i := 4) (ls' := [(4, fr o33), (0, .ref p0), (1, .int p1), (2, .int p2), (3, .int p3)]) (show decode _ _ = .ok (.astore 4, 2) by decide +kernel) (by decide) rfl ?_
  refine fw_aloadq (i := 4) 0 rfl (show decode _ _ = .ok (.aload 4, 2) by decide +kernel) ?_
  refine fw_ifnull (x := o33) 29 (show decode _ _ = .ok (.ifnull 17, 3) by decide +kernel) (by decide) (fun hy35 => ?_) (fun y34 hy35 => ?_)
  · have h_6 := gN_n hy35 h_5
    subst hy35
    refine fw_iconst (v := (-1 : Int32)) (show decode _ _ = .ok (.iconst (-1), 1) by decide +kernel) (by decide) ?_
    exact fw_ret (v := some (.int (-1 : Int32))) .ireturn (show decode _ _ = .ok (.ireturn, 1) by decide +kernel) ⟨rfl, Or.inl rfl⟩ ⟨_, rfl, h_6⟩
  · have h_7 := gN_s hy35 h_5
    subst hy35
    refine fw_iload_n (i := 2) 3 rfl (show decode _ _ = .ok (.iload_n 2, 1) by decide +kernel) ?_
    refine fw_iconst (v := (-1 : Int32)) (show decode _ _ = .ok (.iconst (-1), 1) by decide +kernel) (by decide) ?_
    refine fw_icmp_eq 31 (show decode _ _ = .ok (.if_icmp .eq 14, 3) by decide +kernel) (by decide) (fun hc42 => ?_) (fun hc42 => ?_)
    · have h_8 := ipos hc42 h_7
      refine FW.sub [1, 2, 3, 4, 0] (ls' := [(0, .ref p0), (1, .int p1), (2, .int p2), (3, .int p3), (4, .ref y34)]) rfl ?_
      exact sj_X2_levelled_31 hd h_8
    · have h_9 := ineg hc42 h_7
      refine fw_aload (i := 4) 0 rfl (show decode _ _ = .ok (.aload 4, 2) by decide +kernel) ?_
      refine fw_iload_n (i := 2) 3 rfl (show decode _ _ = .ok (.iload_n 2, 1) by decide +kernel) ?_
      obtain ⟨⟨hr38, n37, hs39⟩, h_10⟩ := h_9
      refine fw_callV (mt' := mtX0_hasStep) (mc := 0) (ms := 0) (As := [.int p2]) (rest := []) 1 0 n37 (show decode _ _ = .ok (.invokevirtual 35, 3) by decide +kernel) cv_X2_35 ⟨_, rfl, rfl⟩ hr38 hs39 rfl (Nat.le_of_ble_eq_true rfl) (s_X0_hasStep (d := d) (hd_le hd (by decide)) h_10) (by decide) (by decide) (kI (bc' := 0) (bs' := 0) (by decide) (by decide) (fun x40 M36 h_11 => ?_))
      refine fw_if_ne 31 (show decode _ _ = .ok (.ifCond .ne 5, 3) by decide +kernel) (by decide) (fun hc41 => ?_) (fun hc41 => ?_)
      · have h_12 := ineg hc41 h_11
        refine FW.sub [1, 2, 3, 4, 0] (ls' := [(0, .ref p0), (1, .int p1), (2, .int p2), (3, .int p3), (4, .ref y34)]) rfl ?_
        exact sj_X2_levelled_31 hd h_12
      · have h_13 := ipos hc41 h_11
        refine fw_iconst (v := (-1 : Int32)) (show decode _ _ = .ok (.iconst (-1), 1) by decide +kernel) (by decide) ?_
        exact fw_ret (v := some (.int (-1 : Int32))) .ireturn (show decode _ _ = .ok (.ireturn, 1) by decide +kernel) ⟨rfl, Or.inl rfl⟩ ⟨_, rfl, h_13⟩
def w_X10_alike (p0 : Nat) (p1 : Int32) (p2 : Int32) (p3 : Int32) (M : fM) (φ : Int32 → fM → Prop) : Prop := isO M p0 10 ∧ dR (mP M p0 7) fun y4 => isO M y4 2 ∧ w_X2_levelled y4 p1 p2 p3 M fun x10 M6 => φ x10 M6
set_option maxRecDepth 100000 in
theorem s_X10_alike {g : GT} {d : Nat} (hd : 8 ≤ d) {p0 : Nat} {p1 : Int32} {p2 : Int32} {p3 : Int32} {M : fM} {φ : Int32 → fM → Prop} (h : w_X10_alike p0 p1 p2 p3 M φ) : FC g mtX10_alike d [.ref p0, .int p1, .int p2, .int p3] M 0 0 (rI φ) := by
  obtain ⟨d, rfl⟩ : ∃ e, d = e + 1 := ⟨d - 1, by omega⟩
  unfold w_X10_alike at h
  refine FC.intro (nL := 4) (by decide) rfl (Nat.le_of_ble_eq_true rfl) ?_
  show FW g mtX10_alike (d + 1) 0 [(0, .ref p0), (1, .int p1), (2, .int p2), (3, .int p3)] [] M 0 0 (rI φ)
  refine fw_aload_n (i := 0) 0 rfl (show decode _ _ = .ok (.aload_n 0, 1) by decide +kernel) ?_
  obtain ⟨⟨hr2, n1, hs3⟩, h_1⟩ := h
  refine fw_getP (kd := 10) (k := 7) (show decode _ _ = .ok (.getfield 64, 3) by decide +kernel) gf_X10_64 hr2 hs3 rfl ?_
  have h_2 := dR_e h_1
  obtain ⟨y4, hy5, h_3⟩ := h_2
  refine fw_deref hy5 ?_
  refine fw_iload_n (i := 1) 1 rfl (show decode _ _ = .ok (.iload_n 1, 1) by decide +kernel) ?_
  refine fw_iload_n (i := 2) 2 rfl (show decode _ _ = .ok (.iload_n 2, 1) by decide +kernel) ?_
  refine fw_iload_n (i := 3) 3 rfl (show decode _ _ = .ok (.iload_n 3, 1) by decide +kernel) ?_
  obtain ⟨⟨hr8, n7, hs9⟩, h_4⟩ := h_3
  refine fw_callV (mt' := mtX2_levelled) (mc := 0) (ms := 0) (As := [.int p1, .int p2, .int p3]) (rest := []) 3 2 n7 (show decode _ _ = .ok (.invokevirtual 268, 3) by decide +kernel) cv_X10_268 ⟨_, rfl, rfl⟩ hr8 hs9 rfl (Nat.le_of_ble_eq_true rfl) (s_X2_levelled (d := d) (hd_le hd (by decide)) h_4) (by decide) (by decide) (kI (bc' := 0) (bs' := 0) (by decide) (by decide) (fun x10 M6 h_5 => ?_))
  exact fw_ret (v := some (.int x10)) .ireturn (show decode _ _ = .ok (.ireturn, 1) by decide +kernel) ⟨rfl, Or.inl rfl⟩ ⟨_, rfl, h_5⟩
def j_X10_part_44 (φ : Int64 → fM → Prop) (p0 : Int64) (p2 : Int64) (p4 : Int32) (p5 : Int64) (M : fM) : Prop := iF ((lg_cmp p5 (0 : Int64)) = 0) (φ (-1 : Int64) M) (iF (p4 = 0) (¬ p5 = 0 ∧ φ (p0 / p5) M) (¬ p5 = 0 ∧ φ (p2 / p5) M))
set_option maxRecDepth 100000 in
theorem sj_X10_part_44 {g : GT} {d : Nat} (hd : 1 ≤ d + 1) {φ : Int64 → fM → Prop} {p0 : Int64} {p2 : Int64} {p4 : Int32} {p5 : Int64} {M : fM} (h : j_X10_part_44 φ p0 p2 p4 p5 M) : FW g mtX10_part (d + 1) 44 [(0, .long p0), (2, .long p2), (4, .int p4), (5, .long p5)] [] M 0 0 (rJ φ) := by
  unfold j_X10_part_44 at h
  refine fw_lload (i := 5) 3 rfl (show decode _ _ = .ok (.lload 5, 2) by decide +kernel) ?_
  refine fw_lconst (v := (0 : Int64)) (show decode _ _ = .ok (.lconst 0, 1) by decide +kernel) (by decide) ?_
  refine fw_lcmp (show decode _ _ = .ok (.lcmp, 1) by decide +kernel) ?_
  refine fw_if_ne 55 (show decode _ _ = .ok (.ifCond .ne 7, 3) by decide +kernel) (by decide) (fun hc4 => ?_) (fun hc4 => ?_)
  · have h_1 := ineg hc4 h
    refine fw_iload (i := 4) 2 rfl (show decode _ _ = .ok (.iload 4, 2) by decide +kernel) ?_
    refine fw_if_eq 67 (show decode _ _ = .ok (.ifCond .eq 10, 3) by decide +kernel) (by decide) (fun hc3 => ?_) (fun hc3 => ?_)
    · have h_2 := ipos hc3 h_1
      refine fw_lload_n (i := 0) 0 rfl (show decode _ _ = .ok (.lload_n 0, 1) by decide +kernel) ?_
      refine fw_lload (i := 5) 3 rfl (show decode _ _ = .ok (.lload 5, 2) by decide +kernel) ?_
      obtain ⟨hne1, h_3⟩ := h_2
      refine fw_ldiv (show decode _ _ = .ok (.ldiv, 1) by decide +kernel) hne1 ?_
      exact fw_ret (v := some (.long (p0 / p5))) .lreturn (show decode _ _ = .ok (.lreturn, 1) by decide +kernel) ⟨rfl, rfl⟩ ⟨_, rfl, h_3⟩
    · have h_4 := ineg hc3 h_1
      refine fw_lload_n (i := 2) 1 rfl (show decode _ _ = .ok (.lload_n 2, 1) by decide +kernel) ?_
      refine fw_lload (i := 5) 3 rfl (show decode _ _ = .ok (.lload 5, 2) by decide +kernel) ?_
      obtain ⟨hne2, h_5⟩ := h_4
      refine fw_ldiv (show decode _ _ = .ok (.ldiv, 1) by decide +kernel) hne2 ?_
      refine fw_goto 71 (show decode _ _ = .ok (.goto 7, 3) by decide +kernel) (by decide) ?_
      exact fw_ret (v := some (.long (p2 / p5))) .lreturn (show decode _ _ = .ok (.lreturn, 1) by decide +kernel) ⟨rfl, rfl⟩ ⟨_, rfl, h_5⟩
  · have h_6 := ipos hc4 h
    refine fw_ldc2 (idx := 210) (v := (-1 : Int64)) (show decode _ _ = .ok (.ldc2_w 210, 3) by decide +kernel) wd1151 ?_
    exact fw_ret (v := some (.long (-1 : Int64))) .lreturn (show decode _ _ = .ok (.lreturn, 1) by decide +kernel) ⟨rfl, rfl⟩ ⟨_, rfl, h_6⟩
def b_X10_part_9 (K9 : Int64 → Int64 → Int32 → Int64 → Int64 → Int32 → fM → Prop) (φ : Int64 → fM → Prop) (p0 : Int64) (p2 : Int64) (p4 : Int32) (p5 : Int64) (p7 : Int64) (p9 : Int32) (M : fM) : Prop := iF ((100 : Int32) ≤ p9) (j_X10_part_44 φ p0 p2 p4 p5 M) (iF ((lg_cmp p7 (0 : Int64)) = 0) (j_X10_part_44 φ p0 p2 p4 p5 M) (¬ p7 = 0 ∧ nm (p5 % p7) fun x6 => nm (p9 + (1 : Int32)) fun x8 => K9 p0 p2 p4 p7 x6 x8 M))
def l_X10_part_9 (φ : Int64 → fM → Prop) : Nat → Int64 → Int64 → Int32 → Int64 → Int64 → Int32 → fM → Prop
  | 0, _, _, _, _, _, _, _ => False
  | n + 1, p0, p2, p4, p5, p7, p9, M => b_X10_part_9 (l_X10_part_9 φ n) φ p0 p2 p4 p5 p7 p9 M
set_option maxRecDepth 100000 in
theorem sb_X10_part_9 {g : GT} {d : Nat} (hd : 1 ≤ d + 1) {K9 : Int64 → Int64 → Int32 → Int64 → Int64 → Int32 → fM → Prop} {φ : Int64 → fM → Prop} (hK9 : ∀ (p0 : Int64) (p2 : Int64) (p4 : Int32) (p5 : Int64) (p7 : Int64) (p9 : Int32) (M : fM), K9 p0 p2 p4 p5 p7 p9 M → FW g mtX10_part (d + 1) 9 [(0, .long p0), (2, .long p2), (4, .int p4), (5, .long p5), (7, .long p7), (9, .int p9)] [] M 0 0 (rJ φ)) {p0 : Int64} {p2 : Int64} {p4 : Int32} {p5 : Int64} {p7 : Int64} {p9 : Int32} {M : fM} (h : b_X10_part_9 K9 φ p0 p2 p4 p5 p7 p9 M) : FW g mtX10_part (d + 1) 9 [(0, .long p0), (2, .long p2), (4, .int p4), (5, .long p5), (7, .long p7), (9, .int p9)] [] M 0 0 (rJ φ) := by
  unfold b_X10_part_9 at h
  refine fw_iload (i := 9) 5 rfl (show decode _ _ = .ok (.iload 9, 2) by decide +kernel) ?_
  refine fw_bipush (v := (100 : Int32)) (show decode _ _ = .ok (.bipush 100, 2) by decide +kernel) (by decide) ?_
  refine fw_icmp_ge 44 (show decode _ _ = .ok (.if_icmp .ge 31, 3) by decide +kernel) (by decide) (fun hc11 => ?_) (fun hc11 => ?_)
  · have h_1 := ipos hc11 h
    refine FW.sub [0, 1, 2, 3] (ls' := [(0, .long p0), (2, .long p2), (4, .int p4), (5, .long p5)]) rfl ?_
    exact sj_X10_part_44 hd h_1
  · have h_2 := ineg hc11 h
    refine fw_lload (i := 7) 4 rfl (show decode _ _ = .ok (.lload 7, 2) by decide +kernel) ?_
    refine fw_lconst (v := (0 : Int64)) (show decode _ _ = .ok (.lconst 0, 1) by decide +kernel) (by decide) ?_
    refine fw_lcmp (show decode _ _ = .ok (.lcmp, 1) by decide +kernel) ?_
    refine fw_if_eq 44 (show decode _ _ = .ok (.ifCond .eq 24, 3) by decide +kernel) (by decide) (fun hc10 => ?_) (fun hc10 => ?_)
    · have h_3 := ipos hc10 h_2
      refine FW.sub [0, 1, 2, 3] (ls' := [(0, .long p0), (2, .long p2), (4, .int p4), (5, .long p5)]) rfl ?_
      exact sj_X10_part_44 hd h_3
    · have h_4 := ineg hc10 h_2
      refine fw_lload (i := 5) 3 rfl (show decode _ _ = .ok (.lload 5, 2) by decide +kernel) ?_
      refine fw_lload (i := 7) 4 rfl (show decode _ _ = .ok (.lload 7, 2) by decide +kernel) ?_
      obtain ⟨hne5, h_5⟩ := h_4
      refine fw_lrem (show decode _ _ = .ok (.lrem, 1) by decide +kernel) hne5 ?_
      refine fw_nmJ (fun x6 ex7 => ?_)
      have h_6 := h_5 x6 ex7
      refine fw_lstore (i := 10) (ls' := [(10, .long x6), (0, .long p0), (2, .long p2), (4, .int p4), (5, .long p5), (7, .long p7), (9, .int p9)]) (show decode _ _ = .ok (.lstore 10, 2) by decide +kernel) (by decide) rfl ?_
      refine fw_lload (i := 7) 5 rfl (show decode _ _ = .ok (.lload 7, 2) by decide +kernel) ?_
      refine fw_lstore (i := 5) (ls' := [(5, .long p7), (10, .long x6), (0, .long p0), (2, .long p2), (4, .int p4), (7, .long p7), (9, .int p9)]) (show decode _ _ = .ok (.lstore 5, 2) by decide +kernel) (by decide) rfl ?_
      refine fw_lload (i := 10) 1 rfl (show decode _ _ = .ok (.lload 10, 2) by decide +kernel) ?_
      refine fw_lstore (i := 7) (ls' := [(7, .long x6), (5, .long p7), (10, .long x6), (0, .long p0), (2, .long p2), (4, .int p4), (9, .int p9)]) (show decode _ _ = .ok (.lstore 7, 2) by decide +kernel) (by decide) rfl ?_
      obtain ⟨x8, ex9⟩ : ∃ y : Int32, y = p9 + (1 : Int32) := ⟨_, rfl⟩
      have h_7 := h_6 x8 ex9
      refine fw_iinc (i := 9) (x := p9) (v := x8) (ls' := [(9, .int x8), (7, .long x6), (5, .long p7), (10, .long x6), (0, .long p0), (2, .long p2), (4, .int p4)]) 6 rfl (show decode _ _ = .ok (.iinc 9 1, 3) by decide +kernel) (by rw [ex9]; rfl) (by decide) rfl ?_
      refine fw_goto 9 (show decode _ _ = .ok (.goto (-32), 3) by decide +kernel) (by decide) ?_
      refine FW.sub [4, 5, 6, 2, 1, 0] (ls' := [(0, .long p0), (2, .long p2), (4, .int p4), (5, .long p7), (7, .long x6), (9, .int x8)]) rfl ?_
      exact hK9 _ _ _ _ _ _ _ h_7
theorem sl_X10_part_9 {g : GT} {d : Nat} (hd : 1 ≤ d + 1) {φ : Int64 → fM → Prop} : ∀ (n : Nat) {p0 : Int64} {p2 : Int64} {p4 : Int32} {p5 : Int64} {p7 : Int64} {p9 : Int32} {M : fM}, l_X10_part_9 φ n p0 p2 p4 p5 p7 p9 M → FW g mtX10_part (d + 1) 9 [(0, .long p0), (2, .long p2), (4, .int p4), (5, .long p5), (7, .long p7), (9, .int p9)] [] M 0 0 (rJ φ)
  | 0 => fun h => h.elim
  | n + 1 => fun h => sb_X10_part_9 hd (fun _ _ _ _ _ _ _ h => sl_X10_part_9 hd n h) h
def w_X10_part (p0 : Int64) (p2 : Int64) (p4 : Int32) (M : fM) (φ : Int64 → fM → Prop) : Prop := ∃ n, l_X10_part_9 φ n p0 p2 p4 p0 p2 (0 : Int32) M
set_option maxRecDepth 100000 in
theorem s_X10_part {g : GT} {d : Nat} (hd : 1 ≤ d) {p0 : Int64} {p2 : Int64} {p4 : Int32} {M : fM} {φ : Int64 → fM → Prop} (h : w_X10_part p0 p2 p4 M φ) : FC g mtX10_part d [.long p0, .long p2, .int p4] M 0 0 (rJ φ) := by
  obtain ⟨d, rfl⟩ : ∃ e, d = e + 1 := ⟨d - 1, by omega⟩
  unfold w_X10_part at h
  refine FC.intro (nL := 12) (by decide) rfl (Nat.le_of_ble_eq_true rfl) ?_
  show FW g mtX10_part (d + 1) 0 [(0, .long p0), (2, .long p2), (4, .int p4)] [] M 0 0 (rJ φ)
  refine fw_lload_n (i := 0) 0 rfl (show decode _ _ = .ok (.lload_n 0, 1) by decide +kernel) ?_
  refine fw_lstore (i := 5) (ls' := [(5, .long p0), (0, .long p0), (2, .long p2), (4, .int p4)]) (show decode _ _ = .ok (.lstore 5, 2) by decide +kernel) (by decide) rfl ?_
  refine fw_lload_n (i := 2) 2 rfl (show decode _ _ = .ok (.lload_n 2, 1) by decide +kernel) ?_
  refine fw_lstore (i := 7) (ls' := [(7, .long p2), (5, .long p0), (0, .long p0), (2, .long p2), (4, .int p4)]) (show decode _ _ = .ok (.lstore 7, 2) by decide +kernel) (by decide) rfl ?_
  refine fw_iconst (v := (0 : Int32)) (show decode _ _ = .ok (.iconst 0, 1) by decide +kernel) (by decide) ?_
  refine fw_istore (i := 9) (ls' := [(9, .int (0 : Int32)), (7, .long p2), (5, .long p0), (0, .long p0), (2, .long p2), (4, .int p4)]) (show decode _ _ = .ok (.istore 9, 2) by decide +kernel) (by decide) rfl ?_
  refine FW.sub [3, 4, 5, 2, 1, 0] (ls' := [(0, .long p0), (2, .long p2), (4, .int p4), (5, .long p0), (7, .long p2), (9, .int (0 : Int32))]) rfl ?_
  obtain ⟨nn, h_1⟩ := h
  exact sl_X10_part_9 hd nn h_1
def w_X10_average (p0 : Nat) (p1 : Int32) (p2 : Int32) (p3 : Int32) (M : fM) (φ : Int32 → fM → Prop) : Prop := iF (p1 < (1 : Int32)) (φ (-1 : Int32) M) (iF ((9 : Int32) < p1) (φ (-1 : Int32) M) (iF (p2 < (1 : Int32)) (φ (-1 : Int32) M) (iF (p2 ≤ (10 : Int32)) (w_X10_part (Int32.toInt64 (p1 * (10 : Int32))) (Int32.toInt64 p2) p3 M fun x2 M1 => φ (Int64.toInt32 x2) M1) (φ (-1 : Int32) M))))
set_option maxRecDepth 100000 in
theorem s_X10_average {g : GT} {d : Nat} (hd : 2 ≤ d) {p0 : Nat} {p1 : Int32} {p2 : Int32} {p3 : Int32} {M : fM} {φ : Int32 → fM → Prop} (h : w_X10_average p0 p1 p2 p3 M φ) : FC g mtX10_average d [.ref p0, .int p1, .int p2, .int p3] M 0 0 (rI φ) := by
  obtain ⟨d, rfl⟩ : ∃ e, d = e + 1 := ⟨d - 1, by omega⟩
  unfold w_X10_average at h
  refine FC.intro (nL := 4) (by decide) rfl (Nat.le_of_ble_eq_true rfl) ?_
  show FW g mtX10_average (d + 1) 0 [(0, .ref p0), (1, .int p1), (2, .int p2), (3, .int p3)] [] M 0 0 (rI φ)
  refine fw_iload_n (i := 1) 1 rfl (show decode _ _ = .ok (.iload_n 1, 1) by decide +kernel) ?_
  refine fw_iconst (v := (1 : Int32)) (show decode _ _ = .ok (.iconst 1, 1) by decide +kernel) (by decide) ?_
  refine fw_icmp_lt 22 (show decode _ _ = .ok (.if_icmp .lt 20, 3) by decide +kernel) (by decide) (fun hc6 => ?_) (fun hc6 => ?_)
  · have h_1 := ipos hc6 h
    refine fw_iconst (v := (-1 : Int32)) (show decode _ _ = .ok (.iconst (-1), 1) by decide +kernel) (by decide) ?_
    exact fw_ret (v := some (.int (-1 : Int32))) .ireturn (show decode _ _ = .ok (.ireturn, 1) by decide +kernel) ⟨rfl, Or.inl rfl⟩ ⟨_, rfl, h_1⟩
  · have h_2 := ineg hc6 h
    refine fw_iload_n (i := 1) 1 rfl (show decode _ _ = .ok (.iload_n 1, 1) by decide +kernel) ?_
    refine fw_bipush (v := (9 : Int32)) (show decode _ _ = .ok (.bipush 9, 2) by decide +kernel) (by decide) ?_
    refine fw_icmp_gt 22 (show decode _ _ = .ok (.if_icmp .gt 14, 3) by decide +kernel) (by decide) (fun hc5 => ?_) (fun hc5 => ?_)
    · have h_3 := ipos hc5 h_2
      refine fw_iconst (v := (-1 : Int32)) (show decode _ _ = .ok (.iconst (-1), 1) by decide +kernel) (by decide) ?_
      exact fw_ret (v := some (.int (-1 : Int32))) .ireturn (show decode _ _ = .ok (.ireturn, 1) by decide +kernel) ⟨rfl, Or.inl rfl⟩ ⟨_, rfl, h_3⟩
    · have h_4 := ineg hc5 h_2
      refine fw_iload_n (i := 2) 2 rfl (show decode _ _ = .ok (.iload_n 2, 1) by decide +kernel) ?_
      refine fw_iconst (v := (1 : Int32)) (show decode _ _ = .ok (.iconst 1, 1) by decide +kernel) (by decide) ?_
      refine fw_icmp_lt 22 (show decode _ _ = .ok (.if_icmp .lt 9, 3) by decide +kernel) (by decide) (fun hc4 => ?_) (fun hc4 => ?_)
      · have h_5 := ipos hc4 h_4
        refine fw_iconst (v := (-1 : Int32)) (show decode _ _ = .ok (.iconst (-1), 1) by decide +kernel) (by decide) ?_
        exact fw_ret (v := some (.int (-1 : Int32))) .ireturn (show decode _ _ = .ok (.ireturn, 1) by decide +kernel) ⟨rfl, Or.inl rfl⟩ ⟨_, rfl, h_5⟩
      · have h_6 := ineg hc4 h_4
        refine fw_iload_n (i := 2) 2 rfl (show decode _ _ = .ok (.iload_n 2, 1) by decide +kernel) ?_
        refine fw_bipush (v := (10 : Int32)) (show decode _ _ = .ok (.bipush 10, 2) by decide +kernel) (by decide) ?_
        refine fw_icmp_le 24 (show decode _ _ = .ok (.if_icmp .le 5, 3) by decide +kernel) (by decide) (fun hc3 => ?_) (fun hc3 => ?_)
        · have h_7 := ipos hc3 h_6
          refine fw_iload_n (i := 1) 1 rfl (show decode _ _ = .ok (.iload_n 1, 1) by decide +kernel) ?_
          refine fw_bipush (v := (10 : Int32)) (show decode _ _ = .ok (.bipush 10, 2) by decide +kernel) (by decide) ?_
          refine fw_imul (show decode _ _ = .ok (.imul, 1) by decide +kernel) ?_
          refine fw_i2l (show decode _ _ = .ok (.i2l, 1) by decide +kernel) ?_
          refine fw_iload_n (i := 2) 2 rfl (show decode _ _ = .ok (.iload_n 2, 1) by decide +kernel) ?_
          refine fw_i2l (show decode _ _ = .ok (.i2l, 1) by decide +kernel) ?_
          refine fw_iload_n (i := 3) 3 rfl (show decode _ _ = .ok (.iload_n 3, 1) by decide +kernel) ?_
          refine fw_callS (mt' := mtX10_part) (mc := 0) (ms := 0) (As := [.long (Int32.toInt64 (p1 * (10 : Int32))), .long (Int32.toInt64 p2), .int p3]) (rest := []) 3 (show decode _ _ = .ok (.invokestatic 248, 3) by decide +kernel) cs_X10_248 rfl (Nat.le_of_ble_eq_true rfl) (s_X10_part (d := d) (hd_le hd (by decide)) h_7) (by decide) (by decide) (kJ (bc' := 0) (bs' := 0) (by decide) (by decide) (fun x2 M1 h_8 => ?_))
          refine fw_l2i (show decode _ _ = .ok (.l2i, 1) by decide +kernel) ?_
          exact fw_ret (v := some (.int (Int64.toInt32 x2))) .ireturn (show decode _ _ = .ok (.ireturn, 1) by decide +kernel) ⟨rfl, Or.inl rfl⟩ ⟨_, rfl, h_8⟩
        · have h_9 := ineg hc3 h_6
          refine fw_iconst (v := (-1 : Int32)) (show decode _ _ = .ok (.iconst (-1), 1) by decide +kernel) (by decide) ?_
          exact fw_ret (v := some (.int (-1 : Int32))) .ireturn (show decode _ _ = .ok (.ireturn, 1) by decide +kernel) ⟨rfl, Or.inl rfl⟩ ⟨_, rfl, h_9⟩
def j_X5_become_193 (φ : fM → Prop) (p0 : Nat) (p1 : Nat) (M : fM) : Prop := isO M p1 5 ∧ nm (mI M p1 14) fun x4 => isO M p0 5 ∧ st (wI M p0 14 x4) fun M9 => nm (mI M9 p1 15) fun x11 => st (wI M9 p0 15 x11) fun M13 => dR (mP M13 p1 16) fun y15 => dR (mP M13 p0 16) fun y17 => w_X10_copy y15 y17 M13 fun M19 => isO M19 p1 5 ∧ nm (mI M19 p1 17) fun x23 => isO M19 p0 5 ∧ st (wI M19 p0 17 x23) fun M28 => φ M28
set_option maxRecDepth 100000 in
theorem sj_X5_become_193 {g : GT} {d : Nat} (hd : 3 ≤ d + 1) {φ : fM → Prop} {p0 : Nat} {p1 : Nat} {M : fM} (h : j_X5_become_193 φ p0 p1 M) : FW g mtX5_become (d + 1) 193 [(0, .ref p0), (1, .ref p1)] [] M 0 0 (rV φ) := by
  unfold j_X5_become_193 at h
  refine fw_aload_n (i := 0) 0 rfl (show decode _ _ = .ok (.aload_n 0, 1) by decide +kernel) ?_
  refine fw_aload_n (i := 1) 1 rfl (show decode _ _ = .ok (.aload_n 1, 1) by decide +kernel) ?_
  obtain ⟨⟨hr2, n1, hs3⟩, h_1⟩ := h
  refine fw_getI (kd := 5) (k := 14) (show decode _ _ = .ok (.getfield 56, 3) by decide +kernel) gf_X5_56 hr2 hs3 (Or.inl rfl) ?_
  refine fw_nmI (fun x4 ex5 => ?_)
  have h_2 := h_1 x4 ex5
  obtain ⟨⟨hr7, n6, hs8⟩, h_3⟩ := h_2
  refine fw_putI (kd := 5) (k := 14) (show decode _ _ = .ok (.putfield 56, 3) by decide +kernel) ⟨gf_X5_56, _, rfl, Or.inl rfl⟩ hr7 hs8 rfl ?_
  refine FW.nmM (fun M9 eM10 => ?_)
  have h_4 := h_3 M9 eM10
  refine fw_aload_n (i := 0) 0 rfl (show decode _ _ = .ok (.aload_n 0, 1) by decide +kernel) ?_
  refine fw_aload_n (i := 1) 1 rfl (show decode _ _ = .ok (.aload_n 1, 1) by decide +kernel) ?_
  refine fw_getI (kd := 5) (k := 15) (show decode _ _ = .ok (.getfield 46, 3) by decide +kernel) gf_X5_46 hr2 (mSw_I eM10 hs3) (Or.inl rfl) ?_
  refine fw_nmI (fun x11 ex12 => ?_)
  have h_5 := h_4 x11 ex12
  refine fw_putI (kd := 5) (k := 15) (show decode _ _ = .ok (.putfield 46, 3) by decide +kernel) ⟨gf_X5_46, _, rfl, Or.inl rfl⟩ hr7 (mSw_I eM10 hs8) rfl ?_
  refine FW.nmM (fun M13 eM14 => ?_)
  have h_6 := h_5 M13 eM14
  refine fw_aload_n (i := 1) 1 rfl (show decode _ _ = .ok (.aload_n 1, 1) by decide +kernel) ?_
  refine fw_getP (kd := 5) (k := 16) (show decode _ _ = .ok (.getfield 49, 3) by decide +kernel) gf_X5_49 hr2 (mSw_I eM14 (mSw_I eM10 hs3)) rfl ?_
  have h_7 := dR_e h_6
  obtain ⟨y15, hy16, h_8⟩ := h_7
  refine fw_deref hy16 ?_
  refine fw_aload_n (i := 0) 0 rfl (show decode _ _ = .ok (.aload_n 0, 1) by decide +kernel) ?_
  refine fw_getP (kd := 5) (k := 16) (show decode _ _ = .ok (.getfield 49, 3) by decide +kernel) gf_X5_49 hr7 (mSw_I eM14 (mSw_I eM10 hs8)) rfl ?_
  have h_9 := dR_e h_8
  obtain ⟨y17, hy18, h_10⟩ := h_9
  refine fw_deref hy18 ?_
  refine fw_callSN (mt' := mtX10_copy) (mc := 0) (ms := 0) (As := [.ref y15, .ref y17]) (rest := []) 2 "OneStepMore" (show decode _ _ = .ok (.invokestatic 135, 3) by decide +kernel) ns_X5_135 rfl (Nat.le_of_ble_eq_true rfl) (s_X10_copy (d := d) (hd_le hd (by decide)) h_10) (by decide) (by decide) (kV (bc' := 0) (bs' := 0) (by decide) (by decide) (fun M19 h_11 => ?_))
  refine fw_aload_n (i := 0) 0 rfl (show decode _ _ = .ok (.aload_n 0, 1) by decide +kernel) ?_
  refine fw_aload_n (i := 1) 1 rfl (show decode _ _ = .ok (.aload_n 1, 1) by decide +kernel) ?_
  obtain ⟨⟨hr21, n20, hs22⟩, h_12⟩ := h_11
  refine fw_getI (kd := 5) (k := 17) (show decode _ _ = .ok (.getfield 139, 3) by decide +kernel) gf_X5_139 hr21 hs22 (Or.inl rfl) ?_
  refine fw_nmI (fun x23 ex24 => ?_)
  have h_13 := h_12 x23 ex24
  obtain ⟨⟨hr26, n25, hs27⟩, h_14⟩ := h_13
  refine fw_putI (kd := 5) (k := 17) (show decode _ _ = .ok (.putfield 139, 3) by decide +kernel) ⟨gf_X5_139, _, rfl, Or.inl rfl⟩ hr26 hs27 rfl ?_
  refine FW.nmM (fun M28 eM29 => ?_)
  have h_15 := h_14 M28 eM29
  exact fw_ret (v := none) .return_ (show decode _ _ = .ok (.return_, 1) by decide +kernel) ⟨rfl, rfl⟩ ⟨rfl, h_15⟩
def b_X5_become_157 (K157 : Nat → Nat → Int32 → fM → Prop) (φ : fM → Prop) (p0 : Nat) (p1 : Nat) (p2 : Int32) (M : fM) : Prop := isO M p0 5 ∧ dR (mP M p0 13) fun y33 => lenA M y33 16 fun n35 => iF ((nI n35) ≤ p2) (j_X5_become_193 φ p0 p1 M) (isO M p1 5 ∧ dR (mP M p1 13) fun y40 => lenA M y40 16 fun n42 => iF ((nI n42) ≤ p2) (j_X5_become_193 φ p0 p1 M) (dR (mP M p0 13) fun y44 => dR (mP M p1 13) fun y46 => inA M y46 16 p2 ∧ nm (mP M y46 (ix p2)) fun o51 => 6 ≤ y44 ∧ inA M y44 16 p2 ∧ (∀ y, o51 = some y → isO M y 8) ∧ st (wP M y44 (ix p2) o51) fun M57 => nm (p2 + (1 : Int32)) fun x60 => K157 p0 p1 x60 M57))
def l_X5_become_157 (φ : fM → Prop) : Nat → Nat → Nat → Int32 → fM → Prop
  | 0, _, _, _, _ => False
  | n + 1, p0, p1, p2, M => b_X5_become_157 (l_X5_become_157 φ n) φ p0 p1 p2 M
set_option maxRecDepth 100000 in
theorem sb_X5_become_157 {g : GT} {d : Nat} (hd : 3 ≤ d + 1) {K157 : Nat → Nat → Int32 → fM → Prop} {φ : fM → Prop} (hK157 : ∀ (p0 : Nat) (p1 : Nat) (p2 : Int32) (M : fM), K157 p0 p1 p2 M → FW g mtX5_become (d + 1) 157 [(0, .ref p0), (1, .ref p1), (2, .int p2)] [] M 0 0 (rV φ)) {p0 : Nat} {p1 : Nat} {p2 : Int32} {M : fM} (h : b_X5_become_157 K157 φ p0 p1 p2 M) : FW g mtX5_become (d + 1) 157 [(0, .ref p0), (1, .ref p1), (2, .int p2)] [] M 0 0 (rV φ) := by
  unfold b_X5_become_157 at h
  refine fw_iload_n (i := 2) 2 rfl (show decode _ _ = .ok (.iload_n 2, 1) by decide +kernel) ?_
  refine fw_aload_n (i := 0) 0 rfl (show decode _ _ = .ok (.aload_n 0, 1) by decide +kernel) ?_
  obtain ⟨⟨hr31, n30, hs32⟩, h_1⟩ := h
  refine fw_getP (kd := 5) (k := 13) (show decode _ _ = .ok (.getfield 42, 3) by decide +kernel) gf_X5_42 hr31 hs32 rfl ?_
  have h_2 := dR_e h_1
  obtain ⟨y33, hy34, h_3⟩ := h_2
  refine fw_deref hy34 ?_
  obtain ⟨n35, hs36, h_4⟩ := h_3
  refine fw_alen (show decode _ _ = .ok (.arraylength, 1) by decide +kernel) hs36 (by decide) (by decide) (by decide) (fun h_4 => absurd h_4 (by decide)) ?_
  refine fw_icmp_ge 193 (show decode _ _ = .ok (.if_icmp .ge 30, 3) by decide +kernel) (by decide) (fun hc63 => ?_) (fun hc63 => ?_)
  · have h_5 := ipos hc63 h_4
    refine FW.sub [0, 1] (ls' := [(0, .ref p0), (1, .ref p1)]) rfl ?_
    exact sj_X5_become_193 hd h_5
  · have h_6 := ineg hc63 h_4
    refine fw_iload_n (i := 2) 2 rfl (show decode _ _ = .ok (.iload_n 2, 1) by decide +kernel) ?_
    refine fw_aload_n (i := 1) 1 rfl (show decode _ _ = .ok (.aload_n 1, 1) by decide +kernel) ?_
    obtain ⟨⟨hr38, n37, hs39⟩, h_7⟩ := h_6
    refine fw_getP (kd := 5) (k := 13) (show decode _ _ = .ok (.getfield 42, 3) by decide +kernel) gf_X5_42 hr38 hs39 rfl ?_
    have h_8 := dR_e h_7
    obtain ⟨y40, hy41, h_9⟩ := h_8
    refine fw_deref hy41 ?_
    obtain ⟨n42, hs43, h_10⟩ := h_9
    refine fw_alen (show decode _ _ = .ok (.arraylength, 1) by decide +kernel) hs43 (by decide) (by decide) (by decide) (fun h_10 => absurd h_10 (by decide)) ?_
    refine fw_icmp_ge 193 (show decode _ _ = .ok (.if_icmp .ge 21, 3) by decide +kernel) (by decide) (fun hc62 => ?_) (fun hc62 => ?_)
    · have h_11 := ipos hc62 h_10
      refine FW.sub [0, 1] (ls' := [(0, .ref p0), (1, .ref p1)]) rfl ?_
      exact sj_X5_become_193 hd h_11
    · have h_12 := ineg hc62 h_10
      refine fw_aload_n (i := 0) 0 rfl (show decode _ _ = .ok (.aload_n 0, 1) by decide +kernel) ?_
      refine fw_getP (kd := 5) (k := 13) (show decode _ _ = .ok (.getfield 42, 3) by decide +kernel) gf_X5_42 hr31 hs32 rfl ?_
      have h_13 := dR_e h_12
      obtain ⟨y44, hy45, h_14⟩ := h_13
      refine fw_deref hy45 ?_
      refine fw_iload_n (i := 2) 2 rfl (show decode _ _ = .ok (.iload_n 2, 1) by decide +kernel) ?_
      refine fw_aload_n (i := 1) 1 rfl (show decode _ _ = .ok (.aload_n 1, 1) by decide +kernel) ?_
      refine fw_getP (kd := 5) (k := 13) (show decode _ _ = .ok (.getfield 42, 3) by decide +kernel) gf_X5_42 hr38 hs39 rfl ?_
      have h_15 := dR_e h_14
      obtain ⟨y46, hy47, h_16⟩ := h_15
      refine fw_deref hy47 ?_
      refine fw_iload_n (i := 2) 2 rfl (show decode _ _ = .ok (.iload_n 2, 1) by decide +kernel) ?_
      obtain ⟨⟨n48, hs49, hi50⟩, h_17⟩ := h_16
      refine fw_aald (kd := 16) (show decode _ _ = .ok (.aaload, 1) by decide +kernel) (by decide) hs49 hi50 ?_
      refine fw_nmP (fun o51 eo52 => ?_)
      have h_18 := h_17 o51 eo52
      obtain ⟨hr56, ⟨n53, hs54, hi55⟩, h_19⟩ := h_18
      obtain ⟨hv59, h_20⟩ := h_19
      refine fw_aastQ 16 8 _ (show decode _ _ = .ok (.aastore, 1) by decide +kernel) (by first | exact Or.inl ⟨rfl, rfl, rfl⟩ | exact Or.inr ⟨rfl, rfl, rfl⟩) hr56 hs54 hi55 hv59 ?_
      refine FW.nmM (fun M57 eM58 => ?_)
      have h_21 := h_20 M57 eM58
      obtain ⟨x60, ex61⟩ : ∃ y : Int32, y = p2 + (1 : Int32) := ⟨_, rfl⟩
      have h_22 := h_21 x60 ex61
      refine fw_iinc (i := 2) (x := p2) (v := x60) (ls' := [(2, .int x60), (0, .ref p0), (1, .ref p1)]) 2 rfl (show decode _ _ = .ok (.iinc 2 1, 3) by decide +kernel) (by rw [ex61]; rfl) (by decide) rfl ?_
      refine fw_goto 157 (show decode _ _ = .ok (.goto (-33), 3) by decide +kernel) (by decide) ?_
      refine FW.sub [1, 2, 0] (ls' := [(0, .ref p0), (1, .ref p1), (2, .int x60)]) rfl ?_
      exact hK157 _ _ _ _ h_22
theorem sl_X5_become_157 {g : GT} {d : Nat} (hd : 3 ≤ d + 1) {φ : fM → Prop} : ∀ (n : Nat) {p0 : Nat} {p1 : Nat} {p2 : Int32} {M : fM}, l_X5_become_157 φ n p0 p1 p2 M → FW g mtX5_become (d + 1) 157 [(0, .ref p0), (1, .ref p1), (2, .int p2)] [] M 0 0 (rV φ)
  | 0 => fun h => h.elim
  | n + 1 => fun h => sb_X5_become_157 hd (fun _ _ _ _ h => sl_X5_become_157 hd n h) h
def b_X5_become_2 (K2 : Nat → Nat → Int32 → fM → Prop) (φ : fM → Prop) (p0 : Nat) (p1 : Nat) (p2 : Int32) (M : fM) : Prop := iF ((4 : Int32) ≤ p2) (isO M p1 5 ∧ dR (mP M p1 1) fun y67 => isO M p0 5 ∧ dR (mP M p0 1) fun y72 => w_X10_copy y67 y72 M fun M74 => isO M74 p1 5 ∧ dR (mP M74 p1 2) fun y78 => isO M74 p0 5 ∧ dR (mP M74 p0 2) fun y83 => w_X10_copy y78 y83 M74 fun M85 => isO M85 p1 5 ∧ dR (mP M85 p1 3) fun y89 => isO M85 p0 5 ∧ dR (mP M85 p0 3) fun y94 => w_X10_copy y89 y94 M85 fun M96 => isO M96 p1 5 ∧ nm (mI M96 p1 4) fun x100 => isO M96 p0 5 ∧ st (wI M96 p0 4 x100) fun M105 => nm (mI M105 p1 5) fun x107 => st (wI M105 p0 5 x107) fun M109 => nm (mI M109 p1 6) fun x111 => st (wI M109 p0 6 x111) fun M113 => dR (mP M113 p1 7) fun y115 => dR (mP M113 p0 7) fun y117 => w_X10_copy y115 y117 M113 fun M119 => isO M119 p1 5 ∧ dR (mP M119 p1 8) fun y123 => isO M119 p0 5 ∧ dR (mP M119 p0 8) fun y128 => w_X10_copy y123 y128 M119 fun M130 => isO M130 p1 5 ∧ nm (mI M130 p1 9) fun x134 => isO M130 p0 5 ∧ st (wI M130 p0 9 x134) fun M139 => dR (mP M139 p1 10) fun y141 => dR (mP M139 p0 10) fun y143 => w_X10_copy y141 y143 M139 fun M145 => isO M145 p1 5 ∧ nm (mI M145 p1 11) fun x149 => isO M145 p0 5 ∧ st (wI M145 p0 11 x149) fun M154 => nm (mI M154 p1 12) fun x156 => st (wI M154 p0 12 x156) fun M158 => ∃ n, l_X5_become_157 φ n p0 p1 (0 : Int32) M158) (isO M p0 5 ∧ w_X5_houseOf p0 p2 M fun o164 M160 => isO M160 p1 5 ∧ w_X5_houseOf p1 p2 M160 fun o169 M165 => gN o164 (fun y170 => gN o169 (fun y172 => isO M165 y170 0 ∧ w_X0_become y170 y172 M165 fun M174 => nm (p2 + (1 : Int32)) fun x178 => K2 p0 p1 x178 M174) (nm (p2 + (1 : Int32)) fun x180 => K2 p0 p1 x180 M165)) (nm (p2 + (1 : Int32)) fun x182 => K2 p0 p1 x182 M165))
def l_X5_become_2 (φ : fM → Prop) : Nat → Nat → Nat → Int32 → fM → Prop
  | 0, _, _, _, _ => False
  | n + 1, p0, p1, p2, M => b_X5_become_2 (l_X5_become_2 φ n) φ p0 p1 p2 M
set_option maxRecDepth 100000 in
theorem sb_X5_become_2 {g : GT} {d : Nat} (hd : 3 ≤ d + 1) {K2 : Nat → Nat → Int32 → fM → Prop} {φ : fM → Prop} (hK2 : ∀ (p0 : Nat) (p1 : Nat) (p2 : Int32) (M : fM), K2 p0 p1 p2 M → FW g mtX5_become (d + 1) 2 [(0, .ref p0), (1, .ref p1), (2, .int p2)] [] M 0 0 (rV φ)) {p0 : Nat} {p1 : Nat} {p2 : Int32} {M : fM} (h : b_X5_become_2 K2 φ p0 p1 p2 M) : FW g mtX5_become (d + 1) 2 [(0, .ref p0), (1, .ref p1), (2, .int p2)] [] M 0 0 (rV φ) := by
  unfold b_X5_become_2 at h
  refine fw_iload_n (i := 2) 2 rfl (show decode _ _ = .ok (.iload_n 2, 1) by decide +kernel) ?_
  refine fw_iconst (v := (4 : Int32)) (show decode _ _ = .ok (.iconst 4, 1) by decide +kernel) (by decide) ?_
  refine fw_icmp_ge 41 (show decode _ _ = .ok (.if_icmp .ge 37, 3) by decide +kernel) (by decide) (fun hc184 => ?_) (fun hc184 => ?_)
  · have h_1 := ipos hc184 h
    refine fw_aload_n (i := 1) 1 rfl (show decode _ _ = .ok (.aload_n 1, 1) by decide +kernel) ?_
    obtain ⟨⟨hr65, n64, hs66⟩, h_2⟩ := h_1
    refine fw_getP (kd := 5) (k := 1) (show decode _ _ = .ok (.getfield 17, 3) by decide +kernel) gf_X5_17 hr65 hs66 rfl ?_
    have h_3 := dR_e h_2
    obtain ⟨y67, hy68, h_4⟩ := h_3
    refine fw_deref hy68 ?_
    refine fw_aload_n (i := 0) 0 rfl (show decode _ _ = .ok (.aload_n 0, 1) by decide +kernel) ?_
    obtain ⟨⟨hr70, n69, hs71⟩, h_5⟩ := h_4
    refine fw_getP (kd := 5) (k := 1) (show decode _ _ = .ok (.getfield 17, 3) by decide +kernel) gf_X5_17 hr70 hs71 rfl ?_
    have h_6 := dR_e h_5
    obtain ⟨y72, hy73, h_7⟩ := h_6
    refine fw_deref hy73 ?_
    refine fw_callSN (mt' := mtX10_copy) (mc := 0) (ms := 0) (As := [.ref y67, .ref y72]) (rest := []) 2 "OneStepMore" (show decode _ _ = .ok (.invokestatic 135, 3) by decide +kernel) ns_X5_135 rfl (Nat.le_of_ble_eq_true rfl) (s_X10_copy (d := d) (hd_le hd (by decide)) h_7) (by decide) (by decide) (kV (bc' := 0) (bs' := 0) (by decide) (by decide) (fun M74 h_8 => ?_))
    refine fw_aload_n (i := 1) 1 rfl (show decode _ _ = .ok (.aload_n 1, 1) by decide +kernel) ?_
    obtain ⟨⟨hr76, n75, hs77⟩, h_9⟩ := h_8
    refine fw_getP (kd := 5) (k := 2) (show decode _ _ = .ok (.getfield 21, 3) by decide +kernel) gf_X5_21 hr76 hs77 rfl ?_
    have h_10 := dR_e h_9
    obtain ⟨y78, hy79, h_11⟩ := h_10
    refine fw_deref hy79 ?_
    refine fw_aload_n (i := 0) 0 rfl (show decode _ _ = .ok (.aload_n 0, 1) by decide +kernel) ?_
    obtain ⟨⟨hr81, n80, hs82⟩, h_12⟩ := h_11
    refine fw_getP (kd := 5) (k := 2) (show decode _ _ = .ok (.getfield 21, 3) by decide +kernel) gf_X5_21 hr81 hs82 rfl ?_
    have h_13 := dR_e h_12
    obtain ⟨y83, hy84, h_14⟩ := h_13
    refine fw_deref hy84 ?_
    refine fw_callSN (mt' := mtX10_copy) (mc := 0) (ms := 0) (As := [.ref y78, .ref y83]) (rest := []) 2 "OneStepMore" (show decode _ _ = .ok (.invokestatic 135, 3) by decide +kernel) ns_X5_135 rfl (Nat.le_of_ble_eq_true rfl) (s_X10_copy (d := d) (hd_le hd (by decide)) h_14) (by decide) (by decide) (kV (bc' := 0) (bs' := 0) (by decide) (by decide) (fun M85 h_15 => ?_))
    refine fw_aload_n (i := 1) 1 rfl (show decode _ _ = .ok (.aload_n 1, 1) by decide +kernel) ?_
    obtain ⟨⟨hr87, n86, hs88⟩, h_16⟩ := h_15
    refine fw_getP (kd := 5) (k := 3) (show decode _ _ = .ok (.getfield 24, 3) by decide +kernel) gf_X5_24 hr87 hs88 rfl ?_
    have h_17 := dR_e h_16
    obtain ⟨y89, hy90, h_18⟩ := h_17
    refine fw_deref hy90 ?_
    refine fw_aload_n (i := 0) 0 rfl (show decode _ _ = .ok (.aload_n 0, 1) by decide +kernel) ?_
    obtain ⟨⟨hr92, n91, hs93⟩, h_19⟩ := h_18
    refine fw_getP (kd := 5) (k := 3) (show decode _ _ = .ok (.getfield 24, 3) by decide +kernel) gf_X5_24 hr92 hs93 rfl ?_
    have h_20 := dR_e h_19
    obtain ⟨y94, hy95, h_21⟩ := h_20
    refine fw_deref hy95 ?_
    refine fw_callSN (mt' := mtX10_copy) (mc := 0) (ms := 0) (As := [.ref y89, .ref y94]) (rest := []) 2 "OneStepMore" (show decode _ _ = .ok (.invokestatic 135, 3) by decide +kernel) ns_X5_135 rfl (Nat.le_of_ble_eq_true rfl) (s_X10_copy (d := d) (hd_le hd (by decide)) h_21) (by decide) (by decide) (kV (bc' := 0) (bs' := 0) (by decide) (by decide) (fun M96 h_22 => ?_))
    refine fw_aload_n (i := 0) 0 rfl (show decode _ _ = .ok (.aload_n 0, 1) by decide +kernel) ?_
    refine fw_aload_n (i := 1) 1 rfl (show decode _ _ = .ok (.aload_n 1, 1) by decide +kernel) ?_
    obtain ⟨⟨hr98, n97, hs99⟩, h_23⟩ := h_22
    refine fw_getI (kd := 5) (k := 4) (show decode _ _ = .ok (.getfield 53, 3) by decide +kernel) gf_X5_53 hr98 hs99 (Or.inl rfl) ?_
    refine fw_nmI (fun x100 ex101 => ?_)
    have h_24 := h_23 x100 ex101
    obtain ⟨⟨hr103, n102, hs104⟩, h_25⟩ := h_24
    refine fw_putI (kd := 5) (k := 4) (show decode _ _ = .ok (.putfield 53, 3) by decide +kernel) ⟨gf_X5_53, _, rfl, Or.inl rfl⟩ hr103 hs104 rfl ?_
    refine FW.nmM (fun M105 eM106 => ?_)
    have h_26 := h_25 M105 eM106
    refine fw_aload_n (i := 0) 0 rfl (show decode _ _ = .ok (.aload_n 0, 1) by decide +kernel) ?_
    refine fw_aload_n (i := 1) 1 rfl (show decode _ _ = .ok (.aload_n 1, 1) by decide +kernel) ?_
    refine fw_getI (kd := 5) (k := 5) (show decode _ _ = .ok (.getfield 27, 3) by decide +kernel) gf_X5_27 hr98 (mSw_I eM106 hs99) (Or.inl rfl) ?_
    refine fw_nmI (fun x107 ex108 => ?_)
    have h_27 := h_26 x107 ex108
    refine fw_putI (kd := 5) (k := 5) (show decode _ _ = .ok (.putfield 27, 3) by decide +kernel) ⟨gf_X5_27, _, rfl, Or.inl rfl⟩ hr103 (mSw_I eM106 hs104) rfl ?_
    refine FW.nmM (fun M109 eM110 => ?_)
    have h_28 := h_27 M109 eM110
    refine fw_aload_n (i := 0) 0 rfl (show decode _ _ = .ok (.aload_n 0, 1) by decide +kernel) ?_
    refine fw_aload_n (i := 1) 1 rfl (show decode _ _ = .ok (.aload_n 1, 1) by decide +kernel) ?_
    refine fw_getI (kd := 5) (k := 6) (show decode _ _ = .ok (.getfield 109, 3) by decide +kernel) gf_X5_109 hr98 (mSw_I eM110 (mSw_I eM106 hs99)) (Or.inl rfl) ?_
    refine fw_nmI (fun x111 ex112 => ?_)
    have h_29 := h_28 x111 ex112
    refine fw_putI (kd := 5) (k := 6) (show decode _ _ = .ok (.putfield 109, 3) by decide +kernel) ⟨gf_X5_109, _, rfl, Or.inl rfl⟩ hr103 (mSw_I eM110 (mSw_I eM106 hs104)) rfl ?_
    refine FW.nmM (fun M113 eM114 => ?_)
    have h_30 := h_29 M113 eM114
    refine fw_aload_n (i := 1) 1 rfl (show decode _ _ = .ok (.aload_n 1, 1) by decide +kernel) ?_
    refine fw_getP (kd := 5) (k := 7) (show decode _ _ = .ok (.getfield 31, 3) by decide +kernel) gf_X5_31 hr98 (mSw_I eM114 (mSw_I eM110 (mSw_I eM106 hs99))) rfl ?_
    have h_31 := dR_e h_30
    obtain ⟨y115, hy116, h_32⟩ := h_31
    refine fw_deref hy116 ?_
    refine fw_aload_n (i := 0) 0 rfl (show decode _ _ = .ok (.aload_n 0, 1) by decide +kernel) ?_
    refine fw_getP (kd := 5) (k := 7) (show decode _ _ = .ok (.getfield 31, 3) by decide +kernel) gf_X5_31 hr103 (mSw_I eM114 (mSw_I eM110 (mSw_I eM106 hs104))) rfl ?_
    have h_33 := dR_e h_32
    obtain ⟨y117, hy118, h_34⟩ := h_33
    refine fw_deref hy118 ?_
    refine fw_callSN (mt' := mtX10_copy) (mc := 0) (ms := 0) (As := [.ref y115, .ref y117]) (rest := []) 2 "OneStepMore" (show decode _ _ = .ok (.invokestatic 135, 3) by decide +kernel) ns_X5_135 rfl (Nat.le_of_ble_eq_true rfl) (s_X10_copy (d := d) (hd_le hd (by decide)) h_34) (by decide) (by decide) (kV (bc' := 0) (bs' := 0) (by decide) (by decide) (fun M119 h_35 => ?_))
    refine fw_aload_n (i := 1) 1 rfl (show decode _ _ = .ok (.aload_n 1, 1) by decide +kernel) ?_
    obtain ⟨⟨hr121, n120, hs122⟩, h_36⟩ := h_35
    refine fw_getP (kd := 5) (k := 8) (show decode _ _ = .ok (.getfield 34, 3) by decide +kernel) gf_X5_34 hr121 hs122 rfl ?_
    have h_37 := dR_e h_36
    obtain ⟨y123, hy124, h_38⟩ := h_37
    refine fw_deref hy124 ?_
    refine fw_aload_n (i := 0) 0 rfl (show decode _ _ = .ok (.aload_n 0, 1) by decide +kernel) ?_
    obtain ⟨⟨hr126, n125, hs127⟩, h_39⟩ := h_38
    refine fw_getP (kd := 5) (k := 8) (show decode _ _ = .ok (.getfield 34, 3) by decide +kernel) gf_X5_34 hr126 hs127 rfl ?_
    have h_40 := dR_e h_39
    obtain ⟨y128, hy129, h_41⟩ := h_40
    refine fw_deref hy129 ?_
    refine fw_callSN (mt' := mtX10_copy) (mc := 0) (ms := 0) (As := [.ref y123, .ref y128]) (rest := []) 2 "OneStepMore" (show decode _ _ = .ok (.invokestatic 135, 3) by decide +kernel) ns_X5_135 rfl (Nat.le_of_ble_eq_true rfl) (s_X10_copy (d := d) (hd_le hd (by decide)) h_41) (by decide) (by decide) (kV (bc' := 0) (bs' := 0) (by decide) (by decide) (fun M130 h_42 => ?_))
    refine fw_aload_n (i := 0) 0 rfl (show decode _ _ = .ok (.aload_n 0, 1) by decide +kernel) ?_
    refine fw_aload_n (i := 1) 1 rfl (show decode _ _ = .ok (.aload_n 1, 1) by decide +kernel) ?_
    obtain ⟨⟨hr132, n131, hs133⟩, h_43⟩ := h_42
    refine fw_getI (kd := 5) (k := 9) (show decode _ _ = .ok (.getfield 112, 3) by decide +kernel) gf_X5_112 hr132 hs133 (Or.inl rfl) ?_
    refine fw_nmI (fun x134 ex135 => ?_)
    have h_44 := h_43 x134 ex135
    obtain ⟨⟨hr137, n136, hs138⟩, h_45⟩ := h_44
    refine fw_putI (kd := 5) (k := 9) (show decode _ _ = .ok (.putfield 112, 3) by decide +kernel) ⟨gf_X5_112, _, rfl, Or.inl rfl⟩ hr137 hs138 rfl ?_
    refine FW.nmM (fun M139 eM140 => ?_)
    have h_46 := h_45 M139 eM140
    refine fw_aload_n (i := 1) 1 rfl (show decode _ _ = .ok (.aload_n 1, 1) by decide +kernel) ?_
    refine fw_getP (kd := 5) (k := 10) (show decode _ _ = .ok (.getfield 37, 3) by decide +kernel) gf_X5_37 hr132 (mSw_I eM140 hs133) rfl ?_
    have h_47 := dR_e h_46
    obtain ⟨y141, hy142, h_48⟩ := h_47
    refine fw_deref hy142 ?_
    refine fw_aload_n (i := 0) 0 rfl (show decode _ _ = .ok (.aload_n 0, 1) by decide +kernel) ?_
    refine fw_getP (kd := 5) (k := 10) (show decode _ _ = .ok (.getfield 37, 3) by decide +kernel) gf_X5_37 hr137 (mSw_I eM140 hs138) rfl ?_
    have h_49 := dR_e h_48
    obtain ⟨y143, hy144, h_50⟩ := h_49
    refine fw_deref hy144 ?_
    refine fw_callSN (mt' := mtX10_copy) (mc := 0) (ms := 0) (As := [.ref y141, .ref y143]) (rest := []) 2 "OneStepMore" (show decode _ _ = .ok (.invokestatic 135, 3) by decide +kernel) ns_X5_135 rfl (Nat.le_of_ble_eq_true rfl) (s_X10_copy (d := d) (hd_le hd (by decide)) h_50) (by decide) (by decide) (kV (bc' := 0) (bs' := 0) (by decide) (by decide) (fun M145 h_51 => ?_))
    refine fw_aload_n (i := 0) 0 rfl (show decode _ _ = .ok (.aload_n 0, 1) by decide +kernel) ?_
    refine fw_aload_n (i := 1) 1 rfl (show decode _ _ = .ok (.aload_n 1, 1) by decide +kernel) ?_
    obtain ⟨⟨hr147, n146, hs148⟩, h_52⟩ := h_51
    refine fw_getI (kd := 5) (k := 11) (show decode _ _ = .ok (.getfield 115, 3) by decide +kernel) gf_X5_115 hr147 hs148 (Or.inl rfl) ?_
    refine fw_nmI (fun x149 ex150 => ?_)
    have h_53 := h_52 x149 ex150
    obtain ⟨⟨hr152, n151, hs153⟩, h_54⟩ := h_53
    refine fw_putI (kd := 5) (k := 11) (show decode _ _ = .ok (.putfield 115, 3) by decide +kernel) ⟨gf_X5_115, _, rfl, Or.inl rfl⟩ hr152 hs153 rfl ?_
    refine FW.nmM (fun M154 eM155 => ?_)
    have h_55 := h_54 M154 eM155
    refine fw_aload_n (i := 0) 0 rfl (show decode _ _ = .ok (.aload_n 0, 1) by decide +kernel) ?_
    refine fw_aload_n (i := 1) 1 rfl (show decode _ _ = .ok (.aload_n 1, 1) by decide +kernel) ?_
    refine fw_getI (kd := 5) (k := 12) (show decode _ _ = .ok (.getfield 106, 3) by decide +kernel) gf_X5_106 hr147 (mSw_I eM155 hs148) (Or.inl rfl) ?_
    refine fw_nmI (fun x156 ex157 => ?_)
    have h_56 := h_55 x156 ex157
    refine fw_putI (kd := 5) (k := 12) (show decode _ _ = .ok (.putfield 106, 3) by decide +kernel) ⟨gf_X5_106, _, rfl, Or.inl rfl⟩ hr152 (mSw_I eM155 hs153) rfl ?_
    refine FW.nmM (fun M158 eM159 => ?_)
    have h_57 := h_56 M158 eM159
    refine fw_iconst (v := (0 : Int32)) (show decode _ _ = .ok (.iconst 0, 1) by decide +kernel) (by decide) ?_
    refine fw_istore_n (i := 2) (ls' := [(2, .int (0 : Int32)), (0, .ref p0), (1, .ref p1)]) (show decode _ _ = .ok (.istore_n 2, 1) by decide +kernel) (by decide) rfl ?_
    refine FW.sub [1, 2, 0] (ls' := [(0, .ref p0), (1, .ref p1), (2, .int (0 : Int32))]) rfl ?_
    obtain ⟨nn, h_58⟩ := h_57
    exact sl_X5_become_157 hd nn h_58
  · have h_59 := ineg hc184 h
    refine fw_aload_n (i := 0) 0 rfl (show decode _ _ = .ok (.aload_n 0, 1) by decide +kernel) ?_
    refine fw_iload_n (i := 2) 2 rfl (show decode _ _ = .ok (.iload_n 2, 1) by decide +kernel) ?_
    obtain ⟨⟨hr162, n161, hs163⟩, h_60⟩ := h_59
    refine fw_callV (mt' := mtX5_houseOf) (mc := 0) (ms := 0) (As := [.int p2]) (rest := []) 1 5 n161 (show decode _ _ = .ok (.invokevirtual 59, 3) by decide +kernel) cv_X5_59 ⟨_, rfl, rfl⟩ hr162 hs163 rfl (Nat.le_of_ble_eq_true rfl) (s_X5_houseOf (d := d) (hd_le hd (by decide)) h_60) (by decide) (by decide) (kP (bc' := 0) (bs' := 0) (by decide) (by decide) (fun o164 M160 h_61 => ?_))
    refine fw_astoreq_n (i := 3) (ls' := [(3, fr o164), (0, .ref p0), (1, .ref p1), (2, .int p2)]) (show decode _ _ = .ok (.astore_n 3, 1) by decide +kernel) (by decide) rfl ?_
    refine fw_aload_n (i := 1) 2 rfl (show decode _ _ = .ok (.aload_n 1, 1) by decide +kernel) ?_
    refine fw_iload_n (i := 2) 3 rfl (show decode _ _ = .ok (.iload_n 2, 1) by decide +kernel) ?_
    obtain ⟨⟨hr167, n166, hs168⟩, h_62⟩ := h_61
    refine fw_callV (mt' := mtX5_houseOf) (mc := 0) (ms := 0) (As := [.int p2]) (rest := []) 1 5 n166 (show decode _ _ = .ok (.invokevirtual 59, 3) by decide +kernel) cv_X5_59 ⟨_, rfl, rfl⟩ hr167 hs168 rfl (Nat.le_of_ble_eq_true rfl) (s_X5_houseOf (d := d) (hd_le hd (by decide)) h_62) (by decide) (by decide) (kP (bc' := 0) (bs' := 0) (by decide) (by decide) (fun o169 M165 h_63 => ?_))
    refine fw_astoreq (i := 4) (ls' := [(4, fr o169), (3, fr o164), (0, .ref p0), (1, .ref p1), (2, .int p2)]) (show decode _ _ = .ok (.astore 4, 2) by decide +kernel) (by decide) (by cases o164 <;> rfl) ?_
    refine fw_aloadq_n (i := 3) 1 rfl (show decode _ _ = .ok (.aload_n 3, 1) by decide +kernel) ?_
    refine fw_ifnull (x := o164) 35 (show decode _ _ = .ok (.ifnull 14, 3) by decide +kernel) (by decide) (fun hy171 => ?_) (fun y170 hy171 => ?_)
    · have h_64 := gN_n hy171 h_63
      subst hy171
      obtain ⟨x182, ex183⟩ : ∃ y : Int32, y = p2 + (1 : Int32) := ⟨_, rfl⟩
      have h_65 := h_64 x182 ex183
      refine fw_iinc (i := 2) (x := p2) (v := x182) (ls' := [(2, .int x182), (4, fr o169), (3, fr none), (0, .ref p0), (1, .ref p1)]) 4 rfl (show decode _ _ = .ok (.iinc 2 1, 3) by decide +kernel) (by rw [ex183]; rfl) (by decide) rfl ?_
      refine fw_goto 2 (show decode _ _ = .ok (.goto (-36), 3) by decide +kernel) (by decide) ?_
      refine FW.sub [3, 4, 0] (ls' := [(0, .ref p0), (1, .ref p1), (2, .int x182)]) rfl ?_
      exact hK2 _ _ _ _ h_65
    · have h_66 := gN_s hy171 h_63
      subst hy171
      refine fw_aloadq (i := 4) 0 rfl (show decode _ _ = .ok (.aload 4, 2) by decide +kernel) ?_
      refine fw_ifnull (x := o169) 35 (show decode _ _ = .ok (.ifnull 9, 3) by decide +kernel) (by decide) (fun hy173 => ?_) (fun y172 hy173 => ?_)
      · have h_67 := gN_n hy173 h_66
        subst hy173
        obtain ⟨x180, ex181⟩ : ∃ y : Int32, y = p2 + (1 : Int32) := ⟨_, rfl⟩
        have h_68 := h_67 x180 ex181
        refine fw_iinc (i := 2) (x := p2) (v := x180) (ls' := [(2, .int x180), (4, fr none), (3, .ref y170), (0, .ref p0), (1, .ref p1)]) 4 rfl (show decode _ _ = .ok (.iinc 2 1, 3) by decide +kernel) (by rw [ex181]; rfl) (by decide) rfl ?_
        refine fw_goto 2 (show decode _ _ = .ok (.goto (-36), 3) by decide +kernel) (by decide) ?_
        refine FW.sub [3, 4, 0] (ls' := [(0, .ref p0), (1, .ref p1), (2, .int x180)]) rfl ?_
        exact hK2 _ _ _ _ h_68
      · have h_69 := gN_s hy173 h_66
        subst hy173
        refine fw_aload_n (i := 3) 1 rfl (show decode _ _ = .ok (.aload_n 3, 1) by decide +kernel) ?_
        refine fw_aload (i := 4) 0 rfl (show decode _ _ = .ok (.aload 4, 2) by decide +kernel) ?_
        obtain ⟨⟨hr176, n175, hs177⟩, h_70⟩ := h_69
        refine fw_callV (mt' := mtX0_become) (mc := 0) (ms := 0) (As := [.ref y172]) (rest := []) 1 0 n175 (show decode _ _ = .ok (.invokevirtual 131, 3) by decide +kernel) cv_X5_131 ⟨_, rfl, rfl⟩ hr176 hs177 rfl (Nat.le_of_ble_eq_true rfl) (s_X0_become (d := d) (hd_le hd (by decide)) h_70) (by decide) (by decide) (kV (bc' := 0) (bs' := 0) (by decide) (by decide) (fun M174 h_71 => ?_))
        obtain ⟨x178, ex179⟩ : ∃ y : Int32, y = p2 + (1 : Int32) := ⟨_, rfl⟩
        have h_72 := h_71 x178 ex179
        refine fw_iinc (i := 2) (x := p2) (v := x178) (ls' := [(2, .int x178), (4, .ref y172), (3, .ref y170), (0, .ref p0), (1, .ref p1)]) 4 rfl (show decode _ _ = .ok (.iinc 2 1, 3) by decide +kernel) (by rw [ex179]; rfl) (by decide) rfl ?_
        refine fw_goto 2 (show decode _ _ = .ok (.goto (-36), 3) by decide +kernel) (by decide) ?_
        refine FW.sub [3, 4, 0] (ls' := [(0, .ref p0), (1, .ref p1), (2, .int x178)]) rfl ?_
        exact hK2 _ _ _ _ h_72
theorem sl_X5_become_2 {g : GT} {d : Nat} (hd : 3 ≤ d + 1) {φ : fM → Prop} : ∀ (n : Nat) {p0 : Nat} {p1 : Nat} {p2 : Int32} {M : fM}, l_X5_become_2 φ n p0 p1 p2 M → FW g mtX5_become (d + 1) 2 [(0, .ref p0), (1, .ref p1), (2, .int p2)] [] M 0 0 (rV φ)
  | 0 => fun h => h.elim
  | n + 1 => fun h => sb_X5_become_2 hd (fun _ _ _ _ h => sl_X5_become_2 hd n h) h
def w_X5_become (p0 : Nat) (p1 : Nat) (M : fM) (φ : fM → Prop) : Prop := ∃ n, l_X5_become_2 φ n p0 p1 (0 : Int32) M
set_option maxRecDepth 100000 in
theorem s_X5_become {g : GT} {d : Nat} (hd : 3 ≤ d) {p0 : Nat} {p1 : Nat} {M : fM} {φ : fM → Prop} (h : w_X5_become p0 p1 M φ) : FC g mtX5_become d [.ref p0, .ref p1] M 0 0 (rV φ) := by
  obtain ⟨d, rfl⟩ : ∃ e, d = e + 1 := ⟨d - 1, by omega⟩
  unfold w_X5_become at h
  refine FC.intro (nL := 5) (by decide) rfl (Nat.le_of_ble_eq_true rfl) ?_
  show FW g mtX5_become (d + 1) 0 [(0, .ref p0), (1, .ref p1)] [] M 0 0 (rV φ)
  refine fw_iconst (v := (0 : Int32)) (show decode _ _ = .ok (.iconst 0, 1) by decide +kernel) (by decide) ?_
  refine fw_istore_n (i := 2) (ls' := [(2, .int (0 : Int32)), (0, .ref p0), (1, .ref p1)]) (show decode _ _ = .ok (.istore_n 2, 1) by decide +kernel) (by decide) rfl ?_
  refine FW.sub [1, 2, 0] (ls' := [(0, .ref p0), (1, .ref p1), (2, .int (0 : Int32))]) rfl ?_
  obtain ⟨nn, h_1⟩ := h
  exact sl_X5_become_2 hd nn h_1
def w_X10_back (p0 : Nat) (M : fM) (φ : Int32 → fM → Prop) : Prop := isO M p0 10 ∧ dR (mP M p0 0) fun y4 => dR (mP M p0 1) fun y6 => isO M y4 5 ∧ w_X5_become y4 y6 M fun M8 => isO M8 p0 10 ∧ dR (mP M8 p0 0) fun y15 => isO M8 y15 5 ∧ φ (mI M8 y15 6) M8
set_option maxRecDepth 100000 in
theorem s_X10_back {g : GT} {d : Nat} (hd : 4 ≤ d) {p0 : Nat} {M : fM} {φ : Int32 → fM → Prop} (h : w_X10_back p0 M φ) : FC g mtX10_back d [.ref p0] M 0 0 (rI φ) := by
  obtain ⟨d, rfl⟩ : ∃ e, d = e + 1 := ⟨d - 1, by omega⟩
  unfold w_X10_back at h
  refine FC.intro (nL := 1) (by decide) rfl (Nat.le_of_ble_eq_true rfl) ?_
  show FW g mtX10_back (d + 1) 0 [(0, .ref p0)] [] M 0 0 (rI φ)
  refine fw_aload_n (i := 0) 0 rfl (show decode _ _ = .ok (.aload_n 0, 1) by decide +kernel) ?_
  obtain ⟨⟨hr2, n1, hs3⟩, h_1⟩ := h
  refine fw_getP (kd := 10) (k := 0) (show decode _ _ = .ok (.getfield 13, 3) by decide +kernel) gf_X10_13 hr2 hs3 rfl ?_
  have h_2 := dR_e h_1
  obtain ⟨y4, hy5, h_3⟩ := h_2
  refine fw_deref hy5 ?_
  refine fw_aload_n (i := 0) 0 rfl (show decode _ _ = .ok (.aload_n 0, 1) by decide +kernel) ?_
  refine fw_getP (kd := 10) (k := 1) (show decode _ _ = .ok (.getfield 19, 3) by decide +kernel) gf_X10_19 hr2 hs3 rfl ?_
  have h_4 := dR_e h_3
  obtain ⟨y6, hy7, h_5⟩ := h_4
  refine fw_deref hy7 ?_
  obtain ⟨⟨hr10, n9, hs11⟩, h_6⟩ := h_5
  refine fw_callV (mt' := mtX5_become) (mc := 0) (ms := 0) (As := [.ref y6]) (rest := []) 1 5 n9 (show decode _ _ = .ok (.invokevirtual 272, 3) by decide +kernel) cv_X10_272 ⟨_, rfl, rfl⟩ hr10 hs11 rfl (Nat.le_of_ble_eq_true rfl) (s_X5_become (d := d) (hd_le hd (by decide)) h_6) (by decide) (by decide) (kV (bc' := 0) (bs' := 0) (by decide) (by decide) (fun M8 h_7 => ?_))
  refine fw_aload_n (i := 0) 0 rfl (show decode _ _ = .ok (.aload_n 0, 1) by decide +kernel) ?_
  obtain ⟨⟨hr13, n12, hs14⟩, h_8⟩ := h_7
  refine fw_getP (kd := 10) (k := 0) (show decode _ _ = .ok (.getfield 13, 3) by decide +kernel) gf_X10_13 hr13 hs14 rfl ?_
  have h_9 := dR_e h_8
  obtain ⟨y15, hy16, h_10⟩ := h_9
  refine fw_deref hy16 ?_
  obtain ⟨⟨hr18, n17, hs19⟩, h_11⟩ := h_10
  refine fw_getI (kd := 5) (k := 6) (show decode _ _ = .ok (.getfield 147, 3) by decide +kernel) gf_X10_147 hr18 hs19 (Or.inl rfl) ?_
  exact fw_ret (v := some (.int (mI M8 y15 6))) .ireturn (show decode _ _ = .ok (.ireturn, 1) by decide +kernel) ⟨rfl, Or.inl rfl⟩ ⟨_, rfl, h_11⟩
def j_X5_remember_105 (φ : fM → Prop) (p0 : Nat) (s0 : Int32) (s1 : Nat) (M : fM) : Prop := isO M s1 5 ∧ st (wI M s1 12 s0) fun M4 => isO M4 p0 5 ∧ nm (imin (30 : Int32) ((mI M4 p0 11) + (1 : Int32))) fun x9 => st (wI M4 p0 11 x9) fun M11 => φ M11
set_option maxRecDepth 100000 in
theorem sj_X5_remember_105 {g : GT} {d : Nat} (hd : 2 ≤ d + 1) {φ : fM → Prop} {p0 : Nat} {s0 : Int32} {s1 : Nat} {M : fM} (h : j_X5_remember_105 φ p0 s0 s1 M) : FW g mtX5_remember (d + 1) 105 [(0, .ref p0)] [.int s0, .ref s1] M 0 0 (rV φ) := by
  unfold j_X5_remember_105 at h
  obtain ⟨⟨hr2, n1, hs3⟩, h_1⟩ := h
  refine fw_putI (kd := 5) (k := 12) (show decode _ _ = .ok (.putfield 106, 3) by decide +kernel) ⟨gf_X5_106, _, rfl, Or.inl rfl⟩ hr2 hs3 rfl ?_
  refine FW.nmM (fun M4 eM5 => ?_)
  have h_2 := h_1 M4 eM5
  refine fw_aload_n (i := 0) 0 rfl (show decode _ _ = .ok (.aload_n 0, 1) by decide +kernel) ?_
  refine fw_bipush (v := (30 : Int32)) (show decode _ _ = .ok (.bipush 30, 2) by decide +kernel) (by decide) ?_
  refine fw_aload_n (i := 0) 0 rfl (show decode _ _ = .ok (.aload_n 0, 1) by decide +kernel) ?_
  obtain ⟨⟨hr7, n6, hs8⟩, h_3⟩ := h_2
  refine fw_getI (kd := 5) (k := 11) (show decode _ _ = .ok (.getfield 115, 3) by decide +kernel) gf_X5_115 hr7 hs8 (Or.inl rfl) ?_
  refine fw_iconst (v := (1 : Int32)) (show decode _ _ = .ok (.iconst 1, 1) by decide +kernel) (by decide) ?_
  refine fw_iadd (show decode _ _ = .ok (.iadd, 1) by decide +kernel) ?_
  refine fw_mmin (idx := 118) (rest := [.ref p0]) (show decode _ _ = .ok (.invokestatic 118, 3) by decide +kernel) ⟨wd862, wd641, wd142, wd642⟩ (Nat.le_of_ble_eq_true rfl) ?_
  refine fw_nmI (fun x9 ex10 => ?_)
  have h_4 := h_3 x9 ex10
  refine fw_putI (kd := 5) (k := 11) (show decode _ _ = .ok (.putfield 115, 3) by decide +kernel) ⟨gf_X5_115, _, rfl, Or.inl rfl⟩ hr7 hs8 rfl ?_
  refine FW.nmM (fun M11 eM12 => ?_)
  have h_5 := h_4 M11 eM12
  exact fw_ret (v := none) .return_ (show decode _ _ = .ok (.return_, 1) by decide +kernel) ⟨rfl, rfl⟩ ⟨rfl, h_5⟩
def b_X5_remember_10 (K10 : Nat → Int32 → Int32 → fM → Prop) (φ : fM → Prop) (p0 : Nat) (p1 : Int32) (p2 : Int32) (M : fM) : Prop := iF ((8 : Int32) ≤ p2) (isO M p0 5 ∧ dR (mP M p0 10) fun y16 => w_X10_put y16 (p1 + (8 : Int32)) (mI M p0 6) M fun M18 => isO M18 p0 5 ∧ dR (mP M18 p0 10) fun y22 => w_X10_put y22 (p1 + (9 : Int32)) (mI M18 p0 5) M18 fun M24 => isO M24 p0 5 ∧ dR (mP M24 p0 10) fun y28 => w_X10_put y28 (p1 + (10 : Int32)) (mI M24 p0 9) M24 fun M30 => isO M30 p0 5 ∧ iF ((30 : Int32) ≤ ((mI M30 p0 12) + (1 : Int32))) (j_X5_remember_105 φ p0 (0 : Int32) p0 M30) (j_X5_remember_105 φ p0 ((mI M30 p0 12) + (1 : Int32)) p0 M30)) (isO M p0 5 ∧ dR (mP M p0 10) fun y38 => dR (mP M p0 7) fun y40 => inA M y40 12 p2 ∧ w_X10_put y38 (p1 + p2) (mI M y40 (ix p2)) M fun M45 => nm (p2 + (1 : Int32)) fun x46 => K10 p0 p1 x46 M45)
def l_X5_remember_10 (φ : fM → Prop) : Nat → Nat → Int32 → Int32 → fM → Prop
  | 0, _, _, _, _ => False
  | n + 1, p0, p1, p2, M => b_X5_remember_10 (l_X5_remember_10 φ n) φ p0 p1 p2 M
set_option maxRecDepth 100000 in
theorem sb_X5_remember_10 {g : GT} {d : Nat} (hd : 2 ≤ d + 1) {K10 : Nat → Int32 → Int32 → fM → Prop} {φ : fM → Prop} (hK10 : ∀ (p0 : Nat) (p1 : Int32) (p2 : Int32) (M : fM), K10 p0 p1 p2 M → FW g mtX5_remember (d + 1) 10 [(0, .ref p0), (1, .int p1), (2, .int p2)] [] M 0 0 (rV φ)) {p0 : Nat} {p1 : Int32} {p2 : Int32} {M : fM} (h : b_X5_remember_10 K10 φ p0 p1 p2 M) : FW g mtX5_remember (d + 1) 10 [(0, .ref p0), (1, .int p1), (2, .int p2)] [] M 0 0 (rV φ) := by
  unfold b_X5_remember_10 at h
  refine fw_iload_n (i := 2) 2 rfl (show decode _ _ = .ok (.iload_n 2, 1) by decide +kernel) ?_
  refine fw_bipush (v := (8 : Int32)) (show decode _ _ = .ok (.bipush 8, 2) by decide +kernel) (by decide) ?_
  refine fw_icmp_ge 38 (show decode _ _ = .ok (.if_icmp .ge 25, 3) by decide +kernel) (by decide) (fun hc48 => ?_) (fun hc48 => ?_)
  · have h_1 := ipos hc48 h
    refine fw_aload_n (i := 0) 0 rfl (show decode _ _ = .ok (.aload_n 0, 1) by decide +kernel) ?_
    obtain ⟨⟨hr14, n13, hs15⟩, h_2⟩ := h_1
    refine fw_getP (kd := 5) (k := 10) (show decode _ _ = .ok (.getfield 37, 3) by decide +kernel) gf_X5_37 hr14 hs15 rfl ?_
    have h_3 := dR_e h_2
    obtain ⟨y16, hy17, h_4⟩ := h_3
    refine fw_deref hy17 ?_
    refine fw_iload_n (i := 1) 1 rfl (show decode _ _ = .ok (.iload_n 1, 1) by decide +kernel) ?_
    refine fw_bipush (v := (8 : Int32)) (show decode _ _ = .ok (.bipush 8, 2) by decide +kernel) (by decide) ?_
    refine fw_iadd (show decode _ _ = .ok (.iadd, 1) by decide +kernel) ?_
    refine fw_aload_n (i := 0) 0 rfl (show decode _ _ = .ok (.aload_n 0, 1) by decide +kernel) ?_
    refine fw_getI (kd := 5) (k := 6) (show decode _ _ = .ok (.getfield 109, 3) by decide +kernel) gf_X5_109 hr14 hs15 (Or.inl rfl) ?_
    refine fw_callSN (mt' := mtX10_put) (mc := 0) (ms := 0) (As := [.ref y16, .int (p1 + (8 : Int32)), .int (mI M p0 6)]) (rest := []) 3 "OneStepMore" (show decode _ _ = .ok (.invokestatic 82, 3) by decide +kernel) ns_X5_82 rfl (Nat.le_of_ble_eq_true rfl) (s_X10_put (d := d) (hd_le hd (by decide)) h_4) (by decide) (by decide) (kV (bc' := 0) (bs' := 0) (by decide) (by decide) (fun M18 h_5 => ?_))
    refine fw_aload_n (i := 0) 0 rfl (show decode _ _ = .ok (.aload_n 0, 1) by decide +kernel) ?_
    obtain ⟨⟨hr20, n19, hs21⟩, h_6⟩ := h_5
    refine fw_getP (kd := 5) (k := 10) (show decode _ _ = .ok (.getfield 37, 3) by decide +kernel) gf_X5_37 hr20 hs21 rfl ?_
    have h_7 := dR_e h_6
    obtain ⟨y22, hy23, h_8⟩ := h_7
    refine fw_deref hy23 ?_
    refine fw_iload_n (i := 1) 1 rfl (show decode _ _ = .ok (.iload_n 1, 1) by decide +kernel) ?_
    refine fw_bipush (v := (9 : Int32)) (show decode _ _ = .ok (.bipush 9, 2) by decide +kernel) (by decide) ?_
    refine fw_iadd (show decode _ _ = .ok (.iadd, 1) by decide +kernel) ?_
    refine fw_aload_n (i := 0) 0 rfl (show decode _ _ = .ok (.aload_n 0, 1) by decide +kernel) ?_
    refine fw_getI (kd := 5) (k := 5) (show decode _ _ = .ok (.getfield 27, 3) by decide +kernel) gf_X5_27 hr20 hs21 (Or.inl rfl) ?_
    refine fw_callSN (mt' := mtX10_put) (mc := 0) (ms := 0) (As := [.ref y22, .int (p1 + (9 : Int32)), .int (mI M18 p0 5)]) (rest := []) 3 "OneStepMore" (show decode _ _ = .ok (.invokestatic 82, 3) by decide +kernel) ns_X5_82 rfl (Nat.le_of_ble_eq_true rfl) (s_X10_put (d := d) (hd_le hd (by decide)) h_8) (by decide) (by decide) (kV (bc' := 0) (bs' := 0) (by decide) (by decide) (fun M24 h_9 => ?_))
    refine fw_aload_n (i := 0) 0 rfl (show decode _ _ = .ok (.aload_n 0, 1) by decide +kernel) ?_
    obtain ⟨⟨hr26, n25, hs27⟩, h_10⟩ := h_9
    refine fw_getP (kd := 5) (k := 10) (show decode _ _ = .ok (.getfield 37, 3) by decide +kernel) gf_X5_37 hr26 hs27 rfl ?_
    have h_11 := dR_e h_10
    obtain ⟨y28, hy29, h_12⟩ := h_11
    refine fw_deref hy29 ?_
    refine fw_iload_n (i := 1) 1 rfl (show decode _ _ = .ok (.iload_n 1, 1) by decide +kernel) ?_
    refine fw_bipush (v := (10 : Int32)) (show decode _ _ = .ok (.bipush 10, 2) by decide +kernel) (by decide) ?_
    refine fw_iadd (show decode _ _ = .ok (.iadd, 1) by decide +kernel) ?_
    refine fw_aload_n (i := 0) 0 rfl (show decode _ _ = .ok (.aload_n 0, 1) by decide +kernel) ?_
    refine fw_getI (kd := 5) (k := 9) (show decode _ _ = .ok (.getfield 112, 3) by decide +kernel) gf_X5_112 hr26 hs27 (Or.inl rfl) ?_
    refine fw_callSN (mt' := mtX10_put) (mc := 0) (ms := 0) (As := [.ref y28, .int (p1 + (10 : Int32)), .int (mI M24 p0 9)]) (rest := []) 3 "OneStepMore" (show decode _ _ = .ok (.invokestatic 82, 3) by decide +kernel) ns_X5_82 rfl (Nat.le_of_ble_eq_true rfl) (s_X10_put (d := d) (hd_le hd (by decide)) h_12) (by decide) (by decide) (kV (bc' := 0) (bs' := 0) (by decide) (by decide) (fun M30 h_13 => ?_))
    refine fw_aload_n (i := 0) 0 rfl (show decode _ _ = .ok (.aload_n 0, 1) by decide +kernel) ?_
    refine fw_aload_n (i := 0) 0 rfl (show decode _ _ = .ok (.aload_n 0, 1) by decide +kernel) ?_
    obtain ⟨⟨hr32, n31, hs33⟩, h_14⟩ := h_13
    refine fw_getI (kd := 5) (k := 12) (show decode _ _ = .ok (.getfield 106, 3) by decide +kernel) gf_X5_106 hr32 hs33 (Or.inl rfl) ?_
    refine fw_iconst (v := (1 : Int32)) (show decode _ _ = .ok (.iconst 1, 1) by decide +kernel) (by decide) ?_
    refine fw_iadd (show decode _ _ = .ok (.iadd, 1) by decide +kernel) ?_
    refine fw_bipush (v := (30 : Int32)) (show decode _ _ = .ok (.bipush 30, 2) by decide +kernel) (by decide) ?_
    refine fw_icmp_ge 104 (show decode _ _ = .ok (.if_icmp .ge 12, 3) by decide +kernel) (by decide) (fun hc34 => ?_) (fun hc34 => ?_)
    · have h_15 := ipos hc34 h_14
      refine fw_iconst (v := (0 : Int32)) (show decode _ _ = .ok (.iconst 0, 1) by decide +kernel) (by decide) ?_
      refine FW.sub [0] (ls' := [(0, .ref p0)]) rfl ?_
      exact sj_X5_remember_105 hd h_15
    · have h_16 := ineg hc34 h_14
      refine fw_aload_n (i := 0) 0 rfl (show decode _ _ = .ok (.aload_n 0, 1) by decide +kernel) ?_
      refine fw_getI (kd := 5) (k := 12) (show decode _ _ = .ok (.getfield 106, 3) by decide +kernel) gf_X5_106 hr32 hs33 (Or.inl rfl) ?_
      refine fw_iconst (v := (1 : Int32)) (show decode _ _ = .ok (.iconst 1, 1) by decide +kernel) (by decide) ?_
      refine fw_iadd (show decode _ _ = .ok (.iadd, 1) by decide +kernel) ?_
      refine fw_goto 105 (show decode _ _ = .ok (.goto 4, 3) by decide +kernel) (by decide) ?_
      refine FW.sub [0] (ls' := [(0, .ref p0)]) rfl ?_
      exact sj_X5_remember_105 hd h_16
  · have h_17 := ineg hc48 h
    refine fw_aload_n (i := 0) 0 rfl (show decode _ _ = .ok (.aload_n 0, 1) by decide +kernel) ?_
    obtain ⟨⟨hr36, n35, hs37⟩, h_18⟩ := h_17
    refine fw_getP (kd := 5) (k := 10) (show decode _ _ = .ok (.getfield 37, 3) by decide +kernel) gf_X5_37 hr36 hs37 rfl ?_
    have h_19 := dR_e h_18
    obtain ⟨y38, hy39, h_20⟩ := h_19
    refine fw_deref hy39 ?_
    refine fw_iload_n (i := 1) 1 rfl (show decode _ _ = .ok (.iload_n 1, 1) by decide +kernel) ?_
    refine fw_iload_n (i := 2) 2 rfl (show decode _ _ = .ok (.iload_n 2, 1) by decide +kernel) ?_
    refine fw_iadd (show decode _ _ = .ok (.iadd, 1) by decide +kernel) ?_
    refine fw_aload_n (i := 0) 0 rfl (show decode _ _ = .ok (.aload_n 0, 1) by decide +kernel) ?_
    refine fw_getP (kd := 5) (k := 7) (show decode _ _ = .ok (.getfield 31, 3) by decide +kernel) gf_X5_31 hr36 hs37 rfl ?_
    have h_21 := dR_e h_20
    obtain ⟨y40, hy41, h_22⟩ := h_21
    refine fw_deref hy41 ?_
    refine fw_iload_n (i := 2) 2 rfl (show decode _ _ = .ok (.iload_n 2, 1) by decide +kernel) ?_
    obtain ⟨⟨n42, hs43, hi44⟩, h_23⟩ := h_22
    refine fw_iald (show decode _ _ = .ok (.iaload, 1) by decide +kernel) hs43 hi44 ?_
    refine fw_callSN (mt' := mtX10_put) (mc := 0) (ms := 0) (As := [.ref y38, .int (p1 + p2), .int (mI M y40 (ix p2))]) (rest := []) 3 "OneStepMore" (show decode _ _ = .ok (.invokestatic 82, 3) by decide +kernel) ns_X5_82 rfl (Nat.le_of_ble_eq_true rfl) (s_X10_put (d := d) (hd_le hd (by decide)) h_23) (by decide) (by decide) (kV (bc' := 0) (bs' := 0) (by decide) (by decide) (fun M45 h_24 => ?_))
    obtain ⟨x46, ex47⟩ : ∃ y : Int32, y = p2 + (1 : Int32) := ⟨_, rfl⟩
    have h_25 := h_24 x46 ex47
    refine fw_iinc (i := 2) (x := p2) (v := x46) (ls' := [(2, .int x46), (0, .ref p0), (1, .int p1)]) 2 rfl (show decode _ _ = .ok (.iinc 2 1, 3) by decide +kernel) (by rw [ex47]; rfl) (by decide) rfl ?_
    refine fw_goto 10 (show decode _ _ = .ok (.goto (-25), 3) by decide +kernel) (by decide) ?_
    refine FW.sub [1, 2, 0] (ls' := [(0, .ref p0), (1, .int p1), (2, .int x46)]) rfl ?_
    exact hK10 _ _ _ _ h_25
theorem sl_X5_remember_10 {g : GT} {d : Nat} (hd : 2 ≤ d + 1) {φ : fM → Prop} : ∀ (n : Nat) {p0 : Nat} {p1 : Int32} {p2 : Int32} {M : fM}, l_X5_remember_10 φ n p0 p1 p2 M → FW g mtX5_remember (d + 1) 10 [(0, .ref p0), (1, .int p1), (2, .int p2)] [] M 0 0 (rV φ)
  | 0 => fun h => h.elim
  | n + 1 => fun h => sb_X5_remember_10 hd (fun _ _ _ _ h => sl_X5_remember_10 hd n h) h
def w_X5_remember (p0 : Nat) (M : fM) (φ : fM → Prop) : Prop := isO M p0 5 ∧ nm ((mI M p0 12) * (11 : Int32)) fun x52 => ∃ n, l_X5_remember_10 φ n p0 x52 (0 : Int32) M
set_option maxRecDepth 100000 in
theorem s_X5_remember {g : GT} {d : Nat} (hd : 2 ≤ d) {p0 : Nat} {M : fM} {φ : fM → Prop} (h : w_X5_remember p0 M φ) : FC g mtX5_remember d [.ref p0] M 0 0 (rV φ) := by
  obtain ⟨d, rfl⟩ : ∃ e, d = e + 1 := ⟨d - 1, by omega⟩
  unfold w_X5_remember at h
  refine FC.intro (nL := 3) (by decide) rfl (Nat.le_of_ble_eq_true rfl) ?_
  show FW g mtX5_remember (d + 1) 0 [(0, .ref p0)] [] M 0 0 (rV φ)
  refine fw_aload_n (i := 0) 0 rfl (show decode _ _ = .ok (.aload_n 0, 1) by decide +kernel) ?_
  obtain ⟨⟨hr50, n49, hs51⟩, h_1⟩ := h
  refine fw_getI (kd := 5) (k := 12) (show decode _ _ = .ok (.getfield 106, 3) by decide +kernel) gf_X5_106 hr50 hs51 (Or.inl rfl) ?_
  refine fw_bipush (v := (11 : Int32)) (show decode _ _ = .ok (.bipush 11, 2) by decide +kernel) (by decide) ?_
  refine fw_imul (show decode _ _ = .ok (.imul, 1) by decide +kernel) ?_
  refine fw_nmI (fun x52 ex53 => ?_)
  have h_2 := h_1 x52 ex53
  refine fw_istore_n (i := 1) (ls' := [(1, .int x52), (0, .ref p0)]) (show decode _ _ = .ok (.istore_n 1, 1) by decide +kernel) (by decide) rfl ?_
  refine fw_iconst (v := (0 : Int32)) (show decode _ _ = .ok (.iconst 0, 1) by decide +kernel) (by decide) ?_
  refine fw_istore_n (i := 2) (ls' := [(2, .int (0 : Int32)), (1, .int x52), (0, .ref p0)]) (show decode _ _ = .ok (.istore_n 2, 1) by decide +kernel) (by decide) rfl ?_
  refine FW.sub [2, 1, 0] (ls' := [(0, .ref p0), (1, .int x52), (2, .int (0 : Int32))]) rfl ?_
  obtain ⟨nn, h_3⟩ := h_2
  exact sl_X5_remember_10 hd nn h_3
def w_X9_stir (p0 : Nat) (M : fM) (φ : fM → Prop) : Prop := isO M p0 9 ∧ dR (mP M p0 0) fun y4 => dR (mP M p0 0) fun y6 => isO M y6 5 ∧ nm ((((mI M y6 5) * (173 : Int32)) + (89 : Int32)) % (30071 : Int32)) fun x11 => isO M y4 5 ∧ st (wI M y4 5 x11) fun M16 => φ M16
set_option maxRecDepth 100000 in
theorem s_X9_stir {g : GT} {d : Nat} (hd : 1 ≤ d) {p0 : Nat} {M : fM} {φ : fM → Prop} (h : w_X9_stir p0 M φ) : FC g mtX9_stir d [.ref p0] M 0 0 (rV φ) := by
  obtain ⟨d, rfl⟩ : ∃ e, d = e + 1 := ⟨d - 1, by omega⟩
  unfold w_X9_stir at h
  refine FC.intro (nL := 1) (by decide) rfl (Nat.le_of_ble_eq_true rfl) ?_
  show FW g mtX9_stir (d + 1) 0 [(0, .ref p0)] [] M 0 0 (rV φ)
  refine fw_aload_n (i := 0) 0 rfl (show decode _ _ = .ok (.aload_n 0, 1) by decide +kernel) ?_
  obtain ⟨⟨hr2, n1, hs3⟩, h_1⟩ := h
  refine fw_getP (kd := 9) (k := 0) (show decode _ _ = .ok (.getfield 9, 3) by decide +kernel) gf_X9_9 hr2 hs3 rfl ?_
  have h_2 := dR_e h_1
  obtain ⟨y4, hy5, h_3⟩ := h_2
  refine fw_deref hy5 ?_
  refine fw_aload_n (i := 0) 0 rfl (show decode _ _ = .ok (.aload_n 0, 1) by decide +kernel) ?_
  refine fw_getP (kd := 9) (k := 0) (show decode _ _ = .ok (.getfield 9, 3) by decide +kernel) gf_X9_9 hr2 hs3 rfl ?_
  have h_4 := dR_e h_3
  obtain ⟨y6, hy7, h_5⟩ := h_4
  refine fw_deref hy7 ?_
  obtain ⟨⟨hr9, n8, hs10⟩, h_6⟩ := h_5
  refine fw_getI (kd := 5) (k := 5) (show decode _ _ = .ok (.getfield 70, 3) by decide +kernel) gf_X9_70 hr9 hs10 (Or.inl rfl) ?_
  refine fw_sipush (v := (173 : Int32)) (show decode _ _ = .ok (.sipush 173, 3) by decide +kernel) (by decide) ?_
  refine fw_imul (show decode _ _ = .ok (.imul, 1) by decide +kernel) ?_
  refine fw_bipush (v := (89 : Int32)) (show decode _ _ = .ok (.bipush 89, 2) by decide +kernel) (by decide) ?_
  refine fw_iadd (show decode _ _ = .ok (.iadd, 1) by decide +kernel) ?_
  refine fw_sipush (v := (30071 : Int32)) (show decode _ _ = .ok (.sipush 30071, 3) by decide +kernel) (by decide) ?_
  refine fw_irem (show decode _ _ = .ok (.irem, 1) by decide +kernel) (by decide) ?_
  refine fw_nmI (fun x11 ex12 => ?_)
  have h_7 := h_6 x11 ex12
  obtain ⟨⟨hr14, n13, hs15⟩, h_8⟩ := h_7
  refine fw_putI (kd := 5) (k := 5) (show decode _ _ = .ok (.putfield 70, 3) by decide +kernel) ⟨gf_X9_70, _, rfl, Or.inl rfl⟩ hr14 hs15 rfl ?_
  refine FW.nmM (fun M16 eM17 => ?_)
  have h_9 := h_8 M16 eM17
  exact fw_ret (v := none) .return_ (show decode _ _ = .ok (.return_, 1) by decide +kernel) ⟨rfl, rfl⟩ ⟨rfl, h_9⟩
def w_X9_draw (p0 : Nat) (M : fM) (φ : Int32 → fM → Prop) : Prop := isO M p0 9 ∧ dR (mP M p0 0) fun y4 => isO M y4 5 ∧ nm ((mI M y4 5) % (10 : Int32)) fun x9 => w_X9_stir p0 M fun M11 => φ x9 M11
set_option maxRecDepth 100000 in
theorem s_X9_draw {g : GT} {d : Nat} (hd : 2 ≤ d) {p0 : Nat} {M : fM} {φ : Int32 → fM → Prop} (h : w_X9_draw p0 M φ) : FC g mtX9_draw d [.ref p0] M 0 0 (rI φ) := by
  obtain ⟨d, rfl⟩ : ∃ e, d = e + 1 := ⟨d - 1, by omega⟩
  unfold w_X9_draw at h
  refine FC.intro (nL := 2) (by decide) rfl (Nat.le_of_ble_eq_true rfl) ?_
  show FW g mtX9_draw (d + 1) 0 [(0, .ref p0)] [] M 0 0 (rI φ)
  refine fw_aload_n (i := 0) 0 rfl (show decode _ _ = .ok (.aload_n 0, 1) by decide +kernel) ?_
  obtain ⟨⟨hr2, n1, hs3⟩, h_1⟩ := h
  refine fw_getP (kd := 9) (k := 0) (show decode _ _ = .ok (.getfield 9, 3) by decide +kernel) gf_X9_9 hr2 hs3 rfl ?_
  have h_2 := dR_e h_1
  obtain ⟨y4, hy5, h_3⟩ := h_2
  refine fw_deref hy5 ?_
  obtain ⟨⟨hr7, n6, hs8⟩, h_4⟩ := h_3
  refine fw_getI (kd := 5) (k := 5) (show decode _ _ = .ok (.getfield 70, 3) by decide +kernel) gf_X9_70 hr7 hs8 (Or.inl rfl) ?_
  refine fw_bipush (v := (10 : Int32)) (show decode _ _ = .ok (.bipush 10, 2) by decide +kernel) (by decide) ?_
  refine fw_irem (show decode _ _ = .ok (.irem, 1) by decide +kernel) (by decide) ?_
  refine fw_nmI (fun x9 ex10 => ?_)
  have h_5 := h_4 x9 ex10
  refine fw_istore_n (i := 1) (ls' := [(1, .int x9), (0, .ref p0)]) (show decode _ _ = .ok (.istore_n 1, 1) by decide +kernel) (by decide) rfl ?_
  refine fw_aload_n (i := 0) 1 rfl (show decode _ _ = .ok (.aload_n 0, 1) by decide +kernel) ?_
  refine fw_callV (mt' := mtX9_stir) (mc := 0) (ms := 0) (As := []) (rest := []) 0 9 n1 (show decode _ _ = .ok (.invokevirtual 76, 3) by decide +kernel) cv_X9_76 ⟨_, rfl, rfl⟩ hr2 hs3 rfl (Nat.le_of_ble_eq_true rfl) (s_X9_stir (d := d) (hd_le hd (by decide)) h_5) (by decide) (by decide) (kV (bc' := 0) (bs' := 0) (by decide) (by decide) (fun M11 h_6 => ?_))
  refine fw_iload_n (i := 1) 0 rfl (show decode _ _ = .ok (.iload_n 1, 1) by decide +kernel) ?_
  exact fw_ret (v := some (.int x9)) .ireturn (show decode _ _ = .ok (.ireturn, 1) by decide +kernel) ⟨rfl, Or.inl rfl⟩ ⟨_, rfl, h_6⟩
