def j_X1_turnTo_107 (φ : fM → Prop) (p0 : Nat) (p1 : Nat) (s0 : Int32) (s1 : Int32) (s2 : Nat) (M : fM) : Prop := 6 ≤ s2 ∧ inA M s2 12 s1 ∧ st (wI M s2 (ix s1) s0) fun M5 => isO M5 p0 1 ∧ dR (mP M5 p0 0) fun y10 => isO M5 p1 5 ∧ nm (mI M5 p1 6) fun x15 => 6 ≤ y10 ∧ inA M5 y10 12 (5 : Int32) ∧ st (wI M5 y10 (ix (5 : Int32)) x15) fun M21 => φ M21
set_option maxRecDepth 100000 in
theorem sj_X1_turnTo_107 {g : GT} {d : Nat} (hd : 2 ≤ d + 1) {φ : fM → Prop} {p0 : Nat} {p1 : Nat} {s0 : Int32} {s1 : Int32} {s2 : Nat} {M : fM} (h : j_X1_turnTo_107 φ p0 p1 s0 s1 s2 M) : FW g mtX1_turnTo (d + 1) 107 [(0, .ref p0), (1, .ref p1)] [.int s0, .int s1, .ref s2] M 0 0 (rV φ) := by
  unfold j_X1_turnTo_107 at h
  obtain ⟨hr4, ⟨n1, hs2, hi3⟩, h_1⟩ := h
  refine fw_iast (show decode _ _ = .ok (.iastore, 1) by decide +kernel) hr4 hs2 hi3 ?_
  refine FW.nmM (fun M5 eM6 => ?_)
  have h_2 := h_1 M5 eM6
  refine fw_aload_n (i := 0) 0 rfl (show decode _ _ = .ok (.aload_n 0, 1) by decide +kernel) ?_
  obtain ⟨⟨hr8, n7, hs9⟩, h_3⟩ := h_2
  refine fw_getP (kd := 1) (k := 0) (show decode _ _ = .ok (.getfield 9, 3) by decide +kernel) gf_X1_9 hr8 hs9 rfl ?_
  have h_4 := dR_e h_3
  obtain ⟨y10, hy11, h_5⟩ := h_4
  refine fw_deref hy11 ?_
  refine fw_iconst (v := (5 : Int32)) (show decode _ _ = .ok (.iconst 5, 1) by decide +kernel) (by decide) ?_
  refine fw_aload_n (i := 1) 1 rfl (show decode _ _ = .ok (.aload_n 1, 1) by decide +kernel) ?_
  obtain ⟨⟨hr13, n12, hs14⟩, h_6⟩ := h_5
  refine fw_getI (kd := 5) (k := 6) (show decode _ _ = .ok (.getfield 50, 3) by decide +kernel) gf_X1_50 hr13 hs14 (Or.inl rfl) ?_
  refine fw_nmI (fun x15 ex16 => ?_)
  have h_7 := h_6 x15 ex16
  obtain ⟨hr20, ⟨n17, hs18, hi19⟩, h_8⟩ := h_7
  refine fw_iast (show decode _ _ = .ok (.iastore, 1) by decide +kernel) hr20 hs18 hi19 ?_
  refine FW.nmM (fun M21 eM22 => ?_)
  have h_9 := h_8 M21 eM22
  exact fw_ret (v := none) .return_ (show decode _ _ = .ok (.return_, 1) by decide +kernel) ⟨rfl, rfl⟩ ⟨rfl, h_9⟩
def j_X1_turnTo_89 (φ : fM → Prop) (p0 : Nat) (p1 : Nat) (p5 : Int32) (s0 : Int32) (s1 : Int32) (s2 : Nat) (M : fM) : Prop := 6 ≤ s2 ∧ inA M s2 12 s1 ∧ st (wI M s2 (ix s1) s0) fun M27 => isO M27 p0 1 ∧ dR (mP M27 p0 0) fun y32 => iF ((p5 &&& (1 : Int32)) = 0) (j_X1_turnTo_107 φ p0 p1 (0 : Int32) (4 : Int32) y32 M27) (j_X1_turnTo_107 φ p0 p1 (1 : Int32) (4 : Int32) y32 M27)
set_option maxRecDepth 100000 in
theorem sj_X1_turnTo_89 {g : GT} {d : Nat} (hd : 2 ≤ d + 1) {φ : fM → Prop} {p0 : Nat} {p1 : Nat} {p5 : Int32} {s0 : Int32} {s1 : Int32} {s2 : Nat} {M : fM} (h : j_X1_turnTo_89 φ p0 p1 p5 s0 s1 s2 M) : FW g mtX1_turnTo (d + 1) 89 [(0, .ref p0), (1, .ref p1), (5, .int p5)] [.int s0, .int s1, .ref s2] M 0 0 (rV φ) := by
  unfold j_X1_turnTo_89 at h
  obtain ⟨hr26, ⟨n23, hs24, hi25⟩, h_1⟩ := h
  refine fw_iast (show decode _ _ = .ok (.iastore, 1) by decide +kernel) hr26 hs24 hi25 ?_
  refine FW.nmM (fun M27 eM28 => ?_)
  have h_2 := h_1 M27 eM28
  refine fw_aload_n (i := 0) 0 rfl (show decode _ _ = .ok (.aload_n 0, 1) by decide +kernel) ?_
  obtain ⟨⟨hr30, n29, hs31⟩, h_3⟩ := h_2
  refine fw_getP (kd := 1) (k := 0) (show decode _ _ = .ok (.getfield 9, 3) by decide +kernel) gf_X1_9 hr30 hs31 rfl ?_
  have h_4 := dR_e h_3
  obtain ⟨y32, hy33, h_5⟩ := h_4
  refine fw_deref hy33 ?_
  refine fw_iconst (v := (4 : Int32)) (show decode _ _ = .ok (.iconst 4, 1) by decide +kernel) (by decide) ?_
  refine fw_iload (i := 5) 2 rfl (show decode _ _ = .ok (.iload 5, 2) by decide +kernel) ?_
  refine fw_iconst (v := (1 : Int32)) (show decode _ _ = .ok (.iconst 1, 1) by decide +kernel) (by decide) ?_
  refine fw_iand (show decode _ _ = .ok (.iand, 1) by decide +kernel) ?_
  refine fw_if_ne 106 (show decode _ _ = .ok (.ifCond .ne 7, 3) by decide +kernel) (by decide) (fun hc34 => ?_) (fun hc34 => ?_)
  · have h_6 := ineg hc34 h_5
    refine fw_iconst (v := (1 : Int32)) (show decode _ _ = .ok (.iconst 1, 1) by decide +kernel) (by decide) ?_
    refine FW.sub [0, 1] (ls' := [(0, .ref p0), (1, .ref p1)]) rfl ?_
    exact sj_X1_turnTo_107 hd h_6
  · have h_7 := ipos hc34 h_5
    refine fw_iconst (v := (0 : Int32)) (show decode _ _ = .ok (.iconst 0, 1) by decide +kernel) (by decide) ?_
    refine fw_goto 107 (show decode _ _ = .ok (.goto 4, 3) by decide +kernel) (by decide) ?_
    refine FW.sub [0, 1] (ls' := [(0, .ref p0), (1, .ref p1)]) rfl ?_
    exact sj_X1_turnTo_107 hd h_7
def j_X1_turnTo_71 (φ : fM → Prop) (p0 : Nat) (p1 : Nat) (p5 : Int32) (s0 : Int32) (s1 : Int32) (s2 : Nat) (M : fM) : Prop := 6 ≤ s2 ∧ inA M s2 12 s1 ∧ st (wI M s2 (ix s1) s0) fun M39 => isO M39 p0 1 ∧ dR (mP M39 p0 0) fun y44 => iF ((p5 &&& (2 : Int32)) = 0) (j_X1_turnTo_89 φ p0 p1 p5 (0 : Int32) (3 : Int32) y44 M39) (j_X1_turnTo_89 φ p0 p1 p5 (1 : Int32) (3 : Int32) y44 M39)
set_option maxRecDepth 100000 in
theorem sj_X1_turnTo_71 {g : GT} {d : Nat} (hd : 2 ≤ d + 1) {φ : fM → Prop} {p0 : Nat} {p1 : Nat} {p5 : Int32} {s0 : Int32} {s1 : Int32} {s2 : Nat} {M : fM} (h : j_X1_turnTo_71 φ p0 p1 p5 s0 s1 s2 M) : FW g mtX1_turnTo (d + 1) 71 [(0, .ref p0), (1, .ref p1), (5, .int p5)] [.int s0, .int s1, .ref s2] M 0 0 (rV φ) := by
  unfold j_X1_turnTo_71 at h
  obtain ⟨hr38, ⟨n35, hs36, hi37⟩, h_1⟩ := h
  refine fw_iast (show decode _ _ = .ok (.iastore, 1) by decide +kernel) hr38 hs36 hi37 ?_
  refine FW.nmM (fun M39 eM40 => ?_)
  have h_2 := h_1 M39 eM40
  refine fw_aload_n (i := 0) 0 rfl (show decode _ _ = .ok (.aload_n 0, 1) by decide +kernel) ?_
  obtain ⟨⟨hr42, n41, hs43⟩, h_3⟩ := h_2
  refine fw_getP (kd := 1) (k := 0) (show decode _ _ = .ok (.getfield 9, 3) by decide +kernel) gf_X1_9 hr42 hs43 rfl ?_
  have h_4 := dR_e h_3
  obtain ⟨y44, hy45, h_5⟩ := h_4
  refine fw_deref hy45 ?_
  refine fw_iconst (v := (3 : Int32)) (show decode _ _ = .ok (.iconst 3, 1) by decide +kernel) (by decide) ?_
  refine fw_iload (i := 5) 2 rfl (show decode _ _ = .ok (.iload 5, 2) by decide +kernel) ?_
  refine fw_iconst (v := (2 : Int32)) (show decode _ _ = .ok (.iconst 2, 1) by decide +kernel) (by decide) ?_
  refine fw_iand (show decode _ _ = .ok (.iand, 1) by decide +kernel) ?_
  refine fw_if_ne 88 (show decode _ _ = .ok (.ifCond .ne 7, 3) by decide +kernel) (by decide) (fun hc46 => ?_) (fun hc46 => ?_)
  · have h_6 := ineg hc46 h_5
    refine fw_iconst (v := (1 : Int32)) (show decode _ _ = .ok (.iconst 1, 1) by decide +kernel) (by decide) ?_
    refine FW.sub [0, 1, 2] (ls' := [(0, .ref p0), (1, .ref p1), (5, .int p5)]) rfl ?_
    exact sj_X1_turnTo_89 hd h_6
  · have h_7 := ipos hc46 h_5
    refine fw_iconst (v := (0 : Int32)) (show decode _ _ = .ok (.iconst 0, 1) by decide +kernel) (by decide) ?_
    refine fw_goto 89 (show decode _ _ = .ok (.goto 4, 3) by decide +kernel) (by decide) ?_
    refine FW.sub [0, 1, 2] (ls' := [(0, .ref p0), (1, .ref p1), (5, .int p5)]) rfl ?_
    exact sj_X1_turnTo_89 hd h_7
def w_X1_turnTo (p0 : Nat) (p1 : Nat) (p2 : Option Nat) (p3 : Int32) (p4 : Int32) (p5 : Int32) (M : fM) (φ : fM → Prop) : Prop := isO M p1 5 ∧ w_X5_houseOf p1 p4 M fun o51 M47 => isO M47 p0 1 ∧ st (wP M47 p0 2 p2) fun M55 => isO M55 p1 5 ∧ dR (mP M55 p1 1) fun y60 => w_X10_cell y60 p3 M55 fun x63 M62 => isO M62 p0 1 ∧ st (wI M62 p0 3 x63) fun M67 => isO M67 p1 5 ∧ dR (mP M67 p1 2) fun y72 => w_X10_cell y72 p3 M67 fun x75 M74 => isO M74 p0 1 ∧ st (wI M74 p0 4 x75) fun M79 => dR (mP M79 p0 0) fun y81 => 6 ≤ y81 ∧ inA M79 y81 12 (0 : Int32) ∧ st (wI M79 y81 (ix (0 : Int32)) p3) fun M87 => dR (mP M87 p0 0) fun y89 => 6 ≤ y89 ∧ inA M87 y89 12 (1 : Int32) ∧ st (wI M87 y89 (ix (1 : Int32)) p4) fun M95 => dR (mP M95 p0 0) fun y97 => gN o51 (fun y99 => isO M95 y99 0 ∧ j_X1_turnTo_71 φ p0 p1 p5 (mI M95 y99 0) (2 : Int32) y97 M95) (j_X1_turnTo_71 φ p0 p1 p5 (0 : Int32) (2 : Int32) y97 M95)
set_option maxRecDepth 100000 in
theorem s_X1_turnTo {g : GT} {d : Nat} (hd : 2 ≤ d) {p0 : Nat} {p1 : Nat} {p2 : Option Nat} {p3 : Int32} {p4 : Int32} {p5 : Int32} {M : fM} {φ : fM → Prop} (h : w_X1_turnTo p0 p1 p2 p3 p4 p5 M φ) : FC g mtX1_turnTo d [.ref p0, .ref p1, fr p2, .int p3, .int p4, .int p5] M 0 0 (rV φ) := by
  obtain ⟨d, rfl⟩ : ∃ e, d = e + 1 := ⟨d - 1, by omega⟩
  unfold w_X1_turnTo at h
  refine FC.intro (nL := 7) (by decide) rfl (by cases p2 <;> exact Nat.le_of_ble_eq_true rfl) ?_
  rw [show lv_args 0 [.ref p0, .ref p1, fr p2, .int p3, .int p4, .int p5] = [(0, .ref p0), (1, .ref p1), (2, fr p2), (3, .int p3), (4, .int p4), (5, .int p5)] from by cases p2 <;> rfl]
  show FW g mtX1_turnTo (d + 1) 0 [(0, .ref p0), (1, .ref p1), (2, fr p2), (3, .int p3), (4, .int p4), (5, .int p5)] [] M 0 0 (rV φ)
  refine fw_aload_n (i := 1) 1 rfl (show decode _ _ = .ok (.aload_n 1, 1) by decide +kernel) ?_
  refine fw_iload (i := 4) 4 rfl (show decode _ _ = .ok (.iload 4, 2) by decide +kernel) ?_
  obtain ⟨⟨hr49, n48, hs50⟩, h_1⟩ := h
  refine fw_callV (mt' := mtX5_houseOf) (mc := 0) (ms := 0) (As := [.int p4]) (rest := []) 1 5 n48 (show decode _ _ = .ok (.invokevirtual 18, 3) by decide +kernel) cv_X1_18 ⟨_, rfl, rfl⟩ hr49 hs50 rfl (Nat.le_of_ble_eq_true rfl) (s_X5_houseOf (d := d) (hd_le hd (by decide)) h_1) (by decide) (by decide) (kP (bc' := 0) (bs' := 0) (by decide) (by decide) (fun o51 M47 h_2 => ?_))
  refine fw_astoreq (i := 6) (ls' := [(6, fr o51), (0, .ref p0), (1, .ref p1), (2, fr p2), (3, .int p3), (4, .int p4), (5, .int p5)]) (show decode _ _ = .ok (.astore 6, 2) by decide +kernel) (by decide) rfl ?_
  refine fw_aload_n (i := 0) 1 rfl (show decode _ _ = .ok (.aload_n 0, 1) by decide +kernel) ?_
  refine fw_aloadq_n (i := 2) 3 rfl (show decode _ _ = .ok (.aload_n 2, 1) by decide +kernel) ?_
  obtain ⟨⟨hr53, n52, hs54⟩, h_3⟩ := h_2
  refine fw_putP (x := p2) (kd := 1) (k := 2) (show decode _ _ = .ok (.putfield 24, 3) by decide +kernel) ⟨gf_X1_24, _, rfl, Or.inl rfl⟩ hr53 hs54 rfl ?_
  refine FW.nmM (fun M55 eM56 => ?_)
  have h_4 := h_3 M55 eM56
  refine fw_aload_n (i := 0) 1 rfl (show decode _ _ = .ok (.aload_n 0, 1) by decide +kernel) ?_
  refine fw_aload_n (i := 1) 2 rfl (show decode _ _ = .ok (.aload_n 1, 1) by decide +kernel) ?_
  obtain ⟨⟨hr58, n57, hs59⟩, h_5⟩ := h_4
  refine fw_getP (kd := 5) (k := 1) (show decode _ _ = .ok (.getfield 28, 3) by decide +kernel) gf_X1_28 hr58 hs59 rfl ?_
  have h_6 := dR_e h_5
  obtain ⟨y60, hy61, h_7⟩ := h_6
  refine fw_deref hy61 ?_
  refine fw_iload_n (i := 3) 4 rfl (show decode _ _ = .ok (.iload_n 3, 1) by decide +kernel) ?_
  refine fw_callSN (mt' := mtX10_cell) (mc := 0) (ms := 0) (As := [.ref y60, .int p3]) (rest := [.ref p0]) 2 "OneStepMore" (show decode _ _ = .ok (.invokestatic 31, 3) by decide +kernel) ns_X1_31 rfl (Nat.le_of_ble_eq_true rfl) (s_X10_cell (d := d) (hd_le hd (by decide)) h_7) (by decide) (by decide) (kI (bc' := 0) (bs' := 0) (by decide) (by decide) (fun x63 M62 h_8 => ?_))
  obtain ⟨⟨hr65, n64, hs66⟩, h_9⟩ := h_8
  refine fw_putI (kd := 1) (k := 3) (show decode _ _ = .ok (.putfield 35, 3) by decide +kernel) ⟨gf_X1_35, _, rfl, Or.inl rfl⟩ hr65 hs66 rfl ?_
  refine FW.nmM (fun M67 eM68 => ?_)
  have h_10 := h_9 M67 eM68
  refine fw_aload_n (i := 0) 1 rfl (show decode _ _ = .ok (.aload_n 0, 1) by decide +kernel) ?_
  refine fw_aload_n (i := 1) 2 rfl (show decode _ _ = .ok (.aload_n 1, 1) by decide +kernel) ?_
  obtain ⟨⟨hr70, n69, hs71⟩, h_11⟩ := h_10
  refine fw_getP (kd := 5) (k := 2) (show decode _ _ = .ok (.getfield 39, 3) by decide +kernel) gf_X1_39 hr70 hs71 rfl ?_
  have h_12 := dR_e h_11
  obtain ⟨y72, hy73, h_13⟩ := h_12
  refine fw_deref hy73 ?_
  refine fw_iload_n (i := 3) 4 rfl (show decode _ _ = .ok (.iload_n 3, 1) by decide +kernel) ?_
  refine fw_callSN (mt' := mtX10_cell) (mc := 0) (ms := 0) (As := [.ref y72, .int p3]) (rest := [.ref p0]) 2 "OneStepMore" (show decode _ _ = .ok (.invokestatic 31, 3) by decide +kernel) ns_X1_31 rfl (Nat.le_of_ble_eq_true rfl) (s_X10_cell (d := d) (hd_le hd (by decide)) h_13) (by decide) (by decide) (kI (bc' := 0) (bs' := 0) (by decide) (by decide) (fun x75 M74 h_14 => ?_))
  obtain ⟨⟨hr77, n76, hs78⟩, h_15⟩ := h_14
  refine fw_putI (kd := 1) (k := 4) (show decode _ _ = .ok (.putfield 42, 3) by decide +kernel) ⟨gf_X1_42, _, rfl, Or.inl rfl⟩ hr77 hs78 rfl ?_
  refine FW.nmM (fun M79 eM80 => ?_)
  have h_16 := h_15 M79 eM80
  refine fw_aload_n (i := 0) 1 rfl (show decode _ _ = .ok (.aload_n 0, 1) by decide +kernel) ?_
  refine fw_getP (kd := 1) (k := 0) (show decode _ _ = .ok (.getfield 9, 3) by decide +kernel) gf_X1_9 hr77 (mSw_I eM80 hs78) rfl ?_
  have h_17 := dR_e h_16
  obtain ⟨y81, hy82, h_18⟩ := h_17
  refine fw_deref hy82 ?_
  refine fw_iconst (v := (0 : Int32)) (show decode _ _ = .ok (.iconst 0, 1) by decide +kernel) (by decide) ?_
  refine fw_iload_n (i := 3) 4 rfl (show decode _ _ = .ok (.iload_n 3, 1) by decide +kernel) ?_
  obtain ⟨hr86, ⟨n83, hs84, hi85⟩, h_19⟩ := h_18
  refine fw_iast (show decode _ _ = .ok (.iastore, 1) by decide +kernel) hr86 hs84 hi85 ?_
  refine FW.nmM (fun M87 eM88 => ?_)
  have h_20 := h_19 M87 eM88
  refine fw_aload_n (i := 0) 1 rfl (show decode _ _ = .ok (.aload_n 0, 1) by decide +kernel) ?_
  refine fw_getP (kd := 1) (k := 0) (show decode _ _ = .ok (.getfield 9, 3) by decide +kernel) gf_X1_9 hr77 (mSw_I eM88 (mSw_I eM80 hs78)) rfl ?_
  have h_21 := dR_e h_20
  obtain ⟨y89, hy90, h_22⟩ := h_21
  refine fw_deref hy90 ?_
  refine fw_iconst (v := (1 : Int32)) (show decode _ _ = .ok (.iconst 1, 1) by decide +kernel) (by decide) ?_
  refine fw_iload (i := 4) 5 rfl (show decode _ _ = .ok (.iload 4, 2) by decide +kernel) ?_
  obtain ⟨hr94, ⟨n91, hs92, hi93⟩, h_23⟩ := h_22
  refine fw_iast (show decode _ _ = .ok (.iastore, 1) by decide +kernel) hr94 hs92 hi93 ?_
  refine FW.nmM (fun M95 eM96 => ?_)
  have h_24 := h_23 M95 eM96
  refine fw_aload_n (i := 0) 1 rfl (show decode _ _ = .ok (.aload_n 0, 1) by decide +kernel) ?_
  refine fw_getP (kd := 1) (k := 0) (show decode _ _ = .ok (.getfield 9, 3) by decide +kernel) gf_X1_9 hr77 (mSw_I eM96 (mSw_I eM88 (mSw_I eM80 hs78))) rfl ?_
  have h_25 := dR_e h_24
  obtain ⟨y97, hy98, h_26⟩ := h_25
  refine fw_deref hy98 ?_
  refine fw_iconst (v := (2 : Int32)) (show decode _ _ = .ok (.iconst 2, 1) by decide +kernel) (by decide) ?_
  refine fw_aloadq (i := 6) 0 rfl (show decode _ _ = .ok (.aload 6, 2) by decide +kernel) ?_
  refine fw_ifnonnull (x := o51) 66 (show decode _ _ = .ok (.ifnonnull 7, 3) by decide +kernel) (by decide) (fun y99 hy100 => ?_) (fun hy100 => ?_)
  · have h_27 := gN_s hy100 h_26
    subst hy100
    refine fw_aload (i := 6) 0 rfl (show decode _ _ = .ok (.aload 6, 2) by decide +kernel) ?_
    obtain ⟨⟨hr102, n101, hs103⟩, h_28⟩ := h_27
    refine fw_getI (kd := 0) (k := 0) (show decode _ _ = .ok (.getfield 45, 3) by decide +kernel) gf_X1_45 hr102 hs103 (Or.inl rfl) ?_
    refine FW.sub [1, 2, 6] (ls' := [(0, .ref p0), (1, .ref p1), (5, .int p5)]) rfl ?_
    exact sj_X1_turnTo_71 hd h_28
  · have h_29 := gN_n hy100 h_26
    subst hy100
    refine fw_iconst (v := (0 : Int32)) (show decode _ _ = .ok (.iconst 0, 1) by decide +kernel) (by decide) ?_
    refine fw_goto 71 (show decode _ _ = .ok (.goto 8, 3) by decide +kernel) (by decide) ?_
    refine FW.sub [1, 2, 6] (ls' := [(0, .ref p0), (1, .ref p1), (5, .int p5)]) rfl ?_
    exact sj_X1_turnTo_71 hd h_29
def j_X1_face_62 (φ : fM → Prop) (s0 : Int32) (s1 : Int32) (s2 : Nat) (M : fM) : Prop := 6 ≤ s2 ∧ inA M s2 12 s1 ∧ st (wI M s2 (ix s1) s0) fun M5 => φ M5
set_option maxRecDepth 100000 in
theorem sj_X1_face_62 {g : GT} {d : Nat} (hd : 3 ≤ d + 1) {φ : fM → Prop} {s0 : Int32} {s1 : Int32} {s2 : Nat} {M : fM} (h : j_X1_face_62 φ s0 s1 s2 M) : FW g mtX1_face (d + 1) 62 [] [.int s0, .int s1, .ref s2] M 0 0 (rV φ) := by
  unfold j_X1_face_62 at h
  obtain ⟨hr4, ⟨n1, hs2, hi3⟩, h_1⟩ := h
  refine fw_iast (show decode _ _ = .ok (.iastore, 1) by decide +kernel) hr4 hs2 hi3 ?_
  refine FW.nmM (fun M5 eM6 => ?_)
  have h_2 := h_1 M5 eM6
  exact fw_ret (v := none) .return_ (show decode _ _ = .ok (.return_, 1) by decide +kernel) ⟨rfl, rfl⟩ ⟨rfl, h_2⟩
def j_X1_face_61 (φ : fM → Prop) (s0 : Int32) (s1 : Nat) (M : fM) : Prop := j_X1_face_62 φ (0 : Int32) s0 s1 M
set_option maxRecDepth 100000 in
theorem sj_X1_face_61 {g : GT} {d : Nat} (hd : 3 ≤ d + 1) {φ : fM → Prop} {s0 : Int32} {s1 : Nat} {M : fM} (h : j_X1_face_61 φ s0 s1 M) : FW g mtX1_face (d + 1) 61 [] [.int s0, .ref s1] M 0 0 (rV φ) := by
  unfold j_X1_face_61 at h
  refine fw_iconst (v := (0 : Int32)) (show decode _ _ = .ok (.iconst 0, 1) by decide +kernel) (by decide) ?_
  refine FW.sub [] (ls' := []) rfl ?_
  exact sj_X1_face_62 hd h
def w_X1_face (p0 : Nat) (p1 : Nat) (p2 : Int32) (M : fM) (φ : fM → Prop) : Prop := isO M p0 1 ∧ dR (mP M p0 0) fun y10 => 6 ≤ y10 ∧ inA M y10 12 (6 : Int32) ∧ st (wI M y10 (ix (6 : Int32)) p2) fun M16 => dR (mP M16 p0 0) fun y18 => isO M16 p1 0 ∧ w_X0_highOf p1 p2 M16 fun x24 M20 => 6 ≤ y18 ∧ inA M20 y18 12 (7 : Int32) ∧ st (wI M20 y18 (ix (7 : Int32)) x24) fun M29 => isO M29 p0 1 ∧ dR (mP M29 p0 0) fun y34 => isO M29 p1 0 ∧ w_X0_highOf p1 (p2 - (1 : Int32)) M29 fun x40 M36 => 6 ≤ y34 ∧ inA M36 y34 12 (8 : Int32) ∧ st (wI M36 y34 (ix (8 : Int32)) x40) fun M45 => isO M45 p0 1 ∧ dR (mP M45 p0 0) fun y50 => isO M45 p1 0 ∧ iF ((mI M45 p1 3) < p2) (j_X1_face_61 φ (9 : Int32) y50 M45) (dR (mP M45 p0 0) fun y55 => inA M45 y55 12 (4 : Int32) ∧ iF ((mI M45 y55 (ix (4 : Int32))) = 0) (j_X1_face_62 φ (1 : Int32) (9 : Int32) y50 M45) (j_X1_face_61 φ (9 : Int32) y50 M45))
set_option maxRecDepth 100000 in
theorem s_X1_face {g : GT} {d : Nat} (hd : 3 ≤ d) {p0 : Nat} {p1 : Nat} {p2 : Int32} {M : fM} {φ : fM → Prop} (h : w_X1_face p0 p1 p2 M φ) : FC g mtX1_face d [.ref p0, .ref p1, .int p2] M 0 0 (rV φ) := by
  obtain ⟨d, rfl⟩ : ∃ e, d = e + 1 := ⟨d - 1, by omega⟩
  unfold w_X1_face at h
  refine FC.intro (nL := 3) (by decide) rfl (Nat.le_of_ble_eq_true rfl) ?_
  show FW g mtX1_face (d + 1) 0 [(0, .ref p0), (1, .ref p1), (2, .int p2)] [] M 0 0 (rV φ)
  refine fw_aload_n (i := 0) 0 rfl (show decode _ _ = .ok (.aload_n 0, 1) by decide +kernel) ?_
  obtain ⟨⟨hr8, n7, hs9⟩, h_1⟩ := h
  refine fw_getP (kd := 1) (k := 0) (show decode _ _ = .ok (.getfield 9, 3) by decide +kernel) gf_X1_9 hr8 hs9 rfl ?_
  have h_2 := dR_e h_1
  obtain ⟨y10, hy11, h_3⟩ := h_2
  refine fw_deref hy11 ?_
  refine fw_bipush (v := (6 : Int32)) (show decode _ _ = .ok (.bipush 6, 2) by decide +kernel) (by decide) ?_
  refine fw_iload_n (i := 2) 2 rfl (show decode _ _ = .ok (.iload_n 2, 1) by decide +kernel) ?_
  obtain ⟨hr15, ⟨n12, hs13, hi14⟩, h_4⟩ := h_3
  refine fw_iast (show decode _ _ = .ok (.iastore, 1) by decide +kernel) hr15 hs13 hi14 ?_
  refine FW.nmM (fun M16 eM17 => ?_)
  have h_5 := h_4 M16 eM17
  refine fw_aload_n (i := 0) 0 rfl (show decode _ _ = .ok (.aload_n 0, 1) by decide +kernel) ?_
  refine fw_getP (kd := 1) (k := 0) (show decode _ _ = .ok (.getfield 9, 3) by decide +kernel) gf_X1_9 hr8 (mSw_I eM17 hs9) rfl ?_
  have h_6 := dR_e h_5
  obtain ⟨y18, hy19, h_7⟩ := h_6
  refine fw_deref hy19 ?_
  refine fw_bipush (v := (7 : Int32)) (show decode _ _ = .ok (.bipush 7, 2) by decide +kernel) (by decide) ?_
  refine fw_aload_n (i := 1) 1 rfl (show decode _ _ = .ok (.aload_n 1, 1) by decide +kernel) ?_
  refine fw_iload_n (i := 2) 2 rfl (show decode _ _ = .ok (.iload_n 2, 1) by decide +kernel) ?_
  obtain ⟨⟨hr22, n21, hs23⟩, h_8⟩ := h_7
  refine fw_callV (mt' := mtX0_highOf) (mc := 0) (ms := 0) (As := [.int p2]) (rest := [.int (7 : Int32), .ref y18]) 1 0 n21 (show decode _ _ = .ok (.invokevirtual 53, 3) by decide +kernel) cv_X1_53 ⟨_, rfl, rfl⟩ hr22 hs23 rfl (Nat.le_of_ble_eq_true rfl) (s_X0_highOf (d := d) (hd_le hd (by decide)) h_8) (by decide) (by decide) (kI (bc' := 0) (bs' := 0) (by decide) (by decide) (fun x24 M20 h_9 => ?_))
  obtain ⟨hr28, ⟨n25, hs26, hi27⟩, h_10⟩ := h_9
  refine fw_iast (show decode _ _ = .ok (.iastore, 1) by decide +kernel) hr28 hs26 hi27 ?_
  refine FW.nmM (fun M29 eM30 => ?_)
  have h_11 := h_10 M29 eM30
  refine fw_aload_n (i := 0) 0 rfl (show decode _ _ = .ok (.aload_n 0, 1) by decide +kernel) ?_
  obtain ⟨⟨hr32, n31, hs33⟩, h_12⟩ := h_11
  refine fw_getP (kd := 1) (k := 0) (show decode _ _ = .ok (.getfield 9, 3) by decide +kernel) gf_X1_9 hr32 hs33 rfl ?_
  have h_13 := dR_e h_12
  obtain ⟨y34, hy35, h_14⟩ := h_13
  refine fw_deref hy35 ?_
  refine fw_bipush (v := (8 : Int32)) (show decode _ _ = .ok (.bipush 8, 2) by decide +kernel) (by decide) ?_
  refine fw_aload_n (i := 1) 1 rfl (show decode _ _ = .ok (.aload_n 1, 1) by decide +kernel) ?_
  refine fw_iload_n (i := 2) 2 rfl (show decode _ _ = .ok (.iload_n 2, 1) by decide +kernel) ?_
  refine fw_iconst (v := (1 : Int32)) (show decode _ _ = .ok (.iconst 1, 1) by decide +kernel) (by decide) ?_
  refine fw_isub (show decode _ _ = .ok (.isub, 1) by decide +kernel) ?_
  obtain ⟨⟨hr38, n37, hs39⟩, h_15⟩ := h_14
  refine fw_callV (mt' := mtX0_highOf) (mc := 0) (ms := 0) (As := [.int (p2 - (1 : Int32))]) (rest := [.int (8 : Int32), .ref y34]) 1 0 n37 (show decode _ _ = .ok (.invokevirtual 53, 3) by decide +kernel) cv_X1_53 ⟨_, rfl, rfl⟩ hr38 hs39 rfl (Nat.le_of_ble_eq_true rfl) (s_X0_highOf (d := d) (hd_le hd (by decide)) h_15) (by decide) (by decide) (kI (bc' := 0) (bs' := 0) (by decide) (by decide) (fun x40 M36 h_16 => ?_))
  obtain ⟨hr44, ⟨n41, hs42, hi43⟩, h_17⟩ := h_16
  refine fw_iast (show decode _ _ = .ok (.iastore, 1) by decide +kernel) hr44 hs42 hi43 ?_
  refine FW.nmM (fun M45 eM46 => ?_)
  have h_18 := h_17 M45 eM46
  refine fw_aload_n (i := 0) 0 rfl (show decode _ _ = .ok (.aload_n 0, 1) by decide +kernel) ?_
  obtain ⟨⟨hr48, n47, hs49⟩, h_19⟩ := h_18
  refine fw_getP (kd := 1) (k := 0) (show decode _ _ = .ok (.getfield 9, 3) by decide +kernel) gf_X1_9 hr48 hs49 rfl ?_
  have h_20 := dR_e h_19
  obtain ⟨y50, hy51, h_21⟩ := h_20
  refine fw_deref hy51 ?_
  refine fw_bipush (v := (9 : Int32)) (show decode _ _ = .ok (.bipush 9, 2) by decide +kernel) (by decide) ?_
  refine fw_iload_n (i := 2) 2 rfl (show decode _ _ = .ok (.iload_n 2, 1) by decide +kernel) ?_
  refine fw_aload_n (i := 1) 1 rfl (show decode _ _ = .ok (.aload_n 1, 1) by decide +kernel) ?_
  obtain ⟨⟨hr53, n52, hs54⟩, h_22⟩ := h_21
  refine fw_getI (kd := 0) (k := 3) (show decode _ _ = .ok (.getfield 57, 3) by decide +kernel) gf_X1_57 hr53 hs54 (Or.inl rfl) ?_
  refine fw_icmp_gt 61 (show decode _ _ = .ok (.if_icmp .gt 16, 3) by decide +kernel) (by decide) (fun hc61 => ?_) (fun hc61 => ?_)
  · have h_23 := ipos hc61 h_22
    refine FW.sub [] (ls' := []) rfl ?_
    exact sj_X1_face_61 hd h_23
  · have h_24 := ineg hc61 h_22
    refine fw_aload_n (i := 0) 0 rfl (show decode _ _ = .ok (.aload_n 0, 1) by decide +kernel) ?_
    refine fw_getP (kd := 1) (k := 0) (show decode _ _ = .ok (.getfield 9, 3) by decide +kernel) gf_X1_9 hr48 hs49 rfl ?_
    have h_25 := dR_e h_24
    obtain ⟨y55, hy56, h_26⟩ := h_25
    refine fw_deref hy56 ?_
    refine fw_iconst (v := (4 : Int32)) (show decode _ _ = .ok (.iconst 4, 1) by decide +kernel) (by decide) ?_
    obtain ⟨⟨n57, hs58, hi59⟩, h_27⟩ := h_26
    refine fw_iald (show decode _ _ = .ok (.iaload, 1) by decide +kernel) hs58 hi59 ?_
    refine fw_if_ne 61 (show decode _ _ = .ok (.ifCond .ne 7, 3) by decide +kernel) (by decide) (fun hc60 => ?_) (fun hc60 => ?_)
    · have h_28 := ineg hc60 h_27
      refine FW.sub [] (ls' := []) rfl ?_
      exact sj_X1_face_61 hd h_28
    · have h_29 := ipos hc60 h_27
      refine fw_iconst (v := (1 : Int32)) (show decode _ _ = .ok (.iconst 1, 1) by decide +kernel) (by decide) ?_
      refine fw_goto 62 (show decode _ _ = .ok (.goto 4, 3) by decide +kernel) (by decide) ?_
      refine FW.sub [] (ls' := []) rfl ?_
      exact sj_X1_face_62 hd h_29
def w_X1_suppose (p0 : Nat) (p1 : Int32) (p2 : Int32) (M : fM) (φ : fM → Prop) : Prop := isO M p0 1 ∧ dR (mP M p0 0) fun y4 => 6 ≤ y4 ∧ inA M y4 12 (7 : Int32) ∧ st (wI M y4 (ix (7 : Int32)) p1) fun M10 => dR (mP M10 p0 0) fun y12 => 6 ≤ y12 ∧ inA M10 y12 12 (8 : Int32) ∧ st (wI M10 y12 (ix (8 : Int32)) p2) fun M18 => φ M18
set_option maxRecDepth 100000 in
theorem s_X1_suppose {g : GT} {d : Nat} (hd : 1 ≤ d) {p0 : Nat} {p1 : Int32} {p2 : Int32} {M : fM} {φ : fM → Prop} (h : w_X1_suppose p0 p1 p2 M φ) : FC g mtX1_suppose d [.ref p0, .int p1, .int p2] M 0 0 (rV φ) := by
  obtain ⟨d, rfl⟩ : ∃ e, d = e + 1 := ⟨d - 1, by omega⟩
  unfold w_X1_suppose at h
  refine FC.intro (nL := 3) (by decide) rfl (Nat.le_of_ble_eq_true rfl) ?_
  show FW g mtX1_suppose (d + 1) 0 [(0, .ref p0), (1, .int p1), (2, .int p2)] [] M 0 0 (rV φ)
  refine fw_aload_n (i := 0) 0 rfl (show decode _ _ = .ok (.aload_n 0, 1) by decide +kernel) ?_
  obtain ⟨⟨hr2, n1, hs3⟩, h_1⟩ := h
  refine fw_getP (kd := 1) (k := 0) (show decode _ _ = .ok (.getfield 9, 3) by decide +kernel) gf_X1_9 hr2 hs3 rfl ?_
  have h_2 := dR_e h_1
  obtain ⟨y4, hy5, h_3⟩ := h_2
  refine fw_deref hy5 ?_
  refine fw_bipush (v := (7 : Int32)) (show decode _ _ = .ok (.bipush 7, 2) by decide +kernel) (by decide) ?_
  refine fw_iload_n (i := 1) 1 rfl (show decode _ _ = .ok (.iload_n 1, 1) by decide +kernel) ?_
  obtain ⟨hr9, ⟨n6, hs7, hi8⟩, h_4⟩ := h_3
  refine fw_iast (show decode _ _ = .ok (.iastore, 1) by decide +kernel) hr9 hs7 hi8 ?_
  refine FW.nmM (fun M10 eM11 => ?_)
  have h_5 := h_4 M10 eM11
  refine fw_aload_n (i := 0) 0 rfl (show decode _ _ = .ok (.aload_n 0, 1) by decide +kernel) ?_
  refine fw_getP (kd := 1) (k := 0) (show decode _ _ = .ok (.getfield 9, 3) by decide +kernel) gf_X1_9 hr2 (mSw_I eM11 hs3) rfl ?_
  have h_6 := dR_e h_5
  obtain ⟨y12, hy13, h_7⟩ := h_6
  refine fw_deref hy13 ?_
  refine fw_bipush (v := (8 : Int32)) (show decode _ _ = .ok (.bipush 8, 2) by decide +kernel) (by decide) ?_
  refine fw_iload_n (i := 2) 2 rfl (show decode _ _ = .ok (.iload_n 2, 1) by decide +kernel) ?_
  obtain ⟨hr17, ⟨n14, hs15, hi16⟩, h_8⟩ := h_7
  refine fw_iast (show decode _ _ = .ok (.iastore, 1) by decide +kernel) hr17 hs15 hi16 ?_
  refine FW.nmM (fun M18 eM19 => ?_)
  have h_9 := h_8 M18 eM19
  exact fw_ret (v := none) .return_ (show decode _ _ = .ok (.return_, 1) by decide +kernel) ⟨rfl, rfl⟩ ⟨rfl, h_9⟩
def w_X1_rules (p0 : Nat) (p1 : Int32) (M : fM) (φ : Int32 → fM → Prop) : Prop := isO M p0 1 ∧ nm (mP M p0 2) fun o4 => gN o4 (fun y6 => nm (mP M p0 2) fun o8 => dR o8 fun y10 => isO M y10 8 ∧ dR (mP M y10 2) fun y15 => w_X10_cell y15 p1 M fun x18 M17 => iF (x18 ≤ 0) (φ (0 : Int32) M17) (φ (1 : Int32) M17)) (φ (0 : Int32) M)
set_option maxRecDepth 100000 in
theorem s_X1_rules {g : GT} {d : Nat} (hd : 2 ≤ d) {p0 : Nat} {p1 : Int32} {M : fM} {φ : Int32 → fM → Prop} (h : w_X1_rules p0 p1 M φ) : FC g mtX1_rules d [.ref p0, .int p1] M 0 0 (rI φ) := by
  obtain ⟨d, rfl⟩ : ∃ e, d = e + 1 := ⟨d - 1, by omega⟩
  unfold w_X1_rules at h
  refine FC.intro (nL := 2) (by decide) rfl (Nat.le_of_ble_eq_true rfl) ?_
  show FW g mtX1_rules (d + 1) 0 [(0, .ref p0), (1, .int p1)] [] M 0 0 (rI φ)
  refine fw_aload_n (i := 0) 0 rfl (show decode _ _ = .ok (.aload_n 0, 1) by decide +kernel) ?_
  obtain ⟨⟨hr2, n1, hs3⟩, h_1⟩ := h
  refine fw_getP (kd := 1) (k := 2) (show decode _ _ = .ok (.getfield 24, 3) by decide +kernel) gf_X1_24 hr2 hs3 rfl ?_
  refine fw_nmP (fun o4 eo5 => ?_)
  have h_2 := h_1 o4 eo5
  refine fw_ifnull (x := o4) 25 (show decode _ _ = .ok (.ifnull 21, 3) by decide +kernel) (by decide) (fun hy7 => ?_) (fun y6 hy7 => ?_)
  · have h_3 := gN_n hy7 h_2
    subst hy7
    refine fw_iconst (v := (0 : Int32)) (show decode _ _ = .ok (.iconst 0, 1) by decide +kernel) (by decide) ?_
    exact fw_ret (v := some (.int (0 : Int32))) .ireturn (show decode _ _ = .ok (.ireturn, 1) by decide +kernel) ⟨rfl, Or.inr (Or.inl ⟨rfl, rfl⟩)⟩ ⟨_, rfl, h_3⟩
  · have h_4 := gN_s hy7 h_2
    subst hy7
    refine fw_aload_n (i := 0) 0 rfl (show decode _ _ = .ok (.aload_n 0, 1) by decide +kernel) ?_
    refine fw_getP (kd := 1) (k := 2) (show decode _ _ = .ok (.getfield 24, 3) by decide +kernel) gf_X1_24 hr2 hs3 rfl ?_
    refine fw_nmP (fun o8 eo9 => ?_)
    have h_5 := h_4 o8 eo9
    have h_6 := dR_e h_5
    obtain ⟨y10, hy11, h_7⟩ := h_6
    subst hy11
    obtain ⟨⟨hr13, n12, hs14⟩, h_8⟩ := h_7
    refine fw_getP (kd := 8) (k := 2) (show decode _ _ = .ok (.getfield 76, 3) by decide +kernel) gf_X1_76 hr13 hs14 rfl ?_
    have h_9 := dR_e h_8
    obtain ⟨y15, hy16, h_10⟩ := h_9
    refine fw_deref hy16 ?_
    refine fw_iload_n (i := 1) 1 rfl (show decode _ _ = .ok (.iload_n 1, 1) by decide +kernel) ?_
    refine fw_callSN (mt' := mtX10_cell) (mc := 0) (ms := 0) (As := [.ref y15, .int p1]) (rest := []) 2 "OneStepMore" (show decode _ _ = .ok (.invokestatic 31, 3) by decide +kernel) ns_X1_31 rfl (Nat.le_of_ble_eq_true rfl) (s_X10_cell (d := d) (hd_le hd (by decide)) h_10) (by decide) (by decide) (kI (bc' := 0) (bs' := 0) (by decide) (by decide) (fun x18 M17 h_11 => ?_))
    refine fw_if_le 25 (show decode _ _ = .ok (.ifCond .le 7, 3) by decide +kernel) (by decide) (fun hc19 => ?_) (fun hc19 => ?_)
    · have h_12 := ipos hc19 h_11
      refine fw_iconst (v := (0 : Int32)) (show decode _ _ = .ok (.iconst 0, 1) by decide +kernel) (by decide) ?_
      exact fw_ret (v := some (.int (0 : Int32))) .ireturn (show decode _ _ = .ok (.ireturn, 1) by decide +kernel) ⟨rfl, Or.inr (Or.inl ⟨rfl, rfl⟩)⟩ ⟨_, rfl, h_12⟩
    · have h_13 := ineg hc19 h_11
      refine fw_iconst (v := (1 : Int32)) (show decode _ _ = .ok (.iconst 1, 1) by decide +kernel) (by decide) ?_
      refine fw_goto 26 (show decode _ _ = .ok (.goto 4, 3) by decide +kernel) (by decide) ?_
      exact fw_ret (v := some (.int (1 : Int32))) .ireturn (show decode _ _ = .ok (.ireturn, 1) by decide +kernel) ⟨rfl, Or.inr (Or.inl ⟨rfl, rfl⟩)⟩ ⟨_, rfl, h_13⟩
def j_X1_joined_295 (φ : Int32 → fM → Prop) (p5 : Int64) (M : fM) : Prop := iF ((lg_cmp p5 (1000000 : Int64)) ≤ 0) (iF (0 ≤ (lg_cmp p5 (-1000000 : Int64))) (φ (Int64.toInt32 p5) M) (φ (Int64.toInt32 (-1000000 : Int64)) M)) (φ (Int64.toInt32 (1000000 : Int64)) M)
set_option maxRecDepth 100000 in
theorem sj_X1_joined_295 {g : GT} {d : Nat} (hd : 1 ≤ d + 1) {φ : Int32 → fM → Prop} {p5 : Int64} {M : fM} (h : j_X1_joined_295 φ p5 M) : FW g mtX1_joined (d + 1) 295 [(5, .long p5)] [] M 0 0 (rI φ) := by
  unfold j_X1_joined_295 at h
  refine fw_lload (i := 5) 0 rfl (show decode _ _ = .ok (.lload 5, 2) by decide +kernel) ?_
  refine fw_ldc2 (idx := 95) (v := (1000000 : Int64)) (show decode _ _ = .ok (.ldc2_w 95, 3) by decide +kernel) wd917 ?_
  refine fw_lcmp (show decode _ _ = .ok (.lcmp, 1) by decide +kernel) ?_
  refine fw_if_le 310 (show decode _ _ = .ok (.ifCond .le 9, 3) by decide +kernel) (by decide) (fun hc2 => ?_) (fun hc2 => ?_)
  · have h_1 := ipos hc2 h
    refine fw_lload (i := 5) 0 rfl (show decode _ _ = .ok (.lload 5, 2) by decide +kernel) ?_
    refine fw_ldc2 (idx := 97) (v := (-1000000 : Int64)) (show decode _ _ = .ok (.ldc2_w 97, 3) by decide +kernel) wd918 ?_
    refine fw_lcmp (show decode _ _ = .ok (.lcmp, 1) by decide +kernel) ?_
    refine fw_if_ge 325 (show decode _ _ = .ok (.ifCond .ge 9, 3) by decide +kernel) (by decide) (fun hc1 => ?_) (fun hc1 => ?_)
    · have h_2 := ipos hc1 h_1
      refine fw_lload (i := 5) 0 rfl (show decode _ _ = .ok (.lload 5, 2) by decide +kernel) ?_
      refine fw_l2i (show decode _ _ = .ok (.l2i, 1) by decide +kernel) ?_
      exact fw_ret (v := some (.int (Int64.toInt32 p5))) .ireturn (show decode _ _ = .ok (.ireturn, 1) by decide +kernel) ⟨rfl, Or.inl rfl⟩ ⟨_, rfl, h_2⟩
    · have h_3 := ineg hc1 h_1
      refine fw_ldc2 (idx := 97) (v := (-1000000 : Int64)) (show decode _ _ = .ok (.ldc2_w 97, 3) by decide +kernel) wd918 ?_
      refine fw_goto 327 (show decode _ _ = .ok (.goto 5, 3) by decide +kernel) (by decide) ?_
      refine fw_l2i (show decode _ _ = .ok (.l2i, 1) by decide +kernel) ?_
      exact fw_ret (v := some (.int (Int64.toInt32 (-1000000 : Int64)))) .ireturn (show decode _ _ = .ok (.ireturn, 1) by decide +kernel) ⟨rfl, Or.inl rfl⟩ ⟨_, rfl, h_3⟩
  · have h_4 := ineg hc2 h
    refine fw_ldc2 (idx := 95) (v := (1000000 : Int64)) (show decode _ _ = .ok (.ldc2_w 95, 3) by decide +kernel) wd917 ?_
    refine fw_goto 327 (show decode _ _ = .ok (.goto 20, 3) by decide +kernel) (by decide) ?_
    refine fw_l2i (show decode _ _ = .ok (.l2i, 1) by decide +kernel) ?_
    exact fw_ret (v := some (.int (Int64.toInt32 (1000000 : Int64)))) .ireturn (show decode _ _ = .ok (.ireturn, 1) by decide +kernel) ⟨rfl, Or.inl rfl⟩ ⟨_, rfl, h_4⟩
def j_X1_joined_293 (φ : Int32 → fM → Prop) (s0 : Int64) (M : fM) : Prop := j_X1_joined_295 φ s0 M
set_option maxRecDepth 100000 in
theorem sj_X1_joined_293 {g : GT} {d : Nat} (hd : 1 ≤ d + 1) {φ : Int32 → fM → Prop} {s0 : Int64} {M : fM} (h : j_X1_joined_293 φ s0 M) : FW g mtX1_joined (d + 1) 293 [] [.long s0] M 0 0 (rI φ) := by
  unfold j_X1_joined_293 at h
  refine fw_lstore (i := 5) (ls' := [(5, .long s0)]) (show decode _ _ = .ok (.lstore 5, 2) by decide +kernel) (by decide) rfl ?_
  refine FW.sub [0] (ls' := [(5, .long s0)]) rfl ?_
  exact sj_X1_joined_295 hd h
def j_X1_joined_282 (φ : Int32 → fM → Prop) (p1 : Int64) (p3 : Int64) (M : fM) : Prop := iF ((lg_cmp p1 p3) = 0) (j_X1_joined_293 φ (0 : Int64) M) (j_X1_joined_293 φ (1 : Int64) M)
set_option maxRecDepth 100000 in
theorem sj_X1_joined_282 {g : GT} {d : Nat} (hd : 1 ≤ d + 1) {φ : Int32 → fM → Prop} {p1 : Int64} {p3 : Int64} {M : fM} (h : j_X1_joined_282 φ p1 p3 M) : FW g mtX1_joined (d + 1) 282 [(1, .long p1), (3, .long p3)] [] M 0 0 (rI φ) := by
  unfold j_X1_joined_282 at h
  refine fw_lload_n (i := 1) 0 rfl (show decode _ _ = .ok (.lload_n 1, 1) by decide +kernel) ?_
  refine fw_lload_n (i := 3) 1 rfl (show decode _ _ = .ok (.lload_n 3, 1) by decide +kernel) ?_
  refine fw_lcmp (show decode _ _ = .ok (.lcmp, 1) by decide +kernel) ?_
  refine fw_if_eq 292 (show decode _ _ = .ok (.ifCond .eq 7, 3) by decide +kernel) (by decide) (fun hc3 => ?_) (fun hc3 => ?_)
  · have h_1 := ipos hc3 h
    refine fw_lconst (v := (0 : Int64)) (show decode _ _ = .ok (.lconst 0, 1) by decide +kernel) (by decide) ?_
    refine FW.sub [] (ls' := []) rfl ?_
    exact sj_X1_joined_293 hd h_1
  · have h_2 := ineg hc3 h
    refine fw_lconst (v := (1 : Int64)) (show decode _ _ = .ok (.lconst 1, 1) by decide +kernel) (by decide) ?_
    refine fw_goto 293 (show decode _ _ = .ok (.goto 4, 3) by decide +kernel) (by decide) ?_
    refine FW.sub [] (ls' := []) rfl ?_
    exact sj_X1_joined_293 hd h_2
def j_X1_joined_277 (φ : Int32 → fM → Prop) (s0 : Int64) (M : fM) : Prop := j_X1_joined_295 φ s0 M
set_option maxRecDepth 100000 in
theorem sj_X1_joined_277 {g : GT} {d : Nat} (hd : 1 ≤ d + 1) {φ : Int32 → fM → Prop} {s0 : Int64} {M : fM} (h : j_X1_joined_277 φ s0 M) : FW g mtX1_joined (d + 1) 277 [] [.long s0] M 0 0 (rI φ) := by
  unfold j_X1_joined_277 at h
  refine fw_lstore (i := 5) (ls' := [(5, .long s0)]) (show decode _ _ = .ok (.lstore 5, 2) by decide +kernel) (by decide) rfl ?_
  refine fw_goto 295 (show decode _ _ = .ok (.goto 16, 3) by decide +kernel) (by decide) ?_
  refine FW.sub [0] (ls' := [(5, .long s0)]) rfl ?_
  exact sj_X1_joined_295 hd h
def j_X1_joined_261 (φ : Int32 → fM → Prop) (s0 : Int64) (M : fM) : Prop := j_X1_joined_295 φ s0 M
set_option maxRecDepth 100000 in
theorem sj_X1_joined_261 {g : GT} {d : Nat} (hd : 1 ≤ d + 1) {φ : Int32 → fM → Prop} {s0 : Int64} {M : fM} (h : j_X1_joined_261 φ s0 M) : FW g mtX1_joined (d + 1) 261 [] [.long s0] M 0 0 (rI φ) := by
  unfold j_X1_joined_261 at h
  refine fw_lstore (i := 5) (ls' := [(5, .long s0)]) (show decode _ _ = .ok (.lstore 5, 2) by decide +kernel) (by decide) rfl ?_
  refine fw_goto 295 (show decode _ _ = .ok (.goto 32, 3) by decide +kernel) (by decide) ?_
  refine FW.sub [0] (ls' := [(5, .long s0)]) rfl ?_
  exact sj_X1_joined_295 hd h
def j_X1_joined_245 (φ : Int32 → fM → Prop) (s0 : Int64) (M : fM) : Prop := j_X1_joined_295 φ s0 M
set_option maxRecDepth 100000 in
theorem sj_X1_joined_245 {g : GT} {d : Nat} (hd : 1 ≤ d + 1) {φ : Int32 → fM → Prop} {s0 : Int64} {M : fM} (h : j_X1_joined_245 φ s0 M) : FW g mtX1_joined (d + 1) 245 [] [.long s0] M 0 0 (rI φ) := by
  unfold j_X1_joined_245 at h
  refine fw_lstore (i := 5) (ls' := [(5, .long s0)]) (show decode _ _ = .ok (.lstore 5, 2) by decide +kernel) (by decide) rfl ?_
  refine fw_goto 295 (show decode _ _ = .ok (.goto 48, 3) by decide +kernel) (by decide) ?_
  refine FW.sub [0] (ls' := [(5, .long s0)]) rfl ?_
  exact sj_X1_joined_295 hd h
def j_X1_joined_229 (φ : Int32 → fM → Prop) (s0 : Int64) (M : fM) : Prop := j_X1_joined_295 φ s0 M
set_option maxRecDepth 100000 in
theorem sj_X1_joined_229 {g : GT} {d : Nat} (hd : 1 ≤ d + 1) {φ : Int32 → fM → Prop} {s0 : Int64} {M : fM} (h : j_X1_joined_229 φ s0 M) : FW g mtX1_joined (d + 1) 229 [] [.long s0] M 0 0 (rI φ) := by
  unfold j_X1_joined_229 at h
  refine fw_lstore (i := 5) (ls' := [(5, .long s0)]) (show decode _ _ = .ok (.lstore 5, 2) by decide +kernel) (by decide) rfl ?_
  refine fw_goto 295 (show decode _ _ = .ok (.goto 64, 3) by decide +kernel) (by decide) ?_
  refine FW.sub [0] (ls' := [(5, .long s0)]) rfl ?_
  exact sj_X1_joined_295 hd h
def j_X1_joined_213 (φ : Int32 → fM → Prop) (s0 : Int64) (M : fM) : Prop := j_X1_joined_295 φ s0 M
set_option maxRecDepth 100000 in
theorem sj_X1_joined_213 {g : GT} {d : Nat} (hd : 1 ≤ d + 1) {φ : Int32 → fM → Prop} {s0 : Int64} {M : fM} (h : j_X1_joined_213 φ s0 M) : FW g mtX1_joined (d + 1) 213 [] [.long s0] M 0 0 (rI φ) := by
  unfold j_X1_joined_213 at h
  refine fw_lstore (i := 5) (ls' := [(5, .long s0)]) (show decode _ _ = .ok (.lstore 5, 2) by decide +kernel) (by decide) rfl ?_
  refine fw_goto 295 (show decode _ _ = .ok (.goto 80, 3) by decide +kernel) (by decide) ?_
  refine FW.sub [0] (ls' := [(5, .long s0)]) rfl ?_
  exact sj_X1_joined_295 hd h
def j_X1_joined_197 (φ : Int32 → fM → Prop) (s0 : Int64) (M : fM) : Prop := j_X1_joined_295 φ s0 M
set_option maxRecDepth 100000 in
theorem sj_X1_joined_197 {g : GT} {d : Nat} (hd : 1 ≤ d + 1) {φ : Int32 → fM → Prop} {s0 : Int64} {M : fM} (h : j_X1_joined_197 φ s0 M) : FW g mtX1_joined (d + 1) 197 [] [.long s0] M 0 0 (rI φ) := by
  unfold j_X1_joined_197 at h
  refine fw_lstore (i := 5) (ls' := [(5, .long s0)]) (show decode _ _ = .ok (.lstore 5, 2) by decide +kernel) (by decide) rfl ?_
  refine fw_goto 295 (show decode _ _ = .ok (.goto 96, 3) by decide +kernel) (by decide) ?_
  refine FW.sub [0] (ls' := [(5, .long s0)]) rfl ?_
  exact sj_X1_joined_295 hd h
def j_X1_joined_196 (φ : Int32 → fM → Prop)  (M : fM) : Prop := j_X1_joined_197 φ (0 : Int64) M
set_option maxRecDepth 100000 in
theorem sj_X1_joined_196 {g : GT} {d : Nat} (hd : 1 ≤ d + 1) {φ : Int32 → fM → Prop}  {M : fM} (h : j_X1_joined_196 φ M) : FW g mtX1_joined (d + 1) 196 [] [] M 0 0 (rI φ) := by
  unfold j_X1_joined_196 at h
  refine fw_lconst (v := (0 : Int64)) (show decode _ _ = .ok (.lconst 0, 1) by decide +kernel) (by decide) ?_
  refine FW.sub [] (ls' := []) rfl ?_
  exact sj_X1_joined_197 hd h
def j_X1_joined_175 (φ : Int32 → fM → Prop) (s0 : Int64) (M : fM) : Prop := j_X1_joined_295 φ s0 M
set_option maxRecDepth 100000 in
theorem sj_X1_joined_175 {g : GT} {d : Nat} (hd : 1 ≤ d + 1) {φ : Int32 → fM → Prop} {s0 : Int64} {M : fM} (h : j_X1_joined_175 φ s0 M) : FW g mtX1_joined (d + 1) 175 [] [.long s0] M 0 0 (rI φ) := by
  unfold j_X1_joined_175 at h
  refine fw_lstore (i := 5) (ls' := [(5, .long s0)]) (show decode _ _ = .ok (.lstore 5, 2) by decide +kernel) (by decide) rfl ?_
  refine fw_goto 295 (show decode _ _ = .ok (.goto 118, 3) by decide +kernel) (by decide) ?_
  refine FW.sub [0] (ls' := [(5, .long s0)]) rfl ?_
  exact sj_X1_joined_295 hd h
def j_X1_joined_170 (φ : Int32 → fM → Prop)  (M : fM) : Prop := j_X1_joined_175 φ (1 : Int64) M
set_option maxRecDepth 100000 in
theorem sj_X1_joined_170 {g : GT} {d : Nat} (hd : 1 ≤ d + 1) {φ : Int32 → fM → Prop}  {M : fM} (h : j_X1_joined_170 φ M) : FW g mtX1_joined (d + 1) 170 [] [] M 0 0 (rI φ) := by
  unfold j_X1_joined_170 at h
  refine fw_lconst (v := (1 : Int64)) (show decode _ _ = .ok (.lconst 1, 1) by decide +kernel) (by decide) ?_
  refine fw_goto 175 (show decode _ _ = .ok (.goto 4, 3) by decide +kernel) (by decide) ?_
  refine FW.sub [] (ls' := []) rfl ?_
  exact sj_X1_joined_175 hd h
def j_X1_joined_153 (φ : Int32 → fM → Prop) (s0 : Int64) (M : fM) : Prop := j_X1_joined_295 φ s0 M
set_option maxRecDepth 100000 in
theorem sj_X1_joined_153 {g : GT} {d : Nat} (hd : 1 ≤ d + 1) {φ : Int32 → fM → Prop} {s0 : Int64} {M : fM} (h : j_X1_joined_153 φ s0 M) : FW g mtX1_joined (d + 1) 153 [] [.long s0] M 0 0 (rI φ) := by
  unfold j_X1_joined_153 at h
  refine fw_lstore (i := 5) (ls' := [(5, .long s0)]) (show decode _ _ = .ok (.lstore 5, 2) by decide +kernel) (by decide) rfl ?_
  refine fw_goto 295 (show decode _ _ = .ok (.goto 140, 3) by decide +kernel) (by decide) ?_
  refine FW.sub [0] (ls' := [(5, .long s0)]) rfl ?_
  exact sj_X1_joined_295 hd h
def w_X1_joined (p0 : Int32) (p1 : Int64) (p3 : Int64) (M : fM) (φ : Int32 → fM → Prop) : Prop := iF (p0 = (-48 : Int32)) (iF ((lg_cmp p1 p3) = 0) (j_X1_joined_277 φ (1 : Int64) M) (j_X1_joined_277 φ (0 : Int64) M)) (iF (p0 = (-47 : Int32)) (iF ((lg_cmp p1 p3) < 0) (j_X1_joined_261 φ (0 : Int64) M) (j_X1_joined_261 φ (1 : Int64) M)) (iF (p0 = (-46 : Int32)) (iF ((lg_cmp p1 p3) ≤ 0) (j_X1_joined_245 φ (0 : Int64) M) (j_X1_joined_245 φ (1 : Int64) M)) (iF (p0 = (-45 : Int32)) (iF (0 < (lg_cmp p1 p3)) (j_X1_joined_229 φ (0 : Int64) M) (j_X1_joined_229 φ (1 : Int64) M)) (iF (p0 = (-44 : Int32)) (iF (0 ≤ (lg_cmp p1 p3)) (j_X1_joined_213 φ (0 : Int64) M) (j_X1_joined_213 φ (1 : Int64) M)) (iF (p0 = (-43 : Int32)) (iF ((lg_cmp p3 (0 : Int64)) = 0) (j_X1_joined_153 φ (0 : Int64) M) (¬ p3 = 0 ∧ j_X1_joined_153 φ (p1 / p3) M)) (iF (p0 = (-42 : Int32)) (nm (p1 * p3) fun x17 => j_X1_joined_295 φ x17 M) (iF (p0 = (-41 : Int32)) (nm (p1 - p3) fun x20 => j_X1_joined_295 φ x20 M) (iF (p0 = (-40 : Int32)) (nm (p1 + p3) fun x23 => j_X1_joined_295 φ x23 M) (iF (p0 = (-25 : Int32)) (iF ((lg_cmp p1 (0 : Int64)) = 0) (j_X1_joined_196 φ M) (iF ((lg_cmp p3 (0 : Int64)) = 0) (j_X1_joined_196 φ M) (j_X1_joined_197 φ (1 : Int64) M))) (iF (p0 = (-24 : Int32)) (iF ((lg_cmp p1 (0 : Int64)) = 0) (iF ((lg_cmp p3 (0 : Int64)) = 0) (j_X1_joined_175 φ (0 : Int64) M) (j_X1_joined_170 φ M)) (j_X1_joined_170 φ M)) (j_X1_joined_282 φ p1 p3 M)))))))))))
set_option maxRecDepth 100000 in
theorem s_X1_joined {g : GT} {d : Nat} (hd : 1 ≤ d) {p0 : Int32} {p1 : Int64} {p3 : Int64} {M : fM} {φ : Int32 → fM → Prop} (h : w_X1_joined p0 p1 p3 M φ) : FC g mtX1_joined d [.int p0, .long p1, .long p3] M 0 0 (rI φ) := by
  obtain ⟨d, rfl⟩ : ∃ e, d = e + 1 := ⟨d - 1, by omega⟩
  unfold w_X1_joined at h
  refine FC.intro (nL := 7) (by decide) rfl (Nat.le_of_ble_eq_true rfl) ?_
  show FW g mtX1_joined (d + 1) 0 [(0, .int p0), (1, .long p1), (3, .long p3)] [] M 0 0 (rI φ)
  refine fw_iload_n (i := 0) 0 rfl (show decode _ _ = .ok (.iload_n 0, 1) by decide +kernel) ?_
  by_cases hc5 : p0 = (-48 : Int32)
  · have h_1 := ipos hc5 h
    refine fw_tin (off := 265) 266 (show decode _ _ = .ok (.tableswitch 281 (-48) (-24) #[265, 249, 233, 217, 201, 139, 131, 123, 115, 281, 281, 281, 281, 281, 281, 281, 281, 281, 281, 281, 281, 281, 281, 179, 157], 115) by decide +kernel) (by rw [hc5]; decide) (by rw [hc5]; decide) (by rw [hc5]; rfl) (by decide) ?_
    refine fw_lload_n (i := 1) 1 rfl (show decode _ _ = .ok (.lload_n 1, 1) by decide +kernel) ?_
    refine fw_lload_n (i := 3) 2 rfl (show decode _ _ = .ok (.lload_n 3, 1) by decide +kernel) ?_
    refine fw_lcmp (show decode _ _ = .ok (.lcmp, 1) by decide +kernel) ?_
    refine fw_if_ne 276 (show decode _ _ = .ok (.ifCond .ne 7, 3) by decide +kernel) (by decide) (fun hc4 => ?_) (fun hc4 => ?_)
    · have h_2 := ineg hc4 h_1
      refine fw_lconst (v := (0 : Int64)) (show decode _ _ = .ok (.lconst 0, 1) by decide +kernel) (by decide) ?_
      refine FW.sub [] (ls' := []) rfl ?_
      exact sj_X1_joined_277 hd h_2
    · have h_3 := ipos hc4 h_1
      refine fw_lconst (v := (1 : Int64)) (show decode _ _ = .ok (.lconst 1, 1) by decide +kernel) (by decide) ?_
      refine fw_goto 277 (show decode _ _ = .ok (.goto 4, 3) by decide +kernel) (by decide) ?_
      refine FW.sub [] (ls' := []) rfl ?_
      exact sj_X1_joined_277 hd h_3
  have h_4 := ineg hc5 h
  by_cases hc7 : p0 = (-47 : Int32)
  · have h_5 := ipos hc7 h_4
    refine fw_tin (off := 249) 250 (show decode _ _ = .ok (.tableswitch 281 (-48) (-24) #[265, 249, 233, 217, 201, 139, 131, 123, 115, 281, 281, 281, 281, 281, 281, 281, 281, 281, 281, 281, 281, 281, 281, 179, 157], 115) by decide +kernel) (by rw [hc7]; decide) (by rw [hc7]; decide) (by rw [hc7]; rfl) (by decide) ?_
    refine fw_lload_n (i := 1) 1 rfl (show decode _ _ = .ok (.lload_n 1, 1) by decide +kernel) ?_
    refine fw_lload_n (i := 3) 2 rfl (show decode _ _ = .ok (.lload_n 3, 1) by decide +kernel) ?_
    refine fw_lcmp (show decode _ _ = .ok (.lcmp, 1) by decide +kernel) ?_
    refine fw_if_lt 260 (show decode _ _ = .ok (.ifCond .lt 7, 3) by decide +kernel) (by decide) (fun hc6 => ?_) (fun hc6 => ?_)
    · have h_6 := ipos hc6 h_5
      refine fw_lconst (v := (0 : Int64)) (show decode _ _ = .ok (.lconst 0, 1) by decide +kernel) (by decide) ?_
      refine FW.sub [] (ls' := []) rfl ?_
      exact sj_X1_joined_261 hd h_6
    · have h_7 := ineg hc6 h_5
      refine fw_lconst (v := (1 : Int64)) (show decode _ _ = .ok (.lconst 1, 1) by decide +kernel) (by decide) ?_
      refine fw_goto 261 (show decode _ _ = .ok (.goto 4, 3) by decide +kernel) (by decide) ?_
      refine FW.sub [] (ls' := []) rfl ?_
      exact sj_X1_joined_261 hd h_7
  have h_8 := ineg hc7 h_4
  by_cases hc9 : p0 = (-46 : Int32)
  · have h_9 := ipos hc9 h_8
    refine fw_tin (off := 233) 234 (show decode _ _ = .ok (.tableswitch 281 (-48) (-24) #[265, 249, 233, 217, 201, 139, 131, 123, 115, 281, 281, 281, 281, 281, 281, 281, 281, 281, 281, 281, 281, 281, 281, 179, 157], 115) by decide +kernel) (by rw [hc9]; decide) (by rw [hc9]; decide) (by rw [hc9]; rfl) (by decide) ?_
    refine fw_lload_n (i := 1) 1 rfl (show decode _ _ = .ok (.lload_n 1, 1) by decide +kernel) ?_
    refine fw_lload_n (i := 3) 2 rfl (show decode _ _ = .ok (.lload_n 3, 1) by decide +kernel) ?_
    refine fw_lcmp (show decode _ _ = .ok (.lcmp, 1) by decide +kernel) ?_
    refine fw_if_le 244 (show decode _ _ = .ok (.ifCond .le 7, 3) by decide +kernel) (by decide) (fun hc8 => ?_) (fun hc8 => ?_)
    · have h_10 := ipos hc8 h_9
      refine fw_lconst (v := (0 : Int64)) (show decode _ _ = .ok (.lconst 0, 1) by decide +kernel) (by decide) ?_
      refine FW.sub [] (ls' := []) rfl ?_
      exact sj_X1_joined_245 hd h_10
    · have h_11 := ineg hc8 h_9
      refine fw_lconst (v := (1 : Int64)) (show decode _ _ = .ok (.lconst 1, 1) by decide +kernel) (by decide) ?_
      refine fw_goto 245 (show decode _ _ = .ok (.goto 4, 3) by decide +kernel) (by decide) ?_
      refine FW.sub [] (ls' := []) rfl ?_
      exact sj_X1_joined_245 hd h_11
  have h_12 := ineg hc9 h_8
  by_cases hc11 : p0 = (-45 : Int32)
  · have h_13 := ipos hc11 h_12
    refine fw_tin (off := 217) 218 (show decode _ _ = .ok (.tableswitch 281 (-48) (-24) #[265, 249, 233, 217, 201, 139, 131, 123, 115, 281, 281, 281, 281, 281, 281, 281, 281, 281, 281, 281, 281, 281, 281, 179, 157], 115) by decide +kernel) (by rw [hc11]; decide) (by rw [hc11]; decide) (by rw [hc11]; rfl) (by decide) ?_
    refine fw_lload_n (i := 1) 1 rfl (show decode _ _ = .ok (.lload_n 1, 1) by decide +kernel) ?_
    refine fw_lload_n (i := 3) 2 rfl (show decode _ _ = .ok (.lload_n 3, 1) by decide +kernel) ?_
    refine fw_lcmp (show decode _ _ = .ok (.lcmp, 1) by decide +kernel) ?_
    refine fw_if_gt 228 (show decode _ _ = .ok (.ifCond .gt 7, 3) by decide +kernel) (by decide) (fun hc10 => ?_) (fun hc10 => ?_)
    · have h_14 := ipos hc10 h_13
      refine fw_lconst (v := (0 : Int64)) (show decode _ _ = .ok (.lconst 0, 1) by decide +kernel) (by decide) ?_
      refine FW.sub [] (ls' := []) rfl ?_
      exact sj_X1_joined_229 hd h_14
    · have h_15 := ineg hc10 h_13
      refine fw_lconst (v := (1 : Int64)) (show decode _ _ = .ok (.lconst 1, 1) by decide +kernel) (by decide) ?_
      refine fw_goto 229 (show decode _ _ = .ok (.goto 4, 3) by decide +kernel) (by decide) ?_
      refine FW.sub [] (ls' := []) rfl ?_
      exact sj_X1_joined_229 hd h_15
  have h_16 := ineg hc11 h_12
  by_cases hc13 : p0 = (-44 : Int32)
  · have h_17 := ipos hc13 h_16
    refine fw_tin (off := 201) 202 (show decode _ _ = .ok (.tableswitch 281 (-48) (-24) #[265, 249, 233, 217, 201, 139, 131, 123, 115, 281, 281, 281, 281, 281, 281, 281, 281, 281, 281, 281, 281, 281, 281, 179, 157], 115) by decide +kernel) (by rw [hc13]; decide) (by rw [hc13]; decide) (by rw [hc13]; rfl) (by decide) ?_
    refine fw_lload_n (i := 1) 1 rfl (show decode _ _ = .ok (.lload_n 1, 1) by decide +kernel) ?_
    refine fw_lload_n (i := 3) 2 rfl (show decode _ _ = .ok (.lload_n 3, 1) by decide +kernel) ?_
    refine fw_lcmp (show decode _ _ = .ok (.lcmp, 1) by decide +kernel) ?_
    refine fw_if_ge 212 (show decode _ _ = .ok (.ifCond .ge 7, 3) by decide +kernel) (by decide) (fun hc12 => ?_) (fun hc12 => ?_)
    · have h_18 := ipos hc12 h_17
      refine fw_lconst (v := (0 : Int64)) (show decode _ _ = .ok (.lconst 0, 1) by decide +kernel) (by decide) ?_
      refine FW.sub [] (ls' := []) rfl ?_
      exact sj_X1_joined_213 hd h_18
    · have h_19 := ineg hc12 h_17
      refine fw_lconst (v := (1 : Int64)) (show decode _ _ = .ok (.lconst 1, 1) by decide +kernel) (by decide) ?_
      refine fw_goto 213 (show decode _ _ = .ok (.goto 4, 3) by decide +kernel) (by decide) ?_
      refine FW.sub [] (ls' := []) rfl ?_
      exact sj_X1_joined_213 hd h_19
  have h_20 := ineg hc13 h_16
  by_cases hc16 : p0 = (-43 : Int32)
  · have h_21 := ipos hc16 h_20
    refine fw_tin (off := 139) 140 (show decode _ _ = .ok (.tableswitch 281 (-48) (-24) #[265, 249, 233, 217, 201, 139, 131, 123, 115, 281, 281, 281, 281, 281, 281, 281, 281, 281, 281, 281, 281, 281, 281, 179, 157], 115) by decide +kernel) (by rw [hc16]; decide) (by rw [hc16]; decide) (by rw [hc16]; rfl) (by decide) ?_
    refine fw_lload_n (i := 3) 2 rfl (show decode _ _ = .ok (.lload_n 3, 1) by decide +kernel) ?_
    refine fw_lconst (v := (0 : Int64)) (show decode _ _ = .ok (.lconst 0, 1) by decide +kernel) (by decide) ?_
    refine fw_lcmp (show decode _ _ = .ok (.lcmp, 1) by decide +kernel) ?_
    refine fw_if_ne 150 (show decode _ _ = .ok (.ifCond .ne 7, 3) by decide +kernel) (by decide) (fun hc15 => ?_) (fun hc15 => ?_)
    · have h_22 := ineg hc15 h_21
      refine fw_lload_n (i := 1) 1 rfl (show decode _ _ = .ok (.lload_n 1, 1) by decide +kernel) ?_
      refine fw_lload_n (i := 3) 2 rfl (show decode _ _ = .ok (.lload_n 3, 1) by decide +kernel) ?_
      obtain ⟨hne14, h_23⟩ := h_22
      refine fw_ldiv (show decode _ _ = .ok (.ldiv, 1) by decide +kernel) hne14 ?_
      refine FW.sub [] (ls' := []) rfl ?_
      exact sj_X1_joined_153 hd h_23
    · have h_24 := ipos hc15 h_21
      refine fw_lconst (v := (0 : Int64)) (show decode _ _ = .ok (.lconst 0, 1) by decide +kernel) (by decide) ?_
      refine fw_goto 153 (show decode _ _ = .ok (.goto 6, 3) by decide +kernel) (by decide) ?_
      refine FW.sub [] (ls' := []) rfl ?_
      exact sj_X1_joined_153 hd h_24
  have h_25 := ineg hc16 h_20
  by_cases hc19 : p0 = (-42 : Int32)
  · have h_26 := ipos hc19 h_25
    refine fw_tin (off := 131) 132 (show decode _ _ = .ok (.tableswitch 281 (-48) (-24) #[265, 249, 233, 217, 201, 139, 131, 123, 115, 281, 281, 281, 281, 281, 281, 281, 281, 281, 281, 281, 281, 281, 281, 179, 157], 115) by decide +kernel) (by rw [hc19]; decide) (by rw [hc19]; decide) (by rw [hc19]; rfl) (by decide) ?_
    refine fw_lload_n (i := 1) 1 rfl (show decode _ _ = .ok (.lload_n 1, 1) by decide +kernel) ?_
    refine fw_lload_n (i := 3) 2 rfl (show decode _ _ = .ok (.lload_n 3, 1) by decide +kernel) ?_
    refine fw_lmul (show decode _ _ = .ok (.lmul, 1) by decide +kernel) ?_
    refine fw_nmJ (fun x17 ex18 => ?_)
    have h_27 := h_26 x17 ex18
    refine fw_lstore (i := 5) (ls' := [(5, .long x17), (0, .int p0), (1, .long p1), (3, .long p3)]) (show decode _ _ = .ok (.lstore 5, 2) by decide +kernel) (by decide) rfl ?_
    refine fw_goto 295 (show decode _ _ = .ok (.goto 158, 3) by decide +kernel) (by decide) ?_
    refine FW.sub [0] (ls' := [(5, .long x17)]) rfl ?_
    exact sj_X1_joined_295 hd h_27
  have h_28 := ineg hc19 h_25
  by_cases hc22 : p0 = (-41 : Int32)
  · have h_29 := ipos hc22 h_28
    refine fw_tin (off := 123) 124 (show decode _ _ = .ok (.tableswitch 281 (-48) (-24) #[265, 249, 233, 217, 201, 139, 131, 123, 115, 281, 281, 281, 281, 281, 281, 281, 281, 281, 281, 281, 281, 281, 281, 179, 157], 115) by decide +kernel) (by rw [hc22]; decide) (by rw [hc22]; decide) (by rw [hc22]; rfl) (by decide) ?_
    refine fw_lload_n (i := 1) 1 rfl (show decode _ _ = .ok (.lload_n 1, 1) by decide +kernel) ?_
    refine fw_lload_n (i := 3) 2 rfl (show decode _ _ = .ok (.lload_n 3, 1) by decide +kernel) ?_
    refine fw_lsub (show decode _ _ = .ok (.lsub, 1) by decide +kernel) ?_
    refine fw_nmJ (fun x20 ex21 => ?_)
    have h_30 := h_29 x20 ex21
    refine fw_lstore (i := 5) (ls' := [(5, .long x20), (0, .int p0), (1, .long p1), (3, .long p3)]) (show decode _ _ = .ok (.lstore 5, 2) by decide +kernel) (by decide) rfl ?_
    refine fw_goto 295 (show decode _ _ = .ok (.goto 166, 3) by decide +kernel) (by decide) ?_
    refine FW.sub [0] (ls' := [(5, .long x20)]) rfl ?_
    exact sj_X1_joined_295 hd h_30
  have h_31 := ineg hc22 h_28
  by_cases hc25 : p0 = (-40 : Int32)
  · have h_32 := ipos hc25 h_31
    refine fw_tin (off := 115) 116 (show decode _ _ = .ok (.tableswitch 281 (-48) (-24) #[265, 249, 233, 217, 201, 139, 131, 123, 115, 281, 281, 281, 281, 281, 281, 281, 281, 281, 281, 281, 281, 281, 281, 179, 157], 115) by decide +kernel) (by rw [hc25]; decide) (by rw [hc25]; decide) (by rw [hc25]; rfl) (by decide) ?_
    refine fw_lload_n (i := 1) 1 rfl (show decode _ _ = .ok (.lload_n 1, 1) by decide +kernel) ?_
    refine fw_lload_n (i := 3) 2 rfl (show decode _ _ = .ok (.lload_n 3, 1) by decide +kernel) ?_
    refine fw_ladd (show decode _ _ = .ok (.ladd, 1) by decide +kernel) ?_
    refine fw_nmJ (fun x23 ex24 => ?_)
    have h_33 := h_32 x23 ex24
    refine fw_lstore (i := 5) (ls' := [(5, .long x23), (0, .int p0), (1, .long p1), (3, .long p3)]) (show decode _ _ = .ok (.lstore 5, 2) by decide +kernel) (by decide) rfl ?_
    refine fw_goto 295 (show decode _ _ = .ok (.goto 174, 3) by decide +kernel) (by decide) ?_
    refine FW.sub [0] (ls' := [(5, .long x23)]) rfl ?_
    exact sj_X1_joined_295 hd h_33
  have h_34 := ineg hc25 h_31
  by_cases hc28 : p0 = (-25 : Int32)
  · have h_35 := ipos hc28 h_34
    refine fw_tin (off := 179) 180 (show decode _ _ = .ok (.tableswitch 281 (-48) (-24) #[265, 249, 233, 217, 201, 139, 131, 123, 115, 281, 281, 281, 281, 281, 281, 281, 281, 281, 281, 281, 281, 281, 281, 179, 157], 115) by decide +kernel) (by rw [hc28]; decide) (by rw [hc28]; decide) (by rw [hc28]; rfl) (by decide) ?_
    refine fw_lload_n (i := 1) 1 rfl (show decode _ _ = .ok (.lload_n 1, 1) by decide +kernel) ?_
    refine fw_lconst (v := (0 : Int64)) (show decode _ _ = .ok (.lconst 0, 1) by decide +kernel) (by decide) ?_
    refine fw_lcmp (show decode _ _ = .ok (.lcmp, 1) by decide +kernel) ?_
    refine fw_if_eq 196 (show decode _ _ = .ok (.ifCond .eq 13, 3) by decide +kernel) (by decide) (fun hc27 => ?_) (fun hc27 => ?_)
    · have h_36 := ipos hc27 h_35
      refine FW.sub [] (ls' := []) rfl ?_
      exact sj_X1_joined_196 hd h_36
    · have h_37 := ineg hc27 h_35
      refine fw_lload_n (i := 3) 2 rfl (show decode _ _ = .ok (.lload_n 3, 1) by decide +kernel) ?_
      refine fw_lconst (v := (0 : Int64)) (show decode _ _ = .ok (.lconst 0, 1) by decide +kernel) (by decide) ?_
      refine fw_lcmp (show decode _ _ = .ok (.lcmp, 1) by decide +kernel) ?_
      refine fw_if_eq 196 (show decode _ _ = .ok (.ifCond .eq 7, 3) by decide +kernel) (by decide) (fun hc26 => ?_) (fun hc26 => ?_)
      · have h_38 := ipos hc26 h_37
        refine FW.sub [] (ls' := []) rfl ?_
        exact sj_X1_joined_196 hd h_38
      · have h_39 := ineg hc26 h_37
        refine fw_lconst (v := (1 : Int64)) (show decode _ _ = .ok (.lconst 1, 1) by decide +kernel) (by decide) ?_
        refine fw_goto 197 (show decode _ _ = .ok (.goto 4, 3) by decide +kernel) (by decide) ?_
        refine FW.sub [] (ls' := []) rfl ?_
        exact sj_X1_joined_197 hd h_39
  have h_40 := ineg hc28 h_34
  by_cases hc31 : p0 = (-24 : Int32)
  · have h_41 := ipos hc31 h_40
    refine fw_tin (off := 157) 158 (show decode _ _ = .ok (.tableswitch 281 (-48) (-24) #[265, 249, 233, 217, 201, 139, 131, 123, 115, 281, 281, 281, 281, 281, 281, 281, 281, 281, 281, 281, 281, 281, 281, 179, 157], 115) by decide +kernel) (by rw [hc31]; decide) (by rw [hc31]; decide) (by rw [hc31]; rfl) (by decide) ?_
    refine fw_lload_n (i := 1) 1 rfl (show decode _ _ = .ok (.lload_n 1, 1) by decide +kernel) ?_
    refine fw_lconst (v := (0 : Int64)) (show decode _ _ = .ok (.lconst 0, 1) by decide +kernel) (by decide) ?_
    refine fw_lcmp (show decode _ _ = .ok (.lcmp, 1) by decide +kernel) ?_
    refine fw_if_ne 170 (show decode _ _ = .ok (.ifCond .ne 9, 3) by decide +kernel) (by decide) (fun hc30 => ?_) (fun hc30 => ?_)
    · have h_42 := ineg hc30 h_41
      refine FW.sub [] (ls' := []) rfl ?_
      exact sj_X1_joined_170 hd h_42
    · have h_43 := ipos hc30 h_41
      refine fw_lload_n (i := 3) 2 rfl (show decode _ _ = .ok (.lload_n 3, 1) by decide +kernel) ?_
      refine fw_lconst (v := (0 : Int64)) (show decode _ _ = .ok (.lconst 0, 1) by decide +kernel) (by decide) ?_
      refine fw_lcmp (show decode _ _ = .ok (.lcmp, 1) by decide +kernel) ?_
      refine fw_if_eq 174 (show decode _ _ = .ok (.ifCond .eq 7, 3) by decide +kernel) (by decide) (fun hc29 => ?_) (fun hc29 => ?_)
      · have h_44 := ipos hc29 h_43
        refine fw_lconst (v := (0 : Int64)) (show decode _ _ = .ok (.lconst 0, 1) by decide +kernel) (by decide) ?_
        refine FW.sub [] (ls' := []) rfl ?_
        exact sj_X1_joined_175 hd h_44
      · have h_45 := ineg hc29 h_43
        refine FW.sub [] (ls' := []) rfl ?_
        exact sj_X1_joined_170 hd h_45
  have h_46 := ineg hc31 h_40
  by_cases ho32 : Int32.toInt p0 < -48 ∨ -24 < Int32.toInt p0
  · refine fw_tout 282 (show decode _ _ = .ok (.tableswitch 281 (-48) (-24) #[265, 249, 233, 217, 201, 139, 131, 123, 115, 281, 281, 281, 281, 281, 281, 281, 281, 281, 281, 281, 281, 281, 281, 179, 157], 115) by decide +kernel) ho32 (by decide) ?_
    refine FW.sub [1, 2] (ls' := [(1, .long p1), (3, .long p3)]) rfl ?_
    exact sj_X1_joined_282 hd h_46
  have e33 := tsx_1048_1024 (Int32.toInt p0) ho32
  rcases e33 with e33 | e33 | e33 | e33 | e33 | e33 | e33 | e33 | e33 | e33 | e33 | e33 | e33 | e33 | e33 | e33 | e33 | e33 | e33 | e33 | e33 | e33 | e33 | e33 | e33
  · exact absurd (Int32.toInt_inj.mp (Eq.trans e33 rfl)) hc5
  · exact absurd (Int32.toInt_inj.mp (Eq.trans e33 rfl)) hc7
  · exact absurd (Int32.toInt_inj.mp (Eq.trans e33 rfl)) hc9
  · exact absurd (Int32.toInt_inj.mp (Eq.trans e33 rfl)) hc11
  · exact absurd (Int32.toInt_inj.mp (Eq.trans e33 rfl)) hc13
  · exact absurd (Int32.toInt_inj.mp (Eq.trans e33 rfl)) hc16
  · exact absurd (Int32.toInt_inj.mp (Eq.trans e33 rfl)) hc19
  · exact absurd (Int32.toInt_inj.mp (Eq.trans e33 rfl)) hc22
  · exact absurd (Int32.toInt_inj.mp (Eq.trans e33 rfl)) hc25
  · refine fw_tin (off := 281) 282 (show decode _ _ = .ok (.tableswitch 281 (-48) (-24) #[265, 249, 233, 217, 201, 139, 131, 123, 115, 281, 281, 281, 281, 281, 281, 281, 281, 281, 281, 281, 281, 281, 281, 179, 157], 115) by decide +kernel) (by rw [e33]; decide) (by rw [e33]; decide) (by rw [e33]; rfl) (by decide) ?_
    refine FW.sub [1, 2] (ls' := [(1, .long p1), (3, .long p3)]) rfl ?_
    exact sj_X1_joined_282 hd h_46
  · refine fw_tin (off := 281) 282 (show decode _ _ = .ok (.tableswitch 281 (-48) (-24) #[265, 249, 233, 217, 201, 139, 131, 123, 115, 281, 281, 281, 281, 281, 281, 281, 281, 281, 281, 281, 281, 281, 281, 179, 157], 115) by decide +kernel) (by rw [e33]; decide) (by rw [e33]; decide) (by rw [e33]; rfl) (by decide) ?_
    refine FW.sub [1, 2] (ls' := [(1, .long p1), (3, .long p3)]) rfl ?_
    exact sj_X1_joined_282 hd h_46
  · refine fw_tin (off := 281) 282 (show decode _ _ = .ok (.tableswitch 281 (-48) (-24) #[265, 249, 233, 217, 201, 139, 131, 123, 115, 281, 281, 281, 281, 281, 281, 281, 281, 281, 281, 281, 281, 281, 281, 179, 157], 115) by decide +kernel) (by rw [e33]; decide) (by rw [e33]; decide) (by rw [e33]; rfl) (by decide) ?_
    refine FW.sub [1, 2] (ls' := [(1, .long p1), (3, .long p3)]) rfl ?_
    exact sj_X1_joined_282 hd h_46
  · refine fw_tin (off := 281) 282 (show decode _ _ = .ok (.tableswitch 281 (-48) (-24) #[265, 249, 233, 217, 201, 139, 131, 123, 115, 281, 281, 281, 281, 281, 281, 281, 281, 281, 281, 281, 281, 281, 281, 179, 157], 115) by decide +kernel) (by rw [e33]; decide) (by rw [e33]; decide) (by rw [e33]; rfl) (by decide) ?_
    refine FW.sub [1, 2] (ls' := [(1, .long p1), (3, .long p3)]) rfl ?_
    exact sj_X1_joined_282 hd h_46
  · refine fw_tin (off := 281) 282 (show decode _ _ = .ok (.tableswitch 281 (-48) (-24) #[265, 249, 233, 217, 201, 139, 131, 123, 115, 281, 281, 281, 281, 281, 281, 281, 281, 281, 281, 281, 281, 281, 281, 179, 157], 115) by decide +kernel) (by rw [e33]; decide) (by rw [e33]; decide) (by rw [e33]; rfl) (by decide) ?_
    refine FW.sub [1, 2] (ls' := [(1, .long p1), (3, .long p3)]) rfl ?_
    exact sj_X1_joined_282 hd h_46
  · refine fw_tin (off := 281) 282 (show decode _ _ = .ok (.tableswitch 281 (-48) (-24) #[265, 249, 233, 217, 201, 139, 131, 123, 115, 281, 281, 281, 281, 281, 281, 281, 281, 281, 281, 281, 281, 281, 281, 179, 157], 115) by decide +kernel) (by rw [e33]; decide) (by rw [e33]; decide) (by rw [e33]; rfl) (by decide) ?_
    refine FW.sub [1, 2] (ls' := [(1, .long p1), (3, .long p3)]) rfl ?_
    exact sj_X1_joined_282 hd h_46
  · refine fw_tin (off := 281) 282 (show decode _ _ = .ok (.tableswitch 281 (-48) (-24) #[265, 249, 233, 217, 201, 139, 131, 123, 115, 281, 281, 281, 281, 281, 281, 281, 281, 281, 281, 281, 281, 281, 281, 179, 157], 115) by decide +kernel) (by rw [e33]; decide) (by rw [e33]; decide) (by rw [e33]; rfl) (by decide) ?_
    refine FW.sub [1, 2] (ls' := [(1, .long p1), (3, .long p3)]) rfl ?_
    exact sj_X1_joined_282 hd h_46
  · refine fw_tin (off := 281) 282 (show decode _ _ = .ok (.tableswitch 281 (-48) (-24) #[265, 249, 233, 217, 201, 139, 131, 123, 115, 281, 281, 281, 281, 281, 281, 281, 281, 281, 281, 281, 281, 281, 281, 179, 157], 115) by decide +kernel) (by rw [e33]; decide) (by rw [e33]; decide) (by rw [e33]; rfl) (by decide) ?_
    refine FW.sub [1, 2] (ls' := [(1, .long p1), (3, .long p3)]) rfl ?_
    exact sj_X1_joined_282 hd h_46
  · refine fw_tin (off := 281) 282 (show decode _ _ = .ok (.tableswitch 281 (-48) (-24) #[265, 249, 233, 217, 201, 139, 131, 123, 115, 281, 281, 281, 281, 281, 281, 281, 281, 281, 281, 281, 281, 281, 281, 179, 157], 115) by decide +kernel) (by rw [e33]; decide) (by rw [e33]; decide) (by rw [e33]; rfl) (by decide) ?_
    refine FW.sub [1, 2] (ls' := [(1, .long p1), (3, .long p3)]) rfl ?_
    exact sj_X1_joined_282 hd h_46
  · refine fw_tin (off := 281) 282 (show decode _ _ = .ok (.tableswitch 281 (-48) (-24) #[265, 249, 233, 217, 201, 139, 131, 123, 115, 281, 281, 281, 281, 281, 281, 281, 281, 281, 281, 281, 281, 281, 281, 179, 157], 115) by decide +kernel) (by rw [e33]; decide) (by rw [e33]; decide) (by rw [e33]; rfl) (by decide) ?_
    refine FW.sub [1, 2] (ls' := [(1, .long p1), (3, .long p3)]) rfl ?_
    exact sj_X1_joined_282 hd h_46
  · refine fw_tin (off := 281) 282 (show decode _ _ = .ok (.tableswitch 281 (-48) (-24) #[265, 249, 233, 217, 201, 139, 131, 123, 115, 281, 281, 281, 281, 281, 281, 281, 281, 281, 281, 281, 281, 281, 281, 179, 157], 115) by decide +kernel) (by rw [e33]; decide) (by rw [e33]; decide) (by rw [e33]; rfl) (by decide) ?_
    refine FW.sub [1, 2] (ls' := [(1, .long p1), (3, .long p3)]) rfl ?_
    exact sj_X1_joined_282 hd h_46
  · refine fw_tin (off := 281) 282 (show decode _ _ = .ok (.tableswitch 281 (-48) (-24) #[265, 249, 233, 217, 201, 139, 131, 123, 115, 281, 281, 281, 281, 281, 281, 281, 281, 281, 281, 281, 281, 281, 281, 179, 157], 115) by decide +kernel) (by rw [e33]; decide) (by rw [e33]; decide) (by rw [e33]; rfl) (by decide) ?_
    refine FW.sub [1, 2] (ls' := [(1, .long p1), (3, .long p3)]) rfl ?_
    exact sj_X1_joined_282 hd h_46
  · refine fw_tin (off := 281) 282 (show decode _ _ = .ok (.tableswitch 281 (-48) (-24) #[265, 249, 233, 217, 201, 139, 131, 123, 115, 281, 281, 281, 281, 281, 281, 281, 281, 281, 281, 281, 281, 281, 281, 179, 157], 115) by decide +kernel) (by rw [e33]; decide) (by rw [e33]; decide) (by rw [e33]; rfl) (by decide) ?_
    refine FW.sub [1, 2] (ls' := [(1, .long p1), (3, .long p3)]) rfl ?_
    exact sj_X1_joined_282 hd h_46
  · refine fw_tin (off := 281) 282 (show decode _ _ = .ok (.tableswitch 281 (-48) (-24) #[265, 249, 233, 217, 201, 139, 131, 123, 115, 281, 281, 281, 281, 281, 281, 281, 281, 281, 281, 281, 281, 281, 281, 179, 157], 115) by decide +kernel) (by rw [e33]; decide) (by rw [e33]; decide) (by rw [e33]; rfl) (by decide) ?_
    refine FW.sub [1, 2] (ls' := [(1, .long p1), (3, .long p3)]) rfl ?_
    exact sj_X1_joined_282 hd h_46
  · exact absurd (Int32.toInt_inj.mp (Eq.trans e33 rfl)) hc28
  · exact absurd (Int32.toInt_inj.mp (Eq.trans e33 rfl)) hc31
def j_X1_worked_237 (K49 : Nat → Int32 → Int32 → Int32 → fM → Prop) (φ : Int32 → fM → Prop) (p0 : Nat) (p2 : Int32) (p3 : Int32) (p4 : Int32) (s0 : Int32) (s1 : Int32) (s2 : Nat) (M : fM) : Prop := w_X10_put s2 s1 s0 M fun M1 => nm (p4 + (1 : Int32)) fun x2 => K49 p0 p2 p3 x2 M1
set_option maxRecDepth 100000 in
theorem sj_X1_worked_237 {g : GT} {d : Nat} (hd : 2 ≤ d + 1) {K49 : Nat → Int32 → Int32 → Int32 → fM → Prop} {φ : Int32 → fM → Prop} (hK49 : ∀ (p0 : Nat) (p2 : Int32) (p3 : Int32) (p4 : Int32) (M : fM), K49 p0 p2 p3 p4 M → FW g mtX1_worked (d + 1) 49 [(0, .ref p0), (2, .int p2), (3, .int p3), (4, .int p4)] [] M 0 0 (rI φ)) {p0 : Nat} {p2 : Int32} {p3 : Int32} {p4 : Int32} {s0 : Int32} {s1 : Int32} {s2 : Nat} {M : fM} (h : j_X1_worked_237 K49 φ p0 p2 p3 p4 s0 s1 s2 M) : FW g mtX1_worked (d + 1) 237 [(0, .ref p0), (2, .int p2), (3, .int p3), (4, .int p4)] [.int s0, .int s1, .ref s2] M 0 0 (rI φ) := by
  unfold j_X1_worked_237 at h
  refine fw_callSN (mt' := mtX10_put) (mc := 0) (ms := 0) (As := [.ref s2, .int s1, .int s0]) (rest := []) 3 "OneStepMore" (show decode _ _ = .ok (.invokestatic 87, 3) by decide +kernel) ns_X1_87 rfl (Nat.le_of_ble_eq_true rfl) (s_X10_put (d := d) (hd_le hd (by decide)) h) (by decide) (by decide) (kV (bc' := 0) (bs' := 0) (by decide) (by decide) (fun M1 h_1 => ?_))
  refine fw_goto 281 (show decode _ _ = .ok (.goto 41, 3) by decide +kernel) (by decide) ?_
  obtain ⟨x2, ex3⟩ : ∃ y : Int32, y = p4 + (1 : Int32) := ⟨_, rfl⟩
  have h_2 := h_1 x2 ex3
  refine fw_iinc (i := 4) (x := p4) (v := x2) (ls' := [(4, .int x2), (0, .ref p0), (2, .int p2), (3, .int p3)]) 3 rfl (show decode _ _ = .ok (.iinc 4 1, 3) by decide +kernel) (by rw [ex3]; rfl) (by decide) rfl ?_
  refine fw_goto 49 (show decode _ _ = .ok (.goto (-235), 3) by decide +kernel) (by decide) ?_
  refine FW.sub [1, 2, 3, 0] (ls' := [(0, .ref p0), (2, .int p2), (3, .int p3), (4, .int x2)]) rfl ?_
  exact hK49 _ _ _ _ _ h_2
def b_X1_worked_49 (K49 : Nat → Int32 → Int32 → Int32 → fM → Prop) (φ : Int32 → fM → Prop) (p0 : Nat) (p2 : Int32) (p3 : Int32) (p4 : Int32) (M : fM) : Prop := iF (p3 ≤ p4) (isO M p0 1 ∧ dR (mP M p0 1) fun y7 => inA M y7 12 (0 : Int32) ∧ φ (mI M y7 (ix (0 : Int32))) M) (isO M p0 1 ∧ nm (mP M p0 2) fun o15 => dR o15 fun y17 => isO M y17 8 ∧ dR (mP M y17 0) fun y22 => w_X10_cell y22 p4 M fun x25 M24 => iF (x25 < 0) (iF ((-100 : Int32) < x25) (iF (x25 = (-70 : Int32)) (isO M24 p0 1 ∧ dR (mP M24 p0 1) fun y92 => dR (mP M24 p0 1) fun y94 => w_X10_cell y94 (p2 - (1 : Int32)) M24 fun x97 M96 => w_X10_put y92 (p2 - (1 : Int32)) (-x97) M96 fun M98 => nm (p4 + (1 : Int32)) fun x99 => K49 p0 p2 p3 x99 M98) (iF (x25 = (-23 : Int32)) (isO M24 p0 1 ∧ dR (mP M24 p0 1) fun y79 => dR (mP M24 p0 1) fun y81 => w_X10_cell y81 (p2 - (1 : Int32)) M24 fun x84 M83 => w_X10_put y79 (p2 - (1 : Int32)) ((1 : Int32) - x84) M83 fun M85 => nm (p4 + (1 : Int32)) fun x86 => K49 p0 p2 p3 x86 M85) (iF (x25 = (-21 : Int32)) (nm (p2 + (-2 : Int32)) fun x49 => isO M24 p0 1 ∧ dR (mP M24 p0 1) fun y54 => dR (mP M24 p0 1) fun y56 => w_X10_cell y56 (x49 - (1 : Int32)) M24 fun x59 M58 => iF (x59 = 0) (isO M58 p0 1 ∧ dR (mP M58 p0 1) fun y63 => w_X10_cell y63 (x49 + (1 : Int32)) M58 fun x66 M65 => j_X1_worked_237 K49 φ p0 x49 p3 p4 x66 (x49 - (1 : Int32)) y54 M65) (isO M58 p0 1 ∧ dR (mP M58 p0 1) fun y70 => w_X10_cell y70 x49 M58 fun x73 M72 => j_X1_worked_237 K49 φ p0 x49 p3 p4 x73 (x49 - (1 : Int32)) y54 M72)) (nm (p2 + (-1 : Int32)) fun x26 => isO M24 p0 1 ∧ dR (mP M24 p0 1) fun y31 => dR (mP M24 p0 1) fun y33 => w_X10_cell y33 (x26 - (1 : Int32)) M24 fun x36 M35 => isO M35 p0 1 ∧ dR (mP M35 p0 1) fun y40 => w_X10_cell y40 x26 M35 fun x43 M42 => w_X1_joined x25 (Int32.toInt64 x36) (Int32.toInt64 x43) M42 fun x45 M44 => w_X10_put y31 (x26 - (1 : Int32)) x45 M44 fun M46 => nm (p4 + (1 : Int32)) fun x47 => K49 p0 x26 p3 x47 M46)))) (isO M24 p0 1 ∧ dR (mP M24 p0 1) fun y105 => dR (mP M24 p0 0) fun y107 => w_X10_cell y107 ((-100 : Int32) - x25) M24 fun x110 M109 => w_X10_put y105 p2 x110 M109 fun M111 => nm (p2 + (1 : Int32)) fun x112 => nm (p4 + (1 : Int32)) fun x114 => K49 p0 x112 p3 x114 M111)) (isO M24 p0 1 ∧ dR (mP M24 p0 1) fun y120 => w_X10_put y120 p2 x25 M24 fun M122 => nm (p2 + (1 : Int32)) fun x123 => nm (p4 + (1 : Int32)) fun x125 => K49 p0 x123 p3 x125 M122))
def l_X1_worked_49 (φ : Int32 → fM → Prop) : Nat → Nat → Int32 → Int32 → Int32 → fM → Prop
  | 0, _, _, _, _, _ => False
  | n + 1, p0, p2, p3, p4, M => b_X1_worked_49 (l_X1_worked_49 φ n) φ p0 p2 p3 p4 M
set_option maxRecDepth 100000 in
theorem sb_X1_worked_49 {g : GT} {d : Nat} (hd : 2 ≤ d + 1) {K49 : Nat → Int32 → Int32 → Int32 → fM → Prop} {φ : Int32 → fM → Prop} (hK49 : ∀ (p0 : Nat) (p2 : Int32) (p3 : Int32) (p4 : Int32) (M : fM), K49 p0 p2 p3 p4 M → FW g mtX1_worked (d + 1) 49 [(0, .ref p0), (2, .int p2), (3, .int p3), (4, .int p4)] [] M 0 0 (rI φ)) {p0 : Nat} {p2 : Int32} {p3 : Int32} {p4 : Int32} {M : fM} (h : b_X1_worked_49 K49 φ p0 p2 p3 p4 M) : FW g mtX1_worked (d + 1) 49 [(0, .ref p0), (2, .int p2), (3, .int p3), (4, .int p4)] [] M 0 0 (rI φ) := by
  unfold b_X1_worked_49 at h
  refine fw_iload (i := 4) 3 rfl (show decode _ _ = .ok (.iload 4, 2) by decide +kernel) ?_
  refine fw_iload_n (i := 3) 2 rfl (show decode _ _ = .ok (.iload_n 3, 1) by decide +kernel) ?_
  refine fw_icmp_ge 287 (show decode _ _ = .ok (.if_icmp .ge 235, 3) by decide +kernel) (by decide) (fun hc128 => ?_) (fun hc128 => ?_)
  · have h_1 := ipos hc128 h
    refine fw_aload_n (i := 0) 0 rfl (show decode _ _ = .ok (.aload_n 0, 1) by decide +kernel) ?_
    obtain ⟨⟨hr5, n4, hs6⟩, h_2⟩ := h_1
    refine fw_getP (kd := 1) (k := 1) (show decode _ _ = .ok (.getfield 15, 3) by decide +kernel) gf_X1_15 hr5 hs6 rfl ?_
    have h_3 := dR_e h_2
    obtain ⟨y7, hy8, h_4⟩ := h_3
    refine fw_deref hy8 ?_
    refine fw_iconst (v := (0 : Int32)) (show decode _ _ = .ok (.iconst 0, 1) by decide +kernel) (by decide) ?_
    obtain ⟨⟨n9, hs10, hi11⟩, h_5⟩ := h_4
    refine fw_iald (show decode _ _ = .ok (.iaload, 1) by decide +kernel) hs10 hi11 ?_
    exact fw_ret (v := some (.int (mI M y7 (ix (0 : Int32))))) .ireturn (show decode _ _ = .ok (.ireturn, 1) by decide +kernel) ⟨rfl, Or.inl rfl⟩ ⟨_, rfl, h_5⟩
  · have h_6 := ineg hc128 h
    refine fw_aload_n (i := 0) 0 rfl (show decode _ _ = .ok (.aload_n 0, 1) by decide +kernel) ?_
    obtain ⟨⟨hr13, n12, hs14⟩, h_7⟩ := h_6
    refine fw_getP (kd := 1) (k := 2) (show decode _ _ = .ok (.getfield 24, 3) by decide +kernel) gf_X1_24 hr13 hs14 rfl ?_
    refine fw_nmP (fun o15 eo16 => ?_)
    have h_8 := h_7 o15 eo16
    have h_9 := dR_e h_8
    obtain ⟨y17, hy18, h_10⟩ := h_9
    subst hy18
    obtain ⟨⟨hr20, n19, hs21⟩, h_11⟩ := h_10
    refine fw_getP (kd := 8) (k := 0) (show decode _ _ = .ok (.getfield 84, 3) by decide +kernel) gf_X1_84 hr20 hs21 rfl ?_
    have h_12 := dR_e h_11
    obtain ⟨y22, hy23, h_13⟩ := h_12
    refine fw_deref hy23 ?_
    refine fw_iload (i := 4) 3 rfl (show decode _ _ = .ok (.iload 4, 2) by decide +kernel) ?_
    refine fw_callSN (mt' := mtX10_cell) (mc := 0) (ms := 0) (As := [.ref y22, .int p4]) (rest := []) 2 "OneStepMore" (show decode _ _ = .ok (.invokestatic 31, 3) by decide +kernel) ns_X1_31 rfl (Nat.le_of_ble_eq_true rfl) (s_X10_cell (d := d) (hd_le hd (by decide)) h_13) (by decide) (by decide) (kI (bc' := 0) (bs' := 0) (by decide) (by decide) (fun x25 M24 h_14 => ?_))
    refine fw_istore (i := 5) (ls' := [(5, .int x25), (0, .ref p0), (2, .int p2), (3, .int p3), (4, .int p4)]) (show decode _ _ = .ok (.istore 5, 2) by decide +kernel) (by decide) rfl ?_
    refine fw_iload (i := 5) 0 rfl (show decode _ _ = .ok (.iload 5, 2) by decide +kernel) ?_
    refine fw_if_lt 90 (show decode _ _ = .ok (.ifCond .lt 19, 3) by decide +kernel) (by decide) (fun hc127 => ?_) (fun hc127 => ?_)
    · have h_15 := ipos hc127 h_14
      refine fw_iload (i := 5) 0 rfl (show decode _ _ = .ok (.iload 5, 2) by decide +kernel) ?_
      refine fw_bipush (v := (-100 : Int32)) (show decode _ _ = .ok (.bipush (-100), 2) by decide +kernel) (by decide) ?_
      refine fw_icmp_gt 123 (show decode _ _ = .ok (.if_icmp .gt 29, 3) by decide +kernel) (by decide) (fun hc116 => ?_) (fun hc116 => ?_)
      · have h_16 := ipos hc116 h_15
        refine fw_iload (i := 5) 0 rfl (show decode _ _ = .ok (.iload 5, 2) by decide +kernel) ?_
        refine fw_bipush (v := (-70 : Int32)) (show decode _ _ = .ok (.bipush (-70), 2) by decide +kernel) (by decide) ?_
        refine fw_icmp_ne 154 (show decode _ _ = .ok (.if_icmp .ne 27, 3) by decide +kernel) (by decide) (fun hc101 => ?_) (fun hc101 => ?_)
        · have h_17 := ineg hc101 h_16
          refine fw_iload (i := 5) 0 rfl (show decode _ _ = .ok (.iload 5, 2) by decide +kernel) ?_
          refine fw_bipush (v := (-23 : Int32)) (show decode _ _ = .ok (.bipush (-23), 2) by decide +kernel) (by decide) ?_
          refine fw_icmp_ne 186 (show decode _ _ = .ok (.if_icmp .ne 28, 3) by decide +kernel) (by decide) (fun hc88 => ?_) (fun hc88 => ?_)
          · have h_18 := ineg hc88 h_17
            refine fw_iload (i := 5) 0 rfl (show decode _ _ = .ok (.iload 5, 2) by decide +kernel) ?_
            refine fw_bipush (v := (-21 : Int32)) (show decode _ _ = .ok (.bipush (-21), 2) by decide +kernel) (by decide) ?_
            refine fw_icmp_ne 243 (show decode _ _ = .ok (.if_icmp .ne 53, 3) by decide +kernel) (by decide) (fun hc75 => ?_) (fun hc75 => ?_)
            · have h_19 := ineg hc75 h_18
              obtain ⟨x26, ex27⟩ : ∃ y : Int32, y = p2 + (-1 : Int32) := ⟨_, rfl⟩
              have h_20 := h_19 x26 ex27
              refine fw_iinc (i := 2) (x := p2) (v := x26) (ls' := [(2, .int x26), (5, .int x25), (0, .ref p0), (3, .int p3), (4, .int p4)]) 2 rfl (show decode _ _ = .ok (.iinc 2 (-1), 3) by decide +kernel) (by rw [ex27]; rfl) (by decide) rfl ?_
              refine fw_aload_n (i := 0) 2 rfl (show decode _ _ = .ok (.aload_n 0, 1) by decide +kernel) ?_
              obtain ⟨⟨hr29, n28, hs30⟩, h_21⟩ := h_20
              refine fw_getP (kd := 1) (k := 1) (show decode _ _ = .ok (.getfield 15, 3) by decide +kernel) gf_X1_15 hr29 hs30 rfl ?_
              have h_22 := dR_e h_21
              obtain ⟨y31, hy32, h_23⟩ := h_22
              refine fw_deref hy32 ?_
              refine fw_iload_n (i := 2) 0 rfl (show decode _ _ = .ok (.iload_n 2, 1) by decide +kernel) ?_
              refine fw_iconst (v := (1 : Int32)) (show decode _ _ = .ok (.iconst 1, 1) by decide +kernel) (by decide) ?_
              refine fw_isub (show decode _ _ = .ok (.isub, 1) by decide +kernel) ?_
              refine fw_iload (i := 5) 1 rfl (show decode _ _ = .ok (.iload 5, 2) by decide +kernel) ?_
              refine fw_aload_n (i := 0) 2 rfl (show decode _ _ = .ok (.aload_n 0, 1) by decide +kernel) ?_
              refine fw_getP (kd := 1) (k := 1) (show decode _ _ = .ok (.getfield 15, 3) by decide +kernel) gf_X1_15 hr29 hs30 rfl ?_
              have h_24 := dR_e h_23
              obtain ⟨y33, hy34, h_25⟩ := h_24
              refine fw_deref hy34 ?_
              refine fw_iload_n (i := 2) 0 rfl (show decode _ _ = .ok (.iload_n 2, 1) by decide +kernel) ?_
              refine fw_iconst (v := (1 : Int32)) (show decode _ _ = .ok (.iconst 1, 1) by decide +kernel) (by decide) ?_
              refine fw_isub (show decode _ _ = .ok (.isub, 1) by decide +kernel) ?_
              refine fw_callSN (mt' := mtX10_cell) (mc := 0) (ms := 0) (As := [.ref y33, .int (x26 - (1 : Int32))]) (rest := [.int x25, .int (x26 - (1 : Int32)), .ref y31]) 2 "OneStepMore" (show decode _ _ = .ok (.invokestatic 31, 3) by decide +kernel) ns_X1_31 rfl (Nat.le_of_ble_eq_true rfl) (s_X10_cell (d := d) (hd_le hd (by decide)) h_25) (by decide) (by decide) (kI (bc' := 0) (bs' := 0) (by decide) (by decide) (fun x36 M35 h_26 => ?_))
              refine fw_i2l (show decode _ _ = .ok (.i2l, 1) by decide +kernel) ?_
              refine fw_aload_n (i := 0) 2 rfl (show decode _ _ = .ok (.aload_n 0, 1) by decide +kernel) ?_
              obtain ⟨⟨hr38, n37, hs39⟩, h_27⟩ := h_26
              refine fw_getP (kd := 1) (k := 1) (show decode _ _ = .ok (.getfield 15, 3) by decide +kernel) gf_X1_15 hr38 hs39 rfl ?_
              have h_28 := dR_e h_27
              obtain ⟨y40, hy41, h_29⟩ := h_28
              refine fw_deref hy41 ?_
              refine fw_iload_n (i := 2) 0 rfl (show decode _ _ = .ok (.iload_n 2, 1) by decide +kernel) ?_
              refine fw_callSN (mt' := mtX10_cell) (mc := 0) (ms := 0) (As := [.ref y40, .int x26]) (rest := [.long (Int32.toInt64 x36), .int x25, .int (x26 - (1 : Int32)), .ref y31]) 2 "OneStepMore" (show decode _ _ = .ok (.invokestatic 31, 3) by decide +kernel) ns_X1_31 rfl (Nat.le_of_ble_eq_true rfl) (s_X10_cell (d := d) (hd_le hd (by decide)) h_29) (by decide) (by decide) (kI (bc' := 0) (bs' := 0) (by decide) (by decide) (fun x43 M42 h_30 => ?_))
              refine fw_i2l (show decode _ _ = .ok (.i2l, 1) by decide +kernel) ?_
              refine fw_callS (mt' := mtX1_joined) (mc := 0) (ms := 0) (As := [.int x25, .long (Int32.toInt64 x36), .long (Int32.toInt64 x43)]) (rest := [.int (x26 - (1 : Int32)), .ref y31]) 3 (show decode _ _ = .ok (.invokestatic 91, 3) by decide +kernel) cs_X1_91 rfl (Nat.le_of_ble_eq_true rfl) (s_X1_joined (d := d) (hd_le hd (by decide)) h_30) (by decide) (by decide) (kI (bc' := 0) (bs' := 0) (by decide) (by decide) (fun x45 M44 h_31 => ?_))
              refine fw_callSN (mt' := mtX10_put) (mc := 0) (ms := 0) (As := [.ref y31, .int (x26 - (1 : Int32)), .int x45]) (rest := []) 3 "OneStepMore" (show decode _ _ = .ok (.invokestatic 87, 3) by decide +kernel) ns_X1_87 rfl (Nat.le_of_ble_eq_true rfl) (s_X10_put (d := d) (hd_le hd (by decide)) h_31) (by decide) (by decide) (kV (bc' := 0) (bs' := 0) (by decide) (by decide) (fun M46 h_32 => ?_))
              obtain ⟨x47, ex48⟩ : ∃ y : Int32, y = p4 + (1 : Int32) := ⟨_, rfl⟩
              have h_33 := h_32 x47 ex48
              refine fw_iinc (i := 4) (x := p4) (v := x47) (ls' := [(4, .int x47), (2, .int x26), (5, .int x25), (0, .ref p0), (3, .int p3)]) 4 rfl (show decode _ _ = .ok (.iinc 4 1, 3) by decide +kernel) (by rw [ex48]; rfl) (by decide) rfl ?_
              refine fw_goto 49 (show decode _ _ = .ok (.goto (-235), 3) by decide +kernel) (by decide) ?_
              refine FW.sub [3, 1, 4, 0] (ls' := [(0, .ref p0), (2, .int x26), (3, .int p3), (4, .int x47)]) rfl ?_
              exact hK49 _ _ _ _ _ h_33
            · have h_34 := ipos hc75 h_18
              obtain ⟨x49, ex50⟩ : ∃ y : Int32, y = p2 + (-2 : Int32) := ⟨_, rfl⟩
              have h_35 := h_34 x49 ex50
              refine fw_iinc (i := 2) (x := p2) (v := x49) (ls' := [(2, .int x49), (5, .int x25), (0, .ref p0), (3, .int p3), (4, .int p4)]) 2 rfl (show decode _ _ = .ok (.iinc 2 (-2), 3) by decide +kernel) (by rw [ex50]; rfl) (by decide) rfl ?_
              refine fw_aload_n (i := 0) 2 rfl (show decode _ _ = .ok (.aload_n 0, 1) by decide +kernel) ?_
              obtain ⟨⟨hr52, n51, hs53⟩, h_36⟩ := h_35
              refine fw_getP (kd := 1) (k := 1) (show decode _ _ = .ok (.getfield 15, 3) by decide +kernel) gf_X1_15 hr52 hs53 rfl ?_
              have h_37 := dR_e h_36
              obtain ⟨y54, hy55, h_38⟩ := h_37
              refine fw_deref hy55 ?_
              refine fw_iload_n (i := 2) 0 rfl (show decode _ _ = .ok (.iload_n 2, 1) by decide +kernel) ?_
              refine fw_iconst (v := (1 : Int32)) (show decode _ _ = .ok (.iconst 1, 1) by decide +kernel) (by decide) ?_
              refine fw_isub (show decode _ _ = .ok (.isub, 1) by decide +kernel) ?_
              refine fw_aload_n (i := 0) 2 rfl (show decode _ _ = .ok (.aload_n 0, 1) by decide +kernel) ?_
              refine fw_getP (kd := 1) (k := 1) (show decode _ _ = .ok (.getfield 15, 3) by decide +kernel) gf_X1_15 hr52 hs53 rfl ?_
              have h_39 := dR_e h_38
              obtain ⟨y56, hy57, h_40⟩ := h_39
              refine fw_deref hy57 ?_
              refine fw_iload_n (i := 2) 0 rfl (show decode _ _ = .ok (.iload_n 2, 1) by decide +kernel) ?_
              refine fw_iconst (v := (1 : Int32)) (show decode _ _ = .ok (.iconst 1, 1) by decide +kernel) (by decide) ?_
              refine fw_isub (show decode _ _ = .ok (.isub, 1) by decide +kernel) ?_
              refine fw_callSN (mt' := mtX10_cell) (mc := 0) (ms := 0) (As := [.ref y56, .int (x49 - (1 : Int32))]) (rest := [.int (x49 - (1 : Int32)), .ref y54]) 2 "OneStepMore" (show decode _ _ = .ok (.invokestatic 31, 3) by decide +kernel) ns_X1_31 rfl (Nat.le_of_ble_eq_true rfl) (s_X10_cell (d := d) (hd_le hd (by decide)) h_40) (by decide) (by decide) (kI (bc' := 0) (bs' := 0) (by decide) (by decide) (fun x59 M58 h_41 => ?_))
              refine fw_if_eq 227 (show decode _ _ = .ok (.ifCond .eq 14, 3) by decide +kernel) (by decide) (fun hc74 => ?_) (fun hc74 => ?_)
              · have h_42 := ipos hc74 h_41
                refine fw_aload_n (i := 0) 2 rfl (show decode _ _ = .ok (.aload_n 0, 1) by decide +kernel) ?_
                obtain ⟨⟨hr61, n60, hs62⟩, h_43⟩ := h_42
                refine fw_getP (kd := 1) (k := 1) (show decode _ _ = .ok (.getfield 15, 3) by decide +kernel) gf_X1_15 hr61 hs62 rfl ?_
                have h_44 := dR_e h_43
                obtain ⟨y63, hy64, h_45⟩ := h_44
                refine fw_deref hy64 ?_
                refine fw_iload_n (i := 2) 0 rfl (show decode _ _ = .ok (.iload_n 2, 1) by decide +kernel) ?_
                refine fw_iconst (v := (1 : Int32)) (show decode _ _ = .ok (.iconst 1, 1) by decide +kernel) (by decide) ?_
                refine fw_iadd (show decode _ _ = .ok (.iadd, 1) by decide +kernel) ?_
                refine fw_callSN (mt' := mtX10_cell) (mc := 0) (ms := 0) (As := [.ref y63, .int (x49 + (1 : Int32))]) (rest := [.int (x49 - (1 : Int32)), .ref y54]) 2 "OneStepMore" (show decode _ _ = .ok (.invokestatic 31, 3) by decide +kernel) ns_X1_31 rfl (Nat.le_of_ble_eq_true rfl) (s_X10_cell (d := d) (hd_le hd (by decide)) h_45) (by decide) (by decide) (kI (bc' := 0) (bs' := 0) (by decide) (by decide) (fun x66 M65 h_46 => ?_))
                refine FW.sub [2, 0, 3, 4] (ls' := [(0, .ref p0), (2, .int x49), (3, .int p3), (4, .int p4)]) rfl ?_
                exact sj_X1_worked_237 hd hK49 h_46
              · have h_47 := ineg hc74 h_41
                refine fw_aload_n (i := 0) 2 rfl (show decode _ _ = .ok (.aload_n 0, 1) by decide +kernel) ?_
                obtain ⟨⟨hr68, n67, hs69⟩, h_48⟩ := h_47
                refine fw_getP (kd := 1) (k := 1) (show decode _ _ = .ok (.getfield 15, 3) by decide +kernel) gf_X1_15 hr68 hs69 rfl ?_
                have h_49 := dR_e h_48
                obtain ⟨y70, hy71, h_50⟩ := h_49
                refine fw_deref hy71 ?_
                refine fw_iload_n (i := 2) 0 rfl (show decode _ _ = .ok (.iload_n 2, 1) by decide +kernel) ?_
                refine fw_callSN (mt' := mtX10_cell) (mc := 0) (ms := 0) (As := [.ref y70, .int x49]) (rest := [.int (x49 - (1 : Int32)), .ref y54]) 2 "OneStepMore" (show decode _ _ = .ok (.invokestatic 31, 3) by decide +kernel) ns_X1_31 rfl (Nat.le_of_ble_eq_true rfl) (s_X10_cell (d := d) (hd_le hd (by decide)) h_50) (by decide) (by decide) (kI (bc' := 0) (bs' := 0) (by decide) (by decide) (fun x73 M72 h_51 => ?_))
                refine fw_goto 237 (show decode _ _ = .ok (.goto 13, 3) by decide +kernel) (by decide) ?_
                refine FW.sub [2, 0, 3, 4] (ls' := [(0, .ref p0), (2, .int x49), (3, .int p3), (4, .int p4)]) rfl ?_
                exact sj_X1_worked_237 hd hK49 h_51
          · have h_52 := ipos hc88 h_17
            refine fw_aload_n (i := 0) 1 rfl (show decode _ _ = .ok (.aload_n 0, 1) by decide +kernel) ?_
            obtain ⟨⟨hr77, n76, hs78⟩, h_53⟩ := h_52
            refine fw_getP (kd := 1) (k := 1) (show decode _ _ = .ok (.getfield 15, 3) by decide +kernel) gf_X1_15 hr77 hs78 rfl ?_
            have h_54 := dR_e h_53
            obtain ⟨y79, hy80, h_55⟩ := h_54
            refine fw_deref hy80 ?_
            refine fw_iload_n (i := 2) 2 rfl (show decode _ _ = .ok (.iload_n 2, 1) by decide +kernel) ?_
            refine fw_iconst (v := (1 : Int32)) (show decode _ _ = .ok (.iconst 1, 1) by decide +kernel) (by decide) ?_
            refine fw_isub (show decode _ _ = .ok (.isub, 1) by decide +kernel) ?_
            refine fw_iconst (v := (1 : Int32)) (show decode _ _ = .ok (.iconst 1, 1) by decide +kernel) (by decide) ?_
            refine fw_aload_n (i := 0) 1 rfl (show decode _ _ = .ok (.aload_n 0, 1) by decide +kernel) ?_
            refine fw_getP (kd := 1) (k := 1) (show decode _ _ = .ok (.getfield 15, 3) by decide +kernel) gf_X1_15 hr77 hs78 rfl ?_
            have h_56 := dR_e h_55
            obtain ⟨y81, hy82, h_57⟩ := h_56
            refine fw_deref hy82 ?_
            refine fw_iload_n (i := 2) 2 rfl (show decode _ _ = .ok (.iload_n 2, 1) by decide +kernel) ?_
            refine fw_iconst (v := (1 : Int32)) (show decode _ _ = .ok (.iconst 1, 1) by decide +kernel) (by decide) ?_
            refine fw_isub (show decode _ _ = .ok (.isub, 1) by decide +kernel) ?_
            refine fw_callSN (mt' := mtX10_cell) (mc := 0) (ms := 0) (As := [.ref y81, .int (p2 - (1 : Int32))]) (rest := [.int (1 : Int32), .int (p2 - (1 : Int32)), .ref y79]) 2 "OneStepMore" (show decode _ _ = .ok (.invokestatic 31, 3) by decide +kernel) ns_X1_31 rfl (Nat.le_of_ble_eq_true rfl) (s_X10_cell (d := d) (hd_le hd (by decide)) h_57) (by decide) (by decide) (kI (bc' := 0) (bs' := 0) (by decide) (by decide) (fun x84 M83 h_58 => ?_))
            refine fw_isub (show decode _ _ = .ok (.isub, 1) by decide +kernel) ?_
            refine fw_callSN (mt' := mtX10_put) (mc := 0) (ms := 0) (As := [.ref y79, .int (p2 - (1 : Int32)), .int ((1 : Int32) - x84)]) (rest := []) 3 "OneStepMore" (show decode _ _ = .ok (.invokestatic 87, 3) by decide +kernel) ns_X1_87 rfl (Nat.le_of_ble_eq_true rfl) (s_X10_put (d := d) (hd_le hd (by decide)) h_58) (by decide) (by decide) (kV (bc' := 0) (bs' := 0) (by decide) (by decide) (fun M85 h_59 => ?_))
            refine fw_goto 281 (show decode _ _ = .ok (.goto 98, 3) by decide +kernel) (by decide) ?_
            obtain ⟨x86, ex87⟩ : ∃ y : Int32, y = p4 + (1 : Int32) := ⟨_, rfl⟩
            have h_60 := h_59 x86 ex87
            refine fw_iinc (i := 4) (x := p4) (v := x86) (ls' := [(4, .int x86), (5, .int x25), (0, .ref p0), (2, .int p2), (3, .int p3)]) 4 rfl (show decode _ _ = .ok (.iinc 4 1, 3) by decide +kernel) (by rw [ex87]; rfl) (by decide) rfl ?_
            refine fw_goto 49 (show decode _ _ = .ok (.goto (-235), 3) by decide +kernel) (by decide) ?_
            refine FW.sub [2, 3, 4, 0] (ls' := [(0, .ref p0), (2, .int p2), (3, .int p3), (4, .int x86)]) rfl ?_
            exact hK49 _ _ _ _ _ h_60
        · have h_61 := ipos hc101 h_16
          refine fw_aload_n (i := 0) 1 rfl (show decode _ _ = .ok (.aload_n 0, 1) by decide +kernel) ?_
          obtain ⟨⟨hr90, n89, hs91⟩, h_62⟩ := h_61
          refine fw_getP (kd := 1) (k := 1) (show decode _ _ = .ok (.getfield 15, 3) by decide +kernel) gf_X1_15 hr90 hs91 rfl ?_
          have h_63 := dR_e h_62
          obtain ⟨y92, hy93, h_64⟩ := h_63
          refine fw_deref hy93 ?_
          refine fw_iload_n (i := 2) 2 rfl (show decode _ _ = .ok (.iload_n 2, 1) by decide +kernel) ?_
          refine fw_iconst (v := (1 : Int32)) (show decode _ _ = .ok (.iconst 1, 1) by decide +kernel) (by decide) ?_
          refine fw_isub (show decode _ _ = .ok (.isub, 1) by decide +kernel) ?_
          refine fw_aload_n (i := 0) 1 rfl (show decode _ _ = .ok (.aload_n 0, 1) by decide +kernel) ?_
          refine fw_getP (kd := 1) (k := 1) (show decode _ _ = .ok (.getfield 15, 3) by decide +kernel) gf_X1_15 hr90 hs91 rfl ?_
          have h_65 := dR_e h_64
          obtain ⟨y94, hy95, h_66⟩ := h_65
          refine fw_deref hy95 ?_
          refine fw_iload_n (i := 2) 2 rfl (show decode _ _ = .ok (.iload_n 2, 1) by decide +kernel) ?_
          refine fw_iconst (v := (1 : Int32)) (show decode _ _ = .ok (.iconst 1, 1) by decide +kernel) (by decide) ?_
          refine fw_isub (show decode _ _ = .ok (.isub, 1) by decide +kernel) ?_
          refine fw_callSN (mt' := mtX10_cell) (mc := 0) (ms := 0) (As := [.ref y94, .int (p2 - (1 : Int32))]) (rest := [.int (p2 - (1 : Int32)), .ref y92]) 2 "OneStepMore" (show decode _ _ = .ok (.invokestatic 31, 3) by decide +kernel) ns_X1_31 rfl (Nat.le_of_ble_eq_true rfl) (s_X10_cell (d := d) (hd_le hd (by decide)) h_66) (by decide) (by decide) (kI (bc' := 0) (bs' := 0) (by decide) (by decide) (fun x97 M96 h_67 => ?_))
          refine fw_ineg (show decode _ _ = .ok (.ineg, 1) by decide +kernel) ?_
          refine fw_callSN (mt' := mtX10_put) (mc := 0) (ms := 0) (As := [.ref y92, .int (p2 - (1 : Int32)), .int (-x97)]) (rest := []) 3 "OneStepMore" (show decode _ _ = .ok (.invokestatic 87, 3) by decide +kernel) ns_X1_87 rfl (Nat.le_of_ble_eq_true rfl) (s_X10_put (d := d) (hd_le hd (by decide)) h_67) (by decide) (by decide) (kV (bc' := 0) (bs' := 0) (by decide) (by decide) (fun M98 h_68 => ?_))
          refine fw_goto 281 (show decode _ _ = .ok (.goto 130, 3) by decide +kernel) (by decide) ?_
          obtain ⟨x99, ex100⟩ : ∃ y : Int32, y = p4 + (1 : Int32) := ⟨_, rfl⟩
          have h_69 := h_68 x99 ex100
          refine fw_iinc (i := 4) (x := p4) (v := x99) (ls' := [(4, .int x99), (5, .int x25), (0, .ref p0), (2, .int p2), (3, .int p3)]) 4 rfl (show decode _ _ = .ok (.iinc 4 1, 3) by decide +kernel) (by rw [ex100]; rfl) (by decide) rfl ?_
          refine fw_goto 49 (show decode _ _ = .ok (.goto (-235), 3) by decide +kernel) (by decide) ?_
          refine FW.sub [2, 3, 4, 0] (ls' := [(0, .ref p0), (2, .int p2), (3, .int p3), (4, .int x99)]) rfl ?_
          exact hK49 _ _ _ _ _ h_69
      · have h_70 := ineg hc116 h_15
        refine fw_aload_n (i := 0) 1 rfl (show decode _ _ = .ok (.aload_n 0, 1) by decide +kernel) ?_
        obtain ⟨⟨hr103, n102, hs104⟩, h_71⟩ := h_70
        refine fw_getP (kd := 1) (k := 1) (show decode _ _ = .ok (.getfield 15, 3) by decide +kernel) gf_X1_15 hr103 hs104 rfl ?_
        have h_72 := dR_e h_71
        obtain ⟨y105, hy106, h_73⟩ := h_72
        refine fw_deref hy106 ?_
        refine fw_iload_n (i := 2) 2 rfl (show decode _ _ = .ok (.iload_n 2, 1) by decide +kernel) ?_
        refine fw_aload_n (i := 0) 1 rfl (show decode _ _ = .ok (.aload_n 0, 1) by decide +kernel) ?_
        refine fw_getP (kd := 1) (k := 0) (show decode _ _ = .ok (.getfield 9, 3) by decide +kernel) gf_X1_9 hr103 hs104 rfl ?_
        have h_74 := dR_e h_73
        obtain ⟨y107, hy108, h_75⟩ := h_74
        refine fw_deref hy108 ?_
        refine fw_bipush (v := (-100 : Int32)) (show decode _ _ = .ok (.bipush (-100), 2) by decide +kernel) (by decide) ?_
        refine fw_iload (i := 5) 0 rfl (show decode _ _ = .ok (.iload 5, 2) by decide +kernel) ?_
        refine fw_isub (show decode _ _ = .ok (.isub, 1) by decide +kernel) ?_
        refine fw_callSN (mt' := mtX10_cell) (mc := 0) (ms := 0) (As := [.ref y107, .int ((-100 : Int32) - x25)]) (rest := [.int p2, .ref y105]) 2 "OneStepMore" (show decode _ _ = .ok (.invokestatic 31, 3) by decide +kernel) ns_X1_31 rfl (Nat.le_of_ble_eq_true rfl) (s_X10_cell (d := d) (hd_le hd (by decide)) h_75) (by decide) (by decide) (kI (bc' := 0) (bs' := 0) (by decide) (by decide) (fun x110 M109 h_76 => ?_))
        refine fw_callSN (mt' := mtX10_put) (mc := 0) (ms := 0) (As := [.ref y105, .int p2, .int x110]) (rest := []) 3 "OneStepMore" (show decode _ _ = .ok (.invokestatic 87, 3) by decide +kernel) ns_X1_87 rfl (Nat.le_of_ble_eq_true rfl) (s_X10_put (d := d) (hd_le hd (by decide)) h_76) (by decide) (by decide) (kV (bc' := 0) (bs' := 0) (by decide) (by decide) (fun M111 h_77 => ?_))
        obtain ⟨x112, ex113⟩ : ∃ y : Int32, y = p2 + (1 : Int32) := ⟨_, rfl⟩
        have h_78 := h_77 x112 ex113
        refine fw_iinc (i := 2) (x := p2) (v := x112) (ls' := [(2, .int x112), (5, .int x25), (0, .ref p0), (3, .int p3), (4, .int p4)]) 2 rfl (show decode _ _ = .ok (.iinc 2 1, 3) by decide +kernel) (by rw [ex113]; rfl) (by decide) rfl ?_
        refine fw_goto 281 (show decode _ _ = .ok (.goto 161, 3) by decide +kernel) (by decide) ?_
        obtain ⟨x114, ex115⟩ : ∃ y : Int32, y = p4 + (1 : Int32) := ⟨_, rfl⟩
        have h_79 := h_78 x114 ex115
        refine fw_iinc (i := 4) (x := p4) (v := x114) (ls' := [(4, .int x114), (2, .int x112), (5, .int x25), (0, .ref p0), (3, .int p3)]) 4 rfl (show decode _ _ = .ok (.iinc 4 1, 3) by decide +kernel) (by rw [ex115]; rfl) (by decide) rfl ?_
        refine fw_goto 49 (show decode _ _ = .ok (.goto (-235), 3) by decide +kernel) (by decide) ?_
        refine FW.sub [3, 1, 4, 0] (ls' := [(0, .ref p0), (2, .int x112), (3, .int p3), (4, .int x114)]) rfl ?_
        exact hK49 _ _ _ _ _ h_79
    · have h_80 := ineg hc127 h_14
      refine fw_aload_n (i := 0) 1 rfl (show decode _ _ = .ok (.aload_n 0, 1) by decide +kernel) ?_
      obtain ⟨⟨hr118, n117, hs119⟩, h_81⟩ := h_80
      refine fw_getP (kd := 1) (k := 1) (show decode _ _ = .ok (.getfield 15, 3) by decide +kernel) gf_X1_15 hr118 hs119 rfl ?_
      have h_82 := dR_e h_81
      obtain ⟨y120, hy121, h_83⟩ := h_82
      refine fw_deref hy121 ?_
      refine fw_iload_n (i := 2) 2 rfl (show decode _ _ = .ok (.iload_n 2, 1) by decide +kernel) ?_
      refine fw_iload (i := 5) 0 rfl (show decode _ _ = .ok (.iload 5, 2) by decide +kernel) ?_
      refine fw_callSN (mt' := mtX10_put) (mc := 0) (ms := 0) (As := [.ref y120, .int p2, .int x25]) (rest := []) 3 "OneStepMore" (show decode _ _ = .ok (.invokestatic 87, 3) by decide +kernel) ns_X1_87 rfl (Nat.le_of_ble_eq_true rfl) (s_X10_put (d := d) (hd_le hd (by decide)) h_83) (by decide) (by decide) (kV (bc' := 0) (bs' := 0) (by decide) (by decide) (fun M122 h_84 => ?_))
      obtain ⟨x123, ex124⟩ : ∃ y : Int32, y = p2 + (1 : Int32) := ⟨_, rfl⟩
      have h_85 := h_84 x123 ex124
      refine fw_iinc (i := 2) (x := p2) (v := x123) (ls' := [(2, .int x123), (5, .int x25), (0, .ref p0), (3, .int p3), (4, .int p4)]) 2 rfl (show decode _ _ = .ok (.iinc 2 1, 3) by decide +kernel) (by rw [ex124]; rfl) (by decide) rfl ?_
      refine fw_goto 281 (show decode _ _ = .ok (.goto 194, 3) by decide +kernel) (by decide) ?_
      obtain ⟨x125, ex126⟩ : ∃ y : Int32, y = p4 + (1 : Int32) := ⟨_, rfl⟩
      have h_86 := h_85 x125 ex126
      refine fw_iinc (i := 4) (x := p4) (v := x125) (ls' := [(4, .int x125), (2, .int x123), (5, .int x25), (0, .ref p0), (3, .int p3)]) 4 rfl (show decode _ _ = .ok (.iinc 4 1, 3) by decide +kernel) (by rw [ex126]; rfl) (by decide) rfl ?_
      refine fw_goto 49 (show decode _ _ = .ok (.goto (-235), 3) by decide +kernel) (by decide) ?_
      refine FW.sub [3, 1, 4, 0] (ls' := [(0, .ref p0), (2, .int x123), (3, .int p3), (4, .int x125)]) rfl ?_
      exact hK49 _ _ _ _ _ h_86
theorem sl_X1_worked_49 {g : GT} {d : Nat} (hd : 2 ≤ d + 1) {φ : Int32 → fM → Prop} : ∀ (n : Nat) {p0 : Nat} {p2 : Int32} {p3 : Int32} {p4 : Int32} {M : fM}, l_X1_worked_49 φ n p0 p2 p3 p4 M → FW g mtX1_worked (d + 1) 49 [(0, .ref p0), (2, .int p2), (3, .int p3), (4, .int p4)] [] M 0 0 (rI φ)
  | 0 => fun h => h.elim
  | n + 1 => fun h => sb_X1_worked_49 hd (fun _ _ _ _ _ h => sl_X1_worked_49 hd n h) h
def j_X1_worked_24 (φ : Int32 → fM → Prop) (p0 : Nat) (p1 : Int32) (p2 : Int32) (s0 : Int32) (M : fM) : Prop := isO M p0 1 ∧ nm (mP M p0 2) fun o132 => gN o132 (fun y134 => nm (mP M p0 2) fun o136 => dR o136 fun y138 => isO M y138 8 ∧ dR (mP M y138 1) fun y143 => w_X10_cell y143 p1 M fun x146 M145 => ∃ n, l_X1_worked_49 φ n p0 p2 s0 x146 M145) (∃ n, l_X1_worked_49 φ n p0 p2 s0 (0 : Int32) M)
set_option maxRecDepth 100000 in
theorem sj_X1_worked_24 {g : GT} {d : Nat} (hd : 2 ≤ d + 1) {φ : Int32 → fM → Prop} {p0 : Nat} {p1 : Int32} {p2 : Int32} {s0 : Int32} {M : fM} (h : j_X1_worked_24 φ p0 p1 p2 s0 M) : FW g mtX1_worked (d + 1) 24 [(0, .ref p0), (1, .int p1), (2, .int p2)] [.int s0] M 0 0 (rI φ) := by
  unfold j_X1_worked_24 at h
  refine fw_istore_n (i := 3) (ls' := [(3, .int s0), (0, .ref p0), (1, .int p1), (2, .int p2)]) (show decode _ _ = .ok (.istore_n 3, 1) by decide +kernel) (by decide) rfl ?_
  refine fw_aload_n (i := 0) 1 rfl (show decode _ _ = .ok (.aload_n 0, 1) by decide +kernel) ?_
  obtain ⟨⟨hr130, n129, hs131⟩, h_1⟩ := h
  refine fw_getP (kd := 1) (k := 2) (show decode _ _ = .ok (.getfield 24, 3) by decide +kernel) gf_X1_24 hr130 hs131 rfl ?_
  refine fw_nmP (fun o132 eo133 => ?_)
  have h_2 := h_1 o132 eo133
  refine fw_ifnonnull (x := o132) 36 (show decode _ _ = .ok (.ifnonnull 7, 3) by decide +kernel) (by decide) (fun y134 hy135 => ?_) (fun hy135 => ?_)
  · have h_3 := gN_s hy135 h_2
    subst hy135
    refine fw_aload_n (i := 0) 1 rfl (show decode _ _ = .ok (.aload_n 0, 1) by decide +kernel) ?_
    refine fw_getP (kd := 1) (k := 2) (show decode _ _ = .ok (.getfield 24, 3) by decide +kernel) gf_X1_24 hr130 hs131 rfl ?_
    refine fw_nmP (fun o136 eo137 => ?_)
    have h_4 := h_3 o136 eo137
    have h_5 := dR_e h_4
    obtain ⟨y138, hy139, h_6⟩ := h_5
    subst hy139
    obtain ⟨⟨hr141, n140, hs142⟩, h_7⟩ := h_6
    refine fw_getP (kd := 8) (k := 1) (show decode _ _ = .ok (.getfield 81, 3) by decide +kernel) gf_X1_81 hr141 hs142 rfl ?_
    have h_8 := dR_e h_7
    obtain ⟨y143, hy144, h_9⟩ := h_8
    refine fw_deref hy144 ?_
    refine fw_iload_n (i := 1) 2 rfl (show decode _ _ = .ok (.iload_n 1, 1) by decide +kernel) ?_
    refine fw_callSN (mt' := mtX10_cell) (mc := 0) (ms := 0) (As := [.ref y143, .int p1]) (rest := []) 2 "OneStepMore" (show decode _ _ = .ok (.invokestatic 31, 3) by decide +kernel) ns_X1_31 rfl (Nat.le_of_ble_eq_true rfl) (s_X10_cell (d := d) (hd_le hd (by decide)) h_9) (by decide) (by decide) (kI (bc' := 0) (bs' := 0) (by decide) (by decide) (fun x146 M145 h_10 => ?_))
    refine fw_istore (i := 4) (ls' := [(4, .int x146), (3, .int s0), (0, .ref p0), (1, .int p1), (2, .int p2)]) (show decode _ _ = .ok (.istore 4, 2) by decide +kernel) (by decide) rfl ?_
    refine FW.sub [2, 4, 1, 0] (ls' := [(0, .ref p0), (2, .int p2), (3, .int s0), (4, .int x146)]) rfl ?_
    obtain ⟨nn, h_11⟩ := h_10
    exact sl_X1_worked_49 hd nn h_11
  · have h_12 := gN_n hy135 h_2
    subst hy135
    refine fw_iconst (v := (0 : Int32)) (show decode _ _ = .ok (.iconst 0, 1) by decide +kernel) (by decide) ?_
    refine fw_goto 47 (show decode _ _ = .ok (.goto 14, 3) by decide +kernel) (by decide) ?_
    refine fw_istore (i := 4) (ls' := [(4, .int (0 : Int32)), (3, .int s0), (0, .ref p0), (1, .int p1), (2, .int p2)]) (show decode _ _ = .ok (.istore 4, 2) by decide +kernel) (by decide) rfl ?_
    refine FW.sub [2, 4, 1, 0] (ls' := [(0, .ref p0), (2, .int p2), (3, .int s0), (4, .int (0 : Int32))]) rfl ?_
    obtain ⟨nn, h_13⟩ := h_12
    exact sl_X1_worked_49 hd nn h_13
def w_X1_worked (p0 : Nat) (p1 : Int32) (M : fM) (φ : Int32 → fM → Prop) : Prop := isO M p0 1 ∧ nm (mP M p0 2) fun o150 => gN o150 (fun y152 => nm (mP M p0 2) fun o154 => dR o154 fun y156 => isO M y156 8 ∧ dR (mP M y156 2) fun y161 => w_X10_cell y161 p1 M fun x164 M163 => j_X1_worked_24 φ p0 p1 (0 : Int32) x164 M163) (j_X1_worked_24 φ p0 p1 (0 : Int32) (0 : Int32) M)
set_option maxRecDepth 100000 in
theorem s_X1_worked {g : GT} {d : Nat} (hd : 2 ≤ d) {p0 : Nat} {p1 : Int32} {M : fM} {φ : Int32 → fM → Prop} (h : w_X1_worked p0 p1 M φ) : FC g mtX1_worked d [.ref p0, .int p1] M 0 0 (rI φ) := by
  obtain ⟨d, rfl⟩ : ∃ e, d = e + 1 := ⟨d - 1, by omega⟩
  unfold w_X1_worked at h
  refine FC.intro (nL := 6) (by decide) rfl (Nat.le_of_ble_eq_true rfl) ?_
  show FW g mtX1_worked (d + 1) 0 [(0, .ref p0), (1, .int p1)] [] M 0 0 (rI φ)
  refine fw_iconst (v := (0 : Int32)) (show decode _ _ = .ok (.iconst 0, 1) by decide +kernel) (by decide) ?_
  refine fw_istore_n (i := 2) (ls' := [(2, .int (0 : Int32)), (0, .ref p0), (1, .int p1)]) (show decode _ _ = .ok (.istore_n 2, 1) by decide +kernel) (by decide) rfl ?_
  refine fw_aload_n (i := 0) 1 rfl (show decode _ _ = .ok (.aload_n 0, 1) by decide +kernel) ?_
  obtain ⟨⟨hr148, n147, hs149⟩, h_1⟩ := h
  refine fw_getP (kd := 1) (k := 2) (show decode _ _ = .ok (.getfield 24, 3) by decide +kernel) gf_X1_24 hr148 hs149 rfl ?_
  refine fw_nmP (fun o150 eo151 => ?_)
  have h_2 := h_1 o150 eo151
  refine fw_ifnonnull (x := o150) 13 (show decode _ _ = .ok (.ifnonnull 7, 3) by decide +kernel) (by decide) (fun y152 hy153 => ?_) (fun hy153 => ?_)
  · have h_3 := gN_s hy153 h_2
    subst hy153
    refine fw_aload_n (i := 0) 1 rfl (show decode _ _ = .ok (.aload_n 0, 1) by decide +kernel) ?_
    refine fw_getP (kd := 1) (k := 2) (show decode _ _ = .ok (.getfield 24, 3) by decide +kernel) gf_X1_24 hr148 hs149 rfl ?_
    refine fw_nmP (fun o154 eo155 => ?_)
    have h_4 := h_3 o154 eo155
    have h_5 := dR_e h_4
    obtain ⟨y156, hy157, h_6⟩ := h_5
    subst hy157
    obtain ⟨⟨hr159, n158, hs160⟩, h_7⟩ := h_6
    refine fw_getP (kd := 8) (k := 2) (show decode _ _ = .ok (.getfield 76, 3) by decide +kernel) gf_X1_76 hr159 hs160 rfl ?_
    have h_8 := dR_e h_7
    obtain ⟨y161, hy162, h_9⟩ := h_8
    refine fw_deref hy162 ?_
    refine fw_iload_n (i := 1) 2 rfl (show decode _ _ = .ok (.iload_n 1, 1) by decide +kernel) ?_
    refine fw_callSN (mt' := mtX10_cell) (mc := 0) (ms := 0) (As := [.ref y161, .int p1]) (rest := []) 2 "OneStepMore" (show decode _ _ = .ok (.invokestatic 31, 3) by decide +kernel) ns_X1_31 rfl (Nat.le_of_ble_eq_true rfl) (s_X10_cell (d := d) (hd_le hd (by decide)) h_9) (by decide) (by decide) (kI (bc' := 0) (bs' := 0) (by decide) (by decide) (fun x164 M163 h_10 => ?_))
    refine FW.sub [1, 2, 0] (ls' := [(0, .ref p0), (1, .int p1), (2, .int (0 : Int32))]) rfl ?_
    exact sj_X1_worked_24 hd h_10
  · have h_11 := gN_n hy153 h_2
    subst hy153
    refine fw_iconst (v := (0 : Int32)) (show decode _ _ = .ok (.iconst 0, 1) by decide +kernel) (by decide) ?_
    refine fw_goto 24 (show decode _ _ = .ok (.goto 14, 3) by decide +kernel) (by decide) ?_
    refine FW.sub [1, 2, 0] (ls' := [(0, .ref p0), (1, .int p1), (2, .int (0 : Int32))]) rfl ?_
    exact sj_X1_worked_24 hd h_11
def w_X1_tripsNow (p0 : Nat) (M : fM) (φ : Int32 → fM → Prop) : Prop := isO M p0 1 ∧ w_X1_rules p0 (2 : Int32) M fun x5 M1 => iF (x5 = 0) (isO M1 p0 1 ∧ dR (mP M1 p0 0) fun y9 => inA M1 y9 12 (7 : Int32) ∧ dR (mP M1 p0 0) fun y14 => inA M1 y14 12 (8 : Int32) ∧ iF ((iabs ((mI M1 y9 (ix (7 : Int32))) - (mI M1 y14 (ix (8 : Int32))))) < (3 : Int32)) (φ (0 : Int32) M1) (φ (1 : Int32) M1)) (isO M1 p0 1 ∧ w_X1_worked p0 (2 : Int32) M1 fun x24 M20 => iF (x24 = 0) (φ (0 : Int32) M20) (φ (1 : Int32) M20))
set_option maxRecDepth 100000 in
theorem s_X1_tripsNow {g : GT} {d : Nat} (hd : 3 ≤ d) {p0 : Nat} {M : fM} {φ : Int32 → fM → Prop} (h : w_X1_tripsNow p0 M φ) : FC g mtX1_tripsNow d [.ref p0] M 0 0 (rI φ) := by
  obtain ⟨d, rfl⟩ : ∃ e, d = e + 1 := ⟨d - 1, by omega⟩
  unfold w_X1_tripsNow at h
  refine FC.intro (nL := 1) (by decide) rfl (Nat.le_of_ble_eq_true rfl) ?_
  show FW g mtX1_tripsNow (d + 1) 0 [(0, .ref p0)] [] M 0 0 (rI φ)
  refine fw_aload_n (i := 0) 0 rfl (show decode _ _ = .ok (.aload_n 0, 1) by decide +kernel) ?_
  refine fw_iconst (v := (2 : Int32)) (show decode _ _ = .ok (.iconst 2, 1) by decide +kernel) (by decide) ?_
  obtain ⟨⟨hr3, n2, hs4⟩, h_1⟩ := h
  refine fw_callV (mt' := mtX1_rules) (mc := 0) (ms := 0) (As := [.int (2 : Int32)]) (rest := []) 1 1 n2 (show decode _ _ = .ok (.invokevirtual 60, 3) by decide +kernel) cv_X1_60 ⟨_, rfl, rfl⟩ hr3 hs4 rfl (Nat.le_of_ble_eq_true rfl) (s_X1_rules (d := d) (hd_le hd (by decide)) h_1) (by decide) (by decide) (kI (bc' := 0) (bs' := 0) (by decide) (by decide) (fun x5 M1 h_2 => ?_))
  refine fw_if_eq 22 (show decode _ _ = .ok (.ifCond .eq 17, 3) by decide +kernel) (by decide) (fun hc26 => ?_) (fun hc26 => ?_)
  · have h_3 := ipos hc26 h_2
    refine fw_aload_n (i := 0) 0 rfl (show decode _ _ = .ok (.aload_n 0, 1) by decide +kernel) ?_
    obtain ⟨⟨hr7, n6, hs8⟩, h_4⟩ := h_3
    refine fw_getP (kd := 1) (k := 0) (show decode _ _ = .ok (.getfield 9, 3) by decide +kernel) gf_X1_9 hr7 hs8 rfl ?_
    have h_5 := dR_e h_4
    obtain ⟨y9, hy10, h_6⟩ := h_5
    refine fw_deref hy10 ?_
    refine fw_bipush (v := (7 : Int32)) (show decode _ _ = .ok (.bipush 7, 2) by decide +kernel) (by decide) ?_
    obtain ⟨⟨n11, hs12, hi13⟩, h_7⟩ := h_6
    refine fw_iald (show decode _ _ = .ok (.iaload, 1) by decide +kernel) hs12 hi13 ?_
    refine fw_aload_n (i := 0) 0 rfl (show decode _ _ = .ok (.aload_n 0, 1) by decide +kernel) ?_
    refine fw_getP (kd := 1) (k := 0) (show decode _ _ = .ok (.getfield 9, 3) by decide +kernel) gf_X1_9 hr7 hs8 rfl ?_
    have h_8 := dR_e h_7
    obtain ⟨y14, hy15, h_9⟩ := h_8
    refine fw_deref hy15 ?_
    refine fw_bipush (v := (8 : Int32)) (show decode _ _ = .ok (.bipush 8, 2) by decide +kernel) (by decide) ?_
    obtain ⟨⟨n16, hs17, hi18⟩, h_10⟩ := h_9
    refine fw_iald (show decode _ _ = .ok (.iaload, 1) by decide +kernel) hs17 hi18 ?_
    refine fw_isub (show decode _ _ = .ok (.isub, 1) by decide +kernel) ?_
    refine fw_mabs (idx := 71) (rest := []) (show decode _ _ = .ok (.invokestatic 71, 3) by decide +kernel) ⟨wd947, wd948, wd142, wd949⟩ (Nat.le_of_ble_eq_true rfl) ?_
    refine fw_iconst (v := (3 : Int32)) (show decode _ _ = .ok (.iconst 3, 1) by decide +kernel) (by decide) ?_
    refine fw_icmp_lt 48 (show decode _ _ = .ok (.if_icmp .lt 7, 3) by decide +kernel) (by decide) (fun hc19 => ?_) (fun hc19 => ?_)
    · have h_11 := ipos hc19 h_10
      refine fw_iconst (v := (0 : Int32)) (show decode _ _ = .ok (.iconst 0, 1) by decide +kernel) (by decide) ?_
      exact fw_ret (v := some (.int (0 : Int32))) .ireturn (show decode _ _ = .ok (.ireturn, 1) by decide +kernel) ⟨rfl, Or.inr (Or.inl ⟨rfl, rfl⟩)⟩ ⟨_, rfl, h_11⟩
    · have h_12 := ineg hc19 h_10
      refine fw_iconst (v := (1 : Int32)) (show decode _ _ = .ok (.iconst 1, 1) by decide +kernel) (by decide) ?_
      refine fw_goto 49 (show decode _ _ = .ok (.goto 4, 3) by decide +kernel) (by decide) ?_
      exact fw_ret (v := some (.int (1 : Int32))) .ireturn (show decode _ _ = .ok (.ireturn, 1) by decide +kernel) ⟨rfl, Or.inr (Or.inl ⟨rfl, rfl⟩)⟩ ⟨_, rfl, h_12⟩
  · have h_13 := ineg hc26 h_2
    refine fw_aload_n (i := 0) 0 rfl (show decode _ _ = .ok (.aload_n 0, 1) by decide +kernel) ?_
    refine fw_iconst (v := (2 : Int32)) (show decode _ _ = .ok (.iconst 2, 1) by decide +kernel) (by decide) ?_
    obtain ⟨⟨hr22, n21, hs23⟩, h_14⟩ := h_13
    refine fw_callV (mt' := mtX1_worked) (mc := 0) (ms := 0) (As := [.int (2 : Int32)]) (rest := []) 1 1 n21 (show decode _ _ = .ok (.invokevirtual 64, 3) by decide +kernel) cv_X1_64 ⟨_, rfl, rfl⟩ hr22 hs23 rfl (Nat.le_of_ble_eq_true rfl) (s_X1_worked (d := d) (hd_le hd (by decide)) h_14) (by decide) (by decide) (kI (bc' := 0) (bs' := 0) (by decide) (by decide) (fun x24 M20 h_15 => ?_))
    refine fw_if_eq 20 (show decode _ _ = .ok (.ifCond .eq 7, 3) by decide +kernel) (by decide) (fun hc25 => ?_) (fun hc25 => ?_)
    · have h_16 := ipos hc25 h_15
      refine fw_iconst (v := (0 : Int32)) (show decode _ _ = .ok (.iconst 0, 1) by decide +kernel) (by decide) ?_
      exact fw_ret (v := some (.int (0 : Int32))) .ireturn (show decode _ _ = .ok (.ireturn, 1) by decide +kernel) ⟨rfl, Or.inr (Or.inl ⟨rfl, rfl⟩)⟩ ⟨_, rfl, h_16⟩
    · have h_17 := ineg hc25 h_15
      refine fw_iconst (v := (1 : Int32)) (show decode _ _ = .ok (.iconst 1, 1) by decide +kernel) (by decide) ?_
      refine fw_goto 21 (show decode _ _ = .ok (.goto 4, 3) by decide +kernel) (by decide) ?_
      exact fw_ret (v := some (.int (1 : Int32))) .ireturn (show decode _ _ = .ok (.ireturn, 1) by decide +kernel) ⟨rfl, Or.inr (Or.inl ⟨rfl, rfl⟩)⟩ ⟨_, rfl, h_17⟩
