def w_X3_power (p0 : Int32) (M : fM) (φ : Int64 → fM → Prop) : Prop := iF (p0 < 0) (φ (1 : Int64) M) (lenA M 2 13 fun n1 => iF ((nI n1) ≤ p0) (φ (1 : Int64) M) (inA M 2 13 p0 ∧ φ (mJ M 2 (ix p0)) M))
set_option maxRecDepth 100000 in
theorem s_X3_power {g : GT} {d : Nat} (hd : 1 ≤ d) {p0 : Int32} {M : fM} {φ : Int64 → fM → Prop} (h : w_X3_power p0 M φ) : FC g mtX3_power d [.int p0] M 0 0 (rJ φ) := by
  obtain ⟨d, rfl⟩ : ∃ e, d = e + 1 := ⟨d - 1, by omega⟩
  unfold w_X3_power at h
  refine FC.intro (nL := 1) (by decide) rfl (Nat.le_of_ble_eq_true rfl) ?_
  show FW g mtX3_power (d + 1) 0 [(0, .int p0)] [] M 0 0 (rJ φ)
  refine fw_iload_n (i := 0) 0 rfl (show decode _ _ = .ok (.iload_n 0, 1) by decide +kernel) ?_
  refine fw_if_lt 20 (show decode _ _ = .ok (.ifCond .lt 19, 3) by decide +kernel) (by decide) (fun hc7 => ?_) (fun hc7 => ?_)
  · have h_1 := ipos hc7 h
    refine fw_lconst (v := (1 : Int64)) (show decode _ _ = .ok (.lconst 1, 1) by decide +kernel) (by decide) ?_
    exact fw_ret (v := some (.long (1 : Int64))) .lreturn (show decode _ _ = .ok (.lreturn, 1) by decide +kernel) ⟨rfl, rfl⟩ ⟨_, rfl, h_1⟩
  · have h_2 := ineg hc7 h
    refine fw_iload_n (i := 0) 0 rfl (show decode _ _ = .ok (.iload_n 0, 1) by decide +kernel) ?_
    refine fw_getsN "OneStepMore" (idx := 140) (r := 2) (show decode _ _ = .ok (.getstatic 140, 3) by decide +kernel) (by decide) nd1146 ?_
    obtain ⟨n1, hs2, h_3⟩ := h_2
    refine fw_alen (show decode _ _ = .ok (.arraylength, 1) by decide +kernel) hs2 (by decide) (by decide) (by decide) (fun h_3 => absurd h_3 (by decide)) ?_
    refine fw_icmp_ge 20 (show decode _ _ = .ok (.if_icmp .ge 11, 3) by decide +kernel) (by decide) (fun hc6 => ?_) (fun hc6 => ?_)
    · have h_4 := ipos hc6 h_3
      refine fw_lconst (v := (1 : Int64)) (show decode _ _ = .ok (.lconst 1, 1) by decide +kernel) (by decide) ?_
      exact fw_ret (v := some (.long (1 : Int64))) .lreturn (show decode _ _ = .ok (.lreturn, 1) by decide +kernel) ⟨rfl, rfl⟩ ⟨_, rfl, h_4⟩
    · have h_5 := ineg hc6 h_3
      refine fw_getsN "OneStepMore" (idx := 140) (r := 2) (show decode _ _ = .ok (.getstatic 140, 3) by decide +kernel) (by decide) nd1146 ?_
      refine fw_iload_n (i := 0) 0 rfl (show decode _ _ = .ok (.iload_n 0, 1) by decide +kernel) ?_
      obtain ⟨⟨n3, hs4, hi5⟩, h_6⟩ := h_5
      refine fw_lald (show decode _ _ = .ok (.laload, 1) by decide +kernel) hs4 hi5 ?_
      refine fw_goto 21 (show decode _ _ = .ok (.goto 4, 3) by decide +kernel) (by decide) ?_
      exact fw_ret (v := some (.long (mJ M 2 (ix p0)))) .lreturn (show decode _ _ = .ok (.lreturn, 1) by decide +kernel) ⟨rfl, rfl⟩ ⟨_, rfl, h_6⟩
def w_X3_costOfToes (p0 : Nat) (M : fM) (φ : Int64 → fM → Prop) : Prop := isO M p0 3 ∧ w_X3_power ((mI M p0 3) + (1 : Int32)) M fun x5 M4 => φ ((Int32.toInt64 ((3 : Int32) * ((mI M p0 3) + (1 : Int32)))) * x5) M4
set_option maxRecDepth 100000 in
theorem s_X3_costOfToes {g : GT} {d : Nat} (hd : 2 ≤ d) {p0 : Nat} {M : fM} {φ : Int64 → fM → Prop} (h : w_X3_costOfToes p0 M φ) : FC g mtX3_costOfToes d [.ref p0] M 0 0 (rJ φ) := by
  obtain ⟨d, rfl⟩ : ∃ e, d = e + 1 := ⟨d - 1, by omega⟩
  unfold w_X3_costOfToes at h
  refine FC.intro (nL := 1) (by decide) rfl (Nat.le_of_ble_eq_true rfl) ?_
  show FW g mtX3_costOfToes (d + 1) 0 [(0, .ref p0)] [] M 0 0 (rJ φ)
  refine fw_iconst (v := (3 : Int32)) (show decode _ _ = .ok (.iconst 3, 1) by decide +kernel) (by decide) ?_
  refine fw_aload_n (i := 0) 0 rfl (show decode _ _ = .ok (.aload_n 0, 1) by decide +kernel) ?_
  obtain ⟨⟨hr2, n1, hs3⟩, h_1⟩ := h
  refine fw_getI (kd := 3) (k := 3) (show decode _ _ = .ok (.getfield 52, 3) by decide +kernel) gf_X3_52 hr2 hs3 (Or.inl rfl) ?_
  refine fw_iconst (v := (1 : Int32)) (show decode _ _ = .ok (.iconst 1, 1) by decide +kernel) (by decide) ?_
  refine fw_iadd (show decode _ _ = .ok (.iadd, 1) by decide +kernel) ?_
  refine fw_imul (show decode _ _ = .ok (.imul, 1) by decide +kernel) ?_
  refine fw_i2l (show decode _ _ = .ok (.i2l, 1) by decide +kernel) ?_
  refine fw_aload_n (i := 0) 0 rfl (show decode _ _ = .ok (.aload_n 0, 1) by decide +kernel) ?_
  refine fw_getI (kd := 3) (k := 3) (show decode _ _ = .ok (.getfield 52, 3) by decide +kernel) gf_X3_52 hr2 hs3 (Or.inl rfl) ?_
  refine fw_iconst (v := (1 : Int32)) (show decode _ _ = .ok (.iconst 1, 1) by decide +kernel) (by decide) ?_
  refine fw_iadd (show decode _ _ = .ok (.iadd, 1) by decide +kernel) ?_
  refine fw_callS (mt' := mtX3_power) (mc := 0) (ms := 0) (As := [.int ((mI M p0 3) + (1 : Int32))]) (rest := [.long (Int32.toInt64 ((3 : Int32) * ((mI M p0 3) + (1 : Int32))))]) 1 (show decode _ _ = .ok (.invokestatic 136, 3) by decide +kernel) cs_X3_136 rfl (Nat.le_of_ble_eq_true rfl) (s_X3_power (d := d) (hd_le hd (by decide)) h_1) (by decide) (by decide) (kJ (bc' := 0) (bs' := 0) (by decide) (by decide) (fun x5 M4 h_2 => ?_))
  refine fw_lmul (show decode _ _ = .ok (.lmul, 1) by decide +kernel) ?_
  exact fw_ret (v := some (.long ((Int32.toInt64 ((3 : Int32) * ((mI M p0 3) + (1 : Int32)))) * x5))) .lreturn (show decode _ _ = .ok (.lreturn, 1) by decide +kernel) ⟨rfl, rfl⟩ ⟨_, rfl, h_2⟩
def w_X3_evenChance (p0 : Nat) (p1 : Int32) (p2 : Int32) (M : fM) (φ : Int64 → fM → Prop) : Prop := isO M p0 3 ∧ w_X3_chance p0 p1 p2 M fun x5 M1 => isO M1 p0 3 ∧ w_X3_power ((mI M1 p0 3) - p1) M1 fun x10 M9 => φ (x5 * x10) M9
set_option maxRecDepth 100000 in
theorem s_X3_evenChance {g : GT} {d : Nat} (hd : 2 ≤ d) {p0 : Nat} {p1 : Int32} {p2 : Int32} {M : fM} {φ : Int64 → fM → Prop} (h : w_X3_evenChance p0 p1 p2 M φ) : FC g mtX3_evenChance d [.ref p0, .int p1, .int p2] M 0 0 (rJ φ) := by
  obtain ⟨d, rfl⟩ : ∃ e, d = e + 1 := ⟨d - 1, by omega⟩
  unfold w_X3_evenChance at h
  refine FC.intro (nL := 3) (by decide) rfl (Nat.le_of_ble_eq_true rfl) ?_
  show FW g mtX3_evenChance (d + 1) 0 [(0, .ref p0), (1, .int p1), (2, .int p2)] [] M 0 0 (rJ φ)
  refine fw_aload_n (i := 0) 0 rfl (show decode _ _ = .ok (.aload_n 0, 1) by decide +kernel) ?_
  refine fw_iload_n (i := 1) 1 rfl (show decode _ _ = .ok (.iload_n 1, 1) by decide +kernel) ?_
  refine fw_iload_n (i := 2) 2 rfl (show decode _ _ = .ok (.iload_n 2, 1) by decide +kernel) ?_
  obtain ⟨⟨hr3, n2, hs4⟩, h_1⟩ := h
  refine fw_callV (mt' := mtX3_chance) (mc := 0) (ms := 0) (As := [.int p1, .int p2]) (rest := []) 2 3 n2 (show decode _ _ = .ok (.invokevirtual 130, 3) by decide +kernel) cv_X3_130 ⟨_, rfl, rfl⟩ hr3 hs4 rfl (Nat.le_of_ble_eq_true rfl) (s_X3_chance (d := d) (hd_le hd (by decide)) h_1) (by decide) (by decide) (kJ (bc' := 0) (bs' := 0) (by decide) (by decide) (fun x5 M1 h_2 => ?_))
  refine fw_aload_n (i := 0) 0 rfl (show decode _ _ = .ok (.aload_n 0, 1) by decide +kernel) ?_
  obtain ⟨⟨hr7, n6, hs8⟩, h_3⟩ := h_2
  refine fw_getI (kd := 3) (k := 3) (show decode _ _ = .ok (.getfield 52, 3) by decide +kernel) gf_X3_52 hr7 hs8 (Or.inl rfl) ?_
  refine fw_iload_n (i := 1) 1 rfl (show decode _ _ = .ok (.iload_n 1, 1) by decide +kernel) ?_
  refine fw_isub (show decode _ _ = .ok (.isub, 1) by decide +kernel) ?_
  refine fw_callS (mt' := mtX3_power) (mc := 0) (ms := 0) (As := [.int ((mI M1 p0 3) - p1)]) (rest := [.long x5]) 1 (show decode _ _ = .ok (.invokestatic 136, 3) by decide +kernel) cs_X3_136 rfl (Nat.le_of_ble_eq_true rfl) (s_X3_power (d := d) (hd_le hd (by decide)) h_3) (by decide) (by decide) (kJ (bc' := 0) (bs' := 0) (by decide) (by decide) (fun x10 M9 h_4 => ?_))
  refine fw_lmul (show decode _ _ = .ok (.lmul, 1) by decide +kernel) ?_
  exact fw_ret (v := some (.long (x5 * x10))) .lreturn (show decode _ _ = .ok (.lreturn, 1) by decide +kernel) ⟨rfl, rfl⟩ ⟨_, rfl, h_4⟩
def b_X3_boldlyMore_5 (K5 : Nat → Int32 → Int64 → Int32 → fM → Prop) (φ : Int64 → fM → Prop) (p0 : Nat) (p1 : Int32) (p2 : Int64) (p4 : Int32) (M : fM) : Prop := isO M p0 3 ∧ iF ((mI M p0 3) < p4) (φ p2 M) (w_X3_evenChance p0 p4 p1 M fun x5 M4 => isO M4 p0 3 ∧ dR (mP M4 p0 9) fun y9 => w_X10_cell y9 p4 M4 fun x12 M11 => nm (p2 + (x5 * (Int32.toInt64 (x12 - (2 : Int32))))) fun x13 => nm (p4 + (1 : Int32)) fun x15 => K5 p0 p1 x13 x15 M11)
def l_X3_boldlyMore_5 (φ : Int64 → fM → Prop) : Nat → Nat → Int32 → Int64 → Int32 → fM → Prop
  | 0, _, _, _, _, _ => False
  | n + 1, p0, p1, p2, p4, M => b_X3_boldlyMore_5 (l_X3_boldlyMore_5 φ n) φ p0 p1 p2 p4 M
set_option maxRecDepth 100000 in
theorem sb_X3_boldlyMore_5 {g : GT} {d : Nat} (hd : 3 ≤ d + 1) {K5 : Nat → Int32 → Int64 → Int32 → fM → Prop} {φ : Int64 → fM → Prop} (hK5 : ∀ (p0 : Nat) (p1 : Int32) (p2 : Int64) (p4 : Int32) (M : fM), K5 p0 p1 p2 p4 M → FW g mtX3_boldlyMore (d + 1) 5 [(0, .ref p0), (1, .int p1), (2, .long p2), (4, .int p4)] [] M 0 0 (rJ φ)) {p0 : Nat} {p1 : Int32} {p2 : Int64} {p4 : Int32} {M : fM} (h : b_X3_boldlyMore_5 K5 φ p0 p1 p2 p4 M) : FW g mtX3_boldlyMore (d + 1) 5 [(0, .ref p0), (1, .int p1), (2, .long p2), (4, .int p4)] [] M 0 0 (rJ φ) := by
  unfold b_X3_boldlyMore_5 at h
  refine fw_iload (i := 4) 3 rfl (show decode _ _ = .ok (.iload 4, 2) by decide +kernel) ?_
  refine fw_aload_n (i := 0) 0 rfl (show decode _ _ = .ok (.aload_n 0, 1) by decide +kernel) ?_
  obtain ⟨⟨hr2, n1, hs3⟩, h_1⟩ := h
  refine fw_getI (kd := 3) (k := 3) (show decode _ _ = .ok (.getfield 52, 3) by decide +kernel) gf_X3_52 hr2 hs3 (Or.inl rfl) ?_
  refine fw_icmp_gt 43 (show decode _ _ = .ok (.if_icmp .gt 32, 3) by decide +kernel) (by decide) (fun hc17 => ?_) (fun hc17 => ?_)
  · have h_2 := ipos hc17 h_1
    refine fw_lload_n (i := 2) 2 rfl (show decode _ _ = .ok (.lload_n 2, 1) by decide +kernel) ?_
    exact fw_ret (v := some (.long p2)) .lreturn (show decode _ _ = .ok (.lreturn, 1) by decide +kernel) ⟨rfl, rfl⟩ ⟨_, rfl, h_2⟩
  · have h_3 := ineg hc17 h_1
    refine fw_lload_n (i := 2) 2 rfl (show decode _ _ = .ok (.lload_n 2, 1) by decide +kernel) ?_
    refine fw_aload_n (i := 0) 0 rfl (show decode _ _ = .ok (.aload_n 0, 1) by decide +kernel) ?_
    refine fw_iload (i := 4) 3 rfl (show decode _ _ = .ok (.iload 4, 2) by decide +kernel) ?_
    refine fw_iload_n (i := 1) 1 rfl (show decode _ _ = .ok (.iload_n 1, 1) by decide +kernel) ?_
    refine fw_callV (mt' := mtX3_evenChance) (mc := 0) (ms := 0) (As := [.int p4, .int p1]) (rest := [.long p2]) 2 3 n1 (show decode _ _ = .ok (.invokevirtual 148, 3) by decide +kernel) cv_X3_148 ⟨_, rfl, rfl⟩ hr2 hs3 rfl (Nat.le_of_ble_eq_true rfl) (s_X3_evenChance (d := d) (hd_le hd (by decide)) h_3) (by decide) (by decide) (kJ (bc' := 0) (bs' := 0) (by decide) (by decide) (fun x5 M4 h_4 => ?_))
    refine fw_aload_n (i := 0) 0 rfl (show decode _ _ = .ok (.aload_n 0, 1) by decide +kernel) ?_
    obtain ⟨⟨hr7, n6, hs8⟩, h_5⟩ := h_4
    refine fw_getP (kd := 3) (k := 9) (show decode _ _ = .ok (.getfield 18, 3) by decide +kernel) gf_X3_18 hr7 hs8 rfl ?_
    have h_6 := dR_e h_5
    obtain ⟨y9, hy10, h_7⟩ := h_6
    refine fw_deref hy10 ?_
    refine fw_iload (i := 4) 3 rfl (show decode _ _ = .ok (.iload 4, 2) by decide +kernel) ?_
    refine fw_callSN (mt' := mtX10_cell) (mc := 0) (ms := 0) (As := [.ref y9, .int p4]) (rest := [.long x5, .long p2]) 2 "OneStepMore" (show decode _ _ = .ok (.invokestatic 64, 3) by decide +kernel) ns_X3_64 rfl (Nat.le_of_ble_eq_true rfl) (s_X10_cell (d := d) (hd_le hd (by decide)) h_7) (by decide) (by decide) (kI (bc' := 0) (bs' := 0) (by decide) (by decide) (fun x12 M11 h_8 => ?_))
    refine fw_iconst (v := (2 : Int32)) (show decode _ _ = .ok (.iconst 2, 1) by decide +kernel) (by decide) ?_
    refine fw_isub (show decode _ _ = .ok (.isub, 1) by decide +kernel) ?_
    refine fw_i2l (show decode _ _ = .ok (.i2l, 1) by decide +kernel) ?_
    refine fw_lmul (show decode _ _ = .ok (.lmul, 1) by decide +kernel) ?_
    refine fw_ladd (show decode _ _ = .ok (.ladd, 1) by decide +kernel) ?_
    refine fw_nmJ (fun x13 ex14 => ?_)
    have h_9 := h_8 x13 ex14
    refine fw_lstore_n (i := 2) (ls' := [(2, .long x13), (0, .ref p0), (1, .int p1), (4, .int p4)]) (show decode _ _ = .ok (.lstore_n 2, 1) by decide +kernel) (by decide) rfl ?_
    obtain ⟨x15, ex16⟩ : ∃ y : Int32, y = p4 + (1 : Int32) := ⟨_, rfl⟩
    have h_10 := h_9 x15 ex16
    refine fw_iinc (i := 4) (x := p4) (v := x15) (ls' := [(4, .int x15), (2, .long x13), (0, .ref p0), (1, .int p1)]) 3 rfl (show decode _ _ = .ok (.iinc 4 1, 3) by decide +kernel) (by rw [ex16]; rfl) (by decide) rfl ?_
    refine fw_goto 5 (show decode _ _ = .ok (.goto (-35), 3) by decide +kernel) (by decide) ?_
    refine FW.sub [2, 3, 1, 0] (ls' := [(0, .ref p0), (1, .int p1), (2, .long x13), (4, .int x15)]) rfl ?_
    exact hK5 _ _ _ _ _ h_10
theorem sl_X3_boldlyMore_5 {g : GT} {d : Nat} (hd : 3 ≤ d + 1) {φ : Int64 → fM → Prop} : ∀ (n : Nat) {p0 : Nat} {p1 : Int32} {p2 : Int64} {p4 : Int32} {M : fM}, l_X3_boldlyMore_5 φ n p0 p1 p2 p4 M → FW g mtX3_boldlyMore (d + 1) 5 [(0, .ref p0), (1, .int p1), (2, .long p2), (4, .int p4)] [] M 0 0 (rJ φ)
  | 0 => fun h => h.elim
  | n + 1 => fun h => sb_X3_boldlyMore_5 hd (fun _ _ _ _ _ h => sl_X3_boldlyMore_5 hd n h) h
def w_X3_boldlyMore (p0 : Nat) (p1 : Int32) (M : fM) (φ : Int64 → fM → Prop) : Prop := ∃ n, l_X3_boldlyMore_5 φ n p0 p1 (0 : Int64) (0 : Int32) M
set_option maxRecDepth 100000 in
theorem s_X3_boldlyMore {g : GT} {d : Nat} (hd : 3 ≤ d) {p0 : Nat} {p1 : Int32} {M : fM} {φ : Int64 → fM → Prop} (h : w_X3_boldlyMore p0 p1 M φ) : FC g mtX3_boldlyMore d [.ref p0, .int p1] M 0 0 (rJ φ) := by
  obtain ⟨d, rfl⟩ : ∃ e, d = e + 1 := ⟨d - 1, by omega⟩
  unfold w_X3_boldlyMore at h
  refine FC.intro (nL := 5) (by decide) rfl (Nat.le_of_ble_eq_true rfl) ?_
  show FW g mtX3_boldlyMore (d + 1) 0 [(0, .ref p0), (1, .int p1)] [] M 0 0 (rJ φ)
  refine fw_lconst (v := (0 : Int64)) (show decode _ _ = .ok (.lconst 0, 1) by decide +kernel) (by decide) ?_
  refine fw_lstore_n (i := 2) (ls' := [(2, .long (0 : Int64)), (0, .ref p0), (1, .int p1)]) (show decode _ _ = .ok (.lstore_n 2, 1) by decide +kernel) (by decide) rfl ?_
  refine fw_iconst (v := (0 : Int32)) (show decode _ _ = .ok (.iconst 0, 1) by decide +kernel) (by decide) ?_
  refine fw_istore (i := 4) (ls' := [(4, .int (0 : Int32)), (2, .long (0 : Int64)), (0, .ref p0), (1, .int p1)]) (show decode _ _ = .ok (.istore 4, 2) by decide +kernel) (by decide) rfl ?_
  refine FW.sub [2, 3, 1, 0] (ls' := [(0, .ref p0), (1, .int p1), (2, .long (0 : Int64)), (4, .int (0 : Int32))]) rfl ?_
  obtain ⟨nn, h_1⟩ := h
  exact sl_X3_boldlyMore_5 hd nn h_1
def b_X3_costFrom_8 (K8 : Nat → Int32 → Int32 → Int64 → Int32 → fM → Prop) (φ : Int64 → fM → Prop) (p0 : Nat) (p1 : Int32) (p2 : Int32) (p3 : Int64) (p5 : Int32) (M : fM) : Prop := iF (p1 ≤ p5) (isO M p0 3 ∧ w_X3_power ((mI M p0 3) + (1 : Int32)) M fun x5 M4 => w_X10_part p3 x5 p2 M4 fun x7 M6 => φ x7 M6) (isO M p0 3 ∧ w_X3_boldlyMore p0 p5 M fun x12 M8 => nm (p3 + x12) fun x13 => nm (p5 + (1 : Int32)) fun x15 => K8 p0 p1 p2 x13 x15 M8)
def l_X3_costFrom_8 (φ : Int64 → fM → Prop) : Nat → Nat → Int32 → Int32 → Int64 → Int32 → fM → Prop
  | 0, _, _, _, _, _, _ => False
  | n + 1, p0, p1, p2, p3, p5, M => b_X3_costFrom_8 (l_X3_costFrom_8 φ n) φ p0 p1 p2 p3 p5 M
set_option maxRecDepth 100000 in
theorem sb_X3_costFrom_8 {g : GT} {d : Nat} (hd : 4 ≤ d + 1) {K8 : Nat → Int32 → Int32 → Int64 → Int32 → fM → Prop} {φ : Int64 → fM → Prop} (hK8 : ∀ (p0 : Nat) (p1 : Int32) (p2 : Int32) (p3 : Int64) (p5 : Int32) (M : fM), K8 p0 p1 p2 p3 p5 M → FW g mtX3_costFrom (d + 1) 8 [(0, .ref p0), (1, .int p1), (2, .int p2), (3, .long p3), (5, .int p5)] [] M 0 0 (rJ φ)) {p0 : Nat} {p1 : Int32} {p2 : Int32} {p3 : Int64} {p5 : Int32} {M : fM} (h : b_X3_costFrom_8 K8 φ p0 p1 p2 p3 p5 M) : FW g mtX3_costFrom (d + 1) 8 [(0, .ref p0), (1, .int p1), (2, .int p2), (3, .long p3), (5, .int p5)] [] M 0 0 (rJ φ) := by
  unfold b_X3_costFrom_8 at h
  refine fw_iload (i := 5) 4 rfl (show decode _ _ = .ok (.iload 5, 2) by decide +kernel) ?_
  refine fw_iload_n (i := 1) 1 rfl (show decode _ _ = .ok (.iload_n 1, 1) by decide +kernel) ?_
  refine fw_icmp_ge 29 (show decode _ _ = .ok (.if_icmp .ge 18, 3) by decide +kernel) (by decide) (fun hc17 => ?_) (fun hc17 => ?_)
  · have h_1 := ipos hc17 h
    refine fw_lload_n (i := 3) 3 rfl (show decode _ _ = .ok (.lload_n 3, 1) by decide +kernel) ?_
    refine fw_aload_n (i := 0) 0 rfl (show decode _ _ = .ok (.aload_n 0, 1) by decide +kernel) ?_
    obtain ⟨⟨hr2, n1, hs3⟩, h_2⟩ := h_1
    refine fw_getI (kd := 3) (k := 3) (show decode _ _ = .ok (.getfield 52, 3) by decide +kernel) gf_X3_52 hr2 hs3 (Or.inl rfl) ?_
    refine fw_iconst (v := (1 : Int32)) (show decode _ _ = .ok (.iconst 1, 1) by decide +kernel) (by decide) ?_
    refine fw_iadd (show decode _ _ = .ok (.iadd, 1) by decide +kernel) ?_
    refine fw_callS (mt' := mtX3_power) (mc := 0) (ms := 0) (As := [.int ((mI M p0 3) + (1 : Int32))]) (rest := [.long p3]) 1 (show decode _ _ = .ok (.invokestatic 136, 3) by decide +kernel) cs_X3_136 rfl (Nat.le_of_ble_eq_true rfl) (s_X3_power (d := d) (hd_le hd (by decide)) h_2) (by decide) (by decide) (kJ (bc' := 0) (bs' := 0) (by decide) (by decide) (fun x5 M4 h_3 => ?_))
    refine fw_iload_n (i := 2) 2 rfl (show decode _ _ = .ok (.iload_n 2, 1) by decide +kernel) ?_
    refine fw_callSN (mt' := mtX10_part) (mc := 0) (ms := 0) (As := [.long p3, .long x5, .int p2]) (rest := []) 3 "OneStepMore" (show decode _ _ = .ok (.invokestatic 151, 3) by decide +kernel) ns_X3_151 rfl (Nat.le_of_ble_eq_true rfl) (s_X10_part (d := d) (hd_le hd (by decide)) h_3) (by decide) (by decide) (kJ (bc' := 0) (bs' := 0) (by decide) (by decide) (fun x7 M6 h_4 => ?_))
    exact fw_ret (v := some (.long x7)) .lreturn (show decode _ _ = .ok (.lreturn, 1) by decide +kernel) ⟨rfl, rfl⟩ ⟨_, rfl, h_4⟩
  · have h_5 := ineg hc17 h
    refine fw_lload_n (i := 3) 3 rfl (show decode _ _ = .ok (.lload_n 3, 1) by decide +kernel) ?_
    refine fw_aload_n (i := 0) 0 rfl (show decode _ _ = .ok (.aload_n 0, 1) by decide +kernel) ?_
    refine fw_iload (i := 5) 4 rfl (show decode _ _ = .ok (.iload 5, 2) by decide +kernel) ?_
    obtain ⟨⟨hr10, n9, hs11⟩, h_6⟩ := h_5
    refine fw_callV (mt' := mtX3_boldlyMore) (mc := 0) (ms := 0) (As := [.int p5]) (rest := [.long p3]) 1 3 n9 (show decode _ _ = .ok (.invokevirtual 159, 3) by decide +kernel) cv_X3_159 ⟨_, rfl, rfl⟩ hr10 hs11 rfl (Nat.le_of_ble_eq_true rfl) (s_X3_boldlyMore (d := d) (hd_le hd (by decide)) h_6) (by decide) (by decide) (kJ (bc' := 0) (bs' := 0) (by decide) (by decide) (fun x12 M8 h_7 => ?_))
    refine fw_ladd (show decode _ _ = .ok (.ladd, 1) by decide +kernel) ?_
    refine fw_nmJ (fun x13 ex14 => ?_)
    have h_8 := h_7 x13 ex14
    refine fw_lstore_n (i := 3) (ls' := [(3, .long x13), (0, .ref p0), (1, .int p1), (2, .int p2), (5, .int p5)]) (show decode _ _ = .ok (.lstore_n 3, 1) by decide +kernel) (by decide) rfl ?_
    obtain ⟨x15, ex16⟩ : ∃ y : Int32, y = p5 + (1 : Int32) := ⟨_, rfl⟩
    have h_9 := h_8 x15 ex16
    refine fw_iinc (i := 5) (x := p5) (v := x15) (ls' := [(5, .int x15), (3, .long x13), (0, .ref p0), (1, .int p1), (2, .int p2)]) 4 rfl (show decode _ _ = .ok (.iinc 5 1, 3) by decide +kernel) (by rw [ex16]; rfl) (by decide) rfl ?_
    refine fw_goto 8 (show decode _ _ = .ok (.goto (-18), 3) by decide +kernel) (by decide) ?_
    refine FW.sub [2, 3, 4, 1, 0] (ls' := [(0, .ref p0), (1, .int p1), (2, .int p2), (3, .long x13), (5, .int x15)]) rfl ?_
    exact hK8 _ _ _ _ _ _ h_9
theorem sl_X3_costFrom_8 {g : GT} {d : Nat} (hd : 4 ≤ d + 1) {φ : Int64 → fM → Prop} : ∀ (n : Nat) {p0 : Nat} {p1 : Int32} {p2 : Int32} {p3 : Int64} {p5 : Int32} {M : fM}, l_X3_costFrom_8 φ n p0 p1 p2 p3 p5 M → FW g mtX3_costFrom (d + 1) 8 [(0, .ref p0), (1, .int p1), (2, .int p2), (3, .long p3), (5, .int p5)] [] M 0 0 (rJ φ)
  | 0 => fun h => h.elim
  | n + 1 => fun h => sb_X3_costFrom_8 hd (fun _ _ _ _ _ _ h => sl_X3_costFrom_8 hd n h) h
def w_X3_costFrom (p0 : Nat) (p1 : Int32) (p2 : Int32) (M : fM) (φ : Int64 → fM → Prop) : Prop := isO M p0 3 ∧ w_X3_costOfToes p0 M fun x22 M18 => ∃ n, l_X3_costFrom_8 φ n p0 p1 p2 x22 (0 : Int32) M18
set_option maxRecDepth 100000 in
theorem s_X3_costFrom {g : GT} {d : Nat} (hd : 4 ≤ d) {p0 : Nat} {p1 : Int32} {p2 : Int32} {M : fM} {φ : Int64 → fM → Prop} (h : w_X3_costFrom p0 p1 p2 M φ) : FC g mtX3_costFrom d [.ref p0, .int p1, .int p2] M 0 0 (rJ φ) := by
  obtain ⟨d, rfl⟩ : ∃ e, d = e + 1 := ⟨d - 1, by omega⟩
  unfold w_X3_costFrom at h
  refine FC.intro (nL := 6) (by decide) rfl (Nat.le_of_ble_eq_true rfl) ?_
  show FW g mtX3_costFrom (d + 1) 0 [(0, .ref p0), (1, .int p1), (2, .int p2)] [] M 0 0 (rJ φ)
  refine fw_aload_n (i := 0) 0 rfl (show decode _ _ = .ok (.aload_n 0, 1) by decide +kernel) ?_
  obtain ⟨⟨hr20, n19, hs21⟩, h_1⟩ := h
  refine fw_callV (mt' := mtX3_costOfToes) (mc := 0) (ms := 0) (As := []) (rest := []) 0 3 n19 (show decode _ _ = .ok (.invokevirtual 155, 3) by decide +kernel) cv_X3_155 ⟨_, rfl, rfl⟩ hr20 hs21 rfl (Nat.le_of_ble_eq_true rfl) (s_X3_costOfToes (d := d) (hd_le hd (by decide)) h_1) (by decide) (by decide) (kJ (bc' := 0) (bs' := 0) (by decide) (by decide) (fun x22 M18 h_2 => ?_))
  refine fw_lstore_n (i := 3) (ls' := [(3, .long x22), (0, .ref p0), (1, .int p1), (2, .int p2)]) (show decode _ _ = .ok (.lstore_n 3, 1) by decide +kernel) (by decide) rfl ?_
  refine fw_iconst (v := (0 : Int32)) (show decode _ _ = .ok (.iconst 0, 1) by decide +kernel) (by decide) ?_
  refine fw_istore (i := 5) (ls' := [(5, .int (0 : Int32)), (3, .long x22), (0, .ref p0), (1, .int p1), (2, .int p2)]) (show decode _ _ = .ok (.istore 5, 2) by decide +kernel) (by decide) rfl ?_
  refine FW.sub [2, 3, 4, 1, 0] (ls' := [(0, .ref p0), (1, .int p1), (2, .int p2), (3, .long x22), (5, .int (0 : Int32))]) rfl ?_
  obtain ⟨nn, h_3⟩ := h_2
  exact sl_X3_costFrom_8 hd nn h_3
def w_X10_cost (p0 : Nat) (p1 : Int32) (p2 : Int32) (p3 : Int32) (p4 : Int32) (p5 : Int32) (M : fM) (φ : Int64 → fM → Prop) : Prop := iF (p4 < 0) (φ (-1 : Int64) M) (iF ((30 : Int32) < p4) (φ (-1 : Int64) M) (isO M p0 10 ∧ dR (mP M p0 5) fun y4 => isO M y4 3 ∧ w_X3_look y4 p1 p2 p3 M fun x10 M6 => iF (x10 = 0) (φ (-1 : Int64) M6) (isO M6 p0 10 ∧ dR (mP M6 p0 5) fun y14 => isO M6 y14 3 ∧ w_X3_spread y14 M6 fun M16 => isO M16 p0 10 ∧ dR (mP M16 p0 5) fun y23 => isO M16 y23 3 ∧ w_X3_costFrom y23 p4 p5 M16 fun x29 M25 => φ x29 M25)))
set_option maxRecDepth 100000 in
theorem s_X10_cost {g : GT} {d : Nat} (hd : 5 ≤ d) {p0 : Nat} {p1 : Int32} {p2 : Int32} {p3 : Int32} {p4 : Int32} {p5 : Int32} {M : fM} {φ : Int64 → fM → Prop} (h : w_X10_cost p0 p1 p2 p3 p4 p5 M φ) : FC g mtX10_cost d [.ref p0, .int p1, .int p2, .int p3, .int p4, .int p5] M 0 0 (rJ φ) := by
  obtain ⟨d, rfl⟩ : ∃ e, d = e + 1 := ⟨d - 1, by omega⟩
  unfold w_X10_cost at h
  refine FC.intro (nL := 6) (by decide) rfl (Nat.le_of_ble_eq_true rfl) ?_
  show FW g mtX10_cost (d + 1) 0 [(0, .ref p0), (1, .int p1), (2, .int p2), (3, .int p3), (4, .int p4), (5, .int p5)] [] M 0 0 (rJ φ)
  refine fw_iload (i := 4) 4 rfl (show decode _ _ = .ok (.iload 4, 2) by decide +kernel) ?_
  refine fw_if_lt 25 (show decode _ _ = .ok (.ifCond .lt 23, 3) by decide +kernel) (by decide) (fun hc32 => ?_) (fun hc32 => ?_)
  · have h_1 := ipos hc32 h
    refine fw_ldc2 (idx := 210) (v := (-1 : Int64)) (show decode _ _ = .ok (.ldc2_w 210, 3) by decide +kernel) wd1151 ?_
    exact fw_ret (v := some (.long (-1 : Int64))) .lreturn (show decode _ _ = .ok (.lreturn, 1) by decide +kernel) ⟨rfl, rfl⟩ ⟨_, rfl, h_1⟩
  · have h_2 := ineg hc32 h
    refine fw_iload (i := 4) 4 rfl (show decode _ _ = .ok (.iload 4, 2) by decide +kernel) ?_
    refine fw_bipush (v := (30 : Int32)) (show decode _ _ = .ok (.bipush 30, 2) by decide +kernel) (by decide) ?_
    refine fw_icmp_gt 25 (show decode _ _ = .ok (.if_icmp .gt 16, 3) by decide +kernel) (by decide) (fun hc31 => ?_) (fun hc31 => ?_)
    · have h_3 := ipos hc31 h_2
      refine fw_ldc2 (idx := 210) (v := (-1 : Int64)) (show decode _ _ = .ok (.ldc2_w 210, 3) by decide +kernel) wd1151 ?_
      exact fw_ret (v := some (.long (-1 : Int64))) .lreturn (show decode _ _ = .ok (.lreturn, 1) by decide +kernel) ⟨rfl, rfl⟩ ⟨_, rfl, h_3⟩
    · have h_4 := ineg hc31 h_2
      refine fw_aload_n (i := 0) 0 rfl (show decode _ _ = .ok (.aload_n 0, 1) by decide +kernel) ?_
      obtain ⟨⟨hr2, n1, hs3⟩, h_5⟩ := h_4
      refine fw_getP (kd := 10) (k := 5) (show decode _ _ = .ok (.getfield 50, 3) by decide +kernel) gf_X10_50 hr2 hs3 rfl ?_
      have h_6 := dR_e h_5
      obtain ⟨y4, hy5, h_7⟩ := h_6
      refine fw_deref hy5 ?_
      refine fw_iload_n (i := 1) 1 rfl (show decode _ _ = .ok (.iload_n 1, 1) by decide +kernel) ?_
      refine fw_iload_n (i := 2) 2 rfl (show decode _ _ = .ok (.iload_n 2, 1) by decide +kernel) ?_
      refine fw_iload_n (i := 3) 3 rfl (show decode _ _ = .ok (.iload_n 3, 1) by decide +kernel) ?_
      obtain ⟨⟨hr8, n7, hs9⟩, h_8⟩ := h_7
      refine fw_callV (mt' := mtX3_look) (mc := 0) (ms := 0) (As := [.int p1, .int p2, .int p3]) (rest := []) 3 3 n7 (show decode _ _ = .ok (.invokevirtual 203, 3) by decide +kernel) cv_X10_203 ⟨_, rfl, rfl⟩ hr8 hs9 rfl (Nat.le_of_ble_eq_true rfl) (s_X3_look (d := d) (hd_le hd (by decide)) h_8) (by decide) (by decide) (kI (bc' := 0) (bs' := 0) (by decide) (by decide) (fun x10 M6 h_9 => ?_))
      refine fw_if_ne 29 (show decode _ _ = .ok (.ifCond .ne 7, 3) by decide +kernel) (by decide) (fun hc30 => ?_) (fun hc30 => ?_)
      · have h_10 := ineg hc30 h_9
        refine fw_aload_n (i := 0) 0 rfl (show decode _ _ = .ok (.aload_n 0, 1) by decide +kernel) ?_
        obtain ⟨⟨hr12, n11, hs13⟩, h_11⟩ := h_10
        refine fw_getP (kd := 10) (k := 5) (show decode _ _ = .ok (.getfield 50, 3) by decide +kernel) gf_X10_50 hr12 hs13 rfl ?_
        have h_12 := dR_e h_11
        obtain ⟨y14, hy15, h_13⟩ := h_12
        refine fw_deref hy15 ?_
        obtain ⟨⟨hr18, n17, hs19⟩, h_14⟩ := h_13
        refine fw_callV (mt' := mtX3_spread) (mc := 0) (ms := 0) (As := []) (rest := []) 0 3 n17 (show decode _ _ = .ok (.invokevirtual 212, 3) by decide +kernel) cv_X10_212 ⟨_, rfl, rfl⟩ hr18 hs19 rfl (Nat.le_of_ble_eq_true rfl) (s_X3_spread (d := d) (hd_le hd (by decide)) h_14) (by decide) (by decide) (kV (bc' := 0) (bs' := 0) (by decide) (by decide) (fun M16 h_15 => ?_))
        refine fw_aload_n (i := 0) 0 rfl (show decode _ _ = .ok (.aload_n 0, 1) by decide +kernel) ?_
        obtain ⟨⟨hr21, n20, hs22⟩, h_16⟩ := h_15
        refine fw_getP (kd := 10) (k := 5) (show decode _ _ = .ok (.getfield 50, 3) by decide +kernel) gf_X10_50 hr21 hs22 rfl ?_
        have h_17 := dR_e h_16
        obtain ⟨y23, hy24, h_18⟩ := h_17
        refine fw_deref hy24 ?_
        refine fw_iload (i := 4) 4 rfl (show decode _ _ = .ok (.iload 4, 2) by decide +kernel) ?_
        refine fw_iload (i := 5) 5 rfl (show decode _ _ = .ok (.iload 5, 2) by decide +kernel) ?_
        obtain ⟨⟨hr27, n26, hs28⟩, h_19⟩ := h_18
        refine fw_callV (mt' := mtX3_costFrom) (mc := 0) (ms := 0) (As := [.int p4, .int p5]) (rest := []) 2 3 n26 (show decode _ _ = .ok (.invokevirtual 215, 3) by decide +kernel) cv_X10_215 ⟨_, rfl, rfl⟩ hr27 hs28 rfl (Nat.le_of_ble_eq_true rfl) (s_X3_costFrom (d := d) (hd_le hd (by decide)) h_19) (by decide) (by decide) (kJ (bc' := 0) (bs' := 0) (by decide) (by decide) (fun x29 M25 h_20 => ?_))
        exact fw_ret (v := some (.long x29)) .lreturn (show decode _ _ = .ok (.lreturn, 1) by decide +kernel) ⟨rfl, rfl⟩ ⟨_, rfl, h_20⟩
      · have h_21 := ipos hc30 h_9
        refine fw_ldc2 (idx := 210) (v := (-1 : Int64)) (show decode _ _ = .ok (.ldc2_w 210, 3) by decide +kernel) wd1151 ?_
        exact fw_ret (v := some (.long (-1 : Int64))) .lreturn (show decode _ _ = .ok (.lreturn, 1) by decide +kernel) ⟨rfl, rfl⟩ ⟨_, rfl, h_21⟩
def w_X10_end (p0 : Nat) (p1 : Int32) (M : fM) (φ : Int32 → fM → Prop) : Prop := iF (p1 < 0) (φ (-1 : Int32) M) (isO M p0 10 ∧ dR (mP M p0 2) fun y4 => isO M y4 7 ∧ iF (p1 ≤ (mI M y4 1)) (dR (mP M p0 2) fun y9 => isO M y9 7 ∧ st (wI M y9 1 p1) fun M14 => φ p1 M14) (φ (-1 : Int32) M))
set_option maxRecDepth 100000 in
theorem s_X10_end {g : GT} {d : Nat} (hd : 1 ≤ d) {p0 : Nat} {p1 : Int32} {M : fM} {φ : Int32 → fM → Prop} (h : w_X10_end p0 p1 M φ) : FC g mtX10_end d [.ref p0, .int p1] M 0 0 (rI φ) := by
  obtain ⟨d, rfl⟩ : ∃ e, d = e + 1 := ⟨d - 1, by omega⟩
  unfold w_X10_end at h
  refine FC.intro (nL := 2) (by decide) rfl (Nat.le_of_ble_eq_true rfl) ?_
  show FW g mtX10_end (d + 1) 0 [(0, .ref p0), (1, .int p1)] [] M 0 0 (rI φ)
  refine fw_iload_n (i := 1) 1 rfl (show decode _ _ = .ok (.iload_n 1, 1) by decide +kernel) ?_
  refine fw_if_lt 15 (show decode _ _ = .ok (.ifCond .lt 14, 3) by decide +kernel) (by decide) (fun hc17 => ?_) (fun hc17 => ?_)
  · have h_1 := ipos hc17 h
    refine fw_iconst (v := (-1 : Int32)) (show decode _ _ = .ok (.iconst (-1), 1) by decide +kernel) (by decide) ?_
    exact fw_ret (v := some (.int (-1 : Int32))) .ireturn (show decode _ _ = .ok (.ireturn, 1) by decide +kernel) ⟨rfl, Or.inl rfl⟩ ⟨_, rfl, h_1⟩
  · have h_2 := ineg hc17 h
    refine fw_iload_n (i := 1) 1 rfl (show decode _ _ = .ok (.iload_n 1, 1) by decide +kernel) ?_
    refine fw_aload_n (i := 0) 0 rfl (show decode _ _ = .ok (.aload_n 0, 1) by decide +kernel) ?_
    obtain ⟨⟨hr2, n1, hs3⟩, h_3⟩ := h_2
    refine fw_getP (kd := 10) (k := 2) (show decode _ _ = .ok (.getfield 25, 3) by decide +kernel) gf_X10_25 hr2 hs3 rfl ?_
    have h_4 := dR_e h_3
    obtain ⟨y4, hy5, h_5⟩ := h_4
    refine fw_deref hy5 ?_
    obtain ⟨⟨hr7, n6, hs8⟩, h_6⟩ := h_5
    refine fw_getI (kd := 7) (k := 1) (show decode _ _ = .ok (.getfield 107, 3) by decide +kernel) gf_X10_107 hr7 hs8 (Or.inl rfl) ?_
    refine fw_icmp_le 17 (show decode _ _ = .ok (.if_icmp .le 5, 3) by decide +kernel) (by decide) (fun hc16 => ?_) (fun hc16 => ?_)
    · have h_7 := ipos hc16 h_6
      refine fw_aload_n (i := 0) 0 rfl (show decode _ _ = .ok (.aload_n 0, 1) by decide +kernel) ?_
      refine fw_getP (kd := 10) (k := 2) (show decode _ _ = .ok (.getfield 25, 3) by decide +kernel) gf_X10_25 hr2 hs3 rfl ?_
      have h_8 := dR_e h_7
      obtain ⟨y9, hy10, h_9⟩ := h_8
      refine fw_deref hy10 ?_
      refine fw_iload_n (i := 1) 1 rfl (show decode _ _ = .ok (.iload_n 1, 1) by decide +kernel) ?_
      obtain ⟨⟨hr12, n11, hs13⟩, h_10⟩ := h_9
      refine fw_putI (kd := 7) (k := 1) (show decode _ _ = .ok (.putfield 107, 3) by decide +kernel) ⟨gf_X10_107, _, rfl, Or.inl rfl⟩ hr12 hs13 rfl ?_
      refine FW.nmM (fun M14 eM15 => ?_)
      have h_11 := h_10 M14 eM15
      refine fw_iload_n (i := 1) 1 rfl (show decode _ _ = .ok (.iload_n 1, 1) by decide +kernel) ?_
      exact fw_ret (v := some (.int p1)) .ireturn (show decode _ _ = .ok (.ireturn, 1) by decide +kernel) ⟨rfl, Or.inl rfl⟩ ⟨_, rfl, h_11⟩
    · have h_12 := ineg hc16 h_6
      refine fw_iconst (v := (-1 : Int32)) (show decode _ _ = .ok (.iconst (-1), 1) by decide +kernel) (by decide) ?_
      exact fw_ret (v := some (.int (-1 : Int32))) .ireturn (show decode _ _ = .ok (.ireturn, 1) by decide +kernel) ⟨rfl, Or.inl rfl⟩ ⟨_, rfl, h_12⟩
def w_X10_fault (p0 : Nat) (p1 : Int32) (M : fM) (φ : Int32 → fM → Prop) : Prop := iF (p1 = 0) (isO M p0 10 ∧ dR (mP M p0 3) fun y13 => isO M y13 4 ∧ φ (mI M y13 0) M) (iF (p1 = (1 : Int32)) (isO M p0 10 ∧ dR (mP M p0 3) fun y4 => isO M y4 4 ∧ φ (mI M y4 1) M) (φ (-1 : Int32) M))
set_option maxRecDepth 100000 in
theorem s_X10_fault {g : GT} {d : Nat} (hd : 1 ≤ d) {p0 : Nat} {p1 : Int32} {M : fM} {φ : Int32 → fM → Prop} (h : w_X10_fault p0 p1 M φ) : FC g mtX10_fault d [.ref p0, .int p1] M 0 0 (rI φ) := by
  obtain ⟨d, rfl⟩ : ∃ e, d = e + 1 := ⟨d - 1, by omega⟩
  unfold w_X10_fault at h
  refine FC.intro (nL := 2) (by decide) rfl (Nat.le_of_ble_eq_true rfl) ?_
  show FW g mtX10_fault (d + 1) 0 [(0, .ref p0), (1, .int p1)] [] M 0 0 (rI φ)
  refine fw_iload_n (i := 1) 1 rfl (show decode _ _ = .ok (.iload_n 1, 1) by decide +kernel) ?_
  refine fw_if_ne 12 (show decode _ _ = .ok (.ifCond .ne 11, 3) by decide +kernel) (by decide) (fun hc18 => ?_) (fun hc18 => ?_)
  · have h_1 := ineg hc18 h
    refine fw_iload_n (i := 1) 1 rfl (show decode _ _ = .ok (.iload_n 1, 1) by decide +kernel) ?_
    refine fw_iconst (v := (1 : Int32)) (show decode _ _ = .ok (.iconst 1, 1) by decide +kernel) (by decide) ?_
    refine fw_icmp_ne 27 (show decode _ _ = .ok (.if_icmp .ne 13, 3) by decide +kernel) (by decide) (fun hc9 => ?_) (fun hc9 => ?_)
    · have h_2 := ineg hc9 h_1
      refine fw_iconst (v := (-1 : Int32)) (show decode _ _ = .ok (.iconst (-1), 1) by decide +kernel) (by decide) ?_
      exact fw_ret (v := some (.int (-1 : Int32))) .ireturn (show decode _ _ = .ok (.ireturn, 1) by decide +kernel) ⟨rfl, Or.inl rfl⟩ ⟨_, rfl, h_2⟩
    · have h_3 := ipos hc9 h_1
      refine fw_aload_n (i := 0) 0 rfl (show decode _ _ = .ok (.aload_n 0, 1) by decide +kernel) ?_
      obtain ⟨⟨hr2, n1, hs3⟩, h_4⟩ := h_3
      refine fw_getP (kd := 10) (k := 3) (show decode _ _ = .ok (.getfield 34, 3) by decide +kernel) gf_X10_34 hr2 hs3 rfl ?_
      have h_5 := dR_e h_4
      obtain ⟨y4, hy5, h_6⟩ := h_5
      refine fw_deref hy5 ?_
      obtain ⟨⟨hr7, n6, hs8⟩, h_7⟩ := h_6
      refine fw_getI (kd := 4) (k := 1) (show decode _ _ = .ok (.getfield 124, 3) by decide +kernel) gf_X10_124 hr7 hs8 (Or.inl rfl) ?_
      refine fw_goto 28 (show decode _ _ = .ok (.goto 4, 3) by decide +kernel) (by decide) ?_
      exact fw_ret (v := some (.int (mI M y4 1))) .ireturn (show decode _ _ = .ok (.ireturn, 1) by decide +kernel) ⟨rfl, Or.inl rfl⟩ ⟨_, rfl, h_7⟩
  · have h_8 := ipos hc18 h
    refine fw_aload_n (i := 0) 0 rfl (show decode _ _ = .ok (.aload_n 0, 1) by decide +kernel) ?_
    obtain ⟨⟨hr11, n10, hs12⟩, h_9⟩ := h_8
    refine fw_getP (kd := 10) (k := 3) (show decode _ _ = .ok (.getfield 34, 3) by decide +kernel) gf_X10_34 hr11 hs12 rfl ?_
    have h_10 := dR_e h_9
    obtain ⟨y13, hy14, h_11⟩ := h_10
    refine fw_deref hy14 ?_
    obtain ⟨⟨hr16, n15, hs17⟩, h_12⟩ := h_11
    refine fw_getI (kd := 4) (k := 0) (show decode _ _ = .ok (.getfield 121, 3) by decide +kernel) gf_X10_121 hr16 hs17 (Or.inl rfl) ?_
    exact fw_ret (v := some (.int (mI M y13 0))) .ireturn (show decode _ _ = .ok (.ireturn, 1) by decide +kernel) ⟨rfl, Or.inl rfl⟩ ⟨_, rfl, h_12⟩
def w_X7_hasRoom (p0 : Nat) (M : fM) (φ : Int32 → fM → Prop) : Prop := isO M p0 7 ∧ iF ((300 : Int32) < ((mI M p0 1) + (20 : Int32))) (φ (0 : Int32) M) (φ (1 : Int32) M)
set_option maxRecDepth 100000 in
theorem s_X7_hasRoom {g : GT} {d : Nat} (hd : 1 ≤ d) {p0 : Nat} {M : fM} {φ : Int32 → fM → Prop} (h : w_X7_hasRoom p0 M φ) : FC g mtX7_hasRoom d [.ref p0] M 0 0 (rI φ) := by
  obtain ⟨d, rfl⟩ : ∃ e, d = e + 1 := ⟨d - 1, by omega⟩
  unfold w_X7_hasRoom at h
  refine FC.intro (nL := 1) (by decide) rfl (Nat.le_of_ble_eq_true rfl) ?_
  show FW g mtX7_hasRoom (d + 1) 0 [(0, .ref p0)] [] M 0 0 (rI φ)
  refine fw_aload_n (i := 0) 0 rfl (show decode _ _ = .ok (.aload_n 0, 1) by decide +kernel) ?_
  obtain ⟨⟨hr2, n1, hs3⟩, h_1⟩ := h
  refine fw_getI (kd := 7) (k := 1) (show decode _ _ = .ok (.getfield 24, 3) by decide +kernel) gf_X7_24 hr2 hs3 (Or.inl rfl) ?_
  refine fw_bipush (v := (20 : Int32)) (show decode _ _ = .ok (.bipush 20, 2) by decide +kernel) (by decide) ?_
  refine fw_iadd (show decode _ _ = .ok (.iadd, 1) by decide +kernel) ?_
  refine fw_sipush (v := (300 : Int32)) (show decode _ _ = .ok (.sipush 300, 3) by decide +kernel) (by decide) ?_
  refine fw_icmp_gt 17 (show decode _ _ = .ok (.if_icmp .gt 7, 3) by decide +kernel) (by decide) (fun hc4 => ?_) (fun hc4 => ?_)
  · have h_2 := ipos hc4 h_1
    refine fw_iconst (v := (0 : Int32)) (show decode _ _ = .ok (.iconst 0, 1) by decide +kernel) (by decide) ?_
    exact fw_ret (v := some (.int (0 : Int32))) .ireturn (show decode _ _ = .ok (.ireturn, 1) by decide +kernel) ⟨rfl, Or.inr (Or.inl ⟨rfl, rfl⟩)⟩ ⟨_, rfl, h_2⟩
  · have h_3 := ineg hc4 h_1
    refine fw_iconst (v := (1 : Int32)) (show decode _ _ = .ok (.iconst 1, 1) by decide +kernel) (by decide) ?_
    refine fw_goto 18 (show decode _ _ = .ok (.goto 4, 3) by decide +kernel) (by decide) ?_
    exact fw_ret (v := some (.int (1 : Int32))) .ireturn (show decode _ _ = .ok (.ireturn, 1) by decide +kernel) ⟨rfl, Or.inr (Or.inl ⟨rfl, rfl⟩)⟩ ⟨_, rfl, h_3⟩
def b_X7_take_3 (K3 : Nat → Int32 → Int32 → fM → Prop) (φ : fM → Prop) (p0 : Nat) (p1 : Int32) (p2 : Int32) (M : fM) : Prop := iF (p2 < 0) (φ M) (isO M p0 7 ∧ dR (mP M p0 0) fun y4 => w_X10_put y4 (mI M p0 1) ((p1 >>> (p2 &&& 31)) &&& (255 : Int32)) M fun M6 => isO M6 p0 7 ∧ nm ((mI M6 p0 1) + (1 : Int32)) fun x10 => st (wI M6 p0 1 x10) fun M12 => nm (p2 + (-8 : Int32)) fun x14 => K3 p0 p1 x14 M12)
def l_X7_take_3 (φ : fM → Prop) : Nat → Nat → Int32 → Int32 → fM → Prop
  | 0, _, _, _, _ => False
  | n + 1, p0, p1, p2, M => b_X7_take_3 (l_X7_take_3 φ n) φ p0 p1 p2 M
set_option maxRecDepth 100000 in
theorem sb_X7_take_3 {g : GT} {d : Nat} (hd : 2 ≤ d + 1) {K3 : Nat → Int32 → Int32 → fM → Prop} {φ : fM → Prop} (hK3 : ∀ (p0 : Nat) (p1 : Int32) (p2 : Int32) (M : fM), K3 p0 p1 p2 M → FW g mtX7_take (d + 1) 3 [(0, .ref p0), (1, .int p1), (2, .int p2)] [] M 0 0 (rV φ)) {p0 : Nat} {p1 : Int32} {p2 : Int32} {M : fM} (h : b_X7_take_3 K3 φ p0 p1 p2 M) : FW g mtX7_take (d + 1) 3 [(0, .ref p0), (1, .int p1), (2, .int p2)] [] M 0 0 (rV φ) := by
  unfold b_X7_take_3 at h
  refine fw_iload_n (i := 2) 2 rfl (show decode _ _ = .ok (.iload_n 2, 1) by decide +kernel) ?_
  refine fw_if_lt 41 (show decode _ _ = .ok (.ifCond .lt 37, 3) by decide +kernel) (by decide) (fun hc16 => ?_) (fun hc16 => ?_)
  · have h_1 := ipos hc16 h
    exact fw_ret (v := none) .return_ (show decode _ _ = .ok (.return_, 1) by decide +kernel) ⟨rfl, rfl⟩ ⟨rfl, h_1⟩
  · have h_2 := ineg hc16 h
    refine fw_aload_n (i := 0) 0 rfl (show decode _ _ = .ok (.aload_n 0, 1) by decide +kernel) ?_
    obtain ⟨⟨hr2, n1, hs3⟩, h_3⟩ := h_2
    refine fw_getP (kd := 7) (k := 0) (show decode _ _ = .ok (.getfield 9, 3) by decide +kernel) gf_X7_9 hr2 hs3 rfl ?_
    have h_4 := dR_e h_3
    obtain ⟨y4, hy5, h_5⟩ := h_4
    refine fw_deref hy5 ?_
    refine fw_aload_n (i := 0) 0 rfl (show decode _ _ = .ok (.aload_n 0, 1) by decide +kernel) ?_
    refine fw_getI (kd := 7) (k := 1) (show decode _ _ = .ok (.getfield 24, 3) by decide +kernel) gf_X7_24 hr2 hs3 (Or.inl rfl) ?_
    refine fw_iload_n (i := 1) 1 rfl (show decode _ _ = .ok (.iload_n 1, 1) by decide +kernel) ?_
    refine fw_iload_n (i := 2) 2 rfl (show decode _ _ = .ok (.iload_n 2, 1) by decide +kernel) ?_
    refine fw_ishr (show decode _ _ = .ok (.ishr, 1) by decide +kernel) ?_
    refine fw_sipush (v := (255 : Int32)) (show decode _ _ = .ok (.sipush 255, 3) by decide +kernel) (by decide) ?_
    refine fw_iand (show decode _ _ = .ok (.iand, 1) by decide +kernel) ?_
    refine fw_callSN (mt' := mtX10_put) (mc := 0) (ms := 0) (As := [.ref y4, .int (mI M p0 1), .int ((p1 >>> (p2 &&& 31)) &&& (255 : Int32))]) (rest := []) 3 "OneStepMore" (show decode _ _ = .ok (.invokestatic 28, 3) by decide +kernel) ns_X7_28 rfl (Nat.le_of_ble_eq_true rfl) (s_X10_put (d := d) (hd_le hd (by decide)) h_5) (by decide) (by decide) (kV (bc' := 0) (bs' := 0) (by decide) (by decide) (fun M6 h_6 => ?_))
    refine fw_aload_n (i := 0) 0 rfl (show decode _ _ = .ok (.aload_n 0, 1) by decide +kernel) ?_
    refine fw_dup (show decode _ _ = .ok (.dup, 1) by decide +kernel) rfl ?_
    obtain ⟨⟨hr8, n7, hs9⟩, h_7⟩ := h_6
    refine fw_getI (kd := 7) (k := 1) (show decode _ _ = .ok (.getfield 24, 3) by decide +kernel) gf_X7_24 hr8 hs9 (Or.inl rfl) ?_
    refine fw_iconst (v := (1 : Int32)) (show decode _ _ = .ok (.iconst 1, 1) by decide +kernel) (by decide) ?_
    refine fw_iadd (show decode _ _ = .ok (.iadd, 1) by decide +kernel) ?_
    refine fw_nmI (fun x10 ex11 => ?_)
    have h_8 := h_7 x10 ex11
    refine fw_putI (kd := 7) (k := 1) (show decode _ _ = .ok (.putfield 24, 3) by decide +kernel) ⟨gf_X7_24, _, rfl, Or.inl rfl⟩ hr8 hs9 rfl ?_
    refine FW.nmM (fun M12 eM13 => ?_)
    have h_9 := h_8 M12 eM13
    obtain ⟨x14, ex15⟩ : ∃ y : Int32, y = p2 + (-8 : Int32) := ⟨_, rfl⟩
    have h_10 := h_9 x14 ex15
    refine fw_iinc (i := 2) (x := p2) (v := x14) (ls' := [(2, .int x14), (0, .ref p0), (1, .int p1)]) 2 rfl (show decode _ _ = .ok (.iinc 2 (-8), 3) by decide +kernel) (by rw [ex15]; rfl) (by decide) rfl ?_
    refine fw_goto 3 (show decode _ _ = .ok (.goto (-35), 3) by decide +kernel) (by decide) ?_
    refine FW.sub [1, 2, 0] (ls' := [(0, .ref p0), (1, .int p1), (2, .int x14)]) rfl ?_
    exact hK3 _ _ _ _ h_10
theorem sl_X7_take_3 {g : GT} {d : Nat} (hd : 2 ≤ d + 1) {φ : fM → Prop} : ∀ (n : Nat) {p0 : Nat} {p1 : Int32} {p2 : Int32} {M : fM}, l_X7_take_3 φ n p0 p1 p2 M → FW g mtX7_take (d + 1) 3 [(0, .ref p0), (1, .int p1), (2, .int p2)] [] M 0 0 (rV φ)
  | 0 => fun h => h.elim
  | n + 1 => fun h => sb_X7_take_3 hd (fun _ _ _ _ h => sl_X7_take_3 hd n h) h
def w_X7_take (p0 : Nat) (p1 : Int32) (M : fM) (φ : fM → Prop) : Prop := ∃ n, l_X7_take_3 φ n p0 p1 (24 : Int32) M
set_option maxRecDepth 100000 in
theorem s_X7_take {g : GT} {d : Nat} (hd : 2 ≤ d) {p0 : Nat} {p1 : Int32} {M : fM} {φ : fM → Prop} (h : w_X7_take p0 p1 M φ) : FC g mtX7_take d [.ref p0, .int p1] M 0 0 (rV φ) := by
  obtain ⟨d, rfl⟩ : ∃ e, d = e + 1 := ⟨d - 1, by omega⟩
  unfold w_X7_take at h
  refine FC.intro (nL := 3) (by decide) rfl (Nat.le_of_ble_eq_true rfl) ?_
  show FW g mtX7_take (d + 1) 0 [(0, .ref p0), (1, .int p1)] [] M 0 0 (rV φ)
  refine fw_bipush (v := (24 : Int32)) (show decode _ _ = .ok (.bipush 24, 2) by decide +kernel) (by decide) ?_
  refine fw_istore_n (i := 2) (ls' := [(2, .int (24 : Int32)), (0, .ref p0), (1, .int p1)]) (show decode _ _ = .ok (.istore_n 2, 1) by decide +kernel) (by decide) rfl ?_
  refine FW.sub [1, 2, 0] (ls' := [(0, .ref p0), (1, .int p1), (2, .int (24 : Int32))]) rfl ?_
  obtain ⟨nn, h_1⟩ := h
  exact sl_X7_take_3 hd nn h_1
def w_X10_feed (p0 : Nat) (p1 : Int32) (p2 : Int32) (p3 : Int32) (p4 : Int32) (p5 : Int32) (M : fM) (φ : Int32 → fM → Prop) : Prop := isO M p0 10 ∧ dR (mP M p0 2) fun y4 => isO M y4 7 ∧ w_X7_hasRoom y4 M fun x10 M6 => iF (x10 = 0) (φ (-1 : Int32) M6) (isO M6 p0 10 ∧ dR (mP M6 p0 2) fun y14 => isO M6 y14 7 ∧ w_X7_take y14 p1 M6 fun M16 => isO M16 p0 10 ∧ dR (mP M16 p0 2) fun y23 => isO M16 y23 7 ∧ w_X7_take y23 p2 M16 fun M25 => isO M25 p0 10 ∧ dR (mP M25 p0 2) fun y32 => isO M25 y32 7 ∧ w_X7_take y32 p3 M25 fun M34 => isO M34 p0 10 ∧ dR (mP M34 p0 2) fun y41 => isO M34 y41 7 ∧ w_X7_take y41 p4 M34 fun M43 => isO M43 p0 10 ∧ dR (mP M43 p0 2) fun y50 => isO M43 y50 7 ∧ w_X7_take y50 p5 M43 fun M52 => isO M52 p0 10 ∧ dR (mP M52 p0 2) fun y59 => isO M52 y59 7 ∧ φ (mI M52 y59 1) M52)
set_option maxRecDepth 100000 in
theorem s_X10_feed {g : GT} {d : Nat} (hd : 3 ≤ d) {p0 : Nat} {p1 : Int32} {p2 : Int32} {p3 : Int32} {p4 : Int32} {p5 : Int32} {M : fM} {φ : Int32 → fM → Prop} (h : w_X10_feed p0 p1 p2 p3 p4 p5 M φ) : FC g mtX10_feed d [.ref p0, .int p1, .int p2, .int p3, .int p4, .int p5] M 0 0 (rI φ) := by
  obtain ⟨d, rfl⟩ : ∃ e, d = e + 1 := ⟨d - 1, by omega⟩
  unfold w_X10_feed at h
  refine FC.intro (nL := 6) (by decide) rfl (Nat.le_of_ble_eq_true rfl) ?_
  show FW g mtX10_feed (d + 1) 0 [(0, .ref p0), (1, .int p1), (2, .int p2), (3, .int p3), (4, .int p4), (5, .int p5)] [] M 0 0 (rI φ)
  refine fw_aload_n (i := 0) 0 rfl (show decode _ _ = .ok (.aload_n 0, 1) by decide +kernel) ?_
  obtain ⟨⟨hr2, n1, hs3⟩, h_1⟩ := h
  refine fw_getP (kd := 10) (k := 2) (show decode _ _ = .ok (.getfield 25, 3) by decide +kernel) gf_X10_25 hr2 hs3 rfl ?_
  have h_2 := dR_e h_1
  obtain ⟨y4, hy5, h_3⟩ := h_2
  refine fw_deref hy5 ?_
  obtain ⟨⟨hr8, n7, hs9⟩, h_4⟩ := h_3
  refine fw_callV (mt' := mtX7_hasRoom) (mc := 0) (ms := 0) (As := []) (rest := []) 0 7 n7 (show decode _ _ = .ok (.invokevirtual 99, 3) by decide +kernel) cv_X10_99 ⟨_, rfl, rfl⟩ hr8 hs9 rfl (Nat.le_of_ble_eq_true rfl) (s_X7_hasRoom (d := d) (hd_le hd (by decide)) h_4) (by decide) (by decide) (kI (bc' := 0) (bs' := 0) (by decide) (by decide) (fun x10 M6 h_5 => ?_))
  refine fw_if_ne 12 (show decode _ _ = .ok (.ifCond .ne 5, 3) by decide +kernel) (by decide) (fun hc64 => ?_) (fun hc64 => ?_)
  · have h_6 := ineg hc64 h_5
    refine fw_aload_n (i := 0) 0 rfl (show decode _ _ = .ok (.aload_n 0, 1) by decide +kernel) ?_
    obtain ⟨⟨hr12, n11, hs13⟩, h_7⟩ := h_6
    refine fw_getP (kd := 10) (k := 2) (show decode _ _ = .ok (.getfield 25, 3) by decide +kernel) gf_X10_25 hr12 hs13 rfl ?_
    have h_8 := dR_e h_7
    obtain ⟨y14, hy15, h_9⟩ := h_8
    refine fw_deref hy15 ?_
    refine fw_iload_n (i := 1) 1 rfl (show decode _ _ = .ok (.iload_n 1, 1) by decide +kernel) ?_
    obtain ⟨⟨hr18, n17, hs19⟩, h_10⟩ := h_9
    refine fw_callV (mt' := mtX7_take) (mc := 0) (ms := 0) (As := [.int p1]) (rest := []) 1 7 n17 (show decode _ _ = .ok (.invokevirtual 103, 3) by decide +kernel) cv_X10_103 ⟨_, rfl, rfl⟩ hr18 hs19 rfl (Nat.le_of_ble_eq_true rfl) (s_X7_take (d := d) (hd_le hd (by decide)) h_10) (by decide) (by decide) (kV (bc' := 0) (bs' := 0) (by decide) (by decide) (fun M16 h_11 => ?_))
    refine fw_aload_n (i := 0) 0 rfl (show decode _ _ = .ok (.aload_n 0, 1) by decide +kernel) ?_
    obtain ⟨⟨hr21, n20, hs22⟩, h_12⟩ := h_11
    refine fw_getP (kd := 10) (k := 2) (show decode _ _ = .ok (.getfield 25, 3) by decide +kernel) gf_X10_25 hr21 hs22 rfl ?_
    have h_13 := dR_e h_12
    obtain ⟨y23, hy24, h_14⟩ := h_13
    refine fw_deref hy24 ?_
    refine fw_iload_n (i := 2) 2 rfl (show decode _ _ = .ok (.iload_n 2, 1) by decide +kernel) ?_
    obtain ⟨⟨hr27, n26, hs28⟩, h_15⟩ := h_14
    refine fw_callV (mt' := mtX7_take) (mc := 0) (ms := 0) (As := [.int p2]) (rest := []) 1 7 n26 (show decode _ _ = .ok (.invokevirtual 103, 3) by decide +kernel) cv_X10_103 ⟨_, rfl, rfl⟩ hr27 hs28 rfl (Nat.le_of_ble_eq_true rfl) (s_X7_take (d := d) (hd_le hd (by decide)) h_15) (by decide) (by decide) (kV (bc' := 0) (bs' := 0) (by decide) (by decide) (fun M25 h_16 => ?_))
    refine fw_aload_n (i := 0) 0 rfl (show decode _ _ = .ok (.aload_n 0, 1) by decide +kernel) ?_
    obtain ⟨⟨hr30, n29, hs31⟩, h_17⟩ := h_16
    refine fw_getP (kd := 10) (k := 2) (show decode _ _ = .ok (.getfield 25, 3) by decide +kernel) gf_X10_25 hr30 hs31 rfl ?_
    have h_18 := dR_e h_17
    obtain ⟨y32, hy33, h_19⟩ := h_18
    refine fw_deref hy33 ?_
    refine fw_iload_n (i := 3) 3 rfl (show decode _ _ = .ok (.iload_n 3, 1) by decide +kernel) ?_
    obtain ⟨⟨hr36, n35, hs37⟩, h_20⟩ := h_19
    refine fw_callV (mt' := mtX7_take) (mc := 0) (ms := 0) (As := [.int p3]) (rest := []) 1 7 n35 (show decode _ _ = .ok (.invokevirtual 103, 3) by decide +kernel) cv_X10_103 ⟨_, rfl, rfl⟩ hr36 hs37 rfl (Nat.le_of_ble_eq_true rfl) (s_X7_take (d := d) (hd_le hd (by decide)) h_20) (by decide) (by decide) (kV (bc' := 0) (bs' := 0) (by decide) (by decide) (fun M34 h_21 => ?_))
    refine fw_aload_n (i := 0) 0 rfl (show decode _ _ = .ok (.aload_n 0, 1) by decide +kernel) ?_
    obtain ⟨⟨hr39, n38, hs40⟩, h_22⟩ := h_21
    refine fw_getP (kd := 10) (k := 2) (show decode _ _ = .ok (.getfield 25, 3) by decide +kernel) gf_X10_25 hr39 hs40 rfl ?_
    have h_23 := dR_e h_22
    obtain ⟨y41, hy42, h_24⟩ := h_23
    refine fw_deref hy42 ?_
    refine fw_iload (i := 4) 4 rfl (show decode _ _ = .ok (.iload 4, 2) by decide +kernel) ?_
    obtain ⟨⟨hr45, n44, hs46⟩, h_25⟩ := h_24
    refine fw_callV (mt' := mtX7_take) (mc := 0) (ms := 0) (As := [.int p4]) (rest := []) 1 7 n44 (show decode _ _ = .ok (.invokevirtual 103, 3) by decide +kernel) cv_X10_103 ⟨_, rfl, rfl⟩ hr45 hs46 rfl (Nat.le_of_ble_eq_true rfl) (s_X7_take (d := d) (hd_le hd (by decide)) h_25) (by decide) (by decide) (kV (bc' := 0) (bs' := 0) (by decide) (by decide) (fun M43 h_26 => ?_))
    refine fw_aload_n (i := 0) 0 rfl (show decode _ _ = .ok (.aload_n 0, 1) by decide +kernel) ?_
    obtain ⟨⟨hr48, n47, hs49⟩, h_27⟩ := h_26
    refine fw_getP (kd := 10) (k := 2) (show decode _ _ = .ok (.getfield 25, 3) by decide +kernel) gf_X10_25 hr48 hs49 rfl ?_
    have h_28 := dR_e h_27
    obtain ⟨y50, hy51, h_29⟩ := h_28
    refine fw_deref hy51 ?_
    refine fw_iload (i := 5) 5 rfl (show decode _ _ = .ok (.iload 5, 2) by decide +kernel) ?_
    obtain ⟨⟨hr54, n53, hs55⟩, h_30⟩ := h_29
    refine fw_callV (mt' := mtX7_take) (mc := 0) (ms := 0) (As := [.int p5]) (rest := []) 1 7 n53 (show decode _ _ = .ok (.invokevirtual 103, 3) by decide +kernel) cv_X10_103 ⟨_, rfl, rfl⟩ hr54 hs55 rfl (Nat.le_of_ble_eq_true rfl) (s_X7_take (d := d) (hd_le hd (by decide)) h_30) (by decide) (by decide) (kV (bc' := 0) (bs' := 0) (by decide) (by decide) (fun M52 h_31 => ?_))
    refine fw_aload_n (i := 0) 0 rfl (show decode _ _ = .ok (.aload_n 0, 1) by decide +kernel) ?_
    obtain ⟨⟨hr57, n56, hs58⟩, h_32⟩ := h_31
    refine fw_getP (kd := 10) (k := 2) (show decode _ _ = .ok (.getfield 25, 3) by decide +kernel) gf_X10_25 hr57 hs58 rfl ?_
    have h_33 := dR_e h_32
    obtain ⟨y59, hy60, h_34⟩ := h_33
    refine fw_deref hy60 ?_
    obtain ⟨⟨hr62, n61, hs63⟩, h_35⟩ := h_34
    refine fw_getI (kd := 7) (k := 1) (show decode _ _ = .ok (.getfield 107, 3) by decide +kernel) gf_X10_107 hr62 hs63 (Or.inl rfl) ?_
    exact fw_ret (v := some (.int (mI M52 y59 1))) .ireturn (show decode _ _ = .ok (.ireturn, 1) by decide +kernel) ⟨rfl, Or.inl rfl⟩ ⟨_, rfl, h_35⟩
  · have h_36 := ipos hc64 h_5
    refine fw_iconst (v := (-1 : Int32)) (show decode _ _ = .ok (.iconst (-1), 1) by decide +kernel) (by decide) ?_
    exact fw_ret (v := some (.int (-1 : Int32))) .ireturn (show decode _ _ = .ok (.ireturn, 1) by decide +kernel) ⟨rfl, Or.inl rfl⟩ ⟨_, rfl, h_36⟩
def b_X3_chooseFrom_17 (K17 : Nat → Int64 → Int32 → fM → Prop) (φ : fM → Prop) (p0 : Nat) (p1 : Int64) (p3 : Int32) (M : fM) : Prop := iF ((30 : Int32) ≤ p3) (φ M) (isO M p0 3 ∧ w_X3_boldlyMore p0 p3 M fun x5 M1 => nm (p1 + x5) fun x6 => isO M1 p0 3 ∧ iF (0 ≤ (lg_cmp x6 (mJ M1 p0 12))) (nm (p3 + (1 : Int32)) fun x11 => K17 p0 x6 x11 M1) (st (wJ M1 p0 12 x6) fun M13 => nm (p3 + (1 : Int32)) fun x15 => st (wI M13 p0 0 x15) fun M17 => nm (p3 + (1 : Int32)) fun x19 => K17 p0 x6 x19 M17))
def l_X3_chooseFrom_17 (φ : fM → Prop) : Nat → Nat → Int64 → Int32 → fM → Prop
  | 0, _, _, _, _ => False
  | n + 1, p0, p1, p3, M => b_X3_chooseFrom_17 (l_X3_chooseFrom_17 φ n) φ p0 p1 p3 M
set_option maxRecDepth 100000 in
theorem sb_X3_chooseFrom_17 {g : GT} {d : Nat} (hd : 4 ≤ d + 1) {K17 : Nat → Int64 → Int32 → fM → Prop} {φ : fM → Prop} (hK17 : ∀ (p0 : Nat) (p1 : Int64) (p3 : Int32) (M : fM), K17 p0 p1 p3 M → FW g mtX3_chooseFrom (d + 1) 17 [(0, .ref p0), (1, .long p1), (3, .int p3)] [] M 0 0 (rV φ)) {p0 : Nat} {p1 : Int64} {p3 : Int32} {M : fM} (h : b_X3_chooseFrom_17 K17 φ p0 p1 p3 M) : FW g mtX3_chooseFrom (d + 1) 17 [(0, .ref p0), (1, .long p1), (3, .int p3)] [] M 0 0 (rV φ) := by
  unfold b_X3_chooseFrom_17 at h
  refine fw_iload_n (i := 3) 2 rfl (show decode _ _ = .ok (.iload_n 3, 1) by decide +kernel) ?_
  refine fw_bipush (v := (30 : Int32)) (show decode _ _ = .ok (.bipush 30, 2) by decide +kernel) (by decide) ?_
  refine fw_icmp_ge 58 (show decode _ _ = .ok (.if_icmp .ge 38, 3) by decide +kernel) (by decide) (fun hc22 => ?_) (fun hc22 => ?_)
  · have h_1 := ipos hc22 h
    exact fw_ret (v := none) .return_ (show decode _ _ = .ok (.return_, 1) by decide +kernel) ⟨rfl, rfl⟩ ⟨rfl, h_1⟩
  · have h_2 := ineg hc22 h
    refine fw_lload_n (i := 1) 1 rfl (show decode _ _ = .ok (.lload_n 1, 1) by decide +kernel) ?_
    refine fw_aload_n (i := 0) 0 rfl (show decode _ _ = .ok (.aload_n 0, 1) by decide +kernel) ?_
    refine fw_iload_n (i := 3) 2 rfl (show decode _ _ = .ok (.iload_n 3, 1) by decide +kernel) ?_
    obtain ⟨⟨hr3, n2, hs4⟩, h_3⟩ := h_2
    refine fw_callV (mt' := mtX3_boldlyMore) (mc := 0) (ms := 0) (As := [.int p3]) (rest := [.long p1]) 1 3 n2 (show decode _ _ = .ok (.invokevirtual 159, 3) by decide +kernel) cv_X3_159 ⟨_, rfl, rfl⟩ hr3 hs4 rfl (Nat.le_of_ble_eq_true rfl) (s_X3_boldlyMore (d := d) (hd_le hd (by decide)) h_3) (by decide) (by decide) (kJ (bc' := 0) (bs' := 0) (by decide) (by decide) (fun x5 M1 h_4 => ?_))
    refine fw_ladd (show decode _ _ = .ok (.ladd, 1) by decide +kernel) ?_
    refine fw_nmJ (fun x6 ex7 => ?_)
    have h_5 := h_4 x6 ex7
    refine fw_lstore_n (i := 1) (ls' := [(1, .long x6), (0, .ref p0), (3, .int p3)]) (show decode _ _ = .ok (.lstore_n 1, 1) by decide +kernel) (by decide) rfl ?_
    refine fw_lload_n (i := 1) 0 rfl (show decode _ _ = .ok (.lload_n 1, 1) by decide +kernel) ?_
    refine fw_aload_n (i := 0) 1 rfl (show decode _ _ = .ok (.aload_n 0, 1) by decide +kernel) ?_
    obtain ⟨⟨hr9, n8, hs10⟩, h_6⟩ := h_5
    refine fw_getJ (kd := 3) (k := 12) (show decode _ _ = .ok (.getfield 165, 3) by decide +kernel) gf_X3_165 hr9 hs10 rfl ?_
    refine fw_lcmp (show decode _ _ = .ok (.lcmp, 1) by decide +kernel) ?_
    refine fw_if_ge 52 (show decode _ _ = .ok (.ifCond .ge 15, 3) by decide +kernel) (by decide) (fun hc21 => ?_) (fun hc21 => ?_)
    · have h_7 := ipos hc21 h_6
      obtain ⟨x11, ex12⟩ : ∃ y : Int32, y = p3 + (1 : Int32) := ⟨_, rfl⟩
      have h_8 := h_7 x11 ex12
      refine fw_iinc (i := 3) (x := p3) (v := x11) (ls' := [(3, .int x11), (1, .long x6), (0, .ref p0)]) 2 rfl (show decode _ _ = .ok (.iinc 3 1, 3) by decide +kernel) (by rw [ex12]; rfl) (by decide) rfl ?_
      refine fw_goto 17 (show decode _ _ = .ok (.goto (-38), 3) by decide +kernel) (by decide) ?_
      refine FW.sub [2, 1, 0] (ls' := [(0, .ref p0), (1, .long x6), (3, .int x11)]) rfl ?_
      exact hK17 _ _ _ _ h_8
    · have h_9 := ineg hc21 h_6
      refine fw_aload_n (i := 0) 1 rfl (show decode _ _ = .ok (.aload_n 0, 1) by decide +kernel) ?_
      refine fw_lload_n (i := 1) 0 rfl (show decode _ _ = .ok (.lload_n 1, 1) by decide +kernel) ?_
      refine fw_putJ (kd := 3) (k := 12) (show decode _ _ = .ok (.putfield 165, 3) by decide +kernel) ⟨gf_X3_165, _, rfl, Or.inl rfl⟩ hr9 hs10 rfl ?_
      refine FW.nmM (fun M13 eM14 => ?_)
      have h_10 := h_9 M13 eM14
      refine fw_aload_n (i := 0) 1 rfl (show decode _ _ = .ok (.aload_n 0, 1) by decide +kernel) ?_
      refine fw_iload_n (i := 3) 2 rfl (show decode _ _ = .ok (.iload_n 3, 1) by decide +kernel) ?_
      refine fw_iconst (v := (1 : Int32)) (show decode _ _ = .ok (.iconst 1, 1) by decide +kernel) (by decide) ?_
      refine fw_iadd (show decode _ _ = .ok (.iadd, 1) by decide +kernel) ?_
      refine fw_nmI (fun x15 ex16 => ?_)
      have h_11 := h_10 x15 ex16
      refine fw_putI (kd := 3) (k := 0) (show decode _ _ = .ok (.putfield 162, 3) by decide +kernel) ⟨gf_X3_162, _, rfl, Or.inl rfl⟩ hr9 (mSw_J eM14 hs10) rfl ?_
      refine FW.nmM (fun M17 eM18 => ?_)
      have h_12 := h_11 M17 eM18
      obtain ⟨x19, ex20⟩ : ∃ y : Int32, y = p3 + (1 : Int32) := ⟨_, rfl⟩
      have h_13 := h_12 x19 ex20
      refine fw_iinc (i := 3) (x := p3) (v := x19) (ls' := [(3, .int x19), (1, .long x6), (0, .ref p0)]) 2 rfl (show decode _ _ = .ok (.iinc 3 1, 3) by decide +kernel) (by rw [ex20]; rfl) (by decide) rfl ?_
      refine fw_goto 17 (show decode _ _ = .ok (.goto (-38), 3) by decide +kernel) (by decide) ?_
      refine FW.sub [2, 1, 0] (ls' := [(0, .ref p0), (1, .long x6), (3, .int x19)]) rfl ?_
      exact hK17 _ _ _ _ h_13
theorem sl_X3_chooseFrom_17 {g : GT} {d : Nat} (hd : 4 ≤ d + 1) {φ : fM → Prop} : ∀ (n : Nat) {p0 : Nat} {p1 : Int64} {p3 : Int32} {M : fM}, l_X3_chooseFrom_17 φ n p0 p1 p3 M → FW g mtX3_chooseFrom (d + 1) 17 [(0, .ref p0), (1, .long p1), (3, .int p3)] [] M 0 0 (rV φ)
  | 0 => fun h => h.elim
  | n + 1 => fun h => sb_X3_chooseFrom_17 hd (fun _ _ _ _ h => sl_X3_chooseFrom_17 hd n h) h
def w_X3_chooseFrom (p0 : Nat) (M : fM) (φ : fM → Prop) : Prop := isO M p0 3 ∧ w_X3_costOfToes p0 M fun x27 M23 => isO M23 p0 3 ∧ st (wI M23 p0 0 (0 : Int32)) fun M31 => st (wJ M31 p0 12 x27) fun M33 => ∃ n, l_X3_chooseFrom_17 φ n p0 x27 (0 : Int32) M33
set_option maxRecDepth 100000 in
theorem s_X3_chooseFrom {g : GT} {d : Nat} (hd : 4 ≤ d) {p0 : Nat} {M : fM} {φ : fM → Prop} (h : w_X3_chooseFrom p0 M φ) : FC g mtX3_chooseFrom d [.ref p0] M 0 0 (rV φ) := by
  obtain ⟨d, rfl⟩ : ∃ e, d = e + 1 := ⟨d - 1, by omega⟩
  unfold w_X3_chooseFrom at h
  refine FC.intro (nL := 4) (by decide) rfl (Nat.le_of_ble_eq_true rfl) ?_
  show FW g mtX3_chooseFrom (d + 1) 0 [(0, .ref p0)] [] M 0 0 (rV φ)
  refine fw_aload_n (i := 0) 0 rfl (show decode _ _ = .ok (.aload_n 0, 1) by decide +kernel) ?_
  obtain ⟨⟨hr25, n24, hs26⟩, h_1⟩ := h
  refine fw_callV (mt' := mtX3_costOfToes) (mc := 0) (ms := 0) (As := []) (rest := []) 0 3 n24 (show decode _ _ = .ok (.invokevirtual 155, 3) by decide +kernel) cv_X3_155 ⟨_, rfl, rfl⟩ hr25 hs26 rfl (Nat.le_of_ble_eq_true rfl) (s_X3_costOfToes (d := d) (hd_le hd (by decide)) h_1) (by decide) (by decide) (kJ (bc' := 0) (bs' := 0) (by decide) (by decide) (fun x27 M23 h_2 => ?_))
  refine fw_lstore_n (i := 1) (ls' := [(1, .long x27), (0, .ref p0)]) (show decode _ _ = .ok (.lstore_n 1, 1) by decide +kernel) (by decide) rfl ?_
  refine fw_aload_n (i := 0) 1 rfl (show decode _ _ = .ok (.aload_n 0, 1) by decide +kernel) ?_
  refine fw_iconst (v := (0 : Int32)) (show decode _ _ = .ok (.iconst 0, 1) by decide +kernel) (by decide) ?_
  obtain ⟨⟨hr29, n28, hs30⟩, h_3⟩ := h_2
  refine fw_putI (kd := 3) (k := 0) (show decode _ _ = .ok (.putfield 162, 3) by decide +kernel) ⟨gf_X3_162, _, rfl, Or.inl rfl⟩ hr29 hs30 rfl ?_
  refine FW.nmM (fun M31 eM32 => ?_)
  have h_4 := h_3 M31 eM32
  refine fw_aload_n (i := 0) 1 rfl (show decode _ _ = .ok (.aload_n 0, 1) by decide +kernel) ?_
  refine fw_lload_n (i := 1) 0 rfl (show decode _ _ = .ok (.lload_n 1, 1) by decide +kernel) ?_
  refine fw_putJ (kd := 3) (k := 12) (show decode _ _ = .ok (.putfield 165, 3) by decide +kernel) ⟨gf_X3_165, _, rfl, Or.inl rfl⟩ hr29 (mSw_I eM32 hs30) rfl ?_
  refine FW.nmM (fun M33 eM34 => ?_)
  have h_5 := h_4 M33 eM34
  refine fw_iconst (v := (0 : Int32)) (show decode _ _ = .ok (.iconst 0, 1) by decide +kernel) (by decide) ?_
  refine fw_istore_n (i := 3) (ls' := [(3, .int (0 : Int32)), (1, .long x27), (0, .ref p0)]) (show decode _ _ = .ok (.istore_n 3, 1) by decide +kernel) (by decide) rfl ?_
  refine FW.sub [2, 1, 0] (ls' := [(0, .ref p0), (1, .long x27), (3, .int (0 : Int32))]) rfl ?_
  obtain ⟨nn, h_6⟩ := h_5
  exact sl_X3_chooseFrom_17 hd nn h_6
def w_X10_from (p0 : Nat) (p1 : Int32) (p2 : Int32) (p3 : Int32) (M : fM) (φ : Int32 → fM → Prop) : Prop := isO M p0 10 ∧ dR (mP M p0 5) fun y4 => isO M y4 3 ∧ w_X3_look y4 p1 p2 p3 M fun x10 M6 => iF (x10 = 0) (φ (-1 : Int32) M6) (isO M6 p0 10 ∧ dR (mP M6 p0 5) fun y14 => isO M6 y14 3 ∧ w_X3_spread y14 M6 fun M16 => isO M16 p0 10 ∧ dR (mP M16 p0 5) fun y23 => isO M16 y23 3 ∧ w_X3_chooseFrom y23 M16 fun M25 => isO M25 p0 10 ∧ dR (mP M25 p0 5) fun y32 => isO M25 y32 3 ∧ φ (mI M25 y32 0) M25)
set_option maxRecDepth 100000 in
theorem s_X10_from {g : GT} {d : Nat} (hd : 5 ≤ d) {p0 : Nat} {p1 : Int32} {p2 : Int32} {p3 : Int32} {M : fM} {φ : Int32 → fM → Prop} (h : w_X10_from p0 p1 p2 p3 M φ) : FC g mtX10_from d [.ref p0, .int p1, .int p2, .int p3] M 0 0 (rI φ) := by
  obtain ⟨d, rfl⟩ : ∃ e, d = e + 1 := ⟨d - 1, by omega⟩
  unfold w_X10_from at h
  refine FC.intro (nL := 4) (by decide) rfl (Nat.le_of_ble_eq_true rfl) ?_
  show FW g mtX10_from (d + 1) 0 [(0, .ref p0), (1, .int p1), (2, .int p2), (3, .int p3)] [] M 0 0 (rI φ)
  refine fw_aload_n (i := 0) 0 rfl (show decode _ _ = .ok (.aload_n 0, 1) by decide +kernel) ?_
  obtain ⟨⟨hr2, n1, hs3⟩, h_1⟩ := h
  refine fw_getP (kd := 10) (k := 5) (show decode _ _ = .ok (.getfield 50, 3) by decide +kernel) gf_X10_50 hr2 hs3 rfl ?_
  have h_2 := dR_e h_1
  obtain ⟨y4, hy5, h_3⟩ := h_2
  refine fw_deref hy5 ?_
  refine fw_iload_n (i := 1) 1 rfl (show decode _ _ = .ok (.iload_n 1, 1) by decide +kernel) ?_
  refine fw_iload_n (i := 2) 2 rfl (show decode _ _ = .ok (.iload_n 2, 1) by decide +kernel) ?_
  refine fw_iload_n (i := 3) 3 rfl (show decode _ _ = .ok (.iload_n 3, 1) by decide +kernel) ?_
  obtain ⟨⟨hr8, n7, hs9⟩, h_4⟩ := h_3
  refine fw_callV (mt' := mtX3_look) (mc := 0) (ms := 0) (As := [.int p1, .int p2, .int p3]) (rest := []) 3 3 n7 (show decode _ _ = .ok (.invokevirtual 203, 3) by decide +kernel) cv_X10_203 ⟨_, rfl, rfl⟩ hr8 hs9 rfl (Nat.le_of_ble_eq_true rfl) (s_X3_look (d := d) (hd_le hd (by decide)) h_4) (by decide) (by decide) (kI (bc' := 0) (bs' := 0) (by decide) (by decide) (fun x10 M6 h_5 => ?_))
  refine fw_if_ne 15 (show decode _ _ = .ok (.ifCond .ne 5, 3) by decide +kernel) (by decide) (fun hc37 => ?_) (fun hc37 => ?_)
  · have h_6 := ineg hc37 h_5
    refine fw_aload_n (i := 0) 0 rfl (show decode _ _ = .ok (.aload_n 0, 1) by decide +kernel) ?_
    obtain ⟨⟨hr12, n11, hs13⟩, h_7⟩ := h_6
    refine fw_getP (kd := 10) (k := 5) (show decode _ _ = .ok (.getfield 50, 3) by decide +kernel) gf_X10_50 hr12 hs13 rfl ?_
    have h_8 := dR_e h_7
    obtain ⟨y14, hy15, h_9⟩ := h_8
    refine fw_deref hy15 ?_
    obtain ⟨⟨hr18, n17, hs19⟩, h_10⟩ := h_9
    refine fw_callV (mt' := mtX3_spread) (mc := 0) (ms := 0) (As := []) (rest := []) 0 3 n17 (show decode _ _ = .ok (.invokevirtual 212, 3) by decide +kernel) cv_X10_212 ⟨_, rfl, rfl⟩ hr18 hs19 rfl (Nat.le_of_ble_eq_true rfl) (s_X3_spread (d := d) (hd_le hd (by decide)) h_10) (by decide) (by decide) (kV (bc' := 0) (bs' := 0) (by decide) (by decide) (fun M16 h_11 => ?_))
    refine fw_aload_n (i := 0) 0 rfl (show decode _ _ = .ok (.aload_n 0, 1) by decide +kernel) ?_
    obtain ⟨⟨hr21, n20, hs22⟩, h_12⟩ := h_11
    refine fw_getP (kd := 10) (k := 5) (show decode _ _ = .ok (.getfield 50, 3) by decide +kernel) gf_X10_50 hr21 hs22 rfl ?_
    have h_13 := dR_e h_12
    obtain ⟨y23, hy24, h_14⟩ := h_13
    refine fw_deref hy24 ?_
    obtain ⟨⟨hr27, n26, hs28⟩, h_15⟩ := h_14
    refine fw_callV (mt' := mtX3_chooseFrom) (mc := 0) (ms := 0) (As := []) (rest := []) 0 3 n26 (show decode _ _ = .ok (.invokevirtual 219, 3) by decide +kernel) cv_X10_219 ⟨_, rfl, rfl⟩ hr27 hs28 rfl (Nat.le_of_ble_eq_true rfl) (s_X3_chooseFrom (d := d) (hd_le hd (by decide)) h_15) (by decide) (by decide) (kV (bc' := 0) (bs' := 0) (by decide) (by decide) (fun M25 h_16 => ?_))
    refine fw_aload_n (i := 0) 0 rfl (show decode _ _ = .ok (.aload_n 0, 1) by decide +kernel) ?_
    obtain ⟨⟨hr30, n29, hs31⟩, h_17⟩ := h_16
    refine fw_getP (kd := 10) (k := 5) (show decode _ _ = .ok (.getfield 50, 3) by decide +kernel) gf_X10_50 hr30 hs31 rfl ?_
    have h_18 := dR_e h_17
    obtain ⟨y32, hy33, h_19⟩ := h_18
    refine fw_deref hy33 ?_
    obtain ⟨⟨hr35, n34, hs36⟩, h_20⟩ := h_19
    refine fw_getI (kd := 3) (k := 0) (show decode _ _ = .ok (.getfield 222, 3) by decide +kernel) gf_X10_222 hr35 hs36 (Or.inl rfl) ?_
    exact fw_ret (v := some (.int (mI M25 y32 0))) .ireturn (show decode _ _ = .ok (.ireturn, 1) by decide +kernel) ⟨rfl, Or.inl rfl⟩ ⟨_, rfl, h_20⟩
  · have h_21 := ipos hc37 h_5
    refine fw_iconst (v := (-1 : Int32)) (show decode _ _ = .ok (.iconst (-1), 1) by decide +kernel) (by decide) ?_
    exact fw_ret (v := some (.int (-1 : Int32))) .ireturn (show decode _ _ = .ok (.ireturn, 1) by decide +kernel) ⟨rfl, Or.inl rfl⟩ ⟨_, rfl, h_21⟩
def w_X3_goesWithLoad (p0 : Nat) (p1 : Int32) (p2 : Int32) (M : fM) (φ : Int32 → fM → Prop) : Prop := isO M p0 3 ∧ w_X3_look p0 p1 p2 (0 : Int32) M fun x5 M1 => iF (x5 = 0) (φ (-1 : Int32) M1) (isO M1 p0 3 ∧ w_X3_spread p0 M1 fun M6 => isO M6 p0 3 ∧ w_X3_chooseFrom p0 M6 fun M10 => isO M10 p0 3 ∧ nm ((2 : Int64) * (mJ M10 p0 12)) fun x17 => w_X3_look p0 p1 p2 (1 : Int32) M10 fun x20 M19 => isO M19 p0 3 ∧ w_X3_spread p0 M19 fun M21 => isO M21 p0 3 ∧ w_X3_chooseFrom p0 M21 fun M25 => isO M25 p0 3 ∧ iF ((lg_cmp x17 (mJ M25 p0 12)) = 0) (φ (2 : Int32) M25) (iF (0 ≤ (lg_cmp x17 (mJ M25 p0 12))) (φ (0 : Int32) M25) (φ (1 : Int32) M25)))
set_option maxRecDepth 100000 in
theorem s_X3_goesWithLoad {g : GT} {d : Nat} (hd : 5 ≤ d) {p0 : Nat} {p1 : Int32} {p2 : Int32} {M : fM} {φ : Int32 → fM → Prop} (h : w_X3_goesWithLoad p0 p1 p2 M φ) : FC g mtX3_goesWithLoad d [.ref p0, .int p1, .int p2] M 0 0 (rI φ) := by
  obtain ⟨d, rfl⟩ : ∃ e, d = e + 1 := ⟨d - 1, by omega⟩
  unfold w_X3_goesWithLoad at h
  refine FC.intro (nL := 5) (by decide) rfl (Nat.le_of_ble_eq_true rfl) ?_
  show FW g mtX3_goesWithLoad (d + 1) 0 [(0, .ref p0), (1, .int p1), (2, .int p2)] [] M 0 0 (rI φ)
  refine fw_aload_n (i := 0) 0 rfl (show decode _ _ = .ok (.aload_n 0, 1) by decide +kernel) ?_
  refine fw_iload_n (i := 1) 1 rfl (show decode _ _ = .ok (.iload_n 1, 1) by decide +kernel) ?_
  refine fw_iload_n (i := 2) 2 rfl (show decode _ _ = .ok (.iload_n 2, 1) by decide +kernel) ?_
  refine fw_iconst (v := (0 : Int32)) (show decode _ _ = .ok (.iconst 0, 1) by decide +kernel) (by decide) ?_
  obtain ⟨⟨hr3, n2, hs4⟩, h_1⟩ := h
  refine fw_callV (mt' := mtX3_look) (mc := 0) (ms := 0) (As := [.int p1, .int p2, .int (0 : Int32)]) (rest := []) 3 3 n2 (show decode _ _ = .ok (.invokevirtual 172, 3) by decide +kernel) cv_X3_172 ⟨_, rfl, rfl⟩ hr3 hs4 rfl (Nat.le_of_ble_eq_true rfl) (s_X3_look (d := d) (hd_le hd (by decide)) h_1) (by decide) (by decide) (kI (bc' := 0) (bs' := 0) (by decide) (by decide) (fun x5 M1 h_2 => ?_))
  refine fw_if_ne 12 (show decode _ _ = .ok (.ifCond .ne 5, 3) by decide +kernel) (by decide) (fun hc34 => ?_) (fun hc34 => ?_)
  · have h_3 := ineg hc34 h_2
    refine fw_aload_n (i := 0) 0 rfl (show decode _ _ = .ok (.aload_n 0, 1) by decide +kernel) ?_
    obtain ⟨⟨hr8, n7, hs9⟩, h_4⟩ := h_3
    refine fw_callV (mt' := mtX3_spread) (mc := 0) (ms := 0) (As := []) (rest := []) 0 3 n7 (show decode _ _ = .ok (.invokevirtual 145, 3) by decide +kernel) cv_X3_145 ⟨_, rfl, rfl⟩ hr8 hs9 rfl (Nat.le_of_ble_eq_true rfl) (s_X3_spread (d := d) (hd_le hd (by decide)) h_4) (by decide) (by decide) (kV (bc' := 0) (bs' := 0) (by decide) (by decide) (fun M6 h_5 => ?_))
    refine fw_aload_n (i := 0) 0 rfl (show decode _ _ = .ok (.aload_n 0, 1) by decide +kernel) ?_
    obtain ⟨⟨hr12, n11, hs13⟩, h_6⟩ := h_5
    refine fw_callV (mt' := mtX3_chooseFrom) (mc := 0) (ms := 0) (As := []) (rest := []) 0 3 n11 (show decode _ _ = .ok (.invokevirtual 169, 3) by decide +kernel) cv_X3_169 ⟨_, rfl, rfl⟩ hr12 hs13 rfl (Nat.le_of_ble_eq_true rfl) (s_X3_chooseFrom (d := d) (hd_le hd (by decide)) h_6) (by decide) (by decide) (kV (bc' := 0) (bs' := 0) (by decide) (by decide) (fun M10 h_7 => ?_))
    refine fw_ldc2 (idx := 176) (v := (2 : Int64)) (show decode _ _ = .ok (.ldc2_w 176, 3) by decide +kernel) wd1195 ?_
    refine fw_aload_n (i := 0) 0 rfl (show decode _ _ = .ok (.aload_n 0, 1) by decide +kernel) ?_
    obtain ⟨⟨hr15, n14, hs16⟩, h_8⟩ := h_7
    refine fw_getJ (kd := 3) (k := 12) (show decode _ _ = .ok (.getfield 165, 3) by decide +kernel) gf_X3_165 hr15 hs16 rfl ?_
    refine fw_lmul (show decode _ _ = .ok (.lmul, 1) by decide +kernel) ?_
    refine fw_nmJ (fun x17 ex18 => ?_)
    have h_9 := h_8 x17 ex18
    refine fw_lstore_n (i := 3) (ls' := [(3, .long x17), (0, .ref p0), (1, .int p1), (2, .int p2)]) (show decode _ _ = .ok (.lstore_n 3, 1) by decide +kernel) (by decide) rfl ?_
    refine fw_aload_n (i := 0) 1 rfl (show decode _ _ = .ok (.aload_n 0, 1) by decide +kernel) ?_
    refine fw_iload_n (i := 1) 2 rfl (show decode _ _ = .ok (.iload_n 1, 1) by decide +kernel) ?_
    refine fw_iload_n (i := 2) 3 rfl (show decode _ _ = .ok (.iload_n 2, 1) by decide +kernel) ?_
    refine fw_iconst (v := (1 : Int32)) (show decode _ _ = .ok (.iconst 1, 1) by decide +kernel) (by decide) ?_
    refine fw_callV (mt' := mtX3_look) (mc := 0) (ms := 0) (As := [.int p1, .int p2, .int (1 : Int32)]) (rest := []) 3 3 n14 (show decode _ _ = .ok (.invokevirtual 172, 3) by decide +kernel) cv_X3_172 ⟨_, rfl, rfl⟩ hr15 hs16 rfl (Nat.le_of_ble_eq_true rfl) (s_X3_look (d := d) (hd_le hd (by decide)) h_9) (by decide) (by decide) (kI (bc' := 0) (bs' := 0) (by decide) (by decide) (fun x20 M19 h_10 => ?_))
    refine fw_pop (show decode _ _ = .ok (.pop, 1) by decide +kernel) rfl ?_
    refine fw_aload_n (i := 0) 1 rfl (show decode _ _ = .ok (.aload_n 0, 1) by decide +kernel) ?_
    obtain ⟨⟨hr23, n22, hs24⟩, h_11⟩ := h_10
    refine fw_callV (mt' := mtX3_spread) (mc := 0) (ms := 0) (As := []) (rest := []) 0 3 n22 (show decode _ _ = .ok (.invokevirtual 145, 3) by decide +kernel) cv_X3_145 ⟨_, rfl, rfl⟩ hr23 hs24 rfl (Nat.le_of_ble_eq_true rfl) (s_X3_spread (d := d) (hd_le hd (by decide)) h_11) (by decide) (by decide) (kV (bc' := 0) (bs' := 0) (by decide) (by decide) (fun M21 h_12 => ?_))
    refine fw_aload_n (i := 0) 1 rfl (show decode _ _ = .ok (.aload_n 0, 1) by decide +kernel) ?_
    obtain ⟨⟨hr27, n26, hs28⟩, h_13⟩ := h_12
    refine fw_callV (mt' := mtX3_chooseFrom) (mc := 0) (ms := 0) (As := []) (rest := []) 0 3 n26 (show decode _ _ = .ok (.invokevirtual 169, 3) by decide +kernel) cv_X3_169 ⟨_, rfl, rfl⟩ hr27 hs28 rfl (Nat.le_of_ble_eq_true rfl) (s_X3_chooseFrom (d := d) (hd_le hd (by decide)) h_13) (by decide) (by decide) (kV (bc' := 0) (bs' := 0) (by decide) (by decide) (fun M25 h_14 => ?_))
    refine fw_lload_n (i := 3) 0 rfl (show decode _ _ = .ok (.lload_n 3, 1) by decide +kernel) ?_
    refine fw_aload_n (i := 0) 1 rfl (show decode _ _ = .ok (.aload_n 0, 1) by decide +kernel) ?_
    obtain ⟨⟨hr30, n29, hs31⟩, h_15⟩ := h_14
    refine fw_getJ (kd := 3) (k := 12) (show decode _ _ = .ok (.getfield 165, 3) by decide +kernel) gf_X3_165 hr30 hs31 rfl ?_
    refine fw_lcmp (show decode _ _ = .ok (.lcmp, 1) by decide +kernel) ?_
    refine fw_if_ne 56 (show decode _ _ = .ok (.ifCond .ne 5, 3) by decide +kernel) (by decide) (fun hc33 => ?_) (fun hc33 => ?_)
    · have h_16 := ineg hc33 h_15
      refine fw_lload_n (i := 3) 0 rfl (show decode _ _ = .ok (.lload_n 3, 1) by decide +kernel) ?_
      refine fw_aload_n (i := 0) 1 rfl (show decode _ _ = .ok (.aload_n 0, 1) by decide +kernel) ?_
      refine fw_getJ (kd := 3) (k := 12) (show decode _ _ = .ok (.getfield 165, 3) by decide +kernel) gf_X3_165 hr30 hs31 rfl ?_
      refine fw_lcmp (show decode _ _ = .ok (.lcmp, 1) by decide +kernel) ?_
      refine fw_if_ge 69 (show decode _ _ = .ok (.ifCond .ge 7, 3) by decide +kernel) (by decide) (fun hc32 => ?_) (fun hc32 => ?_)
      · have h_17 := ipos hc32 h_16
        refine fw_iconst (v := (0 : Int32)) (show decode _ _ = .ok (.iconst 0, 1) by decide +kernel) (by decide) ?_
        exact fw_ret (v := some (.int (0 : Int32))) .ireturn (show decode _ _ = .ok (.ireturn, 1) by decide +kernel) ⟨rfl, Or.inl rfl⟩ ⟨_, rfl, h_17⟩
      · have h_18 := ineg hc32 h_16
        refine fw_iconst (v := (1 : Int32)) (show decode _ _ = .ok (.iconst 1, 1) by decide +kernel) (by decide) ?_
        refine fw_goto 70 (show decode _ _ = .ok (.goto 4, 3) by decide +kernel) (by decide) ?_
        exact fw_ret (v := some (.int (1 : Int32))) .ireturn (show decode _ _ = .ok (.ireturn, 1) by decide +kernel) ⟨rfl, Or.inl rfl⟩ ⟨_, rfl, h_18⟩
    · have h_19 := ipos hc33 h_15
      refine fw_iconst (v := (2 : Int32)) (show decode _ _ = .ok (.iconst 2, 1) by decide +kernel) (by decide) ?_
      exact fw_ret (v := some (.int (2 : Int32))) .ireturn (show decode _ _ = .ok (.ireturn, 1) by decide +kernel) ⟨rfl, Or.inl rfl⟩ ⟨_, rfl, h_19⟩
  · have h_20 := ipos hc34 h_2
    refine fw_iconst (v := (-1 : Int32)) (show decode _ _ = .ok (.iconst (-1), 1) by decide +kernel) (by decide) ?_
    exact fw_ret (v := some (.int (-1 : Int32))) .ireturn (show decode _ _ = .ok (.ireturn, 1) by decide +kernel) ⟨rfl, Or.inl rfl⟩ ⟨_, rfl, h_20⟩
def w_X10_goes (p0 : Nat) (p1 : Int32) (p2 : Int32) (M : fM) (φ : Int32 → fM → Prop) : Prop := isO M p0 10 ∧ dR (mP M p0 5) fun y4 => isO M y4 3 ∧ w_X3_goesWithLoad y4 p1 p2 M fun x10 M6 => φ x10 M6
set_option maxRecDepth 100000 in
theorem s_X10_goes {g : GT} {d : Nat} (hd : 6 ≤ d) {p0 : Nat} {p1 : Int32} {p2 : Int32} {M : fM} {φ : Int32 → fM → Prop} (h : w_X10_goes p0 p1 p2 M φ) : FC g mtX10_goes d [.ref p0, .int p1, .int p2] M 0 0 (rI φ) := by
  obtain ⟨d, rfl⟩ : ∃ e, d = e + 1 := ⟨d - 1, by omega⟩
  unfold w_X10_goes at h
  refine FC.intro (nL := 3) (by decide) rfl (Nat.le_of_ble_eq_true rfl) ?_
  show FW g mtX10_goes (d + 1) 0 [(0, .ref p0), (1, .int p1), (2, .int p2)] [] M 0 0 (rI φ)
  refine fw_aload_n (i := 0) 0 rfl (show decode _ _ = .ok (.aload_n 0, 1) by decide +kernel) ?_
  obtain ⟨⟨hr2, n1, hs3⟩, h_1⟩ := h
  refine fw_getP (kd := 10) (k := 5) (show decode _ _ = .ok (.getfield 50, 3) by decide +kernel) gf_X10_50 hr2 hs3 rfl ?_
  have h_2 := dR_e h_1
  obtain ⟨y4, hy5, h_3⟩ := h_2
  refine fw_deref hy5 ?_
  refine fw_iload_n (i := 1) 1 rfl (show decode _ _ = .ok (.iload_n 1, 1) by decide +kernel) ?_
  refine fw_iload_n (i := 2) 2 rfl (show decode _ _ = .ok (.iload_n 2, 1) by decide +kernel) ?_
  obtain ⟨⟨hr8, n7, hs9⟩, h_4⟩ := h_3
  refine fw_callV (mt' := mtX3_goesWithLoad) (mc := 0) (ms := 0) (As := [.int p1, .int p2]) (rest := []) 2 3 n7 (show decode _ _ = .ok (.invokevirtual 228, 3) by decide +kernel) cv_X10_228 ⟨_, rfl, rfl⟩ hr8 hs9 rfl (Nat.le_of_ble_eq_true rfl) (s_X3_goesWithLoad (d := d) (hd_le hd (by decide)) h_4) (by decide) (by decide) (kI (bc' := 0) (bs' := 0) (by decide) (by decide) (fun x10 M6 h_5 => ?_))
  exact fw_ret (v := some (.int x10)) .ireturn (show decode _ _ = .ok (.ireturn, 1) by decide +kernel) ⟨rfl, Or.inl rfl⟩ ⟨_, rfl, h_5⟩
def w_X5_tellHeight (p0 : Nat) (p1 : Int32) (p2 : Int32) (p3 : Int32) (M : fM) (φ : Int32 → fM → Prop) : Prop := isO M p0 5 ∧ w_X5_houseOf p0 p1 M fun o5 M1 => gN o5 (fun y6 => isO M1 y6 0 ∧ w_X0_hasStep y6 p2 M1 fun x12 M8 => iF (x12 = 0) (φ (0 : Int32) M8) (iF (p3 < (1 : Int32)) (φ (0 : Int32) M8) (iF (p3 ≤ (9 : Int32)) (isO M8 y6 0 ∧ dR (mP M8 y6 1) fun y16 => w_X10_put y16 p2 p3 M8 fun M18 => isO M18 y6 0 ∧ st (wI M18 y6 4 (1 : Int32)) fun M22 => φ (1 : Int32) M22) (φ (0 : Int32) M8)))) (φ (0 : Int32) M1)
set_option maxRecDepth 100000 in
theorem s_X5_tellHeight {g : GT} {d : Nat} (hd : 2 ≤ d) {p0 : Nat} {p1 : Int32} {p2 : Int32} {p3 : Int32} {M : fM} {φ : Int32 → fM → Prop} (h : w_X5_tellHeight p0 p1 p2 p3 M φ) : FC g mtX5_tellHeight d [.ref p0, .int p1, .int p2, .int p3] M 0 0 (rI φ) := by
  obtain ⟨d, rfl⟩ : ∃ e, d = e + 1 := ⟨d - 1, by omega⟩
  unfold w_X5_tellHeight at h
  refine FC.intro (nL := 5) (by decide) rfl (Nat.le_of_ble_eq_true rfl) ?_
  show FW g mtX5_tellHeight (d + 1) 0 [(0, .ref p0), (1, .int p1), (2, .int p2), (3, .int p3)] [] M 0 0 (rI φ)
  refine fw_aload_n (i := 0) 0 rfl (show decode _ _ = .ok (.aload_n 0, 1) by decide +kernel) ?_
  refine fw_iload_n (i := 1) 1 rfl (show decode _ _ = .ok (.iload_n 1, 1) by decide +kernel) ?_
  obtain ⟨⟨hr3, n2, hs4⟩, h_1⟩ := h
  refine fw_callV (mt' := mtX5_houseOf) (mc := 0) (ms := 0) (As := [.int p1]) (rest := []) 1 5 n2 (show decode _ _ = .ok (.invokevirtual 59, 3) by decide +kernel) cv_X5_59 ⟨_, rfl, rfl⟩ hr3 hs4 rfl (Nat.le_of_ble_eq_true rfl) (s_X5_houseOf (d := d) (hd_le hd (by decide)) h_1) (by decide) (by decide) (kP (bc' := 0) (bs' := 0) (by decide) (by decide) (fun o5 M1 h_2 => ?_))
  refine fw_astoreq (i := 4) (ls' := [(4, fr o5), (0, .ref p0), (1, .int p1), (2, .int p2), (3, .int p3)]) (show decode _ _ = .ok (.astore 4, 2) by decide +kernel) (by decide) rfl ?_
  refine fw_aloadq (i := 4) 0 rfl (show decode _ _ = .ok (.aload 4, 2) by decide +kernel) ?_
  refine fw_ifnull (x := o5) 32 (show decode _ _ = .ok (.ifnull 23, 3) by decide +kernel) (by decide) (fun hy7 => ?_) (fun y6 hy7 => ?_)
  · have h_3 := gN_n hy7 h_2
    subst hy7
    refine fw_iconst (v := (0 : Int32)) (show decode _ _ = .ok (.iconst 0, 1) by decide +kernel) (by decide) ?_
    exact fw_ret (v := some (.int (0 : Int32))) .ireturn (show decode _ _ = .ok (.ireturn, 1) by decide +kernel) ⟨rfl, Or.inr (Or.inl ⟨rfl, rfl⟩)⟩ ⟨_, rfl, h_3⟩
  · have h_4 := gN_s hy7 h_2
    subst hy7
    refine fw_aload (i := 4) 0 rfl (show decode _ _ = .ok (.aload 4, 2) by decide +kernel) ?_
    refine fw_iload_n (i := 2) 3 rfl (show decode _ _ = .ok (.iload_n 2, 1) by decide +kernel) ?_
    obtain ⟨⟨hr10, n9, hs11⟩, h_5⟩ := h_4
    refine fw_callV (mt' := mtX0_hasStep) (mc := 0) (ms := 0) (As := [.int p2]) (rest := []) 1 0 n9 (show decode _ _ = .ok (.invokevirtual 75, 3) by decide +kernel) cv_X5_75 ⟨_, rfl, rfl⟩ hr10 hs11 rfl (Nat.le_of_ble_eq_true rfl) (s_X0_hasStep (d := d) (hd_le hd (by decide)) h_5) (by decide) (by decide) (kI (bc' := 0) (bs' := 0) (by decide) (by decide) (fun x12 M8 h_6 => ?_))
    refine fw_if_eq 32 (show decode _ _ = .ok (.ifCond .eq 14, 3) by decide +kernel) (by decide) (fun hc26 => ?_) (fun hc26 => ?_)
    · have h_7 := ipos hc26 h_6
      refine fw_iconst (v := (0 : Int32)) (show decode _ _ = .ok (.iconst 0, 1) by decide +kernel) (by decide) ?_
      exact fw_ret (v := some (.int (0 : Int32))) .ireturn (show decode _ _ = .ok (.ireturn, 1) by decide +kernel) ⟨rfl, Or.inr (Or.inl ⟨rfl, rfl⟩)⟩ ⟨_, rfl, h_7⟩
    · have h_8 := ineg hc26 h_6
      refine fw_iload_n (i := 3) 4 rfl (show decode _ _ = .ok (.iload_n 3, 1) by decide +kernel) ?_
      refine fw_iconst (v := (1 : Int32)) (show decode _ _ = .ok (.iconst 1, 1) by decide +kernel) (by decide) ?_
      refine fw_icmp_lt 32 (show decode _ _ = .ok (.if_icmp .lt 9, 3) by decide +kernel) (by decide) (fun hc25 => ?_) (fun hc25 => ?_)
      · have h_9 := ipos hc25 h_8
        refine fw_iconst (v := (0 : Int32)) (show decode _ _ = .ok (.iconst 0, 1) by decide +kernel) (by decide) ?_
        exact fw_ret (v := some (.int (0 : Int32))) .ireturn (show decode _ _ = .ok (.ireturn, 1) by decide +kernel) ⟨rfl, Or.inr (Or.inl ⟨rfl, rfl⟩)⟩ ⟨_, rfl, h_9⟩
      · have h_10 := ineg hc25 h_8
        refine fw_iload_n (i := 3) 4 rfl (show decode _ _ = .ok (.iload_n 3, 1) by decide +kernel) ?_
        refine fw_bipush (v := (9 : Int32)) (show decode _ _ = .ok (.bipush 9, 2) by decide +kernel) (by decide) ?_
        refine fw_icmp_le 34 (show decode _ _ = .ok (.if_icmp .le 5, 3) by decide +kernel) (by decide) (fun hc24 => ?_) (fun hc24 => ?_)
        · have h_11 := ipos hc24 h_10
          refine fw_aload (i := 4) 0 rfl (show decode _ _ = .ok (.aload 4, 2) by decide +kernel) ?_
          obtain ⟨⟨hr14, n13, hs15⟩, h_12⟩ := h_11
          refine fw_getP (kd := 0) (k := 1) (show decode _ _ = .ok (.getfield 79, 3) by decide +kernel) gf_X5_79 hr14 hs15 rfl ?_
          have h_13 := dR_e h_12
          obtain ⟨y16, hy17, h_14⟩ := h_13
          refine fw_deref hy17 ?_
          refine fw_iload_n (i := 2) 3 rfl (show decode _ _ = .ok (.iload_n 2, 1) by decide +kernel) ?_
          refine fw_iload_n (i := 3) 4 rfl (show decode _ _ = .ok (.iload_n 3, 1) by decide +kernel) ?_
          refine fw_callSN (mt' := mtX10_put) (mc := 0) (ms := 0) (As := [.ref y16, .int p2, .int p3]) (rest := []) 3 "OneStepMore" (show decode _ _ = .ok (.invokestatic 82, 3) by decide +kernel) ns_X5_82 rfl (Nat.le_of_ble_eq_true rfl) (s_X10_put (d := d) (hd_le hd (by decide)) h_14) (by decide) (by decide) (kV (bc' := 0) (bs' := 0) (by decide) (by decide) (fun M18 h_15 => ?_))
          refine fw_aload (i := 4) 0 rfl (show decode _ _ = .ok (.aload 4, 2) by decide +kernel) ?_
          refine fw_iconst (v := (1 : Int32)) (show decode _ _ = .ok (.iconst 1, 1) by decide +kernel) (by decide) ?_
          obtain ⟨⟨hr20, n19, hs21⟩, h_16⟩ := h_15
          refine fw_putZ (kd := 0) (k := 4) (show decode _ _ = .ok (.putfield 71, 3) by decide +kernel) ⟨gf_X5_71, _, rfl, Or.inl rfl⟩ hr20 hs21 rfl rfl ?_
          refine FW.nmM (fun M22 eM23 => ?_)
          have h_17 := h_16 M22 eM23
          refine fw_iconst (v := (1 : Int32)) (show decode _ _ = .ok (.iconst 1, 1) by decide +kernel) (by decide) ?_
          exact fw_ret (v := some (.int (1 : Int32))) .ireturn (show decode _ _ = .ok (.ireturn, 1) by decide +kernel) ⟨rfl, Or.inr (Or.inl ⟨rfl, rfl⟩)⟩ ⟨_, rfl, h_17⟩
        · have h_18 := ineg hc24 h_10
          refine fw_iconst (v := (0 : Int32)) (show decode _ _ = .ok (.iconst 0, 1) by decide +kernel) (by decide) ?_
          exact fw_ret (v := some (.int (0 : Int32))) .ireturn (show decode _ _ = .ok (.ireturn, 1) by decide +kernel) ⟨rfl, Or.inr (Or.inl ⟨rfl, rfl⟩)⟩ ⟨_, rfl, h_18⟩
def w_X10_height (p0 : Nat) (p1 : Int32) (p2 : Int32) (p3 : Int32) (M : fM) (φ : Int32 → fM → Prop) : Prop := isO M p0 10 ∧ dR (mP M p0 0) fun y4 => isO M y4 5 ∧ w_X5_tellHeight y4 p1 p2 p3 M fun x10 M6 => isB x10 ∧ φ x10 M6
set_option maxRecDepth 100000 in
theorem s_X10_height {g : GT} {d : Nat} (hd : 3 ≤ d) {p0 : Nat} {p1 : Int32} {p2 : Int32} {p3 : Int32} {M : fM} {φ : Int32 → fM → Prop} (h : w_X10_height p0 p1 p2 p3 M φ) : FC g mtX10_height d [.ref p0, .int p1, .int p2, .int p3] M 0 0 (rI φ) := by
  obtain ⟨d, rfl⟩ : ∃ e, d = e + 1 := ⟨d - 1, by omega⟩
  unfold w_X10_height at h
  refine FC.intro (nL := 4) (by decide) rfl (Nat.le_of_ble_eq_true rfl) ?_
  show FW g mtX10_height (d + 1) 0 [(0, .ref p0), (1, .int p1), (2, .int p2), (3, .int p3)] [] M 0 0 (rI φ)
  refine fw_aload_n (i := 0) 0 rfl (show decode _ _ = .ok (.aload_n 0, 1) by decide +kernel) ?_
  obtain ⟨⟨hr2, n1, hs3⟩, h_1⟩ := h
  refine fw_getP (kd := 10) (k := 0) (show decode _ _ = .ok (.getfield 13, 3) by decide +kernel) gf_X10_13 hr2 hs3 rfl ?_
  have h_2 := dR_e h_1
  obtain ⟨y4, hy5, h_3⟩ := h_2
  refine fw_deref hy5 ?_
  refine fw_iload_n (i := 1) 1 rfl (show decode _ _ = .ok (.iload_n 1, 1) by decide +kernel) ?_
  refine fw_iload_n (i := 2) 2 rfl (show decode _ _ = .ok (.iload_n 2, 1) by decide +kernel) ?_
  refine fw_iload_n (i := 3) 3 rfl (show decode _ _ = .ok (.iload_n 3, 1) by decide +kernel) ?_
  obtain ⟨⟨hr8, n7, hs9⟩, h_4⟩ := h_3
  refine fw_callV (mt' := mtX5_tellHeight) (mc := 0) (ms := 0) (As := [.int p1, .int p2, .int p3]) (rest := []) 3 5 n7 (show decode _ _ = .ok (.invokevirtual 72, 3) by decide +kernel) cv_X10_72 ⟨_, rfl, rfl⟩ hr8 hs9 rfl (Nat.le_of_ble_eq_true rfl) (s_X5_tellHeight (d := d) (hd_le hd (by decide)) h_4) (by decide) (by decide) (kI (bc' := 0) (bs' := 0) (by decide) (by decide) (fun x10 M6 h_5 => ?_))
  obtain ⟨hbb, h_6⟩ := h_5
  exact fw_ret (v := some (.int x10)) .ireturn (show decode _ _ = .ok (.ireturn, 1) by decide +kernel) ⟨rfl, Or.inr (Or.inl ⟨rfl, hbb⟩)⟩ ⟨_, rfl, h_6⟩
def w_X10_house (p0 : Nat) (p1 : Int32) (p2 : Int32) (M : fM) (φ : Int32 → fM → Prop) : Prop := isO M p0 10 ∧ dR (mP M p0 0) fun y4 => isO M y4 5 ∧ w_X5_houseOf y4 p1 M fun o10 M6 => gN o10 (fun y11 => iF (p2 = (0 : Int32)) (isO M6 y11 0 ∧ φ (mI M6 y11 0) M6) (iF (p2 = (1 : Int32)) (isO M6 y11 0 ∧ φ (mI M6 y11 2) M6) (iF (p2 = (2 : Int32)) (isO M6 y11 0 ∧ φ (mI M6 y11 3) M6) (iF (p2 ≤ (10 : Int32)) (φ (-1 : Int32) M6) (isO M6 y11 0 ∧ w_X0_hasStep y11 (p2 - (10 : Int32)) M6 fun x29 M25 => iF (x29 = 0) (φ (-1 : Int32) M25) (isO M25 y11 0 ∧ w_X0_highOf y11 (p2 - (10 : Int32)) M25 fun x34 M30 => φ x34 M30)))))) (φ (-1 : Int32) M6)
set_option maxRecDepth 100000 in
theorem s_X10_house {g : GT} {d : Nat} (hd : 3 ≤ d) {p0 : Nat} {p1 : Int32} {p2 : Int32} {M : fM} {φ : Int32 → fM → Prop} (h : w_X10_house p0 p1 p2 M φ) : FC g mtX10_house d [.ref p0, .int p1, .int p2] M 0 0 (rI φ) := by
  obtain ⟨d, rfl⟩ : ∃ e, d = e + 1 := ⟨d - 1, by omega⟩
  unfold w_X10_house at h
  refine FC.intro (nL := 4) (by decide) rfl (Nat.le_of_ble_eq_true rfl) ?_
  show FW g mtX10_house (d + 1) 0 [(0, .ref p0), (1, .int p1), (2, .int p2)] [] M 0 0 (rI φ)
  refine fw_aload_n (i := 0) 0 rfl (show decode _ _ = .ok (.aload_n 0, 1) by decide +kernel) ?_
  obtain ⟨⟨hr2, n1, hs3⟩, h_1⟩ := h
  refine fw_getP (kd := 10) (k := 0) (show decode _ _ = .ok (.getfield 13, 3) by decide +kernel) gf_X10_13 hr2 hs3 rfl ?_
  have h_2 := dR_e h_1
  obtain ⟨y4, hy5, h_3⟩ := h_2
  refine fw_deref hy5 ?_
  refine fw_iload_n (i := 1) 1 rfl (show decode _ _ = .ok (.iload_n 1, 1) by decide +kernel) ?_
  obtain ⟨⟨hr8, n7, hs9⟩, h_4⟩ := h_3
  refine fw_callV (mt' := mtX5_houseOf) (mc := 0) (ms := 0) (As := [.int p1]) (rest := []) 1 5 n7 (show decode _ _ = .ok (.invokevirtual 172, 3) by decide +kernel) cv_X10_172 ⟨_, rfl, rfl⟩ hr8 hs9 rfl (Nat.le_of_ble_eq_true rfl) (s_X5_houseOf (d := d) (hd_le hd (by decide)) h_4) (by decide) (by decide) (kP (bc' := 0) (bs' := 0) (by decide) (by decide) (fun o10 M6 h_5 => ?_))
  refine fw_astoreq_n (i := 3) (ls' := [(3, fr o10), (0, .ref p0), (1, .int p1), (2, .int p2)]) (show decode _ _ = .ok (.astore_n 3, 1) by decide +kernel) (by decide) rfl ?_
  refine fw_aloadq_n (i := 3) 0 rfl (show decode _ _ = .ok (.aload_n 3, 1) by decide +kernel) ?_
  refine fw_ifnonnull (x := o10) 15 (show decode _ _ = .ok (.ifnonnull 5, 3) by decide +kernel) (by decide) (fun y11 hy12 => ?_) (fun hy12 => ?_)
  · have h_6 := gN_s hy12 h_5
    subst hy12
    refine fw_iload_n (i := 2) 3 rfl (show decode _ _ = .ok (.iload_n 2, 1) by decide +kernel) ?_
    by_cases hc16 : p2 = (0 : Int32)
    · have h_7 := ipos hc16 h_6
      refine fw_tin (off := 28) 44 (show decode _ _ = .ok (.tableswitch 43 0 2 #[28, 33, 38], 28) by decide +kernel) (by rw [hc16]; decide) (by rw [hc16]; decide) (by rw [hc16]; rfl) (by decide) ?_
      refine fw_aload_n (i := 3) 0 rfl (show decode _ _ = .ok (.aload_n 3, 1) by decide +kernel) ?_
      obtain ⟨⟨hr14, n13, hs15⟩, h_8⟩ := h_7
      refine fw_getI (kd := 0) (k := 0) (show decode _ _ = .ok (.getfield 176, 3) by decide +kernel) gf_X10_176 hr14 hs15 (Or.inl rfl) ?_
      exact fw_ret (v := some (.int (mI M6 y11 0))) .ireturn (show decode _ _ = .ok (.ireturn, 1) by decide +kernel) ⟨rfl, Or.inl rfl⟩ ⟨_, rfl, h_8⟩
    have h_9 := ineg hc16 h_6
    by_cases hc20 : p2 = (1 : Int32)
    · have h_10 := ipos hc20 h_9
      refine fw_tin (off := 33) 49 (show decode _ _ = .ok (.tableswitch 43 0 2 #[28, 33, 38], 28) by decide +kernel) (by rw [hc20]; decide) (by rw [hc20]; decide) (by rw [hc20]; rfl) (by decide) ?_
      refine fw_aload_n (i := 3) 0 rfl (show decode _ _ = .ok (.aload_n 3, 1) by decide +kernel) ?_
      obtain ⟨⟨hr18, n17, hs19⟩, h_11⟩ := h_10
      refine fw_getI (kd := 0) (k := 2) (show decode _ _ = .ok (.getfield 181, 3) by decide +kernel) gf_X10_181 hr18 hs19 (Or.inl rfl) ?_
      exact fw_ret (v := some (.int (mI M6 y11 2))) .ireturn (show decode _ _ = .ok (.ireturn, 1) by decide +kernel) ⟨rfl, Or.inl rfl⟩ ⟨_, rfl, h_11⟩
    have h_12 := ineg hc20 h_9
    by_cases hc24 : p2 = (2 : Int32)
    · have h_13 := ipos hc24 h_12
      refine fw_tin (off := 38) 54 (show decode _ _ = .ok (.tableswitch 43 0 2 #[28, 33, 38], 28) by decide +kernel) (by rw [hc24]; decide) (by rw [hc24]; decide) (by rw [hc24]; rfl) (by decide) ?_
      refine fw_aload_n (i := 3) 0 rfl (show decode _ _ = .ok (.aload_n 3, 1) by decide +kernel) ?_
      obtain ⟨⟨hr22, n21, hs23⟩, h_14⟩ := h_13
      refine fw_getI (kd := 0) (k := 3) (show decode _ _ = .ok (.getfield 184, 3) by decide +kernel) gf_X10_184 hr22 hs23 (Or.inl rfl) ?_
      exact fw_ret (v := some (.int (mI M6 y11 3))) .ireturn (show decode _ _ = .ok (.ireturn, 1) by decide +kernel) ⟨rfl, Or.inl rfl⟩ ⟨_, rfl, h_14⟩
    have h_15 := ineg hc24 h_12
    by_cases ho37 : Int32.toInt p2 < 0 ∨ 2 < Int32.toInt p2
    · refine fw_tout 59 (show decode _ _ = .ok (.tableswitch 43 0 2 #[28, 33, 38], 28) by decide +kernel) ho37 (by decide) ?_
      refine fw_iload_n (i := 2) 3 rfl (show decode _ _ = .ok (.iload_n 2, 1) by decide +kernel) ?_
      refine fw_bipush (v := (10 : Int32)) (show decode _ _ = .ok (.bipush 10, 2) by decide +kernel) (by decide) ?_
      refine fw_icmp_le 87 (show decode _ _ = .ok (.if_icmp .le 25, 3) by decide +kernel) (by decide) (fun hc36 => ?_) (fun hc36 => ?_)
      · have h_16 := ipos hc36 h_15
        refine fw_iconst (v := (-1 : Int32)) (show decode _ _ = .ok (.iconst (-1), 1) by decide +kernel) (by decide) ?_
        exact fw_ret (v := some (.int (-1 : Int32))) .ireturn (show decode _ _ = .ok (.ireturn, 1) by decide +kernel) ⟨rfl, Or.inl rfl⟩ ⟨_, rfl, h_16⟩
      · have h_17 := ineg hc36 h_15
        refine fw_aload_n (i := 3) 0 rfl (show decode _ _ = .ok (.aload_n 3, 1) by decide +kernel) ?_
        refine fw_iload_n (i := 2) 3 rfl (show decode _ _ = .ok (.iload_n 2, 1) by decide +kernel) ?_
        refine fw_bipush (v := (10 : Int32)) (show decode _ _ = .ok (.bipush 10, 2) by decide +kernel) (by decide) ?_
        refine fw_isub (show decode _ _ = .ok (.isub, 1) by decide +kernel) ?_
        obtain ⟨⟨hr27, n26, hs28⟩, h_18⟩ := h_17
        refine fw_callV (mt' := mtX0_hasStep) (mc := 0) (ms := 0) (As := [.int (p2 - (10 : Int32))]) (rest := []) 1 0 n26 (show decode _ _ = .ok (.invokevirtual 187, 3) by decide +kernel) cv_X10_187 ⟨_, rfl, rfl⟩ hr27 hs28 rfl (Nat.le_of_ble_eq_true rfl) (s_X0_hasStep (d := d) (hd_le hd (by decide)) h_18) (by decide) (by decide) (kI (bc' := 0) (bs' := 0) (by decide) (by decide) (fun x29 M25 h_19 => ?_))
        refine fw_if_eq 87 (show decode _ _ = .ok (.ifCond .eq 14, 3) by decide +kernel) (by decide) (fun hc35 => ?_) (fun hc35 => ?_)
        · have h_20 := ipos hc35 h_19
          refine fw_iconst (v := (-1 : Int32)) (show decode _ _ = .ok (.iconst (-1), 1) by decide +kernel) (by decide) ?_
          exact fw_ret (v := some (.int (-1 : Int32))) .ireturn (show decode _ _ = .ok (.ireturn, 1) by decide +kernel) ⟨rfl, Or.inl rfl⟩ ⟨_, rfl, h_20⟩
        · have h_21 := ineg hc35 h_19
          refine fw_aload_n (i := 3) 0 rfl (show decode _ _ = .ok (.aload_n 3, 1) by decide +kernel) ?_
          refine fw_iload_n (i := 2) 3 rfl (show decode _ _ = .ok (.iload_n 2, 1) by decide +kernel) ?_
          refine fw_bipush (v := (10 : Int32)) (show decode _ _ = .ok (.bipush 10, 2) by decide +kernel) (by decide) ?_
          refine fw_isub (show decode _ _ = .ok (.isub, 1) by decide +kernel) ?_
          obtain ⟨⟨hr32, n31, hs33⟩, h_22⟩ := h_21
          refine fw_callV (mt' := mtX0_highOf) (mc := 0) (ms := 0) (As := [.int (p2 - (10 : Int32))]) (rest := []) 1 0 n31 (show decode _ _ = .ok (.invokevirtual 190, 3) by decide +kernel) cv_X10_190 ⟨_, rfl, rfl⟩ hr32 hs33 rfl (Nat.le_of_ble_eq_true rfl) (s_X0_highOf (d := d) (hd_le hd (by decide)) h_22) (by decide) (by decide) (kI (bc' := 0) (bs' := 0) (by decide) (by decide) (fun x34 M30 h_23 => ?_))
          refine fw_goto 88 (show decode _ _ = .ok (.goto 4, 3) by decide +kernel) (by decide) ?_
          exact fw_ret (v := some (.int x34)) .ireturn (show decode _ _ = .ok (.ireturn, 1) by decide +kernel) ⟨rfl, Or.inl rfl⟩ ⟨_, rfl, h_23⟩
    have e38 := tsx_0_2 (Int32.toInt p2) ho37
    rcases e38 with e38 | e38 | e38
    · exact absurd (Int32.toInt_inj.mp (Eq.trans e38 rfl)) hc16
    · exact absurd (Int32.toInt_inj.mp (Eq.trans e38 rfl)) hc20
    · exact absurd (Int32.toInt_inj.mp (Eq.trans e38 rfl)) hc24
  · have h_24 := gN_n hy12 h_5
    subst hy12
    refine fw_iconst (v := (-1 : Int32)) (show decode _ _ = .ok (.iconst (-1), 1) by decide +kernel) (by decide) ?_
    exact fw_ret (v := some (.int (-1 : Int32))) .ireturn (show decode _ _ = .ok (.ireturn, 1) by decide +kernel) ⟨rfl, Or.inl rfl⟩ ⟨_, rfl, h_24⟩
def w_X10_image (p0 : Nat) (M : fM) (φ : Int32 → fM → Prop) : Prop := isO M p0 10 ∧ dR (mP M p0 1) fun y4 => dR (mP M p0 0) fun y6 => isO M y4 5 ∧ w_X5_become y4 y6 M fun M8 => isO M8 p0 10 ∧ dR (mP M8 p0 0) fun y15 => isO M8 y15 5 ∧ φ (mI M8 y15 6) M8
set_option maxRecDepth 100000 in
theorem s_X10_image {g : GT} {d : Nat} (hd : 4 ≤ d) {p0 : Nat} {M : fM} {φ : Int32 → fM → Prop} (h : w_X10_image p0 M φ) : FC g mtX10_image d [.ref p0] M 0 0 (rI φ) := by
  obtain ⟨d, rfl⟩ : ∃ e, d = e + 1 := ⟨d - 1, by omega⟩
  unfold w_X10_image at h
  refine FC.intro (nL := 1) (by decide) rfl (Nat.le_of_ble_eq_true rfl) ?_
  show FW g mtX10_image (d + 1) 0 [(0, .ref p0)] [] M 0 0 (rI φ)
  refine fw_aload_n (i := 0) 0 rfl (show decode _ _ = .ok (.aload_n 0, 1) by decide +kernel) ?_
  obtain ⟨⟨hr2, n1, hs3⟩, h_1⟩ := h
  refine fw_getP (kd := 10) (k := 1) (show decode _ _ = .ok (.getfield 19, 3) by decide +kernel) gf_X10_19 hr2 hs3 rfl ?_
  have h_2 := dR_e h_1
  obtain ⟨y4, hy5, h_3⟩ := h_2
  refine fw_deref hy5 ?_
  refine fw_aload_n (i := 0) 0 rfl (show decode _ _ = .ok (.aload_n 0, 1) by decide +kernel) ?_
  refine fw_getP (kd := 10) (k := 0) (show decode _ _ = .ok (.getfield 13, 3) by decide +kernel) gf_X10_13 hr2 hs3 rfl ?_
  have h_4 := dR_e h_3
  obtain ⟨y6, hy7, h_5⟩ := h_4
  refine fw_deref hy7 ?_
  obtain ⟨⟨hr10, n9, hs11⟩, h_6⟩ := h_5
  refine fw_callV (mt' := mtX5_become) (mc := 0) (ms := 0) (As := [.ref y6]) (rest := []) 1 5 n9 (show decode _ _ = .ok (.invokevirtual 272, 3) by decide +kernel) cv_X10_272 ⟨_, rfl, rfl⟩ hr10 hs11 rfl (Nat.le_of_ble_eq_true rfl) (s_X5_become (d := d) (hd_le hd (by decide)) h_6) (by decide) (by decide) (kV (bc' := 0) (bs' := 0) (by decide) (by decide) (fun M8 h_7 => ?_))
  refine fw_aload_n (i := 0) 0 rfl (show decode _ _ = .ok (.aload_n 0, 1) by decide +kernel) ?_
  obtain ⟨⟨hr13, n12, hs14⟩, h_8⟩ := h_7
  refine fw_getP (kd := 10) (k := 0) (show decode _ _ = .ok (.getfield 13, 3) by decide +kernel) gf_X10_13 hr13 hs14 rfl ?_
  have h_9 := dR_e h_8
  obtain ⟨y15, hy16, h_10⟩ := h_9
  refine fw_deref hy16 ?_
  obtain ⟨⟨hr18, n17, hs19⟩, h_11⟩ := h_10
  refine fw_getI (kd := 5) (k := 6) (show decode _ _ = .ok (.getfield 147, 3) by decide +kernel) gf_X10_147 hr18 hs19 (Or.inl rfl) ?_
  exact fw_ret (v := some (.int (mI M8 y15 6))) .ireturn (show decode _ _ = .ok (.ireturn, 1) by decide +kernel) ⟨rfl, Or.inl rfl⟩ ⟨_, rfl, h_11⟩
def w_X1_init (p0 : Nat) (M : fM) (φ : fM → Prop) : Prop := nw M 12 (ix (10 : Int32)) fun q1 M3 => isO M3 p0 1 ∧ st (wP M3 p0 0 (some q1)) fun M8 => nw M8 12 (ix (300 : Int32)) fun q10 M12 => st (wP M12 p0 1 (some q10)) fun M14 => φ M14
set_option maxRecDepth 100000 in
theorem s_X1_init {g : GT} {d : Nat} (hd : 1 ≤ d) {p0 : Nat} {M : fM} {φ : fM → Prop} (h : w_X1_init p0 M φ) : FC g mtX1_init d [.ref p0] M 2 310 (rV φ) := by
  obtain ⟨d, rfl⟩ : ∃ e, d = e + 1 := ⟨d - 1, by omega⟩
  unfold w_X1_init at h
  refine FC.intro (nL := 1) (by decide) rfl (Nat.le_of_ble_eq_true rfl) ?_
  show FW g mtX1_init (d + 1) 0 [(0, .ref p0)] [] M 2 310 (rV φ)
  refine fw_aload_n (i := 0) 0 rfl (show decode _ _ = .ok (.aload_n 0, 1) by decide +kernel) ?_
  refine fw_objInit (idx := 3) (rest := []) (show decode _ _ = .ok (.invokespecial 3, 3) by decide +kernel) ⟨wd162, wd155, wd156⟩ (Nat.le_of_ble_eq_true rfl) ?_
  refine fw_aload_n (i := 0) 0 rfl (show decode _ _ = .ok (.aload_n 0, 1) by decide +kernel) ?_
  refine fw_bipush (v := (10 : Int32)) (show decode _ _ = .ok (.bipush 10, 2) by decide +kernel) (by decide) ?_
  refine fw_newa 12 (show decode _ _ = .ok (.newarray .int, 2) by decide +kernel) (by decide) (by decide) (by decide) (by decide) (by decide) wd179 ?_
  refine FW.room (bc' := 1) (bs' := 300) (by decide) (by decide) ?_
  refine FW.nmN (fun q1 eq2 => ?_)
  refine FW.nmM (fun M3 eM4 => ?_)
  have h_1 := h q1 M3 eq2 eM4
  obtain ⟨⟨hr6, n5, hs7⟩, h_2⟩ := h_1
  refine fw_putP (x := (some q1)) (kd := 1) (k := 0) (show decode _ _ = .ok (.putfield 9, 3) by decide +kernel) ⟨gf_X1_9, _, rfl, Or.inr ⟨rfl, rfl, rfl⟩⟩ hr6 hs7 rfl ?_
  refine FW.nmM (fun M8 eM9 => ?_)
  have h_3 := h_2 M8 eM9
  refine fw_aload_n (i := 0) 0 rfl (show decode _ _ = .ok (.aload_n 0, 1) by decide +kernel) ?_
  refine fw_sipush (v := (300 : Int32)) (show decode _ _ = .ok (.sipush 300, 3) by decide +kernel) (by decide) ?_
  refine fw_newa 12 (show decode _ _ = .ok (.newarray .int, 2) by decide +kernel) (by decide) (by decide) (by decide) (by decide) (by decide) wd179 ?_
  refine FW.room (bc' := 0) (bs' := 0) (by decide) (by decide) ?_
  refine FW.nmN (fun q10 eq11 => ?_)
  refine FW.nmM (fun M12 eM13 => ?_)
  have h_4 := h_3 q10 M12 eq11 eM13
  refine fw_putP (x := (some q10)) (kd := 1) (k := 1) (show decode _ _ = .ok (.putfield 15, 3) by decide +kernel) ⟨gf_X1_15, _, rfl, Or.inr ⟨rfl, rfl, rfl⟩⟩ hr6 (mSw_N eM13 (mSw_P eM9 hs7)) rfl ?_
  refine FW.nmM (fun M14 eM15 => ?_)
  have h_5 := h_4 M14 eM15
  exact fw_ret (v := none) .return_ (show decode _ _ = .ok (.return_, 1) by decide +kernel) ⟨rfl, rfl⟩ ⟨rfl, h_5⟩
def w_X5_init (p0 : Nat) (M : fM) (φ : fM → Prop) : Prop := nw M 15 (ix (4 : Int32)) fun q1 M3 => isO M3 p0 5 ∧ st (wP M3 p0 0 (some q1)) fun M8 => nw M8 12 (ix (6 : Int32)) fun q10 M12 => st (wP M12 p0 1 (some q10)) fun M14 => nw M14 12 (ix (6 : Int32)) fun q16 M18 => st (wP M18 p0 2 (some q16)) fun M20 => nw M20 12 (ix (6 : Int32)) fun q22 M24 => st (wP M24 p0 3 (some q22)) fun M26 => st (wI M26 p0 5 (13 : Int32)) fun M28 => nw M28 12 (ix (8 : Int32)) fun q30 M32 => st (wP M32 p0 7 (some q30)) fun M34 => nw M34 12 (ix (2048 : Int32)) fun q36 M38 => st (wP M38 p0 8 (some q36)) fun M40 => nw M40 12 (ix (330 : Int32)) fun q42 M44 => st (wP M44 p0 10 (some q42)) fun M46 => nw M46 16 (ix (4 : Int32)) fun q48 M50 => st (wP M50 p0 13 (some q48)) fun M52 => st (wI M52 p0 15 (-1 : Int32)) fun M54 => nw M54 12 (ix (48 : Int32)) fun q56 M58 => st (wP M58 p0 16 (some q56)) fun M60 => dR (mP M60 p0 0) fun y62 => nw M60 0 5 fun q64 M66 => w_X0_init q64 M66 fun M68 => 6 ≤ y62 ∧ inA M68 y62 15 (0 : Int32) ∧ isO M68 q64 0 ∧ st (wP M68 y62 (ix (0 : Int32)) (some q64)) fun M73 => isO M73 p0 5 ∧ dR (mP M73 p0 0) fun y81 => nw M73 0 5 fun q83 M85 => w_X0_init q83 M85 fun M87 => 6 ≤ y81 ∧ inA M87 y81 15 (1 : Int32) ∧ isO M87 q83 0 ∧ st (wP M87 y81 (ix (1 : Int32)) (some q83)) fun M92 => isO M92 p0 5 ∧ dR (mP M92 p0 0) fun y100 => nw M92 0 5 fun q102 M104 => w_X0_init q102 M104 fun M106 => 6 ≤ y100 ∧ inA M106 y100 15 (2 : Int32) ∧ isO M106 q102 0 ∧ st (wP M106 y100 (ix (2 : Int32)) (some q102)) fun M111 => isO M111 p0 5 ∧ dR (mP M111 p0 0) fun y119 => nw M111 0 5 fun q121 M123 => w_X0_init q121 M123 fun M125 => 6 ≤ y119 ∧ inA M125 y119 15 (3 : Int32) ∧ isO M125 q121 0 ∧ st (wP M125 y119 (ix (3 : Int32)) (some q121)) fun M130 => isO M130 p0 5 ∧ dR (mP M130 p0 7) fun y138 => 6 ≤ y138 ∧ inA M130 y138 12 (0 : Int32) ∧ st (wI M130 y138 (ix (0 : Int32)) (-1 : Int32)) fun M144 => φ M144
set_option maxRecDepth 100000 in
theorem s_X5_init {g : GT} {d : Nat} (hd : 3 ≤ d) {p0 : Nat} {M : fM} {φ : fM → Prop} (h : w_X5_init p0 M φ) : FC g mtX5_init d [.ref p0] M 17 2540 (rV φ) := by
  obtain ⟨d, rfl⟩ : ∃ e, d = e + 1 := ⟨d - 1, by omega⟩
  unfold w_X5_init at h
  refine FC.intro (nL := 2) (by decide) rfl (Nat.le_of_ble_eq_true rfl) ?_
  show FW g mtX5_init (d + 1) 0 [(0, .ref p0)] [] M 17 2540 (rV φ)
  refine fw_aload_n (i := 0) 0 rfl (show decode _ _ = .ok (.aload_n 0, 1) by decide +kernel) ?_
  refine fw_objInit (idx := 3) (rest := []) (show decode _ _ = .ok (.invokespecial 3, 3) by decide +kernel) ⟨wd185, wd155, wd156⟩ (Nat.le_of_ble_eq_true rfl) ?_
  refine fw_aload_n (i := 0) 0 rfl (show decode _ _ = .ok (.aload_n 0, 1) by decide +kernel) ?_
  refine fw_iconst (v := (4 : Int32)) (show decode _ _ = .ok (.iconst 4, 1) by decide +kernel) (by decide) ?_
  refine fw_anewa 15 "OneStepMore$House" (show decode _ _ = .ok (.anewarray 9, 3) by decide +kernel) (by decide) (by decide) (by decide) (by decide) (by decide) wd186 ?_
  refine FW.room (bc' := 16) (bs' := 2536) (by decide) (by decide) ?_
  refine FW.nmN (fun q1 eq2 => ?_)
  refine FW.nmM (fun M3 eM4 => ?_)
  have h_1 := h q1 M3 eq2 eM4
  obtain ⟨⟨hr6, n5, hs7⟩, h_2⟩ := h_1
  refine fw_putP (x := (some q1)) (kd := 5) (k := 0) (show decode _ _ = .ok (.putfield 11, 3) by decide +kernel) ⟨gf_X5_11, _, rfl, Or.inr ⟨rfl, rfl, rfl⟩⟩ hr6 hs7 rfl ?_
  refine FW.nmM (fun M8 eM9 => ?_)
  have h_3 := h_2 M8 eM9
  refine fw_aload_n (i := 0) 0 rfl (show decode _ _ = .ok (.aload_n 0, 1) by decide +kernel) ?_
  refine fw_bipush (v := (6 : Int32)) (show decode _ _ = .ok (.bipush 6, 2) by decide +kernel) (by decide) ?_
  refine fw_newa 12 (show decode _ _ = .ok (.newarray .int, 2) by decide +kernel) (by decide) (by decide) (by decide) (by decide) (by decide) wd179 ?_
  refine FW.room (bc' := 15) (bs' := 2530) (by decide) (by decide) ?_
  refine FW.nmN (fun q10 eq11 => ?_)
  refine FW.nmM (fun M12 eM13 => ?_)
  have h_4 := h_3 q10 M12 eq11 eM13
  refine fw_putP (x := (some q10)) (kd := 5) (k := 1) (show decode _ _ = .ok (.putfield 17, 3) by decide +kernel) ⟨gf_X5_17, _, rfl, Or.inr ⟨rfl, rfl, rfl⟩⟩ hr6 (mSw_N eM13 (mSw_P eM9 hs7)) rfl ?_
  refine FW.nmM (fun M14 eM15 => ?_)
  have h_5 := h_4 M14 eM15
  refine fw_aload_n (i := 0) 0 rfl (show decode _ _ = .ok (.aload_n 0, 1) by decide +kernel) ?_
  refine fw_bipush (v := (6 : Int32)) (show decode _ _ = .ok (.bipush 6, 2) by decide +kernel) (by decide) ?_
  refine fw_newa 12 (show decode _ _ = .ok (.newarray .int, 2) by decide +kernel) (by decide) (by decide) (by decide) (by decide) (by decide) wd179 ?_
  refine FW.room (bc' := 14) (bs' := 2524) (by decide) (by decide) ?_
  refine FW.nmN (fun q16 eq17 => ?_)
  refine FW.nmM (fun M18 eM19 => ?_)
  have h_6 := h_5 q16 M18 eq17 eM19
  refine fw_putP (x := (some q16)) (kd := 5) (k := 2) (show decode _ _ = .ok (.putfield 21, 3) by decide +kernel) ⟨gf_X5_21, _, rfl, Or.inr ⟨rfl, rfl, rfl⟩⟩ hr6 (mSw_N eM19 (mSw_P eM15 (mSw_N eM13 (mSw_P eM9 hs7)))) rfl ?_
  refine FW.nmM (fun M20 eM21 => ?_)
  have h_7 := h_6 M20 eM21
  refine fw_aload_n (i := 0) 0 rfl (show decode _ _ = .ok (.aload_n 0, 1) by decide +kernel) ?_
  refine fw_bipush (v := (6 : Int32)) (show decode _ _ = .ok (.bipush 6, 2) by decide +kernel) (by decide) ?_
  refine fw_newa 12 (show decode _ _ = .ok (.newarray .int, 2) by decide +kernel) (by decide) (by decide) (by decide) (by decide) (by decide) wd179 ?_
  refine FW.room (bc' := 13) (bs' := 2518) (by decide) (by decide) ?_
  refine FW.nmN (fun q22 eq23 => ?_)
  refine FW.nmM (fun M24 eM25 => ?_)
  have h_8 := h_7 q22 M24 eq23 eM25
  refine fw_putP (x := (some q22)) (kd := 5) (k := 3) (show decode _ _ = .ok (.putfield 24, 3) by decide +kernel) ⟨gf_X5_24, _, rfl, Or.inr ⟨rfl, rfl, rfl⟩⟩ hr6 (mSw_N eM25 (mSw_P eM21 (mSw_N eM19 (mSw_P eM15 (mSw_N eM13 (mSw_P eM9 hs7)))))) rfl ?_
  refine FW.nmM (fun M26 eM27 => ?_)
  have h_9 := h_8 M26 eM27
  refine fw_aload_n (i := 0) 0 rfl (show decode _ _ = .ok (.aload_n 0, 1) by decide +kernel) ?_
  refine fw_bipush (v := (13 : Int32)) (show decode _ _ = .ok (.bipush 13, 2) by decide +kernel) (by decide) ?_
  refine fw_putI (kd := 5) (k := 5) (show decode _ _ = .ok (.putfield 27, 3) by decide +kernel) ⟨gf_X5_27, _, rfl, Or.inl rfl⟩ hr6 (mSw_P eM27 (mSw_N eM25 (mSw_P eM21 (mSw_N eM19 (mSw_P eM15 (mSw_N eM13 (mSw_P eM9 hs7))))))) rfl ?_
  refine FW.nmM (fun M28 eM29 => ?_)
  have h_10 := h_9 M28 eM29
  refine fw_aload_n (i := 0) 0 rfl (show decode _ _ = .ok (.aload_n 0, 1) by decide +kernel) ?_
  refine fw_bipush (v := (8 : Int32)) (show decode _ _ = .ok (.bipush 8, 2) by decide +kernel) (by decide) ?_
  refine fw_newa 12 (show decode _ _ = .ok (.newarray .int, 2) by decide +kernel) (by decide) (by decide) (by decide) (by decide) (by decide) wd179 ?_
  refine FW.room (bc' := 12) (bs' := 2510) (by decide) (by decide) ?_
  refine FW.nmN (fun q30 eq31 => ?_)
  refine FW.nmM (fun M32 eM33 => ?_)
  have h_11 := h_10 q30 M32 eq31 eM33
  refine fw_putP (x := (some q30)) (kd := 5) (k := 7) (show decode _ _ = .ok (.putfield 31, 3) by decide +kernel) ⟨gf_X5_31, _, rfl, Or.inr ⟨rfl, rfl, rfl⟩⟩ hr6 (mSw_N eM33 (mSw_I eM29 (mSw_P eM27 (mSw_N eM25 (mSw_P eM21 (mSw_N eM19 (mSw_P eM15 (mSw_N eM13 (mSw_P eM9 hs7))))))))) rfl ?_
  refine FW.nmM (fun M34 eM35 => ?_)
  have h_12 := h_11 M34 eM35
  refine fw_aload_n (i := 0) 0 rfl (show decode _ _ = .ok (.aload_n 0, 1) by decide +kernel) ?_
  refine fw_sipush (v := (2048 : Int32)) (show decode _ _ = .ok (.sipush 2048, 3) by decide +kernel) (by decide) ?_
  refine fw_newa 12 (show decode _ _ = .ok (.newarray .int, 2) by decide +kernel) (by decide) (by decide) (by decide) (by decide) (by decide) wd179 ?_
  refine FW.room (bc' := 11) (bs' := 462) (by decide) (by decide) ?_
  refine FW.nmN (fun q36 eq37 => ?_)
  refine FW.nmM (fun M38 eM39 => ?_)
  have h_13 := h_12 q36 M38 eq37 eM39
  refine fw_putP (x := (some q36)) (kd := 5) (k := 8) (show decode _ _ = .ok (.putfield 34, 3) by decide +kernel) ⟨gf_X5_34, _, rfl, Or.inr ⟨rfl, rfl, rfl⟩⟩ hr6 (mSw_N eM39 (mSw_P eM35 (mSw_N eM33 (mSw_I eM29 (mSw_P eM27 (mSw_N eM25 (mSw_P eM21 (mSw_N eM19 (mSw_P eM15 (mSw_N eM13 (mSw_P eM9 hs7))))))))))) rfl ?_
  refine FW.nmM (fun M40 eM41 => ?_)
  have h_14 := h_13 M40 eM41
  refine fw_aload_n (i := 0) 0 rfl (show decode _ _ = .ok (.aload_n 0, 1) by decide +kernel) ?_
  refine fw_sipush (v := (330 : Int32)) (show decode _ _ = .ok (.sipush 330, 3) by decide +kernel) (by decide) ?_
  refine fw_newa 12 (show decode _ _ = .ok (.newarray .int, 2) by decide +kernel) (by decide) (by decide) (by decide) (by decide) (by decide) wd179 ?_
  refine FW.room (bc' := 10) (bs' := 132) (by decide) (by decide) ?_
  refine FW.nmN (fun q42 eq43 => ?_)
  refine FW.nmM (fun M44 eM45 => ?_)
  have h_15 := h_14 q42 M44 eq43 eM45
  refine fw_putP (x := (some q42)) (kd := 5) (k := 10) (show decode _ _ = .ok (.putfield 37, 3) by decide +kernel) ⟨gf_X5_37, _, rfl, Or.inr ⟨rfl, rfl, rfl⟩⟩ hr6 (mSw_N eM45 (mSw_P eM41 (mSw_N eM39 (mSw_P eM35 (mSw_N eM33 (mSw_I eM29 (mSw_P eM27 (mSw_N eM25 (mSw_P eM21 (mSw_N eM19 (mSw_P eM15 (mSw_N eM13 (mSw_P eM9 hs7))))))))))))) rfl ?_
  refine FW.nmM (fun M46 eM47 => ?_)
  have h_16 := h_15 M46 eM47
  refine fw_aload_n (i := 0) 0 rfl (show decode _ _ = .ok (.aload_n 0, 1) by decide +kernel) ?_
  refine fw_iconst (v := (4 : Int32)) (show decode _ _ = .ok (.iconst 4, 1) by decide +kernel) (by decide) ?_
  refine fw_anewa 16 "OneStepMore$Text" (show decode _ _ = .ok (.anewarray 40, 3) by decide +kernel) (by decide) (by decide) (by decide) (by decide) (by decide) wd188 ?_
  refine FW.room (bc' := 9) (bs' := 128) (by decide) (by decide) ?_
  refine FW.nmN (fun q48 eq49 => ?_)
  refine FW.nmM (fun M50 eM51 => ?_)
  have h_17 := h_16 q48 M50 eq49 eM51
  refine fw_putP (x := (some q48)) (kd := 5) (k := 13) (show decode _ _ = .ok (.putfield 42, 3) by decide +kernel) ⟨gf_X5_42, _, rfl, Or.inr ⟨rfl, rfl, rfl⟩⟩ hr6 (mSw_N eM51 (mSw_P eM47 (mSw_N eM45 (mSw_P eM41 (mSw_N eM39 (mSw_P eM35 (mSw_N eM33 (mSw_I eM29 (mSw_P eM27 (mSw_N eM25 (mSw_P eM21 (mSw_N eM19 (mSw_P eM15 (mSw_N eM13 (mSw_P eM9 hs7))))))))))))))) rfl ?_
  refine FW.nmM (fun M52 eM53 => ?_)
  have h_18 := h_17 M52 eM53
  refine fw_aload_n (i := 0) 0 rfl (show decode _ _ = .ok (.aload_n 0, 1) by decide +kernel) ?_
  refine fw_iconst (v := (-1 : Int32)) (show decode _ _ = .ok (.iconst (-1), 1) by decide +kernel) (by decide) ?_
  refine fw_putI (kd := 5) (k := 15) (show decode _ _ = .ok (.putfield 46, 3) by decide +kernel) ⟨gf_X5_46, _, rfl, Or.inl rfl⟩ hr6 (mSw_P eM53 (mSw_N eM51 (mSw_P eM47 (mSw_N eM45 (mSw_P eM41 (mSw_N eM39 (mSw_P eM35 (mSw_N eM33 (mSw_I eM29 (mSw_P eM27 (mSw_N eM25 (mSw_P eM21 (mSw_N eM19 (mSw_P eM15 (mSw_N eM13 (mSw_P eM9 hs7)))))))))))))))) rfl ?_
  refine FW.nmM (fun M54 eM55 => ?_)
  have h_19 := h_18 M54 eM55
  refine fw_aload_n (i := 0) 0 rfl (show decode _ _ = .ok (.aload_n 0, 1) by decide +kernel) ?_
  refine fw_bipush (v := (48 : Int32)) (show decode _ _ = .ok (.bipush 48, 2) by decide +kernel) (by decide) ?_
  refine fw_newa 12 (show decode _ _ = .ok (.newarray .int, 2) by decide +kernel) (by decide) (by decide) (by decide) (by decide) (by decide) wd179 ?_
  refine FW.room (bc' := 8) (bs' := 80) (by decide) (by decide) ?_
  refine FW.nmN (fun q56 eq57 => ?_)
  refine FW.nmM (fun M58 eM59 => ?_)
  have h_20 := h_19 q56 M58 eq57 eM59
  refine fw_putP (x := (some q56)) (kd := 5) (k := 16) (show decode _ _ = .ok (.putfield 49, 3) by decide +kernel) ⟨gf_X5_49, _, rfl, Or.inr ⟨rfl, rfl, rfl⟩⟩ hr6 (mSw_N eM59 (mSw_I eM55 (mSw_P eM53 (mSw_N eM51 (mSw_P eM47 (mSw_N eM45 (mSw_P eM41 (mSw_N eM39 (mSw_P eM35 (mSw_N eM33 (mSw_I eM29 (mSw_P eM27 (mSw_N eM25 (mSw_P eM21 (mSw_N eM19 (mSw_P eM15 (mSw_N eM13 (mSw_P eM9 hs7)))))))))))))))))) rfl ?_
  refine FW.nmM (fun M60 eM61 => ?_)
  have h_21 := h_20 M60 eM61
  refine fw_iconst (v := (0 : Int32)) (show decode _ _ = .ok (.iconst 0, 1) by decide +kernel) (by decide) ?_
  refine fw_istore_n (i := 1) (ls' := [(1, .int (0 : Int32)), (0, .ref p0)]) (show decode _ _ = .ok (.istore_n 1, 1) by decide +kernel) (by decide) rfl ?_
  refine fw_iload_n (i := 1) 0 rfl (show decode _ _ = .ok (.iload_n 1, 1) by decide +kernel) ?_
  refine fw_iconst (v := (4 : Int32)) (show decode _ _ = .ok (.iconst 4, 1) by decide +kernel) (by decide) ?_
  refine fw_icmp_ge 115 (show decode _ _ = .ok (.if_icmp .ge 22, 3) by decide +kernel) (by decide) (fun hc => absurd hc (by decide)) (fun _ => ?_)
  refine fw_aload_n (i := 0) 1 rfl (show decode _ _ = .ok (.aload_n 0, 1) by decide +kernel) ?_
  refine fw_getP (kd := 5) (k := 0) (show decode _ _ = .ok (.getfield 11, 3) by decide +kernel) gf_X5_11 hr6 (mSw_P eM61 (mSw_N eM59 (mSw_I eM55 (mSw_P eM53 (mSw_N eM51 (mSw_P eM47 (mSw_N eM45 (mSw_P eM41 (mSw_N eM39 (mSw_P eM35 (mSw_N eM33 (mSw_I eM29 (mSw_P eM27 (mSw_N eM25 (mSw_P eM21 (mSw_N eM19 (mSw_P eM15 (mSw_N eM13 (mSw_P eM9 hs7))))))))))))))))))) rfl ?_
  have h_22 := dR_e h_21
  obtain ⟨y62, hy63, h_23⟩ := h_22
  refine fw_deref hy63 ?_
  refine fw_iload_n (i := 1) 0 rfl (show decode _ _ = .ok (.iload_n 1, 1) by decide +kernel) ?_
  refine fw_new (kd := 0) (len := 5) (show decode _ _ = .ok (.new 9, 3) by decide +kernel) cl_X5_9 (by decide) (by decide) ?_
  refine FW.room (bc' := 7) (bs' := 75) (by decide) (by decide) ?_
  refine FW.nmN (fun q64 eq65 => ?_)
  refine FW.nmM (fun M66 eM67 => ?_)
  have h_24 := h_23 q64 M66 eq65 eM67
  refine fw_dup (show decode _ _ = .ok (.dup, 1) by decide +kernel) rfl ?_
  refine fw_callI (mt' := mtX0_init) (mc := 1) (ms := 15) (As := []) (rest := [.ref q64, .int (0 : Int32), .ref y62]) 0 (show decode _ _ = .ok (.invokespecial 52, 3) by decide +kernel) ci_X5_52 rfl (Nat.le_of_ble_eq_true rfl) (s_X0_init (d := d) (hd_le hd (by decide)) h_24) (by decide) (by decide) (kV (bc' := 6) (bs' := 60) (by decide) (by decide) (fun M68 h_25 => ?_))
  obtain ⟨hr72, ⟨n69, hs70, hi71⟩, h_26⟩ := h_25
  obtain ⟨⟨hr76, n75, hs77⟩, h_27⟩ := h_26
  refine fw_aastP 15 0 _ (show decode _ _ = .ok (.aastore, 1) by decide +kernel) (by first | exact Or.inl ⟨rfl, rfl, rfl⟩ | exact Or.inr ⟨rfl, rfl, rfl⟩) hr72 hs70 hi71 hr76 hs77 ?_
  refine FW.nmM (fun M73 eM74 => ?_)
  have h_28 := h_27 M73 eM74
  refine fw_iinc (i := 1) (x := (0 : Int32)) (v := (1 : Int32)) (ls' := [(1, .int (1 : Int32)), (0, .ref p0)]) 0 rfl (show decode _ _ = .ok (.iinc 1 1, 3) by decide +kernel) (by decide) (by decide) rfl ?_
  refine fw_goto 91 (show decode _ _ = .ok (.goto (-21), 3) by decide +kernel) (by decide) ?_
  refine fw_iload_n (i := 1) 0 rfl (show decode _ _ = .ok (.iload_n 1, 1) by decide +kernel) ?_
  refine fw_iconst (v := (4 : Int32)) (show decode _ _ = .ok (.iconst 4, 1) by decide +kernel) (by decide) ?_
  refine fw_icmp_ge 115 (show decode _ _ = .ok (.if_icmp .ge 22, 3) by decide +kernel) (by decide) (fun hc => absurd hc (by decide)) (fun _ => ?_)
  refine fw_aload_n (i := 0) 1 rfl (show decode _ _ = .ok (.aload_n 0, 1) by decide +kernel) ?_
  obtain ⟨⟨hr79, n78, hs80⟩, h_29⟩ := h_28
  refine fw_getP (kd := 5) (k := 0) (show decode _ _ = .ok (.getfield 11, 3) by decide +kernel) gf_X5_11 hr79 hs80 rfl ?_
  have h_30 := dR_e h_29
  obtain ⟨y81, hy82, h_31⟩ := h_30
  refine fw_deref hy82 ?_
  refine fw_iload_n (i := 1) 0 rfl (show decode _ _ = .ok (.iload_n 1, 1) by decide +kernel) ?_
  refine fw_new (kd := 0) (len := 5) (show decode _ _ = .ok (.new 9, 3) by decide +kernel) cl_X5_9 (by decide) (by decide) ?_
  refine FW.room (bc' := 5) (bs' := 55) (by decide) (by decide) ?_
  refine FW.nmN (fun q83 eq84 => ?_)
  refine FW.nmM (fun M85 eM86 => ?_)
  have h_32 := h_31 q83 M85 eq84 eM86
  refine fw_dup (show decode _ _ = .ok (.dup, 1) by decide +kernel) rfl ?_
  refine fw_callI (mt' := mtX0_init) (mc := 1) (ms := 15) (As := []) (rest := [.ref q83, .int (1 : Int32), .ref y81]) 0 (show decode _ _ = .ok (.invokespecial 52, 3) by decide +kernel) ci_X5_52 rfl (Nat.le_of_ble_eq_true rfl) (s_X0_init (d := d) (hd_le hd (by decide)) h_32) (by decide) (by decide) (kV (bc' := 4) (bs' := 40) (by decide) (by decide) (fun M87 h_33 => ?_))
  obtain ⟨hr91, ⟨n88, hs89, hi90⟩, h_34⟩ := h_33
  obtain ⟨⟨hr95, n94, hs96⟩, h_35⟩ := h_34
  refine fw_aastP 15 0 _ (show decode _ _ = .ok (.aastore, 1) by decide +kernel) (by first | exact Or.inl ⟨rfl, rfl, rfl⟩ | exact Or.inr ⟨rfl, rfl, rfl⟩) hr91 hs89 hi90 hr95 hs96 ?_
  refine FW.nmM (fun M92 eM93 => ?_)
  have h_36 := h_35 M92 eM93
  refine fw_iinc (i := 1) (x := (1 : Int32)) (v := (2 : Int32)) (ls' := [(1, .int (2 : Int32)), (0, .ref p0)]) 0 rfl (show decode _ _ = .ok (.iinc 1 1, 3) by decide +kernel) (by decide) (by decide) rfl ?_
  refine fw_goto 91 (show decode _ _ = .ok (.goto (-21), 3) by decide +kernel) (by decide) ?_
  refine fw_iload_n (i := 1) 0 rfl (show decode _ _ = .ok (.iload_n 1, 1) by decide +kernel) ?_
  refine fw_iconst (v := (4 : Int32)) (show decode _ _ = .ok (.iconst 4, 1) by decide +kernel) (by decide) ?_
  refine fw_icmp_ge 115 (show decode _ _ = .ok (.if_icmp .ge 22, 3) by decide +kernel) (by decide) (fun hc => absurd hc (by decide)) (fun _ => ?_)
  refine fw_aload_n (i := 0) 1 rfl (show decode _ _ = .ok (.aload_n 0, 1) by decide +kernel) ?_
  obtain ⟨⟨hr98, n97, hs99⟩, h_37⟩ := h_36
  refine fw_getP (kd := 5) (k := 0) (show decode _ _ = .ok (.getfield 11, 3) by decide +kernel) gf_X5_11 hr98 hs99 rfl ?_
  have h_38 := dR_e h_37
  obtain ⟨y100, hy101, h_39⟩ := h_38
  refine fw_deref hy101 ?_
  refine fw_iload_n (i := 1) 0 rfl (show decode _ _ = .ok (.iload_n 1, 1) by decide +kernel) ?_
  refine fw_new (kd := 0) (len := 5) (show decode _ _ = .ok (.new 9, 3) by decide +kernel) cl_X5_9 (by decide) (by decide) ?_
  refine FW.room (bc' := 3) (bs' := 35) (by decide) (by decide) ?_
  refine FW.nmN (fun q102 eq103 => ?_)
  refine FW.nmM (fun M104 eM105 => ?_)
  have h_40 := h_39 q102 M104 eq103 eM105
  refine fw_dup (show decode _ _ = .ok (.dup, 1) by decide +kernel) rfl ?_
  refine fw_callI (mt' := mtX0_init) (mc := 1) (ms := 15) (As := []) (rest := [.ref q102, .int (2 : Int32), .ref y100]) 0 (show decode _ _ = .ok (.invokespecial 52, 3) by decide +kernel) ci_X5_52 rfl (Nat.le_of_ble_eq_true rfl) (s_X0_init (d := d) (hd_le hd (by decide)) h_40) (by decide) (by decide) (kV (bc' := 2) (bs' := 20) (by decide) (by decide) (fun M106 h_41 => ?_))
  obtain ⟨hr110, ⟨n107, hs108, hi109⟩, h_42⟩ := h_41
  obtain ⟨⟨hr114, n113, hs115⟩, h_43⟩ := h_42
  refine fw_aastP 15 0 _ (show decode _ _ = .ok (.aastore, 1) by decide +kernel) (by first | exact Or.inl ⟨rfl, rfl, rfl⟩ | exact Or.inr ⟨rfl, rfl, rfl⟩) hr110 hs108 hi109 hr114 hs115 ?_
  refine FW.nmM (fun M111 eM112 => ?_)
  have h_44 := h_43 M111 eM112
  refine fw_iinc (i := 1) (x := (2 : Int32)) (v := (3 : Int32)) (ls' := [(1, .int (3 : Int32)), (0, .ref p0)]) 0 rfl (show decode _ _ = .ok (.iinc 1 1, 3) by decide +kernel) (by decide) (by decide) rfl ?_
  refine fw_goto 91 (show decode _ _ = .ok (.goto (-21), 3) by decide +kernel) (by decide) ?_
  refine fw_iload_n (i := 1) 0 rfl (show decode _ _ = .ok (.iload_n 1, 1) by decide +kernel) ?_
  refine fw_iconst (v := (4 : Int32)) (show decode _ _ = .ok (.iconst 4, 1) by decide +kernel) (by decide) ?_
  refine fw_icmp_ge 115 (show decode _ _ = .ok (.if_icmp .ge 22, 3) by decide +kernel) (by decide) (fun hc => absurd hc (by decide)) (fun _ => ?_)
  refine fw_aload_n (i := 0) 1 rfl (show decode _ _ = .ok (.aload_n 0, 1) by decide +kernel) ?_
  obtain ⟨⟨hr117, n116, hs118⟩, h_45⟩ := h_44
  refine fw_getP (kd := 5) (k := 0) (show decode _ _ = .ok (.getfield 11, 3) by decide +kernel) gf_X5_11 hr117 hs118 rfl ?_
  have h_46 := dR_e h_45
  obtain ⟨y119, hy120, h_47⟩ := h_46
  refine fw_deref hy120 ?_
  refine fw_iload_n (i := 1) 0 rfl (show decode _ _ = .ok (.iload_n 1, 1) by decide +kernel) ?_
  refine fw_new (kd := 0) (len := 5) (show decode _ _ = .ok (.new 9, 3) by decide +kernel) cl_X5_9 (by decide) (by decide) ?_
  refine FW.room (bc' := 1) (bs' := 15) (by decide) (by decide) ?_
  refine FW.nmN (fun q121 eq122 => ?_)
  refine FW.nmM (fun M123 eM124 => ?_)
  have h_48 := h_47 q121 M123 eq122 eM124
  refine fw_dup (show decode _ _ = .ok (.dup, 1) by decide +kernel) rfl ?_
  refine fw_callI (mt' := mtX0_init) (mc := 1) (ms := 15) (As := []) (rest := [.ref q121, .int (3 : Int32), .ref y119]) 0 (show decode _ _ = .ok (.invokespecial 52, 3) by decide +kernel) ci_X5_52 rfl (Nat.le_of_ble_eq_true rfl) (s_X0_init (d := d) (hd_le hd (by decide)) h_48) (by decide) (by decide) (kV (bc' := 0) (bs' := 0) (by decide) (by decide) (fun M125 h_49 => ?_))
  obtain ⟨hr129, ⟨n126, hs127, hi128⟩, h_50⟩ := h_49
  obtain ⟨⟨hr133, n132, hs134⟩, h_51⟩ := h_50
  refine fw_aastP 15 0 _ (show decode _ _ = .ok (.aastore, 1) by decide +kernel) (by first | exact Or.inl ⟨rfl, rfl, rfl⟩ | exact Or.inr ⟨rfl, rfl, rfl⟩) hr129 hs127 hi128 hr133 hs134 ?_
  refine FW.nmM (fun M130 eM131 => ?_)
  have h_52 := h_51 M130 eM131
  refine fw_iinc (i := 1) (x := (3 : Int32)) (v := (4 : Int32)) (ls' := [(1, .int (4 : Int32)), (0, .ref p0)]) 0 rfl (show decode _ _ = .ok (.iinc 1 1, 3) by decide +kernel) (by decide) (by decide) rfl ?_
  refine fw_goto 91 (show decode _ _ = .ok (.goto (-21), 3) by decide +kernel) (by decide) ?_
  refine fw_iload_n (i := 1) 0 rfl (show decode _ _ = .ok (.iload_n 1, 1) by decide +kernel) ?_
  refine fw_iconst (v := (4 : Int32)) (show decode _ _ = .ok (.iconst 4, 1) by decide +kernel) (by decide) ?_
  refine fw_icmp_ge 115 (show decode _ _ = .ok (.if_icmp .ge 22, 3) by decide +kernel) (by decide) (fun _ => ?_) (fun hc => absurd hc (by decide))
  refine fw_aload_n (i := 0) 1 rfl (show decode _ _ = .ok (.aload_n 0, 1) by decide +kernel) ?_
  obtain ⟨⟨hr136, n135, hs137⟩, h_53⟩ := h_52
  refine fw_getP (kd := 5) (k := 7) (show decode _ _ = .ok (.getfield 31, 3) by decide +kernel) gf_X5_31 hr136 hs137 rfl ?_
  have h_54 := dR_e h_53
  obtain ⟨y138, hy139, h_55⟩ := h_54
  refine fw_deref hy139 ?_
  refine fw_iconst (v := (0 : Int32)) (show decode _ _ = .ok (.iconst 0, 1) by decide +kernel) (by decide) ?_
  refine fw_iconst (v := (-1 : Int32)) (show decode _ _ = .ok (.iconst (-1), 1) by decide +kernel) (by decide) ?_
  obtain ⟨hr143, ⟨n140, hs141, hi142⟩, h_56⟩ := h_55
  refine fw_iast (show decode _ _ = .ok (.iastore, 1) by decide +kernel) hr143 hs141 hi142 ?_
  refine FW.nmM (fun M144 eM145 => ?_)
  have h_57 := h_56 M144 eM145
  exact fw_ret (v := none) .return_ (show decode _ _ = .ok (.return_, 1) by decide +kernel) ⟨rfl, rfl⟩ ⟨rfl, h_57⟩
