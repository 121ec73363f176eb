def w_J0_isLatin1_aae02  (M : fM) (φ : Int32 → fM → Prop) : Prop := φ (1 : Int32) M
set_option maxRecDepth 100000 in
theorem s_J0_isLatin1_aae02 {g : GT} {d : Nat} (hd : 1 ≤ d)  {M : fM} {φ : Int32 → fM → Prop} (h : w_J0_isLatin1_aae02 M φ) : FC g mtJ0_isLatin1_aae02 d [.ref 3] M 0 0 (rI φ) := by
  obtain ⟨d, rfl⟩ : ∃ e, d = e + 1 := ⟨d - 1, by omega⟩
  unfold w_J0_isLatin1_aae02 at h
  refine FC.intro (nL := 1) (by decide) rfl (Nat.le_of_ble_eq_true rfl) ?_
  show FW g mtJ0_isLatin1_aae02 (d + 1) 0 [(0, .ref 3)] [] M 0 0 (rI φ)
  refine fw_getsC (idx := 38) (show decode _ _ = .ok (.getstatic 38, 3) by decide +kernel) wd659 ?_
  refine fw_if_eq 17 (show decode _ _ = .ok (.ifCond .eq 14, 3) by decide +kernel) (by decide) (fun hc => absurd hc (by decide)) (fun _ => ?_)
  refine fw_aload_n (i := 0) 0 rfl (show decode _ _ = .ok (.aload_n 0, 1) by decide +kernel) ?_
  refine fw_strC (idx := 15) (show decode _ _ = .ok (.getfield 15, 3) by decide +kernel) wd2037 ?_
  refine fw_if_ne 17 (show decode _ _ = .ok (.ifCond .ne 7, 3) by decide +kernel) (by decide) (fun hc => absurd hc (by decide)) (fun _ => ?_)
  refine fw_iconst (v := (1 : Int32)) (show decode _ _ = .ok (.iconst 1, 1) by decide +kernel) (by decide) ?_
  refine fw_goto 18 (show decode _ _ = .ok (.goto 4, 3) by decide +kernel) (by decide) ?_
  exact fw_ret (v := some (.int (1 : Int32))) .ireturn (show decode _ _ = .ok (.ireturn, 1) by decide +kernel) ⟨rfl, Or.inr (Or.inl ⟨rfl, rfl⟩)⟩ ⟨_, rfl, h⟩
def j_J3_checkIndex_8e157_9 (φ : Int32 → fM → Prop) (p0 : Int32) (p1 : Int32) (M : fM) : Prop := False
set_option maxRecDepth 100000 in
theorem sj_J3_checkIndex_8e157_9 {g : GT} {d : Nat} (hd : 1 ≤ d + 1) {φ : Int32 → fM → Prop} {p0 : Int32} {p1 : Int32} {M : fM} (h : j_J3_checkIndex_8e157_9 φ p0 p1 M) : FW g mtJ3_checkIndex_8e157 (d + 1) 9 [(0, .int p0), (1, .int p1), (2, fV g)] [] M 0 0 (rI φ) := by
  unfold j_J3_checkIndex_8e157_9 at h
  exact h.elim
def w_J3_checkIndex_8e157 (p0 : Int32) (p1 : Int32) (M : fM) (φ : Int32 → fM → Prop) : Prop := iF (p0 < 0) (j_J3_checkIndex_8e157_9 φ p0 p1 M) (iF (p0 < p1) (φ p0 M) (j_J3_checkIndex_8e157_9 φ p0 p1 M))
set_option maxRecDepth 100000 in
theorem s_J3_checkIndex_8e157 {g : GT} {d : Nat} (hd : 1 ≤ d) {p0 : Int32} {p1 : Int32} {M : fM} {φ : Int32 → fM → Prop} (h : w_J3_checkIndex_8e157 p0 p1 M φ) : FC g mtJ3_checkIndex_8e157 d [.int p0, .int p1, fV g] M 0 0 (rI φ) := by
  obtain ⟨d, rfl⟩ : ∃ e, d = e + 1 := ⟨d - 1, by omega⟩
  unfold w_J3_checkIndex_8e157 at h
  refine FC.intro (nL := 3) (by decide) rfl (by unfold fV; split <;> exact Nat.le_of_ble_eq_true rfl) ?_
  show FW g mtJ3_checkIndex_8e157 (d + 1) 0 [(0, .int p0), (1, .int p1), (2, fV g)] [] M 0 0 (rI φ)
  refine fw_iload_n (i := 0) 0 rfl (show decode _ _ = .ok (.iload_n 0, 1) by decide +kernel) ?_
  refine fw_if_lt 9 (show decode _ _ = .ok (.ifCond .lt 8, 3) by decide +kernel) (by decide) (fun hc2 => ?_) (fun hc2 => ?_)
  · have h_1 := ipos hc2 h
    refine FW.sub [0, 1, 2] (ls' := [(0, .int p0), (1, .int p1), (2, fV g)]) rfl ?_
    exact sj_J3_checkIndex_8e157_9 hd h_1
  · have h_2 := ineg hc2 h
    refine fw_iload_n (i := 0) 0 rfl (show decode _ _ = .ok (.iload_n 0, 1) by decide +kernel) ?_
    refine fw_iload_n (i := 1) 1 rfl (show decode _ _ = .ok (.iload_n 1, 1) by decide +kernel) ?_
    refine fw_icmp_lt 16 (show decode _ _ = .ok (.if_icmp .lt 10, 3) by decide +kernel) (by decide) (fun hc1 => ?_) (fun hc1 => ?_)
    · have h_3 := ipos hc1 h_2
      refine fw_iload_n (i := 0) 0 rfl (show decode _ _ = .ok (.iload_n 0, 1) by decide +kernel) ?_
      exact fw_ret (v := some (.int p0)) .ireturn (show decode _ _ = .ok (.ireturn, 1) by decide +kernel) ⟨rfl, Or.inl rfl⟩ ⟨_, rfl, h_3⟩
    · have h_4 := ineg hc1 h_2
      refine FW.sub [0, 1, 2] (ls' := [(0, .int p0), (1, .int p1), (2, fV g)]) rfl ?_
      exact sj_J3_checkIndex_8e157_9 hd h_4
def w_J0_checkIndex_df160 (p0 : Int32) (p1 : Int32) (M : fM) (φ : fM → Prop) : Prop := w_J3_checkIndex_8e157 p0 p1 M fun x2 M1 => φ M1
set_option maxRecDepth 100000 in
theorem s_J0_checkIndex_df160 {g : GT} {d : Nat} (hd : 2 ≤ d) {p0 : Int32} {p1 : Int32} {M : fM} {φ : fM → Prop} (h : w_J0_checkIndex_df160 p0 p1 M φ) : FC g mtJ0_checkIndex_df160 d [.int p0, .int p1] M 0 0 (rV φ) := by
  obtain ⟨d, rfl⟩ : ∃ e, d = e + 1 := ⟨d - 1, by omega⟩
  unfold w_J0_checkIndex_df160 at h
  refine FC.intro (nL := 2) (by decide) rfl (Nat.le_of_ble_eq_true rfl) ?_
  show FW g mtJ0_checkIndex_df160 (d + 1) 0 [(0, .int p0), (1, .int p1)] [] M 0 0 (rV φ)
  refine fw_iload_n (i := 0) 0 rfl (show decode _ _ = .ok (.iload_n 0, 1) by decide +kernel) ?_
  refine fw_iload_n (i := 1) 1 rfl (show decode _ _ = .ok (.iload_n 1, 1) by decide +kernel) ?_
  refine fw_getsF (idx := 1053) (show decode _ _ = .ok (.getstatic 1053, 3) by decide +kernel) wd675 ?_
  refine fw_callS (mt' := mtJ3_checkIndex_8e157) (mc := 0) (ms := 0) (As := [.int p0, .int p1, fV g]) (rest := []) 3 (show decode _ _ = .ok (.invokestatic 1059, 3) by decide +kernel) cs_J0_1059 rfl (Nat.le_of_ble_eq_true rfl) (s_J3_checkIndex_8e157 (d := d) (hd_le hd (by decide)) h) (by decide) (by decide) (kI (bc' := 0) (bs' := 0) (by decide) (by decide) (fun x2 M1 h_1 => ?_))
  refine fw_pop (show decode _ _ = .ok (.pop, 1) by decide +kernel) rfl ?_
  exact fw_ret (v := none) .return_ (show decode _ _ = .ok (.return_, 1) by decide +kernel) ⟨rfl, rfl⟩ ⟨rfl, h_1⟩
def w_J1_charAt_3b067 (p1 : Int32) (M : fM) (φ : Int32 → fM → Prop) : Prop := lenA M 4 18 fun n1 => w_J0_checkIndex_df160 p1 (nI n1) M fun M3 => inA M3 4 18 p1 ∧ isC (UInt32.toInt32 (Int32.toUInt32 ((mI M3 4 (ix p1)) &&& (255 : Int32)) % 65536)) ∧ φ (UInt32.toInt32 (Int32.toUInt32 ((mI M3 4 (ix p1)) &&& (255 : Int32)) % 65536)) M3
set_option maxRecDepth 100000 in
theorem s_J1_charAt_3b067 {g : GT} {d : Nat} (hd : 3 ≤ d) {p1 : Int32} {M : fM} {φ : Int32 → fM → Prop} (h : w_J1_charAt_3b067 p1 M φ) : FC g mtJ1_charAt_3b067 d [.ref 4, .int p1] M 0 0 (rI φ) := by
  obtain ⟨d, rfl⟩ : ∃ e, d = e + 1 := ⟨d - 1, by omega⟩
  unfold w_J1_charAt_3b067 at h
  refine FC.intro (nL := 2) (by decide) rfl (Nat.le_of_ble_eq_true rfl) ?_
  show FW g mtJ1_charAt_3b067 (d + 1) 0 [(0, .ref 4), (1, .int p1)] [] M 0 0 (rI φ)
  refine fw_iload_n (i := 1) 1 rfl (show decode _ _ = .ok (.iload_n 1, 1) by decide +kernel) ?_
  refine fw_aload_n (i := 0) 0 rfl (show decode _ _ = .ok (.aload_n 0, 1) by decide +kernel) ?_
  obtain ⟨n1, hs2, h_1⟩ := h
  refine fw_alen (show decode _ _ = .ok (.arraylength, 1) by decide +kernel) hs2 (by decide) (by decide) (by decide) (fun _ => by decide) ?_
  refine fw_callS (mt' := mtJ0_checkIndex_df160) (mc := 0) (ms := 0) (As := [.int p1, .int (nI n1)]) (rest := []) 2 (show decode _ _ = .ok (.invokestatic 9, 3) by decide +kernel) cs_J1_9 rfl (Nat.le_of_ble_eq_true rfl) (s_J0_checkIndex_df160 (d := d) (hd_le hd (by decide)) h_1) (by decide) (by decide) (kV (bc' := 0) (bs' := 0) (by decide) (by decide) (fun M3 h_2 => ?_))
  refine fw_aload_n (i := 0) 0 rfl (show decode _ _ = .ok (.aload_n 0, 1) by decide +kernel) ?_
  refine fw_iload_n (i := 1) 1 rfl (show decode _ _ = .ok (.iload_n 1, 1) by decide +kernel) ?_
  obtain ⟨⟨n4, hs5, hi6⟩, h_3⟩ := h_2
  refine fw_bald (show decode _ _ = .ok (.baload, 1) by decide +kernel) hs5 hi6 ?_
  refine fw_sipush (v := (255 : Int32)) (show decode _ _ = .ok (.sipush 255, 3) by decide +kernel) (by decide) ?_
  refine fw_iand (show decode _ _ = .ok (.iand, 1) by decide +kernel) ?_
  refine fw_i2c (show decode _ _ = .ok (.i2c, 1) by decide +kernel) ?_
  obtain ⟨hbb, h_4⟩ := h_3
  exact fw_ret (v := some (.int (UInt32.toInt32 (Int32.toUInt32 ((mI M3 4 (ix p1)) &&& (255 : Int32)) % 65536)))) .ireturn (show decode _ _ = .ok (.ireturn, 1) by decide +kernel) ⟨rfl, Or.inr (Or.inr (Or.inl ⟨rfl, hbb⟩))⟩ ⟨_, rfl, h_4⟩
def w_J0_charAt_5068e (p1 : Int32) (M : fM) (φ : Int32 → fM → Prop) : Prop := w_J0_isLatin1_aae02  M fun x2 M1 => iF (x2 = 0) (False) (w_J1_charAt_3b067 p1 M1 fun x4 M3 => isC x4 ∧ φ x4 M3)
set_option maxRecDepth 100000 in
theorem s_J0_charAt_5068e {g : GT} {d : Nat} (hd : 4 ≤ d) {p1 : Int32} {M : fM} {φ : Int32 → fM → Prop} (h : w_J0_charAt_5068e p1 M φ) : FC g mtJ0_charAt_5068e d [.ref 3, .int p1] M 0 0 (rI φ) := by
  obtain ⟨d, rfl⟩ : ∃ e, d = e + 1 := ⟨d - 1, by omega⟩
  unfold w_J0_charAt_5068e at h
  refine FC.intro (nL := 2) (by decide) rfl (Nat.le_of_ble_eq_true rfl) ?_
  show FW g mtJ0_charAt_5068e (d + 1) 0 [(0, .ref 3), (1, .int p1)] [] M 0 0 (rI φ)
  refine fw_aload_n (i := 0) 0 rfl (show decode _ _ = .ok (.aload_n 0, 1) by decide +kernel) ?_
  refine fw_callT (mt' := mtJ0_isLatin1_aae02) (mc := 0) (ms := 0) (As := []) (rest := []) 0 (show decode _ _ = .ok (.invokevirtual 492, 3) by decide +kernel) cv_J0_492 rfl rfl (Nat.le_of_ble_eq_true rfl) (s_J0_isLatin1_aae02 (d := d) (hd_le hd (by decide)) h) (by decide) (by decide) (kI (bc' := 0) (bs' := 0) (by decide) (by decide) (fun x2 M1 h_1 => ?_))
  refine fw_if_eq 16 (show decode _ _ = .ok (.ifCond .eq 12, 3) by decide +kernel) (by decide) (fun hc5 => ?_) (fun hc5 => ?_)
  · have h_2 := ipos hc5 h_1
    refine fw_aload_n (i := 0) 0 rfl (show decode _ _ = .ok (.aload_n 0, 1) by decide +kernel) ?_
    refine fw_strV (idx := 9) (show decode _ _ = .ok (.getfield 9, 3) by decide +kernel) wd2036 ?_
    refine fw_iload_n (i := 1) 1 rfl (show decode _ _ = .ok (.iload_n 1, 1) by decide +kernel) ?_
    exact h_2.elim
  · have h_3 := ineg hc5 h_1
    refine fw_aload_n (i := 0) 0 rfl (show decode _ _ = .ok (.aload_n 0, 1) by decide +kernel) ?_
    refine fw_strV (idx := 9) (show decode _ _ = .ok (.getfield 9, 3) by decide +kernel) wd2036 ?_
    refine fw_iload_n (i := 1) 1 rfl (show decode _ _ = .ok (.iload_n 1, 1) by decide +kernel) ?_
    refine fw_callS (mt' := mtJ1_charAt_3b067) (mc := 0) (ms := 0) (As := [.ref 4, .int p1]) (rest := []) 2 (show decode _ _ = .ok (.invokestatic 495, 3) by decide +kernel) cs_J0_495 rfl (Nat.le_of_ble_eq_true rfl) (s_J1_charAt_3b067 (d := d) (hd_le hd (by decide)) h_3) (by decide) (by decide) (kI (bc' := 0) (bs' := 0) (by decide) (by decide) (fun x4 M3 h_4 => ?_))
    obtain ⟨hbb, h_5⟩ := h_4
    exact fw_ret (v := some (.int x4)) .ireturn (show decode _ _ = .ok (.ireturn, 1) by decide +kernel) ⟨rfl, Or.inr (Or.inr (Or.inl ⟨rfl, hbb⟩))⟩ ⟨_, rfl, h_5⟩
def w_J0_coder_7d493  (M : fM) (φ : Int32 → fM → Prop) : Prop := φ (0 : Int32) M
set_option maxRecDepth 100000 in
theorem s_J0_coder_7d493 {g : GT} {d : Nat} (hd : 1 ≤ d)  {M : fM} {φ : Int32 → fM → Prop} (h : w_J0_coder_7d493 M φ) : FC g mtJ0_coder_7d493 d [.ref 3] M 0 0 (rI φ) := by
  obtain ⟨d, rfl⟩ : ∃ e, d = e + 1 := ⟨d - 1, by omega⟩
  unfold w_J0_coder_7d493 at h
  refine FC.intro (nL := 1) (by decide) rfl (Nat.le_of_ble_eq_true rfl) ?_
  show FW g mtJ0_coder_7d493 (d + 1) 0 [(0, .ref 3)] [] M 0 0 (rI φ)
  refine fw_getsC (idx := 38) (show decode _ _ = .ok (.getstatic 38, 3) by decide +kernel) wd659 ?_
  refine fw_if_eq 13 (show decode _ _ = .ok (.ifCond .eq 10, 3) by decide +kernel) (by decide) (fun hc => absurd hc (by decide)) (fun _ => ?_)
  refine fw_aload_n (i := 0) 0 rfl (show decode _ _ = .ok (.aload_n 0, 1) by decide +kernel) ?_
  refine fw_strC (idx := 15) (show decode _ _ = .ok (.getfield 15, 3) by decide +kernel) wd2037 ?_
  refine fw_goto 14 (show decode _ _ = .ok (.goto 4, 3) by decide +kernel) (by decide) ?_
  exact fw_ret (v := some (.int (0 : Int32))) .ireturn (show decode _ _ = .ok (.ireturn, 1) by decide +kernel) ⟨rfl, Or.inr (Or.inr (Or.inr ⟨rfl, rfl⟩))⟩ ⟨_, rfl, h⟩
def w_J0_length_8abf5  (M : fM) (φ : Int32 → fM → Prop) : Prop := lenA M 4 18 fun n1 => w_J0_coder_7d493  M fun x4 M3 => φ ((nI n1) >>> (x4 &&& 31)) M3
set_option maxRecDepth 100000 in
theorem s_J0_length_8abf5 {g : GT} {d : Nat} (hd : 2 ≤ d)  {M : fM} {φ : Int32 → fM → Prop} (h : w_J0_length_8abf5 M φ) : FC g mtJ0_length_8abf5 d [.ref 3] M 0 0 (rI φ) := by
  obtain ⟨d, rfl⟩ : ∃ e, d = e + 1 := ⟨d - 1, by omega⟩
  unfold w_J0_length_8abf5 at h
  refine FC.intro (nL := 1) (by decide) rfl (Nat.le_of_ble_eq_true rfl) ?_
  show FW g mtJ0_length_8abf5 (d + 1) 0 [(0, .ref 3)] [] M 0 0 (rI φ)
  refine fw_aload_n (i := 0) 0 rfl (show decode _ _ = .ok (.aload_n 0, 1) by decide +kernel) ?_
  refine fw_strV (idx := 9) (show decode _ _ = .ok (.getfield 9, 3) by decide +kernel) wd2036 ?_
  obtain ⟨n1, hs2, h_1⟩ := h
  refine fw_alen (show decode _ _ = .ok (.arraylength, 1) by decide +kernel) hs2 (by decide) (by decide) (by decide) (fun _ => by decide) ?_
  refine fw_aload_n (i := 0) 0 rfl (show decode _ _ = .ok (.aload_n 0, 1) by decide +kernel) ?_
  refine fw_callT (mt' := mtJ0_coder_7d493) (mc := 0) (ms := 0) (As := []) (rest := [.int (nI n1)]) 0 (show decode _ _ = .ok (.invokevirtual 335, 3) by decide +kernel) cv_J0_335 rfl rfl (Nat.le_of_ble_eq_true rfl) (s_J0_coder_7d493 (d := d) (hd_le hd (by decide)) h_1) (by decide) (by decide) (kI (bc' := 0) (bs' := 0) (by decide) (by decide) (fun x4 M3 h_2 => ?_))
  refine fw_ishr (show decode _ _ = .ok (.ishr, 1) by decide +kernel) ?_
  exact fw_ret (v := some (.int ((nI n1) >>> (x4 &&& 31)))) .ireturn (show decode _ _ = .ok (.ireturn, 1) by decide +kernel) ⟨rfl, Or.inl rfl⟩ ⟨_, rfl, h_2⟩
def w_J7_copyOf_59c91 (p0 : Nat) (p1 : Int32) (M : fM) (φ : Option Nat → fM → Prop) : Prop := lenA M p0 12 fun n1 => iF (p1 = (nI n1)) (6 ≤ p0 ∧ lenA M p0 12 fun n29 => n29 ≤ 300 ∧ cl M p0 n29 fun q24 M26 => 6 ≤ q24 ∧ lenA M26 q24 12 fun n32 => φ (some q24) M26) (¬ p1 < 0 ∧ ix p1 ≤ 300 ∧ nw M 12 (ix p1) fun q3 M5 => lenA M5 p0 12 fun n9 => 6 ≤ p0 ∧ 6 ≤ q3 ∧ ¬ (0 : Int32) < 0 ∧ ¬ (0 : Int32) < 0 ∧ ¬ (imin (nI n9) p1) < 0 ∧ lenA M5 p0 12 fun n20 => lenA M5 q3 12 fun n21 => ix (0 : Int32) + ix (imin (nI n9) p1) ≤ n20 ∧ ix (0 : Int32) + ix (imin (nI n9) p1) ≤ n21 ∧ st (cpI M5 p0 q3 (ix (0 : Int32)) (ix (0 : Int32)) (ix (imin (nI n9) p1))) fun M22 => φ (some q3) M22)
set_option maxRecDepth 100000 in
theorem s_J7_copyOf_59c91 {g : GT} {d : Nat} (hd : 1 ≤ d) {p0 : Nat} {p1 : Int32} {M : fM} {φ : Option Nat → fM → Prop} (h : w_J7_copyOf_59c91 p0 p1 M φ) : FC g mtJ7_copyOf_59c91 d [.ref p0, .int p1] M 2 600 (rP φ) := by
  obtain ⟨d, rfl⟩ : ∃ e, d = e + 1 := ⟨d - 1, by omega⟩
  unfold w_J7_copyOf_59c91 at h
  refine FC.intro (nL := 3) (by decide) rfl (Nat.le_of_ble_eq_true rfl) ?_
  show FW g mtJ7_copyOf_59c91 (d + 1) 0 [(0, .ref p0), (1, .int p1)] [] M 2 600 (rP φ)
  refine fw_iload_n (i := 1) 1 rfl (show decode _ _ = .ok (.iload_n 1, 1) by decide +kernel) ?_
  refine fw_aload_n (i := 0) 0 rfl (show decode _ _ = .ok (.aload_n 0, 1) by decide +kernel) ?_
  obtain ⟨n1, hs2, h_1⟩ := h
  refine fw_alen (show decode _ _ = .ok (.arraylength, 1) by decide +kernel) hs2 (by decide) (by decide) (by decide) (fun h_1 => absurd h_1 (by decide)) ?_
  refine fw_icmp_ne 14 (show decode _ _ = .ok (.if_icmp .ne 11, 3) by decide +kernel) (by decide) (fun hc35 => ?_) (fun hc35 => ?_)
  · have h_2 := ineg hc35 h_1
    refine fw_iload_n (i := 1) 1 rfl (show decode _ _ = .ok (.iload_n 1, 1) by decide +kernel) ?_
    obtain ⟨hn7, hN8, h_3⟩ := h_2
    refine fw_newa 12 (show decode _ _ = .ok (.newarray .int, 2) by decide +kernel) (by decide) hn7 (Nat.le_trans hN8 (by decide)) (by decide) (Nat.le_trans hN8 (by decide)) wd179 ?_
    refine FW.room (bc' := 1) (bs' := 300) (by decide) (Nat.sub_le_sub_left hN8 600) ?_
    refine FW.nmN (fun q3 eq4 => ?_)
    refine FW.nmM (fun M5 eM6 => ?_)
    have h_4 := h_3 q3 M5 eq4 eM6
    refine fw_astore_n (i := 2) (ls' := [(2, .ref q3), (0, .ref p0), (1, .int p1)]) (show decode _ _ = .ok (.astore_n 2, 1) by decide +kernel) (by decide) rfl ?_
    refine fw_aload_n (i := 0) 1 rfl (show decode _ _ = .ok (.aload_n 0, 1) by decide +kernel) ?_
    refine fw_iconst (v := (0 : Int32)) (show decode _ _ = .ok (.iconst 0, 1) by decide +kernel) (by decide) ?_
    refine fw_aload_n (i := 2) 0 rfl (show decode _ _ = .ok (.aload_n 2, 1) by decide +kernel) ?_
    refine fw_iconst (v := (0 : Int32)) (show decode _ _ = .ok (.iconst 0, 1) by decide +kernel) (by decide) ?_
    refine fw_aload_n (i := 0) 1 rfl (show decode _ _ = .ok (.aload_n 0, 1) by decide +kernel) ?_
    obtain ⟨n9, hs10, h_5⟩ := h_4
    refine fw_alen (show decode _ _ = .ok (.arraylength, 1) by decide +kernel) hs10 (by decide) (by decide) (by decide) (fun h_5 => absurd h_5 (by decide)) ?_
    refine fw_iload_n (i := 1) 2 rfl (show decode _ _ = .ok (.iload_n 1, 1) by decide +kernel) ?_
    refine fw_mmin (idx := 304) (rest := [.int (0 : Int32), .ref q3, .int (0 : Int32), .ref p0]) (show decode _ _ = .ok (.invokestatic 304, 3) by decide +kernel) ⟨wd800, wd641, wd142, wd642⟩ (Nat.le_of_ble_eq_true rfl) ?_
    obtain ⟨hc11, hc12, hc13, hc14, hc15, n20, hc16, n21, hc17, hc18, hc19, h_6⟩ := h_5
    refine fw_copy (idx := 150) (rest := []) (show decode _ _ = .ok (.invokestatic 150, 3) by decide +kernel) ⟨wd801, wd803, wd802, wd148⟩ hc11 hc16 hc12 hc17 hc13 hc14 hc15 hc18 hc19 (Nat.le_of_ble_eq_true rfl) ?_
    refine FW.nmM (fun M22 eM23 => ?_)
    have h_7 := h_6 M22 eM23
    refine fw_aload_n (i := 2) 0 rfl (show decode _ _ = .ok (.aload_n 2, 1) by decide +kernel) ?_
    exact fw_retq (x := (some q3)) (show decode _ _ = .ok (.areturn, 1) by decide +kernel) ⟨_, rfl, Or.inr ⟨_, rfl⟩⟩ ⟨_, rfl, h_7⟩
  · have h_8 := ipos hc35 h_1
    refine fw_aload_n (i := 0) 0 rfl (show decode _ _ = .ok (.aload_n 0, 1) by decide +kernel) ?_
    obtain ⟨hr28, n29, hs30, hn31, h_9⟩ := h_8
    refine fw_clone (idx := 316) (rest := []) (show decode _ _ = .ok (.invokevirtual 316, 3) by decide +kernel) cloneW_316 hr28 hs30 (by decide) (Nat.le_trans hn31 (by decide)) (Nat.le_of_ble_eq_true rfl) ?_
    refine FW.room (bc' := 1) (bs' := 300) (by decide) (Nat.sub_le_sub_left hn31 600) ?_
    refine FW.nmN (fun q24 eq25 => ?_)
    refine FW.nmM (fun M26 eM27 => ?_)
    have h_10 := h_9 q24 M26 eq25 eM27
    obtain ⟨hr34, n32, hs33, h_11⟩ := h_10
    refine fw_castA (show decode _ _ = .ok (.checkcast 317, 3) by decide +kernel) wd799 hr34 hs33 ?_
    exact fw_retq (x := (some q24)) (show decode _ _ = .ok (.areturn, 1) by decide +kernel) ⟨_, rfl, Or.inr ⟨_, rfl⟩⟩ ⟨_, rfl, h_11⟩
def b_J7_fill_53178_5 (K5 : Nat → Int32 → Int32 → Int32 → fM → Prop) (φ : fM → Prop) (p0 : Nat) (p1 : Int32) (p2 : Int32) (p3 : Int32) (M : fM) : Prop := iF (p3 ≤ p2) (φ M) (6 ≤ p0 ∧ inA M p0 12 p2 ∧ st (wI M p0 (ix p2) p1) fun M5 => nm (p2 + (1 : Int32)) fun x7 => K5 p0 p1 x7 p3 M5)
def l_J7_fill_53178_5 (φ : fM → Prop) : Nat → Nat → Int32 → Int32 → Int32 → fM → Prop
  | 0, _, _, _, _, _ => False
  | n + 1, p0, p1, p2, p3, M => b_J7_fill_53178_5 (l_J7_fill_53178_5 φ n) φ p0 p1 p2 p3 M
set_option maxRecDepth 100000 in
theorem sb_J7_fill_53178_5 {g : GT} {d : Nat} (hd : 1 ≤ d + 1) {K5 : Nat → Int32 → Int32 → Int32 → fM → Prop} {φ : fM → Prop} (hK5 : ∀ (p0 : Nat) (p1 : Int32) (p2 : Int32) (p3 : Int32) (M : fM), K5 p0 p1 p2 p3 M → FW g mtJ7_fill_53178 (d + 1) 5 [(0, .ref p0), (1, .int p1), (2, .int p2), (3, .int p3)] [] M 0 0 (rV φ)) {p0 : Nat} {p1 : Int32} {p2 : Int32} {p3 : Int32} {M : fM} (h : b_J7_fill_53178_5 K5 φ p0 p1 p2 p3 M) : FW g mtJ7_fill_53178 (d + 1) 5 [(0, .ref p0), (1, .int p1), (2, .int p2), (3, .int p3)] [] M 0 0 (rV φ) := by
  unfold b_J7_fill_53178_5 at h
  refine fw_iload_n (i := 2) 2 rfl (show decode _ _ = .ok (.iload_n 2, 1) by decide +kernel) ?_
  refine fw_iload_n (i := 3) 3 rfl (show decode _ _ = .ok (.iload_n 3, 1) by decide +kernel) ?_
  refine fw_icmp_ge 20 (show decode _ _ = .ok (.if_icmp .ge 13, 3) by decide +kernel) (by decide) (fun hc9 => ?_) (fun hc9 => ?_)
  · have h_1 := ipos hc9 h
    exact fw_ret (v := none) .return_ (show decode _ _ = .ok (.return_, 1) by decide +kernel) ⟨rfl, rfl⟩ ⟨rfl, h_1⟩
  · have h_2 := ineg hc9 h
    refine fw_aload_n (i := 0) 0 rfl (show decode _ _ = .ok (.aload_n 0, 1) by decide +kernel) ?_
    refine fw_iload_n (i := 2) 2 rfl (show decode _ _ = .ok (.iload_n 2, 1) by decide +kernel) ?_
    refine fw_iload_n (i := 1) 1 rfl (show decode _ _ = .ok (.iload_n 1, 1) by decide +kernel) ?_
    obtain ⟨hr4, ⟨n1, hs2, hi3⟩, h_3⟩ := h_2
    refine fw_iast (show decode _ _ = .ok (.iastore, 1) by decide +kernel) hr4 hs2 hi3 ?_
    refine FW.nmM (fun M5 eM6 => ?_)
    have h_4 := h_3 M5 eM6
    obtain ⟨x7, ex8⟩ : ∃ y : Int32, y = p2 + (1 : Int32) := ⟨_, rfl⟩
    have h_5 := h_4 x7 ex8
    refine fw_iinc (i := 2) (x := p2) (v := x7) (ls' := [(2, .int x7), (0, .ref p0), (1, .int p1), (3, .int p3)]) 2 rfl (show decode _ _ = .ok (.iinc 2 1, 3) by decide +kernel) (by rw [ex8]; rfl) (by decide) rfl ?_
    refine fw_goto 5 (show decode _ _ = .ok (.goto (-12), 3) by decide +kernel) (by decide) ?_
    refine FW.sub [1, 2, 0, 3] (ls' := [(0, .ref p0), (1, .int p1), (2, .int x7), (3, .int p3)]) rfl ?_
    exact hK5 _ _ _ _ _ h_5
theorem sl_J7_fill_53178_5 {g : GT} {d : Nat} (hd : 1 ≤ d + 1) {φ : fM → Prop} : ∀ (n : Nat) {p0 : Nat} {p1 : Int32} {p2 : Int32} {p3 : Int32} {M : fM}, l_J7_fill_53178_5 φ n p0 p1 p2 p3 M → FW g mtJ7_fill_53178 (d + 1) 5 [(0, .ref p0), (1, .int p1), (2, .int p2), (3, .int p3)] [] M 0 0 (rV φ)
  | 0 => fun h => h.elim
  | n + 1 => fun h => sb_J7_fill_53178_5 hd (fun _ _ _ _ _ h => sl_J7_fill_53178_5 hd n h) h
def w_J7_fill_53178 (p0 : Nat) (p1 : Int32) (M : fM) (φ : fM → Prop) : Prop := lenA M p0 12 fun n10 => nm (nI n10) fun x12 => ∃ n, l_J7_fill_53178_5 φ n p0 p1 (0 : Int32) x12 M
set_option maxRecDepth 100000 in
theorem s_J7_fill_53178 {g : GT} {d : Nat} (hd : 1 ≤ d) {p0 : Nat} {p1 : Int32} {M : fM} {φ : fM → Prop} (h : w_J7_fill_53178 p0 p1 M φ) : FC g mtJ7_fill_53178 d [.ref p0, .int p1] M 0 0 (rV φ) := by
  obtain ⟨d, rfl⟩ : ∃ e, d = e + 1 := ⟨d - 1, by omega⟩
  unfold w_J7_fill_53178 at h
  refine FC.intro (nL := 4) (by decide) rfl (Nat.le_of_ble_eq_true rfl) ?_
  show FW g mtJ7_fill_53178 (d + 1) 0 [(0, .ref p0), (1, .int p1)] [] M 0 0 (rV φ)
  refine fw_iconst (v := (0 : Int32)) (show decode _ _ = .ok (.iconst 0, 1) by decide +kernel) (by decide) ?_
  refine fw_istore_n (i := 2) (ls' := [(2, .int (0 : Int32)), (0, .ref p0), (1, .int p1)]) (show decode _ _ = .ok (.istore_n 2, 1) by decide +kernel) (by decide) rfl ?_
  refine fw_aload_n (i := 0) 1 rfl (show decode _ _ = .ok (.aload_n 0, 1) by decide +kernel) ?_
  obtain ⟨n10, hs11, h_1⟩ := h
  refine fw_alen (show decode _ _ = .ok (.arraylength, 1) by decide +kernel) hs11 (by decide) (by decide) (by decide) (fun h_1 => absurd h_1 (by decide)) ?_
  refine fw_nmI (fun x12 ex13 => ?_)
  have h_2 := h_1 x12 ex13
  refine fw_istore_n (i := 3) (ls' := [(3, .int x12), (2, .int (0 : Int32)), (0, .ref p0), (1, .int p1)]) (show decode _ _ = .ok (.istore_n 3, 1) by decide +kernel) (by decide) rfl ?_
  refine FW.sub [2, 3, 1, 0] (ls' := [(0, .ref p0), (1, .int p1), (2, .int (0 : Int32)), (3, .int x12)]) rfl ?_
  obtain ⟨nn, h_3⟩ := h_2
  exact sl_J7_fill_53178_5 hd nn h_3
def b_J7_fill_d0a16_6 (K6 : Nat → Int64 → Int32 → Int32 → fM → Prop) (φ : fM → Prop) (p0 : Nat) (p1 : Int64) (p3 : Int32) (p4 : Int32) (M : fM) : Prop := iF (p4 ≤ p3) (φ M) (6 ≤ p0 ∧ inA M p0 13 p3 ∧ st (wJ M p0 (ix p3) p1) fun M5 => nm (p3 + (1 : Int32)) fun x7 => K6 p0 p1 x7 p4 M5)
def l_J7_fill_d0a16_6 (φ : fM → Prop) : Nat → Nat → Int64 → Int32 → Int32 → fM → Prop
  | 0, _, _, _, _, _ => False
  | n + 1, p0, p1, p3, p4, M => b_J7_fill_d0a16_6 (l_J7_fill_d0a16_6 φ n) φ p0 p1 p3 p4 M
set_option maxRecDepth 100000 in
theorem sb_J7_fill_d0a16_6 {g : GT} {d : Nat} (hd : 1 ≤ d + 1) {K6 : Nat → Int64 → Int32 → Int32 → fM → Prop} {φ : fM → Prop} (hK6 : ∀ (p0 : Nat) (p1 : Int64) (p3 : Int32) (p4 : Int32) (M : fM), K6 p0 p1 p3 p4 M → FW g mtJ7_fill_d0a16 (d + 1) 6 [(0, .ref p0), (1, .long p1), (3, .int p3), (4, .int p4)] [] M 0 0 (rV φ)) {p0 : Nat} {p1 : Int64} {p3 : Int32} {p4 : Int32} {M : fM} (h : b_J7_fill_d0a16_6 K6 φ p0 p1 p3 p4 M) : FW g mtJ7_fill_d0a16 (d + 1) 6 [(0, .ref p0), (1, .long p1), (3, .int p3), (4, .int p4)] [] M 0 0 (rV φ) := by
  unfold b_J7_fill_d0a16_6 at h
  refine fw_iload_n (i := 3) 2 rfl (show decode _ _ = .ok (.iload_n 3, 1) by decide +kernel) ?_
  refine fw_iload (i := 4) 3 rfl (show decode _ _ = .ok (.iload 4, 2) by decide +kernel) ?_
  refine fw_icmp_ge 22 (show decode _ _ = .ok (.if_icmp .ge 13, 3) by decide +kernel) (by decide) (fun hc9 => ?_) (fun hc9 => ?_)
  · have h_1 := ipos hc9 h
    exact fw_ret (v := none) .return_ (show decode _ _ = .ok (.return_, 1) by decide +kernel) ⟨rfl, rfl⟩ ⟨rfl, h_1⟩
  · have h_2 := ineg hc9 h
    refine fw_aload_n (i := 0) 0 rfl (show decode _ _ = .ok (.aload_n 0, 1) by decide +kernel) ?_
    refine fw_iload_n (i := 3) 2 rfl (show decode _ _ = .ok (.iload_n 3, 1) by decide +kernel) ?_
    refine fw_lload_n (i := 1) 1 rfl (show decode _ _ = .ok (.lload_n 1, 1) by decide +kernel) ?_
    obtain ⟨hr4, ⟨n1, hs2, hi3⟩, h_3⟩ := h_2
    refine fw_last (show decode _ _ = .ok (.lastore, 1) by decide +kernel) hr4 hs2 hi3 ?_
    refine FW.nmM (fun M5 eM6 => ?_)
    have h_4 := h_3 M5 eM6
    obtain ⟨x7, ex8⟩ : ∃ y : Int32, y = p3 + (1 : Int32) := ⟨_, rfl⟩
    have h_5 := h_4 x7 ex8
    refine fw_iinc (i := 3) (x := p3) (v := x7) (ls' := [(3, .int x7), (0, .ref p0), (1, .long p1), (4, .int p4)]) 2 rfl (show decode _ _ = .ok (.iinc 3 1, 3) by decide +kernel) (by rw [ex8]; rfl) (by decide) rfl ?_
    refine fw_goto 6 (show decode _ _ = .ok (.goto (-13), 3) by decide +kernel) (by decide) ?_
    refine FW.sub [1, 2, 0, 3] (ls' := [(0, .ref p0), (1, .long p1), (3, .int x7), (4, .int p4)]) rfl ?_
    exact hK6 _ _ _ _ _ h_5
theorem sl_J7_fill_d0a16_6 {g : GT} {d : Nat} (hd : 1 ≤ d + 1) {φ : fM → Prop} : ∀ (n : Nat) {p0 : Nat} {p1 : Int64} {p3 : Int32} {p4 : Int32} {M : fM}, l_J7_fill_d0a16_6 φ n p0 p1 p3 p4 M → FW g mtJ7_fill_d0a16 (d + 1) 6 [(0, .ref p0), (1, .long p1), (3, .int p3), (4, .int p4)] [] M 0 0 (rV φ)
  | 0 => fun h => h.elim
  | n + 1 => fun h => sb_J7_fill_d0a16_6 hd (fun _ _ _ _ _ h => sl_J7_fill_d0a16_6 hd n h) h
def w_J7_fill_d0a16 (p0 : Nat) (p1 : Int64) (M : fM) (φ : fM → Prop) : Prop := lenA M p0 13 fun n10 => nm (nI n10) fun x12 => ∃ n, l_J7_fill_d0a16_6 φ n p0 p1 (0 : Int32) x12 M
set_option maxRecDepth 100000 in
theorem s_J7_fill_d0a16 {g : GT} {d : Nat} (hd : 1 ≤ d) {p0 : Nat} {p1 : Int64} {M : fM} {φ : fM → Prop} (h : w_J7_fill_d0a16 p0 p1 M φ) : FC g mtJ7_fill_d0a16 d [.ref p0, .long p1] M 0 0 (rV φ) := by
  obtain ⟨d, rfl⟩ : ∃ e, d = e + 1 := ⟨d - 1, by omega⟩
  unfold w_J7_fill_d0a16 at h
  refine FC.intro (nL := 5) (by decide) rfl (Nat.le_of_ble_eq_true rfl) ?_
  show FW g mtJ7_fill_d0a16 (d + 1) 0 [(0, .ref p0), (1, .long p1)] [] M 0 0 (rV φ)
  refine fw_iconst (v := (0 : Int32)) (show decode _ _ = .ok (.iconst 0, 1) by decide +kernel) (by decide) ?_
  refine fw_istore_n (i := 3) (ls' := [(3, .int (0 : Int32)), (0, .ref p0), (1, .long p1)]) (show decode _ _ = .ok (.istore_n 3, 1) by decide +kernel) (by decide) rfl ?_
  refine fw_aload_n (i := 0) 1 rfl (show decode _ _ = .ok (.aload_n 0, 1) by decide +kernel) ?_
  obtain ⟨n10, hs11, h_1⟩ := h
  refine fw_alen (show decode _ _ = .ok (.arraylength, 1) by decide +kernel) hs11 (by decide) (by decide) (by decide) (fun h_1 => absurd h_1 (by decide)) ?_
  refine fw_nmI (fun x12 ex13 => ?_)
  have h_2 := h_1 x12 ex13
  refine fw_istore (i := 4) (ls' := [(4, .int x12), (3, .int (0 : Int32)), (0, .ref p0), (1, .long p1)]) (show decode _ _ = .ok (.istore 4, 2) by decide +kernel) (by decide) rfl ?_
  refine FW.sub [2, 3, 1, 0] (ls' := [(0, .ref p0), (1, .long p1), (3, .int (0 : Int32)), (4, .int x12)]) rfl ?_
  obtain ⟨nn, h_3⟩ := h_2
  exact sl_J7_fill_d0a16_6 hd nn h_3
def w_X10_copy (p0 : Nat) (p1 : Nat) (M : fM) (φ : fM → Prop) : Prop := lenA M p0 12 fun n1 => lenA M p1 12 fun n3 => 6 ≤ p0 ∧ 6 ≤ p1 ∧ ¬ (0 : Int32) < 0 ∧ ¬ (0 : Int32) < 0 ∧ ¬ (imin (nI n1) (nI n3)) < 0 ∧ lenA M p0 12 fun n14 => lenA M p1 12 fun n15 => ix (0 : Int32) + ix (imin (nI n1) (nI n3)) ≤ n14 ∧ ix (0 : Int32) + ix (imin (nI n1) (nI n3)) ≤ n15 ∧ st (cpI M p0 p1 (ix (0 : Int32)) (ix (0 : Int32)) (ix (imin (nI n1) (nI n3)))) fun M16 => φ M16
set_option maxRecDepth 100000 in
theorem s_X10_copy {g : GT} {d : Nat} (hd : 1 ≤ d) {p0 : Nat} {p1 : Nat} {M : fM} {φ : fM → Prop} (h : w_X10_copy p0 p1 M φ) : FC g mtX10_copy d [.ref p0, .ref p1] M 0 0 (rV φ) := by
  obtain ⟨d, rfl⟩ : ∃ e, d = e + 1 := ⟨d - 1, by omega⟩
  unfold w_X10_copy at h
  refine FC.intro (nL := 2) (by decide) rfl (Nat.le_of_ble_eq_true rfl) ?_
  show FW g mtX10_copy (d + 1) 0 [(0, .ref p0), (1, .ref p1)] [] M 0 0 (rV φ)
  refine fw_aload_n (i := 0) 0 rfl (show decode _ _ = .ok (.aload_n 0, 1) by decide +kernel) ?_
  refine fw_iconst (v := (0 : Int32)) (show decode _ _ = .ok (.iconst 0, 1) by decide +kernel) (by decide) ?_
  refine fw_aload_n (i := 1) 1 rfl (show decode _ _ = .ok (.aload_n 1, 1) by decide +kernel) ?_
  refine fw_iconst (v := (0 : Int32)) (show decode _ _ = .ok (.iconst 0, 1) by decide +kernel) (by decide) ?_
  refine fw_aload_n (i := 0) 0 rfl (show decode _ _ = .ok (.aload_n 0, 1) by decide +kernel) ?_
  obtain ⟨n1, hs2, h_1⟩ := h
  refine fw_alen (show decode _ _ = .ok (.arraylength, 1) by decide +kernel) hs2 (by decide) (by decide) (by decide) (fun h_1 => absurd h_1 (by decide)) ?_
  refine fw_aload_n (i := 1) 1 rfl (show decode _ _ = .ok (.aload_n 1, 1) by decide +kernel) ?_
  obtain ⟨n3, hs4, h_2⟩ := h_1
  refine fw_alen (show decode _ _ = .ok (.arraylength, 1) by decide +kernel) hs4 (by decide) (by decide) (by decide) (fun h_2 => absurd h_2 (by decide)) ?_
  refine fw_mmin (idx := 288) (rest := [.int (0 : Int32), .ref p1, .int (0 : Int32), .ref p0]) (show decode _ _ = .ok (.invokestatic 288, 3) by decide +kernel) ⟨wd922, wd641, wd142, wd642⟩ (Nat.le_of_ble_eq_true rfl) ?_
  obtain ⟨hc5, hc6, hc7, hc8, hc9, n14, hc10, n15, hc11, hc12, hc13, h_3⟩ := h_2
  refine fw_copy (idx := 293) (rest := []) (show decode _ _ = .ok (.invokestatic 293, 3) by decide +kernel) ⟨wd1360, wd803, wd802, wd148⟩ hc5 hc10 hc6 hc11 hc7 hc8 hc9 hc12 hc13 (Nat.le_of_ble_eq_true rfl) ?_
  refine FW.nmM (fun M16 eM17 => ?_)
  have h_4 := h_3 M16 eM17
  exact fw_ret (v := none) .return_ (show decode _ _ = .ok (.return_, 1) by decide +kernel) ⟨rfl, rfl⟩ ⟨rfl, h_4⟩
def w_X0_become (p0 : Nat) (p1 : Nat) (M : fM) (φ : fM → Prop) : Prop := isO M p1 0 ∧ nm (mI M p1 0) fun x4 => isO M p0 0 ∧ st (wI M p0 0 x4) fun M9 => dR (mP M9 p1 1) fun y11 => dR (mP M9 p0 1) fun y13 => w_X10_copy y11 y13 M9 fun M15 => isO M15 p1 0 ∧ nm (mI M15 p1 2) fun x19 => isO M15 p0 0 ∧ st (wI M15 p0 2 x19) fun M24 => nm (mI M24 p1 3) fun x26 => st (wI M24 p0 3 x26) fun M28 => nm (mI M28 p1 4) fun x30 => isB x30 ∧ st (wI M28 p0 4 x30) fun M32 => φ M32
set_option maxRecDepth 100000 in
theorem s_X0_become {g : GT} {d : Nat} (hd : 2 ≤ d) {p0 : Nat} {p1 : Nat} {M : fM} {φ : fM → Prop} (h : w_X0_become p0 p1 M φ) : FC g mtX0_become d [.ref p0, .ref p1] M 0 0 (rV φ) := by
  obtain ⟨d, rfl⟩ : ∃ e, d = e + 1 := ⟨d - 1, by omega⟩
  unfold w_X0_become at h
  refine FC.intro (nL := 2) (by decide) rfl (Nat.le_of_ble_eq_true rfl) ?_
  show FW g mtX0_become (d + 1) 0 [(0, .ref p0), (1, .ref p1)] [] M 0 0 (rV φ)
  refine fw_aload_n (i := 0) 0 rfl (show decode _ _ = .ok (.aload_n 0, 1) by decide +kernel) ?_
  refine fw_aload_n (i := 1) 1 rfl (show decode _ _ = .ok (.aload_n 1, 1) by decide +kernel) ?_
  obtain ⟨⟨hr2, n1, hs3⟩, h_1⟩ := h
  refine fw_getI (kd := 0) (k := 0) (show decode _ _ = .ok (.getfield 9, 3) by decide +kernel) gf_X0_9 hr2 hs3 (Or.inl rfl) ?_
  refine fw_nmI (fun x4 ex5 => ?_)
  have h_2 := h_1 x4 ex5
  obtain ⟨⟨hr7, n6, hs8⟩, h_3⟩ := h_2
  refine fw_putI (kd := 0) (k := 0) (show decode _ _ = .ok (.putfield 9, 3) by decide +kernel) ⟨gf_X0_9, _, rfl, Or.inl rfl⟩ hr7 hs8 rfl ?_
  refine FW.nmM (fun M9 eM10 => ?_)
  have h_4 := h_3 M9 eM10
  refine fw_aload_n (i := 1) 1 rfl (show decode _ _ = .ok (.aload_n 1, 1) by decide +kernel) ?_
  refine fw_getP (kd := 0) (k := 1) (show decode _ _ = .ok (.getfield 15, 3) by decide +kernel) gf_X0_15 hr2 (mSw_I eM10 hs3) rfl ?_
  have h_5 := dR_e h_4
  obtain ⟨y11, hy12, h_6⟩ := h_5
  refine fw_deref hy12 ?_
  refine fw_aload_n (i := 0) 0 rfl (show decode _ _ = .ok (.aload_n 0, 1) by decide +kernel) ?_
  refine fw_getP (kd := 0) (k := 1) (show decode _ _ = .ok (.getfield 15, 3) by decide +kernel) gf_X0_15 hr7 (mSw_I eM10 hs8) rfl ?_
  have h_7 := dR_e h_6
  obtain ⟨y13, hy14, h_8⟩ := h_7
  refine fw_deref hy14 ?_
  refine fw_callSN (mt' := mtX10_copy) (mc := 0) (ms := 0) (As := [.ref y11, .ref y13]) (rest := []) 2 "OneStepMore" (show decode _ _ = .ok (.invokestatic 39, 3) by decide +kernel) ns_X0_39 rfl (Nat.le_of_ble_eq_true rfl) (s_X10_copy (d := d) (hd_le hd (by decide)) h_8) (by decide) (by decide) (kV (bc' := 0) (bs' := 0) (by decide) (by decide) (fun M15 h_9 => ?_))
  refine fw_aload_n (i := 0) 0 rfl (show decode _ _ = .ok (.aload_n 0, 1) by decide +kernel) ?_
  refine fw_aload_n (i := 1) 1 rfl (show decode _ _ = .ok (.aload_n 1, 1) by decide +kernel) ?_
  obtain ⟨⟨hr17, n16, hs18⟩, h_10⟩ := h_9
  refine fw_getI (kd := 0) (k := 2) (show decode _ _ = .ok (.getfield 25, 3) by decide +kernel) gf_X0_25 hr17 hs18 (Or.inl rfl) ?_
  refine fw_nmI (fun x19 ex20 => ?_)
  have h_11 := h_10 x19 ex20
  obtain ⟨⟨hr22, n21, hs23⟩, h_12⟩ := h_11
  refine fw_putI (kd := 0) (k := 2) (show decode _ _ = .ok (.putfield 25, 3) by decide +kernel) ⟨gf_X0_25, _, rfl, Or.inl rfl⟩ hr22 hs23 rfl ?_
  refine FW.nmM (fun M24 eM25 => ?_)
  have h_13 := h_12 M24 eM25
  refine fw_aload_n (i := 0) 0 rfl (show decode _ _ = .ok (.aload_n 0, 1) by decide +kernel) ?_
  refine fw_aload_n (i := 1) 1 rfl (show decode _ _ = .ok (.aload_n 1, 1) by decide +kernel) ?_
  refine fw_getI (kd := 0) (k := 3) (show decode _ _ = .ok (.getfield 28, 3) by decide +kernel) gf_X0_28 hr17 (mSw_I eM25 hs18) (Or.inl rfl) ?_
  refine fw_nmI (fun x26 ex27 => ?_)
  have h_14 := h_13 x26 ex27
  refine fw_putI (kd := 0) (k := 3) (show decode _ _ = .ok (.putfield 28, 3) by decide +kernel) ⟨gf_X0_28, _, rfl, Or.inl rfl⟩ hr22 (mSw_I eM25 hs23) rfl ?_
  refine FW.nmM (fun M28 eM29 => ?_)
  have h_15 := h_14 M28 eM29
  refine fw_aload_n (i := 0) 0 rfl (show decode _ _ = .ok (.aload_n 0, 1) by decide +kernel) ?_
  refine fw_aload_n (i := 1) 1 rfl (show decode _ _ = .ok (.aload_n 1, 1) by decide +kernel) ?_
  refine fw_getI (kd := 0) (k := 4) (show decode _ _ = .ok (.getfield 43, 3) by decide +kernel) gf_X0_43 hr17 (mSw_I eM29 (mSw_I eM25 hs18)) (Or.inr rfl) ?_
  refine fw_nmI (fun x30 ex31 => ?_)
  have h_16 := h_15 x30 ex31
  obtain ⟨hb34, h_17⟩ := h_16
  refine fw_putZ (kd := 0) (k := 4) (show decode _ _ = .ok (.putfield 43, 3) by decide +kernel) ⟨gf_X0_43, _, rfl, Or.inl rfl⟩ hr22 (mSw_I eM29 (mSw_I eM25 hs23)) rfl hb34 ?_
  refine FW.nmM (fun M32 eM33 => ?_)
  have h_18 := h_17 M32 eM33
  exact fw_ret (v := none) .return_ (show decode _ _ = .ok (.return_, 1) by decide +kernel) ⟨rfl, rfl⟩ ⟨rfl, h_18⟩
def w_X0_build (p0 : Nat) (p1 : Int32) (M : fM) (φ : fM → Prop) : Prop := isO M p0 0 ∧ st (wI M p0 0 p1) fun M4 => dR (mP M4 p0 1) fun y6 => w_J7_fill_53178 y6 (5 : Int32) M4 fun M8 => isO M8 p0 0 ∧ st (wI M8 p0 2 (0 : Int32)) fun M12 => st (wI M12 p0 3 (0 : Int32)) fun M14 => φ M14
set_option maxRecDepth 100000 in
theorem s_X0_build {g : GT} {d : Nat} (hd : 2 ≤ d) {p0 : Nat} {p1 : Int32} {M : fM} {φ : fM → Prop} (h : w_X0_build p0 p1 M φ) : FC g mtX0_build d [.ref p0, .int p1] M 0 0 (rV φ) := by
  obtain ⟨d, rfl⟩ : ∃ e, d = e + 1 := ⟨d - 1, by omega⟩
  unfold w_X0_build at h
  refine FC.intro (nL := 2) (by decide) rfl (Nat.le_of_ble_eq_true rfl) ?_
  show FW g mtX0_build (d + 1) 0 [(0, .ref p0), (1, .int p1)] [] M 0 0 (rV φ)
  refine fw_aload_n (i := 0) 0 rfl (show decode _ _ = .ok (.aload_n 0, 1) by decide +kernel) ?_
  refine fw_iload_n (i := 1) 1 rfl (show decode _ _ = .ok (.iload_n 1, 1) by decide +kernel) ?_
  obtain ⟨⟨hr2, n1, hs3⟩, h_1⟩ := h
  refine fw_putI (kd := 0) (k := 0) (show decode _ _ = .ok (.putfield 9, 3) by decide +kernel) ⟨gf_X0_9, _, rfl, Or.inl rfl⟩ hr2 hs3 rfl ?_
  refine FW.nmM (fun M4 eM5 => ?_)
  have h_2 := h_1 M4 eM5
  refine fw_aload_n (i := 0) 0 rfl (show decode _ _ = .ok (.aload_n 0, 1) by decide +kernel) ?_
  refine fw_getP (kd := 0) (k := 1) (show decode _ _ = .ok (.getfield 15, 3) by decide +kernel) gf_X0_15 hr2 (mSw_I eM5 hs3) rfl ?_
  have h_3 := dR_e h_2
  obtain ⟨y6, hy7, h_4⟩ := h_3
  refine fw_deref hy7 ?_
  refine fw_iconst (v := (5 : Int32)) (show decode _ _ = .ok (.iconst 5, 1) by decide +kernel) (by decide) ?_
  refine fw_callS (mt' := mtJ7_fill_53178) (mc := 0) (ms := 0) (As := [.ref y6, .int (5 : Int32)]) (rest := []) 2 (show decode _ _ = .ok (.invokestatic 19, 3) by decide +kernel) cs_X0_19 rfl (Nat.le_of_ble_eq_true rfl) (s_J7_fill_53178 (d := d) (hd_le hd (by decide)) h_4) (by decide) (by decide) (kV (bc' := 0) (bs' := 0) (by decide) (by decide) (fun M8 h_5 => ?_))
  refine fw_aload_n (i := 0) 0 rfl (show decode _ _ = .ok (.aload_n 0, 1) by decide +kernel) ?_
  refine fw_iconst (v := (0 : Int32)) (show decode _ _ = .ok (.iconst 0, 1) by decide +kernel) (by decide) ?_
  obtain ⟨⟨hr10, n9, hs11⟩, h_6⟩ := h_5
  refine fw_putI (kd := 0) (k := 2) (show decode _ _ = .ok (.putfield 25, 3) by decide +kernel) ⟨gf_X0_25, _, rfl, Or.inl rfl⟩ hr10 hs11 rfl ?_
  refine FW.nmM (fun M12 eM13 => ?_)
  have h_7 := h_6 M12 eM13
  refine fw_aload_n (i := 0) 0 rfl (show decode _ _ = .ok (.aload_n 0, 1) by decide +kernel) ?_
  refine fw_iconst (v := (0 : Int32)) (show decode _ _ = .ok (.iconst 0, 1) by decide +kernel) (by decide) ?_
  refine fw_putI (kd := 0) (k := 3) (show decode _ _ = .ok (.putfield 28, 3) by decide +kernel) ⟨gf_X0_28, _, rfl, Or.inl rfl⟩ hr10 (mSw_I eM13 hs11) rfl ?_
  refine FW.nmM (fun M14 eM15 => ?_)
  have h_8 := h_7 M14 eM15
  exact fw_ret (v := none) .return_ (show decode _ _ = .ok (.return_, 1) by decide +kernel) ⟨rfl, rfl⟩ ⟨rfl, h_8⟩
def w_X0_hasStep (p0 : Nat) (p1 : Int32) (M : fM) (φ : Int32 → fM → Prop) : Prop := iF (p1 < (1 : Int32)) (φ (0 : Int32) M) (isO M p0 0 ∧ iF ((mI M p0 0) < p1) (φ (0 : Int32) M) (φ (1 : Int32) M))
set_option maxRecDepth 100000 in
theorem s_X0_hasStep {g : GT} {d : Nat} (hd : 1 ≤ d) {p0 : Nat} {p1 : Int32} {M : fM} {φ : Int32 → fM → Prop} (h : w_X0_hasStep p0 p1 M φ) : FC g mtX0_hasStep d [.ref p0, .int p1] M 0 0 (rI φ) := by
  obtain ⟨d, rfl⟩ : ∃ e, d = e + 1 := ⟨d - 1, by omega⟩
  unfold w_X0_hasStep at h
  refine FC.intro (nL := 2) (by decide) rfl (Nat.le_of_ble_eq_true rfl) ?_
  show FW g mtX0_hasStep (d + 1) 0 [(0, .ref p0), (1, .int p1)] [] M 0 0 (rI φ)
  refine fw_iload_n (i := 1) 1 rfl (show decode _ _ = .ok (.iload_n 1, 1) by decide +kernel) ?_
  refine fw_iconst (v := (1 : Int32)) (show decode _ _ = .ok (.iconst 1, 1) by decide +kernel) (by decide) ?_
  refine fw_icmp_lt 17 (show decode _ _ = .ok (.if_icmp .lt 15, 3) by decide +kernel) (by decide) (fun hc5 => ?_) (fun hc5 => ?_)
  · have h_1 := ipos hc5 h
    refine fw_iconst (v := (0 : Int32)) (show decode _ _ = .ok (.iconst 0, 1) by decide +kernel) (by decide) ?_
    exact fw_ret (v := some (.int (0 : Int32))) .ireturn (show decode _ _ = .ok (.ireturn, 1) by decide +kernel) ⟨rfl, Or.inr (Or.inl ⟨rfl, rfl⟩)⟩ ⟨_, rfl, h_1⟩
  · have h_2 := ineg hc5 h
    refine fw_iload_n (i := 1) 1 rfl (show decode _ _ = .ok (.iload_n 1, 1) by decide +kernel) ?_
    refine fw_aload_n (i := 0) 0 rfl (show decode _ _ = .ok (.aload_n 0, 1) by decide +kernel) ?_
    obtain ⟨⟨hr2, n1, hs3⟩, h_3⟩ := h_2
    refine fw_getI (kd := 0) (k := 0) (show decode _ _ = .ok (.getfield 9, 3) by decide +kernel) gf_X0_9 hr2 hs3 (Or.inl rfl) ?_
    refine fw_icmp_gt 17 (show decode _ _ = .ok (.if_icmp .gt 7, 3) by decide +kernel) (by decide) (fun hc4 => ?_) (fun hc4 => ?_)
    · have h_4 := ipos hc4 h_3
      refine fw_iconst (v := (0 : Int32)) (show decode _ _ = .ok (.iconst 0, 1) by decide +kernel) (by decide) ?_
      exact fw_ret (v := some (.int (0 : Int32))) .ireturn (show decode _ _ = .ok (.ireturn, 1) by decide +kernel) ⟨rfl, Or.inr (Or.inl ⟨rfl, rfl⟩)⟩ ⟨_, rfl, h_4⟩
    · have h_5 := ineg hc4 h_3
      refine fw_iconst (v := (1 : Int32)) (show decode _ _ = .ok (.iconst 1, 1) by decide +kernel) (by decide) ?_
      refine fw_goto 18 (show decode _ _ = .ok (.goto 4, 3) by decide +kernel) (by decide) ?_
      exact fw_ret (v := some (.int (1 : Int32))) .ireturn (show decode _ _ = .ok (.ireturn, 1) by decide +kernel) ⟨rfl, Or.inr (Or.inl ⟨rfl, rfl⟩)⟩ ⟨_, rfl, h_5⟩
def w_X0_hasMark (p0 : Nat) (p1 : Int32) (M : fM) (φ : Int32 → fM → Prop) : Prop := isO M p0 0 ∧ w_X0_hasStep p0 p1 M fun x5 M1 => iF (x5 = 0) (φ (0 : Int32) M1) (isO M1 p0 0 ∧ iF ((((mI M1 p0 2) >>> (p1 &&& 31)) &&& (1 : Int32)) = (1 : Int32)) (φ (1 : Int32) M1) (φ (0 : Int32) M1))
set_option maxRecDepth 100000 in
theorem s_X0_hasMark {g : GT} {d : Nat} (hd : 2 ≤ d) {p0 : Nat} {p1 : Int32} {M : fM} {φ : Int32 → fM → Prop} (h : w_X0_hasMark p0 p1 M φ) : FC g mtX0_hasMark d [.ref p0, .int p1] M 0 0 (rI φ) := by
  obtain ⟨d, rfl⟩ : ∃ e, d = e + 1 := ⟨d - 1, by omega⟩
  unfold w_X0_hasMark at h
  refine FC.intro (nL := 2) (by decide) rfl (Nat.le_of_ble_eq_true rfl) ?_
  show FW g mtX0_hasMark (d + 1) 0 [(0, .ref p0), (1, .int p1)] [] M 0 0 (rI φ)
  refine fw_aload_n (i := 0) 0 rfl (show decode _ _ = .ok (.aload_n 0, 1) by decide +kernel) ?_
  refine fw_iload_n (i := 1) 1 rfl (show decode _ _ = .ok (.iload_n 1, 1) by decide +kernel) ?_
  obtain ⟨⟨hr3, n2, hs4⟩, h_1⟩ := h
  refine fw_callV (mt' := mtX0_hasStep) (mc := 0) (ms := 0) (As := [.int p1]) (rest := []) 1 0 n2 (show decode _ _ = .ok (.invokevirtual 31, 3) by decide +kernel) cv_X0_31 ⟨_, rfl, rfl⟩ hr3 hs4 rfl (Nat.le_of_ble_eq_true rfl) (s_X0_hasStep (d := d) (hd_le hd (by decide)) h_1) (by decide) (by decide) (kI (bc' := 0) (bs' := 0) (by decide) (by decide) (fun x5 M1 h_2 => ?_))
  refine fw_if_eq 24 (show decode _ _ = .ok (.ifCond .eq 19, 3) by decide +kernel) (by decide) (fun hc10 => ?_) (fun hc10 => ?_)
  · have h_3 := ipos hc10 h_2
    refine fw_iconst (v := (0 : Int32)) (show decode _ _ = .ok (.iconst 0, 1) by decide +kernel) (by decide) ?_
    exact fw_ret (v := some (.int (0 : Int32))) .ireturn (show decode _ _ = .ok (.ireturn, 1) by decide +kernel) ⟨rfl, Or.inr (Or.inl ⟨rfl, rfl⟩)⟩ ⟨_, rfl, h_3⟩
  · have h_4 := ineg hc10 h_2
    refine fw_aload_n (i := 0) 0 rfl (show decode _ _ = .ok (.aload_n 0, 1) by decide +kernel) ?_
    obtain ⟨⟨hr7, n6, hs8⟩, h_5⟩ := h_4
    refine fw_getI (kd := 0) (k := 2) (show decode _ _ = .ok (.getfield 25, 3) by decide +kernel) gf_X0_25 hr7 hs8 (Or.inl rfl) ?_
    refine fw_iload_n (i := 1) 1 rfl (show decode _ _ = .ok (.iload_n 1, 1) by decide +kernel) ?_
    refine fw_ishr (show decode _ _ = .ok (.ishr, 1) by decide +kernel) ?_
    refine fw_iconst (v := (1 : Int32)) (show decode _ _ = .ok (.iconst 1, 1) by decide +kernel) (by decide) ?_
    refine fw_iand (show decode _ _ = .ok (.iand, 1) by decide +kernel) ?_
    refine fw_iconst (v := (1 : Int32)) (show decode _ _ = .ok (.iconst 1, 1) by decide +kernel) (by decide) ?_
    refine fw_icmp_ne 24 (show decode _ _ = .ok (.if_icmp .ne 7, 3) by decide +kernel) (by decide) (fun hc9 => ?_) (fun hc9 => ?_)
    · have h_6 := ineg hc9 h_5
      refine fw_iconst (v := (0 : Int32)) (show decode _ _ = .ok (.iconst 0, 1) by decide +kernel) (by decide) ?_
      exact fw_ret (v := some (.int (0 : Int32))) .ireturn (show decode _ _ = .ok (.ireturn, 1) by decide +kernel) ⟨rfl, Or.inr (Or.inl ⟨rfl, rfl⟩)⟩ ⟨_, rfl, h_6⟩
    · have h_7 := ipos hc9 h_5
      refine fw_iconst (v := (1 : Int32)) (show decode _ _ = .ok (.iconst 1, 1) by decide +kernel) (by decide) ?_
      refine fw_goto 25 (show decode _ _ = .ok (.goto 4, 3) by decide +kernel) (by decide) ?_
      exact fw_ret (v := some (.int (1 : Int32))) .ireturn (show decode _ _ = .ok (.ireturn, 1) by decide +kernel) ⟨rfl, Or.inr (Or.inl ⟨rfl, rfl⟩)⟩ ⟨_, rfl, h_7⟩
def w_X10_cell (p0 : Nat) (p1 : Int32) (M : fM) (φ : Int32 → fM → Prop) : Prop := iF (p1 < 0) (φ (0 : Int32) M) (lenA M p0 12 fun n1 => iF ((nI n1) ≤ p1) (φ (0 : Int32) M) (inA M p0 12 p1 ∧ φ (mI M p0 (ix p1)) M))
set_option maxRecDepth 100000 in
theorem s_X10_cell {g : GT} {d : Nat} (hd : 1 ≤ d) {p0 : Nat} {p1 : Int32} {M : fM} {φ : Int32 → fM → Prop} (h : w_X10_cell p0 p1 M φ) : FC g mtX10_cell d [.ref p0, .int p1] M 0 0 (rI φ) := by
  obtain ⟨d, rfl⟩ : ∃ e, d = e + 1 := ⟨d - 1, by omega⟩
  unfold w_X10_cell at h
  refine FC.intro (nL := 2) (by decide) rfl (Nat.le_of_ble_eq_true rfl) ?_
  show FW g mtX10_cell (d + 1) 0 [(0, .ref p0), (1, .int p1)] [] M 0 0 (rI φ)
  refine fw_iload_n (i := 1) 1 rfl (show decode _ _ = .ok (.iload_n 1, 1) by decide +kernel) ?_
  refine fw_if_lt 16 (show decode _ _ = .ok (.ifCond .lt 15, 3) by decide +kernel) (by decide) (fun hc7 => ?_) (fun hc7 => ?_)
  · have h_1 := ipos hc7 h
    refine fw_iconst (v := (0 : Int32)) (show decode _ _ = .ok (.iconst 0, 1) by decide +kernel) (by decide) ?_
    exact fw_ret (v := some (.int (0 : Int32))) .ireturn (show decode _ _ = .ok (.ireturn, 1) by decide +kernel) ⟨rfl, Or.inl rfl⟩ ⟨_, rfl, h_1⟩
  · have h_2 := ineg hc7 h
    refine fw_iload_n (i := 1) 1 rfl (show decode _ _ = .ok (.iload_n 1, 1) by decide +kernel) ?_
    refine fw_aload_n (i := 0) 0 rfl (show decode _ _ = .ok (.aload_n 0, 1) by decide +kernel) ?_
    obtain ⟨n1, hs2, h_3⟩ := h_2
    refine fw_alen (show decode _ _ = .ok (.arraylength, 1) by decide +kernel) hs2 (by decide) (by decide) (by decide) (fun h_3 => absurd h_3 (by decide)) ?_
    refine fw_icmp_ge 16 (show decode _ _ = .ok (.if_icmp .ge 9, 3) by decide +kernel) (by decide) (fun hc6 => ?_) (fun hc6 => ?_)
    · have h_4 := ipos hc6 h_3
      refine fw_iconst (v := (0 : Int32)) (show decode _ _ = .ok (.iconst 0, 1) by decide +kernel) (by decide) ?_
      exact fw_ret (v := some (.int (0 : Int32))) .ireturn (show decode _ _ = .ok (.ireturn, 1) by decide +kernel) ⟨rfl, Or.inl rfl⟩ ⟨_, rfl, h_4⟩
    · have h_5 := ineg hc6 h_3
      refine fw_aload_n (i := 0) 0 rfl (show decode _ _ = .ok (.aload_n 0, 1) by decide +kernel) ?_
      refine fw_iload_n (i := 1) 1 rfl (show decode _ _ = .ok (.iload_n 1, 1) by decide +kernel) ?_
      obtain ⟨⟨n3, hs4, hi5⟩, h_6⟩ := h_5
      refine fw_iald (show decode _ _ = .ok (.iaload, 1) by decide +kernel) hs4 hi5 ?_
      refine fw_goto 17 (show decode _ _ = .ok (.goto 4, 3) by decide +kernel) (by decide) ?_
      exact fw_ret (v := some (.int (mI M p0 (ix p1)))) .ireturn (show decode _ _ = .ok (.ireturn, 1) by decide +kernel) ⟨rfl, Or.inl rfl⟩ ⟨_, rfl, h_6⟩
def w_X0_highOf (p0 : Nat) (p1 : Int32) (M : fM) (φ : Int32 → fM → Prop) : Prop := isO M p0 0 ∧ dR (mP M p0 1) fun y4 => w_X10_cell y4 p1 M fun x7 M6 => φ x7 M6
set_option maxRecDepth 100000 in
theorem s_X0_highOf {g : GT} {d : Nat} (hd : 2 ≤ d) {p0 : Nat} {p1 : Int32} {M : fM} {φ : Int32 → fM → Prop} (h : w_X0_highOf p0 p1 M φ) : FC g mtX0_highOf d [.ref p0, .int p1] M 0 0 (rI φ) := by
  obtain ⟨d, rfl⟩ : ∃ e, d = e + 1 := ⟨d - 1, by omega⟩
  unfold w_X0_highOf at h
  refine FC.intro (nL := 2) (by decide) rfl (Nat.le_of_ble_eq_true rfl) ?_
  show FW g mtX0_highOf (d + 1) 0 [(0, .ref p0), (1, .int p1)] [] M 0 0 (rI φ)
  refine fw_aload_n (i := 0) 0 rfl (show decode _ _ = .ok (.aload_n 0, 1) by decide +kernel) ?_
  obtain ⟨⟨hr2, n1, hs3⟩, h_1⟩ := h
  refine fw_getP (kd := 0) (k := 1) (show decode _ _ = .ok (.getfield 15, 3) by decide +kernel) gf_X0_15 hr2 hs3 rfl ?_
  have h_2 := dR_e h_1
  obtain ⟨y4, hy5, h_3⟩ := h_2
  refine fw_deref hy5 ?_
  refine fw_iload_n (i := 1) 1 rfl (show decode _ _ = .ok (.iload_n 1, 1) by decide +kernel) ?_
  refine fw_callSN (mt' := mtX10_cell) (mc := 0) (ms := 0) (As := [.ref y4, .int p1]) (rest := []) 2 "OneStepMore" (show decode _ _ = .ok (.invokestatic 35, 3) by decide +kernel) ns_X0_35 rfl (Nat.le_of_ble_eq_true rfl) (s_X10_cell (d := d) (hd_le hd (by decide)) h_3) (by decide) (by decide) (kI (bc' := 0) (bs' := 0) (by decide) (by decide) (fun x7 M6 h_4 => ?_))
  exact fw_ret (v := some (.int x7)) .ireturn (show decode _ _ = .ok (.ireturn, 1) by decide +kernel) ⟨rfl, Or.inl rfl⟩ ⟨_, rfl, h_4⟩
def w_X0_init (p0 : Nat) (M : fM) (φ : fM → Prop) : Prop := isO M p0 0 ∧ st (wI M p0 0 (12 : Int32)) fun M4 => nw M4 12 (ix (15 : Int32)) fun q6 M8 => st (wP M8 p0 1 (some q6)) fun M10 => dR (mP M10 p0 1) fun y12 => w_J7_fill_53178 y12 (5 : Int32) M10 fun M14 => φ M14
set_option maxRecDepth 100000 in
theorem s_X0_init {g : GT} {d : Nat} (hd : 2 ≤ d) {p0 : Nat} {M : fM} {φ : fM → Prop} (h : w_X0_init p0 M φ) : FC g mtX0_init d [.ref p0] M 1 15 (rV φ) := by
  obtain ⟨d, rfl⟩ : ∃ e, d = e + 1 := ⟨d - 1, by omega⟩
  unfold w_X0_init at h
  refine FC.intro (nL := 1) (by decide) rfl (Nat.le_of_ble_eq_true rfl) ?_
  show FW g mtX0_init (d + 1) 0 [(0, .ref p0)] [] M 1 15 (rV φ)
  refine fw_aload_n (i := 0) 0 rfl (show decode _ _ = .ok (.aload_n 0, 1) by decide +kernel) ?_
  refine fw_objInit (idx := 3) (rest := []) (show decode _ _ = .ok (.invokespecial 3, 3) by decide +kernel) ⟨wd194, wd155, wd156⟩ (Nat.le_of_ble_eq_true rfl) ?_
  refine fw_aload_n (i := 0) 0 rfl (show decode _ _ = .ok (.aload_n 0, 1) by decide +kernel) ?_
  refine fw_bipush (v := (12 : Int32)) (show decode _ _ = .ok (.bipush 12, 2) by decide +kernel) (by decide) ?_
  obtain ⟨⟨hr2, n1, hs3⟩, h_1⟩ := h
  refine fw_putI (kd := 0) (k := 0) (show decode _ _ = .ok (.putfield 9, 3) by decide +kernel) ⟨gf_X0_9, _, rfl, Or.inl rfl⟩ hr2 hs3 rfl ?_
  refine FW.nmM (fun M4 eM5 => ?_)
  have h_2 := h_1 M4 eM5
  refine fw_aload_n (i := 0) 0 rfl (show decode _ _ = .ok (.aload_n 0, 1) by decide +kernel) ?_
  refine fw_bipush (v := (15 : Int32)) (show decode _ _ = .ok (.bipush 15, 2) by decide +kernel) (by decide) ?_
  refine fw_newa 12 (show decode _ _ = .ok (.newarray .int, 2) by decide +kernel) (by decide) (by decide) (by decide) (by decide) (by decide) wd179 ?_
  refine FW.room (bc' := 0) (bs' := 0) (by decide) (by decide) ?_
  refine FW.nmN (fun q6 eq7 => ?_)
  refine FW.nmM (fun M8 eM9 => ?_)
  have h_3 := h_2 q6 M8 eq7 eM9
  refine fw_putP (x := (some q6)) (kd := 0) (k := 1) (show decode _ _ = .ok (.putfield 15, 3) by decide +kernel) ⟨gf_X0_15, _, rfl, Or.inr ⟨rfl, rfl, rfl⟩⟩ hr2 (mSw_N eM9 (mSw_I eM5 hs3)) rfl ?_
  refine FW.nmM (fun M10 eM11 => ?_)
  have h_4 := h_3 M10 eM11
  refine fw_aload_n (i := 0) 0 rfl (show decode _ _ = .ok (.aload_n 0, 1) by decide +kernel) ?_
  refine fw_getP (kd := 0) (k := 1) (show decode _ _ = .ok (.getfield 15, 3) by decide +kernel) gf_X0_15 hr2 (mSw_P eM11 (mSw_N eM9 (mSw_I eM5 hs3))) rfl ?_
  have h_5 := dR_e h_4
  obtain ⟨y12, hy13, h_6⟩ := h_5
  refine fw_deref hy13 ?_
  refine fw_iconst (v := (5 : Int32)) (show decode _ _ = .ok (.iconst 5, 1) by decide +kernel) (by decide) ?_
  refine fw_callS (mt' := mtJ7_fill_53178) (mc := 0) (ms := 0) (As := [.ref y12, .int (5 : Int32)]) (rest := []) 2 (show decode _ _ = .ok (.invokestatic 19, 3) by decide +kernel) cs_X0_19 rfl (Nat.le_of_ble_eq_true rfl) (s_J7_fill_53178 (d := d) (hd_le hd (by decide)) h_6) (by decide) (by decide) (kV (bc' := 0) (bs' := 0) (by decide) (by decide) (fun M14 h_7 => ?_))
  exact fw_ret (v := none) .return_ (show decode _ _ = .ok (.return_, 1) by decide +kernel) ⟨rfl, rfl⟩ ⟨rfl, h_7⟩
def w_X5_houseOf (p0 : Nat) (p1 : Int32) (M : fM) (φ : Option Nat → fM → Prop) : Prop := iF (p1 < 0) (φ none M) (isO M p0 5 ∧ dR (mP M p0 0) fun y4 => lenA M y4 15 fun n6 => iF ((nI n6) ≤ p1) (φ none M) (dR (mP M p0 0) fun y8 => inA M y8 15 p1 ∧ dR (mP M y8 (ix p1)) fun y13 => φ (some y13) M))
set_option maxRecDepth 100000 in
theorem s_X5_houseOf {g : GT} {d : Nat} (hd : 1 ≤ d) {p0 : Nat} {p1 : Int32} {M : fM} {φ : Option Nat → fM → Prop} (h : w_X5_houseOf p0 p1 M φ) : FC g mtX5_houseOf d [.ref p0, .int p1] M 0 0 (rP φ) := by
  obtain ⟨d, rfl⟩ : ∃ e, d = e + 1 := ⟨d - 1, by omega⟩
  unfold w_X5_houseOf at h
  refine FC.intro (nL := 2) (by decide) rfl (Nat.le_of_ble_eq_true rfl) ?_
  show FW g mtX5_houseOf (d + 1) 0 [(0, .ref p0), (1, .int p1)] [] M 0 0 (rP φ)
  refine fw_iload_n (i := 1) 1 rfl (show decode _ _ = .ok (.iload_n 1, 1) by decide +kernel) ?_
  refine fw_if_lt 22 (show decode _ _ = .ok (.ifCond .lt 21, 3) by decide +kernel) (by decide) (fun hc16 => ?_) (fun hc16 => ?_)
  · have h_1 := ipos hc16 h
    refine fw_nullq (show decode _ _ = .ok (.aconst_null, 1) by decide +kernel) ?_
    exact fw_retq (x := none) (show decode _ _ = .ok (.areturn, 1) by decide +kernel) ⟨_, rfl, Or.inl ⟨_, rfl⟩⟩ ⟨_, rfl, h_1⟩
  · have h_2 := ineg hc16 h
    refine fw_iload_n (i := 1) 1 rfl (show decode _ _ = .ok (.iload_n 1, 1) by decide +kernel) ?_
    refine fw_aload_n (i := 0) 0 rfl (show decode _ _ = .ok (.aload_n 0, 1) by decide +kernel) ?_
    obtain ⟨⟨hr2, n1, hs3⟩, h_3⟩ := h_2
    refine fw_getP (kd := 5) (k := 0) (show decode _ _ = .ok (.getfield 11, 3) by decide +kernel) gf_X5_11 hr2 hs3 rfl ?_
    have h_4 := dR_e h_3
    obtain ⟨y4, hy5, h_5⟩ := h_4
    refine fw_deref hy5 ?_
    obtain ⟨n6, hs7, h_6⟩ := h_5
    refine fw_alen (show decode _ _ = .ok (.arraylength, 1) by decide +kernel) hs7 (by decide) (by decide) (by decide) (fun h_6 => absurd h_6 (by decide)) ?_
    refine fw_icmp_ge 22 (show decode _ _ = .ok (.if_icmp .ge 12, 3) by decide +kernel) (by decide) (fun hc15 => ?_) (fun hc15 => ?_)
    · have h_7 := ipos hc15 h_6
      refine fw_nullq (show decode _ _ = .ok (.aconst_null, 1) by decide +kernel) ?_
      exact fw_retq (x := none) (show decode _ _ = .ok (.areturn, 1) by decide +kernel) ⟨_, rfl, Or.inl ⟨_, rfl⟩⟩ ⟨_, rfl, h_7⟩
    · have h_8 := ineg hc15 h_6
      refine fw_aload_n (i := 0) 0 rfl (show decode _ _ = .ok (.aload_n 0, 1) by decide +kernel) ?_
      refine fw_getP (kd := 5) (k := 0) (show decode _ _ = .ok (.getfield 11, 3) by decide +kernel) gf_X5_11 hr2 hs3 rfl ?_
      have h_9 := dR_e h_8
      obtain ⟨y8, hy9, h_10⟩ := h_9
      refine fw_deref hy9 ?_
      refine fw_iload_n (i := 1) 1 rfl (show decode _ _ = .ok (.iload_n 1, 1) by decide +kernel) ?_
      obtain ⟨⟨n10, hs11, hi12⟩, h_11⟩ := h_10
      refine fw_aald (kd := 15) (show decode _ _ = .ok (.aaload, 1) by decide +kernel) (by decide) hs11 hi12 ?_
      have h_12 := dR_e h_11
      obtain ⟨y13, hy14, h_13⟩ := h_12
      refine fw_deref hy14 ?_
      refine fw_goto 23 (show decode _ _ = .ok (.goto 4, 3) by decide +kernel) (by decide) ?_
      exact fw_retq (x := (some y13)) (show decode _ _ = .ok (.areturn, 1) by decide +kernel) ⟨_, rfl, Or.inl ⟨_, rfl⟩⟩ ⟨_, rfl, h_13⟩
def b_X5_toldHouses_4 (K4 : Nat → Int32 → Int32 → fM → Prop) (φ : Int32 → fM → Prop) (p0 : Nat) (p1 : Int32) (p2 : Int32) (M : fM) : Prop := iF ((4 : Int32) ≤ p2) (φ p1 M) (isO M p0 5 ∧ w_X5_houseOf p0 p2 M fun o5 M1 => gN o5 (fun y6 => isO M1 y6 0 ∧ iF ((mI M1 y6 4) = 0) (nm (p2 + (1 : Int32)) fun x11 => K4 p0 p1 x11 M1) (nm (p1 ||| ((1 : Int32) <<< (p2 &&& 31))) fun x13 => nm (p2 + (1 : Int32)) fun x15 => K4 p0 x13 x15 M1)) (nm (p2 + (1 : Int32)) fun x18 => K4 p0 p1 x18 M1))
def l_X5_toldHouses_4 (φ : Int32 → fM → Prop) : Nat → Nat → Int32 → Int32 → fM → Prop
  | 0, _, _, _, _ => False
  | n + 1, p0, p1, p2, M => b_X5_toldHouses_4 (l_X5_toldHouses_4 φ n) φ p0 p1 p2 M
set_option maxRecDepth 100000 in
theorem sb_X5_toldHouses_4 {g : GT} {d : Nat} (hd : 2 ≤ d + 1) {K4 : Nat → Int32 → Int32 → fM → Prop} {φ : Int32 → fM → Prop} (hK4 : ∀ (p0 : Nat) (p1 : Int32) (p2 : Int32) (M : fM), K4 p0 p1 p2 M → FW g mtX5_toldHouses (d + 1) 4 [(0, .ref p0), (1, .int p1), (2, .int p2)] [] M 0 0 (rI φ)) {p0 : Nat} {p1 : Int32} {p2 : Int32} {M : fM} (h : b_X5_toldHouses_4 K4 φ p0 p1 p2 M) : FW g mtX5_toldHouses (d + 1) 4 [(0, .ref p0), (1, .int p1), (2, .int p2)] [] M 0 0 (rI φ) := by
  unfold b_X5_toldHouses_4 at h
  refine fw_iload_n (i := 2) 2 rfl (show decode _ _ = .ok (.iload_n 2, 1) by decide +kernel) ?_
  refine fw_iconst (v := (4 : Int32)) (show decode _ _ = .ok (.iconst 4, 1) by decide +kernel) (by decide) ?_
  refine fw_icmp_ge 38 (show decode _ _ = .ok (.if_icmp .ge 32, 3) by decide +kernel) (by decide) (fun hc20 => ?_) (fun hc20 => ?_)
  · have h_1 := ipos hc20 h
    refine fw_iload_n (i := 1) 1 rfl (show decode _ _ = .ok (.iload_n 1, 1) by decide +kernel) ?_
    exact fw_ret (v := some (.int p1)) .ireturn (show decode _ _ = .ok (.ireturn, 1) by decide +kernel) ⟨rfl, Or.inl rfl⟩ ⟨_, rfl, h_1⟩
  · have h_2 := ineg hc20 h
    refine fw_aload_n (i := 0) 0 rfl (show decode _ _ = .ok (.aload_n 0, 1) by decide +kernel) ?_
    refine fw_iload_n (i := 2) 2 rfl (show decode _ _ = .ok (.iload_n 2, 1) by decide +kernel) ?_
    obtain ⟨⟨hr3, n2, hs4⟩, h_3⟩ := h_2
    refine fw_callV (mt' := mtX5_houseOf) (mc := 0) (ms := 0) (As := [.int p2]) (rest := []) 1 5 n2 (show decode _ _ = .ok (.invokevirtual 59, 3) by decide +kernel) cv_X5_59 ⟨_, rfl, rfl⟩ hr3 hs4 rfl (Nat.le_of_ble_eq_true rfl) (s_X5_houseOf (d := d) (hd_le hd (by decide)) h_3) (by decide) (by decide) (kP (bc' := 0) (bs' := 0) (by decide) (by decide) (fun o5 M1 h_4 => ?_))
    refine fw_astoreq_n (i := 3) (ls' := [(3, fr o5), (0, .ref p0), (1, .int p1), (2, .int p2)]) (show decode _ _ = .ok (.astore_n 3, 1) by decide +kernel) (by decide) rfl ?_
    refine fw_aloadq_n (i := 3) 0 rfl (show decode _ _ = .ok (.aload_n 3, 1) by decide +kernel) ?_
    refine fw_ifnull (x := o5) 32 (show decode _ _ = .ok (.ifnull 16, 3) by decide +kernel) (by decide) (fun hy7 => ?_) (fun y6 hy7 => ?_)
    · have h_5 := gN_n hy7 h_4
      subst hy7
      obtain ⟨x18, ex19⟩ : ∃ y : Int32, y = p2 + (1 : Int32) := ⟨_, rfl⟩
      have h_6 := h_5 x18 ex19
      refine fw_iinc (i := 2) (x := p2) (v := x18) (ls' := [(2, .int x18), (3, fr none), (0, .ref p0), (1, .int p1)]) 3 rfl (show decode _ _ = .ok (.iinc 2 1, 3) by decide +kernel) (by rw [ex19]; rfl) (by decide) rfl ?_
      refine fw_goto 4 (show decode _ _ = .ok (.goto (-31), 3) by decide +kernel) (by decide) ?_
      refine FW.sub [2, 3, 0] (ls' := [(0, .ref p0), (1, .int p1), (2, .int x18)]) rfl ?_
      exact hK4 _ _ _ _ h_6
    · have h_7 := gN_s hy7 h_4
      subst hy7
      refine fw_aload_n (i := 3) 0 rfl (show decode _ _ = .ok (.aload_n 3, 1) by decide +kernel) ?_
      obtain ⟨⟨hr9, n8, hs10⟩, h_8⟩ := h_7
      refine fw_getI (kd := 0) (k := 4) (show decode _ _ = .ok (.getfield 71, 3) by decide +kernel) gf_X5_71 hr9 hs10 (Or.inr rfl) ?_
      refine fw_if_eq 32 (show decode _ _ = .ok (.ifCond .eq 9, 3) by decide +kernel) (by decide) (fun hc17 => ?_) (fun hc17 => ?_)
      · have h_9 := ipos hc17 h_8
        obtain ⟨x11, ex12⟩ : ∃ y : Int32, y = p2 + (1 : Int32) := ⟨_, rfl⟩
        have h_10 := h_9 x11 ex12
        refine fw_iinc (i := 2) (x := p2) (v := x11) (ls' := [(2, .int x11), (3, .ref y6), (0, .ref p0), (1, .int p1)]) 3 rfl (show decode _ _ = .ok (.iinc 2 1, 3) by decide +kernel) (by rw [ex12]; rfl) (by decide) rfl ?_
        refine fw_goto 4 (show decode _ _ = .ok (.goto (-31), 3) by decide +kernel) (by decide) ?_
        refine FW.sub [2, 3, 0] (ls' := [(0, .ref p0), (1, .int p1), (2, .int x11)]) rfl ?_
        exact hK4 _ _ _ _ h_10
      · have h_11 := ineg hc17 h_8
        refine fw_iload_n (i := 1) 2 rfl (show decode _ _ = .ok (.iload_n 1, 1) by decide +kernel) ?_
        refine fw_iconst (v := (1 : Int32)) (show decode _ _ = .ok (.iconst 1, 1) by decide +kernel) (by decide) ?_
        refine fw_iload_n (i := 2) 3 rfl (show decode _ _ = .ok (.iload_n 2, 1) by decide +kernel) ?_
        refine fw_ishl (show decode _ _ = .ok (.ishl, 1) by decide +kernel) ?_
        refine fw_ior (show decode _ _ = .ok (.ior, 1) by decide +kernel) ?_
        refine fw_nmI (fun x13 ex14 => ?_)
        have h_12 := h_11 x13 ex14
        refine fw_istore_n (i := 1) (ls' := [(1, .int x13), (3, .ref y6), (0, .ref p0), (2, .int p2)]) (show decode _ _ = .ok (.istore_n 1, 1) by decide +kernel) (by decide) rfl ?_
        obtain ⟨x15, ex16⟩ : ∃ y : Int32, y = p2 + (1 : Int32) := ⟨_, rfl⟩
        have h_13 := h_12 x15 ex16
        refine fw_iinc (i := 2) (x := p2) (v := x15) (ls' := [(2, .int x15), (1, .int x13), (3, .ref y6), (0, .ref p0)]) 3 rfl (show decode _ _ = .ok (.iinc 2 1, 3) by decide +kernel) (by rw [ex16]; rfl) (by decide) rfl ?_
        refine fw_goto 4 (show decode _ _ = .ok (.goto (-31), 3) by decide +kernel) (by decide) ?_
        refine FW.sub [3, 1, 0] (ls' := [(0, .ref p0), (1, .int x13), (2, .int x15)]) rfl ?_
        exact hK4 _ _ _ _ h_13
theorem sl_X5_toldHouses_4 {g : GT} {d : Nat} (hd : 2 ≤ d + 1) {φ : Int32 → fM → Prop} : ∀ (n : Nat) {p0 : Nat} {p1 : Int32} {p2 : Int32} {M : fM}, l_X5_toldHouses_4 φ n p0 p1 p2 M → FW g mtX5_toldHouses (d + 1) 4 [(0, .ref p0), (1, .int p1), (2, .int p2)] [] M 0 0 (rI φ)
  | 0 => fun h => h.elim
  | n + 1 => fun h => sb_X5_toldHouses_4 hd (fun _ _ _ _ h => sl_X5_toldHouses_4 hd n h) h
def w_X5_toldHouses (p0 : Nat) (M : fM) (φ : Int32 → fM → Prop) : Prop := ∃ n, l_X5_toldHouses_4 φ n p0 (0 : Int32) (0 : Int32) M
set_option maxRecDepth 100000 in
theorem s_X5_toldHouses {g : GT} {d : Nat} (hd : 2 ≤ d) {p0 : Nat} {M : fM} {φ : Int32 → fM → Prop} (h : w_X5_toldHouses p0 M φ) : FC g mtX5_toldHouses d [.ref p0] M 0 0 (rI φ) := by
  obtain ⟨d, rfl⟩ : ∃ e, d = e + 1 := ⟨d - 1, by omega⟩
  unfold w_X5_toldHouses at h
  refine FC.intro (nL := 4) (by decide) rfl (Nat.le_of_ble_eq_true rfl) ?_
  show FW g mtX5_toldHouses (d + 1) 0 [(0, .ref p0)] [] M 0 0 (rI φ)
  refine fw_iconst (v := (0 : Int32)) (show decode _ _ = .ok (.iconst 0, 1) by decide +kernel) (by decide) ?_
  refine fw_istore_n (i := 1) (ls' := [(1, .int (0 : Int32)), (0, .ref p0)]) (show decode _ _ = .ok (.istore_n 1, 1) by decide +kernel) (by decide) rfl ?_
  refine fw_iconst (v := (0 : Int32)) (show decode _ _ = .ok (.iconst 0, 1) by decide +kernel) (by decide) ?_
  refine fw_istore_n (i := 2) (ls' := [(2, .int (0 : Int32)), (1, .int (0 : Int32)), (0, .ref p0)]) (show decode _ _ = .ok (.istore_n 2, 1) by decide +kernel) (by decide) rfl ?_
  refine FW.sub [2, 1, 0] (ls' := [(0, .ref p0), (1, .int (0 : Int32)), (2, .int (0 : Int32))]) rfl ?_
  obtain ⟨nn, h_1⟩ := h
  exact sl_X5_toldHouses_4 hd nn h_1
def w_X5_isPerson (p0 : Nat) (p1 : Int32) (M : fM) (φ : Int32 → fM → Prop) : Prop := iF (p1 < 0) (φ (0 : Int32) M) (isO M p0 5 ∧ iF ((mI M p0 4) ≤ p1) (φ (0 : Int32) M) (φ (1 : Int32) M))
set_option maxRecDepth 100000 in
theorem s_X5_isPerson {g : GT} {d : Nat} (hd : 1 ≤ d) {p0 : Nat} {p1 : Int32} {M : fM} {φ : Int32 → fM → Prop} (h : w_X5_isPerson p0 p1 M φ) : FC g mtX5_isPerson d [.ref p0, .int p1] M 0 0 (rI φ) := by
  obtain ⟨d, rfl⟩ : ∃ e, d = e + 1 := ⟨d - 1, by omega⟩
  unfold w_X5_isPerson at h
  refine FC.intro (nL := 2) (by decide) rfl (Nat.le_of_ble_eq_true rfl) ?_
  show FW g mtX5_isPerson (d + 1) 0 [(0, .ref p0), (1, .int p1)] [] M 0 0 (rI φ)
  refine fw_iload_n (i := 1) 1 rfl (show decode _ _ = .ok (.iload_n 1, 1) by decide +kernel) ?_
  refine fw_if_lt 16 (show decode _ _ = .ok (.ifCond .lt 15, 3) by decide +kernel) (by decide) (fun hc5 => ?_) (fun hc5 => ?_)
  · have h_1 := ipos hc5 h
    refine fw_iconst (v := (0 : Int32)) (show decode _ _ = .ok (.iconst 0, 1) by decide +kernel) (by decide) ?_
    exact fw_ret (v := some (.int (0 : Int32))) .ireturn (show decode _ _ = .ok (.ireturn, 1) by decide +kernel) ⟨rfl, Or.inr (Or.inl ⟨rfl, rfl⟩)⟩ ⟨_, rfl, h_1⟩
  · have h_2 := ineg hc5 h
    refine fw_iload_n (i := 1) 1 rfl (show decode _ _ = .ok (.iload_n 1, 1) by decide +kernel) ?_
    refine fw_aload_n (i := 0) 0 rfl (show decode _ _ = .ok (.aload_n 0, 1) by decide +kernel) ?_
    obtain ⟨⟨hr2, n1, hs3⟩, h_3⟩ := h_2
    refine fw_getI (kd := 5) (k := 4) (show decode _ _ = .ok (.getfield 53, 3) by decide +kernel) gf_X5_53 hr2 hs3 (Or.inl rfl) ?_
    refine fw_icmp_ge 16 (show decode _ _ = .ok (.if_icmp .ge 7, 3) by decide +kernel) (by decide) (fun hc4 => ?_) (fun hc4 => ?_)
    · have h_4 := ipos hc4 h_3
      refine fw_iconst (v := (0 : Int32)) (show decode _ _ = .ok (.iconst 0, 1) by decide +kernel) (by decide) ?_
      exact fw_ret (v := some (.int (0 : Int32))) .ireturn (show decode _ _ = .ok (.ireturn, 1) by decide +kernel) ⟨rfl, Or.inr (Or.inl ⟨rfl, rfl⟩)⟩ ⟨_, rfl, h_4⟩
    · have h_5 := ineg hc4 h_3
      refine fw_iconst (v := (1 : Int32)) (show decode _ _ = .ok (.iconst 1, 1) by decide +kernel) (by decide) ?_
      refine fw_goto 17 (show decode _ _ = .ok (.goto 4, 3) by decide +kernel) (by decide) ?_
      exact fw_ret (v := some (.int (1 : Int32))) .ireturn (show decode _ _ = .ok (.ireturn, 1) by decide +kernel) ⟨rfl, Or.inr (Or.inl ⟨rfl, rfl⟩)⟩ ⟨_, rfl, h_5⟩
def w_X5_aboutPerson (p0 : Nat) (p1 : Int32) (M : fM) (φ : Int32 → fM → Prop) : Prop := nm (p1 / (10 : Int32)) fun x1 => nm (p1 % (10 : Int32)) fun x3 => isO M p0 5 ∧ w_X5_isPerson p0 x3 M fun x9 M5 => iF (x9 = 0) (φ (-2 : Int32) M5) (iF (x1 = (1 : Int32)) (isO M5 p0 5 ∧ dR (mP M5 p0 1) fun y13 => w_X10_cell y13 x3 M5 fun x16 M15 => φ x16 M15) (iF (x1 = (2 : Int32)) (isO M5 p0 5 ∧ dR (mP M5 p0 2) fun y21 => w_X10_cell y21 x3 M5 fun x24 M23 => φ x24 M23) (iF (x1 = (3 : Int32)) (isO M5 p0 5 ∧ dR (mP M5 p0 3) fun y29 => w_X10_cell y29 x3 M5 fun x32 M31 => φ x32 M31) (φ (-2 : Int32) M5))))
set_option maxRecDepth 100000 in
theorem s_X5_aboutPerson {g : GT} {d : Nat} (hd : 2 ≤ d) {p0 : Nat} {p1 : Int32} {M : fM} {φ : Int32 → fM → Prop} (h : w_X5_aboutPerson p0 p1 M φ) : FC g mtX5_aboutPerson d [.ref p0, .int p1] M 0 0 (rI φ) := by
  obtain ⟨d, rfl⟩ : ∃ e, d = e + 1 := ⟨d - 1, by omega⟩
  unfold w_X5_aboutPerson at h
  refine FC.intro (nL := 4) (by decide) rfl (Nat.le_of_ble_eq_true rfl) ?_
  show FW g mtX5_aboutPerson (d + 1) 0 [(0, .ref p0), (1, .int p1)] [] M 0 0 (rI φ)
  refine fw_iload_n (i := 1) 1 rfl (show decode _ _ = .ok (.iload_n 1, 1) by decide +kernel) ?_
  refine fw_bipush (v := (10 : Int32)) (show decode _ _ = .ok (.bipush 10, 2) by decide +kernel) (by decide) ?_
  refine fw_idiv (show decode _ _ = .ok (.idiv, 1) by decide +kernel) (by decide) ?_
  refine fw_nmI (fun x1 ex2 => ?_)
  have h_1 := h x1 ex2
  refine fw_istore_n (i := 2) (ls' := [(2, .int x1), (0, .ref p0), (1, .int p1)]) (show decode _ _ = .ok (.istore_n 2, 1) by decide +kernel) (by decide) rfl ?_
  refine fw_iload_n (i := 1) 2 rfl (show decode _ _ = .ok (.iload_n 1, 1) by decide +kernel) ?_
  refine fw_bipush (v := (10 : Int32)) (show decode _ _ = .ok (.bipush 10, 2) by decide +kernel) (by decide) ?_
  refine fw_irem (show decode _ _ = .ok (.irem, 1) by decide +kernel) (by decide) ?_
  refine fw_nmI (fun x3 ex4 => ?_)
  have h_2 := h_1 x3 ex4
  refine fw_istore_n (i := 3) (ls' := [(3, .int x3), (2, .int x1), (0, .ref p0), (1, .int p1)]) (show decode _ _ = .ok (.istore_n 3, 1) by decide +kernel) (by decide) rfl ?_
  refine fw_aload_n (i := 0) 2 rfl (show decode _ _ = .ok (.aload_n 0, 1) by decide +kernel) ?_
  refine fw_iload_n (i := 3) 0 rfl (show decode _ _ = .ok (.iload_n 3, 1) by decide +kernel) ?_
  obtain ⟨⟨hr7, n6, hs8⟩, h_3⟩ := h_2
  refine fw_callV (mt' := mtX5_isPerson) (mc := 0) (ms := 0) (As := [.int x3]) (rest := []) 1 5 n6 (show decode _ _ = .ok (.invokevirtual 99, 3) by decide +kernel) cv_X5_99 ⟨_, rfl, rfl⟩ hr7 hs8 rfl (Nat.le_of_ble_eq_true rfl) (s_X5_isPerson (d := d) (hd_le hd (by decide)) h_3) (by decide) (by decide) (kI (bc' := 0) (bs' := 0) (by decide) (by decide) (fun x9 M5 h_4 => ?_))
  refine fw_if_ne 21 (show decode _ _ = .ok (.ifCond .ne 6, 3) by decide +kernel) (by decide) (fun hc36 => ?_) (fun hc36 => ?_)
  · have h_5 := ineg hc36 h_4
    refine fw_iload_n (i := 2) 1 rfl (show decode _ _ = .ok (.iload_n 2, 1) by decide +kernel) ?_
    by_cases hc17 : x1 = (1 : Int32)
    · have h_6 := ipos hc17 h_5
      refine fw_tin (off := 26) 48 (show decode _ _ = .ok (.tableswitch 53 1 3 #[26, 35, 44], 26) by decide +kernel) (by rw [hc17]; decide) (by rw [hc17]; decide) (by rw [hc17]; rfl) (by decide) ?_
      refine fw_aload_n (i := 0) 2 rfl (show decode _ _ = .ok (.aload_n 0, 1) by decide +kernel) ?_
      obtain ⟨⟨hr11, n10, hs12⟩, h_7⟩ := h_6
      refine fw_getP (kd := 5) (k := 1) (show decode _ _ = .ok (.getfield 17, 3) by decide +kernel) gf_X5_17 hr11 hs12 rfl ?_
      have h_8 := dR_e h_7
      obtain ⟨y13, hy14, h_9⟩ := h_8
      refine fw_deref hy14 ?_
      refine fw_iload_n (i := 3) 0 rfl (show decode _ _ = .ok (.iload_n 3, 1) by decide +kernel) ?_
      refine fw_callSN (mt' := mtX10_cell) (mc := 0) (ms := 0) (As := [.ref y13, .int x3]) (rest := []) 2 "OneStepMore" (show decode _ _ = .ok (.invokestatic 102, 3) by decide +kernel) ns_X5_102 rfl (Nat.le_of_ble_eq_true rfl) (s_X10_cell (d := d) (hd_le hd (by decide)) h_9) (by decide) (by decide) (kI (bc' := 0) (bs' := 0) (by decide) (by decide) (fun x16 M15 h_10 => ?_))
      exact fw_ret (v := some (.int x16)) .ireturn (show decode _ _ = .ok (.ireturn, 1) by decide +kernel) ⟨rfl, Or.inl rfl⟩ ⟨_, rfl, h_10⟩
    have h_11 := ineg hc17 h_5
    by_cases hc25 : x1 = (2 : Int32)
    · have h_12 := ipos hc25 h_11
      refine fw_tin (off := 35) 57 (show decode _ _ = .ok (.tableswitch 53 1 3 #[26, 35, 44], 26) by decide +kernel) (by rw [hc25]; decide) (by rw [hc25]; decide) (by rw [hc25]; rfl) (by decide) ?_
      refine fw_aload_n (i := 0) 2 rfl (show decode _ _ = .ok (.aload_n 0, 1) by decide +kernel) ?_
      obtain ⟨⟨hr19, n18, hs20⟩, h_13⟩ := h_12
      refine fw_getP (kd := 5) (k := 2) (show decode _ _ = .ok (.getfield 21, 3) by decide +kernel) gf_X5_21 hr19 hs20 rfl ?_
      have h_14 := dR_e h_13
      obtain ⟨y21, hy22, h_15⟩ := h_14
      refine fw_deref hy22 ?_
      refine fw_iload_n (i := 3) 0 rfl (show decode _ _ = .ok (.iload_n 3, 1) by decide +kernel) ?_
      refine fw_callSN (mt' := mtX10_cell) (mc := 0) (ms := 0) (As := [.ref y21, .int x3]) (rest := []) 2 "OneStepMore" (show decode _ _ = .ok (.invokestatic 102, 3) by decide +kernel) ns_X5_102 rfl (Nat.le_of_ble_eq_true rfl) (s_X10_cell (d := d) (hd_le hd (by decide)) h_15) (by decide) (by decide) (kI (bc' := 0) (bs' := 0) (by decide) (by decide) (fun x24 M23 h_16 => ?_))
      exact fw_ret (v := some (.int x24)) .ireturn (show decode _ _ = .ok (.ireturn, 1) by decide +kernel) ⟨rfl, Or.inl rfl⟩ ⟨_, rfl, h_16⟩
    have h_17 := ineg hc25 h_11
    by_cases hc33 : x1 = (3 : Int32)
    · have h_18 := ipos hc33 h_17
      refine fw_tin (off := 44) 66 (show decode _ _ = .ok (.tableswitch 53 1 3 #[26, 35, 44], 26) by decide +kernel) (by rw [hc33]; decide) (by rw [hc33]; decide) (by rw [hc33]; rfl) (by decide) ?_
      refine fw_aload_n (i := 0) 2 rfl (show decode _ _ = .ok (.aload_n 0, 1) by decide +kernel) ?_
      obtain ⟨⟨hr27, n26, hs28⟩, h_19⟩ := h_18
      refine fw_getP (kd := 5) (k := 3) (show decode _ _ = .ok (.getfield 24, 3) by decide +kernel) gf_X5_24 hr27 hs28 rfl ?_
      have h_20 := dR_e h_19
      obtain ⟨y29, hy30, h_21⟩ := h_20
      refine fw_deref hy30 ?_
      refine fw_iload_n (i := 3) 0 rfl (show decode _ _ = .ok (.iload_n 3, 1) by decide +kernel) ?_
      refine fw_callSN (mt' := mtX10_cell) (mc := 0) (ms := 0) (As := [.ref y29, .int x3]) (rest := []) 2 "OneStepMore" (show decode _ _ = .ok (.invokestatic 102, 3) by decide +kernel) ns_X5_102 rfl (Nat.le_of_ble_eq_true rfl) (s_X10_cell (d := d) (hd_le hd (by decide)) h_21) (by decide) (by decide) (kI (bc' := 0) (bs' := 0) (by decide) (by decide) (fun x32 M31 h_22 => ?_))
      exact fw_ret (v := some (.int x32)) .ireturn (show decode _ _ = .ok (.ireturn, 1) by decide +kernel) ⟨rfl, Or.inl rfl⟩ ⟨_, rfl, h_22⟩
    have h_23 := ineg hc33 h_17
    by_cases ho34 : Int32.toInt x1 < 1 ∨ 3 < Int32.toInt x1
    · refine fw_tout 75 (show decode _ _ = .ok (.tableswitch 53 1 3 #[26, 35, 44], 26) by decide +kernel) ho34 (by decide) ?_
      refine fw_bipush (v := (-2 : Int32)) (show decode _ _ = .ok (.bipush (-2), 2) by decide +kernel) (by decide) ?_
      exact fw_ret (v := some (.int (-2 : Int32))) .ireturn (show decode _ _ = .ok (.ireturn, 1) by decide +kernel) ⟨rfl, Or.inl rfl⟩ ⟨_, rfl, h_23⟩
    have e35 := tsx_1_3 (Int32.toInt x1) ho34
    rcases e35 with e35 | e35 | e35
    · exact absurd (Int32.toInt_inj.mp (Eq.trans e35 rfl)) hc17
    · exact absurd (Int32.toInt_inj.mp (Eq.trans e35 rfl)) hc25
    · exact absurd (Int32.toInt_inj.mp (Eq.trans e35 rfl)) hc33
  · have h_24 := ipos hc36 h_4
    refine fw_bipush (v := (-2 : Int32)) (show decode _ _ = .ok (.bipush (-2), 2) by decide +kernel) (by decide) ?_
    exact fw_ret (v := some (.int (-2 : Int32))) .ireturn (show decode _ _ = .ok (.ireturn, 1) by decide +kernel) ⟨rfl, Or.inl rfl⟩ ⟨_, rfl, h_24⟩
def w_X10_about (p0 : Nat) (p1 : Int32) (M : fM) (φ : Int32 → fM → Prop) : Prop := iF (p1 = (0 : Int32)) (isO M p0 10 ∧ dR (mP M p0 0) fun y4 => isO M y4 5 ∧ φ (mI M y4 4) M) (iF (p1 = (1 : Int32)) (isO M p0 10 ∧ dR (mP M p0 0) fun y13 => isO M y13 5 ∧ φ (mI M y13 6) M) (iF (p1 = (2 : Int32)) (isO M p0 10 ∧ dR (mP M p0 0) fun y22 => isO M y22 5 ∧ φ (mI M y22 5) M) (iF (p1 = (3 : Int32)) (isO M p0 10 ∧ dR (mP M p0 0) fun y31 => isO M y31 5 ∧ φ (mI M y31 14) M) (iF (p1 = (4 : Int32)) (isO M p0 10 ∧ dR (mP M p0 0) fun y40 => isO M y40 5 ∧ φ (mI M y40 15) M) (iF (p1 = (5 : Int32)) (isO M p0 10 ∧ dR (mP M p0 0) fun y49 => isO M y49 5 ∧ φ (mI M y49 11) M) (iF (p1 = (6 : Int32)) (isO M p0 10 ∧ dR (mP M p0 0) fun y58 => isO M y58 5 ∧ φ (mI M y58 17) M) (iF (p1 = (7 : Int32)) (isO M p0 10 ∧ dR (mP M p0 0) fun y67 => isO M y67 5 ∧ w_X5_toldHouses y67 M fun x73 M69 => φ x73 M69) (iF (p1 = (8 : Int32)) (isO M p0 10 ∧ dR (mP M p0 2) fun y78 => isO M y78 7 ∧ φ (mI M y78 1) M) (isO M p0 10 ∧ dR (mP M p0 0) fun y87 => isO M y87 5 ∧ w_X5_aboutPerson y87 p1 M fun x93 M89 => φ x93 M89)))))))))
set_option maxRecDepth 100000 in
theorem s_X10_about {g : GT} {d : Nat} (hd : 3 ≤ d) {p0 : Nat} {p1 : Int32} {M : fM} {φ : Int32 → fM → Prop} (h : w_X10_about p0 p1 M φ) : FC g mtX10_about d [.ref p0, .int p1] M 0 0 (rI φ) := by
  obtain ⟨d, rfl⟩ : ∃ e, d = e + 1 := ⟨d - 1, by omega⟩
  unfold w_X10_about at h
  refine FC.intro (nL := 2) (by decide) rfl (Nat.le_of_ble_eq_true rfl) ?_
  show FW g mtX10_about (d + 1) 0 [(0, .ref p0), (1, .int p1)] [] M 0 0 (rI φ)
  refine fw_iload_n (i := 1) 1 rfl (show decode _ _ = .ok (.iload_n 1, 1) by decide +kernel) ?_
  by_cases hc9 : p1 = (0 : Int32)
  · have h_1 := ipos hc9 h
    refine fw_tin (off := 51) 52 (show decode _ _ = .ok (.tableswitch 123 0 8 #[51, 59, 67, 75, 83, 91, 99, 107, 115], 51) by decide +kernel) (by rw [hc9]; decide) (by rw [hc9]; decide) (by rw [hc9]; rfl) (by decide) ?_
    refine fw_aload_n (i := 0) 0 rfl (show decode _ _ = .ok (.aload_n 0, 1) by decide +kernel) ?_
    obtain ⟨⟨hr2, n1, hs3⟩, h_2⟩ := h_1
    refine fw_getP (kd := 10) (k := 0) (show decode _ _ = .ok (.getfield 13, 3) by decide +kernel) gf_X10_13 hr2 hs3 rfl ?_
    have h_3 := dR_e h_2
    obtain ⟨y4, hy5, h_4⟩ := h_3
    refine fw_deref hy5 ?_
    obtain ⟨⟨hr7, n6, hs8⟩, h_5⟩ := h_4
    refine fw_getI (kd := 5) (k := 4) (show decode _ _ = .ok (.getfield 156, 3) by decide +kernel) gf_X10_156 hr7 hs8 (Or.inl rfl) ?_
    exact fw_ret (v := some (.int (mI M y4 4))) .ireturn (show decode _ _ = .ok (.ireturn, 1) by decide +kernel) ⟨rfl, Or.inl rfl⟩ ⟨_, rfl, h_5⟩
  have h_6 := ineg hc9 h
  by_cases hc18 : p1 = (1 : Int32)
  · have h_7 := ipos hc18 h_6
    refine fw_tin (off := 59) 60 (show decode _ _ = .ok (.tableswitch 123 0 8 #[51, 59, 67, 75, 83, 91, 99, 107, 115], 51) by decide +kernel) (by rw [hc18]; decide) (by rw [hc18]; decide) (by rw [hc18]; rfl) (by decide) ?_
    refine fw_aload_n (i := 0) 0 rfl (show decode _ _ = .ok (.aload_n 0, 1) by decide +kernel) ?_
    obtain ⟨⟨hr11, n10, hs12⟩, h_8⟩ := h_7
    refine fw_getP (kd := 10) (k := 0) (show decode _ _ = .ok (.getfield 13, 3) by decide +kernel) gf_X10_13 hr11 hs12 rfl ?_
    have h_9 := dR_e h_8
    obtain ⟨y13, hy14, h_10⟩ := h_9
    refine fw_deref hy14 ?_
    obtain ⟨⟨hr16, n15, hs17⟩, h_11⟩ := h_10
    refine fw_getI (kd := 5) (k := 6) (show decode _ _ = .ok (.getfield 147, 3) by decide +kernel) gf_X10_147 hr16 hs17 (Or.inl rfl) ?_
    exact fw_ret (v := some (.int (mI M y13 6))) .ireturn (show decode _ _ = .ok (.ireturn, 1) by decide +kernel) ⟨rfl, Or.inl rfl⟩ ⟨_, rfl, h_11⟩
  have h_12 := ineg hc18 h_6
  by_cases hc27 : p1 = (2 : Int32)
  · have h_13 := ipos hc27 h_12
    refine fw_tin (off := 67) 68 (show decode _ _ = .ok (.tableswitch 123 0 8 #[51, 59, 67, 75, 83, 91, 99, 107, 115], 51) by decide +kernel) (by rw [hc27]; decide) (by rw [hc27]; decide) (by rw [hc27]; rfl) (by decide) ?_
    refine fw_aload_n (i := 0) 0 rfl (show decode _ _ = .ok (.aload_n 0, 1) by decide +kernel) ?_
    obtain ⟨⟨hr20, n19, hs21⟩, h_14⟩ := h_13
    refine fw_getP (kd := 10) (k := 0) (show decode _ _ = .ok (.getfield 13, 3) by decide +kernel) gf_X10_13 hr20 hs21 rfl ?_
    have h_15 := dR_e h_14
    obtain ⟨y22, hy23, h_16⟩ := h_15
    refine fw_deref hy23 ?_
    obtain ⟨⟨hr25, n24, hs26⟩, h_17⟩ := h_16
    refine fw_getI (kd := 5) (k := 5) (show decode _ _ = .ok (.getfield 95, 3) by decide +kernel) gf_X10_95 hr25 hs26 (Or.inl rfl) ?_
    exact fw_ret (v := some (.int (mI M y22 5))) .ireturn (show decode _ _ = .ok (.ireturn, 1) by decide +kernel) ⟨rfl, Or.inl rfl⟩ ⟨_, rfl, h_17⟩
  have h_18 := ineg hc27 h_12
  by_cases hc36 : p1 = (3 : Int32)
  · have h_19 := ipos hc36 h_18
    refine fw_tin (off := 75) 76 (show decode _ _ = .ok (.tableswitch 123 0 8 #[51, 59, 67, 75, 83, 91, 99, 107, 115], 51) by decide +kernel) (by rw [hc36]; decide) (by rw [hc36]; decide) (by rw [hc36]; rfl) (by decide) ?_
    refine fw_aload_n (i := 0) 0 rfl (show decode _ _ = .ok (.aload_n 0, 1) by decide +kernel) ?_
    obtain ⟨⟨hr29, n28, hs30⟩, h_20⟩ := h_19
    refine fw_getP (kd := 10) (k := 0) (show decode _ _ = .ok (.getfield 13, 3) by decide +kernel) gf_X10_13 hr29 hs30 rfl ?_
    have h_21 := dR_e h_20
    obtain ⟨y31, hy32, h_22⟩ := h_21
    refine fw_deref hy32 ?_
    obtain ⟨⟨hr34, n33, hs35⟩, h_23⟩ := h_22
    refine fw_getI (kd := 5) (k := 14) (show decode _ _ = .ok (.getfield 110, 3) by decide +kernel) gf_X10_110 hr34 hs35 (Or.inl rfl) ?_
    exact fw_ret (v := some (.int (mI M y31 14))) .ireturn (show decode _ _ = .ok (.ireturn, 1) by decide +kernel) ⟨rfl, Or.inl rfl⟩ ⟨_, rfl, h_23⟩
  have h_24 := ineg hc36 h_18
  by_cases hc45 : p1 = (4 : Int32)
  · have h_25 := ipos hc45 h_24
    refine fw_tin (off := 83) 84 (show decode _ _ = .ok (.tableswitch 123 0 8 #[51, 59, 67, 75, 83, 91, 99, 107, 115], 51) by decide +kernel) (by rw [hc45]; decide) (by rw [hc45]; decide) (by rw [hc45]; rfl) (by decide) ?_
    refine fw_aload_n (i := 0) 0 rfl (show decode _ _ = .ok (.aload_n 0, 1) by decide +kernel) ?_
    obtain ⟨⟨hr38, n37, hs39⟩, h_26⟩ := h_25
    refine fw_getP (kd := 10) (k := 0) (show decode _ _ = .ok (.getfield 13, 3) by decide +kernel) gf_X10_13 hr38 hs39 rfl ?_
    have h_27 := dR_e h_26
    obtain ⟨y40, hy41, h_28⟩ := h_27
    refine fw_deref hy41 ?_
    obtain ⟨⟨hr43, n42, hs44⟩, h_29⟩ := h_28
    refine fw_getI (kd := 5) (k := 15) (show decode _ _ = .ok (.getfield 131, 3) by decide +kernel) gf_X10_131 hr43 hs44 (Or.inl rfl) ?_
    exact fw_ret (v := some (.int (mI M y40 15))) .ireturn (show decode _ _ = .ok (.ireturn, 1) by decide +kernel) ⟨rfl, Or.inl rfl⟩ ⟨_, rfl, h_29⟩
  have h_30 := ineg hc45 h_24
  by_cases hc54 : p1 = (5 : Int32)
  · have h_31 := ipos hc54 h_30
    refine fw_tin (off := 91) 92 (show decode _ _ = .ok (.tableswitch 123 0 8 #[51, 59, 67, 75, 83, 91, 99, 107, 115], 51) by decide +kernel) (by rw [hc54]; decide) (by rw [hc54]; decide) (by rw [hc54]; rfl) (by decide) ?_
    refine fw_aload_n (i := 0) 0 rfl (show decode _ _ = .ok (.aload_n 0, 1) by decide +kernel) ?_
    obtain ⟨⟨hr47, n46, hs48⟩, h_32⟩ := h_31
    refine fw_getP (kd := 10) (k := 0) (show decode _ _ = .ok (.getfield 13, 3) by decide +kernel) gf_X10_13 hr47 hs48 rfl ?_
    have h_33 := dR_e h_32
    obtain ⟨y49, hy50, h_34⟩ := h_33
    refine fw_deref hy50 ?_
    obtain ⟨⟨hr52, n51, hs53⟩, h_35⟩ := h_34
    refine fw_getI (kd := 5) (k := 11) (show decode _ _ = .ok (.getfield 276, 3) by decide +kernel) gf_X10_276 hr52 hs53 (Or.inl rfl) ?_
    exact fw_ret (v := some (.int (mI M y49 11))) .ireturn (show decode _ _ = .ok (.ireturn, 1) by decide +kernel) ⟨rfl, Or.inl rfl⟩ ⟨_, rfl, h_35⟩
  have h_36 := ineg hc54 h_30
  by_cases hc63 : p1 = (6 : Int32)
  · have h_37 := ipos hc63 h_36
    refine fw_tin (off := 99) 100 (show decode _ _ = .ok (.tableswitch 123 0 8 #[51, 59, 67, 75, 83, 91, 99, 107, 115], 51) by decide +kernel) (by rw [hc63]; decide) (by rw [hc63]; decide) (by rw [hc63]; rfl) (by decide) ?_
    refine fw_aload_n (i := 0) 0 rfl (show decode _ _ = .ok (.aload_n 0, 1) by decide +kernel) ?_
    obtain ⟨⟨hr56, n55, hs57⟩, h_38⟩ := h_37
    refine fw_getP (kd := 10) (k := 0) (show decode _ _ = .ok (.getfield 13, 3) by decide +kernel) gf_X10_13 hr56 hs57 rfl ?_
    have h_39 := dR_e h_38
    obtain ⟨y58, hy59, h_40⟩ := h_39
    refine fw_deref hy59 ?_
    obtain ⟨⟨hr61, n60, hs62⟩, h_41⟩ := h_40
    refine fw_getI (kd := 5) (k := 17) (show decode _ _ = .ok (.getfield 279, 3) by decide +kernel) gf_X10_279 hr61 hs62 (Or.inl rfl) ?_
    exact fw_ret (v := some (.int (mI M y58 17))) .ireturn (show decode _ _ = .ok (.ireturn, 1) by decide +kernel) ⟨rfl, Or.inl rfl⟩ ⟨_, rfl, h_41⟩
  have h_42 := ineg hc63 h_36
  by_cases hc74 : p1 = (7 : Int32)
  · have h_43 := ipos hc74 h_42
    refine fw_tin (off := 107) 108 (show decode _ _ = .ok (.tableswitch 123 0 8 #[51, 59, 67, 75, 83, 91, 99, 107, 115], 51) by decide +kernel) (by rw [hc74]; decide) (by rw [hc74]; decide) (by rw [hc74]; rfl) (by decide) ?_
    refine fw_aload_n (i := 0) 0 rfl (show decode _ _ = .ok (.aload_n 0, 1) by decide +kernel) ?_
    obtain ⟨⟨hr65, n64, hs66⟩, h_44⟩ := h_43
    refine fw_getP (kd := 10) (k := 0) (show decode _ _ = .ok (.getfield 13, 3) by decide +kernel) gf_X10_13 hr65 hs66 rfl ?_
    have h_45 := dR_e h_44
    obtain ⟨y67, hy68, h_46⟩ := h_45
    refine fw_deref hy68 ?_
    obtain ⟨⟨hr71, n70, hs72⟩, h_47⟩ := h_46
    refine fw_callV (mt' := mtX5_toldHouses) (mc := 0) (ms := 0) (As := []) (rest := []) 0 5 n70 (show decode _ _ = .ok (.invokevirtual 282, 3) by decide +kernel) cv_X10_282 ⟨_, rfl, rfl⟩ hr71 hs72 rfl (Nat.le_of_ble_eq_true rfl) (s_X5_toldHouses (d := d) (hd_le hd (by decide)) h_47) (by decide) (by decide) (kI (bc' := 0) (bs' := 0) (by decide) (by decide) (fun x73 M69 h_48 => ?_))
    exact fw_ret (v := some (.int x73)) .ireturn (show decode _ _ = .ok (.ireturn, 1) by decide +kernel) ⟨rfl, Or.inl rfl⟩ ⟨_, rfl, h_48⟩
  have h_49 := ineg hc74 h_42
  by_cases hc83 : p1 = (8 : Int32)
  · have h_50 := ipos hc83 h_49
    refine fw_tin (off := 115) 116 (show decode _ _ = .ok (.tableswitch 123 0 8 #[51, 59, 67, 75, 83, 91, 99, 107, 115], 51) by decide +kernel) (by rw [hc83]; decide) (by rw [hc83]; decide) (by rw [hc83]; rfl) (by decide) ?_
    refine fw_aload_n (i := 0) 0 rfl (show decode _ _ = .ok (.aload_n 0, 1) by decide +kernel) ?_
    obtain ⟨⟨hr76, n75, hs77⟩, h_51⟩ := h_50
    refine fw_getP (kd := 10) (k := 2) (show decode _ _ = .ok (.getfield 25, 3) by decide +kernel) gf_X10_25 hr76 hs77 rfl ?_
    have h_52 := dR_e h_51
    obtain ⟨y78, hy79, h_53⟩ := h_52
    refine fw_deref hy79 ?_
    obtain ⟨⟨hr81, n80, hs82⟩, h_54⟩ := h_53
    refine fw_getI (kd := 7) (k := 1) (show decode _ _ = .ok (.getfield 107, 3) by decide +kernel) gf_X10_107 hr81 hs82 (Or.inl rfl) ?_
    exact fw_ret (v := some (.int (mI M y78 1))) .ireturn (show decode _ _ = .ok (.ireturn, 1) by decide +kernel) ⟨rfl, Or.inl rfl⟩ ⟨_, rfl, h_54⟩
  have h_55 := ineg hc83 h_49
  by_cases ho94 : Int32.toInt p1 < 0 ∨ 8 < Int32.toInt p1
  · refine fw_tout 124 (show decode _ _ = .ok (.tableswitch 123 0 8 #[51, 59, 67, 75, 83, 91, 99, 107, 115], 51) by decide +kernel) ho94 (by decide) ?_
    refine fw_aload_n (i := 0) 0 rfl (show decode _ _ = .ok (.aload_n 0, 1) by decide +kernel) ?_
    obtain ⟨⟨hr85, n84, hs86⟩, h_56⟩ := h_55
    refine fw_getP (kd := 10) (k := 0) (show decode _ _ = .ok (.getfield 13, 3) by decide +kernel) gf_X10_13 hr85 hs86 rfl ?_
    have h_57 := dR_e h_56
    obtain ⟨y87, hy88, h_58⟩ := h_57
    refine fw_deref hy88 ?_
    refine fw_iload_n (i := 1) 1 rfl (show decode _ _ = .ok (.iload_n 1, 1) by decide +kernel) ?_
    obtain ⟨⟨hr91, n90, hs92⟩, h_59⟩ := h_58
    refine fw_callV (mt' := mtX5_aboutPerson) (mc := 0) (ms := 0) (As := [.int p1]) (rest := []) 1 5 n90 (show decode _ _ = .ok (.invokevirtual 285, 3) by decide +kernel) cv_X10_285 ⟨_, rfl, rfl⟩ hr91 hs92 rfl (Nat.le_of_ble_eq_true rfl) (s_X5_aboutPerson (d := d) (hd_le hd (by decide)) h_59) (by decide) (by decide) (kI (bc' := 0) (bs' := 0) (by decide) (by decide) (fun x93 M89 h_60 => ?_))
    exact fw_ret (v := some (.int x93)) .ireturn (show decode _ _ = .ok (.ireturn, 1) by decide +kernel) ⟨rfl, Or.inl rfl⟩ ⟨_, rfl, h_60⟩
  have e95 := tsx_0_8 (Int32.toInt p1) ho94
  rcases e95 with e95 | e95 | e95 | e95 | e95 | e95 | e95 | e95 | e95
  · exact absurd (Int32.toInt_inj.mp (Eq.trans e95 rfl)) hc9
  · exact absurd (Int32.toInt_inj.mp (Eq.trans e95 rfl)) hc18
  · exact absurd (Int32.toInt_inj.mp (Eq.trans e95 rfl)) hc27
  · exact absurd (Int32.toInt_inj.mp (Eq.trans e95 rfl)) hc36
  · exact absurd (Int32.toInt_inj.mp (Eq.trans e95 rfl)) hc45
  · exact absurd (Int32.toInt_inj.mp (Eq.trans e95 rfl)) hc54
  · exact absurd (Int32.toInt_inj.mp (Eq.trans e95 rfl)) hc63
  · exact absurd (Int32.toInt_inj.mp (Eq.trans e95 rfl)) hc74
  · exact absurd (Int32.toInt_inj.mp (Eq.trans e95 rfl)) hc83
def w_X10_put (p0 : Nat) (p1 : Int32) (p2 : Int32) (M : fM) (φ : fM → Prop) : Prop := iF (p1 < 0) (φ M) (lenA M p0 12 fun n1 => iF ((nI n1) ≤ p1) (φ M) (6 ≤ p0 ∧ inA M p0 12 p1 ∧ st (wI M p0 (ix p1) p2) fun M7 => φ M7))
set_option maxRecDepth 100000 in
theorem s_X10_put {g : GT} {d : Nat} (hd : 1 ≤ d) {p0 : Nat} {p1 : Int32} {p2 : Int32} {M : fM} {φ : fM → Prop} (h : w_X10_put p0 p1 p2 M φ) : FC g mtX10_put d [.ref p0, .int p1, .int p2] M 0 0 (rV φ) := by
  obtain ⟨d, rfl⟩ : ∃ e, d = e + 1 := ⟨d - 1, by omega⟩
  unfold w_X10_put at h
  refine FC.intro (nL := 3) (by decide) rfl (Nat.le_of_ble_eq_true rfl) ?_
  show FW g mtX10_put (d + 1) 0 [(0, .ref p0), (1, .int p1), (2, .int p2)] [] M 0 0 (rV φ)
  refine fw_iload_n (i := 1) 1 rfl (show decode _ _ = .ok (.iload_n 1, 1) by decide +kernel) ?_
  refine fw_if_lt 14 (show decode _ _ = .ok (.ifCond .lt 13, 3) by decide +kernel) (by decide) (fun hc10 => ?_) (fun hc10 => ?_)
  · have h_1 := ipos hc10 h
    exact fw_ret (v := none) .return_ (show decode _ _ = .ok (.return_, 1) by decide +kernel) ⟨rfl, rfl⟩ ⟨rfl, h_1⟩
  · have h_2 := ineg hc10 h
    refine fw_iload_n (i := 1) 1 rfl (show decode _ _ = .ok (.iload_n 1, 1) by decide +kernel) ?_
    refine fw_aload_n (i := 0) 0 rfl (show decode _ _ = .ok (.aload_n 0, 1) by decide +kernel) ?_
    obtain ⟨n1, hs2, h_3⟩ := h_2
    refine fw_alen (show decode _ _ = .ok (.arraylength, 1) by decide +kernel) hs2 (by decide) (by decide) (by decide) (fun h_3 => absurd h_3 (by decide)) ?_
    refine fw_icmp_ge 14 (show decode _ _ = .ok (.if_icmp .ge 7, 3) by decide +kernel) (by decide) (fun hc9 => ?_) (fun hc9 => ?_)
    · have h_4 := ipos hc9 h_3
      exact fw_ret (v := none) .return_ (show decode _ _ = .ok (.return_, 1) by decide +kernel) ⟨rfl, rfl⟩ ⟨rfl, h_4⟩
    · have h_5 := ineg hc9 h_3
      refine fw_aload_n (i := 0) 0 rfl (show decode _ _ = .ok (.aload_n 0, 1) by decide +kernel) ?_
      refine fw_iload_n (i := 1) 1 rfl (show decode _ _ = .ok (.iload_n 1, 1) by decide +kernel) ?_
      refine fw_iload_n (i := 2) 2 rfl (show decode _ _ = .ok (.iload_n 2, 1) by decide +kernel) ?_
      obtain ⟨hr6, ⟨n3, hs4, hi5⟩, h_6⟩ := h_5
      refine fw_iast (show decode _ _ = .ok (.iastore, 1) by decide +kernel) hr6 hs4 hi5 ?_
      refine FW.nmM (fun M7 eM8 => ?_)
      have h_7 := h_6 M7 eM8
      exact fw_ret (v := none) .return_ (show decode _ _ = .ok (.return_, 1) by decide +kernel) ⟨rfl, rfl⟩ ⟨rfl, h_7⟩
def j_X2_weigh_38 (K3 : Nat → Nat → Int32 → Int32 → Int32 → fM → Prop) (φ : fM → Prop) (p0 : Nat) (p1 : Nat) (p2 : Int32) (p3 : Int32) (p4 : Int32) (s0 : Int32) (M : fM) : Prop := isO M p0 2 ∧ dR (mP M p0 4) fun y4 => dR (mP M p0 2) fun y6 => w_X10_cell y6 (((p2 + (1 : Int32)) * (10 : Int32)) + p4) M fun x9 M8 => w_X10_put y4 p4 (imin (1000000 : Int32) (s0 + x9)) M8 fun M10 => nm (p4 + (1 : Int32)) fun x11 => K3 p0 p1 p2 p3 x11 M10
set_option maxRecDepth 100000 in
theorem sj_X2_weigh_38 {g : GT} {d : Nat} (hd : 3 ≤ d + 1) {K3 : Nat → Nat → Int32 → Int32 → Int32 → fM → Prop} {φ : fM → Prop} (hK3 : ∀ (p0 : Nat) (p1 : Nat) (p2 : Int32) (p3 : Int32) (p4 : Int32) (M : fM), K3 p0 p1 p2 p3 p4 M → FW g mtX2_weigh (d + 1) 3 [(0, .ref p0), (1, .ref p1), (2, .int p2), (3, .int p3), (4, .int p4)] [] M 0 0 (rV φ)) {p0 : Nat} {p1 : Nat} {p2 : Int32} {p3 : Int32} {p4 : Int32} {s0 : Int32} {M : fM} (h : j_X2_weigh_38 K3 φ p0 p1 p2 p3 p4 s0 M) : FW g mtX2_weigh (d + 1) 38 [(0, .ref p0), (1, .ref p1), (2, .int p2), (3, .int p3), (4, .int p4)] [.int s0] M 0 0 (rV φ) := by
  unfold j_X2_weigh_38 at h
  refine fw_istore (i := 6) (ls' := [(6, .int s0), (0, .ref p0), (1, .ref p1), (2, .int p2), (3, .int p3), (4, .int p4)]) (show decode _ _ = .ok (.istore 6, 2) by decide +kernel) (by decide) rfl ?_
  refine fw_aload_n (i := 0) 1 rfl (show decode _ _ = .ok (.aload_n 0, 1) by decide +kernel) ?_
  obtain ⟨⟨hr2, n1, hs3⟩, h_1⟩ := h
  refine fw_getP (kd := 2) (k := 4) (show decode _ _ = .ok (.getfield 18, 3) by decide +kernel) gf_X2_18 hr2 hs3 rfl ?_
  have h_2 := dR_e h_1
  obtain ⟨y4, hy5, h_3⟩ := h_2
  refine fw_deref hy5 ?_
  refine fw_iload (i := 4) 5 rfl (show decode _ _ = .ok (.iload 4, 2) by decide +kernel) ?_
  refine fw_ldc (idx := 49) (v := (1000000 : Int32)) (show decode _ _ = .ok (.ldc 49, 2) by decide +kernel) wd1322 ?_
  refine fw_iload (i := 6) 0 rfl (show decode _ _ = .ok (.iload 6, 2) by decide +kernel) ?_
  refine fw_aload_n (i := 0) 1 rfl (show decode _ _ = .ok (.aload_n 0, 1) by decide +kernel) ?_
  refine fw_getP (kd := 2) (k := 2) (show decode _ _ = .ok (.getfield 11, 3) by decide +kernel) gf_X2_11 hr2 hs3 rfl ?_
  have h_4 := dR_e h_3
  obtain ⟨y6, hy7, h_5⟩ := h_4
  refine fw_deref hy7 ?_
  refine fw_iload_n (i := 2) 3 rfl (show decode _ _ = .ok (.iload_n 2, 1) by decide +kernel) ?_
  refine fw_iconst (v := (1 : Int32)) (show decode _ _ = .ok (.iconst 1, 1) by decide +kernel) (by decide) ?_
  refine fw_iadd (show decode _ _ = .ok (.iadd, 1) by decide +kernel) ?_
  refine fw_bipush (v := (10 : Int32)) (show decode _ _ = .ok (.bipush 10, 2) by decide +kernel) (by decide) ?_
  refine fw_imul (show decode _ _ = .ok (.imul, 1) by decide +kernel) ?_
  refine fw_iload (i := 4) 5 rfl (show decode _ _ = .ok (.iload 4, 2) by decide +kernel) ?_
  refine fw_iadd (show decode _ _ = .ok (.iadd, 1) by decide +kernel) ?_
  refine fw_callSN (mt' := mtX10_cell) (mc := 0) (ms := 0) (As := [.ref y6, .int (((p2 + (1 : Int32)) * (10 : Int32)) + p4)]) (rest := [.int s0, .int (1000000 : Int32), .int p4, .ref y4]) 2 "OneStepMore" (show decode _ _ = .ok (.invokestatic 45, 3) by decide +kernel) ns_X2_45 rfl (Nat.le_of_ble_eq_true rfl) (s_X10_cell (d := d) (hd_le hd (by decide)) h_5) (by decide) (by decide) (kI (bc' := 0) (bs' := 0) (by decide) (by decide) (fun x9 M8 h_6 => ?_))
  refine fw_iadd (show decode _ _ = .ok (.iadd, 1) by decide +kernel) ?_
  refine fw_mmin (idx := 76) (rest := [.int p4, .ref y4]) (show decode _ _ = .ok (.invokestatic 76, 3) by decide +kernel) ⟨wd1321, wd641, wd142, wd642⟩ (Nat.le_of_ble_eq_true rfl) ?_
  refine fw_callSN (mt' := mtX10_put) (mc := 0) (ms := 0) (As := [.ref y4, .int p4, .int (imin (1000000 : Int32) (s0 + x9))]) (rest := []) 3 "OneStepMore" (show decode _ _ = .ok (.invokestatic 80, 3) by decide +kernel) ns_X2_80 rfl (Nat.le_of_ble_eq_true rfl) (s_X10_put (d := d) (hd_le hd (by decide)) h_6) (by decide) (by decide) (kV (bc' := 0) (bs' := 0) (by decide) (by decide) (fun M10 h_7 => ?_))
  obtain ⟨x11, ex12⟩ : ∃ y : Int32, y = p4 + (1 : Int32) := ⟨_, rfl⟩
  have h_8 := h_7 x11 ex12
  refine fw_iinc (i := 4) (x := p4) (v := x11) (ls' := [(4, .int x11), (6, .int s0), (0, .ref p0), (1, .ref p1), (2, .int p2), (3, .int p3)]) 5 rfl (show decode _ _ = .ok (.iinc 4 1, 3) by decide +kernel) (by rw [ex12]; rfl) (by decide) rfl ?_
  refine fw_goto 3 (show decode _ _ = .ok (.goto (-73), 3) by decide +kernel) (by decide) ?_
  refine FW.sub [2, 3, 4, 5, 0] (ls' := [(0, .ref p0), (1, .ref p1), (2, .int p2), (3, .int p3), (4, .int x11)]) rfl ?_
  exact hK3 _ _ _ _ _ _ h_8
def b_X2_weigh_3 (K3 : Nat → Nat → Int32 → Int32 → Int32 → fM → Prop) (φ : fM → Prop) (p0 : Nat) (p1 : Nat) (p2 : Int32) (p3 : Int32) (p4 : Int32) (M : fM) : Prop := iF ((9 : Int32) < p4) (φ M) (isO M p1 0 ∧ w_X0_highOf p1 p2 M fun x17 M13 => nm (iabs (p4 - x17)) fun x18 => iF (p3 = 0) (j_X2_weigh_38 K3 φ p0 p1 p2 p3 p4 x18 M13) (j_X2_weigh_38 K3 φ p0 p1 p2 p3 p4 (imin (1 : Int32) x18) M13))
def l_X2_weigh_3 (φ : fM → Prop) : Nat → Nat → Nat → Int32 → Int32 → Int32 → fM → Prop
  | 0, _, _, _, _, _, _ => False
  | n + 1, p0, p1, p2, p3, p4, M => b_X2_weigh_3 (l_X2_weigh_3 φ n) φ p0 p1 p2 p3 p4 M
set_option maxRecDepth 100000 in
theorem sb_X2_weigh_3 {g : GT} {d : Nat} (hd : 3 ≤ d + 1) {K3 : Nat → Nat → Int32 → Int32 → Int32 → fM → Prop} {φ : fM → Prop} (hK3 : ∀ (p0 : Nat) (p1 : Nat) (p2 : Int32) (p3 : Int32) (p4 : Int32) (M : fM), K3 p0 p1 p2 p3 p4 M → FW g mtX2_weigh (d + 1) 3 [(0, .ref p0), (1, .ref p1), (2, .int p2), (3, .int p3), (4, .int p4)] [] M 0 0 (rV φ)) {p0 : Nat} {p1 : Nat} {p2 : Int32} {p3 : Int32} {p4 : Int32} {M : fM} (h : b_X2_weigh_3 K3 φ p0 p1 p2 p3 p4 M) : FW g mtX2_weigh (d + 1) 3 [(0, .ref p0), (1, .ref p1), (2, .int p2), (3, .int p3), (4, .int p4)] [] M 0 0 (rV φ) := by
  unfold b_X2_weigh_3 at h
  refine fw_iload (i := 4) 4 rfl (show decode _ _ = .ok (.iload 4, 2) by decide +kernel) ?_
  refine fw_bipush (v := (9 : Int32)) (show decode _ _ = .ok (.bipush 9, 2) by decide +kernel) (by decide) ?_
  refine fw_icmp_gt 79 (show decode _ _ = .ok (.if_icmp .gt 72, 3) by decide +kernel) (by decide) (fun hc21 => ?_) (fun hc21 => ?_)
  · have h_1 := ipos hc21 h
    exact fw_ret (v := none) .return_ (show decode _ _ = .ok (.return_, 1) by decide +kernel) ⟨rfl, rfl⟩ ⟨rfl, h_1⟩
  · have h_2 := ineg hc21 h
    refine fw_iload (i := 4) 4 rfl (show decode _ _ = .ok (.iload 4, 2) by decide +kernel) ?_
    refine fw_aload_n (i := 1) 1 rfl (show decode _ _ = .ok (.aload_n 1, 1) by decide +kernel) ?_
    refine fw_iload_n (i := 2) 2 rfl (show decode _ _ = .ok (.iload_n 2, 1) by decide +kernel) ?_
    obtain ⟨⟨hr15, n14, hs16⟩, h_3⟩ := h_2
    refine fw_callV (mt' := mtX0_highOf) (mc := 0) (ms := 0) (As := [.int p2]) (rest := [.int p4]) 1 0 n14 (show decode _ _ = .ok (.invokevirtual 67, 3) by decide +kernel) cv_X2_67 ⟨_, rfl, rfl⟩ hr15 hs16 rfl (Nat.le_of_ble_eq_true rfl) (s_X0_highOf (d := d) (hd_le hd (by decide)) h_3) (by decide) (by decide) (kI (bc' := 0) (bs' := 0) (by decide) (by decide) (fun x17 M13 h_4 => ?_))
    refine fw_isub (show decode _ _ = .ok (.isub, 1) by decide +kernel) ?_
    refine fw_mabs (idx := 71) (rest := []) (show decode _ _ = .ok (.invokestatic 71, 3) by decide +kernel) ⟨wd1320, wd948, wd142, wd949⟩ (Nat.le_of_ble_eq_true rfl) ?_
    refine fw_nmI (fun x18 ex19 => ?_)
    have h_5 := h_4 x18 ex19
    refine fw_istore (i := 5) (ls' := [(5, .int x18), (0, .ref p0), (1, .ref p1), (2, .int p2), (3, .int p3), (4, .int p4)]) (show decode _ _ = .ok (.istore 5, 2) by decide +kernel) (by decide) rfl ?_
    refine fw_iload_n (i := 3) 4 rfl (show decode _ _ = .ok (.iload_n 3, 1) by decide +kernel) ?_
    refine fw_if_eq 36 (show decode _ _ = .ok (.ifCond .eq 12, 3) by decide +kernel) (by decide) (fun hc20 => ?_) (fun hc20 => ?_)
    · have h_6 := ipos hc20 h_5
      refine fw_iload (i := 5) 0 rfl (show decode _ _ = .ok (.iload 5, 2) by decide +kernel) ?_
      refine FW.sub [1, 2, 3, 4, 5] (ls' := [(0, .ref p0), (1, .ref p1), (2, .int p2), (3, .int p3), (4, .int p4)]) rfl ?_
      exact sj_X2_weigh_38 hd hK3 h_6
    · have h_7 := ineg hc20 h_5
      refine fw_iconst (v := (1 : Int32)) (show decode _ _ = .ok (.iconst 1, 1) by decide +kernel) (by decide) ?_
      refine fw_iload (i := 5) 0 rfl (show decode _ _ = .ok (.iload 5, 2) by decide +kernel) ?_
      refine fw_mmin (idx := 76) (rest := []) (show decode _ _ = .ok (.invokestatic 76, 3) by decide +kernel) ⟨wd1321, wd641, wd142, wd642⟩ (Nat.le_of_ble_eq_true rfl) ?_
      refine fw_goto 38 (show decode _ _ = .ok (.goto 5, 3) by decide +kernel) (by decide) ?_
      refine FW.sub [1, 2, 3, 4, 5] (ls' := [(0, .ref p0), (1, .ref p1), (2, .int p2), (3, .int p3), (4, .int p4)]) rfl ?_
      exact sj_X2_weigh_38 hd hK3 h_7
theorem sl_X2_weigh_3 {g : GT} {d : Nat} (hd : 3 ≤ d + 1) {φ : fM → Prop} : ∀ (n : Nat) {p0 : Nat} {p1 : Nat} {p2 : Int32} {p3 : Int32} {p4 : Int32} {M : fM}, l_X2_weigh_3 φ n p0 p1 p2 p3 p4 M → FW g mtX2_weigh (d + 1) 3 [(0, .ref p0), (1, .ref p1), (2, .int p2), (3, .int p3), (4, .int p4)] [] M 0 0 (rV φ)
  | 0 => fun h => h.elim
  | n + 1 => fun h => sb_X2_weigh_3 hd (fun _ _ _ _ _ _ h => sl_X2_weigh_3 hd n h) h
def w_X2_weigh (p0 : Nat) (p1 : Nat) (p2 : Int32) (p3 : Int32) (M : fM) (φ : fM → Prop) : Prop := ∃ n, l_X2_weigh_3 φ n p0 p1 p2 p3 (1 : Int32) M
set_option maxRecDepth 100000 in
theorem s_X2_weigh {g : GT} {d : Nat} (hd : 3 ≤ d) {p0 : Nat} {p1 : Nat} {p2 : Int32} {p3 : Int32} {M : fM} {φ : fM → Prop} (h : w_X2_weigh p0 p1 p2 p3 M φ) : FC g mtX2_weigh d [.ref p0, .ref p1, .int p2, .int p3] M 0 0 (rV φ) := by
  obtain ⟨d, rfl⟩ : ∃ e, d = e + 1 := ⟨d - 1, by omega⟩
  unfold w_X2_weigh at h
  refine FC.intro (nL := 7) (by decide) rfl (Nat.le_of_ble_eq_true rfl) ?_
  show FW g mtX2_weigh (d + 1) 0 [(0, .ref p0), (1, .ref p1), (2, .int p2), (3, .int p3)] [] M 0 0 (rV φ)
  refine fw_iconst (v := (1 : Int32)) (show decode _ _ = .ok (.iconst 1, 1) by decide +kernel) (by decide) ?_
  refine fw_istore (i := 4) (ls' := [(4, .int (1 : Int32)), (0, .ref p0), (1, .ref p1), (2, .int p2), (3, .int p3)]) (show decode _ _ = .ok (.istore 4, 2) by decide +kernel) (by decide) rfl ?_
  refine FW.sub [1, 2, 3, 4, 0] (ls' := [(0, .ref p0), (1, .ref p1), (2, .int p2), (3, .int p3), (4, .int (1 : Int32))]) rfl ?_
  obtain ⟨nn, h_1⟩ := h
  exact sl_X2_weigh_3 hd nn h_1
def b_X2_cheapest_4 (K4 : Nat → Int32 → Int32 → fM → Prop) (φ : Int32 → fM → Prop) (p0 : Nat) (p1 : Int32) (p2 : Int32) (M : fM) : Prop := iF ((9 : Int32) < p2) (φ p1 M) (isO M p0 2 ∧ dR (mP M p0 4) fun y4 => w_X10_cell y4 p2 M fun x7 M6 => isO M6 p0 2 ∧ dR (mP M6 p0 4) fun y11 => w_X10_cell y11 p1 M6 fun x14 M13 => iF (x14 ≤ x7) (nm (p2 + (1 : Int32)) fun x15 => K4 p0 p1 x15 M13) (nm (p2 + (1 : Int32)) fun x17 => K4 p0 p2 x17 M13))
def l_X2_cheapest_4 (φ : Int32 → fM → Prop) : Nat → Nat → Int32 → Int32 → fM → Prop
  | 0, _, _, _, _ => False
  | n + 1, p0, p1, p2, M => b_X2_cheapest_4 (l_X2_cheapest_4 φ n) φ p0 p1 p2 M
set_option maxRecDepth 100000 in
theorem sb_X2_cheapest_4 {g : GT} {d : Nat} (hd : 2 ≤ d + 1) {K4 : Nat → Int32 → Int32 → fM → Prop} {φ : Int32 → fM → Prop} (hK4 : ∀ (p0 : Nat) (p1 : Int32) (p2 : Int32) (M : fM), K4 p0 p1 p2 M → FW g mtX2_cheapest (d + 1) 4 [(0, .ref p0), (1, .int p1), (2, .int p2)] [] M 0 0 (rI φ)) {p0 : Nat} {p1 : Int32} {p2 : Int32} {M : fM} (h : b_X2_cheapest_4 K4 φ p0 p1 p2 M) : FW g mtX2_cheapest (d + 1) 4 [(0, .ref p0), (1, .int p1), (2, .int p2)] [] M 0 0 (rI φ) := by
  unfold b_X2_cheapest_4 at h
  refine fw_iload_n (i := 2) 2 rfl (show decode _ _ = .ok (.iload_n 2, 1) by decide +kernel) ?_
  refine fw_bipush (v := (9 : Int32)) (show decode _ _ = .ok (.bipush 9, 2) by decide +kernel) (by decide) ?_
  refine fw_icmp_gt 37 (show decode _ _ = .ok (.if_icmp .gt 30, 3) by decide +kernel) (by decide) (fun hc20 => ?_) (fun hc20 => ?_)
  · have h_1 := ipos hc20 h
    refine fw_iload_n (i := 1) 1 rfl (show decode _ _ = .ok (.iload_n 1, 1) by decide +kernel) ?_
    exact fw_ret (v := some (.int p1)) .ireturn (show decode _ _ = .ok (.ireturn, 1) by decide +kernel) ⟨rfl, Or.inl rfl⟩ ⟨_, rfl, h_1⟩
  · have h_2 := ineg hc20 h
    refine fw_aload_n (i := 0) 0 rfl (show decode _ _ = .ok (.aload_n 0, 1) by decide +kernel) ?_
    obtain ⟨⟨hr2, n1, hs3⟩, h_3⟩ := h_2
    refine fw_getP (kd := 2) (k := 4) (show decode _ _ = .ok (.getfield 18, 3) by decide +kernel) gf_X2_18 hr2 hs3 rfl ?_
    have h_4 := dR_e h_3
    obtain ⟨y4, hy5, h_5⟩ := h_4
    refine fw_deref hy5 ?_
    refine fw_iload_n (i := 2) 2 rfl (show decode _ _ = .ok (.iload_n 2, 1) by decide +kernel) ?_
    refine fw_callSN (mt' := mtX10_cell) (mc := 0) (ms := 0) (As := [.ref y4, .int p2]) (rest := []) 2 "OneStepMore" (show decode _ _ = .ok (.invokestatic 45, 3) by decide +kernel) ns_X2_45 rfl (Nat.le_of_ble_eq_true rfl) (s_X10_cell (d := d) (hd_le hd (by decide)) h_5) (by decide) (by decide) (kI (bc' := 0) (bs' := 0) (by decide) (by decide) (fun x7 M6 h_6 => ?_))
    refine fw_aload_n (i := 0) 0 rfl (show decode _ _ = .ok (.aload_n 0, 1) by decide +kernel) ?_
    obtain ⟨⟨hr9, n8, hs10⟩, h_7⟩ := h_6
    refine fw_getP (kd := 2) (k := 4) (show decode _ _ = .ok (.getfield 18, 3) by decide +kernel) gf_X2_18 hr9 hs10 rfl ?_
    have h_8 := dR_e h_7
    obtain ⟨y11, hy12, h_9⟩ := h_8
    refine fw_deref hy12 ?_
    refine fw_iload_n (i := 1) 1 rfl (show decode _ _ = .ok (.iload_n 1, 1) by decide +kernel) ?_
    refine fw_callSN (mt' := mtX10_cell) (mc := 0) (ms := 0) (As := [.ref y11, .int p1]) (rest := [.int x7]) 2 "OneStepMore" (show decode _ _ = .ok (.invokestatic 45, 3) by decide +kernel) ns_X2_45 rfl (Nat.le_of_ble_eq_true rfl) (s_X10_cell (d := d) (hd_le hd (by decide)) h_9) (by decide) (by decide) (kI (bc' := 0) (bs' := 0) (by decide) (by decide) (fun x14 M13 h_10 => ?_))
    refine fw_icmp_ge 31 (show decode _ _ = .ok (.if_icmp .ge 5, 3) by decide +kernel) (by decide) (fun hc19 => ?_) (fun hc19 => ?_)
    · have h_11 := ipos hc19 h_10
      obtain ⟨x15, ex16⟩ : ∃ y : Int32, y = p2 + (1 : Int32) := ⟨_, rfl⟩
      have h_12 := h_11 x15 ex16
      refine fw_iinc (i := 2) (x := p2) (v := x15) (ls' := [(2, .int x15), (0, .ref p0), (1, .int p1)]) 2 rfl (show decode _ _ = .ok (.iinc 2 1, 3) by decide +kernel) (by rw [ex16]; rfl) (by decide) rfl ?_
      refine fw_goto 4 (show decode _ _ = .ok (.goto (-30), 3) by decide +kernel) (by decide) ?_
      refine FW.sub [1, 2, 0] (ls' := [(0, .ref p0), (1, .int p1), (2, .int x15)]) rfl ?_
      exact hK4 _ _ _ _ h_12
    · have h_13 := ineg hc19 h_10
      refine fw_iload_n (i := 2) 2 rfl (show decode _ _ = .ok (.iload_n 2, 1) by decide +kernel) ?_
      refine fw_istore_n (i := 1) (ls' := [(1, .int p2), (0, .ref p0), (2, .int p2)]) (show decode _ _ = .ok (.istore_n 1, 1) by decide +kernel) (by decide) rfl ?_
      obtain ⟨x17, ex18⟩ : ∃ y : Int32, y = p2 + (1 : Int32) := ⟨_, rfl⟩
      have h_14 := h_13 x17 ex18
      refine fw_iinc (i := 2) (x := p2) (v := x17) (ls' := [(2, .int x17), (1, .int p2), (0, .ref p0)]) 2 rfl (show decode _ _ = .ok (.iinc 2 1, 3) by decide +kernel) (by rw [ex18]; rfl) (by decide) rfl ?_
      refine fw_goto 4 (show decode _ _ = .ok (.goto (-30), 3) by decide +kernel) (by decide) ?_
      refine FW.sub [2, 1, 0] (ls' := [(0, .ref p0), (1, .int p2), (2, .int x17)]) rfl ?_
      exact hK4 _ _ _ _ h_14
theorem sl_X2_cheapest_4 {g : GT} {d : Nat} (hd : 2 ≤ d + 1) {φ : Int32 → fM → Prop} : ∀ (n : Nat) {p0 : Nat} {p1 : Int32} {p2 : Int32} {M : fM}, l_X2_cheapest_4 φ n p0 p1 p2 M → FW g mtX2_cheapest (d + 1) 4 [(0, .ref p0), (1, .int p1), (2, .int p2)] [] M 0 0 (rI φ)
  | 0 => fun h => h.elim
  | n + 1 => fun h => sb_X2_cheapest_4 hd (fun _ _ _ _ h => sl_X2_cheapest_4 hd n h) h
def w_X2_cheapest (p0 : Nat) (M : fM) (φ : Int32 → fM → Prop) : Prop := ∃ n, l_X2_cheapest_4 φ n p0 (1 : Int32) (2 : Int32) M
set_option maxRecDepth 100000 in
theorem s_X2_cheapest {g : GT} {d : Nat} (hd : 2 ≤ d) {p0 : Nat} {M : fM} {φ : Int32 → fM → Prop} (h : w_X2_cheapest p0 M φ) : FC g mtX2_cheapest d [.ref p0] M 0 0 (rI φ) := by
  obtain ⟨d, rfl⟩ : ∃ e, d = e + 1 := ⟨d - 1, by omega⟩
  unfold w_X2_cheapest at h
  refine FC.intro (nL := 3) (by decide) rfl (Nat.le_of_ble_eq_true rfl) ?_
  show FW g mtX2_cheapest (d + 1) 0 [(0, .ref p0)] [] M 0 0 (rI φ)
  refine fw_iconst (v := (1 : Int32)) (show decode _ _ = .ok (.iconst 1, 1) by decide +kernel) (by decide) ?_
  refine fw_istore_n (i := 1) (ls' := [(1, .int (1 : Int32)), (0, .ref p0)]) (show decode _ _ = .ok (.istore_n 1, 1) by decide +kernel) (by decide) rfl ?_
  refine fw_iconst (v := (2 : Int32)) (show decode _ _ = .ok (.iconst 2, 1) by decide +kernel) (by decide) ?_
  refine fw_istore_n (i := 2) (ls' := [(2, .int (2 : Int32)), (1, .int (1 : Int32)), (0, .ref p0)]) (show decode _ _ = .ok (.istore_n 2, 1) by decide +kernel) (by decide) rfl ?_
  refine FW.sub [2, 1, 0] (ls' := [(0, .ref p0), (1, .int (1 : Int32)), (2, .int (2 : Int32))]) rfl ?_
  obtain ⟨nn, h_1⟩ := h
  exact sl_X2_cheapest_4 hd nn h_1
def w_X5_textOf (p0 : Nat) (p1 : Int32) (M : fM) (φ : Option Nat → fM → Prop) : Prop := iF (p1 < 0) (φ none M) (isO M p0 5 ∧ iF ((mI M p0 14) ≤ p1) (φ none M) (dR (mP M p0 13) fun y4 => lenA M y4 16 fun n6 => iF ((nI n6) ≤ p1) (φ none M) (dR (mP M p0 13) fun y8 => inA M y8 16 p1 ∧ nm (mP M y8 (ix p1)) fun o13 => φ o13 M)))
set_option maxRecDepth 100000 in
theorem s_X5_textOf {g : GT} {d : Nat} (hd : 1 ≤ d) {p0 : Nat} {p1 : Int32} {M : fM} {φ : Option Nat → fM → Prop} (h : w_X5_textOf p0 p1 M φ) : FC g mtX5_textOf d [.ref p0, .int p1] M 0 0 (rP φ) := by
  obtain ⟨d, rfl⟩ : ∃ e, d = e + 1 := ⟨d - 1, by omega⟩
  unfold w_X5_textOf at h
  refine FC.intro (nL := 2) (by decide) rfl (Nat.le_of_ble_eq_true rfl) ?_
  show FW g mtX5_textOf (d + 1) 0 [(0, .ref p0), (1, .int p1)] [] M 0 0 (rP φ)
  refine fw_iload_n (i := 1) 1 rfl (show decode _ _ = .ok (.iload_n 1, 1) by decide +kernel) ?_
  refine fw_if_lt 30 (show decode _ _ = .ok (.ifCond .lt 29, 3) by decide +kernel) (by decide) (fun hc17 => ?_) (fun hc17 => ?_)
  · have h_1 := ipos hc17 h
    refine fw_nullq (show decode _ _ = .ok (.aconst_null, 1) by decide +kernel) ?_
    exact fw_retq (x := none) (show decode _ _ = .ok (.areturn, 1) by decide +kernel) ⟨_, rfl, Or.inl ⟨_, rfl⟩⟩ ⟨_, rfl, h_1⟩
  · have h_2 := ineg hc17 h
    refine fw_iload_n (i := 1) 1 rfl (show decode _ _ = .ok (.iload_n 1, 1) by decide +kernel) ?_
    refine fw_aload_n (i := 0) 0 rfl (show decode _ _ = .ok (.aload_n 0, 1) by decide +kernel) ?_
    obtain ⟨⟨hr2, n1, hs3⟩, h_3⟩ := h_2
    refine fw_getI (kd := 5) (k := 14) (show decode _ _ = .ok (.getfield 56, 3) by decide +kernel) gf_X5_56 hr2 hs3 (Or.inl rfl) ?_
    refine fw_icmp_ge 30 (show decode _ _ = .ok (.if_icmp .ge 21, 3) by decide +kernel) (by decide) (fun hc16 => ?_) (fun hc16 => ?_)
    · have h_4 := ipos hc16 h_3
      refine fw_nullq (show decode _ _ = .ok (.aconst_null, 1) by decide +kernel) ?_
      exact fw_retq (x := none) (show decode _ _ = .ok (.areturn, 1) by decide +kernel) ⟨_, rfl, Or.inl ⟨_, rfl⟩⟩ ⟨_, rfl, h_4⟩
    · have h_5 := ineg hc16 h_3
      refine fw_iload_n (i := 1) 1 rfl (show decode _ _ = .ok (.iload_n 1, 1) by decide +kernel) ?_
      refine fw_aload_n (i := 0) 0 rfl (show decode _ _ = .ok (.aload_n 0, 1) by decide +kernel) ?_
      refine fw_getP (kd := 5) (k := 13) (show decode _ _ = .ok (.getfield 42, 3) by decide +kernel) gf_X5_42 hr2 hs3 rfl ?_
      have h_6 := dR_e h_5
      obtain ⟨y4, hy5, h_7⟩ := h_6
      refine fw_deref hy5 ?_
      obtain ⟨n6, hs7, h_8⟩ := h_7
      refine fw_alen (show decode _ _ = .ok (.arraylength, 1) by decide +kernel) hs7 (by decide) (by decide) (by decide) (fun h_8 => absurd h_8 (by decide)) ?_
      refine fw_icmp_ge 30 (show decode _ _ = .ok (.if_icmp .ge 12, 3) by decide +kernel) (by decide) (fun hc15 => ?_) (fun hc15 => ?_)
      · have h_9 := ipos hc15 h_8
        refine fw_nullq (show decode _ _ = .ok (.aconst_null, 1) by decide +kernel) ?_
        exact fw_retq (x := none) (show decode _ _ = .ok (.areturn, 1) by decide +kernel) ⟨_, rfl, Or.inl ⟨_, rfl⟩⟩ ⟨_, rfl, h_9⟩
      · have h_10 := ineg hc15 h_8
        refine fw_aload_n (i := 0) 0 rfl (show decode _ _ = .ok (.aload_n 0, 1) by decide +kernel) ?_
        refine fw_getP (kd := 5) (k := 13) (show decode _ _ = .ok (.getfield 42, 3) by decide +kernel) gf_X5_42 hr2 hs3 rfl ?_
        have h_11 := dR_e h_10
        obtain ⟨y8, hy9, h_12⟩ := h_11
        refine fw_deref hy9 ?_
        refine fw_iload_n (i := 1) 1 rfl (show decode _ _ = .ok (.iload_n 1, 1) by decide +kernel) ?_
        obtain ⟨⟨n10, hs11, hi12⟩, h_13⟩ := h_12
        refine fw_aald (kd := 16) (show decode _ _ = .ok (.aaload, 1) by decide +kernel) (by decide) hs11 hi12 ?_
        refine fw_nmP (fun o13 eo14 => ?_)
        have h_14 := h_13 o13 eo14
        refine fw_goto 31 (show decode _ _ = .ok (.goto 4, 3) by decide +kernel) (by decide) ?_
        exact fw_retq (x := o13) (show decode _ _ = .ok (.areturn, 1) by decide +kernel) ⟨_, rfl, Or.inl ⟨_, rfl⟩⟩ ⟨_, rfl, h_14⟩
