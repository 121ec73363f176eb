def w_X7_isDigit (p0 : Int32) (M : fM) (φ : Int32 → fM → Prop) : Prop := iF (p0 < (48 : Int32)) (φ (0 : Int32) M) (iF ((57 : Int32) < p0) (φ (0 : Int32) M) (φ (1 : Int32) M))
set_option maxRecDepth 100000 in
theorem s_X7_isDigit {g : GT} {d : Nat} (hd : 1 ≤ d) {p0 : Int32} {M : fM} {φ : Int32 → fM → Prop} (h : w_X7_isDigit p0 M φ) : FC g mtX7_isDigit d [.int p0] M 0 0 (rI φ) := by
  obtain ⟨d, rfl⟩ : ∃ e, d = e + 1 := ⟨d - 1, by omega⟩
  unfold w_X7_isDigit at h
  refine FC.intro (nL := 1) (by decide) rfl (Nat.le_of_ble_eq_true rfl) ?_
  show FW g mtX7_isDigit (d + 1) 0 [(0, .int p0)] [] M 0 0 (rI φ)
  refine fw_iload_n (i := 0) 0 rfl (show decode _ _ = .ok (.iload_n 0, 1) by decide +kernel) ?_
  refine fw_bipush (v := (48 : Int32)) (show decode _ _ = .ok (.bipush 48, 2) by decide +kernel) (by decide) ?_
  refine fw_icmp_lt 16 (show decode _ _ = .ok (.if_icmp .lt 13, 3) by decide +kernel) (by decide) (fun hc2 => ?_) (fun hc2 => ?_)
  · have h_1 := ipos hc2 h
    refine fw_iconst (v := (0 : Int32)) (show decode _ _ = .ok (.iconst 0, 1) by decide +kernel) (by decide) ?_
    exact fw_ret (v := some (.int (0 : Int32))) .ireturn (show decode _ _ = .ok (.ireturn, 1) by decide +kernel) ⟨rfl, Or.inr (Or.inl ⟨rfl, rfl⟩)⟩ ⟨_, rfl, h_1⟩
  · have h_2 := ineg hc2 h
    refine fw_iload_n (i := 0) 0 rfl (show decode _ _ = .ok (.iload_n 0, 1) by decide +kernel) ?_
    refine fw_bipush (v := (57 : Int32)) (show decode _ _ = .ok (.bipush 57, 2) by decide +kernel) (by decide) ?_
    refine fw_icmp_gt 16 (show decode _ _ = .ok (.if_icmp .gt 7, 3) by decide +kernel) (by decide) (fun hc1 => ?_) (fun hc1 => ?_)
    · have h_3 := ipos hc1 h_2
      refine fw_iconst (v := (0 : Int32)) (show decode _ _ = .ok (.iconst 0, 1) by decide +kernel) (by decide) ?_
      exact fw_ret (v := some (.int (0 : Int32))) .ireturn (show decode _ _ = .ok (.ireturn, 1) by decide +kernel) ⟨rfl, Or.inr (Or.inl ⟨rfl, rfl⟩)⟩ ⟨_, rfl, h_3⟩
    · have h_4 := ineg hc1 h_2
      refine fw_iconst (v := (1 : Int32)) (show decode _ _ = .ok (.iconst 1, 1) by decide +kernel) (by decide) ?_
      refine fw_goto 17 (show decode _ _ = .ok (.goto 4, 3) by decide +kernel) (by decide) ?_
      exact fw_ret (v := some (.int (1 : Int32))) .ireturn (show decode _ _ = .ok (.ireturn, 1) by decide +kernel) ⟨rfl, Or.inr (Or.inl ⟨rfl, rfl⟩)⟩ ⟨_, rfl, h_4⟩
def b_X7_scanNumber_2 (K2 : Nat → Int32 → fM → Prop) (φ : Int32 → fM → Prop) (p0 : Nat) (p1 : Int32) (M : fM) : Prop := isO M p0 7 ∧ iF ((mI M p0 1) ≤ (mI M p0 5)) (φ p1 M) (w_X7_byteAt p0 (mI M p0 5) M fun x5 M4 => w_X7_isDigit x5 M4 fun x7 M6 => iF (x7 = 0) (φ p1 M6) (isO M6 p0 7 ∧ w_X7_byteAt p0 (mI M6 p0 5) M6 fun x12 M11 => nm (imin (10000 : Int32) (((p1 * (10 : Int32)) + x12) - (48 : Int32))) fun x13 => isO M11 p0 7 ∧ nm ((mI M11 p0 5) + (1 : Int32)) fun x18 => st (wI M11 p0 5 x18) fun M20 => K2 p0 x13 M20))
def l_X7_scanNumber_2 (φ : Int32 → fM → Prop) : Nat → Nat → Int32 → fM → Prop
  | 0, _, _, _ => False
  | n + 1, p0, p1, M => b_X7_scanNumber_2 (l_X7_scanNumber_2 φ n) φ p0 p1 M
set_option maxRecDepth 100000 in
theorem sb_X7_scanNumber_2 {g : GT} {d : Nat} (hd : 3 ≤ d + 1) {K2 : Nat → Int32 → fM → Prop} {φ : Int32 → fM → Prop} (hK2 : ∀ (p0 : Nat) (p1 : Int32) (M : fM), K2 p0 p1 M → FW g mtX7_scanNumber (d + 1) 2 [(0, .ref p0), (1, .int p1)] [] M 0 0 (rI φ)) {p0 : Nat} {p1 : Int32} {M : fM} (h : b_X7_scanNumber_2 K2 φ p0 p1 M) : FW g mtX7_scanNumber (d + 1) 2 [(0, .ref p0), (1, .int p1)] [] M 0 0 (rI φ) := by
  unfold b_X7_scanNumber_2 at h
  refine fw_aload_n (i := 0) 0 rfl (show decode _ _ = .ok (.aload_n 0, 1) by decide +kernel) ?_
  obtain ⟨⟨hr2, n1, hs3⟩, h_1⟩ := h
  refine fw_getI (kd := 7) (k := 5) (show decode _ _ = .ok (.getfield 32, 3) by decide +kernel) gf_X7_32 hr2 hs3 (Or.inl rfl) ?_
  refine fw_aload_n (i := 0) 0 rfl (show decode _ _ = .ok (.aload_n 0, 1) by decide +kernel) ?_
  refine fw_getI (kd := 7) (k := 1) (show decode _ _ = .ok (.getfield 24, 3) by decide +kernel) gf_X7_24 hr2 hs3 (Or.inl rfl) ?_
  refine fw_icmp_ge 63 (show decode _ _ = .ok (.if_icmp .ge 53, 3) by decide +kernel) (by decide) (fun hc23 => ?_) (fun hc23 => ?_)
  · have h_2 := ipos hc23 h_1
    refine fw_iload_n (i := 1) 1 rfl (show decode _ _ = .ok (.iload_n 1, 1) by decide +kernel) ?_
    exact fw_ret (v := some (.int p1)) .ireturn (show decode _ _ = .ok (.ireturn, 1) by decide +kernel) ⟨rfl, Or.inl rfl⟩ ⟨_, rfl, h_2⟩
  · have h_3 := ineg hc23 h_1
    refine fw_aload_n (i := 0) 0 rfl (show decode _ _ = .ok (.aload_n 0, 1) by decide +kernel) ?_
    refine fw_aload_n (i := 0) 0 rfl (show decode _ _ = .ok (.aload_n 0, 1) by decide +kernel) ?_
    refine fw_getI (kd := 7) (k := 5) (show decode _ _ = .ok (.getfield 32, 3) by decide +kernel) gf_X7_32 hr2 hs3 (Or.inl rfl) ?_
    refine fw_callV (mt' := mtX7_byteAt) (mc := 0) (ms := 0) (As := [.int (mI M p0 5)]) (rest := []) 1 7 n1 (show decode _ _ = .ok (.invokevirtual 46, 3) by decide +kernel) cv_X7_46 ⟨_, rfl, rfl⟩ hr2 hs3 rfl (Nat.le_of_ble_eq_true rfl) (s_X7_byteAt (d := d) (hd_le hd (by decide)) h_3) (by decide) (by decide) (kI (bc' := 0) (bs' := 0) (by decide) (by decide) (fun x5 M4 h_4 => ?_))
    refine fw_callS (mt' := mtX7_isDigit) (mc := 0) (ms := 0) (As := [.int x5]) (rest := []) 1 (show decode _ _ = .ok (.invokestatic 49, 3) by decide +kernel) cs_X7_49 rfl (Nat.le_of_ble_eq_true rfl) (s_X7_isDigit (d := d) (hd_le hd (by decide)) h_4) (by decide) (by decide) (kI (bc' := 0) (bs' := 0) (by decide) (by decide) (fun x7 M6 h_5 => ?_))
    refine fw_if_eq 63 (show decode _ _ = .ok (.ifCond .eq 39, 3) by decide +kernel) (by decide) (fun hc22 => ?_) (fun hc22 => ?_)
    · have h_6 := ipos hc22 h_5
      refine fw_iload_n (i := 1) 1 rfl (show decode _ _ = .ok (.iload_n 1, 1) by decide +kernel) ?_
      exact fw_ret (v := some (.int p1)) .ireturn (show decode _ _ = .ok (.ireturn, 1) by decide +kernel) ⟨rfl, Or.inl rfl⟩ ⟨_, rfl, h_6⟩
    · have h_7 := ineg hc22 h_5
      refine fw_sipush (v := (10000 : Int32)) (show decode _ _ = .ok (.sipush 10000, 3) by decide +kernel) (by decide) ?_
      refine fw_iload_n (i := 1) 1 rfl (show decode _ _ = .ok (.iload_n 1, 1) by decide +kernel) ?_
      refine fw_bipush (v := (10 : Int32)) (show decode _ _ = .ok (.bipush 10, 2) by decide +kernel) (by decide) ?_
      refine fw_imul (show decode _ _ = .ok (.imul, 1) by decide +kernel) ?_
      refine fw_aload_n (i := 0) 0 rfl (show decode _ _ = .ok (.aload_n 0, 1) by decide +kernel) ?_
      refine fw_aload_n (i := 0) 0 rfl (show decode _ _ = .ok (.aload_n 0, 1) by decide +kernel) ?_
      obtain ⟨⟨hr9, n8, hs10⟩, h_8⟩ := h_7
      refine fw_getI (kd := 7) (k := 5) (show decode _ _ = .ok (.getfield 32, 3) by decide +kernel) gf_X7_32 hr9 hs10 (Or.inl rfl) ?_
      refine fw_callV (mt' := mtX7_byteAt) (mc := 0) (ms := 0) (As := [.int (mI M6 p0 5)]) (rest := [.int (p1 * (10 : Int32)), .int (10000 : Int32)]) 1 7 n8 (show decode _ _ = .ok (.invokevirtual 46, 3) by decide +kernel) cv_X7_46 ⟨_, rfl, rfl⟩ hr9 hs10 rfl (Nat.le_of_ble_eq_true rfl) (s_X7_byteAt (d := d) (hd_le hd (by decide)) h_8) (by decide) (by decide) (kI (bc' := 0) (bs' := 0) (by decide) (by decide) (fun x12 M11 h_9 => ?_))
      refine fw_iadd (show decode _ _ = .ok (.iadd, 1) by decide +kernel) ?_
      refine fw_bipush (v := (48 : Int32)) (show decode _ _ = .ok (.bipush 48, 2) by decide +kernel) (by decide) ?_
      refine fw_isub (show decode _ _ = .ok (.isub, 1) by decide +kernel) ?_
      refine fw_mmin (idx := 66) (rest := []) (show decode _ _ = .ok (.invokestatic 66, 3) by decide +kernel) ⟨wd640, wd641, wd142, wd642⟩ (Nat.le_of_ble_eq_true rfl) ?_
      refine fw_nmI (fun x13 ex14 => ?_)
      have h_10 := h_9 x13 ex14
      refine fw_istore_n (i := 1) (ls' := [(1, .int x13), (0, .ref p0)]) (show decode _ _ = .ok (.istore_n 1, 1) by decide +kernel) (by decide) rfl ?_
      refine fw_aload_n (i := 0) 1 rfl (show decode _ _ = .ok (.aload_n 0, 1) by decide +kernel) ?_
      refine fw_dup (show decode _ _ = .ok (.dup, 1) by decide +kernel) rfl ?_
      obtain ⟨⟨hr16, n15, hs17⟩, h_11⟩ := h_10
      refine fw_getI (kd := 7) (k := 5) (show decode _ _ = .ok (.getfield 32, 3) by decide +kernel) gf_X7_32 hr16 hs17 (Or.inl rfl) ?_
      refine fw_iconst (v := (1 : Int32)) (show decode _ _ = .ok (.iconst 1, 1) by decide +kernel) (by decide) ?_
      refine fw_iadd (show decode _ _ = .ok (.iadd, 1) by decide +kernel) ?_
      refine fw_nmI (fun x18 ex19 => ?_)
      have h_12 := h_11 x18 ex19
      refine fw_putI (kd := 7) (k := 5) (show decode _ _ = .ok (.putfield 32, 3) by decide +kernel) ⟨gf_X7_32, _, rfl, Or.inl rfl⟩ hr16 hs17 rfl ?_
      refine FW.nmM (fun M20 eM21 => ?_)
      have h_13 := h_12 M20 eM21
      refine fw_goto 2 (show decode _ _ = .ok (.goto (-58), 3) by decide +kernel) (by decide) ?_
      refine FW.sub [1, 0] (ls' := [(0, .ref p0), (1, .int x13)]) rfl ?_
      exact hK2 _ _ _ h_13
theorem sl_X7_scanNumber_2 {g : GT} {d : Nat} (hd : 3 ≤ d + 1) {φ : Int32 → fM → Prop} : ∀ (n : Nat) {p0 : Nat} {p1 : Int32} {M : fM}, l_X7_scanNumber_2 φ n p0 p1 M → FW g mtX7_scanNumber (d + 1) 2 [(0, .ref p0), (1, .int p1)] [] M 0 0 (rI φ)
  | 0 => fun h => h.elim
  | n + 1 => fun h => sb_X7_scanNumber_2 hd (fun _ _ _ h => sl_X7_scanNumber_2 hd n h) h
def w_X7_scanNumber (p0 : Nat) (M : fM) (φ : Int32 → fM → Prop) : Prop := ∃ n, l_X7_scanNumber_2 φ n p0 (0 : Int32) M
set_option maxRecDepth 100000 in
theorem s_X7_scanNumber {g : GT} {d : Nat} (hd : 3 ≤ d) {p0 : Nat} {M : fM} {φ : Int32 → fM → Prop} (h : w_X7_scanNumber p0 M φ) : FC g mtX7_scanNumber d [.ref p0] M 0 0 (rI φ) := by
  obtain ⟨d, rfl⟩ : ∃ e, d = e + 1 := ⟨d - 1, by omega⟩
  unfold w_X7_scanNumber at h
  refine FC.intro (nL := 2) (by decide) rfl (Nat.le_of_ble_eq_true rfl) ?_
  show FW g mtX7_scanNumber (d + 1) 0 [(0, .ref p0)] [] M 0 0 (rI φ)
  refine fw_iconst (v := (0 : Int32)) (show decode _ _ = .ok (.iconst 0, 1) by decide +kernel) (by decide) ?_
  refine fw_istore_n (i := 1) (ls' := [(1, .int (0 : Int32)), (0, .ref p0)]) (show decode _ _ = .ok (.istore_n 1, 1) by decide +kernel) (by decide) rfl ?_
  refine FW.sub [1, 0] (ls' := [(0, .ref p0), (1, .int (0 : Int32))]) rfl ?_
  obtain ⟨nn, h_1⟩ := h
  exact sl_X7_scanNumber_2 hd nn h_1
def j_X7_isLetter_12 (φ : Int32 → fM → Prop) (p0 : Int32) (M : fM) : Prop := iF (p0 < (65 : Int32)) (φ (0 : Int32) M) (iF ((90 : Int32) < p0) (φ (0 : Int32) M) (φ (1 : Int32) M))
set_option maxRecDepth 100000 in
theorem sj_X7_isLetter_12 {g : GT} {d : Nat} (hd : 1 ≤ d + 1) {φ : Int32 → fM → Prop} {p0 : Int32} {M : fM} (h : j_X7_isLetter_12 φ p0 M) : FW g mtX7_isLetter (d + 1) 12 [(0, .int p0)] [] M 0 0 (rI φ) := by
  unfold j_X7_isLetter_12 at h
  refine fw_iload_n (i := 0) 0 rfl (show decode _ _ = .ok (.iload_n 0, 1) by decide +kernel) ?_
  refine fw_bipush (v := (65 : Int32)) (show decode _ _ = .ok (.bipush 65, 2) by decide +kernel) (by decide) ?_
  refine fw_icmp_lt 28 (show decode _ _ = .ok (.if_icmp .lt 13, 3) by decide +kernel) (by decide) (fun hc2 => ?_) (fun hc2 => ?_)
  · have h_1 := ipos hc2 h
    refine fw_iconst (v := (0 : Int32)) (show decode _ _ = .ok (.iconst 0, 1) by decide +kernel) (by decide) ?_
    exact fw_ret (v := some (.int (0 : Int32))) .ireturn (show decode _ _ = .ok (.ireturn, 1) by decide +kernel) ⟨rfl, Or.inr (Or.inl ⟨rfl, rfl⟩)⟩ ⟨_, rfl, h_1⟩
  · have h_2 := ineg hc2 h
    refine fw_iload_n (i := 0) 0 rfl (show decode _ _ = .ok (.iload_n 0, 1) by decide +kernel) ?_
    refine fw_bipush (v := (90 : Int32)) (show decode _ _ = .ok (.bipush 90, 2) by decide +kernel) (by decide) ?_
    refine fw_icmp_gt 28 (show decode _ _ = .ok (.if_icmp .gt 7, 3) by decide +kernel) (by decide) (fun hc1 => ?_) (fun hc1 => ?_)
    · have h_3 := ipos hc1 h_2
      refine fw_iconst (v := (0 : Int32)) (show decode _ _ = .ok (.iconst 0, 1) by decide +kernel) (by decide) ?_
      exact fw_ret (v := some (.int (0 : Int32))) .ireturn (show decode _ _ = .ok (.ireturn, 1) by decide +kernel) ⟨rfl, Or.inr (Or.inl ⟨rfl, rfl⟩)⟩ ⟨_, rfl, h_3⟩
    · have h_4 := ineg hc1 h_2
      refine fw_iconst (v := (1 : Int32)) (show decode _ _ = .ok (.iconst 1, 1) by decide +kernel) (by decide) ?_
      refine fw_goto 29 (show decode _ _ = .ok (.goto 4, 3) by decide +kernel) (by decide) ?_
      exact fw_ret (v := some (.int (1 : Int32))) .ireturn (show decode _ _ = .ok (.ireturn, 1) by decide +kernel) ⟨rfl, Or.inr (Or.inl ⟨rfl, rfl⟩)⟩ ⟨_, rfl, h_4⟩
def w_X7_isLetter (p0 : Int32) (M : fM) (φ : Int32 → fM → Prop) : Prop := iF (p0 < (97 : Int32)) (j_X7_isLetter_12 φ p0 M) (iF (p0 ≤ (122 : Int32)) (φ (1 : Int32) M) (j_X7_isLetter_12 φ p0 M))
set_option maxRecDepth 100000 in
theorem s_X7_isLetter {g : GT} {d : Nat} (hd : 1 ≤ d) {p0 : Int32} {M : fM} {φ : Int32 → fM → Prop} (h : w_X7_isLetter p0 M φ) : FC g mtX7_isLetter d [.int p0] M 0 0 (rI φ) := by
  obtain ⟨d, rfl⟩ : ∃ e, d = e + 1 := ⟨d - 1, by omega⟩
  unfold w_X7_isLetter at h
  refine FC.intro (nL := 1) (by decide) rfl (Nat.le_of_ble_eq_true rfl) ?_
  show FW g mtX7_isLetter (d + 1) 0 [(0, .int p0)] [] M 0 0 (rI φ)
  refine fw_iload_n (i := 0) 0 rfl (show decode _ _ = .ok (.iload_n 0, 1) by decide +kernel) ?_
  refine fw_bipush (v := (97 : Int32)) (show decode _ _ = .ok (.bipush 97, 2) by decide +kernel) (by decide) ?_
  refine fw_icmp_lt 12 (show decode _ _ = .ok (.if_icmp .lt 9, 3) by decide +kernel) (by decide) (fun hc4 => ?_) (fun hc4 => ?_)
  · have h_1 := ipos hc4 h
    refine FW.sub [0] (ls' := [(0, .int p0)]) rfl ?_
    exact sj_X7_isLetter_12 hd h_1
  · have h_2 := ineg hc4 h
    refine fw_iload_n (i := 0) 0 rfl (show decode _ _ = .ok (.iload_n 0, 1) by decide +kernel) ?_
    refine fw_bipush (v := (122 : Int32)) (show decode _ _ = .ok (.bipush 122, 2) by decide +kernel) (by decide) ?_
    refine fw_icmp_le 24 (show decode _ _ = .ok (.if_icmp .le 15, 3) by decide +kernel) (by decide) (fun hc3 => ?_) (fun hc3 => ?_)
    · have h_3 := ipos hc3 h_2
      refine fw_iconst (v := (1 : Int32)) (show decode _ _ = .ok (.iconst 1, 1) by decide +kernel) (by decide) ?_
      refine fw_goto 29 (show decode _ _ = .ok (.goto 4, 3) by decide +kernel) (by decide) ?_
      exact fw_ret (v := some (.int (1 : Int32))) .ireturn (show decode _ _ = .ok (.ireturn, 1) by decide +kernel) ⟨rfl, Or.inr (Or.inl ⟨rfl, rfl⟩)⟩ ⟨_, rfl, h_3⟩
    · have h_4 := ineg hc3 h_2
      refine FW.sub [0] (ls' := [(0, .int p0)]) rfl ?_
      exact sj_X7_isLetter_12 hd h_4
def b_X7_isSpelled_5 (K5 : Nat → Int32 → Int32 → fM → Prop) (φ : Int32 → fM → Prop) (p0 : Nat) (p3 : Int32) (p4 : Int32) (M : fM) : Prop := isO M p0 7 ∧ iF ((mI M p0 5) ≤ p4) (w_J0_length_8abf5  M fun x5 M4 => iF (x5 ≤ p3) (φ (0 : Int32) M4) (w_J0_charAt_5068e p3 M4 fun x7 M6 => iF (x7 = (32 : Int32)) (φ (1 : Int32) M6) (φ (0 : Int32) M6))) (w_J0_length_8abf5  M fun x11 M10 => iF (x11 ≤ p3) (φ (0 : Int32) M10) (w_J0_charAt_5068e p3 M10 fun x13 M12 => isO M12 p0 7 ∧ w_X7_byteAt p0 p4 M12 fun x18 M14 => iF (x13 = x18) (nm (p3 + (1 : Int32)) fun x19 => nm (p4 + (1 : Int32)) fun x21 => K5 p0 x19 x21 M14) (φ (0 : Int32) M14)))
def l_X7_isSpelled_5 (φ : Int32 → fM → Prop) : Nat → Nat → Int32 → Int32 → fM → Prop
  | 0, _, _, _, _ => False
  | n + 1, p0, p3, p4, M => b_X7_isSpelled_5 (l_X7_isSpelled_5 φ n) φ p0 p3 p4 M
set_option maxRecDepth 100000 in
theorem sb_X7_isSpelled_5 {g : GT} {d : Nat} (hd : 5 ≤ d + 1) {K5 : Nat → Int32 → Int32 → fM → Prop} {φ : Int32 → fM → Prop} (hK5 : ∀ (p0 : Nat) (p3 : Int32) (p4 : Int32) (M : fM), K5 p0 p3 p4 M → FW g mtX7_isSpelled (d + 1) 5 [(0, .ref p0), (3, .int p3), (4, .int p4)] [] M 0 0 (rI φ)) {p0 : Nat} {p3 : Int32} {p4 : Int32} {M : fM} (h : b_X7_isSpelled_5 K5 φ p0 p3 p4 M) : FW g mtX7_isSpelled (d + 1) 5 [(0, .ref p0), (3, .int p3), (4, .int p4)] [] M 0 0 (rI φ) := by
  unfold b_X7_isSpelled_5 at h
  refine fw_iload (i := 4) 2 rfl (show decode _ _ = .ok (.iload 4, 2) by decide +kernel) ?_
  refine fw_aload_n (i := 0) 0 rfl (show decode _ _ = .ok (.aload_n 0, 1) by decide +kernel) ?_
  obtain ⟨⟨hr2, n1, hs3⟩, h_1⟩ := h
  refine fw_getI (kd := 7) (k := 5) (show decode _ _ = .ok (.getfield 32, 3) by decide +kernel) gf_X7_32 hr2 hs3 (Or.inl rfl) ?_
  refine fw_icmp_ge 49 (show decode _ _ = .ok (.if_icmp .ge 38, 3) by decide +kernel) (by decide) (fun hc25 => ?_) (fun hc25 => ?_)
  · have h_2 := ipos hc25 h_1
    refine fw_iload_n (i := 3) 1 rfl (show decode _ _ = .ok (.iload_n 3, 1) by decide +kernel) ?_
    refine fw_ldcS (idx := 72) (show decode _ _ = .ok (.ldc 72, 2) by decide +kernel) ⟨rfl, rfl⟩ ?_
    refine fw_callT (mt' := mtJ0_length_8abf5) (mc := 0) (ms := 0) (As := []) (rest := [.int p3]) 0 (show decode _ _ = .ok (.invokevirtual 74, 3) by decide +kernel) cv_X7_74 rfl rfl (Nat.le_of_ble_eq_true rfl) (s_J0_length_8abf5 (d := d) (hd_le hd (by decide)) h_2) (by decide) (by decide) (kI (bc' := 0) (bs' := 0) (by decide) (by decide) (fun x5 M4 h_3 => ?_))
    refine fw_icmp_ge 73 (show decode _ _ = .ok (.if_icmp .ge 18, 3) by decide +kernel) (by decide) (fun hc9 => ?_) (fun hc9 => ?_)
    · have h_4 := ipos hc9 h_3
      refine fw_iconst (v := (0 : Int32)) (show decode _ _ = .ok (.iconst 0, 1) by decide +kernel) (by decide) ?_
      exact fw_ret (v := some (.int (0 : Int32))) .ireturn (show decode _ _ = .ok (.ireturn, 1) by decide +kernel) ⟨rfl, Or.inr (Or.inl ⟨rfl, rfl⟩)⟩ ⟨_, rfl, h_4⟩
    · have h_5 := ineg hc9 h_3
      refine fw_ldcS (idx := 72) (show decode _ _ = .ok (.ldc 72, 2) by decide +kernel) ⟨rfl, rfl⟩ ?_
      refine fw_iload_n (i := 3) 1 rfl (show decode _ _ = .ok (.iload_n 3, 1) by decide +kernel) ?_
      refine fw_callT (mt' := mtJ0_charAt_5068e) (mc := 0) (ms := 0) (As := [.int p3]) (rest := []) 1 (show decode _ _ = .ok (.invokevirtual 78, 3) by decide +kernel) cv_X7_78 rfl rfl (Nat.le_of_ble_eq_true rfl) (s_J0_charAt_5068e (d := d) (hd_le hd (by decide)) h_5) (by decide) (by decide) (kI (bc' := 0) (bs' := 0) (by decide) (by decide) (fun x7 M6 h_6 => ?_))
      refine fw_bipush (v := (32 : Int32)) (show decode _ _ = .ok (.bipush 32, 2) by decide +kernel) (by decide) ?_
      refine fw_icmp_ne 73 (show decode _ _ = .ok (.if_icmp .ne 7, 3) by decide +kernel) (by decide) (fun hc8 => ?_) (fun hc8 => ?_)
      · have h_7 := ineg hc8 h_6
        refine fw_iconst (v := (0 : Int32)) (show decode _ _ = .ok (.iconst 0, 1) by decide +kernel) (by decide) ?_
        exact fw_ret (v := some (.int (0 : Int32))) .ireturn (show decode _ _ = .ok (.ireturn, 1) by decide +kernel) ⟨rfl, Or.inr (Or.inl ⟨rfl, rfl⟩)⟩ ⟨_, rfl, h_7⟩
      · have h_8 := ipos hc8 h_6
        refine fw_iconst (v := (1 : Int32)) (show decode _ _ = .ok (.iconst 1, 1) by decide +kernel) (by decide) ?_
        refine fw_goto 74 (show decode _ _ = .ok (.goto 4, 3) by decide +kernel) (by decide) ?_
        exact fw_ret (v := some (.int (1 : Int32))) .ireturn (show decode _ _ = .ok (.ireturn, 1) by decide +kernel) ⟨rfl, Or.inr (Or.inl ⟨rfl, rfl⟩)⟩ ⟨_, rfl, h_8⟩
  · have h_9 := ineg hc25 h_1
    refine fw_iload_n (i := 3) 1 rfl (show decode _ _ = .ok (.iload_n 3, 1) by decide +kernel) ?_
    refine fw_ldcS (idx := 72) (show decode _ _ = .ok (.ldc 72, 2) by decide +kernel) ⟨rfl, rfl⟩ ?_
    refine fw_callT (mt' := mtJ0_length_8abf5) (mc := 0) (ms := 0) (As := []) (rest := [.int p3]) 0 (show decode _ _ = .ok (.invokevirtual 74, 3) by decide +kernel) cv_X7_74 rfl rfl (Nat.le_of_ble_eq_true rfl) (s_J0_length_8abf5 (d := d) (hd_le hd (by decide)) h_9) (by decide) (by decide) (kI (bc' := 0) (bs' := 0) (by decide) (by decide) (fun x11 M10 h_10 => ?_))
    refine fw_icmp_ge 38 (show decode _ _ = .ok (.if_icmp .ge 18, 3) by decide +kernel) (by decide) (fun hc24 => ?_) (fun hc24 => ?_)
    · have h_11 := ipos hc24 h_10
      refine fw_iconst (v := (0 : Int32)) (show decode _ _ = .ok (.iconst 0, 1) by decide +kernel) (by decide) ?_
      exact fw_ret (v := some (.int (0 : Int32))) .ireturn (show decode _ _ = .ok (.ireturn, 1) by decide +kernel) ⟨rfl, Or.inr (Or.inl ⟨rfl, rfl⟩)⟩ ⟨_, rfl, h_11⟩
    · have h_12 := ineg hc24 h_10
      refine fw_ldcS (idx := 72) (show decode _ _ = .ok (.ldc 72, 2) by decide +kernel) ⟨rfl, rfl⟩ ?_
      refine fw_iload_n (i := 3) 1 rfl (show decode _ _ = .ok (.iload_n 3, 1) by decide +kernel) ?_
      refine fw_callT (mt' := mtJ0_charAt_5068e) (mc := 0) (ms := 0) (As := [.int p3]) (rest := []) 1 (show decode _ _ = .ok (.invokevirtual 78, 3) by decide +kernel) cv_X7_78 rfl rfl (Nat.le_of_ble_eq_true rfl) (s_J0_charAt_5068e (d := d) (hd_le hd (by decide)) h_12) (by decide) (by decide) (kI (bc' := 0) (bs' := 0) (by decide) (by decide) (fun x13 M12 h_13 => ?_))
      refine fw_aload_n (i := 0) 0 rfl (show decode _ _ = .ok (.aload_n 0, 1) by decide +kernel) ?_
      refine fw_iload (i := 4) 2 rfl (show decode _ _ = .ok (.iload 4, 2) by decide +kernel) ?_
      obtain ⟨⟨hr16, n15, hs17⟩, h_14⟩ := h_13
      refine fw_callV (mt' := mtX7_byteAt) (mc := 0) (ms := 0) (As := [.int p4]) (rest := [.int x13]) 1 7 n15 (show decode _ _ = .ok (.invokevirtual 46, 3) by decide +kernel) cv_X7_46 ⟨_, rfl, rfl⟩ hr16 hs17 rfl (Nat.le_of_ble_eq_true rfl) (s_X7_byteAt (d := d) (hd_le hd (by decide)) h_14) (by decide) (by decide) (kI (bc' := 0) (bs' := 0) (by decide) (by decide) (fun x18 M14 h_15 => ?_))
      refine fw_icmp_eq 40 (show decode _ _ = .ok (.if_icmp .eq 5, 3) by decide +kernel) (by decide) (fun hc23 => ?_) (fun hc23 => ?_)
      · have h_16 := ipos hc23 h_15
        obtain ⟨x19, ex20⟩ : ∃ y : Int32, y = p3 + (1 : Int32) := ⟨_, rfl⟩
        have h_17 := h_16 x19 ex20
        refine fw_iinc (i := 3) (x := p3) (v := x19) (ls' := [(3, .int x19), (0, .ref p0), (4, .int p4)]) 1 rfl (show decode _ _ = .ok (.iinc 3 1, 3) by decide +kernel) (by rw [ex20]; rfl) (by decide) rfl ?_
        obtain ⟨x21, ex22⟩ : ∃ y : Int32, y = p4 + (1 : Int32) := ⟨_, rfl⟩
        have h_18 := h_17 x21 ex22
        refine fw_iinc (i := 4) (x := p4) (v := x21) (ls' := [(4, .int x21), (3, .int x19), (0, .ref p0)]) 2 rfl (show decode _ _ = .ok (.iinc 4 1, 3) by decide +kernel) (by rw [ex22]; rfl) (by decide) rfl ?_
        refine fw_goto 5 (show decode _ _ = .ok (.goto (-41), 3) by decide +kernel) (by decide) ?_
        refine FW.sub [2, 1, 0] (ls' := [(0, .ref p0), (3, .int x19), (4, .int x21)]) rfl ?_
        exact hK5 _ _ _ _ h_18
      · have h_19 := ineg hc23 h_15
        refine fw_iconst (v := (0 : Int32)) (show decode _ _ = .ok (.iconst 0, 1) by decide +kernel) (by decide) ?_
        exact fw_ret (v := some (.int (0 : Int32))) .ireturn (show decode _ _ = .ok (.ireturn, 1) by decide +kernel) ⟨rfl, Or.inr (Or.inl ⟨rfl, rfl⟩)⟩ ⟨_, rfl, h_19⟩
theorem sl_X7_isSpelled_5 {g : GT} {d : Nat} (hd : 5 ≤ d + 1) {φ : Int32 → fM → Prop} : ∀ (n : Nat) {p0 : Nat} {p3 : Int32} {p4 : Int32} {M : fM}, l_X7_isSpelled_5 φ n p0 p3 p4 M → FW g mtX7_isSpelled (d + 1) 5 [(0, .ref p0), (3, .int p3), (4, .int p4)] [] M 0 0 (rI φ)
  | 0 => fun h => h.elim
  | n + 1 => fun h => sb_X7_isSpelled_5 hd (fun _ _ _ _ h => sl_X7_isSpelled_5 hd n h) h
def w_X7_isSpelled (p0 : Nat) (p1 : Int32) (p2 : Int32) (M : fM) (φ : Int32 → fM → Prop) : Prop := ∃ n, l_X7_isSpelled_5 φ n p0 p2 p1 M
set_option maxRecDepth 100000 in
theorem s_X7_isSpelled {g : GT} {d : Nat} (hd : 5 ≤ d) {p0 : Nat} {p1 : Int32} {p2 : Int32} {M : fM} {φ : Int32 → fM → Prop} (h : w_X7_isSpelled p0 p1 p2 M φ) : FC g mtX7_isSpelled d [.ref p0, .int p1, .int p2] M 0 0 (rI φ) := by
  obtain ⟨d, rfl⟩ : ∃ e, d = e + 1 := ⟨d - 1, by omega⟩
  unfold w_X7_isSpelled at h
  refine FC.intro (nL := 5) (by decide) rfl (Nat.le_of_ble_eq_true rfl) ?_
  show FW g mtX7_isSpelled (d + 1) 0 [(0, .ref p0), (1, .int p1), (2, .int p2)] [] M 0 0 (rI φ)
  refine fw_iload_n (i := 2) 2 rfl (show decode _ _ = .ok (.iload_n 2, 1) by decide +kernel) ?_
  refine fw_istore_n (i := 3) (ls' := [(3, .int p2), (0, .ref p0), (1, .int p1), (2, .int p2)]) (show decode _ _ = .ok (.istore_n 3, 1) by decide +kernel) (by decide) rfl ?_
  refine fw_iload_n (i := 1) 2 rfl (show decode _ _ = .ok (.iload_n 1, 1) by decide +kernel) ?_
  refine fw_istore (i := 4) (ls' := [(4, .int p1), (3, .int p2), (0, .ref p0), (1, .int p1), (2, .int p2)]) (show decode _ _ = .ok (.istore 4, 2) by decide +kernel) (by decide) rfl ?_
  refine FW.sub [2, 1, 0] (ls' := [(0, .ref p0), (3, .int p2), (4, .int p1)]) rfl ?_
  obtain ⟨nn, h_1⟩ := h
  exact sl_X7_isSpelled_5 hd nn h_1
def b_X7_scanWord_47 (K47 : Nat → Int32 → Int32 → Int32 → fM → Prop) (φ : Int32 → fM → Prop) (p0 : Nat) (p1 : Int32) (p2 : Int32) (p3 : Int32) (M : fM) : Prop := w_J0_length_8abf5  M fun x2 M1 => iF (x2 ≤ (p3 + (1 : Int32))) (φ (62 : Int32) M1) (w_J0_charAt_5068e p3 M1 fun x4 M3 => iF (x4 = (32 : Int32)) (isO M3 p0 7 ∧ w_X7_isSpelled p0 p1 (p3 + (1 : Int32)) M3 fun x11 M7 => iF (x11 = 0) (nm (p2 + (1 : Int32)) fun x12 => nm (p3 + (1 : Int32)) fun x14 => K47 p0 p1 x12 x14 M7) (φ p2 M7)) (nm (p3 + (1 : Int32)) fun x5 => K47 p0 p1 p2 x5 M3))
def l_X7_scanWord_47 (φ : Int32 → fM → Prop) : Nat → Nat → Int32 → Int32 → Int32 → fM → Prop
  | 0, _, _, _, _, _ => False
  | n + 1, p0, p1, p2, p3, M => b_X7_scanWord_47 (l_X7_scanWord_47 φ n) φ p0 p1 p2 p3 M
set_option maxRecDepth 100000 in
theorem sb_X7_scanWord_47 {g : GT} {d : Nat} (hd : 6 ≤ d + 1) {K47 : Nat → Int32 → Int32 → Int32 → fM → Prop} {φ : Int32 → fM → Prop} (hK47 : ∀ (p0 : Nat) (p1 : Int32) (p2 : Int32) (p3 : Int32) (M : fM), K47 p0 p1 p2 p3 M → FW g mtX7_scanWord (d + 1) 47 [(0, .ref p0), (1, .int p1), (2, .int p2), (3, .int p3)] [] M 0 0 (rI φ)) {p0 : Nat} {p1 : Int32} {p2 : Int32} {p3 : Int32} {M : fM} (h : b_X7_scanWord_47 K47 φ p0 p1 p2 p3 M) : FW g mtX7_scanWord (d + 1) 47 [(0, .ref p0), (1, .int p1), (2, .int p2), (3, .int p3)] [] M 0 0 (rI φ) := by
  unfold b_X7_scanWord_47 at h
  refine fw_iload_n (i := 3) 3 rfl (show decode _ _ = .ok (.iload_n 3, 1) by decide +kernel) ?_
  refine fw_iconst (v := (1 : Int32)) (show decode _ _ = .ok (.iconst 1, 1) by decide +kernel) (by decide) ?_
  refine fw_iadd (show decode _ _ = .ok (.iadd, 1) by decide +kernel) ?_
  refine fw_ldcS (idx := 72) (show decode _ _ = .ok (.ldc 72, 2) by decide +kernel) ⟨rfl, rfl⟩ ?_
  refine fw_callT (mt' := mtJ0_length_8abf5) (mc := 0) (ms := 0) (As := []) (rest := [.int (p3 + (1 : Int32))]) 0 (show decode _ _ = .ok (.invokevirtual 74, 3) by decide +kernel) cv_X7_74 rfl rfl (Nat.le_of_ble_eq_true rfl) (s_J0_length_8abf5 (d := d) (hd_le hd (by decide)) h) (by decide) (by decide) (kI (bc' := 0) (bs' := 0) (by decide) (by decide) (fun x2 M1 h_1 => ?_))
  refine fw_icmp_ge 91 (show decode _ _ = .ok (.if_icmp .ge 36, 3) by decide +kernel) (by decide) (fun hc18 => ?_) (fun hc18 => ?_)
  · have h_2 := ipos hc18 h_1
    refine fw_bipush (v := (62 : Int32)) (show decode _ _ = .ok (.bipush 62, 2) by decide +kernel) (by decide) ?_
    exact fw_ret (v := some (.int (62 : Int32))) .ireturn (show decode _ _ = .ok (.ireturn, 1) by decide +kernel) ⟨rfl, Or.inl rfl⟩ ⟨_, rfl, h_2⟩
  · have h_3 := ineg hc18 h_1
    refine fw_ldcS (idx := 72) (show decode _ _ = .ok (.ldc 72, 2) by decide +kernel) ⟨rfl, rfl⟩ ?_
    refine fw_iload_n (i := 3) 3 rfl (show decode _ _ = .ok (.iload_n 3, 1) by decide +kernel) ?_
    refine fw_callT (mt' := mtJ0_charAt_5068e) (mc := 0) (ms := 0) (As := [.int p3]) (rest := []) 1 (show decode _ _ = .ok (.invokevirtual 78, 3) by decide +kernel) cv_X7_78 rfl rfl (Nat.le_of_ble_eq_true rfl) (s_J0_charAt_5068e (d := d) (hd_le hd (by decide)) h_3) (by decide) (by decide) (kI (bc' := 0) (bs' := 0) (by decide) (by decide) (fun x4 M3 h_4 => ?_))
    refine fw_bipush (v := (32 : Int32)) (show decode _ _ = .ok (.bipush 32, 2) by decide +kernel) (by decide) ?_
    refine fw_icmp_ne 85 (show decode _ _ = .ok (.if_icmp .ne 19, 3) by decide +kernel) (by decide) (fun hc17 => ?_) (fun hc17 => ?_)
    · have h_5 := ineg hc17 h_4
      obtain ⟨x5, ex6⟩ : ∃ y : Int32, y = p3 + (1 : Int32) := ⟨_, rfl⟩
      have h_6 := h_5 x5 ex6
      refine fw_iinc (i := 3) (x := p3) (v := x5) (ls' := [(3, .int x5), (0, .ref p0), (1, .int p1), (2, .int p2)]) 3 rfl (show decode _ _ = .ok (.iinc 3 1, 3) by decide +kernel) (by rw [ex6]; rfl) (by decide) rfl ?_
      refine fw_goto 47 (show decode _ _ = .ok (.goto (-41), 3) by decide +kernel) (by decide) ?_
      refine FW.sub [1, 2, 3, 0] (ls' := [(0, .ref p0), (1, .int p1), (2, .int p2), (3, .int x5)]) rfl ?_
      exact hK47 _ _ _ _ _ h_6
    · have h_7 := ipos hc17 h_4
      refine fw_aload_n (i := 0) 0 rfl (show decode _ _ = .ok (.aload_n 0, 1) by decide +kernel) ?_
      refine fw_iload_n (i := 1) 1 rfl (show decode _ _ = .ok (.iload_n 1, 1) by decide +kernel) ?_
      refine fw_iload_n (i := 3) 3 rfl (show decode _ _ = .ok (.iload_n 3, 1) by decide +kernel) ?_
      refine fw_iconst (v := (1 : Int32)) (show decode _ _ = .ok (.iconst 1, 1) by decide +kernel) (by decide) ?_
      refine fw_iadd (show decode _ _ = .ok (.iadd, 1) by decide +kernel) ?_
      obtain ⟨⟨hr9, n8, hs10⟩, h_8⟩ := h_7
      refine fw_callV (mt' := mtX7_isSpelled) (mc := 0) (ms := 0) (As := [.int p1, .int (p3 + (1 : Int32))]) (rest := []) 2 7 n8 (show decode _ _ = .ok (.invokevirtual 82, 3) by decide +kernel) cv_X7_82 ⟨_, rfl, rfl⟩ hr9 hs10 rfl (Nat.le_of_ble_eq_true rfl) (s_X7_isSpelled (d := d) (hd_le hd (by decide)) h_8) (by decide) (by decide) (kI (bc' := 0) (bs' := 0) (by decide) (by decide) (fun x11 M7 h_9 => ?_))
      refine fw_if_eq 82 (show decode _ _ = .ok (.ifCond .eq 5, 3) by decide +kernel) (by decide) (fun hc16 => ?_) (fun hc16 => ?_)
      · have h_10 := ipos hc16 h_9
        obtain ⟨x12, ex13⟩ : ∃ y : Int32, y = p2 + (1 : Int32) := ⟨_, rfl⟩
        have h_11 := h_10 x12 ex13
        refine fw_iinc (i := 2) (x := p2) (v := x12) (ls' := [(2, .int x12), (0, .ref p0), (1, .int p1), (3, .int p3)]) 2 rfl (show decode _ _ = .ok (.iinc 2 1, 3) by decide +kernel) (by rw [ex13]; rfl) (by decide) rfl ?_
        obtain ⟨x14, ex15⟩ : ∃ y : Int32, y = p3 + (1 : Int32) := ⟨_, rfl⟩
        have h_12 := h_11 x14 ex15
        refine fw_iinc (i := 3) (x := p3) (v := x14) (ls' := [(3, .int x14), (2, .int x12), (0, .ref p0), (1, .int p1)]) 3 rfl (show decode _ _ = .ok (.iinc 3 1, 3) by decide +kernel) (by rw [ex15]; rfl) (by decide) rfl ?_
        refine fw_goto 47 (show decode _ _ = .ok (.goto (-41), 3) by decide +kernel) (by decide) ?_
        refine FW.sub [2, 3, 1, 0] (ls' := [(0, .ref p0), (1, .int p1), (2, .int x12), (3, .int x14)]) rfl ?_
        exact hK47 _ _ _ _ _ h_12
      · have h_13 := ineg hc16 h_9
        refine fw_iload_n (i := 2) 2 rfl (show decode _ _ = .ok (.iload_n 2, 1) by decide +kernel) ?_
        exact fw_ret (v := some (.int p2)) .ireturn (show decode _ _ = .ok (.ireturn, 1) by decide +kernel) ⟨rfl, Or.inl rfl⟩ ⟨_, rfl, h_13⟩
theorem sl_X7_scanWord_47 {g : GT} {d : Nat} (hd : 6 ≤ d + 1) {φ : Int32 → fM → Prop} : ∀ (n : Nat) {p0 : Nat} {p1 : Int32} {p2 : Int32} {p3 : Int32} {M : fM}, l_X7_scanWord_47 φ n p0 p1 p2 p3 M → FW g mtX7_scanWord (d + 1) 47 [(0, .ref p0), (1, .int p1), (2, .int p2), (3, .int p3)] [] M 0 0 (rI φ)
  | 0 => fun h => h.elim
  | n + 1 => fun h => sb_X7_scanWord_47 hd (fun _ _ _ _ _ h => sl_X7_scanWord_47 hd n h) h
def b_X7_scanWord_5 (K5 : Nat → Int32 → fM → Prop) (φ : Int32 → fM → Prop) (p0 : Nat) (p1 : Int32) (M : fM) : Prop := isO M p0 7 ∧ iF ((mI M p0 1) ≤ (mI M p0 5)) (∃ n, l_X7_scanWord_47 φ n p0 p1 (0 : Int32) (0 : Int32) M) (w_X7_byteAt p0 (mI M p0 5) M fun x23 M22 => w_X7_isLetter x23 M22 fun x25 M24 => iF (x25 = 0) (∃ n, l_X7_scanWord_47 φ n p0 p1 (0 : Int32) (0 : Int32) M24) (isO M24 p0 7 ∧ nm ((mI M24 p0 5) + (1 : Int32)) fun x29 => st (wI M24 p0 5 x29) fun M31 => K5 p0 p1 M31))
def l_X7_scanWord_5 (φ : Int32 → fM → Prop) : Nat → Nat → Int32 → fM → Prop
  | 0, _, _, _ => False
  | n + 1, p0, p1, M => b_X7_scanWord_5 (l_X7_scanWord_5 φ n) φ p0 p1 M
set_option maxRecDepth 100000 in
theorem sb_X7_scanWord_5 {g : GT} {d : Nat} (hd : 6 ≤ d + 1) {K5 : Nat → Int32 → fM → Prop} {φ : Int32 → fM → Prop} (hK5 : ∀ (p0 : Nat) (p1 : Int32) (M : fM), K5 p0 p1 M → FW g mtX7_scanWord (d + 1) 5 [(0, .ref p0), (1, .int p1)] [] M 0 0 (rI φ)) {p0 : Nat} {p1 : Int32} {M : fM} (h : b_X7_scanWord_5 K5 φ p0 p1 M) : FW g mtX7_scanWord (d + 1) 5 [(0, .ref p0), (1, .int p1)] [] M 0 0 (rI φ) := by
  unfold b_X7_scanWord_5 at h
  refine fw_aload_n (i := 0) 0 rfl (show decode _ _ = .ok (.aload_n 0, 1) by decide +kernel) ?_
  obtain ⟨⟨hr20, n19, hs21⟩, h_1⟩ := h
  refine fw_getI (kd := 7) (k := 5) (show decode _ _ = .ok (.getfield 32, 3) by decide +kernel) gf_X7_32 hr20 hs21 (Or.inl rfl) ?_
  refine fw_aload_n (i := 0) 0 rfl (show decode _ _ = .ok (.aload_n 0, 1) by decide +kernel) ?_
  refine fw_getI (kd := 7) (k := 1) (show decode _ _ = .ok (.getfield 24, 3) by decide +kernel) gf_X7_24 hr20 hs21 (Or.inl rfl) ?_
  refine fw_icmp_ge 43 (show decode _ _ = .ok (.if_icmp .ge 30, 3) by decide +kernel) (by decide) (fun hc34 => ?_) (fun hc34 => ?_)
  · have h_2 := ipos hc34 h_1
    refine fw_iconst (v := (0 : Int32)) (show decode _ _ = .ok (.iconst 0, 1) by decide +kernel) (by decide) ?_
    refine fw_istore_n (i := 2) (ls' := [(2, .int (0 : Int32)), (0, .ref p0), (1, .int p1)]) (show decode _ _ = .ok (.istore_n 2, 1) by decide +kernel) (by decide) rfl ?_
    refine fw_iconst (v := (0 : Int32)) (show decode _ _ = .ok (.iconst 0, 1) by decide +kernel) (by decide) ?_
    refine fw_istore_n (i := 3) (ls' := [(3, .int (0 : Int32)), (2, .int (0 : Int32)), (0, .ref p0), (1, .int p1)]) (show decode _ _ = .ok (.istore_n 3, 1) by decide +kernel) (by decide) rfl ?_
    refine FW.sub [2, 3, 1, 0] (ls' := [(0, .ref p0), (1, .int p1), (2, .int (0 : Int32)), (3, .int (0 : Int32))]) rfl ?_
    obtain ⟨nn, h_3⟩ := h_2
    exact sl_X7_scanWord_47 hd nn h_3
  · have h_4 := ineg hc34 h_1
    refine fw_aload_n (i := 0) 0 rfl (show decode _ _ = .ok (.aload_n 0, 1) by decide +kernel) ?_
    refine fw_aload_n (i := 0) 0 rfl (show decode _ _ = .ok (.aload_n 0, 1) by decide +kernel) ?_
    refine fw_getI (kd := 7) (k := 5) (show decode _ _ = .ok (.getfield 32, 3) by decide +kernel) gf_X7_32 hr20 hs21 (Or.inl rfl) ?_
    refine fw_callV (mt' := mtX7_byteAt) (mc := 0) (ms := 0) (As := [.int (mI M p0 5)]) (rest := []) 1 7 n19 (show decode _ _ = .ok (.invokevirtual 46, 3) by decide +kernel) cv_X7_46 ⟨_, rfl, rfl⟩ hr20 hs21 rfl (Nat.le_of_ble_eq_true rfl) (s_X7_byteAt (d := d) (hd_le hd (by decide)) h_4) (by decide) (by decide) (kI (bc' := 0) (bs' := 0) (by decide) (by decide) (fun x23 M22 h_5 => ?_))
    refine fw_callS (mt' := mtX7_isLetter) (mc := 0) (ms := 0) (As := [.int x23]) (rest := []) 1 (show decode _ _ = .ok (.invokestatic 57, 3) by decide +kernel) cs_X7_57 rfl (Nat.le_of_ble_eq_true rfl) (s_X7_isLetter (d := d) (hd_le hd (by decide)) h_5) (by decide) (by decide) (kI (bc' := 0) (bs' := 0) (by decide) (by decide) (fun x25 M24 h_6 => ?_))
    refine fw_if_eq 43 (show decode _ _ = .ok (.ifCond .eq 16, 3) by decide +kernel) (by decide) (fun hc33 => ?_) (fun hc33 => ?_)
    · have h_7 := ipos hc33 h_6
      refine fw_iconst (v := (0 : Int32)) (show decode _ _ = .ok (.iconst 0, 1) by decide +kernel) (by decide) ?_
      refine fw_istore_n (i := 2) (ls' := [(2, .int (0 : Int32)), (0, .ref p0), (1, .int p1)]) (show decode _ _ = .ok (.istore_n 2, 1) by decide +kernel) (by decide) rfl ?_
      refine fw_iconst (v := (0 : Int32)) (show decode _ _ = .ok (.iconst 0, 1) by decide +kernel) (by decide) ?_
      refine fw_istore_n (i := 3) (ls' := [(3, .int (0 : Int32)), (2, .int (0 : Int32)), (0, .ref p0), (1, .int p1)]) (show decode _ _ = .ok (.istore_n 3, 1) by decide +kernel) (by decide) rfl ?_
      refine FW.sub [2, 3, 1, 0] (ls' := [(0, .ref p0), (1, .int p1), (2, .int (0 : Int32)), (3, .int (0 : Int32))]) rfl ?_
      obtain ⟨nn, h_8⟩ := h_7
      exact sl_X7_scanWord_47 hd nn h_8
    · have h_9 := ineg hc33 h_6
      refine fw_aload_n (i := 0) 0 rfl (show decode _ _ = .ok (.aload_n 0, 1) by decide +kernel) ?_
      refine fw_dup (show decode _ _ = .ok (.dup, 1) by decide +kernel) rfl ?_
      obtain ⟨⟨hr27, n26, hs28⟩, h_10⟩ := h_9
      refine fw_getI (kd := 7) (k := 5) (show decode _ _ = .ok (.getfield 32, 3) by decide +kernel) gf_X7_32 hr27 hs28 (Or.inl rfl) ?_
      refine fw_iconst (v := (1 : Int32)) (show decode _ _ = .ok (.iconst 1, 1) by decide +kernel) (by decide) ?_
      refine fw_iadd (show decode _ _ = .ok (.iadd, 1) by decide +kernel) ?_
      refine fw_nmI (fun x29 ex30 => ?_)
      have h_11 := h_10 x29 ex30
      refine fw_putI (kd := 7) (k := 5) (show decode _ _ = .ok (.putfield 32, 3) by decide +kernel) ⟨gf_X7_32, _, rfl, Or.inl rfl⟩ hr27 hs28 rfl ?_
      refine FW.nmM (fun M31 eM32 => ?_)
      have h_12 := h_11 M31 eM32
      refine fw_goto 5 (show decode _ _ = .ok (.goto (-35), 3) by decide +kernel) (by decide) ?_
      refine FW.sub [0, 1] (ls' := [(0, .ref p0), (1, .int p1)]) rfl ?_
      exact hK5 _ _ _ h_12
theorem sl_X7_scanWord_5 {g : GT} {d : Nat} (hd : 6 ≤ d + 1) {φ : Int32 → fM → Prop} : ∀ (n : Nat) {p0 : Nat} {p1 : Int32} {M : fM}, l_X7_scanWord_5 φ n p0 p1 M → FW g mtX7_scanWord (d + 1) 5 [(0, .ref p0), (1, .int p1)] [] M 0 0 (rI φ)
  | 0 => fun h => h.elim
  | n + 1 => fun h => sb_X7_scanWord_5 hd (fun _ _ _ h => sl_X7_scanWord_5 hd n h) h
def w_X7_scanWord (p0 : Nat) (M : fM) (φ : Int32 → fM → Prop) : Prop := isO M p0 7 ∧ nm (mI M p0 5) fun x38 => ∃ n, l_X7_scanWord_5 φ n p0 x38 M
set_option maxRecDepth 100000 in
theorem s_X7_scanWord {g : GT} {d : Nat} (hd : 6 ≤ d) {p0 : Nat} {M : fM} {φ : Int32 → fM → Prop} (h : w_X7_scanWord p0 M φ) : FC g mtX7_scanWord d [.ref p0] M 0 0 (rI φ) := by
  obtain ⟨d, rfl⟩ : ∃ e, d = e + 1 := ⟨d - 1, by omega⟩
  unfold w_X7_scanWord at h
  refine FC.intro (nL := 4) (by decide) rfl (Nat.le_of_ble_eq_true rfl) ?_
  show FW g mtX7_scanWord (d + 1) 0 [(0, .ref p0)] [] M 0 0 (rI φ)
  refine fw_aload_n (i := 0) 0 rfl (show decode _ _ = .ok (.aload_n 0, 1) by decide +kernel) ?_
  obtain ⟨⟨hr36, n35, hs37⟩, h_1⟩ := h
  refine fw_getI (kd := 7) (k := 5) (show decode _ _ = .ok (.getfield 32, 3) by decide +kernel) gf_X7_32 hr36 hs37 (Or.inl rfl) ?_
  refine fw_nmI (fun x38 ex39 => ?_)
  have h_2 := h_1 x38 ex39
  refine fw_istore_n (i := 1) (ls' := [(1, .int x38), (0, .ref p0)]) (show decode _ _ = .ok (.istore_n 1, 1) by decide +kernel) (by decide) rfl ?_
  refine FW.sub [1, 0] (ls' := [(0, .ref p0), (1, .int x38)]) rfl ?_
  obtain ⟨nn, h_3⟩ := h_2
  exact sl_X7_scanWord_5 hd nn h_3
def w_X7_isSame (p0 : Nat) (M : fM) (φ : Int32 → fM → Prop) : Prop := isO M p0 7 ∧ w_X7_byteAt p0 (mI M p0 5) M fun x5 M4 => iF (x5 = (61 : Int32)) (isO M4 p0 7 ∧ nm ((mI M4 p0 5) + (1 : Int32)) fun x9 => st (wI M4 p0 5 x9) fun M11 => φ (1 : Int32) M11) (φ (0 : Int32) M4)
set_option maxRecDepth 100000 in
theorem s_X7_isSame {g : GT} {d : Nat} (hd : 3 ≤ d) {p0 : Nat} {M : fM} {φ : Int32 → fM → Prop} (h : w_X7_isSame p0 M φ) : FC g mtX7_isSame d [.ref p0] M 0 0 (rI φ) := by
  obtain ⟨d, rfl⟩ : ∃ e, d = e + 1 := ⟨d - 1, by omega⟩
  unfold w_X7_isSame at h
  refine FC.intro (nL := 1) (by decide) rfl (Nat.le_of_ble_eq_true rfl) ?_
  show FW g mtX7_isSame (d + 1) 0 [(0, .ref p0)] [] M 0 0 (rI φ)
  refine fw_aload_n (i := 0) 0 rfl (show decode _ _ = .ok (.aload_n 0, 1) by decide +kernel) ?_
  refine fw_aload_n (i := 0) 0 rfl (show decode _ _ = .ok (.aload_n 0, 1) by decide +kernel) ?_
  obtain ⟨⟨hr2, n1, hs3⟩, h_1⟩ := h
  refine fw_getI (kd := 7) (k := 5) (show decode _ _ = .ok (.getfield 32, 3) by decide +kernel) gf_X7_32 hr2 hs3 (Or.inl rfl) ?_
  refine fw_callV (mt' := mtX7_byteAt) (mc := 0) (ms := 0) (As := [.int (mI M p0 5)]) (rest := []) 1 7 n1 (show decode _ _ = .ok (.invokevirtual 46, 3) by decide +kernel) cv_X7_46 ⟨_, rfl, rfl⟩ hr2 hs3 rfl (Nat.le_of_ble_eq_true rfl) (s_X7_byteAt (d := d) (hd_le hd (by decide)) h_1) (by decide) (by decide) (kI (bc' := 0) (bs' := 0) (by decide) (by decide) (fun x5 M4 h_2 => ?_))
  refine fw_bipush (v := (61 : Int32)) (show decode _ _ = .ok (.bipush 61, 2) by decide +kernel) (by decide) ?_
  refine fw_icmp_eq 15 (show decode _ _ = .ok (.if_icmp .eq 5, 3) by decide +kernel) (by decide) (fun hc13 => ?_) (fun hc13 => ?_)
  · have h_3 := ipos hc13 h_2
    refine fw_aload_n (i := 0) 0 rfl (show decode _ _ = .ok (.aload_n 0, 1) by decide +kernel) ?_
    refine fw_dup (show decode _ _ = .ok (.dup, 1) by decide +kernel) rfl ?_
    obtain ⟨⟨hr7, n6, hs8⟩, h_4⟩ := h_3
    refine fw_getI (kd := 7) (k := 5) (show decode _ _ = .ok (.getfield 32, 3) by decide +kernel) gf_X7_32 hr7 hs8 (Or.inl rfl) ?_
    refine fw_iconst (v := (1 : Int32)) (show decode _ _ = .ok (.iconst 1, 1) by decide +kernel) (by decide) ?_
    refine fw_iadd (show decode _ _ = .ok (.iadd, 1) by decide +kernel) ?_
    refine fw_nmI (fun x9 ex10 => ?_)
    have h_5 := h_4 x9 ex10
    refine fw_putI (kd := 7) (k := 5) (show decode _ _ = .ok (.putfield 32, 3) by decide +kernel) ⟨gf_X7_32, _, rfl, Or.inl rfl⟩ hr7 hs8 rfl ?_
    refine FW.nmM (fun M11 eM12 => ?_)
    have h_6 := h_5 M11 eM12
    refine fw_iconst (v := (1 : Int32)) (show decode _ _ = .ok (.iconst 1, 1) by decide +kernel) (by decide) ?_
    exact fw_ret (v := some (.int (1 : Int32))) .ireturn (show decode _ _ = .ok (.ireturn, 1) by decide +kernel) ⟨rfl, Or.inr (Or.inl ⟨rfl, rfl⟩)⟩ ⟨_, rfl, h_6⟩
  · have h_7 := ineg hc13 h_2
    refine fw_iconst (v := (0 : Int32)) (show decode _ _ = .ok (.iconst 0, 1) by decide +kernel) (by decide) ?_
    exact fw_ret (v := some (.int (0 : Int32))) .ireturn (show decode _ _ = .ok (.ireturn, 1) by decide +kernel) ⟨rfl, Or.inr (Or.inl ⟨rfl, rfl⟩)⟩ ⟨_, rfl, h_7⟩
def j_X7_signOf_195 (φ : Int32 → fM → Prop)  (M : fM) : Prop := φ (62 : Int32) M
set_option maxRecDepth 100000 in
theorem sj_X7_signOf_195 {g : GT} {d : Nat} (hd : 4 ≤ d + 1) {φ : Int32 → fM → Prop}  {M : fM} (h : j_X7_signOf_195 φ M) : FW g mtX7_signOf (d + 1) 195 [] [] M 0 0 (rI φ) := by
  unfold j_X7_signOf_195 at h
  refine fw_bipush (v := (62 : Int32)) (show decode _ _ = .ok (.bipush 62, 2) by decide +kernel) (by decide) ?_
  exact fw_ret (v := some (.int (62 : Int32))) .ireturn (show decode _ _ = .ok (.ireturn, 1) by decide +kernel) ⟨rfl, Or.inl rfl⟩ ⟨_, rfl, h⟩
def w_X7_signOf (p0 : Nat) (p1 : Int32) (M : fM) (φ : Int32 → fM → Prop) : Prop := iF (p1 = (35 : Int32)) (φ (49 : Int32) M) (iF (p1 = (40 : Int32)) (φ (50 : Int32) M) (iF (p1 = (41 : Int32)) (φ (51 : Int32) M) (iF (p1 = (42 : Int32)) (φ (42 : Int32) M) (iF (p1 = (43 : Int32)) (φ (40 : Int32) M) (iF (p1 = (45 : Int32)) (φ (41 : Int32) M) (iF (p1 = (47 : Int32)) (φ (43 : Int32) M) (iF (p1 = (58 : Int32)) (φ (54 : Int32) M) (iF (p1 = (59 : Int32)) (φ (52 : Int32) M) (iF (p1 = (60 : Int32)) (isO M p0 7 ∧ w_X7_isSame p0 M fun x14 M10 => iF (x14 = 0) (φ (44 : Int32) M10) (φ (45 : Int32) M10)) (iF (p1 = (61 : Int32)) (φ (48 : Int32) M) (iF (p1 = (62 : Int32)) (isO M p0 7 ∧ w_X7_isSame p0 M fun x22 M18 => iF (x22 = 0) (φ (46 : Int32) M18) (φ (47 : Int32) M18)) (iF (p1 = (63 : Int32)) (φ (53 : Int32) M) (j_X7_signOf_195 φ M)))))))))))))
set_option maxRecDepth 100000 in
theorem s_X7_signOf {g : GT} {d : Nat} (hd : 4 ≤ d) {p0 : Nat} {p1 : Int32} {M : fM} {φ : Int32 → fM → Prop} (h : w_X7_signOf p0 p1 M φ) : FC g mtX7_signOf d [.ref p0, .int p1] M 0 0 (rI φ) := by
  obtain ⟨d, rfl⟩ : ∃ e, d = e + 1 := ⟨d - 1, by omega⟩
  unfold w_X7_signOf at h
  refine FC.intro (nL := 2) (by decide) rfl (Nat.le_of_ble_eq_true rfl) ?_
  show FW g mtX7_signOf (d + 1) 0 [(0, .ref p0), (1, .int p1)] [] M 0 0 (rI φ)
  refine fw_iload_n (i := 1) 1 rfl (show decode _ _ = .ok (.iload_n 1, 1) by decide +kernel) ?_
  by_cases hc1 : p1 = (35 : Int32)
  · have h_1 := ipos hc1 h
    refine fw_tin (off := 164) 165 (show decode _ _ = .ok (.tableswitch 194 35 63 #[164, 194, 194, 194, 194, 179, 182, 173, 167, 194, 170, 194, 176, 194, 194, 194, 194, 194, 194, 194, 194, 194, 194, 191, 185, 131, 161, 146, 188], 131) by decide +kernel) (by rw [hc1]; decide) (by rw [hc1]; decide) (by rw [hc1]; rfl) (by decide) ?_
    refine fw_bipush (v := (49 : Int32)) (show decode _ _ = .ok (.bipush 49, 2) by decide +kernel) (by decide) ?_
    exact fw_ret (v := some (.int (49 : Int32))) .ireturn (show decode _ _ = .ok (.ireturn, 1) by decide +kernel) ⟨rfl, Or.inl rfl⟩ ⟨_, rfl, h_1⟩
  have h_2 := ineg hc1 h
  by_cases hc2 : p1 = (40 : Int32)
  · have h_3 := ipos hc2 h_2
    refine fw_tin (off := 179) 180 (show decode _ _ = .ok (.tableswitch 194 35 63 #[164, 194, 194, 194, 194, 179, 182, 173, 167, 194, 170, 194, 176, 194, 194, 194, 194, 194, 194, 194, 194, 194, 194, 191, 185, 131, 161, 146, 188], 131) by decide +kernel) (by rw [hc2]; decide) (by rw [hc2]; decide) (by rw [hc2]; rfl) (by decide) ?_
    refine fw_bipush (v := (50 : Int32)) (show decode _ _ = .ok (.bipush 50, 2) by decide +kernel) (by decide) ?_
    exact fw_ret (v := some (.int (50 : Int32))) .ireturn (show decode _ _ = .ok (.ireturn, 1) by decide +kernel) ⟨rfl, Or.inl rfl⟩ ⟨_, rfl, h_3⟩
  have h_4 := ineg hc2 h_2
  by_cases hc3 : p1 = (41 : Int32)
  · have h_5 := ipos hc3 h_4
    refine fw_tin (off := 182) 183 (show decode _ _ = .ok (.tableswitch 194 35 63 #[164, 194, 194, 194, 194, 179, 182, 173, 167, 194, 170, 194, 176, 194, 194, 194, 194, 194, 194, 194, 194, 194, 194, 191, 185, 131, 161, 146, 188], 131) by decide +kernel) (by rw [hc3]; decide) (by rw [hc3]; decide) (by rw [hc3]; rfl) (by decide) ?_
    refine fw_bipush (v := (51 : Int32)) (show decode _ _ = .ok (.bipush 51, 2) by decide +kernel) (by decide) ?_
    exact fw_ret (v := some (.int (51 : Int32))) .ireturn (show decode _ _ = .ok (.ireturn, 1) by decide +kernel) ⟨rfl, Or.inl rfl⟩ ⟨_, rfl, h_5⟩
  have h_6 := ineg hc3 h_4
  by_cases hc4 : p1 = (42 : Int32)
  · have h_7 := ipos hc4 h_6
    refine fw_tin (off := 173) 174 (show decode _ _ = .ok (.tableswitch 194 35 63 #[164, 194, 194, 194, 194, 179, 182, 173, 167, 194, 170, 194, 176, 194, 194, 194, 194, 194, 194, 194, 194, 194, 194, 191, 185, 131, 161, 146, 188], 131) by decide +kernel) (by rw [hc4]; decide) (by rw [hc4]; decide) (by rw [hc4]; rfl) (by decide) ?_
    refine fw_bipush (v := (42 : Int32)) (show decode _ _ = .ok (.bipush 42, 2) by decide +kernel) (by decide) ?_
    exact fw_ret (v := some (.int (42 : Int32))) .ireturn (show decode _ _ = .ok (.ireturn, 1) by decide +kernel) ⟨rfl, Or.inl rfl⟩ ⟨_, rfl, h_7⟩
  have h_8 := ineg hc4 h_6
  by_cases hc5 : p1 = (43 : Int32)
  · have h_9 := ipos hc5 h_8
    refine fw_tin (off := 167) 168 (show decode _ _ = .ok (.tableswitch 194 35 63 #[164, 194, 194, 194, 194, 179, 182, 173, 167, 194, 170, 194, 176, 194, 194, 194, 194, 194, 194, 194, 194, 194, 194, 191, 185, 131, 161, 146, 188], 131) by decide +kernel) (by rw [hc5]; decide) (by rw [hc5]; decide) (by rw [hc5]; rfl) (by decide) ?_
    refine fw_bipush (v := (40 : Int32)) (show decode _ _ = .ok (.bipush 40, 2) by decide +kernel) (by decide) ?_
    exact fw_ret (v := some (.int (40 : Int32))) .ireturn (show decode _ _ = .ok (.ireturn, 1) by decide +kernel) ⟨rfl, Or.inl rfl⟩ ⟨_, rfl, h_9⟩
  have h_10 := ineg hc5 h_8
  by_cases hc6 : p1 = (45 : Int32)
  · have h_11 := ipos hc6 h_10
    refine fw_tin (off := 170) 171 (show decode _ _ = .ok (.tableswitch 194 35 63 #[164, 194, 194, 194, 194, 179, 182, 173, 167, 194, 170, 194, 176, 194, 194, 194, 194, 194, 194, 194, 194, 194, 194, 191, 185, 131, 161, 146, 188], 131) by decide +kernel) (by rw [hc6]; decide) (by rw [hc6]; decide) (by rw [hc6]; rfl) (by decide) ?_
    refine fw_bipush (v := (41 : Int32)) (show decode _ _ = .ok (.bipush 41, 2) by decide +kernel) (by decide) ?_
    exact fw_ret (v := some (.int (41 : Int32))) .ireturn (show decode _ _ = .ok (.ireturn, 1) by decide +kernel) ⟨rfl, Or.inl rfl⟩ ⟨_, rfl, h_11⟩
  have h_12 := ineg hc6 h_10
  by_cases hc7 : p1 = (47 : Int32)
  · have h_13 := ipos hc7 h_12
    refine fw_tin (off := 176) 177 (show decode _ _ = .ok (.tableswitch 194 35 63 #[164, 194, 194, 194, 194, 179, 182, 173, 167, 194, 170, 194, 176, 194, 194, 194, 194, 194, 194, 194, 194, 194, 194, 191, 185, 131, 161, 146, 188], 131) by decide +kernel) (by rw [hc7]; decide) (by rw [hc7]; decide) (by rw [hc7]; rfl) (by decide) ?_
    refine fw_bipush (v := (43 : Int32)) (show decode _ _ = .ok (.bipush 43, 2) by decide +kernel) (by decide) ?_
    exact fw_ret (v := some (.int (43 : Int32))) .ireturn (show decode _ _ = .ok (.ireturn, 1) by decide +kernel) ⟨rfl, Or.inl rfl⟩ ⟨_, rfl, h_13⟩
  have h_14 := ineg hc7 h_12
  by_cases hc8 : p1 = (58 : Int32)
  · have h_15 := ipos hc8 h_14
    refine fw_tin (off := 191) 192 (show decode _ _ = .ok (.tableswitch 194 35 63 #[164, 194, 194, 194, 194, 179, 182, 173, 167, 194, 170, 194, 176, 194, 194, 194, 194, 194, 194, 194, 194, 194, 194, 191, 185, 131, 161, 146, 188], 131) by decide +kernel) (by rw [hc8]; decide) (by rw [hc8]; decide) (by rw [hc8]; rfl) (by decide) ?_
    refine fw_bipush (v := (54 : Int32)) (show decode _ _ = .ok (.bipush 54, 2) by decide +kernel) (by decide) ?_
    exact fw_ret (v := some (.int (54 : Int32))) .ireturn (show decode _ _ = .ok (.ireturn, 1) by decide +kernel) ⟨rfl, Or.inl rfl⟩ ⟨_, rfl, h_15⟩
  have h_16 := ineg hc8 h_14
  by_cases hc9 : p1 = (59 : Int32)
  · have h_17 := ipos hc9 h_16
    refine fw_tin (off := 185) 186 (show decode _ _ = .ok (.tableswitch 194 35 63 #[164, 194, 194, 194, 194, 179, 182, 173, 167, 194, 170, 194, 176, 194, 194, 194, 194, 194, 194, 194, 194, 194, 194, 191, 185, 131, 161, 146, 188], 131) by decide +kernel) (by rw [hc9]; decide) (by rw [hc9]; decide) (by rw [hc9]; rfl) (by decide) ?_
    refine fw_bipush (v := (52 : Int32)) (show decode _ _ = .ok (.bipush 52, 2) by decide +kernel) (by decide) ?_
    exact fw_ret (v := some (.int (52 : Int32))) .ireturn (show decode _ _ = .ok (.ireturn, 1) by decide +kernel) ⟨rfl, Or.inl rfl⟩ ⟨_, rfl, h_17⟩
  have h_18 := ineg hc9 h_16
  by_cases hc16 : p1 = (60 : Int32)
  · have h_19 := ipos hc16 h_18
    refine fw_tin (off := 131) 132 (show decode _ _ = .ok (.tableswitch 194 35 63 #[164, 194, 194, 194, 194, 179, 182, 173, 167, 194, 170, 194, 176, 194, 194, 194, 194, 194, 194, 194, 194, 194, 194, 191, 185, 131, 161, 146, 188], 131) by decide +kernel) (by rw [hc16]; decide) (by rw [hc16]; decide) (by rw [hc16]; rfl) (by decide) ?_
    refine fw_aload_n (i := 0) 0 rfl (show decode _ _ = .ok (.aload_n 0, 1) by decide +kernel) ?_
    obtain ⟨⟨hr12, n11, hs13⟩, h_20⟩ := h_19
    refine fw_callV (mt' := mtX7_isSame) (mc := 0) (ms := 0) (As := []) (rest := []) 0 7 n11 (show decode _ _ = .ok (.invokevirtual 86, 3) by decide +kernel) cv_X7_86 ⟨_, rfl, rfl⟩ hr12 hs13 rfl (Nat.le_of_ble_eq_true rfl) (s_X7_isSame (d := d) (hd_le hd (by decide)) h_20) (by decide) (by decide) (kI (bc' := 0) (bs' := 0) (by decide) (by decide) (fun x14 M10 h_21 => ?_))
    refine fw_if_eq 144 (show decode _ _ = .ok (.ifCond .eq 8, 3) by decide +kernel) (by decide) (fun hc15 => ?_) (fun hc15 => ?_)
    · have h_22 := ipos hc15 h_21
      refine fw_bipush (v := (44 : Int32)) (show decode _ _ = .ok (.bipush 44, 2) by decide +kernel) (by decide) ?_
      exact fw_ret (v := some (.int (44 : Int32))) .ireturn (show decode _ _ = .ok (.ireturn, 1) by decide +kernel) ⟨rfl, Or.inl rfl⟩ ⟨_, rfl, h_22⟩
    · have h_23 := ineg hc15 h_21
      refine fw_bipush (v := (45 : Int32)) (show decode _ _ = .ok (.bipush 45, 2) by decide +kernel) (by decide) ?_
      refine fw_goto 146 (show decode _ _ = .ok (.goto 5, 3) by decide +kernel) (by decide) ?_
      exact fw_ret (v := some (.int (45 : Int32))) .ireturn (show decode _ _ = .ok (.ireturn, 1) by decide +kernel) ⟨rfl, Or.inl rfl⟩ ⟨_, rfl, h_23⟩
  have h_24 := ineg hc16 h_18
  by_cases hc17 : p1 = (61 : Int32)
  · have h_25 := ipos hc17 h_24
    refine fw_tin (off := 161) 162 (show decode _ _ = .ok (.tableswitch 194 35 63 #[164, 194, 194, 194, 194, 179, 182, 173, 167, 194, 170, 194, 176, 194, 194, 194, 194, 194, 194, 194, 194, 194, 194, 191, 185, 131, 161, 146, 188], 131) by decide +kernel) (by rw [hc17]; decide) (by rw [hc17]; decide) (by rw [hc17]; rfl) (by decide) ?_
    refine fw_bipush (v := (48 : Int32)) (show decode _ _ = .ok (.bipush 48, 2) by decide +kernel) (by decide) ?_
    exact fw_ret (v := some (.int (48 : Int32))) .ireturn (show decode _ _ = .ok (.ireturn, 1) by decide +kernel) ⟨rfl, Or.inl rfl⟩ ⟨_, rfl, h_25⟩
  have h_26 := ineg hc17 h_24
  by_cases hc24 : p1 = (62 : Int32)
  · have h_27 := ipos hc24 h_26
    refine fw_tin (off := 146) 147 (show decode _ _ = .ok (.tableswitch 194 35 63 #[164, 194, 194, 194, 194, 179, 182, 173, 167, 194, 170, 194, 176, 194, 194, 194, 194, 194, 194, 194, 194, 194, 194, 191, 185, 131, 161, 146, 188], 131) by decide +kernel) (by rw [hc24]; decide) (by rw [hc24]; decide) (by rw [hc24]; rfl) (by decide) ?_
    refine fw_aload_n (i := 0) 0 rfl (show decode _ _ = .ok (.aload_n 0, 1) by decide +kernel) ?_
    obtain ⟨⟨hr20, n19, hs21⟩, h_28⟩ := h_27
    refine fw_callV (mt' := mtX7_isSame) (mc := 0) (ms := 0) (As := []) (rest := []) 0 7 n19 (show decode _ _ = .ok (.invokevirtual 86, 3) by decide +kernel) cv_X7_86 ⟨_, rfl, rfl⟩ hr20 hs21 rfl (Nat.le_of_ble_eq_true rfl) (s_X7_isSame (d := d) (hd_le hd (by decide)) h_28) (by decide) (by decide) (kI (bc' := 0) (bs' := 0) (by decide) (by decide) (fun x22 M18 h_29 => ?_))
    refine fw_if_eq 159 (show decode _ _ = .ok (.ifCond .eq 8, 3) by decide +kernel) (by decide) (fun hc23 => ?_) (fun hc23 => ?_)
    · have h_30 := ipos hc23 h_29
      refine fw_bipush (v := (46 : Int32)) (show decode _ _ = .ok (.bipush 46, 2) by decide +kernel) (by decide) ?_
      exact fw_ret (v := some (.int (46 : Int32))) .ireturn (show decode _ _ = .ok (.ireturn, 1) by decide +kernel) ⟨rfl, Or.inl rfl⟩ ⟨_, rfl, h_30⟩
    · have h_31 := ineg hc23 h_29
      refine fw_bipush (v := (47 : Int32)) (show decode _ _ = .ok (.bipush 47, 2) by decide +kernel) (by decide) ?_
      refine fw_goto 161 (show decode _ _ = .ok (.goto 5, 3) by decide +kernel) (by decide) ?_
      exact fw_ret (v := some (.int (47 : Int32))) .ireturn (show decode _ _ = .ok (.ireturn, 1) by decide +kernel) ⟨rfl, Or.inl rfl⟩ ⟨_, rfl, h_31⟩
  have h_32 := ineg hc24 h_26
  by_cases hc25 : p1 = (63 : Int32)
  · have h_33 := ipos hc25 h_32
    refine fw_tin (off := 188) 189 (show decode _ _ = .ok (.tableswitch 194 35 63 #[164, 194, 194, 194, 194, 179, 182, 173, 167, 194, 170, 194, 176, 194, 194, 194, 194, 194, 194, 194, 194, 194, 194, 191, 185, 131, 161, 146, 188], 131) by decide +kernel) (by rw [hc25]; decide) (by rw [hc25]; decide) (by rw [hc25]; rfl) (by decide) ?_
    refine fw_bipush (v := (53 : Int32)) (show decode _ _ = .ok (.bipush 53, 2) by decide +kernel) (by decide) ?_
    exact fw_ret (v := some (.int (53 : Int32))) .ireturn (show decode _ _ = .ok (.ireturn, 1) by decide +kernel) ⟨rfl, Or.inl rfl⟩ ⟨_, rfl, h_33⟩
  have h_34 := ineg hc25 h_32
  by_cases ho26 : Int32.toInt p1 < 35 ∨ 63 < Int32.toInt p1
  · refine fw_tout 195 (show decode _ _ = .ok (.tableswitch 194 35 63 #[164, 194, 194, 194, 194, 179, 182, 173, 167, 194, 170, 194, 176, 194, 194, 194, 194, 194, 194, 194, 194, 194, 194, 191, 185, 131, 161, 146, 188], 131) by decide +kernel) ho26 (by decide) ?_
    refine FW.sub [] (ls' := []) rfl ?_
    exact sj_X7_signOf_195 hd h_34
  have e27 := tsx_35_63 (Int32.toInt p1) ho26
  rcases e27 with e27 | e27 | e27 | e27 | e27 | e27 | e27 | e27 | e27 | e27 | e27 | e27 | e27 | e27 | e27 | e27 | e27 | e27 | e27 | e27 | e27 | e27 | e27 | e27 | e27 | e27 | e27 | e27 | e27
  · exact absurd (Int32.toInt_inj.mp (Eq.trans e27 rfl)) hc1
  · refine fw_tin (off := 194) 195 (show decode _ _ = .ok (.tableswitch 194 35 63 #[164, 194, 194, 194, 194, 179, 182, 173, 167, 194, 170, 194, 176, 194, 194, 194, 194, 194, 194, 194, 194, 194, 194, 191, 185, 131, 161, 146, 188], 131) by decide +kernel) (by rw [e27]; decide) (by rw [e27]; decide) (by rw [e27]; rfl) (by decide) ?_
    refine FW.sub [] (ls' := []) rfl ?_
    exact sj_X7_signOf_195 hd h_34
  · refine fw_tin (off := 194) 195 (show decode _ _ = .ok (.tableswitch 194 35 63 #[164, 194, 194, 194, 194, 179, 182, 173, 167, 194, 170, 194, 176, 194, 194, 194, 194, 194, 194, 194, 194, 194, 194, 191, 185, 131, 161, 146, 188], 131) by decide +kernel) (by rw [e27]; decide) (by rw [e27]; decide) (by rw [e27]; rfl) (by decide) ?_
    refine FW.sub [] (ls' := []) rfl ?_
    exact sj_X7_signOf_195 hd h_34
  · refine fw_tin (off := 194) 195 (show decode _ _ = .ok (.tableswitch 194 35 63 #[164, 194, 194, 194, 194, 179, 182, 173, 167, 194, 170, 194, 176, 194, 194, 194, 194, 194, 194, 194, 194, 194, 194, 191, 185, 131, 161, 146, 188], 131) by decide +kernel) (by rw [e27]; decide) (by rw [e27]; decide) (by rw [e27]; rfl) (by decide) ?_
    refine FW.sub [] (ls' := []) rfl ?_
    exact sj_X7_signOf_195 hd h_34
  · refine fw_tin (off := 194) 195 (show decode _ _ = .ok (.tableswitch 194 35 63 #[164, 194, 194, 194, 194, 179, 182, 173, 167, 194, 170, 194, 176, 194, 194, 194, 194, 194, 194, 194, 194, 194, 194, 191, 185, 131, 161, 146, 188], 131) by decide +kernel) (by rw [e27]; decide) (by rw [e27]; decide) (by rw [e27]; rfl) (by decide) ?_
    refine FW.sub [] (ls' := []) rfl ?_
    exact sj_X7_signOf_195 hd h_34
  · exact absurd (Int32.toInt_inj.mp (Eq.trans e27 rfl)) hc2
  · exact absurd (Int32.toInt_inj.mp (Eq.trans e27 rfl)) hc3
  · exact absurd (Int32.toInt_inj.mp (Eq.trans e27 rfl)) hc4
  · exact absurd (Int32.toInt_inj.mp (Eq.trans e27 rfl)) hc5
  · refine fw_tin (off := 194) 195 (show decode _ _ = .ok (.tableswitch 194 35 63 #[164, 194, 194, 194, 194, 179, 182, 173, 167, 194, 170, 194, 176, 194, 194, 194, 194, 194, 194, 194, 194, 194, 194, 191, 185, 131, 161, 146, 188], 131) by decide +kernel) (by rw [e27]; decide) (by rw [e27]; decide) (by rw [e27]; rfl) (by decide) ?_
    refine FW.sub [] (ls' := []) rfl ?_
    exact sj_X7_signOf_195 hd h_34
  · exact absurd (Int32.toInt_inj.mp (Eq.trans e27 rfl)) hc6
  · refine fw_tin (off := 194) 195 (show decode _ _ = .ok (.tableswitch 194 35 63 #[164, 194, 194, 194, 194, 179, 182, 173, 167, 194, 170, 194, 176, 194, 194, 194, 194, 194, 194, 194, 194, 194, 194, 191, 185, 131, 161, 146, 188], 131) by decide +kernel) (by rw [e27]; decide) (by rw [e27]; decide) (by rw [e27]; rfl) (by decide) ?_
    refine FW.sub [] (ls' := []) rfl ?_
    exact sj_X7_signOf_195 hd h_34
  · exact absurd (Int32.toInt_inj.mp (Eq.trans e27 rfl)) hc7
  · refine fw_tin (off := 194) 195 (show decode _ _ = .ok (.tableswitch 194 35 63 #[164, 194, 194, 194, 194, 179, 182, 173, 167, 194, 170, 194, 176, 194, 194, 194, 194, 194, 194, 194, 194, 194, 194, 191, 185, 131, 161, 146, 188], 131) by decide +kernel) (by rw [e27]; decide) (by rw [e27]; decide) (by rw [e27]; rfl) (by decide) ?_
    refine FW.sub [] (ls' := []) rfl ?_
    exact sj_X7_signOf_195 hd h_34
  · refine fw_tin (off := 194) 195 (show decode _ _ = .ok (.tableswitch 194 35 63 #[164, 194, 194, 194, 194, 179, 182, 173, 167, 194, 170, 194, 176, 194, 194, 194, 194, 194, 194, 194, 194, 194, 194, 191, 185, 131, 161, 146, 188], 131) by decide +kernel) (by rw [e27]; decide) (by rw [e27]; decide) (by rw [e27]; rfl) (by decide) ?_
    refine FW.sub [] (ls' := []) rfl ?_
    exact sj_X7_signOf_195 hd h_34
  · refine fw_tin (off := 194) 195 (show decode _ _ = .ok (.tableswitch 194 35 63 #[164, 194, 194, 194, 194, 179, 182, 173, 167, 194, 170, 194, 176, 194, 194, 194, 194, 194, 194, 194, 194, 194, 194, 191, 185, 131, 161, 146, 188], 131) by decide +kernel) (by rw [e27]; decide) (by rw [e27]; decide) (by rw [e27]; rfl) (by decide) ?_
    refine FW.sub [] (ls' := []) rfl ?_
    exact sj_X7_signOf_195 hd h_34
  · refine fw_tin (off := 194) 195 (show decode _ _ = .ok (.tableswitch 194 35 63 #[164, 194, 194, 194, 194, 179, 182, 173, 167, 194, 170, 194, 176, 194, 194, 194, 194, 194, 194, 194, 194, 194, 194, 191, 185, 131, 161, 146, 188], 131) by decide +kernel) (by rw [e27]; decide) (by rw [e27]; decide) (by rw [e27]; rfl) (by decide) ?_
    refine FW.sub [] (ls' := []) rfl ?_
    exact sj_X7_signOf_195 hd h_34
  · refine fw_tin (off := 194) 195 (show decode _ _ = .ok (.tableswitch 194 35 63 #[164, 194, 194, 194, 194, 179, 182, 173, 167, 194, 170, 194, 176, 194, 194, 194, 194, 194, 194, 194, 194, 194, 194, 191, 185, 131, 161, 146, 188], 131) by decide +kernel) (by rw [e27]; decide) (by rw [e27]; decide) (by rw [e27]; rfl) (by decide) ?_
    refine FW.sub [] (ls' := []) rfl ?_
    exact sj_X7_signOf_195 hd h_34
  · refine fw_tin (off := 194) 195 (show decode _ _ = .ok (.tableswitch 194 35 63 #[164, 194, 194, 194, 194, 179, 182, 173, 167, 194, 170, 194, 176, 194, 194, 194, 194, 194, 194, 194, 194, 194, 194, 191, 185, 131, 161, 146, 188], 131) by decide +kernel) (by rw [e27]; decide) (by rw [e27]; decide) (by rw [e27]; rfl) (by decide) ?_
    refine FW.sub [] (ls' := []) rfl ?_
    exact sj_X7_signOf_195 hd h_34
  · refine fw_tin (off := 194) 195 (show decode _ _ = .ok (.tableswitch 194 35 63 #[164, 194, 194, 194, 194, 179, 182, 173, 167, 194, 170, 194, 176, 194, 194, 194, 194, 194, 194, 194, 194, 194, 194, 191, 185, 131, 161, 146, 188], 131) by decide +kernel) (by rw [e27]; decide) (by rw [e27]; decide) (by rw [e27]; rfl) (by decide) ?_
    refine FW.sub [] (ls' := []) rfl ?_
    exact sj_X7_signOf_195 hd h_34
  · refine fw_tin (off := 194) 195 (show decode _ _ = .ok (.tableswitch 194 35 63 #[164, 194, 194, 194, 194, 179, 182, 173, 167, 194, 170, 194, 176, 194, 194, 194, 194, 194, 194, 194, 194, 194, 194, 191, 185, 131, 161, 146, 188], 131) by decide +kernel) (by rw [e27]; decide) (by rw [e27]; decide) (by rw [e27]; rfl) (by decide) ?_
    refine FW.sub [] (ls' := []) rfl ?_
    exact sj_X7_signOf_195 hd h_34
  · refine fw_tin (off := 194) 195 (show decode _ _ = .ok (.tableswitch 194 35 63 #[164, 194, 194, 194, 194, 179, 182, 173, 167, 194, 170, 194, 176, 194, 194, 194, 194, 194, 194, 194, 194, 194, 194, 191, 185, 131, 161, 146, 188], 131) by decide +kernel) (by rw [e27]; decide) (by rw [e27]; decide) (by rw [e27]; rfl) (by decide) ?_
    refine FW.sub [] (ls' := []) rfl ?_
    exact sj_X7_signOf_195 hd h_34
  · refine fw_tin (off := 194) 195 (show decode _ _ = .ok (.tableswitch 194 35 63 #[164, 194, 194, 194, 194, 179, 182, 173, 167, 194, 170, 194, 176, 194, 194, 194, 194, 194, 194, 194, 194, 194, 194, 191, 185, 131, 161, 146, 188], 131) by decide +kernel) (by rw [e27]; decide) (by rw [e27]; decide) (by rw [e27]; rfl) (by decide) ?_
    refine FW.sub [] (ls' := []) rfl ?_
    exact sj_X7_signOf_195 hd h_34
  · exact absurd (Int32.toInt_inj.mp (Eq.trans e27 rfl)) hc8
  · exact absurd (Int32.toInt_inj.mp (Eq.trans e27 rfl)) hc9
  · exact absurd (Int32.toInt_inj.mp (Eq.trans e27 rfl)) hc16
  · exact absurd (Int32.toInt_inj.mp (Eq.trans e27 rfl)) hc17
  · exact absurd (Int32.toInt_inj.mp (Eq.trans e27 rfl)) hc24
  · exact absurd (Int32.toInt_inj.mp (Eq.trans e27 rfl)) hc25
def w_X7_scanToken (p0 : Nat) (p1 : Int32) (M : fM) (φ : Int32 → fM → Prop) : Prop := isO M p0 7 ∧ w_X7_byteAt p0 (mI M p0 5) M fun x5 M4 => iF (x5 = (-1 : Int32)) (φ (61 : Int32) M4) (w_X7_isDigit x5 M4 fun x7 M6 => iF (x7 = 0) (w_X7_isLetter x5 M6 fun x9 M8 => iF (x9 = 0) (isO M8 p0 7 ∧ nm ((mI M8 p0 5) + (1 : Int32)) fun x13 => st (wI M8 p0 5 x13) fun M15 => w_X7_signOf p0 x5 M15 fun x18 M17 => φ x18 M17) (isO M8 p0 7 ∧ w_X7_scanWord p0 M8 fun x23 M19 => φ x23 M19)) (isO M6 p0 7 ∧ dR (mP M6 p0 4) fun y28 => w_X7_scanNumber p0 M6 fun x31 M30 => w_X10_put y28 p1 x31 M30 fun M32 => φ (60 : Int32) M32))
set_option maxRecDepth 100000 in
theorem s_X7_scanToken {g : GT} {d : Nat} (hd : 7 ≤ d) {p0 : Nat} {p1 : Int32} {M : fM} {φ : Int32 → fM → Prop} (h : w_X7_scanToken p0 p1 M φ) : FC g mtX7_scanToken d [.ref p0, .int p1] M 0 0 (rI φ) := by
  obtain ⟨d, rfl⟩ : ∃ e, d = e + 1 := ⟨d - 1, by omega⟩
  unfold w_X7_scanToken at h
  refine FC.intro (nL := 3) (by decide) rfl (Nat.le_of_ble_eq_true rfl) ?_
  show FW g mtX7_scanToken (d + 1) 0 [(0, .ref p0), (1, .int p1)] [] M 0 0 (rI φ)
  refine fw_aload_n (i := 0) 0 rfl (show decode _ _ = .ok (.aload_n 0, 1) by decide +kernel) ?_
  refine fw_aload_n (i := 0) 0 rfl (show decode _ _ = .ok (.aload_n 0, 1) by decide +kernel) ?_
  obtain ⟨⟨hr2, n1, hs3⟩, h_1⟩ := h
  refine fw_getI (kd := 7) (k := 5) (show decode _ _ = .ok (.getfield 32, 3) by decide +kernel) gf_X7_32 hr2 hs3 (Or.inl rfl) ?_
  refine fw_callV (mt' := mtX7_byteAt) (mc := 0) (ms := 0) (As := [.int (mI M p0 5)]) (rest := []) 1 7 n1 (show decode _ _ = .ok (.invokevirtual 46, 3) by decide +kernel) cv_X7_46 ⟨_, rfl, rfl⟩ hr2 hs3 rfl (Nat.le_of_ble_eq_true rfl) (s_X7_byteAt (d := d) (hd_le hd (by decide)) h_1) (by decide) (by decide) (kI (bc' := 0) (bs' := 0) (by decide) (by decide) (fun x5 M4 h_2 => ?_))
  refine fw_istore_n (i := 2) (ls' := [(2, .int x5), (0, .ref p0), (1, .int p1)]) (show decode _ _ = .ok (.istore_n 2, 1) by decide +kernel) (by decide) rfl ?_
  refine fw_iload_n (i := 2) 0 rfl (show decode _ _ = .ok (.iload_n 2, 1) by decide +kernel) ?_
  refine fw_iconst (v := (-1 : Int32)) (show decode _ _ = .ok (.iconst (-1), 1) by decide +kernel) (by decide) ?_
  refine fw_icmp_ne 17 (show decode _ _ = .ok (.if_icmp .ne 6, 3) by decide +kernel) (by decide) (fun hc34 => ?_) (fun hc34 => ?_)
  · have h_3 := ineg hc34 h_2
    refine fw_iload_n (i := 2) 0 rfl (show decode _ _ = .ok (.iload_n 2, 1) by decide +kernel) ?_
    refine fw_callS (mt' := mtX7_isDigit) (mc := 0) (ms := 0) (As := [.int x5]) (rest := []) 1 (show decode _ _ = .ok (.invokestatic 49, 3) by decide +kernel) cs_X7_49 rfl (Nat.le_of_ble_eq_true rfl) (s_X7_isDigit (d := d) (hd_le hd (by decide)) h_3) (by decide) (by decide) (kI (bc' := 0) (bs' := 0) (by decide) (by decide) (fun x7 M6 h_4 => ?_))
    refine fw_if_eq 39 (show decode _ _ = .ok (.ifCond .eq 18, 3) by decide +kernel) (by decide) (fun hc33 => ?_) (fun hc33 => ?_)
    · have h_5 := ipos hc33 h_4
      refine fw_iload_n (i := 2) 0 rfl (show decode _ _ = .ok (.iload_n 2, 1) by decide +kernel) ?_
      refine fw_callS (mt' := mtX7_isLetter) (mc := 0) (ms := 0) (As := [.int x5]) (rest := []) 1 (show decode _ _ = .ok (.invokestatic 57, 3) by decide +kernel) cs_X7_57 rfl (Nat.le_of_ble_eq_true rfl) (s_X7_isLetter (d := d) (hd_le hd (by decide)) h_5) (by decide) (by decide) (kI (bc' := 0) (bs' := 0) (by decide) (by decide) (fun x9 M8 h_6 => ?_))
      refine fw_if_eq 51 (show decode _ _ = .ok (.ifCond .eq 8, 3) by decide +kernel) (by decide) (fun hc24 => ?_) (fun hc24 => ?_)
      · have h_7 := ipos hc24 h_6
        refine fw_aload_n (i := 0) 1 rfl (show decode _ _ = .ok (.aload_n 0, 1) by decide +kernel) ?_
        refine fw_dup (show decode _ _ = .ok (.dup, 1) by decide +kernel) rfl ?_
        obtain ⟨⟨hr11, n10, hs12⟩, h_8⟩ := h_7
        refine fw_getI (kd := 7) (k := 5) (show decode _ _ = .ok (.getfield 32, 3) by decide +kernel) gf_X7_32 hr11 hs12 (Or.inl rfl) ?_
        refine fw_iconst (v := (1 : Int32)) (show decode _ _ = .ok (.iconst 1, 1) by decide +kernel) (by decide) ?_
        refine fw_iadd (show decode _ _ = .ok (.iadd, 1) by decide +kernel) ?_
        refine fw_nmI (fun x13 ex14 => ?_)
        have h_9 := h_8 x13 ex14
        refine fw_putI (kd := 7) (k := 5) (show decode _ _ = .ok (.putfield 32, 3) by decide +kernel) ⟨gf_X7_32, _, rfl, Or.inl rfl⟩ hr11 hs12 rfl ?_
        refine FW.nmM (fun M15 eM16 => ?_)
        have h_10 := h_9 M15 eM16
        refine fw_aload_n (i := 0) 1 rfl (show decode _ _ = .ok (.aload_n 0, 1) by decide +kernel) ?_
        refine fw_iload_n (i := 2) 0 rfl (show decode _ _ = .ok (.iload_n 2, 1) by decide +kernel) ?_
        refine fw_callV (mt' := mtX7_signOf) (mc := 0) (ms := 0) (As := [.int x5]) (rest := []) 1 7 n10 (show decode _ _ = .ok (.invokevirtual 63, 3) by decide +kernel) cv_X7_63 ⟨_, rfl, rfl⟩ hr11 (mSw_I eM16 hs12) rfl (Nat.le_of_ble_eq_true rfl) (s_X7_signOf (d := d) (hd_le hd (by decide)) h_10) (by decide) (by decide) (kI (bc' := 0) (bs' := 0) (by decide) (by decide) (fun x18 M17 h_11 => ?_))
        exact fw_ret (v := some (.int x18)) .ireturn (show decode _ _ = .ok (.ireturn, 1) by decide +kernel) ⟨rfl, Or.inl rfl⟩ ⟨_, rfl, h_11⟩
      · have h_12 := ineg hc24 h_6
        refine fw_aload_n (i := 0) 1 rfl (show decode _ _ = .ok (.aload_n 0, 1) by decide +kernel) ?_
        obtain ⟨⟨hr21, n20, hs22⟩, h_13⟩ := h_12
        refine fw_callV (mt' := mtX7_scanWord) (mc := 0) (ms := 0) (As := []) (rest := []) 0 7 n20 (show decode _ _ = .ok (.invokevirtual 60, 3) by decide +kernel) cv_X7_60 ⟨_, rfl, rfl⟩ hr21 hs22 rfl (Nat.le_of_ble_eq_true rfl) (s_X7_scanWord (d := d) (hd_le hd (by decide)) h_13) (by decide) (by decide) (kI (bc' := 0) (bs' := 0) (by decide) (by decide) (fun x23 M19 h_14 => ?_))
        exact fw_ret (v := some (.int x23)) .ireturn (show decode _ _ = .ok (.ireturn, 1) by decide +kernel) ⟨rfl, Or.inl rfl⟩ ⟨_, rfl, h_14⟩
    · have h_15 := ineg hc33 h_4
      refine fw_aload_n (i := 0) 1 rfl (show decode _ _ = .ok (.aload_n 0, 1) by decide +kernel) ?_
      obtain ⟨⟨hr26, n25, hs27⟩, h_16⟩ := h_15
      refine fw_getP (kd := 7) (k := 4) (show decode _ _ = .ok (.getfield 21, 3) by decide +kernel) gf_X7_21 hr26 hs27 rfl ?_
      have h_17 := dR_e h_16
      obtain ⟨y28, hy29, h_18⟩ := h_17
      refine fw_deref hy29 ?_
      refine fw_iload_n (i := 1) 2 rfl (show decode _ _ = .ok (.iload_n 1, 1) by decide +kernel) ?_
      refine fw_aload_n (i := 0) 1 rfl (show decode _ _ = .ok (.aload_n 0, 1) by decide +kernel) ?_
      refine fw_callV (mt' := mtX7_scanNumber) (mc := 0) (ms := 0) (As := []) (rest := [.int p1, .ref y28]) 0 7 n25 (show decode _ _ = .ok (.invokevirtual 53, 3) by decide +kernel) cv_X7_53 ⟨_, rfl, rfl⟩ hr26 hs27 rfl (Nat.le_of_ble_eq_true rfl) (s_X7_scanNumber (d := d) (hd_le hd (by decide)) h_18) (by decide) (by decide) (kI (bc' := 0) (bs' := 0) (by decide) (by decide) (fun x31 M30 h_19 => ?_))
      refine fw_callSN (mt' := mtX10_put) (mc := 0) (ms := 0) (As := [.ref y28, .int p1, .int x31]) (rest := []) 3 "OneStepMore" (show decode _ _ = .ok (.invokestatic 28, 3) by decide +kernel) ns_X7_28 rfl (Nat.le_of_ble_eq_true rfl) (s_X10_put (d := d) (hd_le hd (by decide)) h_19) (by decide) (by decide) (kV (bc' := 0) (bs' := 0) (by decide) (by decide) (fun M32 h_20 => ?_))
      refine fw_bipush (v := (60 : Int32)) (show decode _ _ = .ok (.bipush 60, 2) by decide +kernel) (by decide) ?_
      exact fw_ret (v := some (.int (60 : Int32))) .ireturn (show decode _ _ = .ok (.ireturn, 1) by decide +kernel) ⟨rfl, Or.inl rfl⟩ ⟨_, rfl, h_20⟩
  · have h_21 := ipos hc34 h_2
    refine fw_bipush (v := (61 : Int32)) (show decode _ _ = .ok (.bipush 61, 2) by decide +kernel) (by decide) ?_
    exact fw_ret (v := some (.int (61 : Int32))) .ireturn (show decode _ _ = .ok (.ireturn, 1) by decide +kernel) ⟨rfl, Or.inl rfl⟩ ⟨_, rfl, h_21⟩
def b_X7_scan_10 (K10 : Nat → Int32 → Int32 → fM → Prop) (φ : fM → Prop) (p0 : Nat) (p1 : Int32) (p2 : Int32) (M : fM) : Prop := iF ((300 : Int32) < p2) (φ M) (iF (p1 = (61 : Int32)) (φ M) (isO M p0 7 ∧ w_X7_skipBlanks p0 M fun M1 => isO M1 p0 7 ∧ dR (mP M1 p0 3) fun y8 => w_X10_put y8 p2 (mI M1 p0 5) M1 fun M10 => isO M10 p0 7 ∧ w_X7_scanToken p0 p2 M10 fun x15 M11 => isO M11 p0 7 ∧ dR (mP M11 p0 2) fun y19 => w_X10_put y19 p2 x15 M11 fun M21 => nm (p2 + (1 : Int32)) fun x22 => K10 p0 x15 x22 M21))
def l_X7_scan_10 (φ : fM → Prop) : Nat → Nat → Int32 → Int32 → fM → Prop
  | 0, _, _, _, _ => False
  | n + 1, p0, p1, p2, M => b_X7_scan_10 (l_X7_scan_10 φ n) φ p0 p1 p2 M
set_option maxRecDepth 100000 in
theorem sb_X7_scan_10 {g : GT} {d : Nat} (hd : 8 ≤ d + 1) {K10 : Nat → Int32 → Int32 → fM → Prop} {φ : fM → Prop} (hK10 : ∀ (p0 : Nat) (p1 : Int32) (p2 : Int32) (M : fM), K10 p0 p1 p2 M → FW g mtX7_scan (d + 1) 10 [(0, .ref p0), (1, .int p1), (2, .int p2)] [] M 0 0 (rV φ)) {p0 : Nat} {p1 : Int32} {p2 : Int32} {M : fM} (h : b_X7_scan_10 K10 φ p0 p1 p2 M) : FW g mtX7_scan (d + 1) 10 [(0, .ref p0), (1, .int p1), (2, .int p2)] [] M 0 0 (rV φ) := by
  unfold b_X7_scan_10 at h
  refine fw_iload_n (i := 2) 2 rfl (show decode _ _ = .ok (.iload_n 2, 1) by decide +kernel) ?_
  refine fw_sipush (v := (300 : Int32)) (show decode _ _ = .ok (.sipush 300, 3) by decide +kernel) (by decide) ?_
  refine fw_icmp_gt 60 (show decode _ _ = .ok (.if_icmp .gt 46, 3) by decide +kernel) (by decide) (fun hc25 => ?_) (fun hc25 => ?_)
  · have h_1 := ipos hc25 h
    exact fw_ret (v := none) .return_ (show decode _ _ = .ok (.return_, 1) by decide +kernel) ⟨rfl, rfl⟩ ⟨rfl, h_1⟩
  · have h_2 := ineg hc25 h
    refine fw_iload_n (i := 1) 1 rfl (show decode _ _ = .ok (.iload_n 1, 1) by decide +kernel) ?_
    refine fw_bipush (v := (61 : Int32)) (show decode _ _ = .ok (.bipush 61, 2) by decide +kernel) (by decide) ?_
    refine fw_icmp_eq 60 (show decode _ _ = .ok (.if_icmp .eq 40, 3) by decide +kernel) (by decide) (fun hc24 => ?_) (fun hc24 => ?_)
    · have h_3 := ipos hc24 h_2
      exact fw_ret (v := none) .return_ (show decode _ _ = .ok (.return_, 1) by decide +kernel) ⟨rfl, rfl⟩ ⟨rfl, h_3⟩
    · have h_4 := ineg hc24 h_2
      refine fw_aload_n (i := 0) 0 rfl (show decode _ _ = .ok (.aload_n 0, 1) by decide +kernel) ?_
      obtain ⟨⟨hr3, n2, hs4⟩, h_5⟩ := h_4
      refine fw_callV (mt' := mtX7_skipBlanks) (mc := 0) (ms := 0) (As := []) (rest := []) 0 7 n2 (show decode _ _ = .ok (.invokevirtual 35, 3) by decide +kernel) cv_X7_35 ⟨_, rfl, rfl⟩ hr3 hs4 rfl (Nat.le_of_ble_eq_true rfl) (s_X7_skipBlanks (d := d) (hd_le hd (by decide)) h_5) (by decide) (by decide) (kV (bc' := 0) (bs' := 0) (by decide) (by decide) (fun M1 h_6 => ?_))
      refine fw_aload_n (i := 0) 0 rfl (show decode _ _ = .ok (.aload_n 0, 1) by decide +kernel) ?_
      obtain ⟨⟨hr6, n5, hs7⟩, h_7⟩ := h_6
      refine fw_getP (kd := 7) (k := 3) (show decode _ _ = .ok (.getfield 18, 3) by decide +kernel) gf_X7_18 hr6 hs7 rfl ?_
      have h_8 := dR_e h_7
      obtain ⟨y8, hy9, h_9⟩ := h_8
      refine fw_deref hy9 ?_
      refine fw_iload_n (i := 2) 2 rfl (show decode _ _ = .ok (.iload_n 2, 1) by decide +kernel) ?_
      refine fw_aload_n (i := 0) 0 rfl (show decode _ _ = .ok (.aload_n 0, 1) by decide +kernel) ?_
      refine fw_getI (kd := 7) (k := 5) (show decode _ _ = .ok (.getfield 32, 3) by decide +kernel) gf_X7_32 hr6 hs7 (Or.inl rfl) ?_
      refine fw_callSN (mt' := mtX10_put) (mc := 0) (ms := 0) (As := [.ref y8, .int p2, .int (mI M1 p0 5)]) (rest := []) 3 "OneStepMore" (show decode _ _ = .ok (.invokestatic 28, 3) by decide +kernel) ns_X7_28 rfl (Nat.le_of_ble_eq_true rfl) (s_X10_put (d := d) (hd_le hd (by decide)) h_9) (by decide) (by decide) (kV (bc' := 0) (bs' := 0) (by decide) (by decide) (fun M10 h_10 => ?_))
      refine fw_aload_n (i := 0) 0 rfl (show decode _ _ = .ok (.aload_n 0, 1) by decide +kernel) ?_
      refine fw_iload_n (i := 2) 2 rfl (show decode _ _ = .ok (.iload_n 2, 1) by decide +kernel) ?_
      obtain ⟨⟨hr13, n12, hs14⟩, h_11⟩ := h_10
      refine fw_callV (mt' := mtX7_scanToken) (mc := 0) (ms := 0) (As := [.int p2]) (rest := []) 1 7 n12 (show decode _ _ = .ok (.invokevirtual 38, 3) by decide +kernel) cv_X7_38 ⟨_, rfl, rfl⟩ hr13 hs14 rfl (Nat.le_of_ble_eq_true rfl) (s_X7_scanToken (d := d) (hd_le hd (by decide)) h_11) (by decide) (by decide) (kI (bc' := 0) (bs' := 0) (by decide) (by decide) (fun x15 M11 h_12 => ?_))
      refine fw_istore_n (i := 1) (ls' := [(1, .int x15), (0, .ref p0), (2, .int p2)]) (show decode _ _ = .ok (.istore_n 1, 1) by decide +kernel) (by decide) rfl ?_
      refine fw_aload_n (i := 0) 1 rfl (show decode _ _ = .ok (.aload_n 0, 1) by decide +kernel) ?_
      obtain ⟨⟨hr17, n16, hs18⟩, h_13⟩ := h_12
      refine fw_getP (kd := 7) (k := 2) (show decode _ _ = .ok (.getfield 15, 3) by decide +kernel) gf_X7_15 hr17 hs18 rfl ?_
      have h_14 := dR_e h_13
      obtain ⟨y19, hy20, h_15⟩ := h_14
      refine fw_deref hy20 ?_
      refine fw_iload_n (i := 2) 2 rfl (show decode _ _ = .ok (.iload_n 2, 1) by decide +kernel) ?_
      refine fw_iload_n (i := 1) 0 rfl (show decode _ _ = .ok (.iload_n 1, 1) by decide +kernel) ?_
      refine fw_callSN (mt' := mtX10_put) (mc := 0) (ms := 0) (As := [.ref y19, .int p2, .int x15]) (rest := []) 3 "OneStepMore" (show decode _ _ = .ok (.invokestatic 28, 3) by decide +kernel) ns_X7_28 rfl (Nat.le_of_ble_eq_true rfl) (s_X10_put (d := d) (hd_le hd (by decide)) h_15) (by decide) (by decide) (kV (bc' := 0) (bs' := 0) (by decide) (by decide) (fun M21 h_16 => ?_))
      obtain ⟨x22, ex23⟩ : ∃ y : Int32, y = p2 + (1 : Int32) := ⟨_, rfl⟩
      have h_17 := h_16 x22 ex23
      refine fw_iinc (i := 2) (x := p2) (v := x22) (ls' := [(2, .int x22), (1, .int x15), (0, .ref p0)]) 2 rfl (show decode _ _ = .ok (.iinc 2 1, 3) by decide +kernel) (by rw [ex23]; rfl) (by decide) rfl ?_
      refine fw_goto 10 (show decode _ _ = .ok (.goto (-47), 3) by decide +kernel) (by decide) ?_
      refine FW.sub [2, 1, 0] (ls' := [(0, .ref p0), (1, .int x15), (2, .int x22)]) rfl ?_
      exact hK10 _ _ _ _ h_17
theorem sl_X7_scan_10 {g : GT} {d : Nat} (hd : 8 ≤ d + 1) {φ : fM → Prop} : ∀ (n : Nat) {p0 : Nat} {p1 : Int32} {p2 : Int32} {M : fM}, l_X7_scan_10 φ n p0 p1 p2 M → FW g mtX7_scan (d + 1) 10 [(0, .ref p0), (1, .int p1), (2, .int p2)] [] M 0 0 (rV φ)
  | 0 => fun h => h.elim
  | n + 1 => fun h => sb_X7_scan_10 hd (fun _ _ _ _ h => sl_X7_scan_10 hd n h) h
def w_X7_scan (p0 : Nat) (M : fM) (φ : fM → Prop) : Prop := isO M p0 7 ∧ st (wI M p0 5 (0 : Int32)) fun M29 => ∃ n, l_X7_scan_10 φ n p0 (62 : Int32) (0 : Int32) M29
set_option maxRecDepth 100000 in
theorem s_X7_scan {g : GT} {d : Nat} (hd : 8 ≤ d) {p0 : Nat} {M : fM} {φ : fM → Prop} (h : w_X7_scan p0 M φ) : FC g mtX7_scan d [.ref p0] M 0 0 (rV φ) := by
  obtain ⟨d, rfl⟩ : ∃ e, d = e + 1 := ⟨d - 1, by omega⟩
  unfold w_X7_scan at h
  refine FC.intro (nL := 3) (by decide) rfl (Nat.le_of_ble_eq_true rfl) ?_
  show FW g mtX7_scan (d + 1) 0 [(0, .ref p0)] [] M 0 0 (rV φ)
  refine fw_aload_n (i := 0) 0 rfl (show decode _ _ = .ok (.aload_n 0, 1) by decide +kernel) ?_
  refine fw_iconst (v := (0 : Int32)) (show decode _ _ = .ok (.iconst 0, 1) by decide +kernel) (by decide) ?_
  obtain ⟨⟨hr27, n26, hs28⟩, h_1⟩ := h
  refine fw_putI (kd := 7) (k := 5) (show decode _ _ = .ok (.putfield 32, 3) by decide +kernel) ⟨gf_X7_32, _, rfl, Or.inl rfl⟩ hr27 hs28 rfl ?_
  refine FW.nmM (fun M29 eM30 => ?_)
  have h_2 := h_1 M29 eM30
  refine fw_bipush (v := (62 : Int32)) (show decode _ _ = .ok (.bipush 62, 2) by decide +kernel) (by decide) ?_
  refine fw_istore_n (i := 1) (ls' := [(1, .int (62 : Int32)), (0, .ref p0)]) (show decode _ _ = .ok (.istore_n 1, 1) by decide +kernel) (by decide) rfl ?_
  refine fw_iconst (v := (0 : Int32)) (show decode _ _ = .ok (.iconst 0, 1) by decide +kernel) (by decide) ?_
  refine fw_istore_n (i := 2) (ls' := [(2, .int (0 : Int32)), (1, .int (62 : Int32)), (0, .ref p0)]) (show decode _ _ = .ok (.istore_n 2, 1) by decide +kernel) (by decide) rfl ?_
  refine FW.sub [2, 1, 0] (ls' := [(0, .ref p0), (1, .int (62 : Int32)), (2, .int (0 : Int32))]) rfl ?_
  obtain ⟨nn, h_3⟩ := h_2
  exact sl_X7_scan_10 hd nn h_3
def w_X4_advance (p0 : Nat) (M : fM) (φ : fM → Prop) : Prop := isO M p0 4 ∧ nm (imin (300 : Int32) ((mI M p0 11) + (1 : Int32))) fun x4 => st (wI M p0 11 x4) fun M6 => dR (mP M6 p0 2) fun y8 => isO M6 y8 7 ∧ dR (mP M6 y8 2) fun y13 => w_X10_cell y13 (mI M6 p0 11) M6 fun x16 M15 => isO M15 p0 4 ∧ st (wI M15 p0 12 x16) fun M20 => dR (mP M20 p0 2) fun y22 => isO M20 y22 7 ∧ dR (mP M20 y22 4) fun y27 => w_X10_cell y27 (mI M20 p0 11) M20 fun x30 M29 => isO M29 p0 4 ∧ st (wI M29 p0 13 x30) fun M34 => φ M34
set_option maxRecDepth 100000 in
theorem s_X4_advance {g : GT} {d : Nat} (hd : 2 ≤ d) {p0 : Nat} {M : fM} {φ : fM → Prop} (h : w_X4_advance p0 M φ) : FC g mtX4_advance d [.ref p0] M 0 0 (rV φ) := by
  obtain ⟨d, rfl⟩ : ∃ e, d = e + 1 := ⟨d - 1, by omega⟩
  unfold w_X4_advance at h
  refine FC.intro (nL := 1) (by decide) rfl (Nat.le_of_ble_eq_true rfl) ?_
  show FW g mtX4_advance (d + 1) 0 [(0, .ref p0)] [] M 0 0 (rV φ)
  refine fw_aload_n (i := 0) 0 rfl (show decode _ _ = .ok (.aload_n 0, 1) by decide +kernel) ?_
  refine fw_sipush (v := (300 : Int32)) (show decode _ _ = .ok (.sipush 300, 3) by decide +kernel) (by decide) ?_
  refine fw_aload_n (i := 0) 0 rfl (show decode _ _ = .ok (.aload_n 0, 1) by decide +kernel) ?_
  obtain ⟨⟨hr2, n1, hs3⟩, h_1⟩ := h
  refine fw_getI (kd := 4) (k := 11) (show decode _ _ = .ok (.getfield 55, 3) by decide +kernel) gf_X4_55 hr2 hs3 (Or.inl rfl) ?_
  refine fw_iconst (v := (1 : Int32)) (show decode _ _ = .ok (.iconst 1, 1) by decide +kernel) (by decide) ?_
  refine fw_iadd (show decode _ _ = .ok (.iadd, 1) by decide +kernel) ?_
  refine fw_mmin (idx := 148) (rest := [.ref p0]) (show decode _ _ = .ok (.invokestatic 148, 3) by decide +kernel) ⟨wd715, wd641, wd142, wd642⟩ (Nat.le_of_ble_eq_true rfl) ?_
  refine fw_nmI (fun x4 ex5 => ?_)
  have h_2 := h_1 x4 ex5
  refine fw_putI (kd := 4) (k := 11) (show decode _ _ = .ok (.putfield 55, 3) by decide +kernel) ⟨gf_X4_55, _, rfl, Or.inl rfl⟩ hr2 hs3 rfl ?_
  refine FW.nmM (fun M6 eM7 => ?_)
  have h_3 := h_2 M6 eM7
  refine fw_aload_n (i := 0) 0 rfl (show decode _ _ = .ok (.aload_n 0, 1) by decide +kernel) ?_
  refine fw_aload_n (i := 0) 0 rfl (show decode _ _ = .ok (.aload_n 0, 1) by decide +kernel) ?_
  refine fw_getP (kd := 4) (k := 2) (show decode _ _ = .ok (.getfield 34, 3) by decide +kernel) gf_X4_34 hr2 (mSw_I eM7 hs3) rfl ?_
  have h_4 := dR_e h_3
  obtain ⟨y8, hy9, h_5⟩ := h_4
  refine fw_deref hy9 ?_
  obtain ⟨⟨hr11, n10, hs12⟩, h_6⟩ := h_5
  refine fw_getP (kd := 7) (k := 2) (show decode _ _ = .ok (.getfield 154, 3) by decide +kernel) gf_X4_154 hr11 hs12 rfl ?_
  have h_7 := dR_e h_6
  obtain ⟨y13, hy14, h_8⟩ := h_7
  refine fw_deref hy14 ?_
  refine fw_aload_n (i := 0) 0 rfl (show decode _ _ = .ok (.aload_n 0, 1) by decide +kernel) ?_
  refine fw_getI (kd := 4) (k := 11) (show decode _ _ = .ok (.getfield 55, 3) by decide +kernel) gf_X4_55 hr2 (mSw_I eM7 hs3) (Or.inl rfl) ?_
  refine fw_callSN (mt' := mtX10_cell) (mc := 0) (ms := 0) (As := [.ref y13, .int (mI M6 p0 11)]) (rest := [.ref p0]) 2 "OneStepMore" (show decode _ _ = .ok (.invokestatic 80, 3) by decide +kernel) ns_X4_80 rfl (Nat.le_of_ble_eq_true rfl) (s_X10_cell (d := d) (hd_le hd (by decide)) h_8) (by decide) (by decide) (kI (bc' := 0) (bs' := 0) (by decide) (by decide) (fun x16 M15 h_9 => ?_))
  obtain ⟨⟨hr18, n17, hs19⟩, h_10⟩ := h_9
  refine fw_putI (kd := 4) (k := 12) (show decode _ _ = .ok (.putfield 61, 3) by decide +kernel) ⟨gf_X4_61, _, rfl, Or.inl rfl⟩ hr18 hs19 rfl ?_
  refine FW.nmM (fun M20 eM21 => ?_)
  have h_11 := h_10 M20 eM21
  refine fw_aload_n (i := 0) 0 rfl (show decode _ _ = .ok (.aload_n 0, 1) by decide +kernel) ?_
  refine fw_aload_n (i := 0) 0 rfl (show decode _ _ = .ok (.aload_n 0, 1) by decide +kernel) ?_
  refine fw_getP (kd := 4) (k := 2) (show decode _ _ = .ok (.getfield 34, 3) by decide +kernel) gf_X4_34 hr18 (mSw_I eM21 hs19) rfl ?_
  have h_12 := dR_e h_11
  obtain ⟨y22, hy23, h_13⟩ := h_12
  refine fw_deref hy23 ?_
  obtain ⟨⟨hr25, n24, hs26⟩, h_14⟩ := h_13
  refine fw_getP (kd := 7) (k := 4) (show decode _ _ = .ok (.getfield 157, 3) by decide +kernel) gf_X4_157 hr25 hs26 rfl ?_
  have h_15 := dR_e h_14
  obtain ⟨y27, hy28, h_16⟩ := h_15
  refine fw_deref hy28 ?_
  refine fw_aload_n (i := 0) 0 rfl (show decode _ _ = .ok (.aload_n 0, 1) by decide +kernel) ?_
  refine fw_getI (kd := 4) (k := 11) (show decode _ _ = .ok (.getfield 55, 3) by decide +kernel) gf_X4_55 hr18 (mSw_I eM21 hs19) (Or.inl rfl) ?_
  refine fw_callSN (mt' := mtX10_cell) (mc := 0) (ms := 0) (As := [.ref y27, .int (mI M20 p0 11)]) (rest := [.ref p0]) 2 "OneStepMore" (show decode _ _ = .ok (.invokestatic 80, 3) by decide +kernel) ns_X4_80 rfl (Nat.le_of_ble_eq_true rfl) (s_X10_cell (d := d) (hd_le hd (by decide)) h_16) (by decide) (by decide) (kI (bc' := 0) (bs' := 0) (by decide) (by decide) (fun x30 M29 h_17 => ?_))
  obtain ⟨⟨hr32, n31, hs33⟩, h_18⟩ := h_17
  refine fw_putI (kd := 4) (k := 13) (show decode _ _ = .ok (.putfield 117, 3) by decide +kernel) ⟨gf_X4_117, _, rfl, Or.inl rfl⟩ hr32 hs33 rfl ?_
  refine FW.nmM (fun M34 eM35 => ?_)
  have h_19 := h_18 M34 eM35
  exact fw_ret (v := none) .return_ (show decode _ _ = .ok (.return_, 1) by decide +kernel) ⟨rfl, rfl⟩ ⟨rfl, h_19⟩
def w_X4_faulty (p0 : Nat) (p1 : Int32) (M : fM) (φ : Int32 → fM → Prop) : Prop := isO M p0 4 ∧ st (wI M p0 0 p1) fun M4 => dR (mP M4 p0 2) fun y6 => isO M4 y6 7 ∧ dR (mP M4 y6 3) fun y11 => w_X10_cell y11 (mI M4 p0 11) M4 fun x14 M13 => isO M13 p0 4 ∧ st (wI M13 p0 1 x14) fun M18 => φ (0 : Int32) M18
set_option maxRecDepth 100000 in
theorem s_X4_faulty {g : GT} {d : Nat} (hd : 2 ≤ d) {p0 : Nat} {p1 : Int32} {M : fM} {φ : Int32 → fM → Prop} (h : w_X4_faulty p0 p1 M φ) : FC g mtX4_faulty d [.ref p0, .int p1] M 0 0 (rI φ) := by
  obtain ⟨d, rfl⟩ : ∃ e, d = e + 1 := ⟨d - 1, by omega⟩
  unfold w_X4_faulty at h
  refine FC.intro (nL := 2) (by decide) rfl (Nat.le_of_ble_eq_true rfl) ?_
  show FW g mtX4_faulty (d + 1) 0 [(0, .ref p0), (1, .int p1)] [] M 0 0 (rI φ)
  refine fw_aload_n (i := 0) 0 rfl (show decode _ _ = .ok (.aload_n 0, 1) by decide +kernel) ?_
  refine fw_iload_n (i := 1) 1 rfl (show decode _ _ = .ok (.iload_n 1, 1) by decide +kernel) ?_
  obtain ⟨⟨hr2, n1, hs3⟩, h_1⟩ := h
  refine fw_putI (kd := 4) (k := 0) (show decode _ _ = .ok (.putfield 9, 3) by decide +kernel) ⟨gf_X4_9, _, rfl, Or.inl rfl⟩ hr2 hs3 rfl ?_
  refine FW.nmM (fun M4 eM5 => ?_)
  have h_2 := h_1 M4 eM5
  refine fw_aload_n (i := 0) 0 rfl (show decode _ _ = .ok (.aload_n 0, 1) by decide +kernel) ?_
  refine fw_aload_n (i := 0) 0 rfl (show decode _ _ = .ok (.aload_n 0, 1) by decide +kernel) ?_
  refine fw_getP (kd := 4) (k := 2) (show decode _ _ = .ok (.getfield 34, 3) by decide +kernel) gf_X4_34 hr2 (mSw_I eM5 hs3) rfl ?_
  have h_3 := dR_e h_2
  obtain ⟨y6, hy7, h_4⟩ := h_3
  refine fw_deref hy7 ?_
  obtain ⟨⟨hr9, n8, hs10⟩, h_5⟩ := h_4
  refine fw_getP (kd := 7) (k := 3) (show decode _ _ = .ok (.getfield 77, 3) by decide +kernel) gf_X4_77 hr9 hs10 rfl ?_
  have h_6 := dR_e h_5
  obtain ⟨y11, hy12, h_7⟩ := h_6
  refine fw_deref hy12 ?_
  refine fw_aload_n (i := 0) 0 rfl (show decode _ _ = .ok (.aload_n 0, 1) by decide +kernel) ?_
  refine fw_getI (kd := 4) (k := 11) (show decode _ _ = .ok (.getfield 55, 3) by decide +kernel) gf_X4_55 hr2 (mSw_I eM5 hs3) (Or.inl rfl) ?_
  refine fw_callSN (mt' := mtX10_cell) (mc := 0) (ms := 0) (As := [.ref y11, .int (mI M4 p0 11)]) (rest := [.ref p0]) 2 "OneStepMore" (show decode _ _ = .ok (.invokestatic 80, 3) by decide +kernel) ns_X4_80 rfl (Nat.le_of_ble_eq_true rfl) (s_X10_cell (d := d) (hd_le hd (by decide)) h_7) (by decide) (by decide) (kI (bc' := 0) (bs' := 0) (by decide) (by decide) (fun x14 M13 h_8 => ?_))
  obtain ⟨⟨hr16, n15, hs17⟩, h_9⟩ := h_8
  refine fw_putI (kd := 4) (k := 1) (show decode _ _ = .ok (.putfield 15, 3) by decide +kernel) ⟨gf_X4_15, _, rfl, Or.inl rfl⟩ hr16 hs17 rfl ?_
  refine FW.nmM (fun M18 eM19 => ?_)
  have h_10 := h_9 M18 eM19
  refine fw_iconst (v := (0 : Int32)) (show decode _ _ = .ok (.iconst 0, 1) by decide +kernel) (by decide) ?_
  exact fw_ret (v := some (.int (0 : Int32))) .ireturn (show decode _ _ = .ok (.ireturn, 1) by decide +kernel) ⟨rfl, Or.inr (Or.inl ⟨rfl, rfl⟩)⟩ ⟨_, rfl, h_10⟩
def w_X4_emit (p0 : Nat) (p1 : Int32) (M : fM) (φ : fM → Prop) : Prop := isO M p0 4 ∧ dR (mP M p0 3) fun y4 => lenA M y4 12 fun n6 => iF ((nI n6) ≤ (mI M p0 8)) (φ M) (dR (mP M p0 3) fun y8 => 6 ≤ y8 ∧ inA M y8 12 (mI M p0 8) ∧ st (wI M y8 (ix (mI M p0 8)) p1) fun M14 => nm ((mI M14 p0 8) + (1 : Int32)) fun x16 => st (wI M14 p0 8 x16) fun M18 => φ M18)
set_option maxRecDepth 100000 in
theorem s_X4_emit {g : GT} {d : Nat} (hd : 1 ≤ d) {p0 : Nat} {p1 : Int32} {M : fM} {φ : fM → Prop} (h : w_X4_emit p0 p1 M φ) : FC g mtX4_emit d [.ref p0, .int p1] M 0 0 (rV φ) := by
  obtain ⟨d, rfl⟩ : ∃ e, d = e + 1 := ⟨d - 1, by omega⟩
  unfold w_X4_emit at h
  refine FC.intro (nL := 2) (by decide) rfl (Nat.le_of_ble_eq_true rfl) ?_
  show FW g mtX4_emit (d + 1) 0 [(0, .ref p0), (1, .int p1)] [] M 0 0 (rV φ)
  refine fw_aload_n (i := 0) 0 rfl (show decode _ _ = .ok (.aload_n 0, 1) by decide +kernel) ?_
  obtain ⟨⟨hr2, n1, hs3⟩, h_1⟩ := h
  refine fw_getI (kd := 4) (k := 8) (show decode _ _ = .ok (.getfield 38, 3) by decide +kernel) gf_X4_38 hr2 hs3 (Or.inl rfl) ?_
  refine fw_aload_n (i := 0) 0 rfl (show decode _ _ = .ok (.aload_n 0, 1) by decide +kernel) ?_
  refine fw_getP (kd := 4) (k := 3) (show decode _ _ = .ok (.getfield 18, 3) by decide +kernel) gf_X4_18 hr2 hs3 rfl ?_
  have h_2 := dR_e h_1
  obtain ⟨y4, hy5, h_3⟩ := h_2
  refine fw_deref hy5 ?_
  obtain ⟨n6, hs7, h_4⟩ := h_3
  refine fw_alen (show decode _ _ = .ok (.arraylength, 1) by decide +kernel) hs7 (by decide) (by decide) (by decide) (fun h_4 => absurd h_4 (by decide)) ?_
  refine fw_icmp_ge 32 (show decode _ _ = .ok (.if_icmp .ge 23, 3) by decide +kernel) (by decide) (fun hc20 => ?_) (fun hc20 => ?_)
  · have h_5 := ipos hc20 h_4
    exact fw_ret (v := none) .return_ (show decode _ _ = .ok (.return_, 1) by decide +kernel) ⟨rfl, rfl⟩ ⟨rfl, h_5⟩
  · have h_6 := ineg hc20 h_4
    refine fw_aload_n (i := 0) 0 rfl (show decode _ _ = .ok (.aload_n 0, 1) by decide +kernel) ?_
    refine fw_getP (kd := 4) (k := 3) (show decode _ _ = .ok (.getfield 18, 3) by decide +kernel) gf_X4_18 hr2 hs3 rfl ?_
    have h_7 := dR_e h_6
    obtain ⟨y8, hy9, h_8⟩ := h_7
    refine fw_deref hy9 ?_
    refine fw_aload_n (i := 0) 0 rfl (show decode _ _ = .ok (.aload_n 0, 1) by decide +kernel) ?_
    refine fw_getI (kd := 4) (k := 8) (show decode _ _ = .ok (.getfield 38, 3) by decide +kernel) gf_X4_38 hr2 hs3 (Or.inl rfl) ?_
    refine fw_iload_n (i := 1) 1 rfl (show decode _ _ = .ok (.iload_n 1, 1) by decide +kernel) ?_
    obtain ⟨hr13, ⟨n10, hs11, hi12⟩, h_9⟩ := h_8
    refine fw_iast (show decode _ _ = .ok (.iastore, 1) by decide +kernel) hr13 hs11 hi12 ?_
    refine FW.nmM (fun M14 eM15 => ?_)
    have h_10 := h_9 M14 eM15
    refine fw_aload_n (i := 0) 0 rfl (show decode _ _ = .ok (.aload_n 0, 1) by decide +kernel) ?_
    refine fw_dup (show decode _ _ = .ok (.dup, 1) by decide +kernel) rfl ?_
    refine fw_getI (kd := 4) (k := 8) (show decode _ _ = .ok (.getfield 38, 3) by decide +kernel) gf_X4_38 hr2 (mSw_I eM15 hs3) (Or.inl rfl) ?_
    refine fw_iconst (v := (1 : Int32)) (show decode _ _ = .ok (.iconst 1, 1) by decide +kernel) (by decide) ?_
    refine fw_iadd (show decode _ _ = .ok (.iadd, 1) by decide +kernel) ?_
    refine fw_nmI (fun x16 ex17 => ?_)
    have h_11 := h_10 x16 ex17
    refine fw_putI (kd := 4) (k := 8) (show decode _ _ = .ok (.putfield 38, 3) by decide +kernel) ⟨gf_X4_38, _, rfl, Or.inl rfl⟩ hr2 (mSw_I eM15 hs3) rfl ?_
    refine FW.nmM (fun M18 eM19 => ?_)
    have h_12 := h_11 M18 eM19
    exact fw_ret (v := none) .return_ (show decode _ _ = .ok (.return_, 1) by decide +kernel) ⟨rfl, rfl⟩ ⟨rfl, h_12⟩
def w_X4_opens (p0 : Nat) (p1 : Int32) (M : fM) (φ : Int32 → fM → Prop) : Prop := iF (p1 < (8 : Int32)) (isO M p0 4 ∧ w_X4_advance p0 M fun M1 => φ (1 : Int32) M1) (isO M p0 4 ∧ w_X4_faulty p0 (3 : Int32) M fun x9 M5 => isB x9 ∧ φ x9 M5)
set_option maxRecDepth 100000 in
theorem s_X4_opens {g : GT} {d : Nat} (hd : 3 ≤ d) {p0 : Nat} {p1 : Int32} {M : fM} {φ : Int32 → fM → Prop} (h : w_X4_opens p0 p1 M φ) : FC g mtX4_opens d [.ref p0, .int p1] M 0 0 (rI φ) := by
  obtain ⟨d, rfl⟩ : ∃ e, d = e + 1 := ⟨d - 1, by omega⟩
  unfold w_X4_opens at h
  refine FC.intro (nL := 2) (by decide) rfl (Nat.le_of_ble_eq_true rfl) ?_
  show FW g mtX4_opens (d + 1) 0 [(0, .ref p0), (1, .int p1)] [] M 0 0 (rI φ)
  refine fw_iload_n (i := 1) 1 rfl (show decode _ _ = .ok (.iload_n 1, 1) by decide +kernel) ?_
  refine fw_bipush (v := (8 : Int32)) (show decode _ _ = .ok (.bipush 8, 2) by decide +kernel) (by decide) ?_
  refine fw_icmp_lt 12 (show decode _ _ = .ok (.if_icmp .lt 9, 3) by decide +kernel) (by decide) (fun hc10 => ?_) (fun hc10 => ?_)
  · have h_1 := ipos hc10 h
    refine fw_aload_n (i := 0) 0 rfl (show decode _ _ = .ok (.aload_n 0, 1) by decide +kernel) ?_
    obtain ⟨⟨hr3, n2, hs4⟩, h_2⟩ := h_1
    refine fw_callV (mt' := mtX4_advance) (mc := 0) (ms := 0) (As := []) (rest := []) 0 4 n2 (show decode _ _ = .ok (.invokevirtual 58, 3) by decide +kernel) cv_X4_58 ⟨_, rfl, rfl⟩ hr3 hs4 rfl (Nat.le_of_ble_eq_true rfl) (s_X4_advance (d := d) (hd_le hd (by decide)) h_2) (by decide) (by decide) (kV (bc' := 0) (bs' := 0) (by decide) (by decide) (fun M1 h_3 => ?_))
    refine fw_iconst (v := (1 : Int32)) (show decode _ _ = .ok (.iconst 1, 1) by decide +kernel) (by decide) ?_
    exact fw_ret (v := some (.int (1 : Int32))) .ireturn (show decode _ _ = .ok (.ireturn, 1) by decide +kernel) ⟨rfl, Or.inr (Or.inl ⟨rfl, rfl⟩)⟩ ⟨_, rfl, h_3⟩
  · have h_4 := ineg hc10 h
    refine fw_aload_n (i := 0) 0 rfl (show decode _ _ = .ok (.aload_n 0, 1) by decide +kernel) ?_
    refine fw_iconst (v := (3 : Int32)) (show decode _ _ = .ok (.iconst 3, 1) by decide +kernel) (by decide) ?_
    obtain ⟨⟨hr7, n6, hs8⟩, h_5⟩ := h_4
    refine fw_callV (mt' := mtX4_faulty) (mc := 0) (ms := 0) (As := [.int (3 : Int32)]) (rest := []) 1 4 n6 (show decode _ _ = .ok (.invokevirtual 84, 3) by decide +kernel) cv_X4_84 ⟨_, rfl, rfl⟩ hr7 hs8 rfl (Nat.le_of_ble_eq_true rfl) (s_X4_faulty (d := d) (hd_le hd (by decide)) h_5) (by decide) (by decide) (kI (bc' := 0) (bs' := 0) (by decide) (by decide) (fun x9 M5 h_6 => ?_))
    obtain ⟨hbb, h_7⟩ := h_6
    exact fw_ret (v := some (.int x9)) .ireturn (show decode _ _ = .ok (.ireturn, 1) by decide +kernel) ⟨rfl, Or.inr (Or.inl ⟨rfl, hbb⟩)⟩ ⟨_, rfl, h_7⟩
def w_X4_readValue (p0 : Nat) (M : fM) (φ : Int32 → fM → Prop) : Prop := isO M p0 4 ∧ iF ((mI M p0 13) ≤ (9999 : Int32)) (w_X4_emit p0 (mI M p0 13) M fun M4 => isO M4 p0 4 ∧ w_X4_advance p0 M4 fun M5 => φ (1 : Int32) M5) (w_X4_faulty p0 (2 : Int32) M fun x10 M9 => isB x10 ∧ φ x10 M9)
set_option maxRecDepth 100000 in
theorem s_X4_readValue {g : GT} {d : Nat} (hd : 3 ≤ d) {p0 : Nat} {M : fM} {φ : Int32 → fM → Prop} (h : w_X4_readValue p0 M φ) : FC g mtX4_readValue d [.ref p0] M 0 0 (rI φ) := by
  obtain ⟨d, rfl⟩ : ∃ e, d = e + 1 := ⟨d - 1, by omega⟩
  unfold w_X4_readValue at h
  refine FC.intro (nL := 1) (by decide) rfl (Nat.le_of_ble_eq_true rfl) ?_
  show FW g mtX4_readValue (d + 1) 0 [(0, .ref p0)] [] M 0 0 (rI φ)
  refine fw_aload_n (i := 0) 0 rfl (show decode _ _ = .ok (.aload_n 0, 1) by decide +kernel) ?_
  obtain ⟨⟨hr2, n1, hs3⟩, h_1⟩ := h
  refine fw_getI (kd := 4) (k := 13) (show decode _ _ = .ok (.getfield 117, 3) by decide +kernel) gf_X4_117 hr2 hs3 (Or.inl rfl) ?_
  refine fw_sipush (v := (9999 : Int32)) (show decode _ _ = .ok (.sipush 9999, 3) by decide +kernel) (by decide) ?_
  refine fw_icmp_le 16 (show decode _ _ = .ok (.if_icmp .le 9, 3) by decide +kernel) (by decide) (fun hc11 => ?_) (fun hc11 => ?_)
  · have h_2 := ipos hc11 h_1
    refine fw_aload_n (i := 0) 0 rfl (show decode _ _ = .ok (.aload_n 0, 1) by decide +kernel) ?_
    refine fw_aload_n (i := 0) 0 rfl (show decode _ _ = .ok (.aload_n 0, 1) by decide +kernel) ?_
    refine fw_getI (kd := 4) (k := 13) (show decode _ _ = .ok (.getfield 117, 3) by decide +kernel) gf_X4_117 hr2 hs3 (Or.inl rfl) ?_
    refine fw_callV (mt' := mtX4_emit) (mc := 0) (ms := 0) (As := [.int (mI M p0 13)]) (rest := []) 1 4 n1 (show decode _ _ = .ok (.invokevirtual 123, 3) by decide +kernel) cv_X4_123 ⟨_, rfl, rfl⟩ hr2 hs3 rfl (Nat.le_of_ble_eq_true rfl) (s_X4_emit (d := d) (hd_le hd (by decide)) h_2) (by decide) (by decide) (kV (bc' := 0) (bs' := 0) (by decide) (by decide) (fun M4 h_3 => ?_))
    refine fw_aload_n (i := 0) 0 rfl (show decode _ _ = .ok (.aload_n 0, 1) by decide +kernel) ?_
    obtain ⟨⟨hr7, n6, hs8⟩, h_4⟩ := h_3
    refine fw_callV (mt' := mtX4_advance) (mc := 0) (ms := 0) (As := []) (rest := []) 0 4 n6 (show decode _ _ = .ok (.invokevirtual 58, 3) by decide +kernel) cv_X4_58 ⟨_, rfl, rfl⟩ hr7 hs8 rfl (Nat.le_of_ble_eq_true rfl) (s_X4_advance (d := d) (hd_le hd (by decide)) h_4) (by decide) (by decide) (kV (bc' := 0) (bs' := 0) (by decide) (by decide) (fun M5 h_5 => ?_))
    refine fw_iconst (v := (1 : Int32)) (show decode _ _ = .ok (.iconst 1, 1) by decide +kernel) (by decide) ?_
    exact fw_ret (v := some (.int (1 : Int32))) .ireturn (show decode _ _ = .ok (.ireturn, 1) by decide +kernel) ⟨rfl, Or.inr (Or.inl ⟨rfl, rfl⟩)⟩ ⟨_, rfl, h_5⟩
  · have h_6 := ineg hc11 h_1
    refine fw_aload_n (i := 0) 0 rfl (show decode _ _ = .ok (.aload_n 0, 1) by decide +kernel) ?_
    refine fw_iconst (v := (2 : Int32)) (show decode _ _ = .ok (.iconst 2, 1) by decide +kernel) (by decide) ?_
    refine fw_callV (mt' := mtX4_faulty) (mc := 0) (ms := 0) (As := [.int (2 : Int32)]) (rest := []) 1 4 n1 (show decode _ _ = .ok (.invokevirtual 84, 3) by decide +kernel) cv_X4_84 ⟨_, rfl, rfl⟩ hr2 hs3 rfl (Nat.le_of_ble_eq_true rfl) (s_X4_faulty (d := d) (hd_le hd (by decide)) h_6) (by decide) (by decide) (kI (bc' := 0) (bs' := 0) (by decide) (by decide) (fun x10 M9 h_7 => ?_))
    obtain ⟨hbb, h_8⟩ := h_7
    exact fw_ret (v := some (.int x10)) .ireturn (show decode _ _ = .ok (.ireturn, 1) by decide +kernel) ⟨rfl, Or.inr (Or.inl ⟨rfl, hbb⟩)⟩ ⟨_, rfl, h_8⟩
def w_X4_passes (p0 : Nat) (p1 : Int32) (M : fM) (φ : Int32 → fM → Prop) : Prop := isO M p0 4 ∧ iF ((mI M p0 12) = p1) (w_X4_advance p0 M fun M4 => φ (1 : Int32) M4) (w_X4_faulty p0 (1 : Int32) M fun x6 M5 => isB x6 ∧ φ x6 M5)
set_option maxRecDepth 100000 in
theorem s_X4_passes {g : GT} {d : Nat} (hd : 3 ≤ d) {p0 : Nat} {p1 : Int32} {M : fM} {φ : Int32 → fM → Prop} (h : w_X4_passes p0 p1 M φ) : FC g mtX4_passes d [.ref p0, .int p1] M 0 0 (rI φ) := by
  obtain ⟨d, rfl⟩ : ∃ e, d = e + 1 := ⟨d - 1, by omega⟩
  unfold w_X4_passes at h
  refine FC.intro (nL := 2) (by decide) rfl (Nat.le_of_ble_eq_true rfl) ?_
  show FW g mtX4_passes (d + 1) 0 [(0, .ref p0), (1, .int p1)] [] M 0 0 (rI φ)
  refine fw_aload_n (i := 0) 0 rfl (show decode _ _ = .ok (.aload_n 0, 1) by decide +kernel) ?_
  obtain ⟨⟨hr2, n1, hs3⟩, h_1⟩ := h
  refine fw_getI (kd := 4) (k := 12) (show decode _ _ = .ok (.getfield 61, 3) by decide +kernel) gf_X4_61 hr2 hs3 (Or.inl rfl) ?_
  refine fw_iload_n (i := 1) 1 rfl (show decode _ _ = .ok (.iload_n 1, 1) by decide +kernel) ?_
  refine fw_icmp_eq 14 (show decode _ _ = .ok (.if_icmp .eq 9, 3) by decide +kernel) (by decide) (fun hc7 => ?_) (fun hc7 => ?_)
  · have h_2 := ipos hc7 h_1
    refine fw_aload_n (i := 0) 0 rfl (show decode _ _ = .ok (.aload_n 0, 1) by decide +kernel) ?_
    refine fw_callV (mt' := mtX4_advance) (mc := 0) (ms := 0) (As := []) (rest := []) 0 4 n1 (show decode _ _ = .ok (.invokevirtual 58, 3) by decide +kernel) cv_X4_58 ⟨_, rfl, rfl⟩ hr2 hs3 rfl (Nat.le_of_ble_eq_true rfl) (s_X4_advance (d := d) (hd_le hd (by decide)) h_2) (by decide) (by decide) (kV (bc' := 0) (bs' := 0) (by decide) (by decide) (fun M4 h_3 => ?_))
    refine fw_iconst (v := (1 : Int32)) (show decode _ _ = .ok (.iconst 1, 1) by decide +kernel) (by decide) ?_
    exact fw_ret (v := some (.int (1 : Int32))) .ireturn (show decode _ _ = .ok (.ireturn, 1) by decide +kernel) ⟨rfl, Or.inr (Or.inl ⟨rfl, rfl⟩)⟩ ⟨_, rfl, h_3⟩
  · have h_4 := ineg hc7 h_1
    refine fw_aload_n (i := 0) 0 rfl (show decode _ _ = .ok (.aload_n 0, 1) by decide +kernel) ?_
    refine fw_iconst (v := (1 : Int32)) (show decode _ _ = .ok (.iconst 1, 1) by decide +kernel) (by decide) ?_
    refine fw_callV (mt' := mtX4_faulty) (mc := 0) (ms := 0) (As := [.int (1 : Int32)]) (rest := []) 1 4 n1 (show decode _ _ = .ok (.invokevirtual 84, 3) by decide +kernel) cv_X4_84 ⟨_, rfl, rfl⟩ hr2 hs3 rfl (Nat.le_of_ble_eq_true rfl) (s_X4_faulty (d := d) (hd_le hd (by decide)) h_4) (by decide) (by decide) (kI (bc' := 0) (bs' := 0) (by decide) (by decide) (fun x6 M5 h_5 => ?_))
    obtain ⟨hbb, h_6⟩ := h_5
    exact fw_ret (v := some (.int x6)) .ireturn (show decode _ _ = .ok (.ireturn, 1) by decide +kernel) ⟨rfl, Or.inr (Or.inl ⟨rfl, hbb⟩)⟩ ⟨_, rfl, h_6⟩
def j_X4_readName_83 (φ : Int32 → fM → Prop) (p0 : Nat) (p1 : Int32) (M : fM) : Prop := isO M p0 4 ∧ w_X4_emit p0 ((-100 : Int32) - p1) M fun M1 => isO M1 p0 4 ∧ w_X4_advance p0 M1 fun M5 => φ (1 : Int32) M5
set_option maxRecDepth 100000 in
theorem sj_X4_readName_83 {g : GT} {d : Nat} (hd : 3 ≤ d + 1) {φ : Int32 → fM → Prop} {p0 : Nat} {p1 : Int32} {M : fM} (h : j_X4_readName_83 φ p0 p1 M) : FW g mtX4_readName (d + 1) 83 [(0, .ref p0), (1, .int p1)] [] M 0 0 (rI φ) := by
  unfold j_X4_readName_83 at h
  refine fw_aload_n (i := 0) 0 rfl (show decode _ _ = .ok (.aload_n 0, 1) by decide +kernel) ?_
  refine fw_bipush (v := (-100 : Int32)) (show decode _ _ = .ok (.bipush (-100), 2) by decide +kernel) (by decide) ?_
  refine fw_iload_n (i := 1) 1 rfl (show decode _ _ = .ok (.iload_n 1, 1) by decide +kernel) ?_
  refine fw_isub (show decode _ _ = .ok (.isub, 1) by decide +kernel) ?_
  obtain ⟨⟨hr3, n2, hs4⟩, h_1⟩ := h
  refine fw_callV (mt' := mtX4_emit) (mc := 0) (ms := 0) (As := [.int ((-100 : Int32) - p1)]) (rest := []) 1 4 n2 (show decode _ _ = .ok (.invokevirtual 123, 3) by decide +kernel) cv_X4_123 ⟨_, rfl, rfl⟩ hr3 hs4 rfl (Nat.le_of_ble_eq_true rfl) (s_X4_emit (d := d) (hd_le hd (by decide)) h_1) (by decide) (by decide) (kV (bc' := 0) (bs' := 0) (by decide) (by decide) (fun M1 h_2 => ?_))
  refine fw_aload_n (i := 0) 0 rfl (show decode _ _ = .ok (.aload_n 0, 1) by decide +kernel) ?_
  obtain ⟨⟨hr7, n6, hs8⟩, h_3⟩ := h_2
  refine fw_callV (mt' := mtX4_advance) (mc := 0) (ms := 0) (As := []) (rest := []) 0 4 n6 (show decode _ _ = .ok (.invokevirtual 58, 3) by decide +kernel) cv_X4_58 ⟨_, rfl, rfl⟩ hr7 hs8 rfl (Nat.le_of_ble_eq_true rfl) (s_X4_advance (d := d) (hd_le hd (by decide)) h_3) (by decide) (by decide) (kV (bc' := 0) (bs' := 0) (by decide) (by decide) (fun M5 h_4 => ?_))
  refine fw_iconst (v := (1 : Int32)) (show decode _ _ = .ok (.iconst 1, 1) by decide +kernel) (by decide) ?_
  exact fw_ret (v := some (.int (1 : Int32))) .ireturn (show decode _ _ = .ok (.ireturn, 1) by decide +kernel) ⟨rfl, Or.inr (Or.inl ⟨rfl, rfl⟩)⟩ ⟨_, rfl, h_4⟩
def j_X4_readName_77 (φ : Int32 → fM → Prop) (p0 : Nat) (M : fM) : Prop := isO M p0 4 ∧ w_X4_faulty p0 (5 : Int32) M fun x13 M9 => isB x13 ∧ φ x13 M9
set_option maxRecDepth 100000 in
theorem sj_X4_readName_77 {g : GT} {d : Nat} (hd : 3 ≤ d + 1) {φ : Int32 → fM → Prop} {p0 : Nat} {M : fM} (h : j_X4_readName_77 φ p0 M) : FW g mtX4_readName (d + 1) 77 [(0, .ref p0)] [] M 0 0 (rI φ) := by
  unfold j_X4_readName_77 at h
  refine fw_aload_n (i := 0) 0 rfl (show decode _ _ = .ok (.aload_n 0, 1) by decide +kernel) ?_
  refine fw_iconst (v := (5 : Int32)) (show decode _ _ = .ok (.iconst 5, 1) by decide +kernel) (by decide) ?_
  obtain ⟨⟨hr11, n10, hs12⟩, h_1⟩ := h
  refine fw_callV (mt' := mtX4_faulty) (mc := 0) (ms := 0) (As := [.int (5 : Int32)]) (rest := []) 1 4 n10 (show decode _ _ = .ok (.invokevirtual 84, 3) by decide +kernel) cv_X4_84 ⟨_, rfl, rfl⟩ hr11 hs12 rfl (Nat.le_of_ble_eq_true rfl) (s_X4_faulty (d := d) (hd_le hd (by decide)) h_1) (by decide) (by decide) (kI (bc' := 0) (bs' := 0) (by decide) (by decide) (fun x13 M9 h_2 => ?_))
  obtain ⟨hbb, h_3⟩ := h_2
  exact fw_ret (v := some (.int x13)) .ireturn (show decode _ _ = .ok (.ireturn, 1) by decide +kernel) ⟨rfl, Or.inr (Or.inl ⟨rfl, hbb⟩)⟩ ⟨_, rfl, h_3⟩
def j_X4_readName_55 (φ : Int32 → fM → Prop) (p0 : Nat) (p1 : Int32) (M : fM) : Prop := iF (p1 < (6 : Int32)) (j_X4_readName_83 φ p0 p1 M) (isO M p0 4 ∧ iF ((mI M p0 10) = (3 : Int32)) (j_X4_readName_77 φ p0 M) (iF ((mI M p0 10) = (4 : Int32)) (j_X4_readName_77 φ p0 M) (j_X4_readName_83 φ p0 p1 M)))
set_option maxRecDepth 100000 in
theorem sj_X4_readName_55 {g : GT} {d : Nat} (hd : 3 ≤ d + 1) {φ : Int32 → fM → Prop} {p0 : Nat} {p1 : Int32} {M : fM} (h : j_X4_readName_55 φ p0 p1 M) : FW g mtX4_readName (d + 1) 55 [(0, .ref p0), (1, .int p1)] [] M 0 0 (rI φ) := by
  unfold j_X4_readName_55 at h
  refine fw_iload_n (i := 1) 1 rfl (show decode _ _ = .ok (.iload_n 1, 1) by decide +kernel) ?_
  refine fw_bipush (v := (6 : Int32)) (show decode _ _ = .ok (.bipush 6, 2) by decide +kernel) (by decide) ?_
  refine fw_icmp_lt 83 (show decode _ _ = .ok (.if_icmp .lt 25, 3) by decide +kernel) (by decide) (fun hc19 => ?_) (fun hc19 => ?_)
  · have h_1 := ipos hc19 h
    refine FW.sub [0, 1] (ls' := [(0, .ref p0), (1, .int p1)]) rfl ?_
    exact sj_X4_readName_83 hd h_1
  · have h_2 := ineg hc19 h
    refine fw_aload_n (i := 0) 0 rfl (show decode _ _ = .ok (.aload_n 0, 1) by decide +kernel) ?_
    obtain ⟨⟨hr15, n14, hs16⟩, h_3⟩ := h_2
    refine fw_getI (kd := 4) (k := 10) (show decode _ _ = .ok (.getfield 101, 3) by decide +kernel) gf_X4_101 hr15 hs16 (Or.inl rfl) ?_
    refine fw_iconst (v := (3 : Int32)) (show decode _ _ = .ok (.iconst 3, 1) by decide +kernel) (by decide) ?_
    refine fw_icmp_eq 77 (show decode _ _ = .ok (.if_icmp .eq 11, 3) by decide +kernel) (by decide) (fun hc18 => ?_) (fun hc18 => ?_)
    · have h_4 := ipos hc18 h_3
      refine FW.sub [0] (ls' := [(0, .ref p0)]) rfl ?_
      exact sj_X4_readName_77 hd h_4
    · have h_5 := ineg hc18 h_3
      refine fw_aload_n (i := 0) 0 rfl (show decode _ _ = .ok (.aload_n 0, 1) by decide +kernel) ?_
      refine fw_getI (kd := 4) (k := 10) (show decode _ _ = .ok (.getfield 101, 3) by decide +kernel) gf_X4_101 hr15 hs16 (Or.inl rfl) ?_
      refine fw_iconst (v := (4 : Int32)) (show decode _ _ = .ok (.iconst 4, 1) by decide +kernel) (by decide) ?_
      refine fw_icmp_ne 83 (show decode _ _ = .ok (.if_icmp .ne 9, 3) by decide +kernel) (by decide) (fun hc17 => ?_) (fun hc17 => ?_)
      · have h_6 := ineg hc17 h_5
        refine FW.sub [0, 1] (ls' := [(0, .ref p0), (1, .int p1)]) rfl ?_
        exact sj_X4_readName_83 hd h_6
      · have h_7 := ipos hc17 h_5
        refine FW.sub [0] (ls' := [(0, .ref p0)]) rfl ?_
        exact sj_X4_readName_77 hd h_7
def j_X4_readName_49 (φ : Int32 → fM → Prop) (p0 : Nat) (M : fM) : Prop := isO M p0 4 ∧ w_X4_faulty p0 (1 : Int32) M fun x24 M20 => isB x24 ∧ φ x24 M20
set_option maxRecDepth 100000 in
theorem sj_X4_readName_49 {g : GT} {d : Nat} (hd : 3 ≤ d + 1) {φ : Int32 → fM → Prop} {p0 : Nat} {M : fM} (h : j_X4_readName_49 φ p0 M) : FW g mtX4_readName (d + 1) 49 [(0, .ref p0)] [] M 0 0 (rI φ) := by
  unfold j_X4_readName_49 at h
  refine fw_aload_n (i := 0) 0 rfl (show decode _ _ = .ok (.aload_n 0, 1) by decide +kernel) ?_
  refine fw_iconst (v := (1 : Int32)) (show decode _ _ = .ok (.iconst 1, 1) by decide +kernel) (by decide) ?_
  obtain ⟨⟨hr22, n21, hs23⟩, h_1⟩ := h
  refine fw_callV (mt' := mtX4_faulty) (mc := 0) (ms := 0) (As := [.int (1 : Int32)]) (rest := []) 1 4 n21 (show decode _ _ = .ok (.invokevirtual 84, 3) by decide +kernel) cv_X4_84 ⟨_, rfl, rfl⟩ hr22 hs23 rfl (Nat.le_of_ble_eq_true rfl) (s_X4_faulty (d := d) (hd_le hd (by decide)) h_1) (by decide) (by decide) (kI (bc' := 0) (bs' := 0) (by decide) (by decide) (fun x24 M20 h_2 => ?_))
  obtain ⟨hbb, h_3⟩ := h_2
  exact fw_ret (v := some (.int x24)) .ireturn (show decode _ _ = .ok (.ireturn, 1) by decide +kernel) ⟨rfl, Or.inr (Or.inl ⟨rfl, hbb⟩)⟩ ⟨_, rfl, h_3⟩
def j_X4_readName_21 (φ : Int32 → fM → Prop) (p0 : Nat) (s0 : Int32) (M : fM) : Prop := isO M p0 4 ∧ iF ((mI M p0 12) = (8 : Int32)) (j_X4_readName_55 φ p0 s0 M) (iF ((mI M p0 12) < (26 : Int32)) (j_X4_readName_49 φ p0 M) (iF ((mI M p0 12) ≤ (34 : Int32)) (j_X4_readName_55 φ p0 s0 M) (j_X4_readName_49 φ p0 M)))
set_option maxRecDepth 100000 in
theorem sj_X4_readName_21 {g : GT} {d : Nat} (hd : 3 ≤ d + 1) {φ : Int32 → fM → Prop} {p0 : Nat} {s0 : Int32} {M : fM} (h : j_X4_readName_21 φ p0 s0 M) : FW g mtX4_readName (d + 1) 21 [(0, .ref p0)] [.int s0] M 0 0 (rI φ) := by
  unfold j_X4_readName_21 at h
  refine fw_istore_n (i := 1) (ls' := [(1, .int s0), (0, .ref p0)]) (show decode _ _ = .ok (.istore_n 1, 1) by decide +kernel) (by decide) rfl ?_
  refine fw_aload_n (i := 0) 1 rfl (show decode _ _ = .ok (.aload_n 0, 1) by decide +kernel) ?_
  obtain ⟨⟨hr26, n25, hs27⟩, h_1⟩ := h
  refine fw_getI (kd := 4) (k := 12) (show decode _ _ = .ok (.getfield 61, 3) by decide +kernel) gf_X4_61 hr26 hs27 (Or.inl rfl) ?_
  refine fw_bipush (v := (8 : Int32)) (show decode _ _ = .ok (.bipush 8, 2) by decide +kernel) (by decide) ?_
  refine fw_icmp_eq 55 (show decode _ _ = .ok (.if_icmp .eq 27, 3) by decide +kernel) (by decide) (fun hc30 => ?_) (fun hc30 => ?_)
  · have h_2 := ipos hc30 h_1
    refine FW.sub [1, 0] (ls' := [(0, .ref p0), (1, .int s0)]) rfl ?_
    exact sj_X4_readName_55 hd h_2
  · have h_3 := ineg hc30 h_1
    refine fw_aload_n (i := 0) 1 rfl (show decode _ _ = .ok (.aload_n 0, 1) by decide +kernel) ?_
    refine fw_getI (kd := 4) (k := 12) (show decode _ _ = .ok (.getfield 61, 3) by decide +kernel) gf_X4_61 hr26 hs27 (Or.inl rfl) ?_
    refine fw_bipush (v := (26 : Int32)) (show decode _ _ = .ok (.bipush 26, 2) by decide +kernel) (by decide) ?_
    refine fw_icmp_lt 49 (show decode _ _ = .ok (.if_icmp .lt 12, 3) by decide +kernel) (by decide) (fun hc29 => ?_) (fun hc29 => ?_)
    · have h_4 := ipos hc29 h_3
      refine FW.sub [1] (ls' := [(0, .ref p0)]) rfl ?_
      exact sj_X4_readName_49 hd h_4
    · have h_5 := ineg hc29 h_3
      refine fw_aload_n (i := 0) 1 rfl (show decode _ _ = .ok (.aload_n 0, 1) by decide +kernel) ?_
      refine fw_getI (kd := 4) (k := 12) (show decode _ _ = .ok (.getfield 61, 3) by decide +kernel) gf_X4_61 hr26 hs27 (Or.inl rfl) ?_
      refine fw_bipush (v := (34 : Int32)) (show decode _ _ = .ok (.bipush 34, 2) by decide +kernel) (by decide) ?_
      refine fw_icmp_le 55 (show decode _ _ = .ok (.if_icmp .le 9, 3) by decide +kernel) (by decide) (fun hc28 => ?_) (fun hc28 => ?_)
      · have h_6 := ipos hc28 h_5
        refine FW.sub [1, 0] (ls' := [(0, .ref p0), (1, .int s0)]) rfl ?_
        exact sj_X4_readName_55 hd h_6
      · have h_7 := ineg hc28 h_5
        refine FW.sub [1] (ls' := [(0, .ref p0)]) rfl ?_
        exact sj_X4_readName_49 hd h_7
def w_X4_readName (p0 : Nat) (M : fM) (φ : Int32 → fM → Prop) : Prop := isO M p0 4 ∧ iF ((mI M p0 12) = (8 : Int32)) (j_X4_readName_21 φ p0 (9 : Int32) M) (j_X4_readName_21 φ p0 ((mI M p0 12) - (26 : Int32)) M)
set_option maxRecDepth 100000 in
theorem s_X4_readName {g : GT} {d : Nat} (hd : 3 ≤ d) {p0 : Nat} {M : fM} {φ : Int32 → fM → Prop} (h : w_X4_readName p0 M φ) : FC g mtX4_readName d [.ref p0] M 0 0 (rI φ) := by
  obtain ⟨d, rfl⟩ : ∃ e, d = e + 1 := ⟨d - 1, by omega⟩
  unfold w_X4_readName at h
  refine FC.intro (nL := 2) (by decide) rfl (Nat.le_of_ble_eq_true rfl) ?_
  show FW g mtX4_readName (d + 1) 0 [(0, .ref p0)] [] M 0 0 (rI φ)
  refine fw_aload_n (i := 0) 0 rfl (show decode _ _ = .ok (.aload_n 0, 1) by decide +kernel) ?_
  obtain ⟨⟨hr32, n31, hs33⟩, h_1⟩ := h
  refine fw_getI (kd := 4) (k := 12) (show decode _ _ = .ok (.getfield 61, 3) by decide +kernel) gf_X4_61 hr32 hs33 (Or.inl rfl) ?_
  refine fw_bipush (v := (8 : Int32)) (show decode _ _ = .ok (.bipush 8, 2) by decide +kernel) (by decide) ?_
  refine fw_icmp_ne 14 (show decode _ _ = .ok (.if_icmp .ne 8, 3) by decide +kernel) (by decide) (fun hc34 => ?_) (fun hc34 => ?_)
  · have h_2 := ineg hc34 h_1
    refine fw_aload_n (i := 0) 0 rfl (show decode _ _ = .ok (.aload_n 0, 1) by decide +kernel) ?_
    refine fw_getI (kd := 4) (k := 12) (show decode _ _ = .ok (.getfield 61, 3) by decide +kernel) gf_X4_61 hr32 hs33 (Or.inl rfl) ?_
    refine fw_bipush (v := (26 : Int32)) (show decode _ _ = .ok (.bipush 26, 2) by decide +kernel) (by decide) ?_
    refine fw_isub (show decode _ _ = .ok (.isub, 1) by decide +kernel) ?_
    refine FW.sub [0] (ls' := [(0, .ref p0)]) rfl ?_
    exact sj_X4_readName_21 hd h_2
  · have h_3 := ipos hc34 h_1
    refine fw_bipush (v := (9 : Int32)) (show decode _ _ = .ok (.bipush 9, 2) by decide +kernel) (by decide) ?_
    refine fw_goto 21 (show decode _ _ = .ok (.goto 10, 3) by decide +kernel) (by decide) ?_
    refine FW.sub [0] (ls' := [(0, .ref p0)]) rfl ?_
    exact sj_X4_readName_21 hd h_3
