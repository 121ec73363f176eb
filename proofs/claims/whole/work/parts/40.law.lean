def j_L_law_1833 (K18 : Nat → Nat → Nat → Int32 → fM → Prop) (φ : Int32 → fM → Prop) (p0 : Nat) (p1 : Nat) (p2 : Nat) (p3 : Int32) (M : fM) : Prop := nm (p3 + (7 : Int32)) fun x1 => K18 p0 p1 p2 x1 M
set_option maxRecDepth 100000 in
theorem sj_L_law_1833 {g : GT} {d Bc Bs : Nat} (hd : 80 ≤ d + 1) {K18 : Nat → Nat → Nat → Int32 → fM → Prop} {φ : Int32 → fM → Prop} (hK18 : ∀ (p0 : Nat) (p1 : Nat) (p2 : Nat) (p3 : Int32) (M : fM), K18 p0 p1 p2 p3 M → FW g mtL_law (d + 1) 18 [(0, .ref p0), (1, .ref p1), (2, .ref p2), (3, .int p3)] [] M Bc Bs (rI φ)) {p0 : Nat} {p1 : Nat} {p2 : Nat} {p3 : Int32} {M : fM} (h : j_L_law_1833 K18 φ p0 p1 p2 p3 M) : FW g mtL_law (d + 1) 1833 [(0, .ref p0), (1, .ref p1), (2, .ref p2), (3, .int p3)] [] M Bc Bs (rI φ) := by
  unfold j_L_law_1833 at h
  obtain ⟨x1, ex2⟩ : ∃ y : Int32, y = p3 + (7 : Int32) := ⟨_, rfl⟩
  have h_1 := h x1 ex2
  refine fw_iinc (i := 3) (x := p3) (v := x1) (ls' := [(3, .int x1), (0, .ref p0), (1, .ref p1), (2, .ref p2)]) 3 rfl (show decode _ _ = .ok (.iinc 3 7, 3) by decide +kernel) (by rw [ex2]; rfl) (by decide) rfl ?_
  refine fw_goto 18 (show decode _ _ = .ok (.goto (-1818), 3) by decide +kernel) (by decide) ?_
  refine FW.sub [1, 2, 3, 0] (ls' := [(0, .ref p0), (1, .ref p1), (2, .ref p2), (3, .int x1)]) rfl ?_
  exact hK18 _ _ _ _ _ h_1
def j_L_law_1810 (K18 : Nat → Nat → Nat → Int32 → fM → Prop) (φ : Int32 → fM → Prop) (p0 : Nat) (p1 : Nat) (p2 : Nat) (p3 : Int32) (M : fM) : Prop := inA M p0 12 (p3 + (1 : Int32)) ∧ isO M p1 10 ∧ w_X10_about p1 (mI M p0 (ix (p3 + (1 : Int32)))) M fun x10 M6 => inA M6 p0 12 (p3 + (1 : Int32)) ∧ isO M6 p2 11 ∧ w_X11_about p2 (mI M6 p0 (ix (p3 + (1 : Int32)))) M6 fun x18 M14 => iF (x10 = x18) (j_L_law_1833 K18 φ p0 p1 p2 p3 M14) (φ (0 : Int32) M14)
set_option maxRecDepth 100000 in
theorem sj_L_law_1810 {g : GT} {d Bc Bs : Nat} (hd : 80 ≤ d + 1) {K18 : Nat → Nat → Nat → Int32 → fM → Prop} {φ : Int32 → fM → Prop} (hK18 : ∀ (p0 : Nat) (p1 : Nat) (p2 : Nat) (p3 : Int32) (M : fM), K18 p0 p1 p2 p3 M → FW g mtL_law (d + 1) 18 [(0, .ref p0), (1, .ref p1), (2, .ref p2), (3, .int p3)] [] M Bc Bs (rI φ)) {p0 : Nat} {p1 : Nat} {p2 : Nat} {p3 : Int32} {M : fM} (h : j_L_law_1810 K18 φ p0 p1 p2 p3 M) : FW g mtL_law (d + 1) 1810 [(0, .ref p0), (1, .ref p1), (2, .ref p2), (3, .int p3)] [] M (Bc + 11) (Bs + 3005) (rI φ) := by
  unfold j_L_law_1810 at h
  refine fw_aload_n (i := 1) 1 rfl (show decode _ _ = .ok (.aload_n 1, 1) by decide +kernel) ?_
  refine fw_aload_n (i := 0) 0 rfl (show decode _ _ = .ok (.aload_n 0, 1) by decide +kernel) ?_
  refine fw_iload_n (i := 3) 3 rfl (show decode _ _ = .ok (.iload_n 3, 1) by decide +kernel) ?_
  refine fw_iconst (v := (1 : Int32)) (show decode _ _ = .ok (.iconst 1, 1) by decide +kernel) (by decide) ?_
  refine fw_iadd (show decode _ _ = .ok (.iadd, 1) by decide +kernel) ?_
  obtain ⟨⟨n3, hs4, hi5⟩, h_1⟩ := h
  refine fw_iald (show decode _ _ = .ok (.iaload, 1) by decide +kernel) hs4 hi5 ?_
  obtain ⟨⟨hr8, n7, hs9⟩, h_2⟩ := h_1
  refine fw_callV (mt' := mtX10_about) (mc := 0) (ms := 0) (As := [.int (mI M p0 (ix (p3 + (1 : Int32))))]) (rest := []) 1 10 n7 (show decode _ _ = .ok (.invokevirtual 192, 3) by decide +kernel) cv_L_192 ⟨_, rfl, rfl⟩ hr8 hs9 rfl (Nat.le_of_ble_eq_true rfl) (s_X10_about (d := d) (hd_le hd (by decide)) h_2) (by first | exact Nat.le_refl _ | exact Nat.le_add_right _ _ | exact Nat.zero_le _ | exact Nat.le_add_left _ _ | exact Nat.le_of_eq (Nat.add_sub_cancel).symm | decide) (by first | exact Nat.le_refl _ | exact Nat.le_add_right _ _ | exact Nat.zero_le _ | exact Nat.le_add_left _ _ | exact Nat.le_of_eq (Nat.add_sub_cancel).symm | decide) (kI (bc' := (Bc + 11)) (bs' := (Bs + 3005)) (by first | exact Nat.le_refl _ | exact Nat.le_add_right _ _ | exact Nat.zero_le _ | exact Nat.le_add_left _ _ | exact Nat.le_of_eq (Nat.add_sub_cancel).symm | decide) (by first | exact Nat.le_refl _ | exact Nat.le_add_right _ _ | exact Nat.zero_le _ | exact Nat.le_add_left _ _ | exact Nat.le_of_eq (Nat.add_sub_cancel).symm | decide) (fun x10 M6 h_3 => ?_))
  refine fw_aload_n (i := 2) 2 rfl (show decode _ _ = .ok (.aload_n 2, 1) by decide +kernel) ?_
  refine fw_aload_n (i := 0) 0 rfl (show decode _ _ = .ok (.aload_n 0, 1) by decide +kernel) ?_
  refine fw_iload_n (i := 3) 3 rfl (show decode _ _ = .ok (.iload_n 3, 1) by decide +kernel) ?_
  refine fw_iconst (v := (1 : Int32)) (show decode _ _ = .ok (.iconst 1, 1) by decide +kernel) (by decide) ?_
  refine fw_iadd (show decode _ _ = .ok (.iadd, 1) by decide +kernel) ?_
  obtain ⟨⟨n11, hs12, hi13⟩, h_4⟩ := h_3
  refine fw_iald (show decode _ _ = .ok (.iaload, 1) by decide +kernel) hs12 hi13 ?_
  obtain ⟨⟨hr16, n15, hs17⟩, h_5⟩ := h_4
  refine fw_callV (mt' := mtX11_about) (mc := 0) (ms := 0) (As := [.int (mI M6 p0 (ix (p3 + (1 : Int32))))]) (rest := [.int x10]) 1 11 n15 (show decode _ _ = .ok (.invokevirtual 195, 3) by decide +kernel) cv_L_195 ⟨_, rfl, rfl⟩ hr16 hs17 rfl (Nat.le_of_ble_eq_true rfl) (s_X11_about (d := d) (hd_le hd (by decide)) h_5) (by first | exact Nat.le_refl _ | exact Nat.le_add_right _ _ | exact Nat.zero_le _ | exact Nat.le_add_left _ _ | exact Nat.le_of_eq (Nat.add_sub_cancel).symm | decide) (by first | exact Nat.le_refl _ | exact Nat.le_add_right _ _ | exact Nat.zero_le _ | exact Nat.le_add_left _ _ | exact Nat.le_of_eq (Nat.add_sub_cancel).symm | decide) (kI (bc' := (Bc + 11)) (bs' := (Bs + 3005)) (by first | exact Nat.le_refl _ | exact Nat.le_add_right _ _ | exact Nat.zero_le _ | exact Nat.le_add_left _ _ | exact Nat.le_of_eq (Nat.add_sub_cancel).symm | decide) (by first | exact Nat.le_refl _ | exact Nat.le_add_right _ _ | exact Nat.zero_le _ | exact Nat.le_add_left _ _ | exact Nat.le_of_eq (Nat.add_sub_cancel).symm | decide) (fun x18 M14 h_6 => ?_))
  refine fw_icmp_eq 1833 (show decode _ _ = .ok (.if_icmp .eq 5, 3) by decide +kernel) (by decide) (fun hc19 => ?_) (fun hc19 => ?_)
  · have h_7 := ipos hc19 h_6
    refine FW.sub [0, 1, 2, 3] (ls' := [(0, .ref p0), (1, .ref p1), (2, .ref p2), (3, .int p3)]) rfl ?_
    refine FW.room (bc' := Bc) (bs' := Bs) (by first | exact Nat.le_refl _ | exact Nat.le_add_right _ _ | exact Nat.zero_le _ | exact Nat.le_add_left _ _ | exact Nat.le_of_eq (Nat.add_sub_cancel).symm | decide) (by first | exact Nat.le_refl _ | exact Nat.le_add_right _ _ | exact Nat.zero_le _ | exact Nat.le_add_left _ _ | exact Nat.le_of_eq (Nat.add_sub_cancel).symm | decide) ?_
    exact sj_L_law_1833 hd hK18 h_7
  · have h_8 := ineg hc19 h_6
    refine fw_iconst (v := (0 : Int32)) (show decode _ _ = .ok (.iconst 0, 1) by decide +kernel) (by decide) ?_
    exact fw_ret (v := some (.int (0 : Int32))) .ireturn (show decode _ _ = .ok (.ireturn, 1) by decide +kernel) ⟨rfl, Or.inr (Or.inl ⟨rfl, rfl⟩)⟩ ⟨_, rfl, h_8⟩
def j_L_law_1797 (K18 : Nat → Nat → Nat → Int32 → fM → Prop) (φ : Int32 → fM → Prop) (p0 : Nat) (p1 : Nat) (p2 : Nat) (p3 : Int32) (M : fM) : Prop := isO M p1 10 ∧ w_X10_back p1 M fun x24 M20 => isO M20 p2 11 ∧ w_X11_back p2 M20 fun x29 M25 => iF (x24 = x29) (j_L_law_1833 K18 φ p0 p1 p2 p3 M25) (φ (0 : Int32) M25)
set_option maxRecDepth 100000 in
theorem sj_L_law_1797 {g : GT} {d Bc Bs : Nat} (hd : 80 ≤ d + 1) {K18 : Nat → Nat → Nat → Int32 → fM → Prop} {φ : Int32 → fM → Prop} (hK18 : ∀ (p0 : Nat) (p1 : Nat) (p2 : Nat) (p3 : Int32) (M : fM), K18 p0 p1 p2 p3 M → FW g mtL_law (d + 1) 18 [(0, .ref p0), (1, .ref p1), (2, .ref p2), (3, .int p3)] [] M Bc Bs (rI φ)) {p0 : Nat} {p1 : Nat} {p2 : Nat} {p3 : Int32} {M : fM} (h : j_L_law_1797 K18 φ p0 p1 p2 p3 M) : FW g mtL_law (d + 1) 1797 [(0, .ref p0), (1, .ref p1), (2, .ref p2), (3, .int p3)] [] M (Bc + 11) (Bs + 3005) (rI φ) := by
  unfold j_L_law_1797 at h
  refine fw_aload_n (i := 1) 1 rfl (show decode _ _ = .ok (.aload_n 1, 1) by decide +kernel) ?_
  obtain ⟨⟨hr22, n21, hs23⟩, h_1⟩ := h
  refine fw_callV (mt' := mtX10_back) (mc := 0) (ms := 0) (As := []) (rest := []) 0 10 n21 (show decode _ _ = .ok (.invokevirtual 188, 3) by decide +kernel) cv_L_188 ⟨_, rfl, rfl⟩ hr22 hs23 rfl (Nat.le_of_ble_eq_true rfl) (s_X10_back (d := d) (hd_le hd (by decide)) h_1) (by first | exact Nat.le_refl _ | exact Nat.le_add_right _ _ | exact Nat.zero_le _ | exact Nat.le_add_left _ _ | exact Nat.le_of_eq (Nat.add_sub_cancel).symm | decide) (by first | exact Nat.le_refl _ | exact Nat.le_add_right _ _ | exact Nat.zero_le _ | exact Nat.le_add_left _ _ | exact Nat.le_of_eq (Nat.add_sub_cancel).symm | decide) (kI (bc' := (Bc + 11)) (bs' := (Bs + 3005)) (by first | exact Nat.le_refl _ | exact Nat.le_add_right _ _ | exact Nat.zero_le _ | exact Nat.le_add_left _ _ | exact Nat.le_of_eq (Nat.add_sub_cancel).symm | decide) (by first | exact Nat.le_refl _ | exact Nat.le_add_right _ _ | exact Nat.zero_le _ | exact Nat.le_add_left _ _ | exact Nat.le_of_eq (Nat.add_sub_cancel).symm | decide) (fun x24 M20 h_2 => ?_))
  refine fw_aload_n (i := 2) 2 rfl (show decode _ _ = .ok (.aload_n 2, 1) by decide +kernel) ?_
  obtain ⟨⟨hr27, n26, hs28⟩, h_3⟩ := h_2
  refine fw_callV (mt' := mtX11_back) (mc := 0) (ms := 0) (As := []) (rest := [.int x24]) 0 11 n26 (show decode _ _ = .ok (.invokevirtual 191, 3) by decide +kernel) cv_L_191 ⟨_, rfl, rfl⟩ hr27 hs28 rfl (Nat.le_of_ble_eq_true rfl) (s_X11_back (d := d) (hd_le hd (by decide)) h_3) (by first | exact Nat.le_refl _ | exact Nat.le_add_right _ _ | exact Nat.zero_le _ | exact Nat.le_add_left _ _ | exact Nat.le_of_eq (Nat.add_sub_cancel).symm | decide) (by first | exact Nat.le_refl _ | exact Nat.le_add_right _ _ | exact Nat.zero_le _ | exact Nat.le_add_left _ _ | exact Nat.le_of_eq (Nat.add_sub_cancel).symm | decide) (kI (bc' := (Bc + 11)) (bs' := (Bs + 3005)) (by first | exact Nat.le_refl _ | exact Nat.le_add_right _ _ | exact Nat.zero_le _ | exact Nat.le_add_left _ _ | exact Nat.le_of_eq (Nat.add_sub_cancel).symm | decide) (by first | exact Nat.le_refl _ | exact Nat.le_add_right _ _ | exact Nat.zero_le _ | exact Nat.le_add_left _ _ | exact Nat.le_of_eq (Nat.add_sub_cancel).symm | decide) (fun x29 M25 h_4 => ?_))
  refine fw_icmp_eq 1833 (show decode _ _ = .ok (.if_icmp .eq 28, 3) by decide +kernel) (by decide) (fun hc30 => ?_) (fun hc30 => ?_)
  · have h_5 := ipos hc30 h_4
    refine FW.sub [0, 1, 2, 3] (ls' := [(0, .ref p0), (1, .ref p1), (2, .ref p2), (3, .int p3)]) rfl ?_
    refine FW.room (bc' := Bc) (bs' := Bs) (by first | exact Nat.le_refl _ | exact Nat.le_add_right _ _ | exact Nat.zero_le _ | exact Nat.le_add_left _ _ | exact Nat.le_of_eq (Nat.add_sub_cancel).symm | decide) (by first | exact Nat.le_refl _ | exact Nat.le_add_right _ _ | exact Nat.zero_le _ | exact Nat.le_add_left _ _ | exact Nat.le_of_eq (Nat.add_sub_cancel).symm | decide) ?_
    exact sj_L_law_1833 hd hK18 h_5
  · have h_6 := ineg hc30 h_4
    refine fw_iconst (v := (0 : Int32)) (show decode _ _ = .ok (.iconst 0, 1) by decide +kernel) (by decide) ?_
    exact fw_ret (v := some (.int (0 : Int32))) .ireturn (show decode _ _ = .ok (.ireturn, 1) by decide +kernel) ⟨rfl, Or.inr (Or.inl ⟨rfl, rfl⟩)⟩ ⟨_, rfl, h_6⟩
def j_L_law_1784 (K18 : Nat → Nat → Nat → Int32 → fM → Prop) (φ : Int32 → fM → Prop) (p0 : Nat) (p1 : Nat) (p2 : Nat) (p3 : Int32) (M : fM) : Prop := isO M p1 10 ∧ w_X10_image p1 M fun x35 M31 => isO M31 p2 11 ∧ w_X11_image p2 M31 fun x40 M36 => iF (x35 = x40) (j_L_law_1833 K18 φ p0 p1 p2 p3 M36) (φ (0 : Int32) M36)
set_option maxRecDepth 100000 in
theorem sj_L_law_1784 {g : GT} {d Bc Bs : Nat} (hd : 80 ≤ d + 1) {K18 : Nat → Nat → Nat → Int32 → fM → Prop} {φ : Int32 → fM → Prop} (hK18 : ∀ (p0 : Nat) (p1 : Nat) (p2 : Nat) (p3 : Int32) (M : fM), K18 p0 p1 p2 p3 M → FW g mtL_law (d + 1) 18 [(0, .ref p0), (1, .ref p1), (2, .ref p2), (3, .int p3)] [] M Bc Bs (rI φ)) {p0 : Nat} {p1 : Nat} {p2 : Nat} {p3 : Int32} {M : fM} (h : j_L_law_1784 K18 φ p0 p1 p2 p3 M) : FW g mtL_law (d + 1) 1784 [(0, .ref p0), (1, .ref p1), (2, .ref p2), (3, .int p3)] [] M (Bc + 11) (Bs + 3005) (rI φ) := by
  unfold j_L_law_1784 at h
  refine fw_aload_n (i := 1) 1 rfl (show decode _ _ = .ok (.aload_n 1, 1) by decide +kernel) ?_
  obtain ⟨⟨hr33, n32, hs34⟩, h_1⟩ := h
  refine fw_callV (mt' := mtX10_image) (mc := 0) (ms := 0) (As := []) (rest := []) 0 10 n32 (show decode _ _ = .ok (.invokevirtual 184, 3) by decide +kernel) cv_L_184 ⟨_, rfl, rfl⟩ hr33 hs34 rfl (Nat.le_of_ble_eq_true rfl) (s_X10_image (d := d) (hd_le hd (by decide)) h_1) (by first | exact Nat.le_refl _ | exact Nat.le_add_right _ _ | exact Nat.zero_le _ | exact Nat.le_add_left _ _ | exact Nat.le_of_eq (Nat.add_sub_cancel).symm | decide) (by first | exact Nat.le_refl _ | exact Nat.le_add_right _ _ | exact Nat.zero_le _ | exact Nat.le_add_left _ _ | exact Nat.le_of_eq (Nat.add_sub_cancel).symm | decide) (kI (bc' := (Bc + 11)) (bs' := (Bs + 3005)) (by first | exact Nat.le_refl _ | exact Nat.le_add_right _ _ | exact Nat.zero_le _ | exact Nat.le_add_left _ _ | exact Nat.le_of_eq (Nat.add_sub_cancel).symm | decide) (by first | exact Nat.le_refl _ | exact Nat.le_add_right _ _ | exact Nat.zero_le _ | exact Nat.le_add_left _ _ | exact Nat.le_of_eq (Nat.add_sub_cancel).symm | decide) (fun x35 M31 h_2 => ?_))
  refine fw_aload_n (i := 2) 2 rfl (show decode _ _ = .ok (.aload_n 2, 1) by decide +kernel) ?_
  obtain ⟨⟨hr38, n37, hs39⟩, h_3⟩ := h_2
  refine fw_callV (mt' := mtX11_image) (mc := 0) (ms := 0) (As := []) (rest := [.int x35]) 0 11 n37 (show decode _ _ = .ok (.invokevirtual 187, 3) by decide +kernel) cv_L_187 ⟨_, rfl, rfl⟩ hr38 hs39 rfl (Nat.le_of_ble_eq_true rfl) (s_X11_image (d := d) (hd_le hd (by decide)) h_3) (by first | exact Nat.le_refl _ | exact Nat.le_add_right _ _ | exact Nat.zero_le _ | exact Nat.le_add_left _ _ | exact Nat.le_of_eq (Nat.add_sub_cancel).symm | decide) (by first | exact Nat.le_refl _ | exact Nat.le_add_right _ _ | exact Nat.zero_le _ | exact Nat.le_add_left _ _ | exact Nat.le_of_eq (Nat.add_sub_cancel).symm | decide) (kI (bc' := (Bc + 11)) (bs' := (Bs + 3005)) (by first | exact Nat.le_refl _ | exact Nat.le_add_right _ _ | exact Nat.zero_le _ | exact Nat.le_add_left _ _ | exact Nat.le_of_eq (Nat.add_sub_cancel).symm | decide) (by first | exact Nat.le_refl _ | exact Nat.le_add_right _ _ | exact Nat.zero_le _ | exact Nat.le_add_left _ _ | exact Nat.le_of_eq (Nat.add_sub_cancel).symm | decide) (fun x40 M36 h_4 => ?_))
  refine fw_icmp_eq 1833 (show decode _ _ = .ok (.if_icmp .eq 41, 3) by decide +kernel) (by decide) (fun hc41 => ?_) (fun hc41 => ?_)
  · have h_5 := ipos hc41 h_4
    refine FW.sub [0, 1, 2, 3] (ls' := [(0, .ref p0), (1, .ref p1), (2, .ref p2), (3, .int p3)]) rfl ?_
    refine FW.room (bc' := Bc) (bs' := Bs) (by first | exact Nat.le_refl _ | exact Nat.le_add_right _ _ | exact Nat.zero_le _ | exact Nat.le_add_left _ _ | exact Nat.le_of_eq (Nat.add_sub_cancel).symm | decide) (by first | exact Nat.le_refl _ | exact Nat.le_add_right _ _ | exact Nat.zero_le _ | exact Nat.le_add_left _ _ | exact Nat.le_of_eq (Nat.add_sub_cancel).symm | decide) ?_
    exact sj_L_law_1833 hd hK18 h_5
  · have h_6 := ineg hc41 h_4
    refine fw_iconst (v := (0 : Int32)) (show decode _ _ = .ok (.iconst 0, 1) by decide +kernel) (by decide) ?_
    exact fw_ret (v := some (.int (0 : Int32))) .ireturn (show decode _ _ = .ok (.ireturn, 1) by decide +kernel) ⟨rfl, Or.inr (Or.inl ⟨rfl, rfl⟩)⟩ ⟨_, rfl, h_6⟩
def j_L_law_1776 (K18 : Nat → Nat → Nat → Int32 → fM → Prop) (φ : Int32 → fM → Prop) (p0 : Nat) (p1 : Nat) (p2 : Nat) (p3 : Int32) (s0 : Int32) (s1 : Int32) (s2 : Int32) (s3 : Nat) (s4 : Int32) (M : fM) : Prop := isO M s3 11 ∧ w_X11_alike s3 s2 s1 s0 M fun x46 M42 => iF (s4 = x46) (j_L_law_1833 K18 φ p0 p1 p2 p3 M42) (φ (0 : Int32) M42)
set_option maxRecDepth 100000 in
theorem sj_L_law_1776 {g : GT} {d Bc Bs : Nat} (hd : 80 ≤ d + 1) {K18 : Nat → Nat → Nat → Int32 → fM → Prop} {φ : Int32 → fM → Prop} (hK18 : ∀ (p0 : Nat) (p1 : Nat) (p2 : Nat) (p3 : Int32) (M : fM), K18 p0 p1 p2 p3 M → FW g mtL_law (d + 1) 18 [(0, .ref p0), (1, .ref p1), (2, .ref p2), (3, .int p3)] [] M Bc Bs (rI φ)) {p0 : Nat} {p1 : Nat} {p2 : Nat} {p3 : Int32} {s0 : Int32} {s1 : Int32} {s2 : Int32} {s3 : Nat} {s4 : Int32} {M : fM} (h : j_L_law_1776 K18 φ p0 p1 p2 p3 s0 s1 s2 s3 s4 M) : FW g mtL_law (d + 1) 1776 [(0, .ref p0), (1, .ref p1), (2, .ref p2), (3, .int p3)] [.int s0, .int s1, .int s2, .ref s3, .int s4] M Bc Bs (rI φ) := by
  unfold j_L_law_1776 at h
  obtain ⟨⟨hr44, n43, hs45⟩, h_1⟩ := h
  refine fw_callV (mt' := mtX11_alike) (mc := 0) (ms := 0) (As := [.int s2, .int s1, .int s0]) (rest := [.int s4]) 3 11 n43 (show decode _ _ = .ok (.invokevirtual 183, 3) by decide +kernel) cv_L_183 ⟨_, rfl, rfl⟩ hr44 hs45 rfl (Nat.le_of_ble_eq_true rfl) (s_X11_alike (d := d) (hd_le hd (by decide)) h_1) (by first | exact Nat.le_refl _ | exact Nat.le_add_right _ _ | exact Nat.zero_le _ | exact Nat.le_add_left _ _ | exact Nat.le_of_eq (Nat.add_sub_cancel).symm | decide) (by first | exact Nat.le_refl _ | exact Nat.le_add_right _ _ | exact Nat.zero_le _ | exact Nat.le_add_left _ _ | exact Nat.le_of_eq (Nat.add_sub_cancel).symm | decide) (kI (bc' := Bc) (bs' := Bs) (by first | exact Nat.le_refl _ | exact Nat.le_add_right _ _ | exact Nat.zero_le _ | exact Nat.le_add_left _ _ | exact Nat.le_of_eq (Nat.add_sub_cancel).symm | decide) (by first | exact Nat.le_refl _ | exact Nat.le_add_right _ _ | exact Nat.zero_le _ | exact Nat.le_add_left _ _ | exact Nat.le_of_eq (Nat.add_sub_cancel).symm | decide) (fun x46 M42 h_2 => ?_))
  refine fw_icmp_eq 1833 (show decode _ _ = .ok (.if_icmp .eq 54, 3) by decide +kernel) (by decide) (fun hc47 => ?_) (fun hc47 => ?_)
  · have h_3 := ipos hc47 h_2
    refine FW.sub [0, 1, 2, 3] (ls' := [(0, .ref p0), (1, .ref p1), (2, .ref p2), (3, .int p3)]) rfl ?_
    exact sj_L_law_1833 hd hK18 h_3
  · have h_4 := ineg hc47 h_2
    refine fw_iconst (v := (0 : Int32)) (show decode _ _ = .ok (.iconst 0, 1) by decide +kernel) (by decide) ?_
    exact fw_ret (v := some (.int (0 : Int32))) .ireturn (show decode _ _ = .ok (.ireturn, 1) by decide +kernel) ⟨rfl, Or.inr (Or.inl ⟨rfl, rfl⟩)⟩ ⟨_, rfl, h_4⟩
def j_L_law_1749 (K18 : Nat → Nat → Nat → Int32 → fM → Prop) (φ : Int32 → fM → Prop) (p0 : Nat) (p1 : Nat) (p2 : Nat) (p3 : Int32) (s0 : Int32) (s1 : Int32) (s2 : Int32) (s3 : Nat) (M : fM) : Prop := isO M s3 10 ∧ w_X10_alike s3 s2 s1 s0 M fun x52 M48 => inA M48 p0 12 (p3 + (1 : Int32)) ∧ inA M48 p0 12 (p3 + (2 : Int32)) ∧ inA M48 p0 12 (p3 + (3 : Int32)) ∧ iF ((mI M48 p0 (ix (p3 + (3 : Int32)))) = 0) (j_L_law_1776 K18 φ p0 p1 p2 p3 (0 : Int32) (mI M48 p0 (ix (p3 + (2 : Int32)))) (mI M48 p0 (ix (p3 + (1 : Int32)))) p2 x52 M48) (j_L_law_1776 K18 φ p0 p1 p2 p3 (1 : Int32) (mI M48 p0 (ix (p3 + (2 : Int32)))) (mI M48 p0 (ix (p3 + (1 : Int32)))) p2 x52 M48)
set_option maxRecDepth 100000 in
theorem sj_L_law_1749 {g : GT} {d Bc Bs : Nat} (hd : 80 ≤ d + 1) {K18 : Nat → Nat → Nat → Int32 → fM → Prop} {φ : Int32 → fM → Prop} (hK18 : ∀ (p0 : Nat) (p1 : Nat) (p2 : Nat) (p3 : Int32) (M : fM), K18 p0 p1 p2 p3 M → FW g mtL_law (d + 1) 18 [(0, .ref p0), (1, .ref p1), (2, .ref p2), (3, .int p3)] [] M Bc Bs (rI φ)) {p0 : Nat} {p1 : Nat} {p2 : Nat} {p3 : Int32} {s0 : Int32} {s1 : Int32} {s2 : Int32} {s3 : Nat} {M : fM} (h : j_L_law_1749 K18 φ p0 p1 p2 p3 s0 s1 s2 s3 M) : FW g mtL_law (d + 1) 1749 [(0, .ref p0), (1, .ref p1), (2, .ref p2), (3, .int p3)] [.int s0, .int s1, .int s2, .ref s3] M Bc Bs (rI φ) := by
  unfold j_L_law_1749 at h
  obtain ⟨⟨hr50, n49, hs51⟩, h_1⟩ := h
  refine fw_callV (mt' := mtX10_alike) (mc := 0) (ms := 0) (As := [.int s2, .int s1, .int s0]) (rest := []) 3 10 n49 (show decode _ _ = .ok (.invokevirtual 180, 3) by decide +kernel) cv_L_180 ⟨_, rfl, rfl⟩ hr50 hs51 rfl (Nat.le_of_ble_eq_true rfl) (s_X10_alike (d := d) (hd_le hd (by decide)) h_1) (by first | exact Nat.le_refl _ | exact Nat.le_add_right _ _ | exact Nat.zero_le _ | exact Nat.le_add_left _ _ | exact Nat.le_of_eq (Nat.add_sub_cancel).symm | decide) (by first | exact Nat.le_refl _ | exact Nat.le_add_right _ _ | exact Nat.zero_le _ | exact Nat.le_add_left _ _ | exact Nat.le_of_eq (Nat.add_sub_cancel).symm | decide) (kI (bc' := Bc) (bs' := Bs) (by first | exact Nat.le_refl _ | exact Nat.le_add_right _ _ | exact Nat.zero_le _ | exact Nat.le_add_left _ _ | exact Nat.le_of_eq (Nat.add_sub_cancel).symm | decide) (by first | exact Nat.le_refl _ | exact Nat.le_add_right _ _ | exact Nat.zero_le _ | exact Nat.le_add_left _ _ | exact Nat.le_of_eq (Nat.add_sub_cancel).symm | decide) (fun x52 M48 h_2 => ?_))
  refine fw_aload_n (i := 2) 2 rfl (show decode _ _ = .ok (.aload_n 2, 1) by decide +kernel) ?_
  refine fw_aload_n (i := 0) 0 rfl (show decode _ _ = .ok (.aload_n 0, 1) by decide +kernel) ?_
  refine fw_iload_n (i := 3) 3 rfl (show decode _ _ = .ok (.iload_n 3, 1) by decide +kernel) ?_
  refine fw_iconst (v := (1 : Int32)) (show decode _ _ = .ok (.iconst 1, 1) by decide +kernel) (by decide) ?_
  refine fw_iadd (show decode _ _ = .ok (.iadd, 1) by decide +kernel) ?_
  obtain ⟨⟨n53, hs54, hi55⟩, h_3⟩ := h_2
  refine fw_iald (show decode _ _ = .ok (.iaload, 1) by decide +kernel) hs54 hi55 ?_
  refine fw_aload_n (i := 0) 0 rfl (show decode _ _ = .ok (.aload_n 0, 1) by decide +kernel) ?_
  refine fw_iload_n (i := 3) 3 rfl (show decode _ _ = .ok (.iload_n 3, 1) by decide +kernel) ?_
  refine fw_iconst (v := (2 : Int32)) (show decode _ _ = .ok (.iconst 2, 1) by decide +kernel) (by decide) ?_
  refine fw_iadd (show decode _ _ = .ok (.iadd, 1) by decide +kernel) ?_
  obtain ⟨⟨n56, hs57, hi58⟩, h_4⟩ := h_3
  refine fw_iald (show decode _ _ = .ok (.iaload, 1) by decide +kernel) hs57 hi58 ?_
  refine fw_aload_n (i := 0) 0 rfl (show decode _ _ = .ok (.aload_n 0, 1) by decide +kernel) ?_
  refine fw_iload_n (i := 3) 3 rfl (show decode _ _ = .ok (.iload_n 3, 1) by decide +kernel) ?_
  refine fw_iconst (v := (3 : Int32)) (show decode _ _ = .ok (.iconst 3, 1) by decide +kernel) (by decide) ?_
  refine fw_iadd (show decode _ _ = .ok (.iadd, 1) by decide +kernel) ?_
  obtain ⟨⟨n59, hs60, hi61⟩, h_5⟩ := h_4
  refine fw_iald (show decode _ _ = .ok (.iaload, 1) by decide +kernel) hs60 hi61 ?_
  refine fw_if_eq 1775 (show decode _ _ = .ok (.ifCond .eq 7, 3) by decide +kernel) (by decide) (fun hc62 => ?_) (fun hc62 => ?_)
  · have h_6 := ipos hc62 h_5
    refine fw_iconst (v := (0 : Int32)) (show decode _ _ = .ok (.iconst 0, 1) by decide +kernel) (by decide) ?_
    refine FW.sub [0, 1, 2, 3] (ls' := [(0, .ref p0), (1, .ref p1), (2, .ref p2), (3, .int p3)]) rfl ?_
    exact sj_L_law_1776 hd hK18 h_6
  · have h_7 := ineg hc62 h_5
    refine fw_iconst (v := (1 : Int32)) (show decode _ _ = .ok (.iconst 1, 1) by decide +kernel) (by decide) ?_
    refine fw_goto 1776 (show decode _ _ = .ok (.goto 4, 3) by decide +kernel) (by decide) ?_
    refine FW.sub [0, 1, 2, 3] (ls' := [(0, .ref p0), (1, .ref p1), (2, .ref p2), (3, .int p3)]) rfl ?_
    exact sj_L_law_1776 hd hK18 h_7
def j_L_law_1725 (K18 : Nat → Nat → Nat → Int32 → fM → Prop) (φ : Int32 → fM → Prop) (p0 : Nat) (p1 : Nat) (p2 : Nat) (p3 : Int32) (M : fM) : Prop := inA M p0 12 (p3 + (1 : Int32)) ∧ inA M p0 12 (p3 + (2 : Int32)) ∧ inA M p0 12 (p3 + (3 : Int32)) ∧ iF ((mI M p0 (ix (p3 + (3 : Int32)))) = 0) (j_L_law_1749 K18 φ p0 p1 p2 p3 (0 : Int32) (mI M p0 (ix (p3 + (2 : Int32)))) (mI M p0 (ix (p3 + (1 : Int32)))) p1 M) (j_L_law_1749 K18 φ p0 p1 p2 p3 (1 : Int32) (mI M p0 (ix (p3 + (2 : Int32)))) (mI M p0 (ix (p3 + (1 : Int32)))) p1 M)
set_option maxRecDepth 100000 in
theorem sj_L_law_1725 {g : GT} {d Bc Bs : Nat} (hd : 80 ≤ d + 1) {K18 : Nat → Nat → Nat → Int32 → fM → Prop} {φ : Int32 → fM → Prop} (hK18 : ∀ (p0 : Nat) (p1 : Nat) (p2 : Nat) (p3 : Int32) (M : fM), K18 p0 p1 p2 p3 M → FW g mtL_law (d + 1) 18 [(0, .ref p0), (1, .ref p1), (2, .ref p2), (3, .int p3)] [] M Bc Bs (rI φ)) {p0 : Nat} {p1 : Nat} {p2 : Nat} {p3 : Int32} {M : fM} (h : j_L_law_1725 K18 φ p0 p1 p2 p3 M) : FW g mtL_law (d + 1) 1725 [(0, .ref p0), (1, .ref p1), (2, .ref p2), (3, .int p3)] [] M (Bc + 11) (Bs + 3005) (rI φ) := by
  unfold j_L_law_1725 at h
  refine fw_aload_n (i := 1) 1 rfl (show decode _ _ = .ok (.aload_n 1, 1) by decide +kernel) ?_
  refine fw_aload_n (i := 0) 0 rfl (show decode _ _ = .ok (.aload_n 0, 1) by decide +kernel) ?_
  refine fw_iload_n (i := 3) 3 rfl (show decode _ _ = .ok (.iload_n 3, 1) by decide +kernel) ?_
  refine fw_iconst (v := (1 : Int32)) (show decode _ _ = .ok (.iconst 1, 1) by decide +kernel) (by decide) ?_
  refine fw_iadd (show decode _ _ = .ok (.iadd, 1) by decide +kernel) ?_
  obtain ⟨⟨n63, hs64, hi65⟩, h_1⟩ := h
  refine fw_iald (show decode _ _ = .ok (.iaload, 1) by decide +kernel) hs64 hi65 ?_
  refine fw_aload_n (i := 0) 0 rfl (show decode _ _ = .ok (.aload_n 0, 1) by decide +kernel) ?_
  refine fw_iload_n (i := 3) 3 rfl (show decode _ _ = .ok (.iload_n 3, 1) by decide +kernel) ?_
  refine fw_iconst (v := (2 : Int32)) (show decode _ _ = .ok (.iconst 2, 1) by decide +kernel) (by decide) ?_
  refine fw_iadd (show decode _ _ = .ok (.iadd, 1) by decide +kernel) ?_
  obtain ⟨⟨n66, hs67, hi68⟩, h_2⟩ := h_1
  refine fw_iald (show decode _ _ = .ok (.iaload, 1) by decide +kernel) hs67 hi68 ?_
  refine fw_aload_n (i := 0) 0 rfl (show decode _ _ = .ok (.aload_n 0, 1) by decide +kernel) ?_
  refine fw_iload_n (i := 3) 3 rfl (show decode _ _ = .ok (.iload_n 3, 1) by decide +kernel) ?_
  refine fw_iconst (v := (3 : Int32)) (show decode _ _ = .ok (.iconst 3, 1) by decide +kernel) (by decide) ?_
  refine fw_iadd (show decode _ _ = .ok (.iadd, 1) by decide +kernel) ?_
  obtain ⟨⟨n69, hs70, hi71⟩, h_3⟩ := h_2
  refine fw_iald (show decode _ _ = .ok (.iaload, 1) by decide +kernel) hs70 hi71 ?_
  refine fw_if_eq 1748 (show decode _ _ = .ok (.ifCond .eq 7, 3) by decide +kernel) (by decide) (fun hc72 => ?_) (fun hc72 => ?_)
  · have h_4 := ipos hc72 h_3
    refine fw_iconst (v := (0 : Int32)) (show decode _ _ = .ok (.iconst 0, 1) by decide +kernel) (by decide) ?_
    refine FW.sub [0, 1, 2, 3] (ls' := [(0, .ref p0), (1, .ref p1), (2, .ref p2), (3, .int p3)]) rfl ?_
    refine FW.room (bc' := Bc) (bs' := Bs) (by first | exact Nat.le_refl _ | exact Nat.le_add_right _ _ | exact Nat.zero_le _ | exact Nat.le_add_left _ _ | exact Nat.le_of_eq (Nat.add_sub_cancel).symm | decide) (by first | exact Nat.le_refl _ | exact Nat.le_add_right _ _ | exact Nat.zero_le _ | exact Nat.le_add_left _ _ | exact Nat.le_of_eq (Nat.add_sub_cancel).symm | decide) ?_
    exact sj_L_law_1749 hd hK18 h_4
  · have h_5 := ineg hc72 h_3
    refine fw_iconst (v := (1 : Int32)) (show decode _ _ = .ok (.iconst 1, 1) by decide +kernel) (by decide) ?_
    refine fw_goto 1749 (show decode _ _ = .ok (.goto 4, 3) by decide +kernel) (by decide) ?_
    refine FW.sub [0, 1, 2, 3] (ls' := [(0, .ref p0), (1, .ref p1), (2, .ref p2), (3, .int p3)]) rfl ?_
    refine FW.room (bc' := Bc) (bs' := Bs) (by first | exact Nat.le_refl _ | exact Nat.le_add_right _ _ | exact Nat.zero_le _ | exact Nat.le_add_left _ _ | exact Nat.le_of_eq (Nat.add_sub_cancel).symm | decide) (by first | exact Nat.le_refl _ | exact Nat.le_add_right _ _ | exact Nat.zero_le _ | exact Nat.le_add_left _ _ | exact Nat.le_of_eq (Nat.add_sub_cancel).symm | decide) ?_
    exact sj_L_law_1749 hd hK18 h_5
def j_L_law_1712 (K18 : Nat → Nat → Nat → Int32 → fM → Prop) (φ : Int32 → fM → Prop) (p0 : Nat) (p1 : Nat) (p2 : Nat) (p3 : Int32) (M : fM) : Prop := isO M p1 10 ∧ w_X10_laws p1 M fun x77 M73 => isO M73 p2 11 ∧ w_X11_laws p2 M73 fun x82 M78 => iF (x77 = x82) (j_L_law_1833 K18 φ p0 p1 p2 p3 M78) (φ (0 : Int32) M78)
set_option maxRecDepth 100000 in
theorem sj_L_law_1712 {g : GT} {d Bc Bs : Nat} (hd : 80 ≤ d + 1) {K18 : Nat → Nat → Nat → Int32 → fM → Prop} {φ : Int32 → fM → Prop} (hK18 : ∀ (p0 : Nat) (p1 : Nat) (p2 : Nat) (p3 : Int32) (M : fM), K18 p0 p1 p2 p3 M → FW g mtL_law (d + 1) 18 [(0, .ref p0), (1, .ref p1), (2, .ref p2), (3, .int p3)] [] M Bc Bs (rI φ)) {p0 : Nat} {p1 : Nat} {p2 : Nat} {p3 : Int32} {M : fM} (h : j_L_law_1712 K18 φ p0 p1 p2 p3 M) : FW g mtL_law (d + 1) 1712 [(0, .ref p0), (1, .ref p1), (2, .ref p2), (3, .int p3)] [] M (Bc + 11) (Bs + 3005) (rI φ) := by
  unfold j_L_law_1712 at h
  refine fw_aload_n (i := 1) 1 rfl (show decode _ _ = .ok (.aload_n 1, 1) by decide +kernel) ?_
  obtain ⟨⟨hr75, n74, hs76⟩, h_1⟩ := h
  refine fw_callV (mt' := mtX10_laws) (mc := 0) (ms := 0) (As := []) (rest := []) 0 10 n74 (show decode _ _ = .ok (.invokevirtual 176, 3) by decide +kernel) cv_L_176 ⟨_, rfl, rfl⟩ hr75 hs76 rfl (Nat.le_of_ble_eq_true rfl) (s_X10_laws (d := d) (hd_le hd (by decide)) h_1) (by first | exact Nat.le_refl _ | exact Nat.le_add_right _ _ | exact Nat.zero_le _ | exact Nat.le_add_left _ _ | exact Nat.le_of_eq (Nat.add_sub_cancel).symm | decide) (by first | exact Nat.le_refl _ | exact Nat.le_add_right _ _ | exact Nat.zero_le _ | exact Nat.le_add_left _ _ | exact Nat.le_of_eq (Nat.add_sub_cancel).symm | decide) (kI (bc' := (Bc + 11)) (bs' := (Bs + 3005)) (by first | exact Nat.le_refl _ | exact Nat.le_add_right _ _ | exact Nat.zero_le _ | exact Nat.le_add_left _ _ | exact Nat.le_of_eq (Nat.add_sub_cancel).symm | decide) (by first | exact Nat.le_refl _ | exact Nat.le_add_right _ _ | exact Nat.zero_le _ | exact Nat.le_add_left _ _ | exact Nat.le_of_eq (Nat.add_sub_cancel).symm | decide) (fun x77 M73 h_2 => ?_))
  refine fw_aload_n (i := 2) 2 rfl (show decode _ _ = .ok (.aload_n 2, 1) by decide +kernel) ?_
  obtain ⟨⟨hr80, n79, hs81⟩, h_3⟩ := h_2
  refine fw_callV (mt' := mtX11_laws) (mc := 0) (ms := 0) (As := []) (rest := [.int x77]) 0 11 n79 (show decode _ _ = .ok (.invokevirtual 179, 3) by decide +kernel) cv_L_179 ⟨_, rfl, rfl⟩ hr80 hs81 rfl (Nat.le_of_ble_eq_true rfl) (s_X11_laws (d := d) (hd_le hd (by decide)) h_3) (by first | exact Nat.le_refl _ | exact Nat.le_add_right _ _ | exact Nat.zero_le _ | exact Nat.le_add_left _ _ | exact Nat.le_of_eq (Nat.add_sub_cancel).symm | decide) (by first | exact Nat.le_refl _ | exact Nat.le_add_right _ _ | exact Nat.zero_le _ | exact Nat.le_add_left _ _ | exact Nat.le_of_eq (Nat.add_sub_cancel).symm | decide) (kI (bc' := (Bc + 11)) (bs' := (Bs + 3005)) (by first | exact Nat.le_refl _ | exact Nat.le_add_right _ _ | exact Nat.zero_le _ | exact Nat.le_add_left _ _ | exact Nat.le_of_eq (Nat.add_sub_cancel).symm | decide) (by first | exact Nat.le_refl _ | exact Nat.le_add_right _ _ | exact Nat.zero_le _ | exact Nat.le_add_left _ _ | exact Nat.le_of_eq (Nat.add_sub_cancel).symm | decide) (fun x82 M78 h_4 => ?_))
  refine fw_icmp_eq 1833 (show decode _ _ = .ok (.if_icmp .eq 113, 3) by decide +kernel) (by decide) (fun hc83 => ?_) (fun hc83 => ?_)
  · have h_5 := ipos hc83 h_4
    refine FW.sub [0, 1, 2, 3] (ls' := [(0, .ref p0), (1, .ref p1), (2, .ref p2), (3, .int p3)]) rfl ?_
    refine FW.room (bc' := Bc) (bs' := Bs) (by first | exact Nat.le_refl _ | exact Nat.le_add_right _ _ | exact Nat.zero_le _ | exact Nat.le_add_left _ _ | exact Nat.le_of_eq (Nat.add_sub_cancel).symm | decide) (by first | exact Nat.le_refl _ | exact Nat.le_add_right _ _ | exact Nat.zero_le _ | exact Nat.le_add_left _ _ | exact Nat.le_of_eq (Nat.add_sub_cancel).symm | decide) ?_
    exact sj_L_law_1833 hd hK18 h_5
  · have h_6 := ineg hc83 h_4
    refine fw_iconst (v := (0 : Int32)) (show decode _ _ = .ok (.iconst 0, 1) by decide +kernel) (by decide) ?_
    exact fw_ret (v := some (.int (0 : Int32))) .ireturn (show decode _ _ = .ok (.ireturn, 1) by decide +kernel) ⟨rfl, Or.inr (Or.inl ⟨rfl, rfl⟩)⟩ ⟨_, rfl, h_6⟩
def j_L_law_1704 (K18 : Nat → Nat → Nat → Int32 → fM → Prop) (φ : Int32 → fM → Prop) (p0 : Nat) (p1 : Nat) (p2 : Nat) (p3 : Int32) (s0 : Int32) (s1 : Int32) (s2 : Int32) (s3 : Int32) (s4 : Nat) (s5 : Int32) (M : fM) : Prop := isO M s4 11 ∧ w_X11_seen s4 s3 s2 s1 s0 M fun x88 M84 => iF (s5 = x88) (j_L_law_1833 K18 φ p0 p1 p2 p3 M84) (φ (0 : Int32) M84)
set_option maxRecDepth 100000 in
theorem sj_L_law_1704 {g : GT} {d Bc Bs : Nat} (hd : 80 ≤ d + 1) {K18 : Nat → Nat → Nat → Int32 → fM → Prop} {φ : Int32 → fM → Prop} (hK18 : ∀ (p0 : Nat) (p1 : Nat) (p2 : Nat) (p3 : Int32) (M : fM), K18 p0 p1 p2 p3 M → FW g mtL_law (d + 1) 18 [(0, .ref p0), (1, .ref p1), (2, .ref p2), (3, .int p3)] [] M Bc Bs (rI φ)) {p0 : Nat} {p1 : Nat} {p2 : Nat} {p3 : Int32} {s0 : Int32} {s1 : Int32} {s2 : Int32} {s3 : Int32} {s4 : Nat} {s5 : Int32} {M : fM} (h : j_L_law_1704 K18 φ p0 p1 p2 p3 s0 s1 s2 s3 s4 s5 M) : FW g mtL_law (d + 1) 1704 [(0, .ref p0), (1, .ref p1), (2, .ref p2), (3, .int p3)] [.int s0, .int s1, .int s2, .int s3, .ref s4, .int s5] M Bc Bs (rI φ) := by
  unfold j_L_law_1704 at h
  obtain ⟨⟨hr86, n85, hs87⟩, h_1⟩ := h
  refine fw_callV (mt' := mtX11_seen) (mc := 0) (ms := 0) (As := [.int s3, .int s2, .int s1, .int s0]) (rest := [.int s5]) 4 11 n85 (show decode _ _ = .ok (.invokevirtual 175, 3) by decide +kernel) cv_L_175 ⟨_, rfl, rfl⟩ hr86 hs87 rfl (Nat.le_of_ble_eq_true rfl) (s_X11_seen (d := d) (hd_le hd (by decide)) h_1) (by first | exact Nat.le_refl _ | exact Nat.le_add_right _ _ | exact Nat.zero_le _ | exact Nat.le_add_left _ _ | exact Nat.le_of_eq (Nat.add_sub_cancel).symm | decide) (by first | exact Nat.le_refl _ | exact Nat.le_add_right _ _ | exact Nat.zero_le _ | exact Nat.le_add_left _ _ | exact Nat.le_of_eq (Nat.add_sub_cancel).symm | decide) (kI (bc' := Bc) (bs' := Bs) (by first | exact Nat.le_refl _ | exact Nat.le_add_right _ _ | exact Nat.zero_le _ | exact Nat.le_add_left _ _ | exact Nat.le_of_eq (Nat.add_sub_cancel).symm | decide) (by first | exact Nat.le_refl _ | exact Nat.le_add_right _ _ | exact Nat.zero_le _ | exact Nat.le_add_left _ _ | exact Nat.le_of_eq (Nat.add_sub_cancel).symm | decide) (fun x88 M84 h_2 => ?_))
  refine fw_icmp_eq 1833 (show decode _ _ = .ok (.if_icmp .eq 126, 3) by decide +kernel) (by decide) (fun hc89 => ?_) (fun hc89 => ?_)
  · have h_3 := ipos hc89 h_2
    refine FW.sub [0, 1, 2, 3] (ls' := [(0, .ref p0), (1, .ref p1), (2, .ref p2), (3, .int p3)]) rfl ?_
    exact sj_L_law_1833 hd hK18 h_3
  · have h_4 := ineg hc89 h_2
    refine fw_iconst (v := (0 : Int32)) (show decode _ _ = .ok (.iconst 0, 1) by decide +kernel) (by decide) ?_
    exact fw_ret (v := some (.int (0 : Int32))) .ireturn (show decode _ _ = .ok (.ireturn, 1) by decide +kernel) ⟨rfl, Or.inr (Or.inl ⟨rfl, rfl⟩)⟩ ⟨_, rfl, h_4⟩
def j_L_law_1672 (K18 : Nat → Nat → Nat → Int32 → fM → Prop) (φ : Int32 → fM → Prop) (p0 : Nat) (p1 : Nat) (p2 : Nat) (p3 : Int32) (s0 : Int32) (s1 : Int32) (s2 : Int32) (s3 : Int32) (s4 : Nat) (M : fM) : Prop := isO M s4 10 ∧ w_X10_seen s4 s3 s2 s1 s0 M fun x94 M90 => inA M90 p0 12 (p3 + (1 : Int32)) ∧ inA M90 p0 12 (p3 + (2 : Int32)) ∧ inA M90 p0 12 (p3 + (3 : Int32)) ∧ inA M90 p0 12 (p3 + (4 : Int32)) ∧ iF ((mI M90 p0 (ix (p3 + (4 : Int32)))) = 0) (j_L_law_1704 K18 φ p0 p1 p2 p3 (0 : Int32) (mI M90 p0 (ix (p3 + (3 : Int32)))) (mI M90 p0 (ix (p3 + (2 : Int32)))) (mI M90 p0 (ix (p3 + (1 : Int32)))) p2 x94 M90) (j_L_law_1704 K18 φ p0 p1 p2 p3 (1 : Int32) (mI M90 p0 (ix (p3 + (3 : Int32)))) (mI M90 p0 (ix (p3 + (2 : Int32)))) (mI M90 p0 (ix (p3 + (1 : Int32)))) p2 x94 M90)
set_option maxRecDepth 100000 in
theorem sj_L_law_1672 {g : GT} {d Bc Bs : Nat} (hd : 80 ≤ d + 1) {K18 : Nat → Nat → Nat → Int32 → fM → Prop} {φ : Int32 → fM → Prop} (hK18 : ∀ (p0 : Nat) (p1 : Nat) (p2 : Nat) (p3 : Int32) (M : fM), K18 p0 p1 p2 p3 M → FW g mtL_law (d + 1) 18 [(0, .ref p0), (1, .ref p1), (2, .ref p2), (3, .int p3)] [] M Bc Bs (rI φ)) {p0 : Nat} {p1 : Nat} {p2 : Nat} {p3 : Int32} {s0 : Int32} {s1 : Int32} {s2 : Int32} {s3 : Int32} {s4 : Nat} {M : fM} (h : j_L_law_1672 K18 φ p0 p1 p2 p3 s0 s1 s2 s3 s4 M) : FW g mtL_law (d + 1) 1672 [(0, .ref p0), (1, .ref p1), (2, .ref p2), (3, .int p3)] [.int s0, .int s1, .int s2, .int s3, .ref s4] M Bc Bs (rI φ) := by
  unfold j_L_law_1672 at h
  obtain ⟨⟨hr92, n91, hs93⟩, h_1⟩ := h
  refine fw_callV (mt' := mtX10_seen) (mc := 0) (ms := 0) (As := [.int s3, .int s2, .int s1, .int s0]) (rest := []) 4 10 n91 (show decode _ _ = .ok (.invokevirtual 171, 3) by decide +kernel) cv_L_171 ⟨_, rfl, rfl⟩ hr92 hs93 rfl (Nat.le_of_ble_eq_true rfl) (s_X10_seen (d := d) (hd_le hd (by decide)) h_1) (by first | exact Nat.le_refl _ | exact Nat.le_add_right _ _ | exact Nat.zero_le _ | exact Nat.le_add_left _ _ | exact Nat.le_of_eq (Nat.add_sub_cancel).symm | decide) (by first | exact Nat.le_refl _ | exact Nat.le_add_right _ _ | exact Nat.zero_le _ | exact Nat.le_add_left _ _ | exact Nat.le_of_eq (Nat.add_sub_cancel).symm | decide) (kI (bc' := Bc) (bs' := Bs) (by first | exact Nat.le_refl _ | exact Nat.le_add_right _ _ | exact Nat.zero_le _ | exact Nat.le_add_left _ _ | exact Nat.le_of_eq (Nat.add_sub_cancel).symm | decide) (by first | exact Nat.le_refl _ | exact Nat.le_add_right _ _ | exact Nat.zero_le _ | exact Nat.le_add_left _ _ | exact Nat.le_of_eq (Nat.add_sub_cancel).symm | decide) (fun x94 M90 h_2 => ?_))
  refine fw_aload_n (i := 2) 2 rfl (show decode _ _ = .ok (.aload_n 2, 1) by decide +kernel) ?_
  refine fw_aload_n (i := 0) 0 rfl (show decode _ _ = .ok (.aload_n 0, 1) by decide +kernel) ?_
  refine fw_iload_n (i := 3) 3 rfl (show decode _ _ = .ok (.iload_n 3, 1) by decide +kernel) ?_
  refine fw_iconst (v := (1 : Int32)) (show decode _ _ = .ok (.iconst 1, 1) by decide +kernel) (by decide) ?_
  refine fw_iadd (show decode _ _ = .ok (.iadd, 1) by decide +kernel) ?_
  obtain ⟨⟨n95, hs96, hi97⟩, h_3⟩ := h_2
  refine fw_iald (show decode _ _ = .ok (.iaload, 1) by decide +kernel) hs96 hi97 ?_
  refine fw_aload_n (i := 0) 0 rfl (show decode _ _ = .ok (.aload_n 0, 1) by decide +kernel) ?_
  refine fw_iload_n (i := 3) 3 rfl (show decode _ _ = .ok (.iload_n 3, 1) by decide +kernel) ?_
  refine fw_iconst (v := (2 : Int32)) (show decode _ _ = .ok (.iconst 2, 1) by decide +kernel) (by decide) ?_
  refine fw_iadd (show decode _ _ = .ok (.iadd, 1) by decide +kernel) ?_
  obtain ⟨⟨n98, hs99, hi100⟩, h_4⟩ := h_3
  refine fw_iald (show decode _ _ = .ok (.iaload, 1) by decide +kernel) hs99 hi100 ?_
  refine fw_aload_n (i := 0) 0 rfl (show decode _ _ = .ok (.aload_n 0, 1) by decide +kernel) ?_
  refine fw_iload_n (i := 3) 3 rfl (show decode _ _ = .ok (.iload_n 3, 1) by decide +kernel) ?_
  refine fw_iconst (v := (3 : Int32)) (show decode _ _ = .ok (.iconst 3, 1) by decide +kernel) (by decide) ?_
  refine fw_iadd (show decode _ _ = .ok (.iadd, 1) by decide +kernel) ?_
  obtain ⟨⟨n101, hs102, hi103⟩, h_5⟩ := h_4
  refine fw_iald (show decode _ _ = .ok (.iaload, 1) by decide +kernel) hs102 hi103 ?_
  refine fw_aload_n (i := 0) 0 rfl (show decode _ _ = .ok (.aload_n 0, 1) by decide +kernel) ?_
  refine fw_iload_n (i := 3) 3 rfl (show decode _ _ = .ok (.iload_n 3, 1) by decide +kernel) ?_
  refine fw_iconst (v := (4 : Int32)) (show decode _ _ = .ok (.iconst 4, 1) by decide +kernel) (by decide) ?_
  refine fw_iadd (show decode _ _ = .ok (.iadd, 1) by decide +kernel) ?_
  obtain ⟨⟨n104, hs105, hi106⟩, h_6⟩ := h_5
  refine fw_iald (show decode _ _ = .ok (.iaload, 1) by decide +kernel) hs105 hi106 ?_
  refine fw_if_eq 1703 (show decode _ _ = .ok (.ifCond .eq 7, 3) by decide +kernel) (by decide) (fun hc107 => ?_) (fun hc107 => ?_)
  · have h_7 := ipos hc107 h_6
    refine fw_iconst (v := (0 : Int32)) (show decode _ _ = .ok (.iconst 0, 1) by decide +kernel) (by decide) ?_
    refine FW.sub [0, 1, 2, 3] (ls' := [(0, .ref p0), (1, .ref p1), (2, .ref p2), (3, .int p3)]) rfl ?_
    exact sj_L_law_1704 hd hK18 h_7
  · have h_8 := ineg hc107 h_6
    refine fw_iconst (v := (1 : Int32)) (show decode _ _ = .ok (.iconst 1, 1) by decide +kernel) (by decide) ?_
    refine fw_goto 1704 (show decode _ _ = .ok (.goto 4, 3) by decide +kernel) (by decide) ?_
    refine FW.sub [0, 1, 2, 3] (ls' := [(0, .ref p0), (1, .ref p1), (2, .ref p2), (3, .int p3)]) rfl ?_
    exact sj_L_law_1704 hd hK18 h_8
def j_L_law_1643 (K18 : Nat → Nat → Nat → Int32 → fM → Prop) (φ : Int32 → fM → Prop) (p0 : Nat) (p1 : Nat) (p2 : Nat) (p3 : Int32) (M : fM) : Prop := inA M p0 12 (p3 + (1 : Int32)) ∧ inA M p0 12 (p3 + (2 : Int32)) ∧ inA M p0 12 (p3 + (3 : Int32)) ∧ inA M p0 12 (p3 + (4 : Int32)) ∧ iF ((mI M p0 (ix (p3 + (4 : Int32)))) = 0) (j_L_law_1672 K18 φ p0 p1 p2 p3 (0 : Int32) (mI M p0 (ix (p3 + (3 : Int32)))) (mI M p0 (ix (p3 + (2 : Int32)))) (mI M p0 (ix (p3 + (1 : Int32)))) p1 M) (j_L_law_1672 K18 φ p0 p1 p2 p3 (1 : Int32) (mI M p0 (ix (p3 + (3 : Int32)))) (mI M p0 (ix (p3 + (2 : Int32)))) (mI M p0 (ix (p3 + (1 : Int32)))) p1 M)
set_option maxRecDepth 100000 in
theorem sj_L_law_1643 {g : GT} {d Bc Bs : Nat} (hd : 80 ≤ d + 1) {K18 : Nat → Nat → Nat → Int32 → fM → Prop} {φ : Int32 → fM → Prop} (hK18 : ∀ (p0 : Nat) (p1 : Nat) (p2 : Nat) (p3 : Int32) (M : fM), K18 p0 p1 p2 p3 M → FW g mtL_law (d + 1) 18 [(0, .ref p0), (1, .ref p1), (2, .ref p2), (3, .int p3)] [] M Bc Bs (rI φ)) {p0 : Nat} {p1 : Nat} {p2 : Nat} {p3 : Int32} {M : fM} (h : j_L_law_1643 K18 φ p0 p1 p2 p3 M) : FW g mtL_law (d + 1) 1643 [(0, .ref p0), (1, .ref p1), (2, .ref p2), (3, .int p3)] [] M (Bc + 11) (Bs + 3005) (rI φ) := by
  unfold j_L_law_1643 at h
  refine fw_aload_n (i := 1) 1 rfl (show decode _ _ = .ok (.aload_n 1, 1) by decide +kernel) ?_
  refine fw_aload_n (i := 0) 0 rfl (show decode _ _ = .ok (.aload_n 0, 1) by decide +kernel) ?_
  refine fw_iload_n (i := 3) 3 rfl (show decode _ _ = .ok (.iload_n 3, 1) by decide +kernel) ?_
  refine fw_iconst (v := (1 : Int32)) (show decode _ _ = .ok (.iconst 1, 1) by decide +kernel) (by decide) ?_
  refine fw_iadd (show decode _ _ = .ok (.iadd, 1) by decide +kernel) ?_
  obtain ⟨⟨n108, hs109, hi110⟩, h_1⟩ := h
  refine fw_iald (show decode _ _ = .ok (.iaload, 1) by decide +kernel) hs109 hi110 ?_
  refine fw_aload_n (i := 0) 0 rfl (show decode _ _ = .ok (.aload_n 0, 1) by decide +kernel) ?_
  refine fw_iload_n (i := 3) 3 rfl (show decode _ _ = .ok (.iload_n 3, 1) by decide +kernel) ?_
  refine fw_iconst (v := (2 : Int32)) (show decode _ _ = .ok (.iconst 2, 1) by decide +kernel) (by decide) ?_
  refine fw_iadd (show decode _ _ = .ok (.iadd, 1) by decide +kernel) ?_
  obtain ⟨⟨n111, hs112, hi113⟩, h_2⟩ := h_1
  refine fw_iald (show decode _ _ = .ok (.iaload, 1) by decide +kernel) hs112 hi113 ?_
  refine fw_aload_n (i := 0) 0 rfl (show decode _ _ = .ok (.aload_n 0, 1) by decide +kernel) ?_
  refine fw_iload_n (i := 3) 3 rfl (show decode _ _ = .ok (.iload_n 3, 1) by decide +kernel) ?_
  refine fw_iconst (v := (3 : Int32)) (show decode _ _ = .ok (.iconst 3, 1) by decide +kernel) (by decide) ?_
  refine fw_iadd (show decode _ _ = .ok (.iadd, 1) by decide +kernel) ?_
  obtain ⟨⟨n114, hs115, hi116⟩, h_3⟩ := h_2
  refine fw_iald (show decode _ _ = .ok (.iaload, 1) by decide +kernel) hs115 hi116 ?_
  refine fw_aload_n (i := 0) 0 rfl (show decode _ _ = .ok (.aload_n 0, 1) by decide +kernel) ?_
  refine fw_iload_n (i := 3) 3 rfl (show decode _ _ = .ok (.iload_n 3, 1) by decide +kernel) ?_
  refine fw_iconst (v := (4 : Int32)) (show decode _ _ = .ok (.iconst 4, 1) by decide +kernel) (by decide) ?_
  refine fw_iadd (show decode _ _ = .ok (.iadd, 1) by decide +kernel) ?_
  obtain ⟨⟨n117, hs118, hi119⟩, h_4⟩ := h_3
  refine fw_iald (show decode _ _ = .ok (.iaload, 1) by decide +kernel) hs118 hi119 ?_
  refine fw_if_eq 1671 (show decode _ _ = .ok (.ifCond .eq 7, 3) by decide +kernel) (by decide) (fun hc120 => ?_) (fun hc120 => ?_)
  · have h_5 := ipos hc120 h_4
    refine fw_iconst (v := (0 : Int32)) (show decode _ _ = .ok (.iconst 0, 1) by decide +kernel) (by decide) ?_
    refine FW.sub [0, 1, 2, 3] (ls' := [(0, .ref p0), (1, .ref p1), (2, .ref p2), (3, .int p3)]) rfl ?_
    refine FW.room (bc' := Bc) (bs' := Bs) (by first | exact Nat.le_refl _ | exact Nat.le_add_right _ _ | exact Nat.zero_le _ | exact Nat.le_add_left _ _ | exact Nat.le_of_eq (Nat.add_sub_cancel).symm | decide) (by first | exact Nat.le_refl _ | exact Nat.le_add_right _ _ | exact Nat.zero_le _ | exact Nat.le_add_left _ _ | exact Nat.le_of_eq (Nat.add_sub_cancel).symm | decide) ?_
    exact sj_L_law_1672 hd hK18 h_5
  · have h_6 := ineg hc120 h_4
    refine fw_iconst (v := (1 : Int32)) (show decode _ _ = .ok (.iconst 1, 1) by decide +kernel) (by decide) ?_
    refine fw_goto 1672 (show decode _ _ = .ok (.goto 4, 3) by decide +kernel) (by decide) ?_
    refine FW.sub [0, 1, 2, 3] (ls' := [(0, .ref p0), (1, .ref p1), (2, .ref p2), (3, .int p3)]) rfl ?_
    refine FW.room (bc' := Bc) (bs' := Bs) (by first | exact Nat.le_refl _ | exact Nat.le_add_right _ _ | exact Nat.zero_le _ | exact Nat.le_add_left _ _ | exact Nat.le_of_eq (Nat.add_sub_cancel).symm | decide) (by first | exact Nat.le_refl _ | exact Nat.le_add_right _ _ | exact Nat.zero_le _ | exact Nat.le_add_left _ _ | exact Nat.le_of_eq (Nat.add_sub_cancel).symm | decide) ?_
    exact sj_L_law_1672 hd hK18 h_6
def j_L_law_1600 (K18 : Nat → Nat → Nat → Int32 → fM → Prop) (φ : Int32 → fM → Prop) (p0 : Nat) (p1 : Nat) (p2 : Nat) (p3 : Int32) (M : fM) : Prop := inA M p0 12 (p3 + (1 : Int32)) ∧ inA M p0 12 (p3 + (2 : Int32)) ∧ inA M p0 12 (p3 + (3 : Int32)) ∧ isO M p1 10 ∧ w_X10_trippers p1 (mI M p0 (ix (p3 + (1 : Int32)))) (mI M p0 (ix (p3 + (2 : Int32)))) (mI M p0 (ix (p3 + (3 : Int32)))) M fun x134 M130 => inA M130 p0 12 (p3 + (1 : Int32)) ∧ inA M130 p0 12 (p3 + (2 : Int32)) ∧ inA M130 p0 12 (p3 + (3 : Int32)) ∧ isO M130 p2 11 ∧ w_X11_trippers p2 (mI M130 p0 (ix (p3 + (1 : Int32)))) (mI M130 p0 (ix (p3 + (2 : Int32)))) (mI M130 p0 (ix (p3 + (3 : Int32)))) M130 fun x148 M144 => iF (x134 = x148) (j_L_law_1833 K18 φ p0 p1 p2 p3 M144) (φ (0 : Int32) M144)
set_option maxRecDepth 100000 in
theorem sj_L_law_1600 {g : GT} {d Bc Bs : Nat} (hd : 80 ≤ d + 1) {K18 : Nat → Nat → Nat → Int32 → fM → Prop} {φ : Int32 → fM → Prop} (hK18 : ∀ (p0 : Nat) (p1 : Nat) (p2 : Nat) (p3 : Int32) (M : fM), K18 p0 p1 p2 p3 M → FW g mtL_law (d + 1) 18 [(0, .ref p0), (1, .ref p1), (2, .ref p2), (3, .int p3)] [] M Bc Bs (rI φ)) {p0 : Nat} {p1 : Nat} {p2 : Nat} {p3 : Int32} {M : fM} (h : j_L_law_1600 K18 φ p0 p1 p2 p3 M) : FW g mtL_law (d + 1) 1600 [(0, .ref p0), (1, .ref p1), (2, .ref p2), (3, .int p3)] [] M (Bc + 11) (Bs + 3005) (rI φ) := by
  unfold j_L_law_1600 at h
  refine fw_aload_n (i := 1) 1 rfl (show decode _ _ = .ok (.aload_n 1, 1) by decide +kernel) ?_
  refine fw_aload_n (i := 0) 0 rfl (show decode _ _ = .ok (.aload_n 0, 1) by decide +kernel) ?_
  refine fw_iload_n (i := 3) 3 rfl (show decode _ _ = .ok (.iload_n 3, 1) by decide +kernel) ?_
  refine fw_iconst (v := (1 : Int32)) (show decode _ _ = .ok (.iconst 1, 1) by decide +kernel) (by decide) ?_
  refine fw_iadd (show decode _ _ = .ok (.iadd, 1) by decide +kernel) ?_
  obtain ⟨⟨n121, hs122, hi123⟩, h_1⟩ := h
  refine fw_iald (show decode _ _ = .ok (.iaload, 1) by decide +kernel) hs122 hi123 ?_
  refine fw_aload_n (i := 0) 0 rfl (show decode _ _ = .ok (.aload_n 0, 1) by decide +kernel) ?_
  refine fw_iload_n (i := 3) 3 rfl (show decode _ _ = .ok (.iload_n 3, 1) by decide +kernel) ?_
  refine fw_iconst (v := (2 : Int32)) (show decode _ _ = .ok (.iconst 2, 1) by decide +kernel) (by decide) ?_
  refine fw_iadd (show decode _ _ = .ok (.iadd, 1) by decide +kernel) ?_
  obtain ⟨⟨n124, hs125, hi126⟩, h_2⟩ := h_1
  refine fw_iald (show decode _ _ = .ok (.iaload, 1) by decide +kernel) hs125 hi126 ?_
  refine fw_aload_n (i := 0) 0 rfl (show decode _ _ = .ok (.aload_n 0, 1) by decide +kernel) ?_
  refine fw_iload_n (i := 3) 3 rfl (show decode _ _ = .ok (.iload_n 3, 1) by decide +kernel) ?_
  refine fw_iconst (v := (3 : Int32)) (show decode _ _ = .ok (.iconst 3, 1) by decide +kernel) (by decide) ?_
  refine fw_iadd (show decode _ _ = .ok (.iadd, 1) by decide +kernel) ?_
  obtain ⟨⟨n127, hs128, hi129⟩, h_3⟩ := h_2
  refine fw_iald (show decode _ _ = .ok (.iaload, 1) by decide +kernel) hs128 hi129 ?_
  obtain ⟨⟨hr132, n131, hs133⟩, h_4⟩ := h_3
  refine fw_callV (mt' := mtX10_trippers) (mc := 0) (ms := 0) (As := [.int (mI M p0 (ix (p3 + (1 : Int32)))), .int (mI M p0 (ix (p3 + (2 : Int32)))), .int (mI M p0 (ix (p3 + (3 : Int32))))]) (rest := []) 3 10 n131 (show decode _ _ = .ok (.invokevirtual 167, 3) by decide +kernel) cv_L_167 ⟨_, rfl, rfl⟩ hr132 hs133 rfl (Nat.le_of_ble_eq_true rfl) (s_X10_trippers (d := d) (hd_le hd (by decide)) h_4) (by first | exact Nat.le_refl _ | exact Nat.le_add_right _ _ | exact Nat.zero_le _ | exact Nat.le_add_left _ _ | exact Nat.le_of_eq (Nat.add_sub_cancel).symm | decide) (by first | exact Nat.le_refl _ | exact Nat.le_add_right _ _ | exact Nat.zero_le _ | exact Nat.le_add_left _ _ | exact Nat.le_of_eq (Nat.add_sub_cancel).symm | decide) (kI (bc' := (Bc + 11)) (bs' := (Bs + 3005)) (by first | exact Nat.le_refl _ | exact Nat.le_add_right _ _ | exact Nat.zero_le _ | exact Nat.le_add_left _ _ | exact Nat.le_of_eq (Nat.add_sub_cancel).symm | decide) (by first | exact Nat.le_refl _ | exact Nat.le_add_right _ _ | exact Nat.zero_le _ | exact Nat.le_add_left _ _ | exact Nat.le_of_eq (Nat.add_sub_cancel).symm | decide) (fun x134 M130 h_5 => ?_))
  refine fw_aload_n (i := 2) 2 rfl (show decode _ _ = .ok (.aload_n 2, 1) by decide +kernel) ?_
  refine fw_aload_n (i := 0) 0 rfl (show decode _ _ = .ok (.aload_n 0, 1) by decide +kernel) ?_
  refine fw_iload_n (i := 3) 3 rfl (show decode _ _ = .ok (.iload_n 3, 1) by decide +kernel) ?_
  refine fw_iconst (v := (1 : Int32)) (show decode _ _ = .ok (.iconst 1, 1) by decide +kernel) (by decide) ?_
  refine fw_iadd (show decode _ _ = .ok (.iadd, 1) by decide +kernel) ?_
  obtain ⟨⟨n135, hs136, hi137⟩, h_6⟩ := h_5
  refine fw_iald (show decode _ _ = .ok (.iaload, 1) by decide +kernel) hs136 hi137 ?_
  refine fw_aload_n (i := 0) 0 rfl (show decode _ _ = .ok (.aload_n 0, 1) by decide +kernel) ?_
  refine fw_iload_n (i := 3) 3 rfl (show decode _ _ = .ok (.iload_n 3, 1) by decide +kernel) ?_
  refine fw_iconst (v := (2 : Int32)) (show decode _ _ = .ok (.iconst 2, 1) by decide +kernel) (by decide) ?_
  refine fw_iadd (show decode _ _ = .ok (.iadd, 1) by decide +kernel) ?_
  obtain ⟨⟨n138, hs139, hi140⟩, h_7⟩ := h_6
  refine fw_iald (show decode _ _ = .ok (.iaload, 1) by decide +kernel) hs139 hi140 ?_
  refine fw_aload_n (i := 0) 0 rfl (show decode _ _ = .ok (.aload_n 0, 1) by decide +kernel) ?_
  refine fw_iload_n (i := 3) 3 rfl (show decode _ _ = .ok (.iload_n 3, 1) by decide +kernel) ?_
  refine fw_iconst (v := (3 : Int32)) (show decode _ _ = .ok (.iconst 3, 1) by decide +kernel) (by decide) ?_
  refine fw_iadd (show decode _ _ = .ok (.iadd, 1) by decide +kernel) ?_
  obtain ⟨⟨n141, hs142, hi143⟩, h_8⟩ := h_7
  refine fw_iald (show decode _ _ = .ok (.iaload, 1) by decide +kernel) hs142 hi143 ?_
  obtain ⟨⟨hr146, n145, hs147⟩, h_9⟩ := h_8
  refine fw_callV (mt' := mtX11_trippers) (mc := 0) (ms := 0) (As := [.int (mI M130 p0 (ix (p3 + (1 : Int32)))), .int (mI M130 p0 (ix (p3 + (2 : Int32)))), .int (mI M130 p0 (ix (p3 + (3 : Int32))))]) (rest := [.int x134]) 3 11 n145 (show decode _ _ = .ok (.invokevirtual 170, 3) by decide +kernel) cv_L_170 ⟨_, rfl, rfl⟩ hr146 hs147 rfl (Nat.le_of_ble_eq_true rfl) (s_X11_trippers (d := d) (hd_le hd (by decide)) h_9) (by first | exact Nat.le_refl _ | exact Nat.le_add_right _ _ | exact Nat.zero_le _ | exact Nat.le_add_left _ _ | exact Nat.le_of_eq (Nat.add_sub_cancel).symm | decide) (by first | exact Nat.le_refl _ | exact Nat.le_add_right _ _ | exact Nat.zero_le _ | exact Nat.le_add_left _ _ | exact Nat.le_of_eq (Nat.add_sub_cancel).symm | decide) (kI (bc' := (Bc + 11)) (bs' := (Bs + 3005)) (by first | exact Nat.le_refl _ | exact Nat.le_add_right _ _ | exact Nat.zero_le _ | exact Nat.le_add_left _ _ | exact Nat.le_of_eq (Nat.add_sub_cancel).symm | decide) (by first | exact Nat.le_refl _ | exact Nat.le_add_right _ _ | exact Nat.zero_le _ | exact Nat.le_add_left _ _ | exact Nat.le_of_eq (Nat.add_sub_cancel).symm | decide) (fun x148 M144 h_10 => ?_))
  refine fw_icmp_eq 1833 (show decode _ _ = .ok (.if_icmp .eq 195, 3) by decide +kernel) (by decide) (fun hc149 => ?_) (fun hc149 => ?_)
  · have h_11 := ipos hc149 h_10
    refine FW.sub [0, 1, 2, 3] (ls' := [(0, .ref p0), (1, .ref p1), (2, .ref p2), (3, .int p3)]) rfl ?_
    refine FW.room (bc' := Bc) (bs' := Bs) (by first | exact Nat.le_refl _ | exact Nat.le_add_right _ _ | exact Nat.zero_le _ | exact Nat.le_add_left _ _ | exact Nat.le_of_eq (Nat.add_sub_cancel).symm | decide) (by first | exact Nat.le_refl _ | exact Nat.le_add_right _ _ | exact Nat.zero_le _ | exact Nat.le_add_left _ _ | exact Nat.le_of_eq (Nat.add_sub_cancel).symm | decide) ?_
    exact sj_L_law_1833 hd hK18 h_11
  · have h_12 := ineg hc149 h_10
    refine fw_iconst (v := (0 : Int32)) (show decode _ _ = .ok (.iconst 0, 1) by decide +kernel) (by decide) ?_
    exact fw_ret (v := some (.int (0 : Int32))) .ireturn (show decode _ _ = .ok (.ireturn, 1) by decide +kernel) ⟨rfl, Or.inr (Or.inl ⟨rfl, rfl⟩)⟩ ⟨_, rfl, h_12⟩
def j_L_law_1567 (K18 : Nat → Nat → Nat → Int32 → fM → Prop) (φ : Int32 → fM → Prop) (p0 : Nat) (p1 : Nat) (p2 : Nat) (p3 : Int32) (M : fM) : Prop := inA M p0 12 (p3 + (1 : Int32)) ∧ inA M p0 12 (p3 + (2 : Int32)) ∧ isO M p1 10 ∧ w_X10_legs p1 (mI M p0 (ix (p3 + (1 : Int32)))) (mI M p0 (ix (p3 + (2 : Int32)))) M fun x160 M156 => inA M156 p0 12 (p3 + (1 : Int32)) ∧ inA M156 p0 12 (p3 + (2 : Int32)) ∧ isO M156 p2 11 ∧ w_X11_legs p2 (mI M156 p0 (ix (p3 + (1 : Int32)))) (mI M156 p0 (ix (p3 + (2 : Int32)))) M156 fun x171 M167 => iF (x160 = x171) (j_L_law_1833 K18 φ p0 p1 p2 p3 M167) (φ (0 : Int32) M167)
set_option maxRecDepth 100000 in
theorem sj_L_law_1567 {g : GT} {d Bc Bs : Nat} (hd : 80 ≤ d + 1) {K18 : Nat → Nat → Nat → Int32 → fM → Prop} {φ : Int32 → fM → Prop} (hK18 : ∀ (p0 : Nat) (p1 : Nat) (p2 : Nat) (p3 : Int32) (M : fM), K18 p0 p1 p2 p3 M → FW g mtL_law (d + 1) 18 [(0, .ref p0), (1, .ref p1), (2, .ref p2), (3, .int p3)] [] M Bc Bs (rI φ)) {p0 : Nat} {p1 : Nat} {p2 : Nat} {p3 : Int32} {M : fM} (h : j_L_law_1567 K18 φ p0 p1 p2 p3 M) : FW g mtL_law (d + 1) 1567 [(0, .ref p0), (1, .ref p1), (2, .ref p2), (3, .int p3)] [] M (Bc + 11) (Bs + 3005) (rI φ) := by
  unfold j_L_law_1567 at h
  refine fw_aload_n (i := 1) 1 rfl (show decode _ _ = .ok (.aload_n 1, 1) by decide +kernel) ?_
  refine fw_aload_n (i := 0) 0 rfl (show decode _ _ = .ok (.aload_n 0, 1) by decide +kernel) ?_
  refine fw_iload_n (i := 3) 3 rfl (show decode _ _ = .ok (.iload_n 3, 1) by decide +kernel) ?_
  refine fw_iconst (v := (1 : Int32)) (show decode _ _ = .ok (.iconst 1, 1) by decide +kernel) (by decide) ?_
  refine fw_iadd (show decode _ _ = .ok (.iadd, 1) by decide +kernel) ?_
  obtain ⟨⟨n150, hs151, hi152⟩, h_1⟩ := h
  refine fw_iald (show decode _ _ = .ok (.iaload, 1) by decide +kernel) hs151 hi152 ?_
  refine fw_aload_n (i := 0) 0 rfl (show decode _ _ = .ok (.aload_n 0, 1) by decide +kernel) ?_
  refine fw_iload_n (i := 3) 3 rfl (show decode _ _ = .ok (.iload_n 3, 1) by decide +kernel) ?_
  refine fw_iconst (v := (2 : Int32)) (show decode _ _ = .ok (.iconst 2, 1) by decide +kernel) (by decide) ?_
  refine fw_iadd (show decode _ _ = .ok (.iadd, 1) by decide +kernel) ?_
  obtain ⟨⟨n153, hs154, hi155⟩, h_2⟩ := h_1
  refine fw_iald (show decode _ _ = .ok (.iaload, 1) by decide +kernel) hs154 hi155 ?_
  obtain ⟨⟨hr158, n157, hs159⟩, h_3⟩ := h_2
  refine fw_callV (mt' := mtX10_legs) (mc := 0) (ms := 0) (As := [.int (mI M p0 (ix (p3 + (1 : Int32)))), .int (mI M p0 (ix (p3 + (2 : Int32))))]) (rest := []) 2 10 n157 (show decode _ _ = .ok (.invokevirtual 163, 3) by decide +kernel) cv_L_163 ⟨_, rfl, rfl⟩ hr158 hs159 rfl (Nat.le_of_ble_eq_true rfl) (s_X10_legs (d := d) (hd_le hd (by decide)) h_3) (by first | exact Nat.le_refl _ | exact Nat.le_add_right _ _ | exact Nat.zero_le _ | exact Nat.le_add_left _ _ | exact Nat.le_of_eq (Nat.add_sub_cancel).symm | decide) (by first | exact Nat.le_refl _ | exact Nat.le_add_right _ _ | exact Nat.zero_le _ | exact Nat.le_add_left _ _ | exact Nat.le_of_eq (Nat.add_sub_cancel).symm | decide) (kI (bc' := (Bc + 11)) (bs' := (Bs + 3005)) (by first | exact Nat.le_refl _ | exact Nat.le_add_right _ _ | exact Nat.zero_le _ | exact Nat.le_add_left _ _ | exact Nat.le_of_eq (Nat.add_sub_cancel).symm | decide) (by first | exact Nat.le_refl _ | exact Nat.le_add_right _ _ | exact Nat.zero_le _ | exact Nat.le_add_left _ _ | exact Nat.le_of_eq (Nat.add_sub_cancel).symm | decide) (fun x160 M156 h_4 => ?_))
  refine fw_aload_n (i := 2) 2 rfl (show decode _ _ = .ok (.aload_n 2, 1) by decide +kernel) ?_
  refine fw_aload_n (i := 0) 0 rfl (show decode _ _ = .ok (.aload_n 0, 1) by decide +kernel) ?_
  refine fw_iload_n (i := 3) 3 rfl (show decode _ _ = .ok (.iload_n 3, 1) by decide +kernel) ?_
  refine fw_iconst (v := (1 : Int32)) (show decode _ _ = .ok (.iconst 1, 1) by decide +kernel) (by decide) ?_
  refine fw_iadd (show decode _ _ = .ok (.iadd, 1) by decide +kernel) ?_
  obtain ⟨⟨n161, hs162, hi163⟩, h_5⟩ := h_4
  refine fw_iald (show decode _ _ = .ok (.iaload, 1) by decide +kernel) hs162 hi163 ?_
  refine fw_aload_n (i := 0) 0 rfl (show decode _ _ = .ok (.aload_n 0, 1) by decide +kernel) ?_
  refine fw_iload_n (i := 3) 3 rfl (show decode _ _ = .ok (.iload_n 3, 1) by decide +kernel) ?_
  refine fw_iconst (v := (2 : Int32)) (show decode _ _ = .ok (.iconst 2, 1) by decide +kernel) (by decide) ?_
  refine fw_iadd (show decode _ _ = .ok (.iadd, 1) by decide +kernel) ?_
  obtain ⟨⟨n164, hs165, hi166⟩, h_6⟩ := h_5
  refine fw_iald (show decode _ _ = .ok (.iaload, 1) by decide +kernel) hs165 hi166 ?_
  obtain ⟨⟨hr169, n168, hs170⟩, h_7⟩ := h_6
  refine fw_callV (mt' := mtX11_legs) (mc := 0) (ms := 0) (As := [.int (mI M156 p0 (ix (p3 + (1 : Int32)))), .int (mI M156 p0 (ix (p3 + (2 : Int32))))]) (rest := [.int x160]) 2 11 n168 (show decode _ _ = .ok (.invokevirtual 166, 3) by decide +kernel) cv_L_166 ⟨_, rfl, rfl⟩ hr169 hs170 rfl (Nat.le_of_ble_eq_true rfl) (s_X11_legs (d := d) (hd_le hd (by decide)) h_7) (by first | exact Nat.le_refl _ | exact Nat.le_add_right _ _ | exact Nat.zero_le _ | exact Nat.le_add_left _ _ | exact Nat.le_of_eq (Nat.add_sub_cancel).symm | decide) (by first | exact Nat.le_refl _ | exact Nat.le_add_right _ _ | exact Nat.zero_le _ | exact Nat.le_add_left _ _ | exact Nat.le_of_eq (Nat.add_sub_cancel).symm | decide) (kI (bc' := (Bc + 11)) (bs' := (Bs + 3005)) (by first | exact Nat.le_refl _ | exact Nat.le_add_right _ _ | exact Nat.zero_le _ | exact Nat.le_add_left _ _ | exact Nat.le_of_eq (Nat.add_sub_cancel).symm | decide) (by first | exact Nat.le_refl _ | exact Nat.le_add_right _ _ | exact Nat.zero_le _ | exact Nat.le_add_left _ _ | exact Nat.le_of_eq (Nat.add_sub_cancel).symm | decide) (fun x171 M167 h_8 => ?_))
  refine fw_icmp_eq 1833 (show decode _ _ = .ok (.if_icmp .eq 238, 3) by decide +kernel) (by decide) (fun hc172 => ?_) (fun hc172 => ?_)
  · have h_9 := ipos hc172 h_8
    refine FW.sub [0, 1, 2, 3] (ls' := [(0, .ref p0), (1, .ref p1), (2, .ref p2), (3, .int p3)]) rfl ?_
    refine FW.room (bc' := Bc) (bs' := Bs) (by first | exact Nat.le_refl _ | exact Nat.le_add_right _ _ | exact Nat.zero_le _ | exact Nat.le_add_left _ _ | exact Nat.le_of_eq (Nat.add_sub_cancel).symm | decide) (by first | exact Nat.le_refl _ | exact Nat.le_add_right _ _ | exact Nat.zero_le _ | exact Nat.le_add_left _ _ | exact Nat.le_of_eq (Nat.add_sub_cancel).symm | decide) ?_
    exact sj_L_law_1833 hd hK18 h_9
  · have h_10 := ineg hc172 h_8
    refine fw_iconst (v := (0 : Int32)) (show decode _ _ = .ok (.iconst 0, 1) by decide +kernel) (by decide) ?_
    exact fw_ret (v := some (.int (0 : Int32))) .ireturn (show decode _ _ = .ok (.ireturn, 1) by decide +kernel) ⟨rfl, Or.inr (Or.inl ⟨rfl, rfl⟩)⟩ ⟨_, rfl, h_10⟩
def j_L_law_1534 (K18 : Nat → Nat → Nat → Int32 → fM → Prop) (φ : Int32 → fM → Prop) (p0 : Nat) (p1 : Nat) (p2 : Nat) (p3 : Int32) (M : fM) : Prop := inA M p0 12 (p3 + (1 : Int32)) ∧ inA M p0 12 (p3 + (2 : Int32)) ∧ isO M p1 10 ∧ w_X10_tally p1 (mI M p0 (ix (p3 + (1 : Int32)))) (mI M p0 (ix (p3 + (2 : Int32)))) M fun x183 M179 => inA M179 p0 12 (p3 + (1 : Int32)) ∧ inA M179 p0 12 (p3 + (2 : Int32)) ∧ isO M179 p2 11 ∧ w_X11_tally p2 (mI M179 p0 (ix (p3 + (1 : Int32)))) (mI M179 p0 (ix (p3 + (2 : Int32)))) M179 fun x194 M190 => iF (x183 = x194) (j_L_law_1833 K18 φ p0 p1 p2 p3 M190) (φ (0 : Int32) M190)
set_option maxRecDepth 100000 in
theorem sj_L_law_1534 {g : GT} {d Bc Bs : Nat} (hd : 80 ≤ d + 1) {K18 : Nat → Nat → Nat → Int32 → fM → Prop} {φ : Int32 → fM → Prop} (hK18 : ∀ (p0 : Nat) (p1 : Nat) (p2 : Nat) (p3 : Int32) (M : fM), K18 p0 p1 p2 p3 M → FW g mtL_law (d + 1) 18 [(0, .ref p0), (1, .ref p1), (2, .ref p2), (3, .int p3)] [] M Bc Bs (rI φ)) {p0 : Nat} {p1 : Nat} {p2 : Nat} {p3 : Int32} {M : fM} (h : j_L_law_1534 K18 φ p0 p1 p2 p3 M) : FW g mtL_law (d + 1) 1534 [(0, .ref p0), (1, .ref p1), (2, .ref p2), (3, .int p3)] [] M (Bc + 11) (Bs + 3005) (rI φ) := by
  unfold j_L_law_1534 at h
  refine fw_aload_n (i := 1) 1 rfl (show decode _ _ = .ok (.aload_n 1, 1) by decide +kernel) ?_
  refine fw_aload_n (i := 0) 0 rfl (show decode _ _ = .ok (.aload_n 0, 1) by decide +kernel) ?_
  refine fw_iload_n (i := 3) 3 rfl (show decode _ _ = .ok (.iload_n 3, 1) by decide +kernel) ?_
  refine fw_iconst (v := (1 : Int32)) (show decode _ _ = .ok (.iconst 1, 1) by decide +kernel) (by decide) ?_
  refine fw_iadd (show decode _ _ = .ok (.iadd, 1) by decide +kernel) ?_
  obtain ⟨⟨n173, hs174, hi175⟩, h_1⟩ := h
  refine fw_iald (show decode _ _ = .ok (.iaload, 1) by decide +kernel) hs174 hi175 ?_
  refine fw_aload_n (i := 0) 0 rfl (show decode _ _ = .ok (.aload_n 0, 1) by decide +kernel) ?_
  refine fw_iload_n (i := 3) 3 rfl (show decode _ _ = .ok (.iload_n 3, 1) by decide +kernel) ?_
  refine fw_iconst (v := (2 : Int32)) (show decode _ _ = .ok (.iconst 2, 1) by decide +kernel) (by decide) ?_
  refine fw_iadd (show decode _ _ = .ok (.iadd, 1) by decide +kernel) ?_
  obtain ⟨⟨n176, hs177, hi178⟩, h_2⟩ := h_1
  refine fw_iald (show decode _ _ = .ok (.iaload, 1) by decide +kernel) hs177 hi178 ?_
  obtain ⟨⟨hr181, n180, hs182⟩, h_3⟩ := h_2
  refine fw_callV (mt' := mtX10_tally) (mc := 0) (ms := 0) (As := [.int (mI M p0 (ix (p3 + (1 : Int32)))), .int (mI M p0 (ix (p3 + (2 : Int32))))]) (rest := []) 2 10 n180 (show decode _ _ = .ok (.invokevirtual 159, 3) by decide +kernel) cv_L_159 ⟨_, rfl, rfl⟩ hr181 hs182 rfl (Nat.le_of_ble_eq_true rfl) (s_X10_tally (d := d) (hd_le hd (by decide)) h_3) (by first | exact Nat.le_refl _ | exact Nat.le_add_right _ _ | exact Nat.zero_le _ | exact Nat.le_add_left _ _ | exact Nat.le_of_eq (Nat.add_sub_cancel).symm | decide) (by first | exact Nat.le_refl _ | exact Nat.le_add_right _ _ | exact Nat.zero_le _ | exact Nat.le_add_left _ _ | exact Nat.le_of_eq (Nat.add_sub_cancel).symm | decide) (kI (bc' := (Bc + 11)) (bs' := (Bs + 3005)) (by first | exact Nat.le_refl _ | exact Nat.le_add_right _ _ | exact Nat.zero_le _ | exact Nat.le_add_left _ _ | exact Nat.le_of_eq (Nat.add_sub_cancel).symm | decide) (by first | exact Nat.le_refl _ | exact Nat.le_add_right _ _ | exact Nat.zero_le _ | exact Nat.le_add_left _ _ | exact Nat.le_of_eq (Nat.add_sub_cancel).symm | decide) (fun x183 M179 h_4 => ?_))
  refine fw_aload_n (i := 2) 2 rfl (show decode _ _ = .ok (.aload_n 2, 1) by decide +kernel) ?_
  refine fw_aload_n (i := 0) 0 rfl (show decode _ _ = .ok (.aload_n 0, 1) by decide +kernel) ?_
  refine fw_iload_n (i := 3) 3 rfl (show decode _ _ = .ok (.iload_n 3, 1) by decide +kernel) ?_
  refine fw_iconst (v := (1 : Int32)) (show decode _ _ = .ok (.iconst 1, 1) by decide +kernel) (by decide) ?_
  refine fw_iadd (show decode _ _ = .ok (.iadd, 1) by decide +kernel) ?_
  obtain ⟨⟨n184, hs185, hi186⟩, h_5⟩ := h_4
  refine fw_iald (show decode _ _ = .ok (.iaload, 1) by decide +kernel) hs185 hi186 ?_
  refine fw_aload_n (i := 0) 0 rfl (show decode _ _ = .ok (.aload_n 0, 1) by decide +kernel) ?_
  refine fw_iload_n (i := 3) 3 rfl (show decode _ _ = .ok (.iload_n 3, 1) by decide +kernel) ?_
  refine fw_iconst (v := (2 : Int32)) (show decode _ _ = .ok (.iconst 2, 1) by decide +kernel) (by decide) ?_
  refine fw_iadd (show decode _ _ = .ok (.iadd, 1) by decide +kernel) ?_
  obtain ⟨⟨n187, hs188, hi189⟩, h_6⟩ := h_5
  refine fw_iald (show decode _ _ = .ok (.iaload, 1) by decide +kernel) hs188 hi189 ?_
  obtain ⟨⟨hr192, n191, hs193⟩, h_7⟩ := h_6
  refine fw_callV (mt' := mtX11_tally) (mc := 0) (ms := 0) (As := [.int (mI M179 p0 (ix (p3 + (1 : Int32)))), .int (mI M179 p0 (ix (p3 + (2 : Int32))))]) (rest := [.int x183]) 2 11 n191 (show decode _ _ = .ok (.invokevirtual 162, 3) by decide +kernel) cv_L_162 ⟨_, rfl, rfl⟩ hr192 hs193 rfl (Nat.le_of_ble_eq_true rfl) (s_X11_tally (d := d) (hd_le hd (by decide)) h_7) (by first | exact Nat.le_refl _ | exact Nat.le_add_right _ _ | exact Nat.zero_le _ | exact Nat.le_add_left _ _ | exact Nat.le_of_eq (Nat.add_sub_cancel).symm | decide) (by first | exact Nat.le_refl _ | exact Nat.le_add_right _ _ | exact Nat.zero_le _ | exact Nat.le_add_left _ _ | exact Nat.le_of_eq (Nat.add_sub_cancel).symm | decide) (kI (bc' := (Bc + 11)) (bs' := (Bs + 3005)) (by first | exact Nat.le_refl _ | exact Nat.le_add_right _ _ | exact Nat.zero_le _ | exact Nat.le_add_left _ _ | exact Nat.le_of_eq (Nat.add_sub_cancel).symm | decide) (by first | exact Nat.le_refl _ | exact Nat.le_add_right _ _ | exact Nat.zero_le _ | exact Nat.le_add_left _ _ | exact Nat.le_of_eq (Nat.add_sub_cancel).symm | decide) (fun x194 M190 h_8 => ?_))
  refine fw_icmp_eq 1833 (show decode _ _ = .ok (.if_icmp .eq 271, 3) by decide +kernel) (by decide) (fun hc195 => ?_) (fun hc195 => ?_)
  · have h_9 := ipos hc195 h_8
    refine FW.sub [0, 1, 2, 3] (ls' := [(0, .ref p0), (1, .ref p1), (2, .ref p2), (3, .int p3)]) rfl ?_
    refine FW.room (bc' := Bc) (bs' := Bs) (by first | exact Nat.le_refl _ | exact Nat.le_add_right _ _ | exact Nat.zero_le _ | exact Nat.le_add_left _ _ | exact Nat.le_of_eq (Nat.add_sub_cancel).symm | decide) (by first | exact Nat.le_refl _ | exact Nat.le_add_right _ _ | exact Nat.zero_le _ | exact Nat.le_add_left _ _ | exact Nat.le_of_eq (Nat.add_sub_cancel).symm | decide) ?_
    exact sj_L_law_1833 hd hK18 h_9
  · have h_10 := ineg hc195 h_8
    refine fw_iconst (v := (0 : Int32)) (show decode _ _ = .ok (.iconst 0, 1) by decide +kernel) (by decide) ?_
    exact fw_ret (v := some (.int (0 : Int32))) .ireturn (show decode _ _ = .ok (.ireturn, 1) by decide +kernel) ⟨rfl, Or.inr (Or.inl ⟨rfl, rfl⟩)⟩ ⟨_, rfl, h_10⟩
def j_L_law_1526 (K18 : Nat → Nat → Nat → Int32 → fM → Prop) (φ : Int32 → fM → Prop) (p0 : Nat) (p1 : Nat) (p2 : Nat) (p3 : Int32) (s0 : Int32) (s1 : Int32) (s2 : Int32) (s3 : Nat) (s4 : Int32) (M : fM) : Prop := isO M s3 11 ∧ w_X11_average s3 s2 s1 s0 M fun x200 M196 => iF (s4 = x200) (j_L_law_1833 K18 φ p0 p1 p2 p3 M196) (φ (0 : Int32) M196)
set_option maxRecDepth 100000 in
theorem sj_L_law_1526 {g : GT} {d Bc Bs : Nat} (hd : 80 ≤ d + 1) {K18 : Nat → Nat → Nat → Int32 → fM → Prop} {φ : Int32 → fM → Prop} (hK18 : ∀ (p0 : Nat) (p1 : Nat) (p2 : Nat) (p3 : Int32) (M : fM), K18 p0 p1 p2 p3 M → FW g mtL_law (d + 1) 18 [(0, .ref p0), (1, .ref p1), (2, .ref p2), (3, .int p3)] [] M Bc Bs (rI φ)) {p0 : Nat} {p1 : Nat} {p2 : Nat} {p3 : Int32} {s0 : Int32} {s1 : Int32} {s2 : Int32} {s3 : Nat} {s4 : Int32} {M : fM} (h : j_L_law_1526 K18 φ p0 p1 p2 p3 s0 s1 s2 s3 s4 M) : FW g mtL_law (d + 1) 1526 [(0, .ref p0), (1, .ref p1), (2, .ref p2), (3, .int p3)] [.int s0, .int s1, .int s2, .ref s3, .int s4] M Bc Bs (rI φ) := by
  unfold j_L_law_1526 at h
  obtain ⟨⟨hr198, n197, hs199⟩, h_1⟩ := h
  refine fw_callV (mt' := mtX11_average) (mc := 0) (ms := 0) (As := [.int s2, .int s1, .int s0]) (rest := [.int s4]) 3 11 n197 (show decode _ _ = .ok (.invokevirtual 158, 3) by decide +kernel) cv_L_158 ⟨_, rfl, rfl⟩ hr198 hs199 rfl (Nat.le_of_ble_eq_true rfl) (s_X11_average (d := d) (hd_le hd (by decide)) h_1) (by first | exact Nat.le_refl _ | exact Nat.le_add_right _ _ | exact Nat.zero_le _ | exact Nat.le_add_left _ _ | exact Nat.le_of_eq (Nat.add_sub_cancel).symm | decide) (by first | exact Nat.le_refl _ | exact Nat.le_add_right _ _ | exact Nat.zero_le _ | exact Nat.le_add_left _ _ | exact Nat.le_of_eq (Nat.add_sub_cancel).symm | decide) (kI (bc' := Bc) (bs' := Bs) (by first | exact Nat.le_refl _ | exact Nat.le_add_right _ _ | exact Nat.zero_le _ | exact Nat.le_add_left _ _ | exact Nat.le_of_eq (Nat.add_sub_cancel).symm | decide) (by first | exact Nat.le_refl _ | exact Nat.le_add_right _ _ | exact Nat.zero_le _ | exact Nat.le_add_left _ _ | exact Nat.le_of_eq (Nat.add_sub_cancel).symm | decide) (fun x200 M196 h_2 => ?_))
  refine fw_icmp_eq 1833 (show decode _ _ = .ok (.if_icmp .eq 304, 3) by decide +kernel) (by decide) (fun hc201 => ?_) (fun hc201 => ?_)
  · have h_3 := ipos hc201 h_2
    refine FW.sub [0, 1, 2, 3] (ls' := [(0, .ref p0), (1, .ref p1), (2, .ref p2), (3, .int p3)]) rfl ?_
    exact sj_L_law_1833 hd hK18 h_3
  · have h_4 := ineg hc201 h_2
    refine fw_iconst (v := (0 : Int32)) (show decode _ _ = .ok (.iconst 0, 1) by decide +kernel) (by decide) ?_
    exact fw_ret (v := some (.int (0 : Int32))) .ireturn (show decode _ _ = .ok (.ireturn, 1) by decide +kernel) ⟨rfl, Or.inr (Or.inl ⟨rfl, rfl⟩)⟩ ⟨_, rfl, h_4⟩
def j_L_law_1499 (K18 : Nat → Nat → Nat → Int32 → fM → Prop) (φ : Int32 → fM → Prop) (p0 : Nat) (p1 : Nat) (p2 : Nat) (p3 : Int32) (s0 : Int32) (s1 : Int32) (s2 : Int32) (s3 : Nat) (M : fM) : Prop := isO M s3 10 ∧ w_X10_average s3 s2 s1 s0 M fun x206 M202 => inA M202 p0 12 (p3 + (1 : Int32)) ∧ inA M202 p0 12 (p3 + (2 : Int32)) ∧ inA M202 p0 12 (p3 + (3 : Int32)) ∧ iF ((mI M202 p0 (ix (p3 + (3 : Int32)))) = 0) (j_L_law_1526 K18 φ p0 p1 p2 p3 (0 : Int32) (mI M202 p0 (ix (p3 + (2 : Int32)))) (mI M202 p0 (ix (p3 + (1 : Int32)))) p2 x206 M202) (j_L_law_1526 K18 φ p0 p1 p2 p3 (1 : Int32) (mI M202 p0 (ix (p3 + (2 : Int32)))) (mI M202 p0 (ix (p3 + (1 : Int32)))) p2 x206 M202)
set_option maxRecDepth 100000 in
theorem sj_L_law_1499 {g : GT} {d Bc Bs : Nat} (hd : 80 ≤ d + 1) {K18 : Nat → Nat → Nat → Int32 → fM → Prop} {φ : Int32 → fM → Prop} (hK18 : ∀ (p0 : Nat) (p1 : Nat) (p2 : Nat) (p3 : Int32) (M : fM), K18 p0 p1 p2 p3 M → FW g mtL_law (d + 1) 18 [(0, .ref p0), (1, .ref p1), (2, .ref p2), (3, .int p3)] [] M Bc Bs (rI φ)) {p0 : Nat} {p1 : Nat} {p2 : Nat} {p3 : Int32} {s0 : Int32} {s1 : Int32} {s2 : Int32} {s3 : Nat} {M : fM} (h : j_L_law_1499 K18 φ p0 p1 p2 p3 s0 s1 s2 s3 M) : FW g mtL_law (d + 1) 1499 [(0, .ref p0), (1, .ref p1), (2, .ref p2), (3, .int p3)] [.int s0, .int s1, .int s2, .ref s3] M Bc Bs (rI φ) := by
  unfold j_L_law_1499 at h
  obtain ⟨⟨hr204, n203, hs205⟩, h_1⟩ := h
  refine fw_callV (mt' := mtX10_average) (mc := 0) (ms := 0) (As := [.int s2, .int s1, .int s0]) (rest := []) 3 10 n203 (show decode _ _ = .ok (.invokevirtual 154, 3) by decide +kernel) cv_L_154 ⟨_, rfl, rfl⟩ hr204 hs205 rfl (Nat.le_of_ble_eq_true rfl) (s_X10_average (d := d) (hd_le hd (by decide)) h_1) (by first | exact Nat.le_refl _ | exact Nat.le_add_right _ _ | exact Nat.zero_le _ | exact Nat.le_add_left _ _ | exact Nat.le_of_eq (Nat.add_sub_cancel).symm | decide) (by first | exact Nat.le_refl _ | exact Nat.le_add_right _ _ | exact Nat.zero_le _ | exact Nat.le_add_left _ _ | exact Nat.le_of_eq (Nat.add_sub_cancel).symm | decide) (kI (bc' := Bc) (bs' := Bs) (by first | exact Nat.le_refl _ | exact Nat.le_add_right _ _ | exact Nat.zero_le _ | exact Nat.le_add_left _ _ | exact Nat.le_of_eq (Nat.add_sub_cancel).symm | decide) (by first | exact Nat.le_refl _ | exact Nat.le_add_right _ _ | exact Nat.zero_le _ | exact Nat.le_add_left _ _ | exact Nat.le_of_eq (Nat.add_sub_cancel).symm | decide) (fun x206 M202 h_2 => ?_))
  refine fw_aload_n (i := 2) 2 rfl (show decode _ _ = .ok (.aload_n 2, 1) by decide +kernel) ?_
  refine fw_aload_n (i := 0) 0 rfl (show decode _ _ = .ok (.aload_n 0, 1) by decide +kernel) ?_
  refine fw_iload_n (i := 3) 3 rfl (show decode _ _ = .ok (.iload_n 3, 1) by decide +kernel) ?_
  refine fw_iconst (v := (1 : Int32)) (show decode _ _ = .ok (.iconst 1, 1) by decide +kernel) (by decide) ?_
  refine fw_iadd (show decode _ _ = .ok (.iadd, 1) by decide +kernel) ?_
  obtain ⟨⟨n207, hs208, hi209⟩, h_3⟩ := h_2
  refine fw_iald (show decode _ _ = .ok (.iaload, 1) by decide +kernel) hs208 hi209 ?_
  refine fw_aload_n (i := 0) 0 rfl (show decode _ _ = .ok (.aload_n 0, 1) by decide +kernel) ?_
  refine fw_iload_n (i := 3) 3 rfl (show decode _ _ = .ok (.iload_n 3, 1) by decide +kernel) ?_
  refine fw_iconst (v := (2 : Int32)) (show decode _ _ = .ok (.iconst 2, 1) by decide +kernel) (by decide) ?_
  refine fw_iadd (show decode _ _ = .ok (.iadd, 1) by decide +kernel) ?_
  obtain ⟨⟨n210, hs211, hi212⟩, h_4⟩ := h_3
  refine fw_iald (show decode _ _ = .ok (.iaload, 1) by decide +kernel) hs211 hi212 ?_
  refine fw_aload_n (i := 0) 0 rfl (show decode _ _ = .ok (.aload_n 0, 1) by decide +kernel) ?_
  refine fw_iload_n (i := 3) 3 rfl (show decode _ _ = .ok (.iload_n 3, 1) by decide +kernel) ?_
  refine fw_iconst (v := (3 : Int32)) (show decode _ _ = .ok (.iconst 3, 1) by decide +kernel) (by decide) ?_
  refine fw_iadd (show decode _ _ = .ok (.iadd, 1) by decide +kernel) ?_
  obtain ⟨⟨n213, hs214, hi215⟩, h_5⟩ := h_4
  refine fw_iald (show decode _ _ = .ok (.iaload, 1) by decide +kernel) hs214 hi215 ?_
  refine fw_if_eq 1525 (show decode _ _ = .ok (.ifCond .eq 7, 3) by decide +kernel) (by decide) (fun hc216 => ?_) (fun hc216 => ?_)
  · have h_6 := ipos hc216 h_5
    refine fw_iconst (v := (0 : Int32)) (show decode _ _ = .ok (.iconst 0, 1) by decide +kernel) (by decide) ?_
    refine FW.sub [0, 1, 2, 3] (ls' := [(0, .ref p0), (1, .ref p1), (2, .ref p2), (3, .int p3)]) rfl ?_
    exact sj_L_law_1526 hd hK18 h_6
  · have h_7 := ineg hc216 h_5
    refine fw_iconst (v := (1 : Int32)) (show decode _ _ = .ok (.iconst 1, 1) by decide +kernel) (by decide) ?_
    refine fw_goto 1526 (show decode _ _ = .ok (.goto 4, 3) by decide +kernel) (by decide) ?_
    refine FW.sub [0, 1, 2, 3] (ls' := [(0, .ref p0), (1, .ref p1), (2, .ref p2), (3, .int p3)]) rfl ?_
    exact sj_L_law_1526 hd hK18 h_7
def j_L_law_1475 (K18 : Nat → Nat → Nat → Int32 → fM → Prop) (φ : Int32 → fM → Prop) (p0 : Nat) (p1 : Nat) (p2 : Nat) (p3 : Int32) (M : fM) : Prop := inA M p0 12 (p3 + (1 : Int32)) ∧ inA M p0 12 (p3 + (2 : Int32)) ∧ inA M p0 12 (p3 + (3 : Int32)) ∧ iF ((mI M p0 (ix (p3 + (3 : Int32)))) = 0) (j_L_law_1499 K18 φ p0 p1 p2 p3 (0 : Int32) (mI M p0 (ix (p3 + (2 : Int32)))) (mI M p0 (ix (p3 + (1 : Int32)))) p1 M) (j_L_law_1499 K18 φ p0 p1 p2 p3 (1 : Int32) (mI M p0 (ix (p3 + (2 : Int32)))) (mI M p0 (ix (p3 + (1 : Int32)))) p1 M)
set_option maxRecDepth 100000 in
theorem sj_L_law_1475 {g : GT} {d Bc Bs : Nat} (hd : 80 ≤ d + 1) {K18 : Nat → Nat → Nat → Int32 → fM → Prop} {φ : Int32 → fM → Prop} (hK18 : ∀ (p0 : Nat) (p1 : Nat) (p2 : Nat) (p3 : Int32) (M : fM), K18 p0 p1 p2 p3 M → FW g mtL_law (d + 1) 18 [(0, .ref p0), (1, .ref p1), (2, .ref p2), (3, .int p3)] [] M Bc Bs (rI φ)) {p0 : Nat} {p1 : Nat} {p2 : Nat} {p3 : Int32} {M : fM} (h : j_L_law_1475 K18 φ p0 p1 p2 p3 M) : FW g mtL_law (d + 1) 1475 [(0, .ref p0), (1, .ref p1), (2, .ref p2), (3, .int p3)] [] M (Bc + 11) (Bs + 3005) (rI φ) := by
  unfold j_L_law_1475 at h
  refine fw_aload_n (i := 1) 1 rfl (show decode _ _ = .ok (.aload_n 1, 1) by decide +kernel) ?_
  refine fw_aload_n (i := 0) 0 rfl (show decode _ _ = .ok (.aload_n 0, 1) by decide +kernel) ?_
  refine fw_iload_n (i := 3) 3 rfl (show decode _ _ = .ok (.iload_n 3, 1) by decide +kernel) ?_
  refine fw_iconst (v := (1 : Int32)) (show decode _ _ = .ok (.iconst 1, 1) by decide +kernel) (by decide) ?_
  refine fw_iadd (show decode _ _ = .ok (.iadd, 1) by decide +kernel) ?_
  obtain ⟨⟨n217, hs218, hi219⟩, h_1⟩ := h
  refine fw_iald (show decode _ _ = .ok (.iaload, 1) by decide +kernel) hs218 hi219 ?_
  refine fw_aload_n (i := 0) 0 rfl (show decode _ _ = .ok (.aload_n 0, 1) by decide +kernel) ?_
  refine fw_iload_n (i := 3) 3 rfl (show decode _ _ = .ok (.iload_n 3, 1) by decide +kernel) ?_
  refine fw_iconst (v := (2 : Int32)) (show decode _ _ = .ok (.iconst 2, 1) by decide +kernel) (by decide) ?_
  refine fw_iadd (show decode _ _ = .ok (.iadd, 1) by decide +kernel) ?_
  obtain ⟨⟨n220, hs221, hi222⟩, h_2⟩ := h_1
  refine fw_iald (show decode _ _ = .ok (.iaload, 1) by decide +kernel) hs221 hi222 ?_
  refine fw_aload_n (i := 0) 0 rfl (show decode _ _ = .ok (.aload_n 0, 1) by decide +kernel) ?_
  refine fw_iload_n (i := 3) 3 rfl (show decode _ _ = .ok (.iload_n 3, 1) by decide +kernel) ?_
  refine fw_iconst (v := (3 : Int32)) (show decode _ _ = .ok (.iconst 3, 1) by decide +kernel) (by decide) ?_
  refine fw_iadd (show decode _ _ = .ok (.iadd, 1) by decide +kernel) ?_
  obtain ⟨⟨n223, hs224, hi225⟩, h_3⟩ := h_2
  refine fw_iald (show decode _ _ = .ok (.iaload, 1) by decide +kernel) hs224 hi225 ?_
  refine fw_if_eq 1498 (show decode _ _ = .ok (.ifCond .eq 7, 3) by decide +kernel) (by decide) (fun hc226 => ?_) (fun hc226 => ?_)
  · have h_4 := ipos hc226 h_3
    refine fw_iconst (v := (0 : Int32)) (show decode _ _ = .ok (.iconst 0, 1) by decide +kernel) (by decide) ?_
    refine FW.sub [0, 1, 2, 3] (ls' := [(0, .ref p0), (1, .ref p1), (2, .ref p2), (3, .int p3)]) rfl ?_
    refine FW.room (bc' := Bc) (bs' := Bs) (by first | exact Nat.le_refl _ | exact Nat.le_add_right _ _ | exact Nat.zero_le _ | exact Nat.le_add_left _ _ | exact Nat.le_of_eq (Nat.add_sub_cancel).symm | decide) (by first | exact Nat.le_refl _ | exact Nat.le_add_right _ _ | exact Nat.zero_le _ | exact Nat.le_add_left _ _ | exact Nat.le_of_eq (Nat.add_sub_cancel).symm | decide) ?_
    exact sj_L_law_1499 hd hK18 h_4
  · have h_5 := ineg hc226 h_3
    refine fw_iconst (v := (1 : Int32)) (show decode _ _ = .ok (.iconst 1, 1) by decide +kernel) (by decide) ?_
    refine fw_goto 1499 (show decode _ _ = .ok (.goto 4, 3) by decide +kernel) (by decide) ?_
    refine FW.sub [0, 1, 2, 3] (ls' := [(0, .ref p0), (1, .ref p1), (2, .ref p2), (3, .int p3)]) rfl ?_
    refine FW.room (bc' := Bc) (bs' := Bs) (by first | exact Nat.le_refl _ | exact Nat.le_add_right _ _ | exact Nat.zero_le _ | exact Nat.le_add_left _ _ | exact Nat.le_of_eq (Nat.add_sub_cancel).symm | decide) (by first | exact Nat.le_refl _ | exact Nat.le_add_right _ _ | exact Nat.zero_le _ | exact Nat.le_add_left _ _ | exact Nat.le_of_eq (Nat.add_sub_cancel).symm | decide) ?_
    exact sj_L_law_1499 hd hK18 h_5
def j_L_law_1466 (K18 : Nat → Nat → Nat → Int32 → fM → Prop) (φ : Int32 → fM → Prop) (p0 : Nat) (p1 : Nat) (p2 : Nat) (p3 : Int32) (s0 : Int32) (s1 : Int32) (s2 : Int32) (s3 : Int32) (s4 : Nat) (s5 : Int64) (M : fM) : Prop := isO M s4 11 ∧ w_X11_sure s4 s3 s2 s1 s0 M fun x231 M227 => iF ((lg_cmp s5 x231) = 0) (j_L_law_1833 K18 φ p0 p1 p2 p3 M227) (φ (0 : Int32) M227)
set_option maxRecDepth 100000 in
theorem sj_L_law_1466 {g : GT} {d Bc Bs : Nat} (hd : 80 ≤ d + 1) {K18 : Nat → Nat → Nat → Int32 → fM → Prop} {φ : Int32 → fM → Prop} (hK18 : ∀ (p0 : Nat) (p1 : Nat) (p2 : Nat) (p3 : Int32) (M : fM), K18 p0 p1 p2 p3 M → FW g mtL_law (d + 1) 18 [(0, .ref p0), (1, .ref p1), (2, .ref p2), (3, .int p3)] [] M Bc Bs (rI φ)) {p0 : Nat} {p1 : Nat} {p2 : Nat} {p3 : Int32} {s0 : Int32} {s1 : Int32} {s2 : Int32} {s3 : Int32} {s4 : Nat} {s5 : Int64} {M : fM} (h : j_L_law_1466 K18 φ p0 p1 p2 p3 s0 s1 s2 s3 s4 s5 M) : FW g mtL_law (d + 1) 1466 [(0, .ref p0), (1, .ref p1), (2, .ref p2), (3, .int p3)] [.int s0, .int s1, .int s2, .int s3, .ref s4, .long s5] M Bc Bs (rI φ) := by
  unfold j_L_law_1466 at h
  obtain ⟨⟨hr229, n228, hs230⟩, h_1⟩ := h
  refine fw_callV (mt' := mtX11_sure) (mc := 0) (ms := 0) (As := [.int s3, .int s2, .int s1, .int s0]) (rest := [.long s5]) 4 11 n228 (show decode _ _ = .ok (.invokevirtual 153, 3) by decide +kernel) cv_L_153 ⟨_, rfl, rfl⟩ hr229 hs230 rfl (Nat.le_of_ble_eq_true rfl) (s_X11_sure (d := d) (hd_le hd (by decide)) h_1) (by first | exact Nat.le_refl _ | exact Nat.le_add_right _ _ | exact Nat.zero_le _ | exact Nat.le_add_left _ _ | exact Nat.le_of_eq (Nat.add_sub_cancel).symm | decide) (by first | exact Nat.le_refl _ | exact Nat.le_add_right _ _ | exact Nat.zero_le _ | exact Nat.le_add_left _ _ | exact Nat.le_of_eq (Nat.add_sub_cancel).symm | decide) (kJ (bc' := Bc) (bs' := Bs) (by first | exact Nat.le_refl _ | exact Nat.le_add_right _ _ | exact Nat.zero_le _ | exact Nat.le_add_left _ _ | exact Nat.le_of_eq (Nat.add_sub_cancel).symm | decide) (by first | exact Nat.le_refl _ | exact Nat.le_add_right _ _ | exact Nat.zero_le _ | exact Nat.le_add_left _ _ | exact Nat.le_of_eq (Nat.add_sub_cancel).symm | decide) (fun x231 M227 h_2 => ?_))
  refine fw_lcmp (show decode _ _ = .ok (.lcmp, 1) by decide +kernel) ?_
  refine fw_if_eq 1833 (show decode _ _ = .ok (.ifCond .eq 363, 3) by decide +kernel) (by decide) (fun hc232 => ?_) (fun hc232 => ?_)
  · have h_3 := ipos hc232 h_2
    refine FW.sub [0, 1, 2, 3] (ls' := [(0, .ref p0), (1, .ref p1), (2, .ref p2), (3, .int p3)]) rfl ?_
    exact sj_L_law_1833 hd hK18 h_3
  · have h_4 := ineg hc232 h_2
    refine fw_iconst (v := (0 : Int32)) (show decode _ _ = .ok (.iconst 0, 1) by decide +kernel) (by decide) ?_
    exact fw_ret (v := some (.int (0 : Int32))) .ireturn (show decode _ _ = .ok (.ireturn, 1) by decide +kernel) ⟨rfl, Or.inr (Or.inl ⟨rfl, rfl⟩)⟩ ⟨_, rfl, h_4⟩
def j_L_law_1434 (K18 : Nat → Nat → Nat → Int32 → fM → Prop) (φ : Int32 → fM → Prop) (p0 : Nat) (p1 : Nat) (p2 : Nat) (p3 : Int32) (s0 : Int32) (s1 : Int32) (s2 : Int32) (s3 : Int32) (s4 : Nat) (M : fM) : Prop := isO M s4 10 ∧ w_X10_sure s4 s3 s2 s1 s0 M fun x237 M233 => inA M233 p0 12 (p3 + (1 : Int32)) ∧ inA M233 p0 12 (p3 + (2 : Int32)) ∧ inA M233 p0 12 (p3 + (3 : Int32)) ∧ inA M233 p0 12 (p3 + (4 : Int32)) ∧ iF ((mI M233 p0 (ix (p3 + (4 : Int32)))) = 0) (j_L_law_1466 K18 φ p0 p1 p2 p3 (0 : Int32) (mI M233 p0 (ix (p3 + (3 : Int32)))) (mI M233 p0 (ix (p3 + (2 : Int32)))) (mI M233 p0 (ix (p3 + (1 : Int32)))) p2 x237 M233) (j_L_law_1466 K18 φ p0 p1 p2 p3 (1 : Int32) (mI M233 p0 (ix (p3 + (3 : Int32)))) (mI M233 p0 (ix (p3 + (2 : Int32)))) (mI M233 p0 (ix (p3 + (1 : Int32)))) p2 x237 M233)
set_option maxRecDepth 100000 in
theorem sj_L_law_1434 {g : GT} {d Bc Bs : Nat} (hd : 80 ≤ d + 1) {K18 : Nat → Nat → Nat → Int32 → fM → Prop} {φ : Int32 → fM → Prop} (hK18 : ∀ (p0 : Nat) (p1 : Nat) (p2 : Nat) (p3 : Int32) (M : fM), K18 p0 p1 p2 p3 M → FW g mtL_law (d + 1) 18 [(0, .ref p0), (1, .ref p1), (2, .ref p2), (3, .int p3)] [] M Bc Bs (rI φ)) {p0 : Nat} {p1 : Nat} {p2 : Nat} {p3 : Int32} {s0 : Int32} {s1 : Int32} {s2 : Int32} {s3 : Int32} {s4 : Nat} {M : fM} (h : j_L_law_1434 K18 φ p0 p1 p2 p3 s0 s1 s2 s3 s4 M) : FW g mtL_law (d + 1) 1434 [(0, .ref p0), (1, .ref p1), (2, .ref p2), (3, .int p3)] [.int s0, .int s1, .int s2, .int s3, .ref s4] M Bc Bs (rI φ) := by
  unfold j_L_law_1434 at h
  obtain ⟨⟨hr235, n234, hs236⟩, h_1⟩ := h
  refine fw_callV (mt' := mtX10_sure) (mc := 0) (ms := 0) (As := [.int s3, .int s2, .int s1, .int s0]) (rest := []) 4 10 n234 (show decode _ _ = .ok (.invokevirtual 150, 3) by decide +kernel) cv_L_150 ⟨_, rfl, rfl⟩ hr235 hs236 rfl (Nat.le_of_ble_eq_true rfl) (s_X10_sure (d := d) (hd_le hd (by decide)) h_1) (by first | exact Nat.le_refl _ | exact Nat.le_add_right _ _ | exact Nat.zero_le _ | exact Nat.le_add_left _ _ | exact Nat.le_of_eq (Nat.add_sub_cancel).symm | decide) (by first | exact Nat.le_refl _ | exact Nat.le_add_right _ _ | exact Nat.zero_le _ | exact Nat.le_add_left _ _ | exact Nat.le_of_eq (Nat.add_sub_cancel).symm | decide) (kJ (bc' := Bc) (bs' := Bs) (by first | exact Nat.le_refl _ | exact Nat.le_add_right _ _ | exact Nat.zero_le _ | exact Nat.le_add_left _ _ | exact Nat.le_of_eq (Nat.add_sub_cancel).symm | decide) (by first | exact Nat.le_refl _ | exact Nat.le_add_right _ _ | exact Nat.zero_le _ | exact Nat.le_add_left _ _ | exact Nat.le_of_eq (Nat.add_sub_cancel).symm | decide) (fun x237 M233 h_2 => ?_))
  refine fw_aload_n (i := 2) 2 rfl (show decode _ _ = .ok (.aload_n 2, 1) by decide +kernel) ?_
  refine fw_aload_n (i := 0) 0 rfl (show decode _ _ = .ok (.aload_n 0, 1) by decide +kernel) ?_
  refine fw_iload_n (i := 3) 3 rfl (show decode _ _ = .ok (.iload_n 3, 1) by decide +kernel) ?_
  refine fw_iconst (v := (1 : Int32)) (show decode _ _ = .ok (.iconst 1, 1) by decide +kernel) (by decide) ?_
  refine fw_iadd (show decode _ _ = .ok (.iadd, 1) by decide +kernel) ?_
  obtain ⟨⟨n238, hs239, hi240⟩, h_3⟩ := h_2
  refine fw_iald (show decode _ _ = .ok (.iaload, 1) by decide +kernel) hs239 hi240 ?_
  refine fw_aload_n (i := 0) 0 rfl (show decode _ _ = .ok (.aload_n 0, 1) by decide +kernel) ?_
  refine fw_iload_n (i := 3) 3 rfl (show decode _ _ = .ok (.iload_n 3, 1) by decide +kernel) ?_
  refine fw_iconst (v := (2 : Int32)) (show decode _ _ = .ok (.iconst 2, 1) by decide +kernel) (by decide) ?_
  refine fw_iadd (show decode _ _ = .ok (.iadd, 1) by decide +kernel) ?_
  obtain ⟨⟨n241, hs242, hi243⟩, h_4⟩ := h_3
  refine fw_iald (show decode _ _ = .ok (.iaload, 1) by decide +kernel) hs242 hi243 ?_
  refine fw_aload_n (i := 0) 0 rfl (show decode _ _ = .ok (.aload_n 0, 1) by decide +kernel) ?_
  refine fw_iload_n (i := 3) 3 rfl (show decode _ _ = .ok (.iload_n 3, 1) by decide +kernel) ?_
  refine fw_iconst (v := (3 : Int32)) (show decode _ _ = .ok (.iconst 3, 1) by decide +kernel) (by decide) ?_
  refine fw_iadd (show decode _ _ = .ok (.iadd, 1) by decide +kernel) ?_
  obtain ⟨⟨n244, hs245, hi246⟩, h_5⟩ := h_4
  refine fw_iald (show decode _ _ = .ok (.iaload, 1) by decide +kernel) hs245 hi246 ?_
  refine fw_aload_n (i := 0) 0 rfl (show decode _ _ = .ok (.aload_n 0, 1) by decide +kernel) ?_
  refine fw_iload_n (i := 3) 3 rfl (show decode _ _ = .ok (.iload_n 3, 1) by decide +kernel) ?_
  refine fw_iconst (v := (4 : Int32)) (show decode _ _ = .ok (.iconst 4, 1) by decide +kernel) (by decide) ?_
  refine fw_iadd (show decode _ _ = .ok (.iadd, 1) by decide +kernel) ?_
  obtain ⟨⟨n247, hs248, hi249⟩, h_6⟩ := h_5
  refine fw_iald (show decode _ _ = .ok (.iaload, 1) by decide +kernel) hs248 hi249 ?_
  refine fw_if_eq 1465 (show decode _ _ = .ok (.ifCond .eq 7, 3) by decide +kernel) (by decide) (fun hc250 => ?_) (fun hc250 => ?_)
  · have h_7 := ipos hc250 h_6
    refine fw_iconst (v := (0 : Int32)) (show decode _ _ = .ok (.iconst 0, 1) by decide +kernel) (by decide) ?_
    refine FW.sub [0, 1, 2, 3] (ls' := [(0, .ref p0), (1, .ref p1), (2, .ref p2), (3, .int p3)]) rfl ?_
    exact sj_L_law_1466 hd hK18 h_7
  · have h_8 := ineg hc250 h_6
    refine fw_iconst (v := (1 : Int32)) (show decode _ _ = .ok (.iconst 1, 1) by decide +kernel) (by decide) ?_
    refine fw_goto 1466 (show decode _ _ = .ok (.goto 4, 3) by decide +kernel) (by decide) ?_
    refine FW.sub [0, 1, 2, 3] (ls' := [(0, .ref p0), (1, .ref p1), (2, .ref p2), (3, .int p3)]) rfl ?_
    exact sj_L_law_1466 hd hK18 h_8
def j_L_law_1405 (K18 : Nat → Nat → Nat → Int32 → fM → Prop) (φ : Int32 → fM → Prop) (p0 : Nat) (p1 : Nat) (p2 : Nat) (p3 : Int32) (M : fM) : Prop := inA M p0 12 (p3 + (1 : Int32)) ∧ inA M p0 12 (p3 + (2 : Int32)) ∧ inA M p0 12 (p3 + (3 : Int32)) ∧ inA M p0 12 (p3 + (4 : Int32)) ∧ iF ((mI M p0 (ix (p3 + (4 : Int32)))) = 0) (j_L_law_1434 K18 φ p0 p1 p2 p3 (0 : Int32) (mI M p0 (ix (p3 + (3 : Int32)))) (mI M p0 (ix (p3 + (2 : Int32)))) (mI M p0 (ix (p3 + (1 : Int32)))) p1 M) (j_L_law_1434 K18 φ p0 p1 p2 p3 (1 : Int32) (mI M p0 (ix (p3 + (3 : Int32)))) (mI M p0 (ix (p3 + (2 : Int32)))) (mI M p0 (ix (p3 + (1 : Int32)))) p1 M)
set_option maxRecDepth 100000 in
theorem sj_L_law_1405 {g : GT} {d Bc Bs : Nat} (hd : 80 ≤ d + 1) {K18 : Nat → Nat → Nat → Int32 → fM → Prop} {φ : Int32 → fM → Prop} (hK18 : ∀ (p0 : Nat) (p1 : Nat) (p2 : Nat) (p3 : Int32) (M : fM), K18 p0 p1 p2 p3 M → FW g mtL_law (d + 1) 18 [(0, .ref p0), (1, .ref p1), (2, .ref p2), (3, .int p3)] [] M Bc Bs (rI φ)) {p0 : Nat} {p1 : Nat} {p2 : Nat} {p3 : Int32} {M : fM} (h : j_L_law_1405 K18 φ p0 p1 p2 p3 M) : FW g mtL_law (d + 1) 1405 [(0, .ref p0), (1, .ref p1), (2, .ref p2), (3, .int p3)] [] M (Bc + 11) (Bs + 3005) (rI φ) := by
  unfold j_L_law_1405 at h
  refine fw_aload_n (i := 1) 1 rfl (show decode _ _ = .ok (.aload_n 1, 1) by decide +kernel) ?_
  refine fw_aload_n (i := 0) 0 rfl (show decode _ _ = .ok (.aload_n 0, 1) by decide +kernel) ?_
  refine fw_iload_n (i := 3) 3 rfl (show decode _ _ = .ok (.iload_n 3, 1) by decide +kernel) ?_
  refine fw_iconst (v := (1 : Int32)) (show decode _ _ = .ok (.iconst 1, 1) by decide +kernel) (by decide) ?_
  refine fw_iadd (show decode _ _ = .ok (.iadd, 1) by decide +kernel) ?_
  obtain ⟨⟨n251, hs252, hi253⟩, h_1⟩ := h
  refine fw_iald (show decode _ _ = .ok (.iaload, 1) by decide +kernel) hs252 hi253 ?_
  refine fw_aload_n (i := 0) 0 rfl (show decode _ _ = .ok (.aload_n 0, 1) by decide +kernel) ?_
  refine fw_iload_n (i := 3) 3 rfl (show decode _ _ = .ok (.iload_n 3, 1) by decide +kernel) ?_
  refine fw_iconst (v := (2 : Int32)) (show decode _ _ = .ok (.iconst 2, 1) by decide +kernel) (by decide) ?_
  refine fw_iadd (show decode _ _ = .ok (.iadd, 1) by decide +kernel) ?_
  obtain ⟨⟨n254, hs255, hi256⟩, h_2⟩ := h_1
  refine fw_iald (show decode _ _ = .ok (.iaload, 1) by decide +kernel) hs255 hi256 ?_
  refine fw_aload_n (i := 0) 0 rfl (show decode _ _ = .ok (.aload_n 0, 1) by decide +kernel) ?_
  refine fw_iload_n (i := 3) 3 rfl (show decode _ _ = .ok (.iload_n 3, 1) by decide +kernel) ?_
  refine fw_iconst (v := (3 : Int32)) (show decode _ _ = .ok (.iconst 3, 1) by decide +kernel) (by decide) ?_
  refine fw_iadd (show decode _ _ = .ok (.iadd, 1) by decide +kernel) ?_
  obtain ⟨⟨n257, hs258, hi259⟩, h_3⟩ := h_2
  refine fw_iald (show decode _ _ = .ok (.iaload, 1) by decide +kernel) hs258 hi259 ?_
  refine fw_aload_n (i := 0) 0 rfl (show decode _ _ = .ok (.aload_n 0, 1) by decide +kernel) ?_
  refine fw_iload_n (i := 3) 3 rfl (show decode _ _ = .ok (.iload_n 3, 1) by decide +kernel) ?_
  refine fw_iconst (v := (4 : Int32)) (show decode _ _ = .ok (.iconst 4, 1) by decide +kernel) (by decide) ?_
  refine fw_iadd (show decode _ _ = .ok (.iadd, 1) by decide +kernel) ?_
  obtain ⟨⟨n260, hs261, hi262⟩, h_4⟩ := h_3
  refine fw_iald (show decode _ _ = .ok (.iaload, 1) by decide +kernel) hs261 hi262 ?_
  refine fw_if_eq 1433 (show decode _ _ = .ok (.ifCond .eq 7, 3) by decide +kernel) (by decide) (fun hc263 => ?_) (fun hc263 => ?_)
  · have h_5 := ipos hc263 h_4
    refine fw_iconst (v := (0 : Int32)) (show decode _ _ = .ok (.iconst 0, 1) by decide +kernel) (by decide) ?_
    refine FW.sub [0, 1, 2, 3] (ls' := [(0, .ref p0), (1, .ref p1), (2, .ref p2), (3, .int p3)]) rfl ?_
    refine FW.room (bc' := Bc) (bs' := Bs) (by first | exact Nat.le_refl _ | exact Nat.le_add_right _ _ | exact Nat.zero_le _ | exact Nat.le_add_left _ _ | exact Nat.le_of_eq (Nat.add_sub_cancel).symm | decide) (by first | exact Nat.le_refl _ | exact Nat.le_add_right _ _ | exact Nat.zero_le _ | exact Nat.le_add_left _ _ | exact Nat.le_of_eq (Nat.add_sub_cancel).symm | decide) ?_
    exact sj_L_law_1434 hd hK18 h_5
  · have h_6 := ineg hc263 h_4
    refine fw_iconst (v := (1 : Int32)) (show decode _ _ = .ok (.iconst 1, 1) by decide +kernel) (by decide) ?_
    refine fw_goto 1434 (show decode _ _ = .ok (.goto 4, 3) by decide +kernel) (by decide) ?_
    refine FW.sub [0, 1, 2, 3] (ls' := [(0, .ref p0), (1, .ref p1), (2, .ref p2), (3, .int p3)]) rfl ?_
    refine FW.room (bc' := Bc) (bs' := Bs) (by first | exact Nat.le_refl _ | exact Nat.le_add_right _ _ | exact Nat.zero_le _ | exact Nat.le_add_left _ _ | exact Nat.le_of_eq (Nat.add_sub_cancel).symm | decide) (by first | exact Nat.le_refl _ | exact Nat.le_add_right _ _ | exact Nat.zero_le _ | exact Nat.le_add_left _ _ | exact Nat.le_of_eq (Nat.add_sub_cancel).symm | decide) ?_
    exact sj_L_law_1434 hd hK18 h_6
def j_L_law_1396 (K18 : Nat → Nat → Nat → Int32 → fM → Prop) (φ : Int32 → fM → Prop) (p0 : Nat) (p1 : Nat) (p2 : Nat) (p3 : Int32) (s0 : Int32) (s1 : Int32) (s2 : Int32) (s3 : Int32) (s4 : Nat) (s5 : Int64) (M : fM) : Prop := isO M s4 11 ∧ w_X11_whether s4 s3 s2 s1 s0 M fun x268 M264 => iF ((lg_cmp s5 x268) = 0) (j_L_law_1833 K18 φ p0 p1 p2 p3 M264) (φ (0 : Int32) M264)
set_option maxRecDepth 100000 in
theorem sj_L_law_1396 {g : GT} {d Bc Bs : Nat} (hd : 80 ≤ d + 1) {K18 : Nat → Nat → Nat → Int32 → fM → Prop} {φ : Int32 → fM → Prop} (hK18 : ∀ (p0 : Nat) (p1 : Nat) (p2 : Nat) (p3 : Int32) (M : fM), K18 p0 p1 p2 p3 M → FW g mtL_law (d + 1) 18 [(0, .ref p0), (1, .ref p1), (2, .ref p2), (3, .int p3)] [] M Bc Bs (rI φ)) {p0 : Nat} {p1 : Nat} {p2 : Nat} {p3 : Int32} {s0 : Int32} {s1 : Int32} {s2 : Int32} {s3 : Int32} {s4 : Nat} {s5 : Int64} {M : fM} (h : j_L_law_1396 K18 φ p0 p1 p2 p3 s0 s1 s2 s3 s4 s5 M) : FW g mtL_law (d + 1) 1396 [(0, .ref p0), (1, .ref p1), (2, .ref p2), (3, .int p3)] [.int s0, .int s1, .int s2, .int s3, .ref s4, .long s5] M Bc Bs (rI φ) := by
  unfold j_L_law_1396 at h
  obtain ⟨⟨hr266, n265, hs267⟩, h_1⟩ := h
  refine fw_callV (mt' := mtX11_whether) (mc := 0) (ms := 0) (As := [.int s3, .int s2, .int s1, .int s0]) (rest := [.long s5]) 4 11 n265 (show decode _ _ = .ok (.invokevirtual 149, 3) by decide +kernel) cv_L_149 ⟨_, rfl, rfl⟩ hr266 hs267 rfl (Nat.le_of_ble_eq_true rfl) (s_X11_whether (d := d) (hd_le hd (by decide)) h_1) (by first | exact Nat.le_refl _ | exact Nat.le_add_right _ _ | exact Nat.zero_le _ | exact Nat.le_add_left _ _ | exact Nat.le_of_eq (Nat.add_sub_cancel).symm | decide) (by first | exact Nat.le_refl _ | exact Nat.le_add_right _ _ | exact Nat.zero_le _ | exact Nat.le_add_left _ _ | exact Nat.le_of_eq (Nat.add_sub_cancel).symm | decide) (kJ (bc' := Bc) (bs' := Bs) (by first | exact Nat.le_refl _ | exact Nat.le_add_right _ _ | exact Nat.zero_le _ | exact Nat.le_add_left _ _ | exact Nat.le_of_eq (Nat.add_sub_cancel).symm | decide) (by first | exact Nat.le_refl _ | exact Nat.le_add_right _ _ | exact Nat.zero_le _ | exact Nat.le_add_left _ _ | exact Nat.le_of_eq (Nat.add_sub_cancel).symm | decide) (fun x268 M264 h_2 => ?_))
  refine fw_lcmp (show decode _ _ = .ok (.lcmp, 1) by decide +kernel) ?_
  refine fw_if_eq 1833 (show decode _ _ = .ok (.ifCond .eq 433, 3) by decide +kernel) (by decide) (fun hc269 => ?_) (fun hc269 => ?_)
  · have h_3 := ipos hc269 h_2
    refine FW.sub [0, 1, 2, 3] (ls' := [(0, .ref p0), (1, .ref p1), (2, .ref p2), (3, .int p3)]) rfl ?_
    exact sj_L_law_1833 hd hK18 h_3
  · have h_4 := ineg hc269 h_2
    refine fw_iconst (v := (0 : Int32)) (show decode _ _ = .ok (.iconst 0, 1) by decide +kernel) (by decide) ?_
    exact fw_ret (v := some (.int (0 : Int32))) .ireturn (show decode _ _ = .ok (.ireturn, 1) by decide +kernel) ⟨rfl, Or.inr (Or.inl ⟨rfl, rfl⟩)⟩ ⟨_, rfl, h_4⟩
def j_L_law_1364 (K18 : Nat → Nat → Nat → Int32 → fM → Prop) (φ : Int32 → fM → Prop) (p0 : Nat) (p1 : Nat) (p2 : Nat) (p3 : Int32) (s0 : Int32) (s1 : Int32) (s2 : Int32) (s3 : Int32) (s4 : Nat) (M : fM) : Prop := isO M s4 10 ∧ w_X10_whether s4 s3 s2 s1 s0 M fun x274 M270 => inA M270 p0 12 (p3 + (1 : Int32)) ∧ inA M270 p0 12 (p3 + (2 : Int32)) ∧ inA M270 p0 12 (p3 + (3 : Int32)) ∧ inA M270 p0 12 (p3 + (4 : Int32)) ∧ iF ((mI M270 p0 (ix (p3 + (4 : Int32)))) = 0) (j_L_law_1396 K18 φ p0 p1 p2 p3 (0 : Int32) (mI M270 p0 (ix (p3 + (3 : Int32)))) (mI M270 p0 (ix (p3 + (2 : Int32)))) (mI M270 p0 (ix (p3 + (1 : Int32)))) p2 x274 M270) (j_L_law_1396 K18 φ p0 p1 p2 p3 (1 : Int32) (mI M270 p0 (ix (p3 + (3 : Int32)))) (mI M270 p0 (ix (p3 + (2 : Int32)))) (mI M270 p0 (ix (p3 + (1 : Int32)))) p2 x274 M270)
set_option maxRecDepth 100000 in
theorem sj_L_law_1364 {g : GT} {d Bc Bs : Nat} (hd : 80 ≤ d + 1) {K18 : Nat → Nat → Nat → Int32 → fM → Prop} {φ : Int32 → fM → Prop} (hK18 : ∀ (p0 : Nat) (p1 : Nat) (p2 : Nat) (p3 : Int32) (M : fM), K18 p0 p1 p2 p3 M → FW g mtL_law (d + 1) 18 [(0, .ref p0), (1, .ref p1), (2, .ref p2), (3, .int p3)] [] M Bc Bs (rI φ)) {p0 : Nat} {p1 : Nat} {p2 : Nat} {p3 : Int32} {s0 : Int32} {s1 : Int32} {s2 : Int32} {s3 : Int32} {s4 : Nat} {M : fM} (h : j_L_law_1364 K18 φ p0 p1 p2 p3 s0 s1 s2 s3 s4 M) : FW g mtL_law (d + 1) 1364 [(0, .ref p0), (1, .ref p1), (2, .ref p2), (3, .int p3)] [.int s0, .int s1, .int s2, .int s3, .ref s4] M Bc Bs (rI φ) := by
  unfold j_L_law_1364 at h
  obtain ⟨⟨hr272, n271, hs273⟩, h_1⟩ := h
  refine fw_callV (mt' := mtX10_whether) (mc := 0) (ms := 0) (As := [.int s3, .int s2, .int s1, .int s0]) (rest := []) 4 10 n271 (show decode _ _ = .ok (.invokevirtual 146, 3) by decide +kernel) cv_L_146 ⟨_, rfl, rfl⟩ hr272 hs273 rfl (Nat.le_of_ble_eq_true rfl) (s_X10_whether (d := d) (hd_le hd (by decide)) h_1) (by first | exact Nat.le_refl _ | exact Nat.le_add_right _ _ | exact Nat.zero_le _ | exact Nat.le_add_left _ _ | exact Nat.le_of_eq (Nat.add_sub_cancel).symm | decide) (by first | exact Nat.le_refl _ | exact Nat.le_add_right _ _ | exact Nat.zero_le _ | exact Nat.le_add_left _ _ | exact Nat.le_of_eq (Nat.add_sub_cancel).symm | decide) (kJ (bc' := Bc) (bs' := Bs) (by first | exact Nat.le_refl _ | exact Nat.le_add_right _ _ | exact Nat.zero_le _ | exact Nat.le_add_left _ _ | exact Nat.le_of_eq (Nat.add_sub_cancel).symm | decide) (by first | exact Nat.le_refl _ | exact Nat.le_add_right _ _ | exact Nat.zero_le _ | exact Nat.le_add_left _ _ | exact Nat.le_of_eq (Nat.add_sub_cancel).symm | decide) (fun x274 M270 h_2 => ?_))
  refine fw_aload_n (i := 2) 2 rfl (show decode _ _ = .ok (.aload_n 2, 1) by decide +kernel) ?_
  refine fw_aload_n (i := 0) 0 rfl (show decode _ _ = .ok (.aload_n 0, 1) by decide +kernel) ?_
  refine fw_iload_n (i := 3) 3 rfl (show decode _ _ = .ok (.iload_n 3, 1) by decide +kernel) ?_
  refine fw_iconst (v := (1 : Int32)) (show decode _ _ = .ok (.iconst 1, 1) by decide +kernel) (by decide) ?_
  refine fw_iadd (show decode _ _ = .ok (.iadd, 1) by decide +kernel) ?_
  obtain ⟨⟨n275, hs276, hi277⟩, h_3⟩ := h_2
  refine fw_iald (show decode _ _ = .ok (.iaload, 1) by decide +kernel) hs276 hi277 ?_
  refine fw_aload_n (i := 0) 0 rfl (show decode _ _ = .ok (.aload_n 0, 1) by decide +kernel) ?_
  refine fw_iload_n (i := 3) 3 rfl (show decode _ _ = .ok (.iload_n 3, 1) by decide +kernel) ?_
  refine fw_iconst (v := (2 : Int32)) (show decode _ _ = .ok (.iconst 2, 1) by decide +kernel) (by decide) ?_
  refine fw_iadd (show decode _ _ = .ok (.iadd, 1) by decide +kernel) ?_
  obtain ⟨⟨n278, hs279, hi280⟩, h_4⟩ := h_3
  refine fw_iald (show decode _ _ = .ok (.iaload, 1) by decide +kernel) hs279 hi280 ?_
  refine fw_aload_n (i := 0) 0 rfl (show decode _ _ = .ok (.aload_n 0, 1) by decide +kernel) ?_
  refine fw_iload_n (i := 3) 3 rfl (show decode _ _ = .ok (.iload_n 3, 1) by decide +kernel) ?_
  refine fw_iconst (v := (3 : Int32)) (show decode _ _ = .ok (.iconst 3, 1) by decide +kernel) (by decide) ?_
  refine fw_iadd (show decode _ _ = .ok (.iadd, 1) by decide +kernel) ?_
  obtain ⟨⟨n281, hs282, hi283⟩, h_5⟩ := h_4
  refine fw_iald (show decode _ _ = .ok (.iaload, 1) by decide +kernel) hs282 hi283 ?_
  refine fw_aload_n (i := 0) 0 rfl (show decode _ _ = .ok (.aload_n 0, 1) by decide +kernel) ?_
  refine fw_iload_n (i := 3) 3 rfl (show decode _ _ = .ok (.iload_n 3, 1) by decide +kernel) ?_
  refine fw_iconst (v := (4 : Int32)) (show decode _ _ = .ok (.iconst 4, 1) by decide +kernel) (by decide) ?_
  refine fw_iadd (show decode _ _ = .ok (.iadd, 1) by decide +kernel) ?_
  obtain ⟨⟨n284, hs285, hi286⟩, h_6⟩ := h_5
  refine fw_iald (show decode _ _ = .ok (.iaload, 1) by decide +kernel) hs285 hi286 ?_
  refine fw_if_eq 1395 (show decode _ _ = .ok (.ifCond .eq 7, 3) by decide +kernel) (by decide) (fun hc287 => ?_) (fun hc287 => ?_)
  · have h_7 := ipos hc287 h_6
    refine fw_iconst (v := (0 : Int32)) (show decode _ _ = .ok (.iconst 0, 1) by decide +kernel) (by decide) ?_
    refine FW.sub [0, 1, 2, 3] (ls' := [(0, .ref p0), (1, .ref p1), (2, .ref p2), (3, .int p3)]) rfl ?_
    exact sj_L_law_1396 hd hK18 h_7
  · have h_8 := ineg hc287 h_6
    refine fw_iconst (v := (1 : Int32)) (show decode _ _ = .ok (.iconst 1, 1) by decide +kernel) (by decide) ?_
    refine fw_goto 1396 (show decode _ _ = .ok (.goto 4, 3) by decide +kernel) (by decide) ?_
    refine FW.sub [0, 1, 2, 3] (ls' := [(0, .ref p0), (1, .ref p1), (2, .ref p2), (3, .int p3)]) rfl ?_
    exact sj_L_law_1396 hd hK18 h_8
def j_L_law_1335 (K18 : Nat → Nat → Nat → Int32 → fM → Prop) (φ : Int32 → fM → Prop) (p0 : Nat) (p1 : Nat) (p2 : Nat) (p3 : Int32) (M : fM) : Prop := inA M p0 12 (p3 + (1 : Int32)) ∧ inA M p0 12 (p3 + (2 : Int32)) ∧ inA M p0 12 (p3 + (3 : Int32)) ∧ inA M p0 12 (p3 + (4 : Int32)) ∧ iF ((mI M p0 (ix (p3 + (4 : Int32)))) = 0) (j_L_law_1364 K18 φ p0 p1 p2 p3 (0 : Int32) (mI M p0 (ix (p3 + (3 : Int32)))) (mI M p0 (ix (p3 + (2 : Int32)))) (mI M p0 (ix (p3 + (1 : Int32)))) p1 M) (j_L_law_1364 K18 φ p0 p1 p2 p3 (1 : Int32) (mI M p0 (ix (p3 + (3 : Int32)))) (mI M p0 (ix (p3 + (2 : Int32)))) (mI M p0 (ix (p3 + (1 : Int32)))) p1 M)
set_option maxRecDepth 100000 in
theorem sj_L_law_1335 {g : GT} {d Bc Bs : Nat} (hd : 80 ≤ d + 1) {K18 : Nat → Nat → Nat → Int32 → fM → Prop} {φ : Int32 → fM → Prop} (hK18 : ∀ (p0 : Nat) (p1 : Nat) (p2 : Nat) (p3 : Int32) (M : fM), K18 p0 p1 p2 p3 M → FW g mtL_law (d + 1) 18 [(0, .ref p0), (1, .ref p1), (2, .ref p2), (3, .int p3)] [] M Bc Bs (rI φ)) {p0 : Nat} {p1 : Nat} {p2 : Nat} {p3 : Int32} {M : fM} (h : j_L_law_1335 K18 φ p0 p1 p2 p3 M) : FW g mtL_law (d + 1) 1335 [(0, .ref p0), (1, .ref p1), (2, .ref p2), (3, .int p3)] [] M (Bc + 11) (Bs + 3005) (rI φ) := by
  unfold j_L_law_1335 at h
  refine fw_aload_n (i := 1) 1 rfl (show decode _ _ = .ok (.aload_n 1, 1) by decide +kernel) ?_
  refine fw_aload_n (i := 0) 0 rfl (show decode _ _ = .ok (.aload_n 0, 1) by decide +kernel) ?_
  refine fw_iload_n (i := 3) 3 rfl (show decode _ _ = .ok (.iload_n 3, 1) by decide +kernel) ?_
  refine fw_iconst (v := (1 : Int32)) (show decode _ _ = .ok (.iconst 1, 1) by decide +kernel) (by decide) ?_
  refine fw_iadd (show decode _ _ = .ok (.iadd, 1) by decide +kernel) ?_
  obtain ⟨⟨n288, hs289, hi290⟩, h_1⟩ := h
  refine fw_iald (show decode _ _ = .ok (.iaload, 1) by decide +kernel) hs289 hi290 ?_
  refine fw_aload_n (i := 0) 0 rfl (show decode _ _ = .ok (.aload_n 0, 1) by decide +kernel) ?_
  refine fw_iload_n (i := 3) 3 rfl (show decode _ _ = .ok (.iload_n 3, 1) by decide +kernel) ?_
  refine fw_iconst (v := (2 : Int32)) (show decode _ _ = .ok (.iconst 2, 1) by decide +kernel) (by decide) ?_
  refine fw_iadd (show decode _ _ = .ok (.iadd, 1) by decide +kernel) ?_
  obtain ⟨⟨n291, hs292, hi293⟩, h_2⟩ := h_1
  refine fw_iald (show decode _ _ = .ok (.iaload, 1) by decide +kernel) hs292 hi293 ?_
  refine fw_aload_n (i := 0) 0 rfl (show decode _ _ = .ok (.aload_n 0, 1) by decide +kernel) ?_
  refine fw_iload_n (i := 3) 3 rfl (show decode _ _ = .ok (.iload_n 3, 1) by decide +kernel) ?_
  refine fw_iconst (v := (3 : Int32)) (show decode _ _ = .ok (.iconst 3, 1) by decide +kernel) (by decide) ?_
  refine fw_iadd (show decode _ _ = .ok (.iadd, 1) by decide +kernel) ?_
  obtain ⟨⟨n294, hs295, hi296⟩, h_3⟩ := h_2
  refine fw_iald (show decode _ _ = .ok (.iaload, 1) by decide +kernel) hs295 hi296 ?_
  refine fw_aload_n (i := 0) 0 rfl (show decode _ _ = .ok (.aload_n 0, 1) by decide +kernel) ?_
  refine fw_iload_n (i := 3) 3 rfl (show decode _ _ = .ok (.iload_n 3, 1) by decide +kernel) ?_
  refine fw_iconst (v := (4 : Int32)) (show decode _ _ = .ok (.iconst 4, 1) by decide +kernel) (by decide) ?_
  refine fw_iadd (show decode _ _ = .ok (.iadd, 1) by decide +kernel) ?_
  obtain ⟨⟨n297, hs298, hi299⟩, h_4⟩ := h_3
  refine fw_iald (show decode _ _ = .ok (.iaload, 1) by decide +kernel) hs298 hi299 ?_
  refine fw_if_eq 1363 (show decode _ _ = .ok (.ifCond .eq 7, 3) by decide +kernel) (by decide) (fun hc300 => ?_) (fun hc300 => ?_)
  · have h_5 := ipos hc300 h_4
    refine fw_iconst (v := (0 : Int32)) (show decode _ _ = .ok (.iconst 0, 1) by decide +kernel) (by decide) ?_
    refine FW.sub [0, 1, 2, 3] (ls' := [(0, .ref p0), (1, .ref p1), (2, .ref p2), (3, .int p3)]) rfl ?_
    refine FW.room (bc' := Bc) (bs' := Bs) (by first | exact Nat.le_refl _ | exact Nat.le_add_right _ _ | exact Nat.zero_le _ | exact Nat.le_add_left _ _ | exact Nat.le_of_eq (Nat.add_sub_cancel).symm | decide) (by first | exact Nat.le_refl _ | exact Nat.le_add_right _ _ | exact Nat.zero_le _ | exact Nat.le_add_left _ _ | exact Nat.le_of_eq (Nat.add_sub_cancel).symm | decide) ?_
    exact sj_L_law_1364 hd hK18 h_5
  · have h_6 := ineg hc300 h_4
    refine fw_iconst (v := (1 : Int32)) (show decode _ _ = .ok (.iconst 1, 1) by decide +kernel) (by decide) ?_
    refine fw_goto 1364 (show decode _ _ = .ok (.goto 4, 3) by decide +kernel) (by decide) ?_
    refine FW.sub [0, 1, 2, 3] (ls' := [(0, .ref p0), (1, .ref p1), (2, .ref p2), (3, .int p3)]) rfl ?_
    refine FW.room (bc' := Bc) (bs' := Bs) (by first | exact Nat.le_refl _ | exact Nat.le_add_right _ _ | exact Nat.zero_le _ | exact Nat.le_add_left _ _ | exact Nat.le_of_eq (Nat.add_sub_cancel).symm | decide) (by first | exact Nat.le_refl _ | exact Nat.le_add_right _ _ | exact Nat.zero_le _ | exact Nat.le_add_left _ _ | exact Nat.le_of_eq (Nat.add_sub_cancel).symm | decide) ?_
    exact sj_L_law_1364 hd hK18 h_6
def j_L_law_1326 (K18 : Nat → Nat → Nat → Int32 → fM → Prop) (φ : Int32 → fM → Prop) (p0 : Nat) (p1 : Nat) (p2 : Nat) (p3 : Int32) (s0 : Int32) (s1 : Int32) (s2 : Int32) (s3 : Int32) (s4 : Nat) (s5 : Int64) (M : fM) : Prop := isO M s4 11 ∧ w_X11_which s4 s3 s2 s1 s0 M fun x305 M301 => iF ((lg_cmp s5 x305) = 0) (j_L_law_1833 K18 φ p0 p1 p2 p3 M301) (φ (0 : Int32) M301)
set_option maxRecDepth 100000 in
theorem sj_L_law_1326 {g : GT} {d Bc Bs : Nat} (hd : 80 ≤ d + 1) {K18 : Nat → Nat → Nat → Int32 → fM → Prop} {φ : Int32 → fM → Prop} (hK18 : ∀ (p0 : Nat) (p1 : Nat) (p2 : Nat) (p3 : Int32) (M : fM), K18 p0 p1 p2 p3 M → FW g mtL_law (d + 1) 18 [(0, .ref p0), (1, .ref p1), (2, .ref p2), (3, .int p3)] [] M Bc Bs (rI φ)) {p0 : Nat} {p1 : Nat} {p2 : Nat} {p3 : Int32} {s0 : Int32} {s1 : Int32} {s2 : Int32} {s3 : Int32} {s4 : Nat} {s5 : Int64} {M : fM} (h : j_L_law_1326 K18 φ p0 p1 p2 p3 s0 s1 s2 s3 s4 s5 M) : FW g mtL_law (d + 1) 1326 [(0, .ref p0), (1, .ref p1), (2, .ref p2), (3, .int p3)] [.int s0, .int s1, .int s2, .int s3, .ref s4, .long s5] M Bc Bs (rI φ) := by
  unfold j_L_law_1326 at h
  obtain ⟨⟨hr303, n302, hs304⟩, h_1⟩ := h
  refine fw_callV (mt' := mtX11_which) (mc := 0) (ms := 0) (As := [.int s3, .int s2, .int s1, .int s0]) (rest := [.long s5]) 4 11 n302 (show decode _ _ = .ok (.invokevirtual 145, 3) by decide +kernel) cv_L_145 ⟨_, rfl, rfl⟩ hr303 hs304 rfl (Nat.le_of_ble_eq_true rfl) (s_X11_which (d := d) (hd_le hd (by decide)) h_1) (by first | exact Nat.le_refl _ | exact Nat.le_add_right _ _ | exact Nat.zero_le _ | exact Nat.le_add_left _ _ | exact Nat.le_of_eq (Nat.add_sub_cancel).symm | decide) (by first | exact Nat.le_refl _ | exact Nat.le_add_right _ _ | exact Nat.zero_le _ | exact Nat.le_add_left _ _ | exact Nat.le_of_eq (Nat.add_sub_cancel).symm | decide) (kJ (bc' := Bc) (bs' := Bs) (by first | exact Nat.le_refl _ | exact Nat.le_add_right _ _ | exact Nat.zero_le _ | exact Nat.le_add_left _ _ | exact Nat.le_of_eq (Nat.add_sub_cancel).symm | decide) (by first | exact Nat.le_refl _ | exact Nat.le_add_right _ _ | exact Nat.zero_le _ | exact Nat.le_add_left _ _ | exact Nat.le_of_eq (Nat.add_sub_cancel).symm | decide) (fun x305 M301 h_2 => ?_))
  refine fw_lcmp (show decode _ _ = .ok (.lcmp, 1) by decide +kernel) ?_
  refine fw_if_eq 1833 (show decode _ _ = .ok (.ifCond .eq 503, 3) by decide +kernel) (by decide) (fun hc306 => ?_) (fun hc306 => ?_)
  · have h_3 := ipos hc306 h_2
    refine FW.sub [0, 1, 2, 3] (ls' := [(0, .ref p0), (1, .ref p1), (2, .ref p2), (3, .int p3)]) rfl ?_
    exact sj_L_law_1833 hd hK18 h_3
  · have h_4 := ineg hc306 h_2
    refine fw_iconst (v := (0 : Int32)) (show decode _ _ = .ok (.iconst 0, 1) by decide +kernel) (by decide) ?_
    exact fw_ret (v := some (.int (0 : Int32))) .ireturn (show decode _ _ = .ok (.ireturn, 1) by decide +kernel) ⟨rfl, Or.inr (Or.inl ⟨rfl, rfl⟩)⟩ ⟨_, rfl, h_4⟩
def j_L_law_1294 (K18 : Nat → Nat → Nat → Int32 → fM → Prop) (φ : Int32 → fM → Prop) (p0 : Nat) (p1 : Nat) (p2 : Nat) (p3 : Int32) (s0 : Int32) (s1 : Int32) (s2 : Int32) (s3 : Int32) (s4 : Nat) (M : fM) : Prop := isO M s4 10 ∧ w_X10_which s4 s3 s2 s1 s0 M fun x311 M307 => inA M307 p0 12 (p3 + (1 : Int32)) ∧ inA M307 p0 12 (p3 + (2 : Int32)) ∧ inA M307 p0 12 (p3 + (3 : Int32)) ∧ inA M307 p0 12 (p3 + (4 : Int32)) ∧ iF ((mI M307 p0 (ix (p3 + (4 : Int32)))) = 0) (j_L_law_1326 K18 φ p0 p1 p2 p3 (0 : Int32) (mI M307 p0 (ix (p3 + (3 : Int32)))) (mI M307 p0 (ix (p3 + (2 : Int32)))) (mI M307 p0 (ix (p3 + (1 : Int32)))) p2 x311 M307) (j_L_law_1326 K18 φ p0 p1 p2 p3 (1 : Int32) (mI M307 p0 (ix (p3 + (3 : Int32)))) (mI M307 p0 (ix (p3 + (2 : Int32)))) (mI M307 p0 (ix (p3 + (1 : Int32)))) p2 x311 M307)
set_option maxRecDepth 100000 in
theorem sj_L_law_1294 {g : GT} {d Bc Bs : Nat} (hd : 80 ≤ d + 1) {K18 : Nat → Nat → Nat → Int32 → fM → Prop} {φ : Int32 → fM → Prop} (hK18 : ∀ (p0 : Nat) (p1 : Nat) (p2 : Nat) (p3 : Int32) (M : fM), K18 p0 p1 p2 p3 M → FW g mtL_law (d + 1) 18 [(0, .ref p0), (1, .ref p1), (2, .ref p2), (3, .int p3)] [] M Bc Bs (rI φ)) {p0 : Nat} {p1 : Nat} {p2 : Nat} {p3 : Int32} {s0 : Int32} {s1 : Int32} {s2 : Int32} {s3 : Int32} {s4 : Nat} {M : fM} (h : j_L_law_1294 K18 φ p0 p1 p2 p3 s0 s1 s2 s3 s4 M) : FW g mtL_law (d + 1) 1294 [(0, .ref p0), (1, .ref p1), (2, .ref p2), (3, .int p3)] [.int s0, .int s1, .int s2, .int s3, .ref s4] M Bc Bs (rI φ) := by
  unfold j_L_law_1294 at h
  obtain ⟨⟨hr309, n308, hs310⟩, h_1⟩ := h
  refine fw_callV (mt' := mtX10_which) (mc := 0) (ms := 0) (As := [.int s3, .int s2, .int s1, .int s0]) (rest := []) 4 10 n308 (show decode _ _ = .ok (.invokevirtual 141, 3) by decide +kernel) cv_L_141 ⟨_, rfl, rfl⟩ hr309 hs310 rfl (Nat.le_of_ble_eq_true rfl) (s_X10_which (d := d) (hd_le hd (by decide)) h_1) (by first | exact Nat.le_refl _ | exact Nat.le_add_right _ _ | exact Nat.zero_le _ | exact Nat.le_add_left _ _ | exact Nat.le_of_eq (Nat.add_sub_cancel).symm | decide) (by first | exact Nat.le_refl _ | exact Nat.le_add_right _ _ | exact Nat.zero_le _ | exact Nat.le_add_left _ _ | exact Nat.le_of_eq (Nat.add_sub_cancel).symm | decide) (kJ (bc' := Bc) (bs' := Bs) (by first | exact Nat.le_refl _ | exact Nat.le_add_right _ _ | exact Nat.zero_le _ | exact Nat.le_add_left _ _ | exact Nat.le_of_eq (Nat.add_sub_cancel).symm | decide) (by first | exact Nat.le_refl _ | exact Nat.le_add_right _ _ | exact Nat.zero_le _ | exact Nat.le_add_left _ _ | exact Nat.le_of_eq (Nat.add_sub_cancel).symm | decide) (fun x311 M307 h_2 => ?_))
  refine fw_aload_n (i := 2) 2 rfl (show decode _ _ = .ok (.aload_n 2, 1) by decide +kernel) ?_
  refine fw_aload_n (i := 0) 0 rfl (show decode _ _ = .ok (.aload_n 0, 1) by decide +kernel) ?_
  refine fw_iload_n (i := 3) 3 rfl (show decode _ _ = .ok (.iload_n 3, 1) by decide +kernel) ?_
  refine fw_iconst (v := (1 : Int32)) (show decode _ _ = .ok (.iconst 1, 1) by decide +kernel) (by decide) ?_
  refine fw_iadd (show decode _ _ = .ok (.iadd, 1) by decide +kernel) ?_
  obtain ⟨⟨n312, hs313, hi314⟩, h_3⟩ := h_2
  refine fw_iald (show decode _ _ = .ok (.iaload, 1) by decide +kernel) hs313 hi314 ?_
  refine fw_aload_n (i := 0) 0 rfl (show decode _ _ = .ok (.aload_n 0, 1) by decide +kernel) ?_
  refine fw_iload_n (i := 3) 3 rfl (show decode _ _ = .ok (.iload_n 3, 1) by decide +kernel) ?_
  refine fw_iconst (v := (2 : Int32)) (show decode _ _ = .ok (.iconst 2, 1) by decide +kernel) (by decide) ?_
  refine fw_iadd (show decode _ _ = .ok (.iadd, 1) by decide +kernel) ?_
  obtain ⟨⟨n315, hs316, hi317⟩, h_4⟩ := h_3
  refine fw_iald (show decode _ _ = .ok (.iaload, 1) by decide +kernel) hs316 hi317 ?_
  refine fw_aload_n (i := 0) 0 rfl (show decode _ _ = .ok (.aload_n 0, 1) by decide +kernel) ?_
  refine fw_iload_n (i := 3) 3 rfl (show decode _ _ = .ok (.iload_n 3, 1) by decide +kernel) ?_
  refine fw_iconst (v := (3 : Int32)) (show decode _ _ = .ok (.iconst 3, 1) by decide +kernel) (by decide) ?_
  refine fw_iadd (show decode _ _ = .ok (.iadd, 1) by decide +kernel) ?_
  obtain ⟨⟨n318, hs319, hi320⟩, h_5⟩ := h_4
  refine fw_iald (show decode _ _ = .ok (.iaload, 1) by decide +kernel) hs319 hi320 ?_
  refine fw_aload_n (i := 0) 0 rfl (show decode _ _ = .ok (.aload_n 0, 1) by decide +kernel) ?_
  refine fw_iload_n (i := 3) 3 rfl (show decode _ _ = .ok (.iload_n 3, 1) by decide +kernel) ?_
  refine fw_iconst (v := (4 : Int32)) (show decode _ _ = .ok (.iconst 4, 1) by decide +kernel) (by decide) ?_
  refine fw_iadd (show decode _ _ = .ok (.iadd, 1) by decide +kernel) ?_
  obtain ⟨⟨n321, hs322, hi323⟩, h_6⟩ := h_5
  refine fw_iald (show decode _ _ = .ok (.iaload, 1) by decide +kernel) hs322 hi323 ?_
  refine fw_if_eq 1325 (show decode _ _ = .ok (.ifCond .eq 7, 3) by decide +kernel) (by decide) (fun hc324 => ?_) (fun hc324 => ?_)
  · have h_7 := ipos hc324 h_6
    refine fw_iconst (v := (0 : Int32)) (show decode _ _ = .ok (.iconst 0, 1) by decide +kernel) (by decide) ?_
    refine FW.sub [0, 1, 2, 3] (ls' := [(0, .ref p0), (1, .ref p1), (2, .ref p2), (3, .int p3)]) rfl ?_
    exact sj_L_law_1326 hd hK18 h_7
  · have h_8 := ineg hc324 h_6
    refine fw_iconst (v := (1 : Int32)) (show decode _ _ = .ok (.iconst 1, 1) by decide +kernel) (by decide) ?_
    refine fw_goto 1326 (show decode _ _ = .ok (.goto 4, 3) by decide +kernel) (by decide) ?_
    refine FW.sub [0, 1, 2, 3] (ls' := [(0, .ref p0), (1, .ref p1), (2, .ref p2), (3, .int p3)]) rfl ?_
    exact sj_L_law_1326 hd hK18 h_8
def j_L_law_1265 (K18 : Nat → Nat → Nat → Int32 → fM → Prop) (φ : Int32 → fM → Prop) (p0 : Nat) (p1 : Nat) (p2 : Nat) (p3 : Int32) (M : fM) : Prop := inA M p0 12 (p3 + (1 : Int32)) ∧ inA M p0 12 (p3 + (2 : Int32)) ∧ inA M p0 12 (p3 + (3 : Int32)) ∧ inA M p0 12 (p3 + (4 : Int32)) ∧ iF ((mI M p0 (ix (p3 + (4 : Int32)))) = 0) (j_L_law_1294 K18 φ p0 p1 p2 p3 (0 : Int32) (mI M p0 (ix (p3 + (3 : Int32)))) (mI M p0 (ix (p3 + (2 : Int32)))) (mI M p0 (ix (p3 + (1 : Int32)))) p1 M) (j_L_law_1294 K18 φ p0 p1 p2 p3 (1 : Int32) (mI M p0 (ix (p3 + (3 : Int32)))) (mI M p0 (ix (p3 + (2 : Int32)))) (mI M p0 (ix (p3 + (1 : Int32)))) p1 M)
set_option maxRecDepth 100000 in
theorem sj_L_law_1265 {g : GT} {d Bc Bs : Nat} (hd : 80 ≤ d + 1) {K18 : Nat → Nat → Nat → Int32 → fM → Prop} {φ : Int32 → fM → Prop} (hK18 : ∀ (p0 : Nat) (p1 : Nat) (p2 : Nat) (p3 : Int32) (M : fM), K18 p0 p1 p2 p3 M → FW g mtL_law (d + 1) 18 [(0, .ref p0), (1, .ref p1), (2, .ref p2), (3, .int p3)] [] M Bc Bs (rI φ)) {p0 : Nat} {p1 : Nat} {p2 : Nat} {p3 : Int32} {M : fM} (h : j_L_law_1265 K18 φ p0 p1 p2 p3 M) : FW g mtL_law (d + 1) 1265 [(0, .ref p0), (1, .ref p1), (2, .ref p2), (3, .int p3)] [] M (Bc + 11) (Bs + 3005) (rI φ) := by
  unfold j_L_law_1265 at h
  refine fw_aload_n (i := 1) 1 rfl (show decode _ _ = .ok (.aload_n 1, 1) by decide +kernel) ?_
  refine fw_aload_n (i := 0) 0 rfl (show decode _ _ = .ok (.aload_n 0, 1) by decide +kernel) ?_
  refine fw_iload_n (i := 3) 3 rfl (show decode _ _ = .ok (.iload_n 3, 1) by decide +kernel) ?_
  refine fw_iconst (v := (1 : Int32)) (show decode _ _ = .ok (.iconst 1, 1) by decide +kernel) (by decide) ?_
  refine fw_iadd (show decode _ _ = .ok (.iadd, 1) by decide +kernel) ?_
  obtain ⟨⟨n325, hs326, hi327⟩, h_1⟩ := h
  refine fw_iald (show decode _ _ = .ok (.iaload, 1) by decide +kernel) hs326 hi327 ?_
  refine fw_aload_n (i := 0) 0 rfl (show decode _ _ = .ok (.aload_n 0, 1) by decide +kernel) ?_
  refine fw_iload_n (i := 3) 3 rfl (show decode _ _ = .ok (.iload_n 3, 1) by decide +kernel) ?_
  refine fw_iconst (v := (2 : Int32)) (show decode _ _ = .ok (.iconst 2, 1) by decide +kernel) (by decide) ?_
  refine fw_iadd (show decode _ _ = .ok (.iadd, 1) by decide +kernel) ?_
  obtain ⟨⟨n328, hs329, hi330⟩, h_2⟩ := h_1
  refine fw_iald (show decode _ _ = .ok (.iaload, 1) by decide +kernel) hs329 hi330 ?_
  refine fw_aload_n (i := 0) 0 rfl (show decode _ _ = .ok (.aload_n 0, 1) by decide +kernel) ?_
  refine fw_iload_n (i := 3) 3 rfl (show decode _ _ = .ok (.iload_n 3, 1) by decide +kernel) ?_
  refine fw_iconst (v := (3 : Int32)) (show decode _ _ = .ok (.iconst 3, 1) by decide +kernel) (by decide) ?_
  refine fw_iadd (show decode _ _ = .ok (.iadd, 1) by decide +kernel) ?_
  obtain ⟨⟨n331, hs332, hi333⟩, h_3⟩ := h_2
  refine fw_iald (show decode _ _ = .ok (.iaload, 1) by decide +kernel) hs332 hi333 ?_
  refine fw_aload_n (i := 0) 0 rfl (show decode _ _ = .ok (.aload_n 0, 1) by decide +kernel) ?_
  refine fw_iload_n (i := 3) 3 rfl (show decode _ _ = .ok (.iload_n 3, 1) by decide +kernel) ?_
  refine fw_iconst (v := (4 : Int32)) (show decode _ _ = .ok (.iconst 4, 1) by decide +kernel) (by decide) ?_
  refine fw_iadd (show decode _ _ = .ok (.iadd, 1) by decide +kernel) ?_
  obtain ⟨⟨n334, hs335, hi336⟩, h_4⟩ := h_3
  refine fw_iald (show decode _ _ = .ok (.iaload, 1) by decide +kernel) hs335 hi336 ?_
  refine fw_if_eq 1293 (show decode _ _ = .ok (.ifCond .eq 7, 3) by decide +kernel) (by decide) (fun hc337 => ?_) (fun hc337 => ?_)
  · have h_5 := ipos hc337 h_4
    refine fw_iconst (v := (0 : Int32)) (show decode _ _ = .ok (.iconst 0, 1) by decide +kernel) (by decide) ?_
    refine FW.sub [0, 1, 2, 3] (ls' := [(0, .ref p0), (1, .ref p1), (2, .ref p2), (3, .int p3)]) rfl ?_
    refine FW.room (bc' := Bc) (bs' := Bs) (by first | exact Nat.le_refl _ | exact Nat.le_add_right _ _ | exact Nat.zero_le _ | exact Nat.le_add_left _ _ | exact Nat.le_of_eq (Nat.add_sub_cancel).symm | decide) (by first | exact Nat.le_refl _ | exact Nat.le_add_right _ _ | exact Nat.zero_le _ | exact Nat.le_add_left _ _ | exact Nat.le_of_eq (Nat.add_sub_cancel).symm | decide) ?_
    exact sj_L_law_1294 hd hK18 h_5
  · have h_6 := ineg hc337 h_4
    refine fw_iconst (v := (1 : Int32)) (show decode _ _ = .ok (.iconst 1, 1) by decide +kernel) (by decide) ?_
    refine fw_goto 1294 (show decode _ _ = .ok (.goto 4, 3) by decide +kernel) (by decide) ?_
    refine FW.sub [0, 1, 2, 3] (ls' := [(0, .ref p0), (1, .ref p1), (2, .ref p2), (3, .int p3)]) rfl ?_
    refine FW.room (bc' := Bc) (bs' := Bs) (by first | exact Nat.le_refl _ | exact Nat.le_add_right _ _ | exact Nat.zero_le _ | exact Nat.le_add_left _ _ | exact Nat.le_of_eq (Nat.add_sub_cancel).symm | decide) (by first | exact Nat.le_refl _ | exact Nat.le_add_right _ _ | exact Nat.zero_le _ | exact Nat.le_add_left _ _ | exact Nat.le_of_eq (Nat.add_sub_cancel).symm | decide) ?_
    exact sj_L_law_1294 hd hK18 h_6
def j_L_law_1212 (K18 : Nat → Nat → Nat → Int32 → fM → Prop) (φ : Int32 → fM → Prop) (p0 : Nat) (p1 : Nat) (p2 : Nat) (p3 : Int32) (M : fM) : Prop := inA M p0 12 (p3 + (1 : Int32)) ∧ inA M p0 12 (p3 + (2 : Int32)) ∧ inA M p0 12 (p3 + (3 : Int32)) ∧ inA M p0 12 (p3 + (4 : Int32)) ∧ isO M p1 10 ∧ w_X10_lamp p1 (mI M p0 (ix (p3 + (1 : Int32)))) (mI M p0 (ix (p3 + (2 : Int32)))) (mI M p0 (ix (p3 + (3 : Int32)))) (mI M p0 (ix (p3 + (4 : Int32)))) M fun x354 M350 => inA M350 p0 12 (p3 + (1 : Int32)) ∧ inA M350 p0 12 (p3 + (2 : Int32)) ∧ inA M350 p0 12 (p3 + (3 : Int32)) ∧ inA M350 p0 12 (p3 + (4 : Int32)) ∧ isO M350 p2 11 ∧ w_X11_lamp p2 (mI M350 p0 (ix (p3 + (1 : Int32)))) (mI M350 p0 (ix (p3 + (2 : Int32)))) (mI M350 p0 (ix (p3 + (3 : Int32)))) (mI M350 p0 (ix (p3 + (4 : Int32)))) M350 fun x371 M367 => iF (x354 = x371) (j_L_law_1833 K18 φ p0 p1 p2 p3 M367) (φ (0 : Int32) M367)
set_option maxRecDepth 100000 in
theorem sj_L_law_1212 {g : GT} {d Bc Bs : Nat} (hd : 80 ≤ d + 1) {K18 : Nat → Nat → Nat → Int32 → fM → Prop} {φ : Int32 → fM → Prop} (hK18 : ∀ (p0 : Nat) (p1 : Nat) (p2 : Nat) (p3 : Int32) (M : fM), K18 p0 p1 p2 p3 M → FW g mtL_law (d + 1) 18 [(0, .ref p0), (1, .ref p1), (2, .ref p2), (3, .int p3)] [] M Bc Bs (rI φ)) {p0 : Nat} {p1 : Nat} {p2 : Nat} {p3 : Int32} {M : fM} (h : j_L_law_1212 K18 φ p0 p1 p2 p3 M) : FW g mtL_law (d + 1) 1212 [(0, .ref p0), (1, .ref p1), (2, .ref p2), (3, .int p3)] [] M (Bc + 11) (Bs + 3005) (rI φ) := by
  unfold j_L_law_1212 at h
  refine fw_aload_n (i := 1) 1 rfl (show decode _ _ = .ok (.aload_n 1, 1) by decide +kernel) ?_
  refine fw_aload_n (i := 0) 0 rfl (show decode _ _ = .ok (.aload_n 0, 1) by decide +kernel) ?_
  refine fw_iload_n (i := 3) 3 rfl (show decode _ _ = .ok (.iload_n 3, 1) by decide +kernel) ?_
  refine fw_iconst (v := (1 : Int32)) (show decode _ _ = .ok (.iconst 1, 1) by decide +kernel) (by decide) ?_
  refine fw_iadd (show decode _ _ = .ok (.iadd, 1) by decide +kernel) ?_
  obtain ⟨⟨n338, hs339, hi340⟩, h_1⟩ := h
  refine fw_iald (show decode _ _ = .ok (.iaload, 1) by decide +kernel) hs339 hi340 ?_
  refine fw_aload_n (i := 0) 0 rfl (show decode _ _ = .ok (.aload_n 0, 1) by decide +kernel) ?_
  refine fw_iload_n (i := 3) 3 rfl (show decode _ _ = .ok (.iload_n 3, 1) by decide +kernel) ?_
  refine fw_iconst (v := (2 : Int32)) (show decode _ _ = .ok (.iconst 2, 1) by decide +kernel) (by decide) ?_
  refine fw_iadd (show decode _ _ = .ok (.iadd, 1) by decide +kernel) ?_
  obtain ⟨⟨n341, hs342, hi343⟩, h_2⟩ := h_1
  refine fw_iald (show decode _ _ = .ok (.iaload, 1) by decide +kernel) hs342 hi343 ?_
  refine fw_aload_n (i := 0) 0 rfl (show decode _ _ = .ok (.aload_n 0, 1) by decide +kernel) ?_
  refine fw_iload_n (i := 3) 3 rfl (show decode _ _ = .ok (.iload_n 3, 1) by decide +kernel) ?_
  refine fw_iconst (v := (3 : Int32)) (show decode _ _ = .ok (.iconst 3, 1) by decide +kernel) (by decide) ?_
  refine fw_iadd (show decode _ _ = .ok (.iadd, 1) by decide +kernel) ?_
  obtain ⟨⟨n344, hs345, hi346⟩, h_3⟩ := h_2
  refine fw_iald (show decode _ _ = .ok (.iaload, 1) by decide +kernel) hs345 hi346 ?_
  refine fw_aload_n (i := 0) 0 rfl (show decode _ _ = .ok (.aload_n 0, 1) by decide +kernel) ?_
  refine fw_iload_n (i := 3) 3 rfl (show decode _ _ = .ok (.iload_n 3, 1) by decide +kernel) ?_
  refine fw_iconst (v := (4 : Int32)) (show decode _ _ = .ok (.iconst 4, 1) by decide +kernel) (by decide) ?_
  refine fw_iadd (show decode _ _ = .ok (.iadd, 1) by decide +kernel) ?_
  obtain ⟨⟨n347, hs348, hi349⟩, h_4⟩ := h_3
  refine fw_iald (show decode _ _ = .ok (.iaload, 1) by decide +kernel) hs348 hi349 ?_
  obtain ⟨⟨hr352, n351, hs353⟩, h_5⟩ := h_4
  refine fw_callV (mt' := mtX10_lamp) (mc := 0) (ms := 0) (As := [.int (mI M p0 (ix (p3 + (1 : Int32)))), .int (mI M p0 (ix (p3 + (2 : Int32)))), .int (mI M p0 (ix (p3 + (3 : Int32)))), .int (mI M p0 (ix (p3 + (4 : Int32))))]) (rest := []) 4 10 n351 (show decode _ _ = .ok (.invokevirtual 136, 3) by decide +kernel) cv_L_136 ⟨_, rfl, rfl⟩ hr352 hs353 rfl (Nat.le_of_ble_eq_true rfl) (s_X10_lamp (d := d) (hd_le hd (by decide)) h_5) (by first | exact Nat.le_refl _ | exact Nat.le_add_right _ _ | exact Nat.zero_le _ | exact Nat.le_add_left _ _ | exact Nat.le_of_eq (Nat.add_sub_cancel).symm | decide) (by first | exact Nat.le_refl _ | exact Nat.le_add_right _ _ | exact Nat.zero_le _ | exact Nat.le_add_left _ _ | exact Nat.le_of_eq (Nat.add_sub_cancel).symm | decide) (kI (bc' := (Bc + 11)) (bs' := (Bs + 3005)) (by first | exact Nat.le_refl _ | exact Nat.le_add_right _ _ | exact Nat.zero_le _ | exact Nat.le_add_left _ _ | exact Nat.le_of_eq (Nat.add_sub_cancel).symm | decide) (by first | exact Nat.le_refl _ | exact Nat.le_add_right _ _ | exact Nat.zero_le _ | exact Nat.le_add_left _ _ | exact Nat.le_of_eq (Nat.add_sub_cancel).symm | decide) (fun x354 M350 h_6 => ?_))
  refine fw_aload_n (i := 2) 2 rfl (show decode _ _ = .ok (.aload_n 2, 1) by decide +kernel) ?_
  refine fw_aload_n (i := 0) 0 rfl (show decode _ _ = .ok (.aload_n 0, 1) by decide +kernel) ?_
  refine fw_iload_n (i := 3) 3 rfl (show decode _ _ = .ok (.iload_n 3, 1) by decide +kernel) ?_
  refine fw_iconst (v := (1 : Int32)) (show decode _ _ = .ok (.iconst 1, 1) by decide +kernel) (by decide) ?_
  refine fw_iadd (show decode _ _ = .ok (.iadd, 1) by decide +kernel) ?_
  obtain ⟨⟨n355, hs356, hi357⟩, h_7⟩ := h_6
  refine fw_iald (show decode _ _ = .ok (.iaload, 1) by decide +kernel) hs356 hi357 ?_
  refine fw_aload_n (i := 0) 0 rfl (show decode _ _ = .ok (.aload_n 0, 1) by decide +kernel) ?_
  refine fw_iload_n (i := 3) 3 rfl (show decode _ _ = .ok (.iload_n 3, 1) by decide +kernel) ?_
  refine fw_iconst (v := (2 : Int32)) (show decode _ _ = .ok (.iconst 2, 1) by decide +kernel) (by decide) ?_
  refine fw_iadd (show decode _ _ = .ok (.iadd, 1) by decide +kernel) ?_
  obtain ⟨⟨n358, hs359, hi360⟩, h_8⟩ := h_7
  refine fw_iald (show decode _ _ = .ok (.iaload, 1) by decide +kernel) hs359 hi360 ?_
  refine fw_aload_n (i := 0) 0 rfl (show decode _ _ = .ok (.aload_n 0, 1) by decide +kernel) ?_
  refine fw_iload_n (i := 3) 3 rfl (show decode _ _ = .ok (.iload_n 3, 1) by decide +kernel) ?_
  refine fw_iconst (v := (3 : Int32)) (show decode _ _ = .ok (.iconst 3, 1) by decide +kernel) (by decide) ?_
  refine fw_iadd (show decode _ _ = .ok (.iadd, 1) by decide +kernel) ?_
  obtain ⟨⟨n361, hs362, hi363⟩, h_9⟩ := h_8
  refine fw_iald (show decode _ _ = .ok (.iaload, 1) by decide +kernel) hs362 hi363 ?_
  refine fw_aload_n (i := 0) 0 rfl (show decode _ _ = .ok (.aload_n 0, 1) by decide +kernel) ?_
  refine fw_iload_n (i := 3) 3 rfl (show decode _ _ = .ok (.iload_n 3, 1) by decide +kernel) ?_
  refine fw_iconst (v := (4 : Int32)) (show decode _ _ = .ok (.iconst 4, 1) by decide +kernel) (by decide) ?_
  refine fw_iadd (show decode _ _ = .ok (.iadd, 1) by decide +kernel) ?_
  obtain ⟨⟨n364, hs365, hi366⟩, h_10⟩ := h_9
  refine fw_iald (show decode _ _ = .ok (.iaload, 1) by decide +kernel) hs365 hi366 ?_
  obtain ⟨⟨hr369, n368, hs370⟩, h_11⟩ := h_10
  refine fw_callV (mt' := mtX11_lamp) (mc := 0) (ms := 0) (As := [.int (mI M350 p0 (ix (p3 + (1 : Int32)))), .int (mI M350 p0 (ix (p3 + (2 : Int32)))), .int (mI M350 p0 (ix (p3 + (3 : Int32)))), .int (mI M350 p0 (ix (p3 + (4 : Int32))))]) (rest := [.int x354]) 4 11 n368 (show decode _ _ = .ok (.invokevirtual 140, 3) by decide +kernel) cv_L_140 ⟨_, rfl, rfl⟩ hr369 hs370 rfl (Nat.le_of_ble_eq_true rfl) (s_X11_lamp (d := d) (hd_le hd (by decide)) h_11) (by first | exact Nat.le_refl _ | exact Nat.le_add_right _ _ | exact Nat.zero_le _ | exact Nat.le_add_left _ _ | exact Nat.le_of_eq (Nat.add_sub_cancel).symm | decide) (by first | exact Nat.le_refl _ | exact Nat.le_add_right _ _ | exact Nat.zero_le _ | exact Nat.le_add_left _ _ | exact Nat.le_of_eq (Nat.add_sub_cancel).symm | decide) (kI (bc' := (Bc + 11)) (bs' := (Bs + 3005)) (by first | exact Nat.le_refl _ | exact Nat.le_add_right _ _ | exact Nat.zero_le _ | exact Nat.le_add_left _ _ | exact Nat.le_of_eq (Nat.add_sub_cancel).symm | decide) (by first | exact Nat.le_refl _ | exact Nat.le_add_right _ _ | exact Nat.zero_le _ | exact Nat.le_add_left _ _ | exact Nat.le_of_eq (Nat.add_sub_cancel).symm | decide) (fun x371 M367 h_12 => ?_))
  refine fw_icmp_eq 1833 (show decode _ _ = .ok (.if_icmp .eq 573, 3) by decide +kernel) (by decide) (fun hc372 => ?_) (fun hc372 => ?_)
  · have h_13 := ipos hc372 h_12
    refine FW.sub [0, 1, 2, 3] (ls' := [(0, .ref p0), (1, .ref p1), (2, .ref p2), (3, .int p3)]) rfl ?_
    refine FW.room (bc' := Bc) (bs' := Bs) (by first | exact Nat.le_refl _ | exact Nat.le_add_right _ _ | exact Nat.zero_le _ | exact Nat.le_add_left _ _ | exact Nat.le_of_eq (Nat.add_sub_cancel).symm | decide) (by first | exact Nat.le_refl _ | exact Nat.le_add_right _ _ | exact Nat.zero_le _ | exact Nat.le_add_left _ _ | exact Nat.le_of_eq (Nat.add_sub_cancel).symm | decide) ?_
    exact sj_L_law_1833 hd hK18 h_13
  · have h_14 := ineg hc372 h_12
    refine fw_iconst (v := (0 : Int32)) (show decode _ _ = .ok (.iconst 0, 1) by decide +kernel) (by decide) ?_
    exact fw_ret (v := some (.int (0 : Int32))) .ireturn (show decode _ _ = .ok (.ireturn, 1) by decide +kernel) ⟨rfl, Or.inr (Or.inl ⟨rfl, rfl⟩)⟩ ⟨_, rfl, h_14⟩
def j_L_law_1179 (K18 : Nat → Nat → Nat → Int32 → fM → Prop) (φ : Int32 → fM → Prop) (p0 : Nat) (p1 : Nat) (p2 : Nat) (p3 : Int32) (M : fM) : Prop := inA M p0 12 (p3 + (1 : Int32)) ∧ inA M p0 12 (p3 + (2 : Int32)) ∧ isO M p1 10 ∧ w_X10_goes p1 (mI M p0 (ix (p3 + (1 : Int32)))) (mI M p0 (ix (p3 + (2 : Int32)))) M fun x383 M379 => inA M379 p0 12 (p3 + (1 : Int32)) ∧ inA M379 p0 12 (p3 + (2 : Int32)) ∧ isO M379 p2 11 ∧ w_X11_goes p2 (mI M379 p0 (ix (p3 + (1 : Int32)))) (mI M379 p0 (ix (p3 + (2 : Int32)))) M379 fun x394 M390 => iF (x383 = x394) (j_L_law_1833 K18 φ p0 p1 p2 p3 M390) (φ (0 : Int32) M390)
set_option maxRecDepth 100000 in
theorem sj_L_law_1179 {g : GT} {d Bc Bs : Nat} (hd : 80 ≤ d + 1) {K18 : Nat → Nat → Nat → Int32 → fM → Prop} {φ : Int32 → fM → Prop} (hK18 : ∀ (p0 : Nat) (p1 : Nat) (p2 : Nat) (p3 : Int32) (M : fM), K18 p0 p1 p2 p3 M → FW g mtL_law (d + 1) 18 [(0, .ref p0), (1, .ref p1), (2, .ref p2), (3, .int p3)] [] M Bc Bs (rI φ)) {p0 : Nat} {p1 : Nat} {p2 : Nat} {p3 : Int32} {M : fM} (h : j_L_law_1179 K18 φ p0 p1 p2 p3 M) : FW g mtL_law (d + 1) 1179 [(0, .ref p0), (1, .ref p1), (2, .ref p2), (3, .int p3)] [] M (Bc + 11) (Bs + 3005) (rI φ) := by
  unfold j_L_law_1179 at h
  refine fw_aload_n (i := 1) 1 rfl (show decode _ _ = .ok (.aload_n 1, 1) by decide +kernel) ?_
  refine fw_aload_n (i := 0) 0 rfl (show decode _ _ = .ok (.aload_n 0, 1) by decide +kernel) ?_
  refine fw_iload_n (i := 3) 3 rfl (show decode _ _ = .ok (.iload_n 3, 1) by decide +kernel) ?_
  refine fw_iconst (v := (1 : Int32)) (show decode _ _ = .ok (.iconst 1, 1) by decide +kernel) (by decide) ?_
  refine fw_iadd (show decode _ _ = .ok (.iadd, 1) by decide +kernel) ?_
  obtain ⟨⟨n373, hs374, hi375⟩, h_1⟩ := h
  refine fw_iald (show decode _ _ = .ok (.iaload, 1) by decide +kernel) hs374 hi375 ?_
  refine fw_aload_n (i := 0) 0 rfl (show decode _ _ = .ok (.aload_n 0, 1) by decide +kernel) ?_
  refine fw_iload_n (i := 3) 3 rfl (show decode _ _ = .ok (.iload_n 3, 1) by decide +kernel) ?_
  refine fw_iconst (v := (2 : Int32)) (show decode _ _ = .ok (.iconst 2, 1) by decide +kernel) (by decide) ?_
  refine fw_iadd (show decode _ _ = .ok (.iadd, 1) by decide +kernel) ?_
  obtain ⟨⟨n376, hs377, hi378⟩, h_2⟩ := h_1
  refine fw_iald (show decode _ _ = .ok (.iaload, 1) by decide +kernel) hs377 hi378 ?_
  obtain ⟨⟨hr381, n380, hs382⟩, h_3⟩ := h_2
  refine fw_callV (mt' := mtX10_goes) (mc := 0) (ms := 0) (As := [.int (mI M p0 (ix (p3 + (1 : Int32)))), .int (mI M p0 (ix (p3 + (2 : Int32))))]) (rest := []) 2 10 n380 (show decode _ _ = .ok (.invokevirtual 132, 3) by decide +kernel) cv_L_132 ⟨_, rfl, rfl⟩ hr381 hs382 rfl (Nat.le_of_ble_eq_true rfl) (s_X10_goes (d := d) (hd_le hd (by decide)) h_3) (by first | exact Nat.le_refl _ | exact Nat.le_add_right _ _ | exact Nat.zero_le _ | exact Nat.le_add_left _ _ | exact Nat.le_of_eq (Nat.add_sub_cancel).symm | decide) (by first | exact Nat.le_refl _ | exact Nat.le_add_right _ _ | exact Nat.zero_le _ | exact Nat.le_add_left _ _ | exact Nat.le_of_eq (Nat.add_sub_cancel).symm | decide) (kI (bc' := (Bc + 11)) (bs' := (Bs + 3005)) (by first | exact Nat.le_refl _ | exact Nat.le_add_right _ _ | exact Nat.zero_le _ | exact Nat.le_add_left _ _ | exact Nat.le_of_eq (Nat.add_sub_cancel).symm | decide) (by first | exact Nat.le_refl _ | exact Nat.le_add_right _ _ | exact Nat.zero_le _ | exact Nat.le_add_left _ _ | exact Nat.le_of_eq (Nat.add_sub_cancel).symm | decide) (fun x383 M379 h_4 => ?_))
  refine fw_aload_n (i := 2) 2 rfl (show decode _ _ = .ok (.aload_n 2, 1) by decide +kernel) ?_
  refine fw_aload_n (i := 0) 0 rfl (show decode _ _ = .ok (.aload_n 0, 1) by decide +kernel) ?_
  refine fw_iload_n (i := 3) 3 rfl (show decode _ _ = .ok (.iload_n 3, 1) by decide +kernel) ?_
  refine fw_iconst (v := (1 : Int32)) (show decode _ _ = .ok (.iconst 1, 1) by decide +kernel) (by decide) ?_
  refine fw_iadd (show decode _ _ = .ok (.iadd, 1) by decide +kernel) ?_
  obtain ⟨⟨n384, hs385, hi386⟩, h_5⟩ := h_4
  refine fw_iald (show decode _ _ = .ok (.iaload, 1) by decide +kernel) hs385 hi386 ?_
  refine fw_aload_n (i := 0) 0 rfl (show decode _ _ = .ok (.aload_n 0, 1) by decide +kernel) ?_
  refine fw_iload_n (i := 3) 3 rfl (show decode _ _ = .ok (.iload_n 3, 1) by decide +kernel) ?_
  refine fw_iconst (v := (2 : Int32)) (show decode _ _ = .ok (.iconst 2, 1) by decide +kernel) (by decide) ?_
  refine fw_iadd (show decode _ _ = .ok (.iadd, 1) by decide +kernel) ?_
  obtain ⟨⟨n387, hs388, hi389⟩, h_6⟩ := h_5
  refine fw_iald (show decode _ _ = .ok (.iaload, 1) by decide +kernel) hs388 hi389 ?_
  obtain ⟨⟨hr392, n391, hs393⟩, h_7⟩ := h_6
  refine fw_callV (mt' := mtX11_goes) (mc := 0) (ms := 0) (As := [.int (mI M379 p0 (ix (p3 + (1 : Int32)))), .int (mI M379 p0 (ix (p3 + (2 : Int32))))]) (rest := [.int x383]) 2 11 n391 (show decode _ _ = .ok (.invokevirtual 135, 3) by decide +kernel) cv_L_135 ⟨_, rfl, rfl⟩ hr392 hs393 rfl (Nat.le_of_ble_eq_true rfl) (s_X11_goes (d := d) (hd_le hd (by decide)) h_7) (by first | exact Nat.le_refl _ | exact Nat.le_add_right _ _ | exact Nat.zero_le _ | exact Nat.le_add_left _ _ | exact Nat.le_of_eq (Nat.add_sub_cancel).symm | decide) (by first | exact Nat.le_refl _ | exact Nat.le_add_right _ _ | exact Nat.zero_le _ | exact Nat.le_add_left _ _ | exact Nat.le_of_eq (Nat.add_sub_cancel).symm | decide) (kI (bc' := (Bc + 11)) (bs' := (Bs + 3005)) (by first | exact Nat.le_refl _ | exact Nat.le_add_right _ _ | exact Nat.zero_le _ | exact Nat.le_add_left _ _ | exact Nat.le_of_eq (Nat.add_sub_cancel).symm | decide) (by first | exact Nat.le_refl _ | exact Nat.le_add_right _ _ | exact Nat.zero_le _ | exact Nat.le_add_left _ _ | exact Nat.le_of_eq (Nat.add_sub_cancel).symm | decide) (fun x394 M390 h_8 => ?_))
  refine fw_icmp_eq 1833 (show decode _ _ = .ok (.if_icmp .eq 626, 3) by decide +kernel) (by decide) (fun hc395 => ?_) (fun hc395 => ?_)
  · have h_9 := ipos hc395 h_8
    refine FW.sub [0, 1, 2, 3] (ls' := [(0, .ref p0), (1, .ref p1), (2, .ref p2), (3, .int p3)]) rfl ?_
    refine FW.room (bc' := Bc) (bs' := Bs) (by first | exact Nat.le_refl _ | exact Nat.le_add_right _ _ | exact Nat.zero_le _ | exact Nat.le_add_left _ _ | exact Nat.le_of_eq (Nat.add_sub_cancel).symm | decide) (by first | exact Nat.le_refl _ | exact Nat.le_add_right _ _ | exact Nat.zero_le _ | exact Nat.le_add_left _ _ | exact Nat.le_of_eq (Nat.add_sub_cancel).symm | decide) ?_
    exact sj_L_law_1833 hd hK18 h_9
  · have h_10 := ineg hc395 h_8
    refine fw_iconst (v := (0 : Int32)) (show decode _ _ = .ok (.iconst 0, 1) by decide +kernel) (by decide) ?_
    exact fw_ret (v := some (.int (0 : Int32))) .ireturn (show decode _ _ = .ok (.ireturn, 1) by decide +kernel) ⟨rfl, Or.inr (Or.inl ⟨rfl, rfl⟩)⟩ ⟨_, rfl, h_10⟩
def j_L_law_1136 (K18 : Nat → Nat → Nat → Int32 → fM → Prop) (φ : Int32 → fM → Prop) (p0 : Nat) (p1 : Nat) (p2 : Nat) (p3 : Int32) (M : fM) : Prop := inA M p0 12 (p3 + (1 : Int32)) ∧ inA M p0 12 (p3 + (2 : Int32)) ∧ inA M p0 12 (p3 + (3 : Int32)) ∧ isO M p1 10 ∧ w_X10_worth p1 (mI M p0 (ix (p3 + (1 : Int32)))) (mI M p0 (ix (p3 + (2 : Int32)))) (mI M p0 (ix (p3 + (3 : Int32)))) M fun x409 M405 => inA M405 p0 12 (p3 + (1 : Int32)) ∧ inA M405 p0 12 (p3 + (2 : Int32)) ∧ inA M405 p0 12 (p3 + (3 : Int32)) ∧ isO M405 p2 11 ∧ w_X11_worth p2 (mI M405 p0 (ix (p3 + (1 : Int32)))) (mI M405 p0 (ix (p3 + (2 : Int32)))) (mI M405 p0 (ix (p3 + (3 : Int32)))) M405 fun x423 M419 => iF (x409 = x423) (j_L_law_1833 K18 φ p0 p1 p2 p3 M419) (φ (0 : Int32) M419)
set_option maxRecDepth 100000 in
theorem sj_L_law_1136 {g : GT} {d Bc Bs : Nat} (hd : 80 ≤ d + 1) {K18 : Nat → Nat → Nat → Int32 → fM → Prop} {φ : Int32 → fM → Prop} (hK18 : ∀ (p0 : Nat) (p1 : Nat) (p2 : Nat) (p3 : Int32) (M : fM), K18 p0 p1 p2 p3 M → FW g mtL_law (d + 1) 18 [(0, .ref p0), (1, .ref p1), (2, .ref p2), (3, .int p3)] [] M Bc Bs (rI φ)) {p0 : Nat} {p1 : Nat} {p2 : Nat} {p3 : Int32} {M : fM} (h : j_L_law_1136 K18 φ p0 p1 p2 p3 M) : FW g mtL_law (d + 1) 1136 [(0, .ref p0), (1, .ref p1), (2, .ref p2), (3, .int p3)] [] M (Bc + 11) (Bs + 3005) (rI φ) := by
  unfold j_L_law_1136 at h
  refine fw_aload_n (i := 1) 1 rfl (show decode _ _ = .ok (.aload_n 1, 1) by decide +kernel) ?_
  refine fw_aload_n (i := 0) 0 rfl (show decode _ _ = .ok (.aload_n 0, 1) by decide +kernel) ?_
  refine fw_iload_n (i := 3) 3 rfl (show decode _ _ = .ok (.iload_n 3, 1) by decide +kernel) ?_
  refine fw_iconst (v := (1 : Int32)) (show decode _ _ = .ok (.iconst 1, 1) by decide +kernel) (by decide) ?_
  refine fw_iadd (show decode _ _ = .ok (.iadd, 1) by decide +kernel) ?_
  obtain ⟨⟨n396, hs397, hi398⟩, h_1⟩ := h
  refine fw_iald (show decode _ _ = .ok (.iaload, 1) by decide +kernel) hs397 hi398 ?_
  refine fw_aload_n (i := 0) 0 rfl (show decode _ _ = .ok (.aload_n 0, 1) by decide +kernel) ?_
  refine fw_iload_n (i := 3) 3 rfl (show decode _ _ = .ok (.iload_n 3, 1) by decide +kernel) ?_
  refine fw_iconst (v := (2 : Int32)) (show decode _ _ = .ok (.iconst 2, 1) by decide +kernel) (by decide) ?_
  refine fw_iadd (show decode _ _ = .ok (.iadd, 1) by decide +kernel) ?_
  obtain ⟨⟨n399, hs400, hi401⟩, h_2⟩ := h_1
  refine fw_iald (show decode _ _ = .ok (.iaload, 1) by decide +kernel) hs400 hi401 ?_
  refine fw_aload_n (i := 0) 0 rfl (show decode _ _ = .ok (.aload_n 0, 1) by decide +kernel) ?_
  refine fw_iload_n (i := 3) 3 rfl (show decode _ _ = .ok (.iload_n 3, 1) by decide +kernel) ?_
  refine fw_iconst (v := (3 : Int32)) (show decode _ _ = .ok (.iconst 3, 1) by decide +kernel) (by decide) ?_
  refine fw_iadd (show decode _ _ = .ok (.iadd, 1) by decide +kernel) ?_
  obtain ⟨⟨n402, hs403, hi404⟩, h_3⟩ := h_2
  refine fw_iald (show decode _ _ = .ok (.iaload, 1) by decide +kernel) hs403 hi404 ?_
  obtain ⟨⟨hr407, n406, hs408⟩, h_4⟩ := h_3
  refine fw_callV (mt' := mtX10_worth) (mc := 0) (ms := 0) (As := [.int (mI M p0 (ix (p3 + (1 : Int32)))), .int (mI M p0 (ix (p3 + (2 : Int32)))), .int (mI M p0 (ix (p3 + (3 : Int32))))]) (rest := []) 3 10 n406 (show decode _ _ = .ok (.invokevirtual 128, 3) by decide +kernel) cv_L_128 ⟨_, rfl, rfl⟩ hr407 hs408 rfl (Nat.le_of_ble_eq_true rfl) (s_X10_worth (d := d) (hd_le hd (by decide)) h_4) (by first | exact Nat.le_refl _ | exact Nat.le_add_right _ _ | exact Nat.zero_le _ | exact Nat.le_add_left _ _ | exact Nat.le_of_eq (Nat.add_sub_cancel).symm | decide) (by first | exact Nat.le_refl _ | exact Nat.le_add_right _ _ | exact Nat.zero_le _ | exact Nat.le_add_left _ _ | exact Nat.le_of_eq (Nat.add_sub_cancel).symm | decide) (kI (bc' := (Bc + 11)) (bs' := (Bs + 3005)) (by first | exact Nat.le_refl _ | exact Nat.le_add_right _ _ | exact Nat.zero_le _ | exact Nat.le_add_left _ _ | exact Nat.le_of_eq (Nat.add_sub_cancel).symm | decide) (by first | exact Nat.le_refl _ | exact Nat.le_add_right _ _ | exact Nat.zero_le _ | exact Nat.le_add_left _ _ | exact Nat.le_of_eq (Nat.add_sub_cancel).symm | decide) (fun x409 M405 h_5 => ?_))
  refine fw_aload_n (i := 2) 2 rfl (show decode _ _ = .ok (.aload_n 2, 1) by decide +kernel) ?_
  refine fw_aload_n (i := 0) 0 rfl (show decode _ _ = .ok (.aload_n 0, 1) by decide +kernel) ?_
  refine fw_iload_n (i := 3) 3 rfl (show decode _ _ = .ok (.iload_n 3, 1) by decide +kernel) ?_
  refine fw_iconst (v := (1 : Int32)) (show decode _ _ = .ok (.iconst 1, 1) by decide +kernel) (by decide) ?_
  refine fw_iadd (show decode _ _ = .ok (.iadd, 1) by decide +kernel) ?_
  obtain ⟨⟨n410, hs411, hi412⟩, h_6⟩ := h_5
  refine fw_iald (show decode _ _ = .ok (.iaload, 1) by decide +kernel) hs411 hi412 ?_
  refine fw_aload_n (i := 0) 0 rfl (show decode _ _ = .ok (.aload_n 0, 1) by decide +kernel) ?_
  refine fw_iload_n (i := 3) 3 rfl (show decode _ _ = .ok (.iload_n 3, 1) by decide +kernel) ?_
  refine fw_iconst (v := (2 : Int32)) (show decode _ _ = .ok (.iconst 2, 1) by decide +kernel) (by decide) ?_
  refine fw_iadd (show decode _ _ = .ok (.iadd, 1) by decide +kernel) ?_
  obtain ⟨⟨n413, hs414, hi415⟩, h_7⟩ := h_6
  refine fw_iald (show decode _ _ = .ok (.iaload, 1) by decide +kernel) hs414 hi415 ?_
  refine fw_aload_n (i := 0) 0 rfl (show decode _ _ = .ok (.aload_n 0, 1) by decide +kernel) ?_
  refine fw_iload_n (i := 3) 3 rfl (show decode _ _ = .ok (.iload_n 3, 1) by decide +kernel) ?_
  refine fw_iconst (v := (3 : Int32)) (show decode _ _ = .ok (.iconst 3, 1) by decide +kernel) (by decide) ?_
  refine fw_iadd (show decode _ _ = .ok (.iadd, 1) by decide +kernel) ?_
  obtain ⟨⟨n416, hs417, hi418⟩, h_8⟩ := h_7
  refine fw_iald (show decode _ _ = .ok (.iaload, 1) by decide +kernel) hs417 hi418 ?_
  obtain ⟨⟨hr421, n420, hs422⟩, h_9⟩ := h_8
  refine fw_callV (mt' := mtX11_worth) (mc := 0) (ms := 0) (As := [.int (mI M405 p0 (ix (p3 + (1 : Int32)))), .int (mI M405 p0 (ix (p3 + (2 : Int32)))), .int (mI M405 p0 (ix (p3 + (3 : Int32))))]) (rest := [.int x409]) 3 11 n420 (show decode _ _ = .ok (.invokevirtual 131, 3) by decide +kernel) cv_L_131 ⟨_, rfl, rfl⟩ hr421 hs422 rfl (Nat.le_of_ble_eq_true rfl) (s_X11_worth (d := d) (hd_le hd (by decide)) h_9) (by first | exact Nat.le_refl _ | exact Nat.le_add_right _ _ | exact Nat.zero_le _ | exact Nat.le_add_left _ _ | exact Nat.le_of_eq (Nat.add_sub_cancel).symm | decide) (by first | exact Nat.le_refl _ | exact Nat.le_add_right _ _ | exact Nat.zero_le _ | exact Nat.le_add_left _ _ | exact Nat.le_of_eq (Nat.add_sub_cancel).symm | decide) (kI (bc' := (Bc + 11)) (bs' := (Bs + 3005)) (by first | exact Nat.le_refl _ | exact Nat.le_add_right _ _ | exact Nat.zero_le _ | exact Nat.le_add_left _ _ | exact Nat.le_of_eq (Nat.add_sub_cancel).symm | decide) (by first | exact Nat.le_refl _ | exact Nat.le_add_right _ _ | exact Nat.zero_le _ | exact Nat.le_add_left _ _ | exact Nat.le_of_eq (Nat.add_sub_cancel).symm | decide) (fun x423 M419 h_10 => ?_))
  refine fw_icmp_eq 1833 (show decode _ _ = .ok (.if_icmp .eq 659, 3) by decide +kernel) (by decide) (fun hc424 => ?_) (fun hc424 => ?_)
  · have h_11 := ipos hc424 h_10
    refine FW.sub [0, 1, 2, 3] (ls' := [(0, .ref p0), (1, .ref p1), (2, .ref p2), (3, .int p3)]) rfl ?_
    refine FW.room (bc' := Bc) (bs' := Bs) (by first | exact Nat.le_refl _ | exact Nat.le_add_right _ _ | exact Nat.zero_le _ | exact Nat.le_add_left _ _ | exact Nat.le_of_eq (Nat.add_sub_cancel).symm | decide) (by first | exact Nat.le_refl _ | exact Nat.le_add_right _ _ | exact Nat.zero_le _ | exact Nat.le_add_left _ _ | exact Nat.le_of_eq (Nat.add_sub_cancel).symm | decide) ?_
    exact sj_L_law_1833 hd hK18 h_11
  · have h_12 := ineg hc424 h_10
    refine fw_iconst (v := (0 : Int32)) (show decode _ _ = .ok (.iconst 0, 1) by decide +kernel) (by decide) ?_
    exact fw_ret (v := some (.int (0 : Int32))) .ireturn (show decode _ _ = .ok (.ireturn, 1) by decide +kernel) ⟨rfl, Or.inr (Or.inl ⟨rfl, rfl⟩)⟩ ⟨_, rfl, h_12⟩
def j_L_law_1093 (K18 : Nat → Nat → Nat → Int32 → fM → Prop) (φ : Int32 → fM → Prop) (p0 : Nat) (p1 : Nat) (p2 : Nat) (p3 : Int32) (M : fM) : Prop := inA M p0 12 (p3 + (1 : Int32)) ∧ inA M p0 12 (p3 + (2 : Int32)) ∧ inA M p0 12 (p3 + (3 : Int32)) ∧ isO M p1 10 ∧ w_X10_from p1 (mI M p0 (ix (p3 + (1 : Int32)))) (mI M p0 (ix (p3 + (2 : Int32)))) (mI M p0 (ix (p3 + (3 : Int32)))) M fun x438 M434 => inA M434 p0 12 (p3 + (1 : Int32)) ∧ inA M434 p0 12 (p3 + (2 : Int32)) ∧ inA M434 p0 12 (p3 + (3 : Int32)) ∧ isO M434 p2 11 ∧ w_X11_from p2 (mI M434 p0 (ix (p3 + (1 : Int32)))) (mI M434 p0 (ix (p3 + (2 : Int32)))) (mI M434 p0 (ix (p3 + (3 : Int32)))) M434 fun x452 M448 => iF (x438 = x452) (j_L_law_1833 K18 φ p0 p1 p2 p3 M448) (φ (0 : Int32) M448)
set_option maxRecDepth 100000 in
theorem sj_L_law_1093 {g : GT} {d Bc Bs : Nat} (hd : 80 ≤ d + 1) {K18 : Nat → Nat → Nat → Int32 → fM → Prop} {φ : Int32 → fM → Prop} (hK18 : ∀ (p0 : Nat) (p1 : Nat) (p2 : Nat) (p3 : Int32) (M : fM), K18 p0 p1 p2 p3 M → FW g mtL_law (d + 1) 18 [(0, .ref p0), (1, .ref p1), (2, .ref p2), (3, .int p3)] [] M Bc Bs (rI φ)) {p0 : Nat} {p1 : Nat} {p2 : Nat} {p3 : Int32} {M : fM} (h : j_L_law_1093 K18 φ p0 p1 p2 p3 M) : FW g mtL_law (d + 1) 1093 [(0, .ref p0), (1, .ref p1), (2, .ref p2), (3, .int p3)] [] M (Bc + 11) (Bs + 3005) (rI φ) := by
  unfold j_L_law_1093 at h
  refine fw_aload_n (i := 1) 1 rfl (show decode _ _ = .ok (.aload_n 1, 1) by decide +kernel) ?_
  refine fw_aload_n (i := 0) 0 rfl (show decode _ _ = .ok (.aload_n 0, 1) by decide +kernel) ?_
  refine fw_iload_n (i := 3) 3 rfl (show decode _ _ = .ok (.iload_n 3, 1) by decide +kernel) ?_
  refine fw_iconst (v := (1 : Int32)) (show decode _ _ = .ok (.iconst 1, 1) by decide +kernel) (by decide) ?_
  refine fw_iadd (show decode _ _ = .ok (.iadd, 1) by decide +kernel) ?_
  obtain ⟨⟨n425, hs426, hi427⟩, h_1⟩ := h
  refine fw_iald (show decode _ _ = .ok (.iaload, 1) by decide +kernel) hs426 hi427 ?_
  refine fw_aload_n (i := 0) 0 rfl (show decode _ _ = .ok (.aload_n 0, 1) by decide +kernel) ?_
  refine fw_iload_n (i := 3) 3 rfl (show decode _ _ = .ok (.iload_n 3, 1) by decide +kernel) ?_
  refine fw_iconst (v := (2 : Int32)) (show decode _ _ = .ok (.iconst 2, 1) by decide +kernel) (by decide) ?_
  refine fw_iadd (show decode _ _ = .ok (.iadd, 1) by decide +kernel) ?_
  obtain ⟨⟨n428, hs429, hi430⟩, h_2⟩ := h_1
  refine fw_iald (show decode _ _ = .ok (.iaload, 1) by decide +kernel) hs429 hi430 ?_
  refine fw_aload_n (i := 0) 0 rfl (show decode _ _ = .ok (.aload_n 0, 1) by decide +kernel) ?_
  refine fw_iload_n (i := 3) 3 rfl (show decode _ _ = .ok (.iload_n 3, 1) by decide +kernel) ?_
  refine fw_iconst (v := (3 : Int32)) (show decode _ _ = .ok (.iconst 3, 1) by decide +kernel) (by decide) ?_
  refine fw_iadd (show decode _ _ = .ok (.iadd, 1) by decide +kernel) ?_
  obtain ⟨⟨n431, hs432, hi433⟩, h_3⟩ := h_2
  refine fw_iald (show decode _ _ = .ok (.iaload, 1) by decide +kernel) hs432 hi433 ?_
  obtain ⟨⟨hr436, n435, hs437⟩, h_4⟩ := h_3
  refine fw_callV (mt' := mtX10_from) (mc := 0) (ms := 0) (As := [.int (mI M p0 (ix (p3 + (1 : Int32)))), .int (mI M p0 (ix (p3 + (2 : Int32)))), .int (mI M p0 (ix (p3 + (3 : Int32))))]) (rest := []) 3 10 n435 (show decode _ _ = .ok (.invokevirtual 124, 3) by decide +kernel) cv_L_124 ⟨_, rfl, rfl⟩ hr436 hs437 rfl (Nat.le_of_ble_eq_true rfl) (s_X10_from (d := d) (hd_le hd (by decide)) h_4) (by first | exact Nat.le_refl _ | exact Nat.le_add_right _ _ | exact Nat.zero_le _ | exact Nat.le_add_left _ _ | exact Nat.le_of_eq (Nat.add_sub_cancel).symm | decide) (by first | exact Nat.le_refl _ | exact Nat.le_add_right _ _ | exact Nat.zero_le _ | exact Nat.le_add_left _ _ | exact Nat.le_of_eq (Nat.add_sub_cancel).symm | decide) (kI (bc' := (Bc + 11)) (bs' := (Bs + 3005)) (by first | exact Nat.le_refl _ | exact Nat.le_add_right _ _ | exact Nat.zero_le _ | exact Nat.le_add_left _ _ | exact Nat.le_of_eq (Nat.add_sub_cancel).symm | decide) (by first | exact Nat.le_refl _ | exact Nat.le_add_right _ _ | exact Nat.zero_le _ | exact Nat.le_add_left _ _ | exact Nat.le_of_eq (Nat.add_sub_cancel).symm | decide) (fun x438 M434 h_5 => ?_))
  refine fw_aload_n (i := 2) 2 rfl (show decode _ _ = .ok (.aload_n 2, 1) by decide +kernel) ?_
  refine fw_aload_n (i := 0) 0 rfl (show decode _ _ = .ok (.aload_n 0, 1) by decide +kernel) ?_
  refine fw_iload_n (i := 3) 3 rfl (show decode _ _ = .ok (.iload_n 3, 1) by decide +kernel) ?_
  refine fw_iconst (v := (1 : Int32)) (show decode _ _ = .ok (.iconst 1, 1) by decide +kernel) (by decide) ?_
  refine fw_iadd (show decode _ _ = .ok (.iadd, 1) by decide +kernel) ?_
  obtain ⟨⟨n439, hs440, hi441⟩, h_6⟩ := h_5
  refine fw_iald (show decode _ _ = .ok (.iaload, 1) by decide +kernel) hs440 hi441 ?_
  refine fw_aload_n (i := 0) 0 rfl (show decode _ _ = .ok (.aload_n 0, 1) by decide +kernel) ?_
  refine fw_iload_n (i := 3) 3 rfl (show decode _ _ = .ok (.iload_n 3, 1) by decide +kernel) ?_
  refine fw_iconst (v := (2 : Int32)) (show decode _ _ = .ok (.iconst 2, 1) by decide +kernel) (by decide) ?_
  refine fw_iadd (show decode _ _ = .ok (.iadd, 1) by decide +kernel) ?_
  obtain ⟨⟨n442, hs443, hi444⟩, h_7⟩ := h_6
  refine fw_iald (show decode _ _ = .ok (.iaload, 1) by decide +kernel) hs443 hi444 ?_
  refine fw_aload_n (i := 0) 0 rfl (show decode _ _ = .ok (.aload_n 0, 1) by decide +kernel) ?_
  refine fw_iload_n (i := 3) 3 rfl (show decode _ _ = .ok (.iload_n 3, 1) by decide +kernel) ?_
  refine fw_iconst (v := (3 : Int32)) (show decode _ _ = .ok (.iconst 3, 1) by decide +kernel) (by decide) ?_
  refine fw_iadd (show decode _ _ = .ok (.iadd, 1) by decide +kernel) ?_
  obtain ⟨⟨n445, hs446, hi447⟩, h_8⟩ := h_7
  refine fw_iald (show decode _ _ = .ok (.iaload, 1) by decide +kernel) hs446 hi447 ?_
  obtain ⟨⟨hr450, n449, hs451⟩, h_9⟩ := h_8
  refine fw_callV (mt' := mtX11_from) (mc := 0) (ms := 0) (As := [.int (mI M434 p0 (ix (p3 + (1 : Int32)))), .int (mI M434 p0 (ix (p3 + (2 : Int32)))), .int (mI M434 p0 (ix (p3 + (3 : Int32))))]) (rest := [.int x438]) 3 11 n449 (show decode _ _ = .ok (.invokevirtual 127, 3) by decide +kernel) cv_L_127 ⟨_, rfl, rfl⟩ hr450 hs451 rfl (Nat.le_of_ble_eq_true rfl) (s_X11_from (d := d) (hd_le hd (by decide)) h_9) (by first | exact Nat.le_refl _ | exact Nat.le_add_right _ _ | exact Nat.zero_le _ | exact Nat.le_add_left _ _ | exact Nat.le_of_eq (Nat.add_sub_cancel).symm | decide) (by first | exact Nat.le_refl _ | exact Nat.le_add_right _ _ | exact Nat.zero_le _ | exact Nat.le_add_left _ _ | exact Nat.le_of_eq (Nat.add_sub_cancel).symm | decide) (kI (bc' := (Bc + 11)) (bs' := (Bs + 3005)) (by first | exact Nat.le_refl _ | exact Nat.le_add_right _ _ | exact Nat.zero_le _ | exact Nat.le_add_left _ _ | exact Nat.le_of_eq (Nat.add_sub_cancel).symm | decide) (by first | exact Nat.le_refl _ | exact Nat.le_add_right _ _ | exact Nat.zero_le _ | exact Nat.le_add_left _ _ | exact Nat.le_of_eq (Nat.add_sub_cancel).symm | decide) (fun x452 M448 h_10 => ?_))
  refine fw_icmp_eq 1833 (show decode _ _ = .ok (.if_icmp .eq 702, 3) by decide +kernel) (by decide) (fun hc453 => ?_) (fun hc453 => ?_)
  · have h_11 := ipos hc453 h_10
    refine FW.sub [0, 1, 2, 3] (ls' := [(0, .ref p0), (1, .ref p1), (2, .ref p2), (3, .int p3)]) rfl ?_
    refine FW.room (bc' := Bc) (bs' := Bs) (by first | exact Nat.le_refl _ | exact Nat.le_add_right _ _ | exact Nat.zero_le _ | exact Nat.le_add_left _ _ | exact Nat.le_of_eq (Nat.add_sub_cancel).symm | decide) (by first | exact Nat.le_refl _ | exact Nat.le_add_right _ _ | exact Nat.zero_le _ | exact Nat.le_add_left _ _ | exact Nat.le_of_eq (Nat.add_sub_cancel).symm | decide) ?_
    exact sj_L_law_1833 hd hK18 h_11
  · have h_12 := ineg hc453 h_10
    refine fw_iconst (v := (0 : Int32)) (show decode _ _ = .ok (.iconst 0, 1) by decide +kernel) (by decide) ?_
    exact fw_ret (v := some (.int (0 : Int32))) .ireturn (show decode _ _ = .ok (.ireturn, 1) by decide +kernel) ⟨rfl, Or.inr (Or.inl ⟨rfl, rfl⟩)⟩ ⟨_, rfl, h_12⟩
def j_L_law_1084 (K18 : Nat → Nat → Nat → Int32 → fM → Prop) (φ : Int32 → fM → Prop) (p0 : Nat) (p1 : Nat) (p2 : Nat) (p3 : Int32) (s0 : Int32) (s1 : Int32) (s2 : Int32) (s3 : Int32) (s4 : Int32) (s5 : Nat) (s6 : Int64) (M : fM) : Prop := isO M s5 11 ∧ w_X11_cost s5 s4 s3 s2 s1 s0 M fun x458 M454 => iF ((lg_cmp s6 x458) = 0) (j_L_law_1833 K18 φ p0 p1 p2 p3 M454) (φ (0 : Int32) M454)
set_option maxRecDepth 100000 in
theorem sj_L_law_1084 {g : GT} {d Bc Bs : Nat} (hd : 80 ≤ d + 1) {K18 : Nat → Nat → Nat → Int32 → fM → Prop} {φ : Int32 → fM → Prop} (hK18 : ∀ (p0 : Nat) (p1 : Nat) (p2 : Nat) (p3 : Int32) (M : fM), K18 p0 p1 p2 p3 M → FW g mtL_law (d + 1) 18 [(0, .ref p0), (1, .ref p1), (2, .ref p2), (3, .int p3)] [] M Bc Bs (rI φ)) {p0 : Nat} {p1 : Nat} {p2 : Nat} {p3 : Int32} {s0 : Int32} {s1 : Int32} {s2 : Int32} {s3 : Int32} {s4 : Int32} {s5 : Nat} {s6 : Int64} {M : fM} (h : j_L_law_1084 K18 φ p0 p1 p2 p3 s0 s1 s2 s3 s4 s5 s6 M) : FW g mtL_law (d + 1) 1084 [(0, .ref p0), (1, .ref p1), (2, .ref p2), (3, .int p3)] [.int s0, .int s1, .int s2, .int s3, .int s4, .ref s5, .long s6] M Bc Bs (rI φ) := by
  unfold j_L_law_1084 at h
  obtain ⟨⟨hr456, n455, hs457⟩, h_1⟩ := h
  refine fw_callV (mt' := mtX11_cost) (mc := 0) (ms := 0) (As := [.int s4, .int s3, .int s2, .int s1, .int s0]) (rest := [.long s6]) 5 11 n455 (show decode _ _ = .ok (.invokevirtual 123, 3) by decide +kernel) cv_L_123 ⟨_, rfl, rfl⟩ hr456 hs457 rfl (Nat.le_of_ble_eq_true rfl) (s_X11_cost (d := d) (hd_le hd (by decide)) h_1) (by first | exact Nat.le_refl _ | exact Nat.le_add_right _ _ | exact Nat.zero_le _ | exact Nat.le_add_left _ _ | exact Nat.le_of_eq (Nat.add_sub_cancel).symm | decide) (by first | exact Nat.le_refl _ | exact Nat.le_add_right _ _ | exact Nat.zero_le _ | exact Nat.le_add_left _ _ | exact Nat.le_of_eq (Nat.add_sub_cancel).symm | decide) (kJ (bc' := Bc) (bs' := Bs) (by first | exact Nat.le_refl _ | exact Nat.le_add_right _ _ | exact Nat.zero_le _ | exact Nat.le_add_left _ _ | exact Nat.le_of_eq (Nat.add_sub_cancel).symm | decide) (by first | exact Nat.le_refl _ | exact Nat.le_add_right _ _ | exact Nat.zero_le _ | exact Nat.le_add_left _ _ | exact Nat.le_of_eq (Nat.add_sub_cancel).symm | decide) (fun x458 M454 h_2 => ?_))
  refine fw_lcmp (show decode _ _ = .ok (.lcmp, 1) by decide +kernel) ?_
  refine fw_if_eq 1833 (show decode _ _ = .ok (.ifCond .eq 745, 3) by decide +kernel) (by decide) (fun hc459 => ?_) (fun hc459 => ?_)
  · have h_3 := ipos hc459 h_2
    refine FW.sub [0, 1, 2, 3] (ls' := [(0, .ref p0), (1, .ref p1), (2, .ref p2), (3, .int p3)]) rfl ?_
    exact sj_L_law_1833 hd hK18 h_3
  · have h_4 := ineg hc459 h_2
    refine fw_iconst (v := (0 : Int32)) (show decode _ _ = .ok (.iconst 0, 1) by decide +kernel) (by decide) ?_
    exact fw_ret (v := some (.int (0 : Int32))) .ireturn (show decode _ _ = .ok (.ireturn, 1) by decide +kernel) ⟨rfl, Or.inr (Or.inl ⟨rfl, rfl⟩)⟩ ⟨_, rfl, h_4⟩
def j_L_law_1047 (K18 : Nat → Nat → Nat → Int32 → fM → Prop) (φ : Int32 → fM → Prop) (p0 : Nat) (p1 : Nat) (p2 : Nat) (p3 : Int32) (s0 : Int32) (s1 : Int32) (s2 : Int32) (s3 : Int32) (s4 : Int32) (s5 : Nat) (M : fM) : Prop := isO M s5 10 ∧ w_X10_cost s5 s4 s3 s2 s1 s0 M fun x464 M460 => inA M460 p0 12 (p3 + (1 : Int32)) ∧ inA M460 p0 12 (p3 + (2 : Int32)) ∧ inA M460 p0 12 (p3 + (3 : Int32)) ∧ inA M460 p0 12 (p3 + (4 : Int32)) ∧ inA M460 p0 12 (p3 + (5 : Int32)) ∧ iF ((mI M460 p0 (ix (p3 + (5 : Int32)))) = 0) (j_L_law_1084 K18 φ p0 p1 p2 p3 (0 : Int32) (mI M460 p0 (ix (p3 + (4 : Int32)))) (mI M460 p0 (ix (p3 + (3 : Int32)))) (mI M460 p0 (ix (p3 + (2 : Int32)))) (mI M460 p0 (ix (p3 + (1 : Int32)))) p2 x464 M460) (j_L_law_1084 K18 φ p0 p1 p2 p3 (1 : Int32) (mI M460 p0 (ix (p3 + (4 : Int32)))) (mI M460 p0 (ix (p3 + (3 : Int32)))) (mI M460 p0 (ix (p3 + (2 : Int32)))) (mI M460 p0 (ix (p3 + (1 : Int32)))) p2 x464 M460)
set_option maxRecDepth 100000 in
theorem sj_L_law_1047 {g : GT} {d Bc Bs : Nat} (hd : 80 ≤ d + 1) {K18 : Nat → Nat → Nat → Int32 → fM → Prop} {φ : Int32 → fM → Prop} (hK18 : ∀ (p0 : Nat) (p1 : Nat) (p2 : Nat) (p3 : Int32) (M : fM), K18 p0 p1 p2 p3 M → FW g mtL_law (d + 1) 18 [(0, .ref p0), (1, .ref p1), (2, .ref p2), (3, .int p3)] [] M Bc Bs (rI φ)) {p0 : Nat} {p1 : Nat} {p2 : Nat} {p3 : Int32} {s0 : Int32} {s1 : Int32} {s2 : Int32} {s3 : Int32} {s4 : Int32} {s5 : Nat} {M : fM} (h : j_L_law_1047 K18 φ p0 p1 p2 p3 s0 s1 s2 s3 s4 s5 M) : FW g mtL_law (d + 1) 1047 [(0, .ref p0), (1, .ref p1), (2, .ref p2), (3, .int p3)] [.int s0, .int s1, .int s2, .int s3, .int s4, .ref s5] M Bc Bs (rI φ) := by
  unfold j_L_law_1047 at h
  obtain ⟨⟨hr462, n461, hs463⟩, h_1⟩ := h
  refine fw_callV (mt' := mtX10_cost) (mc := 0) (ms := 0) (As := [.int s4, .int s3, .int s2, .int s1, .int s0]) (rest := []) 5 10 n461 (show decode _ _ = .ok (.invokevirtual 119, 3) by decide +kernel) cv_L_119 ⟨_, rfl, rfl⟩ hr462 hs463 rfl (Nat.le_of_ble_eq_true rfl) (s_X10_cost (d := d) (hd_le hd (by decide)) h_1) (by first | exact Nat.le_refl _ | exact Nat.le_add_right _ _ | exact Nat.zero_le _ | exact Nat.le_add_left _ _ | exact Nat.le_of_eq (Nat.add_sub_cancel).symm | decide) (by first | exact Nat.le_refl _ | exact Nat.le_add_right _ _ | exact Nat.zero_le _ | exact Nat.le_add_left _ _ | exact Nat.le_of_eq (Nat.add_sub_cancel).symm | decide) (kJ (bc' := Bc) (bs' := Bs) (by first | exact Nat.le_refl _ | exact Nat.le_add_right _ _ | exact Nat.zero_le _ | exact Nat.le_add_left _ _ | exact Nat.le_of_eq (Nat.add_sub_cancel).symm | decide) (by first | exact Nat.le_refl _ | exact Nat.le_add_right _ _ | exact Nat.zero_le _ | exact Nat.le_add_left _ _ | exact Nat.le_of_eq (Nat.add_sub_cancel).symm | decide) (fun x464 M460 h_2 => ?_))
  refine fw_aload_n (i := 2) 2 rfl (show decode _ _ = .ok (.aload_n 2, 1) by decide +kernel) ?_
  refine fw_aload_n (i := 0) 0 rfl (show decode _ _ = .ok (.aload_n 0, 1) by decide +kernel) ?_
  refine fw_iload_n (i := 3) 3 rfl (show decode _ _ = .ok (.iload_n 3, 1) by decide +kernel) ?_
  refine fw_iconst (v := (1 : Int32)) (show decode _ _ = .ok (.iconst 1, 1) by decide +kernel) (by decide) ?_
  refine fw_iadd (show decode _ _ = .ok (.iadd, 1) by decide +kernel) ?_
  obtain ⟨⟨n465, hs466, hi467⟩, h_3⟩ := h_2
  refine fw_iald (show decode _ _ = .ok (.iaload, 1) by decide +kernel) hs466 hi467 ?_
  refine fw_aload_n (i := 0) 0 rfl (show decode _ _ = .ok (.aload_n 0, 1) by decide +kernel) ?_
  refine fw_iload_n (i := 3) 3 rfl (show decode _ _ = .ok (.iload_n 3, 1) by decide +kernel) ?_
  refine fw_iconst (v := (2 : Int32)) (show decode _ _ = .ok (.iconst 2, 1) by decide +kernel) (by decide) ?_
  refine fw_iadd (show decode _ _ = .ok (.iadd, 1) by decide +kernel) ?_
  obtain ⟨⟨n468, hs469, hi470⟩, h_4⟩ := h_3
  refine fw_iald (show decode _ _ = .ok (.iaload, 1) by decide +kernel) hs469 hi470 ?_
  refine fw_aload_n (i := 0) 0 rfl (show decode _ _ = .ok (.aload_n 0, 1) by decide +kernel) ?_
  refine fw_iload_n (i := 3) 3 rfl (show decode _ _ = .ok (.iload_n 3, 1) by decide +kernel) ?_
  refine fw_iconst (v := (3 : Int32)) (show decode _ _ = .ok (.iconst 3, 1) by decide +kernel) (by decide) ?_
  refine fw_iadd (show decode _ _ = .ok (.iadd, 1) by decide +kernel) ?_
  obtain ⟨⟨n471, hs472, hi473⟩, h_5⟩ := h_4
  refine fw_iald (show decode _ _ = .ok (.iaload, 1) by decide +kernel) hs472 hi473 ?_
  refine fw_aload_n (i := 0) 0 rfl (show decode _ _ = .ok (.aload_n 0, 1) by decide +kernel) ?_
  refine fw_iload_n (i := 3) 3 rfl (show decode _ _ = .ok (.iload_n 3, 1) by decide +kernel) ?_
  refine fw_iconst (v := (4 : Int32)) (show decode _ _ = .ok (.iconst 4, 1) by decide +kernel) (by decide) ?_
  refine fw_iadd (show decode _ _ = .ok (.iadd, 1) by decide +kernel) ?_
  obtain ⟨⟨n474, hs475, hi476⟩, h_6⟩ := h_5
  refine fw_iald (show decode _ _ = .ok (.iaload, 1) by decide +kernel) hs475 hi476 ?_
  refine fw_aload_n (i := 0) 0 rfl (show decode _ _ = .ok (.aload_n 0, 1) by decide +kernel) ?_
  refine fw_iload_n (i := 3) 3 rfl (show decode _ _ = .ok (.iload_n 3, 1) by decide +kernel) ?_
  refine fw_iconst (v := (5 : Int32)) (show decode _ _ = .ok (.iconst 5, 1) by decide +kernel) (by decide) ?_
  refine fw_iadd (show decode _ _ = .ok (.iadd, 1) by decide +kernel) ?_
  obtain ⟨⟨n477, hs478, hi479⟩, h_7⟩ := h_6
  refine fw_iald (show decode _ _ = .ok (.iaload, 1) by decide +kernel) hs478 hi479 ?_
  refine fw_if_eq 1083 (show decode _ _ = .ok (.ifCond .eq 7, 3) by decide +kernel) (by decide) (fun hc480 => ?_) (fun hc480 => ?_)
  · have h_8 := ipos hc480 h_7
    refine fw_iconst (v := (0 : Int32)) (show decode _ _ = .ok (.iconst 0, 1) by decide +kernel) (by decide) ?_
    refine FW.sub [0, 1, 2, 3] (ls' := [(0, .ref p0), (1, .ref p1), (2, .ref p2), (3, .int p3)]) rfl ?_
    exact sj_L_law_1084 hd hK18 h_8
  · have h_9 := ineg hc480 h_7
    refine fw_iconst (v := (1 : Int32)) (show decode _ _ = .ok (.iconst 1, 1) by decide +kernel) (by decide) ?_
    refine fw_goto 1084 (show decode _ _ = .ok (.goto 4, 3) by decide +kernel) (by decide) ?_
    refine FW.sub [0, 1, 2, 3] (ls' := [(0, .ref p0), (1, .ref p1), (2, .ref p2), (3, .int p3)]) rfl ?_
    exact sj_L_law_1084 hd hK18 h_9
def j_L_law_1013 (K18 : Nat → Nat → Nat → Int32 → fM → Prop) (φ : Int32 → fM → Prop) (p0 : Nat) (p1 : Nat) (p2 : Nat) (p3 : Int32) (M : fM) : Prop := inA M p0 12 (p3 + (1 : Int32)) ∧ inA M p0 12 (p3 + (2 : Int32)) ∧ inA M p0 12 (p3 + (3 : Int32)) ∧ inA M p0 12 (p3 + (4 : Int32)) ∧ inA M p0 12 (p3 + (5 : Int32)) ∧ iF ((mI M p0 (ix (p3 + (5 : Int32)))) = 0) (j_L_law_1047 K18 φ p0 p1 p2 p3 (0 : Int32) (mI M p0 (ix (p3 + (4 : Int32)))) (mI M p0 (ix (p3 + (3 : Int32)))) (mI M p0 (ix (p3 + (2 : Int32)))) (mI M p0 (ix (p3 + (1 : Int32)))) p1 M) (j_L_law_1047 K18 φ p0 p1 p2 p3 (1 : Int32) (mI M p0 (ix (p3 + (4 : Int32)))) (mI M p0 (ix (p3 + (3 : Int32)))) (mI M p0 (ix (p3 + (2 : Int32)))) (mI M p0 (ix (p3 + (1 : Int32)))) p1 M)
set_option maxRecDepth 100000 in
theorem sj_L_law_1013 {g : GT} {d Bc Bs : Nat} (hd : 80 ≤ d + 1) {K18 : Nat → Nat → Nat → Int32 → fM → Prop} {φ : Int32 → fM → Prop} (hK18 : ∀ (p0 : Nat) (p1 : Nat) (p2 : Nat) (p3 : Int32) (M : fM), K18 p0 p1 p2 p3 M → FW g mtL_law (d + 1) 18 [(0, .ref p0), (1, .ref p1), (2, .ref p2), (3, .int p3)] [] M Bc Bs (rI φ)) {p0 : Nat} {p1 : Nat} {p2 : Nat} {p3 : Int32} {M : fM} (h : j_L_law_1013 K18 φ p0 p1 p2 p3 M) : FW g mtL_law (d + 1) 1013 [(0, .ref p0), (1, .ref p1), (2, .ref p2), (3, .int p3)] [] M (Bc + 11) (Bs + 3005) (rI φ) := by
  unfold j_L_law_1013 at h
  refine fw_aload_n (i := 1) 1 rfl (show decode _ _ = .ok (.aload_n 1, 1) by decide +kernel) ?_
  refine fw_aload_n (i := 0) 0 rfl (show decode _ _ = .ok (.aload_n 0, 1) by decide +kernel) ?_
  refine fw_iload_n (i := 3) 3 rfl (show decode _ _ = .ok (.iload_n 3, 1) by decide +kernel) ?_
  refine fw_iconst (v := (1 : Int32)) (show decode _ _ = .ok (.iconst 1, 1) by decide +kernel) (by decide) ?_
  refine fw_iadd (show decode _ _ = .ok (.iadd, 1) by decide +kernel) ?_
  obtain ⟨⟨n481, hs482, hi483⟩, h_1⟩ := h
  refine fw_iald (show decode _ _ = .ok (.iaload, 1) by decide +kernel) hs482 hi483 ?_
  refine fw_aload_n (i := 0) 0 rfl (show decode _ _ = .ok (.aload_n 0, 1) by decide +kernel) ?_
  refine fw_iload_n (i := 3) 3 rfl (show decode _ _ = .ok (.iload_n 3, 1) by decide +kernel) ?_
  refine fw_iconst (v := (2 : Int32)) (show decode _ _ = .ok (.iconst 2, 1) by decide +kernel) (by decide) ?_
  refine fw_iadd (show decode _ _ = .ok (.iadd, 1) by decide +kernel) ?_
  obtain ⟨⟨n484, hs485, hi486⟩, h_2⟩ := h_1
  refine fw_iald (show decode _ _ = .ok (.iaload, 1) by decide +kernel) hs485 hi486 ?_
  refine fw_aload_n (i := 0) 0 rfl (show decode _ _ = .ok (.aload_n 0, 1) by decide +kernel) ?_
  refine fw_iload_n (i := 3) 3 rfl (show decode _ _ = .ok (.iload_n 3, 1) by decide +kernel) ?_
  refine fw_iconst (v := (3 : Int32)) (show decode _ _ = .ok (.iconst 3, 1) by decide +kernel) (by decide) ?_
  refine fw_iadd (show decode _ _ = .ok (.iadd, 1) by decide +kernel) ?_
  obtain ⟨⟨n487, hs488, hi489⟩, h_3⟩ := h_2
  refine fw_iald (show decode _ _ = .ok (.iaload, 1) by decide +kernel) hs488 hi489 ?_
  refine fw_aload_n (i := 0) 0 rfl (show decode _ _ = .ok (.aload_n 0, 1) by decide +kernel) ?_
  refine fw_iload_n (i := 3) 3 rfl (show decode _ _ = .ok (.iload_n 3, 1) by decide +kernel) ?_
  refine fw_iconst (v := (4 : Int32)) (show decode _ _ = .ok (.iconst 4, 1) by decide +kernel) (by decide) ?_
  refine fw_iadd (show decode _ _ = .ok (.iadd, 1) by decide +kernel) ?_
  obtain ⟨⟨n490, hs491, hi492⟩, h_4⟩ := h_3
  refine fw_iald (show decode _ _ = .ok (.iaload, 1) by decide +kernel) hs491 hi492 ?_
  refine fw_aload_n (i := 0) 0 rfl (show decode _ _ = .ok (.aload_n 0, 1) by decide +kernel) ?_
  refine fw_iload_n (i := 3) 3 rfl (show decode _ _ = .ok (.iload_n 3, 1) by decide +kernel) ?_
  refine fw_iconst (v := (5 : Int32)) (show decode _ _ = .ok (.iconst 5, 1) by decide +kernel) (by decide) ?_
  refine fw_iadd (show decode _ _ = .ok (.iadd, 1) by decide +kernel) ?_
  obtain ⟨⟨n493, hs494, hi495⟩, h_5⟩ := h_4
  refine fw_iald (show decode _ _ = .ok (.iaload, 1) by decide +kernel) hs494 hi495 ?_
  refine fw_if_eq 1046 (show decode _ _ = .ok (.ifCond .eq 7, 3) by decide +kernel) (by decide) (fun hc496 => ?_) (fun hc496 => ?_)
  · have h_6 := ipos hc496 h_5
    refine fw_iconst (v := (0 : Int32)) (show decode _ _ = .ok (.iconst 0, 1) by decide +kernel) (by decide) ?_
    refine FW.sub [0, 1, 2, 3] (ls' := [(0, .ref p0), (1, .ref p1), (2, .ref p2), (3, .int p3)]) rfl ?_
    refine FW.room (bc' := Bc) (bs' := Bs) (by first | exact Nat.le_refl _ | exact Nat.le_add_right _ _ | exact Nat.zero_le _ | exact Nat.le_add_left _ _ | exact Nat.le_of_eq (Nat.add_sub_cancel).symm | decide) (by first | exact Nat.le_refl _ | exact Nat.le_add_right _ _ | exact Nat.zero_le _ | exact Nat.le_add_left _ _ | exact Nat.le_of_eq (Nat.add_sub_cancel).symm | decide) ?_
    exact sj_L_law_1047 hd hK18 h_6
  · have h_7 := ineg hc496 h_5
    refine fw_iconst (v := (1 : Int32)) (show decode _ _ = .ok (.iconst 1, 1) by decide +kernel) (by decide) ?_
    refine fw_goto 1047 (show decode _ _ = .ok (.goto 4, 3) by decide +kernel) (by decide) ?_
    refine FW.sub [0, 1, 2, 3] (ls' := [(0, .ref p0), (1, .ref p1), (2, .ref p2), (3, .int p3)]) rfl ?_
    refine FW.room (bc' := Bc) (bs' := Bs) (by first | exact Nat.le_refl _ | exact Nat.le_add_right _ _ | exact Nat.zero_le _ | exact Nat.le_add_left _ _ | exact Nat.le_of_eq (Nat.add_sub_cancel).symm | decide) (by first | exact Nat.le_refl _ | exact Nat.le_add_right _ _ | exact Nat.zero_le _ | exact Nat.le_add_left _ _ | exact Nat.le_of_eq (Nat.add_sub_cancel).symm | decide) ?_
    exact sj_L_law_1047 hd hK18 h_7
def j_L_law_1004 (K18 : Nat → Nat → Nat → Int32 → fM → Prop) (φ : Int32 → fM → Prop) (p0 : Nat) (p1 : Nat) (p2 : Nat) (p3 : Int32) (s0 : Int32) (s1 : Int32) (s2 : Int32) (s3 : Int32) (s4 : Int32) (s5 : Int32) (s6 : Nat) (s7 : Int64) (M : fM) : Prop := isO M s6 11 ∧ w_X11_where s6 s5 s4 s3 s2 s1 s0 M fun x501 M497 => iF ((lg_cmp s7 x501) = 0) (j_L_law_1833 K18 φ p0 p1 p2 p3 M497) (φ (0 : Int32) M497)
set_option maxRecDepth 100000 in
theorem sj_L_law_1004 {g : GT} {d Bc Bs : Nat} (hd : 80 ≤ d + 1) {K18 : Nat → Nat → Nat → Int32 → fM → Prop} {φ : Int32 → fM → Prop} (hK18 : ∀ (p0 : Nat) (p1 : Nat) (p2 : Nat) (p3 : Int32) (M : fM), K18 p0 p1 p2 p3 M → FW g mtL_law (d + 1) 18 [(0, .ref p0), (1, .ref p1), (2, .ref p2), (3, .int p3)] [] M Bc Bs (rI φ)) {p0 : Nat} {p1 : Nat} {p2 : Nat} {p3 : Int32} {s0 : Int32} {s1 : Int32} {s2 : Int32} {s3 : Int32} {s4 : Int32} {s5 : Int32} {s6 : Nat} {s7 : Int64} {M : fM} (h : j_L_law_1004 K18 φ p0 p1 p2 p3 s0 s1 s2 s3 s4 s5 s6 s7 M) : FW g mtL_law (d + 1) 1004 [(0, .ref p0), (1, .ref p1), (2, .ref p2), (3, .int p3)] [.int s0, .int s1, .int s2, .int s3, .int s4, .int s5, .ref s6, .long s7] M Bc Bs (rI φ) := by
  unfold j_L_law_1004 at h
  obtain ⟨⟨hr499, n498, hs500⟩, h_1⟩ := h
  refine fw_callV (mt' := mtX11_where) (mc := 0) (ms := 0) (As := [.int s5, .int s4, .int s3, .int s2, .int s1, .int s0]) (rest := [.long s7]) 6 11 n498 (show decode _ _ = .ok (.invokevirtual 118, 3) by decide +kernel) cv_L_118 ⟨_, rfl, rfl⟩ hr499 hs500 rfl (Nat.le_of_ble_eq_true rfl) (s_X11_where (d := d) (hd_le hd (by decide)) h_1) (by first | exact Nat.le_refl _ | exact Nat.le_add_right _ _ | exact Nat.zero_le _ | exact Nat.le_add_left _ _ | exact Nat.le_of_eq (Nat.add_sub_cancel).symm | decide) (by first | exact Nat.le_refl _ | exact Nat.le_add_right _ _ | exact Nat.zero_le _ | exact Nat.le_add_left _ _ | exact Nat.le_of_eq (Nat.add_sub_cancel).symm | decide) (kJ (bc' := Bc) (bs' := Bs) (by first | exact Nat.le_refl _ | exact Nat.le_add_right _ _ | exact Nat.zero_le _ | exact Nat.le_add_left _ _ | exact Nat.le_of_eq (Nat.add_sub_cancel).symm | decide) (by first | exact Nat.le_refl _ | exact Nat.le_add_right _ _ | exact Nat.zero_le _ | exact Nat.le_add_left _ _ | exact Nat.le_of_eq (Nat.add_sub_cancel).symm | decide) (fun x501 M497 h_2 => ?_))
  refine fw_lcmp (show decode _ _ = .ok (.lcmp, 1) by decide +kernel) ?_
  refine fw_if_eq 1833 (show decode _ _ = .ok (.ifCond .eq 825, 3) by decide +kernel) (by decide) (fun hc502 => ?_) (fun hc502 => ?_)
  · have h_3 := ipos hc502 h_2
    refine FW.sub [0, 1, 2, 3] (ls' := [(0, .ref p0), (1, .ref p1), (2, .ref p2), (3, .int p3)]) rfl ?_
    exact sj_L_law_1833 hd hK18 h_3
  · have h_4 := ineg hc502 h_2
    refine fw_iconst (v := (0 : Int32)) (show decode _ _ = .ok (.iconst 0, 1) by decide +kernel) (by decide) ?_
    exact fw_ret (v := some (.int (0 : Int32))) .ireturn (show decode _ _ = .ok (.ireturn, 1) by decide +kernel) ⟨rfl, Or.inr (Or.inl ⟨rfl, rfl⟩)⟩ ⟨_, rfl, h_4⟩
def j_L_law_961 (K18 : Nat → Nat → Nat → Int32 → fM → Prop) (φ : Int32 → fM → Prop) (p0 : Nat) (p1 : Nat) (p2 : Nat) (p3 : Int32) (s0 : Int32) (s1 : Int32) (s2 : Int32) (s3 : Int32) (s4 : Int32) (s5 : Int32) (s6 : Nat) (M : fM) : Prop := isO M s6 10 ∧ w_X10_where s6 s5 s4 s3 s2 s1 s0 M fun x507 M503 => inA M503 p0 12 (p3 + (1 : Int32)) ∧ inA M503 p0 12 (p3 + (2 : Int32)) ∧ inA M503 p0 12 (p3 + (3 : Int32)) ∧ inA M503 p0 12 (p3 + (4 : Int32)) ∧ inA M503 p0 12 (p3 + (5 : Int32)) ∧ inA M503 p0 12 (p3 + (6 : Int32)) ∧ iF ((mI M503 p0 (ix (p3 + (6 : Int32)))) = 0) (j_L_law_1004 K18 φ p0 p1 p2 p3 (0 : Int32) (mI M503 p0 (ix (p3 + (5 : Int32)))) (mI M503 p0 (ix (p3 + (4 : Int32)))) (mI M503 p0 (ix (p3 + (3 : Int32)))) (mI M503 p0 (ix (p3 + (2 : Int32)))) (mI M503 p0 (ix (p3 + (1 : Int32)))) p2 x507 M503) (j_L_law_1004 K18 φ p0 p1 p2 p3 (1 : Int32) (mI M503 p0 (ix (p3 + (5 : Int32)))) (mI M503 p0 (ix (p3 + (4 : Int32)))) (mI M503 p0 (ix (p3 + (3 : Int32)))) (mI M503 p0 (ix (p3 + (2 : Int32)))) (mI M503 p0 (ix (p3 + (1 : Int32)))) p2 x507 M503)
set_option maxRecDepth 100000 in
theorem sj_L_law_961 {g : GT} {d Bc Bs : Nat} (hd : 80 ≤ d + 1) {K18 : Nat → Nat → Nat → Int32 → fM → Prop} {φ : Int32 → fM → Prop} (hK18 : ∀ (p0 : Nat) (p1 : Nat) (p2 : Nat) (p3 : Int32) (M : fM), K18 p0 p1 p2 p3 M → FW g mtL_law (d + 1) 18 [(0, .ref p0), (1, .ref p1), (2, .ref p2), (3, .int p3)] [] M Bc Bs (rI φ)) {p0 : Nat} {p1 : Nat} {p2 : Nat} {p3 : Int32} {s0 : Int32} {s1 : Int32} {s2 : Int32} {s3 : Int32} {s4 : Int32} {s5 : Int32} {s6 : Nat} {M : fM} (h : j_L_law_961 K18 φ p0 p1 p2 p3 s0 s1 s2 s3 s4 s5 s6 M) : FW g mtL_law (d + 1) 961 [(0, .ref p0), (1, .ref p1), (2, .ref p2), (3, .int p3)] [.int s0, .int s1, .int s2, .int s3, .int s4, .int s5, .ref s6] M Bc Bs (rI φ) := by
  unfold j_L_law_961 at h
  obtain ⟨⟨hr505, n504, hs506⟩, h_1⟩ := h
  refine fw_callV (mt' := mtX10_where) (mc := 0) (ms := 0) (As := [.int s5, .int s4, .int s3, .int s2, .int s1, .int s0]) (rest := []) 6 10 n504 (show decode _ _ = .ok (.invokevirtual 114, 3) by decide +kernel) cv_L_114 ⟨_, rfl, rfl⟩ hr505 hs506 rfl (Nat.le_of_ble_eq_true rfl) (s_X10_where (d := d) (hd_le hd (by decide)) h_1) (by first | exact Nat.le_refl _ | exact Nat.le_add_right _ _ | exact Nat.zero_le _ | exact Nat.le_add_left _ _ | exact Nat.le_of_eq (Nat.add_sub_cancel).symm | decide) (by first | exact Nat.le_refl _ | exact Nat.le_add_right _ _ | exact Nat.zero_le _ | exact Nat.le_add_left _ _ | exact Nat.le_of_eq (Nat.add_sub_cancel).symm | decide) (kJ (bc' := Bc) (bs' := Bs) (by first | exact Nat.le_refl _ | exact Nat.le_add_right _ _ | exact Nat.zero_le _ | exact Nat.le_add_left _ _ | exact Nat.le_of_eq (Nat.add_sub_cancel).symm | decide) (by first | exact Nat.le_refl _ | exact Nat.le_add_right _ _ | exact Nat.zero_le _ | exact Nat.le_add_left _ _ | exact Nat.le_of_eq (Nat.add_sub_cancel).symm | decide) (fun x507 M503 h_2 => ?_))
  refine fw_aload_n (i := 2) 2 rfl (show decode _ _ = .ok (.aload_n 2, 1) by decide +kernel) ?_
  refine fw_aload_n (i := 0) 0 rfl (show decode _ _ = .ok (.aload_n 0, 1) by decide +kernel) ?_
  refine fw_iload_n (i := 3) 3 rfl (show decode _ _ = .ok (.iload_n 3, 1) by decide +kernel) ?_
  refine fw_iconst (v := (1 : Int32)) (show decode _ _ = .ok (.iconst 1, 1) by decide +kernel) (by decide) ?_
  refine fw_iadd (show decode _ _ = .ok (.iadd, 1) by decide +kernel) ?_
  obtain ⟨⟨n508, hs509, hi510⟩, h_3⟩ := h_2
  refine fw_iald (show decode _ _ = .ok (.iaload, 1) by decide +kernel) hs509 hi510 ?_
  refine fw_aload_n (i := 0) 0 rfl (show decode _ _ = .ok (.aload_n 0, 1) by decide +kernel) ?_
  refine fw_iload_n (i := 3) 3 rfl (show decode _ _ = .ok (.iload_n 3, 1) by decide +kernel) ?_
  refine fw_iconst (v := (2 : Int32)) (show decode _ _ = .ok (.iconst 2, 1) by decide +kernel) (by decide) ?_
  refine fw_iadd (show decode _ _ = .ok (.iadd, 1) by decide +kernel) ?_
  obtain ⟨⟨n511, hs512, hi513⟩, h_4⟩ := h_3
  refine fw_iald (show decode _ _ = .ok (.iaload, 1) by decide +kernel) hs512 hi513 ?_
  refine fw_aload_n (i := 0) 0 rfl (show decode _ _ = .ok (.aload_n 0, 1) by decide +kernel) ?_
  refine fw_iload_n (i := 3) 3 rfl (show decode _ _ = .ok (.iload_n 3, 1) by decide +kernel) ?_
  refine fw_iconst (v := (3 : Int32)) (show decode _ _ = .ok (.iconst 3, 1) by decide +kernel) (by decide) ?_
  refine fw_iadd (show decode _ _ = .ok (.iadd, 1) by decide +kernel) ?_
  obtain ⟨⟨n514, hs515, hi516⟩, h_5⟩ := h_4
  refine fw_iald (show decode _ _ = .ok (.iaload, 1) by decide +kernel) hs515 hi516 ?_
  refine fw_aload_n (i := 0) 0 rfl (show decode _ _ = .ok (.aload_n 0, 1) by decide +kernel) ?_
  refine fw_iload_n (i := 3) 3 rfl (show decode _ _ = .ok (.iload_n 3, 1) by decide +kernel) ?_
  refine fw_iconst (v := (4 : Int32)) (show decode _ _ = .ok (.iconst 4, 1) by decide +kernel) (by decide) ?_
  refine fw_iadd (show decode _ _ = .ok (.iadd, 1) by decide +kernel) ?_
  obtain ⟨⟨n517, hs518, hi519⟩, h_6⟩ := h_5
  refine fw_iald (show decode _ _ = .ok (.iaload, 1) by decide +kernel) hs518 hi519 ?_
  refine fw_aload_n (i := 0) 0 rfl (show decode _ _ = .ok (.aload_n 0, 1) by decide +kernel) ?_
  refine fw_iload_n (i := 3) 3 rfl (show decode _ _ = .ok (.iload_n 3, 1) by decide +kernel) ?_
  refine fw_iconst (v := (5 : Int32)) (show decode _ _ = .ok (.iconst 5, 1) by decide +kernel) (by decide) ?_
  refine fw_iadd (show decode _ _ = .ok (.iadd, 1) by decide +kernel) ?_
  obtain ⟨⟨n520, hs521, hi522⟩, h_7⟩ := h_6
  refine fw_iald (show decode _ _ = .ok (.iaload, 1) by decide +kernel) hs521 hi522 ?_
  refine fw_aload_n (i := 0) 0 rfl (show decode _ _ = .ok (.aload_n 0, 1) by decide +kernel) ?_
  refine fw_iload_n (i := 3) 3 rfl (show decode _ _ = .ok (.iload_n 3, 1) by decide +kernel) ?_
  refine fw_bipush (v := (6 : Int32)) (show decode _ _ = .ok (.bipush 6, 2) by decide +kernel) (by decide) ?_
  refine fw_iadd (show decode _ _ = .ok (.iadd, 1) by decide +kernel) ?_
  obtain ⟨⟨n523, hs524, hi525⟩, h_8⟩ := h_7
  refine fw_iald (show decode _ _ = .ok (.iaload, 1) by decide +kernel) hs524 hi525 ?_
  refine fw_if_eq 1003 (show decode _ _ = .ok (.ifCond .eq 7, 3) by decide +kernel) (by decide) (fun hc526 => ?_) (fun hc526 => ?_)
  · have h_9 := ipos hc526 h_8
    refine fw_iconst (v := (0 : Int32)) (show decode _ _ = .ok (.iconst 0, 1) by decide +kernel) (by decide) ?_
    refine FW.sub [0, 1, 2, 3] (ls' := [(0, .ref p0), (1, .ref p1), (2, .ref p2), (3, .int p3)]) rfl ?_
    exact sj_L_law_1004 hd hK18 h_9
  · have h_10 := ineg hc526 h_8
    refine fw_iconst (v := (1 : Int32)) (show decode _ _ = .ok (.iconst 1, 1) by decide +kernel) (by decide) ?_
    refine fw_goto 1004 (show decode _ _ = .ok (.goto 4, 3) by decide +kernel) (by decide) ?_
    refine FW.sub [0, 1, 2, 3] (ls' := [(0, .ref p0), (1, .ref p1), (2, .ref p2), (3, .int p3)]) rfl ?_
    exact sj_L_law_1004 hd hK18 h_10
def j_L_law_921 (K18 : Nat → Nat → Nat → Int32 → fM → Prop) (φ : Int32 → fM → Prop) (p0 : Nat) (p1 : Nat) (p2 : Nat) (p3 : Int32) (M : fM) : Prop := inA M p0 12 (p3 + (1 : Int32)) ∧ inA M p0 12 (p3 + (2 : Int32)) ∧ inA M p0 12 (p3 + (3 : Int32)) ∧ inA M p0 12 (p3 + (4 : Int32)) ∧ inA M p0 12 (p3 + (5 : Int32)) ∧ inA M p0 12 (p3 + (6 : Int32)) ∧ iF ((mI M p0 (ix (p3 + (6 : Int32)))) = 0) (j_L_law_961 K18 φ p0 p1 p2 p3 (0 : Int32) (mI M p0 (ix (p3 + (5 : Int32)))) (mI M p0 (ix (p3 + (4 : Int32)))) (mI M p0 (ix (p3 + (3 : Int32)))) (mI M p0 (ix (p3 + (2 : Int32)))) (mI M p0 (ix (p3 + (1 : Int32)))) p1 M) (j_L_law_961 K18 φ p0 p1 p2 p3 (1 : Int32) (mI M p0 (ix (p3 + (5 : Int32)))) (mI M p0 (ix (p3 + (4 : Int32)))) (mI M p0 (ix (p3 + (3 : Int32)))) (mI M p0 (ix (p3 + (2 : Int32)))) (mI M p0 (ix (p3 + (1 : Int32)))) p1 M)
set_option maxRecDepth 100000 in
theorem sj_L_law_921 {g : GT} {d Bc Bs : Nat} (hd : 80 ≤ d + 1) {K18 : Nat → Nat → Nat → Int32 → fM → Prop} {φ : Int32 → fM → Prop} (hK18 : ∀ (p0 : Nat) (p1 : Nat) (p2 : Nat) (p3 : Int32) (M : fM), K18 p0 p1 p2 p3 M → FW g mtL_law (d + 1) 18 [(0, .ref p0), (1, .ref p1), (2, .ref p2), (3, .int p3)] [] M Bc Bs (rI φ)) {p0 : Nat} {p1 : Nat} {p2 : Nat} {p3 : Int32} {M : fM} (h : j_L_law_921 K18 φ p0 p1 p2 p3 M) : FW g mtL_law (d + 1) 921 [(0, .ref p0), (1, .ref p1), (2, .ref p2), (3, .int p3)] [] M (Bc + 11) (Bs + 3005) (rI φ) := by
  unfold j_L_law_921 at h
  refine fw_aload_n (i := 1) 1 rfl (show decode _ _ = .ok (.aload_n 1, 1) by decide +kernel) ?_
  refine fw_aload_n (i := 0) 0 rfl (show decode _ _ = .ok (.aload_n 0, 1) by decide +kernel) ?_
  refine fw_iload_n (i := 3) 3 rfl (show decode _ _ = .ok (.iload_n 3, 1) by decide +kernel) ?_
  refine fw_iconst (v := (1 : Int32)) (show decode _ _ = .ok (.iconst 1, 1) by decide +kernel) (by decide) ?_
  refine fw_iadd (show decode _ _ = .ok (.iadd, 1) by decide +kernel) ?_
  obtain ⟨⟨n527, hs528, hi529⟩, h_1⟩ := h
  refine fw_iald (show decode _ _ = .ok (.iaload, 1) by decide +kernel) hs528 hi529 ?_
  refine fw_aload_n (i := 0) 0 rfl (show decode _ _ = .ok (.aload_n 0, 1) by decide +kernel) ?_
  refine fw_iload_n (i := 3) 3 rfl (show decode _ _ = .ok (.iload_n 3, 1) by decide +kernel) ?_
  refine fw_iconst (v := (2 : Int32)) (show decode _ _ = .ok (.iconst 2, 1) by decide +kernel) (by decide) ?_
  refine fw_iadd (show decode _ _ = .ok (.iadd, 1) by decide +kernel) ?_
  obtain ⟨⟨n530, hs531, hi532⟩, h_2⟩ := h_1
  refine fw_iald (show decode _ _ = .ok (.iaload, 1) by decide +kernel) hs531 hi532 ?_
  refine fw_aload_n (i := 0) 0 rfl (show decode _ _ = .ok (.aload_n 0, 1) by decide +kernel) ?_
  refine fw_iload_n (i := 3) 3 rfl (show decode _ _ = .ok (.iload_n 3, 1) by decide +kernel) ?_
  refine fw_iconst (v := (3 : Int32)) (show decode _ _ = .ok (.iconst 3, 1) by decide +kernel) (by decide) ?_
  refine fw_iadd (show decode _ _ = .ok (.iadd, 1) by decide +kernel) ?_
  obtain ⟨⟨n533, hs534, hi535⟩, h_3⟩ := h_2
  refine fw_iald (show decode _ _ = .ok (.iaload, 1) by decide +kernel) hs534 hi535 ?_
  refine fw_aload_n (i := 0) 0 rfl (show decode _ _ = .ok (.aload_n 0, 1) by decide +kernel) ?_
  refine fw_iload_n (i := 3) 3 rfl (show decode _ _ = .ok (.iload_n 3, 1) by decide +kernel) ?_
  refine fw_iconst (v := (4 : Int32)) (show decode _ _ = .ok (.iconst 4, 1) by decide +kernel) (by decide) ?_
  refine fw_iadd (show decode _ _ = .ok (.iadd, 1) by decide +kernel) ?_
  obtain ⟨⟨n536, hs537, hi538⟩, h_4⟩ := h_3
  refine fw_iald (show decode _ _ = .ok (.iaload, 1) by decide +kernel) hs537 hi538 ?_
  refine fw_aload_n (i := 0) 0 rfl (show decode _ _ = .ok (.aload_n 0, 1) by decide +kernel) ?_
  refine fw_iload_n (i := 3) 3 rfl (show decode _ _ = .ok (.iload_n 3, 1) by decide +kernel) ?_
  refine fw_iconst (v := (5 : Int32)) (show decode _ _ = .ok (.iconst 5, 1) by decide +kernel) (by decide) ?_
  refine fw_iadd (show decode _ _ = .ok (.iadd, 1) by decide +kernel) ?_
  obtain ⟨⟨n539, hs540, hi541⟩, h_5⟩ := h_4
  refine fw_iald (show decode _ _ = .ok (.iaload, 1) by decide +kernel) hs540 hi541 ?_
  refine fw_aload_n (i := 0) 0 rfl (show decode _ _ = .ok (.aload_n 0, 1) by decide +kernel) ?_
  refine fw_iload_n (i := 3) 3 rfl (show decode _ _ = .ok (.iload_n 3, 1) by decide +kernel) ?_
  refine fw_bipush (v := (6 : Int32)) (show decode _ _ = .ok (.bipush 6, 2) by decide +kernel) (by decide) ?_
  refine fw_iadd (show decode _ _ = .ok (.iadd, 1) by decide +kernel) ?_
  obtain ⟨⟨n542, hs543, hi544⟩, h_6⟩ := h_5
  refine fw_iald (show decode _ _ = .ok (.iaload, 1) by decide +kernel) hs543 hi544 ?_
  refine fw_if_eq 960 (show decode _ _ = .ok (.ifCond .eq 7, 3) by decide +kernel) (by decide) (fun hc545 => ?_) (fun hc545 => ?_)
  · have h_7 := ipos hc545 h_6
    refine fw_iconst (v := (0 : Int32)) (show decode _ _ = .ok (.iconst 0, 1) by decide +kernel) (by decide) ?_
    refine FW.sub [0, 1, 2, 3] (ls' := [(0, .ref p0), (1, .ref p1), (2, .ref p2), (3, .int p3)]) rfl ?_
    refine FW.room (bc' := Bc) (bs' := Bs) (by first | exact Nat.le_refl _ | exact Nat.le_add_right _ _ | exact Nat.zero_le _ | exact Nat.le_add_left _ _ | exact Nat.le_of_eq (Nat.add_sub_cancel).symm | decide) (by first | exact Nat.le_refl _ | exact Nat.le_add_right _ _ | exact Nat.zero_le _ | exact Nat.le_add_left _ _ | exact Nat.le_of_eq (Nat.add_sub_cancel).symm | decide) ?_
    exact sj_L_law_961 hd hK18 h_7
  · have h_8 := ineg hc545 h_6
    refine fw_iconst (v := (1 : Int32)) (show decode _ _ = .ok (.iconst 1, 1) by decide +kernel) (by decide) ?_
    refine fw_goto 961 (show decode _ _ = .ok (.goto 4, 3) by decide +kernel) (by decide) ?_
    refine FW.sub [0, 1, 2, 3] (ls' := [(0, .ref p0), (1, .ref p1), (2, .ref p2), (3, .int p3)]) rfl ?_
    refine FW.room (bc' := Bc) (bs' := Bs) (by first | exact Nat.le_refl _ | exact Nat.le_add_right _ _ | exact Nat.zero_le _ | exact Nat.le_add_left _ _ | exact Nat.le_of_eq (Nat.add_sub_cancel).symm | decide) (by first | exact Nat.le_refl _ | exact Nat.le_add_right _ _ | exact Nat.zero_le _ | exact Nat.le_add_left _ _ | exact Nat.le_of_eq (Nat.add_sub_cancel).symm | decide) ?_
    exact sj_L_law_961 hd hK18 h_8
def j_L_law_888 (K18 : Nat → Nat → Nat → Int32 → fM → Prop) (φ : Int32 → fM → Prop) (p0 : Nat) (p1 : Nat) (p2 : Nat) (p3 : Int32) (M : fM) : Prop := inA M p0 12 (p3 + (1 : Int32)) ∧ inA M p0 12 (p3 + (2 : Int32)) ∧ isO M p1 10 ∧ w_X10_book p1 (mI M p0 (ix (p3 + (1 : Int32)))) (mI M p0 (ix (p3 + (2 : Int32)))) M fun x556 M552 => inA M552 p0 12 (p3 + (1 : Int32)) ∧ inA M552 p0 12 (p3 + (2 : Int32)) ∧ isO M552 p2 11 ∧ w_X11_book p2 (mI M552 p0 (ix (p3 + (1 : Int32)))) (mI M552 p0 (ix (p3 + (2 : Int32)))) M552 fun x567 M563 => iF (x556 = x567) (j_L_law_1833 K18 φ p0 p1 p2 p3 M563) (φ (0 : Int32) M563)
set_option maxRecDepth 100000 in
theorem sj_L_law_888 {g : GT} {d Bc Bs : Nat} (hd : 80 ≤ d + 1) {K18 : Nat → Nat → Nat → Int32 → fM → Prop} {φ : Int32 → fM → Prop} (hK18 : ∀ (p0 : Nat) (p1 : Nat) (p2 : Nat) (p3 : Int32) (M : fM), K18 p0 p1 p2 p3 M → FW g mtL_law (d + 1) 18 [(0, .ref p0), (1, .ref p1), (2, .ref p2), (3, .int p3)] [] M Bc Bs (rI φ)) {p0 : Nat} {p1 : Nat} {p2 : Nat} {p3 : Int32} {M : fM} (h : j_L_law_888 K18 φ p0 p1 p2 p3 M) : FW g mtL_law (d + 1) 888 [(0, .ref p0), (1, .ref p1), (2, .ref p2), (3, .int p3)] [] M (Bc + 11) (Bs + 3005) (rI φ) := by
  unfold j_L_law_888 at h
  refine fw_aload_n (i := 1) 1 rfl (show decode _ _ = .ok (.aload_n 1, 1) by decide +kernel) ?_
  refine fw_aload_n (i := 0) 0 rfl (show decode _ _ = .ok (.aload_n 0, 1) by decide +kernel) ?_
  refine fw_iload_n (i := 3) 3 rfl (show decode _ _ = .ok (.iload_n 3, 1) by decide +kernel) ?_
  refine fw_iconst (v := (1 : Int32)) (show decode _ _ = .ok (.iconst 1, 1) by decide +kernel) (by decide) ?_
  refine fw_iadd (show decode _ _ = .ok (.iadd, 1) by decide +kernel) ?_
  obtain ⟨⟨n546, hs547, hi548⟩, h_1⟩ := h
  refine fw_iald (show decode _ _ = .ok (.iaload, 1) by decide +kernel) hs547 hi548 ?_
  refine fw_aload_n (i := 0) 0 rfl (show decode _ _ = .ok (.aload_n 0, 1) by decide +kernel) ?_
  refine fw_iload_n (i := 3) 3 rfl (show decode _ _ = .ok (.iload_n 3, 1) by decide +kernel) ?_
  refine fw_iconst (v := (2 : Int32)) (show decode _ _ = .ok (.iconst 2, 1) by decide +kernel) (by decide) ?_
  refine fw_iadd (show decode _ _ = .ok (.iadd, 1) by decide +kernel) ?_
  obtain ⟨⟨n549, hs550, hi551⟩, h_2⟩ := h_1
  refine fw_iald (show decode _ _ = .ok (.iaload, 1) by decide +kernel) hs550 hi551 ?_
  obtain ⟨⟨hr554, n553, hs555⟩, h_3⟩ := h_2
  refine fw_callV (mt' := mtX10_book) (mc := 0) (ms := 0) (As := [.int (mI M p0 (ix (p3 + (1 : Int32)))), .int (mI M p0 (ix (p3 + (2 : Int32))))]) (rest := []) 2 10 n553 (show decode _ _ = .ok (.invokevirtual 110, 3) by decide +kernel) cv_L_110 ⟨_, rfl, rfl⟩ hr554 hs555 rfl (Nat.le_of_ble_eq_true rfl) (s_X10_book (d := d) (hd_le hd (by decide)) h_3) (by first | exact Nat.le_refl _ | exact Nat.le_add_right _ _ | exact Nat.zero_le _ | exact Nat.le_add_left _ _ | exact Nat.le_of_eq (Nat.add_sub_cancel).symm | decide) (by first | exact Nat.le_refl _ | exact Nat.le_add_right _ _ | exact Nat.zero_le _ | exact Nat.le_add_left _ _ | exact Nat.le_of_eq (Nat.add_sub_cancel).symm | decide) (kI (bc' := (Bc + 11)) (bs' := (Bs + 3005)) (by first | exact Nat.le_refl _ | exact Nat.le_add_right _ _ | exact Nat.zero_le _ | exact Nat.le_add_left _ _ | exact Nat.le_of_eq (Nat.add_sub_cancel).symm | decide) (by first | exact Nat.le_refl _ | exact Nat.le_add_right _ _ | exact Nat.zero_le _ | exact Nat.le_add_left _ _ | exact Nat.le_of_eq (Nat.add_sub_cancel).symm | decide) (fun x556 M552 h_4 => ?_))
  refine fw_aload_n (i := 2) 2 rfl (show decode _ _ = .ok (.aload_n 2, 1) by decide +kernel) ?_
  refine fw_aload_n (i := 0) 0 rfl (show decode _ _ = .ok (.aload_n 0, 1) by decide +kernel) ?_
  refine fw_iload_n (i := 3) 3 rfl (show decode _ _ = .ok (.iload_n 3, 1) by decide +kernel) ?_
  refine fw_iconst (v := (1 : Int32)) (show decode _ _ = .ok (.iconst 1, 1) by decide +kernel) (by decide) ?_
  refine fw_iadd (show decode _ _ = .ok (.iadd, 1) by decide +kernel) ?_
  obtain ⟨⟨n557, hs558, hi559⟩, h_5⟩ := h_4
  refine fw_iald (show decode _ _ = .ok (.iaload, 1) by decide +kernel) hs558 hi559 ?_
  refine fw_aload_n (i := 0) 0 rfl (show decode _ _ = .ok (.aload_n 0, 1) by decide +kernel) ?_
  refine fw_iload_n (i := 3) 3 rfl (show decode _ _ = .ok (.iload_n 3, 1) by decide +kernel) ?_
  refine fw_iconst (v := (2 : Int32)) (show decode _ _ = .ok (.iconst 2, 1) by decide +kernel) (by decide) ?_
  refine fw_iadd (show decode _ _ = .ok (.iadd, 1) by decide +kernel) ?_
  obtain ⟨⟨n560, hs561, hi562⟩, h_6⟩ := h_5
  refine fw_iald (show decode _ _ = .ok (.iaload, 1) by decide +kernel) hs561 hi562 ?_
  obtain ⟨⟨hr565, n564, hs566⟩, h_7⟩ := h_6
  refine fw_callV (mt' := mtX11_book) (mc := 0) (ms := 0) (As := [.int (mI M552 p0 (ix (p3 + (1 : Int32)))), .int (mI M552 p0 (ix (p3 + (2 : Int32))))]) (rest := [.int x556]) 2 11 n564 (show decode _ _ = .ok (.invokevirtual 113, 3) by decide +kernel) cv_L_113 ⟨_, rfl, rfl⟩ hr565 hs566 rfl (Nat.le_of_ble_eq_true rfl) (s_X11_book (d := d) (hd_le hd (by decide)) h_7) (by first | exact Nat.le_refl _ | exact Nat.le_add_right _ _ | exact Nat.zero_le _ | exact Nat.le_add_left _ _ | exact Nat.le_of_eq (Nat.add_sub_cancel).symm | decide) (by first | exact Nat.le_refl _ | exact Nat.le_add_right _ _ | exact Nat.zero_le _ | exact Nat.le_add_left _ _ | exact Nat.le_of_eq (Nat.add_sub_cancel).symm | decide) (kI (bc' := (Bc + 11)) (bs' := (Bs + 3005)) (by first | exact Nat.le_refl _ | exact Nat.le_add_right _ _ | exact Nat.zero_le _ | exact Nat.le_add_left _ _ | exact Nat.le_of_eq (Nat.add_sub_cancel).symm | decide) (by first | exact Nat.le_refl _ | exact Nat.le_add_right _ _ | exact Nat.zero_le _ | exact Nat.le_add_left _ _ | exact Nat.le_of_eq (Nat.add_sub_cancel).symm | decide) (fun x567 M563 h_8 => ?_))
  refine fw_icmp_eq 1833 (show decode _ _ = .ok (.if_icmp .eq 917, 3) by decide +kernel) (by decide) (fun hc568 => ?_) (fun hc568 => ?_)
  · have h_9 := ipos hc568 h_8
    refine FW.sub [0, 1, 2, 3] (ls' := [(0, .ref p0), (1, .ref p1), (2, .ref p2), (3, .int p3)]) rfl ?_
    refine FW.room (bc' := Bc) (bs' := Bs) (by first | exact Nat.le_refl _ | exact Nat.le_add_right _ _ | exact Nat.zero_le _ | exact Nat.le_add_left _ _ | exact Nat.le_of_eq (Nat.add_sub_cancel).symm | decide) (by first | exact Nat.le_refl _ | exact Nat.le_add_right _ _ | exact Nat.zero_le _ | exact Nat.le_add_left _ _ | exact Nat.le_of_eq (Nat.add_sub_cancel).symm | decide) ?_
    exact sj_L_law_1833 hd hK18 h_9
  · have h_10 := ineg hc568 h_8
    refine fw_iconst (v := (0 : Int32)) (show decode _ _ = .ok (.iconst 0, 1) by decide +kernel) (by decide) ?_
    exact fw_ret (v := some (.int (0 : Int32))) .ireturn (show decode _ _ = .ok (.ireturn, 1) by decide +kernel) ⟨rfl, Or.inr (Or.inl ⟨rfl, rfl⟩)⟩ ⟨_, rfl, h_10⟩
def j_L_law_825 (K18 : Nat → Nat → Nat → Int32 → fM → Prop) (φ : Int32 → fM → Prop) (p0 : Nat) (p1 : Nat) (p2 : Nat) (p3 : Int32) (M : fM) : Prop := inA M p0 12 (p3 + (1 : Int32)) ∧ inA M p0 12 (p3 + (2 : Int32)) ∧ inA M p0 12 (p3 + (3 : Int32)) ∧ inA M p0 12 (p3 + (4 : Int32)) ∧ inA M p0 12 (p3 + (5 : Int32)) ∧ isO M p1 10 ∧ w_X10_says p1 (mI M p0 (ix (p3 + (1 : Int32)))) (mI M p0 (ix (p3 + (2 : Int32)))) (mI M p0 (ix (p3 + (3 : Int32)))) (mI M p0 (ix (p3 + (4 : Int32)))) (mI M p0 (ix (p3 + (5 : Int32)))) M fun x588 M584 => inA M584 p0 12 (p3 + (1 : Int32)) ∧ inA M584 p0 12 (p3 + (2 : Int32)) ∧ inA M584 p0 12 (p3 + (3 : Int32)) ∧ inA M584 p0 12 (p3 + (4 : Int32)) ∧ inA M584 p0 12 (p3 + (5 : Int32)) ∧ isO M584 p2 11 ∧ w_X11_says p2 (mI M584 p0 (ix (p3 + (1 : Int32)))) (mI M584 p0 (ix (p3 + (2 : Int32)))) (mI M584 p0 (ix (p3 + (3 : Int32)))) (mI M584 p0 (ix (p3 + (4 : Int32)))) (mI M584 p0 (ix (p3 + (5 : Int32)))) M584 fun x608 M604 => iF (x588 = x608) (j_L_law_1833 K18 φ p0 p1 p2 p3 M604) (φ (0 : Int32) M604)
set_option maxRecDepth 100000 in
theorem sj_L_law_825 {g : GT} {d Bc Bs : Nat} (hd : 80 ≤ d + 1) {K18 : Nat → Nat → Nat → Int32 → fM → Prop} {φ : Int32 → fM → Prop} (hK18 : ∀ (p0 : Nat) (p1 : Nat) (p2 : Nat) (p3 : Int32) (M : fM), K18 p0 p1 p2 p3 M → FW g mtL_law (d + 1) 18 [(0, .ref p0), (1, .ref p1), (2, .ref p2), (3, .int p3)] [] M Bc Bs (rI φ)) {p0 : Nat} {p1 : Nat} {p2 : Nat} {p3 : Int32} {M : fM} (h : j_L_law_825 K18 φ p0 p1 p2 p3 M) : FW g mtL_law (d + 1) 825 [(0, .ref p0), (1, .ref p1), (2, .ref p2), (3, .int p3)] [] M (Bc + 11) (Bs + 3005) (rI φ) := by
  unfold j_L_law_825 at h
  refine fw_aload_n (i := 1) 1 rfl (show decode _ _ = .ok (.aload_n 1, 1) by decide +kernel) ?_
  refine fw_aload_n (i := 0) 0 rfl (show decode _ _ = .ok (.aload_n 0, 1) by decide +kernel) ?_
  refine fw_iload_n (i := 3) 3 rfl (show decode _ _ = .ok (.iload_n 3, 1) by decide +kernel) ?_
  refine fw_iconst (v := (1 : Int32)) (show decode _ _ = .ok (.iconst 1, 1) by decide +kernel) (by decide) ?_
  refine fw_iadd (show decode _ _ = .ok (.iadd, 1) by decide +kernel) ?_
  obtain ⟨⟨n569, hs570, hi571⟩, h_1⟩ := h
  refine fw_iald (show decode _ _ = .ok (.iaload, 1) by decide +kernel) hs570 hi571 ?_
  refine fw_aload_n (i := 0) 0 rfl (show decode _ _ = .ok (.aload_n 0, 1) by decide +kernel) ?_
  refine fw_iload_n (i := 3) 3 rfl (show decode _ _ = .ok (.iload_n 3, 1) by decide +kernel) ?_
  refine fw_iconst (v := (2 : Int32)) (show decode _ _ = .ok (.iconst 2, 1) by decide +kernel) (by decide) ?_
  refine fw_iadd (show decode _ _ = .ok (.iadd, 1) by decide +kernel) ?_
  obtain ⟨⟨n572, hs573, hi574⟩, h_2⟩ := h_1
  refine fw_iald (show decode _ _ = .ok (.iaload, 1) by decide +kernel) hs573 hi574 ?_
  refine fw_aload_n (i := 0) 0 rfl (show decode _ _ = .ok (.aload_n 0, 1) by decide +kernel) ?_
  refine fw_iload_n (i := 3) 3 rfl (show decode _ _ = .ok (.iload_n 3, 1) by decide +kernel) ?_
  refine fw_iconst (v := (3 : Int32)) (show decode _ _ = .ok (.iconst 3, 1) by decide +kernel) (by decide) ?_
  refine fw_iadd (show decode _ _ = .ok (.iadd, 1) by decide +kernel) ?_
  obtain ⟨⟨n575, hs576, hi577⟩, h_3⟩ := h_2
  refine fw_iald (show decode _ _ = .ok (.iaload, 1) by decide +kernel) hs576 hi577 ?_
  refine fw_aload_n (i := 0) 0 rfl (show decode _ _ = .ok (.aload_n 0, 1) by decide +kernel) ?_
  refine fw_iload_n (i := 3) 3 rfl (show decode _ _ = .ok (.iload_n 3, 1) by decide +kernel) ?_
  refine fw_iconst (v := (4 : Int32)) (show decode _ _ = .ok (.iconst 4, 1) by decide +kernel) (by decide) ?_
  refine fw_iadd (show decode _ _ = .ok (.iadd, 1) by decide +kernel) ?_
  obtain ⟨⟨n578, hs579, hi580⟩, h_4⟩ := h_3
  refine fw_iald (show decode _ _ = .ok (.iaload, 1) by decide +kernel) hs579 hi580 ?_
  refine fw_aload_n (i := 0) 0 rfl (show decode _ _ = .ok (.aload_n 0, 1) by decide +kernel) ?_
  refine fw_iload_n (i := 3) 3 rfl (show decode _ _ = .ok (.iload_n 3, 1) by decide +kernel) ?_
  refine fw_iconst (v := (5 : Int32)) (show decode _ _ = .ok (.iconst 5, 1) by decide +kernel) (by decide) ?_
  refine fw_iadd (show decode _ _ = .ok (.iadd, 1) by decide +kernel) ?_
  obtain ⟨⟨n581, hs582, hi583⟩, h_5⟩ := h_4
  refine fw_iald (show decode _ _ = .ok (.iaload, 1) by decide +kernel) hs582 hi583 ?_
  obtain ⟨⟨hr586, n585, hs587⟩, h_6⟩ := h_5
  refine fw_callV (mt' := mtX10_says) (mc := 0) (ms := 0) (As := [.int (mI M p0 (ix (p3 + (1 : Int32)))), .int (mI M p0 (ix (p3 + (2 : Int32)))), .int (mI M p0 (ix (p3 + (3 : Int32)))), .int (mI M p0 (ix (p3 + (4 : Int32)))), .int (mI M p0 (ix (p3 + (5 : Int32))))]) (rest := []) 5 10 n585 (show decode _ _ = .ok (.invokevirtual 106, 3) by decide +kernel) cv_L_106 ⟨_, rfl, rfl⟩ hr586 hs587 rfl (Nat.le_of_ble_eq_true rfl) (s_X10_says (d := d) (hd_le hd (by decide)) h_6) (by first | exact Nat.le_refl _ | exact Nat.le_add_right _ _ | exact Nat.zero_le _ | exact Nat.le_add_left _ _ | exact Nat.le_of_eq (Nat.add_sub_cancel).symm | decide) (by first | exact Nat.le_refl _ | exact Nat.le_add_right _ _ | exact Nat.zero_le _ | exact Nat.le_add_left _ _ | exact Nat.le_of_eq (Nat.add_sub_cancel).symm | decide) (kI (bc' := (Bc + 11)) (bs' := (Bs + 3005)) (by first | exact Nat.le_refl _ | exact Nat.le_add_right _ _ | exact Nat.zero_le _ | exact Nat.le_add_left _ _ | exact Nat.le_of_eq (Nat.add_sub_cancel).symm | decide) (by first | exact Nat.le_refl _ | exact Nat.le_add_right _ _ | exact Nat.zero_le _ | exact Nat.le_add_left _ _ | exact Nat.le_of_eq (Nat.add_sub_cancel).symm | decide) (fun x588 M584 h_7 => ?_))
  refine fw_aload_n (i := 2) 2 rfl (show decode _ _ = .ok (.aload_n 2, 1) by decide +kernel) ?_
  refine fw_aload_n (i := 0) 0 rfl (show decode _ _ = .ok (.aload_n 0, 1) by decide +kernel) ?_
  refine fw_iload_n (i := 3) 3 rfl (show decode _ _ = .ok (.iload_n 3, 1) by decide +kernel) ?_
  refine fw_iconst (v := (1 : Int32)) (show decode _ _ = .ok (.iconst 1, 1) by decide +kernel) (by decide) ?_
  refine fw_iadd (show decode _ _ = .ok (.iadd, 1) by decide +kernel) ?_
  obtain ⟨⟨n589, hs590, hi591⟩, h_8⟩ := h_7
  refine fw_iald (show decode _ _ = .ok (.iaload, 1) by decide +kernel) hs590 hi591 ?_
  refine fw_aload_n (i := 0) 0 rfl (show decode _ _ = .ok (.aload_n 0, 1) by decide +kernel) ?_
  refine fw_iload_n (i := 3) 3 rfl (show decode _ _ = .ok (.iload_n 3, 1) by decide +kernel) ?_
  refine fw_iconst (v := (2 : Int32)) (show decode _ _ = .ok (.iconst 2, 1) by decide +kernel) (by decide) ?_
  refine fw_iadd (show decode _ _ = .ok (.iadd, 1) by decide +kernel) ?_
  obtain ⟨⟨n592, hs593, hi594⟩, h_9⟩ := h_8
  refine fw_iald (show decode _ _ = .ok (.iaload, 1) by decide +kernel) hs593 hi594 ?_
  refine fw_aload_n (i := 0) 0 rfl (show decode _ _ = .ok (.aload_n 0, 1) by decide +kernel) ?_
  refine fw_iload_n (i := 3) 3 rfl (show decode _ _ = .ok (.iload_n 3, 1) by decide +kernel) ?_
  refine fw_iconst (v := (3 : Int32)) (show decode _ _ = .ok (.iconst 3, 1) by decide +kernel) (by decide) ?_
  refine fw_iadd (show decode _ _ = .ok (.iadd, 1) by decide +kernel) ?_
  obtain ⟨⟨n595, hs596, hi597⟩, h_10⟩ := h_9
  refine fw_iald (show decode _ _ = .ok (.iaload, 1) by decide +kernel) hs596 hi597 ?_
  refine fw_aload_n (i := 0) 0 rfl (show decode _ _ = .ok (.aload_n 0, 1) by decide +kernel) ?_
  refine fw_iload_n (i := 3) 3 rfl (show decode _ _ = .ok (.iload_n 3, 1) by decide +kernel) ?_
  refine fw_iconst (v := (4 : Int32)) (show decode _ _ = .ok (.iconst 4, 1) by decide +kernel) (by decide) ?_
  refine fw_iadd (show decode _ _ = .ok (.iadd, 1) by decide +kernel) ?_
  obtain ⟨⟨n598, hs599, hi600⟩, h_11⟩ := h_10
  refine fw_iald (show decode _ _ = .ok (.iaload, 1) by decide +kernel) hs599 hi600 ?_
  refine fw_aload_n (i := 0) 0 rfl (show decode _ _ = .ok (.aload_n 0, 1) by decide +kernel) ?_
  refine fw_iload_n (i := 3) 3 rfl (show decode _ _ = .ok (.iload_n 3, 1) by decide +kernel) ?_
  refine fw_iconst (v := (5 : Int32)) (show decode _ _ = .ok (.iconst 5, 1) by decide +kernel) (by decide) ?_
  refine fw_iadd (show decode _ _ = .ok (.iadd, 1) by decide +kernel) ?_
  obtain ⟨⟨n601, hs602, hi603⟩, h_12⟩ := h_11
  refine fw_iald (show decode _ _ = .ok (.iaload, 1) by decide +kernel) hs602 hi603 ?_
  obtain ⟨⟨hr606, n605, hs607⟩, h_13⟩ := h_12
  refine fw_callV (mt' := mtX11_says) (mc := 0) (ms := 0) (As := [.int (mI M584 p0 (ix (p3 + (1 : Int32)))), .int (mI M584 p0 (ix (p3 + (2 : Int32)))), .int (mI M584 p0 (ix (p3 + (3 : Int32)))), .int (mI M584 p0 (ix (p3 + (4 : Int32)))), .int (mI M584 p0 (ix (p3 + (5 : Int32))))]) (rest := [.int x588]) 5 11 n605 (show decode _ _ = .ok (.invokevirtual 109, 3) by decide +kernel) cv_L_109 ⟨_, rfl, rfl⟩ hr606 hs607 rfl (Nat.le_of_ble_eq_true rfl) (s_X11_says (d := d) (hd_le hd (by decide)) h_13) (by first | exact Nat.le_refl _ | exact Nat.le_add_right _ _ | exact Nat.zero_le _ | exact Nat.le_add_left _ _ | exact Nat.le_of_eq (Nat.add_sub_cancel).symm | decide) (by first | exact Nat.le_refl _ | exact Nat.le_add_right _ _ | exact Nat.zero_le _ | exact Nat.le_add_left _ _ | exact Nat.le_of_eq (Nat.add_sub_cancel).symm | decide) (kI (bc' := (Bc + 11)) (bs' := (Bs + 3005)) (by first | exact Nat.le_refl _ | exact Nat.le_add_right _ _ | exact Nat.zero_le _ | exact Nat.le_add_left _ _ | exact Nat.le_of_eq (Nat.add_sub_cancel).symm | decide) (by first | exact Nat.le_refl _ | exact Nat.le_add_right _ _ | exact Nat.zero_le _ | exact Nat.le_add_left _ _ | exact Nat.le_of_eq (Nat.add_sub_cancel).symm | decide) (fun x608 M604 h_14 => ?_))
  refine fw_icmp_eq 1833 (show decode _ _ = .ok (.if_icmp .eq 950, 3) by decide +kernel) (by decide) (fun hc609 => ?_) (fun hc609 => ?_)
  · have h_15 := ipos hc609 h_14
    refine FW.sub [0, 1, 2, 3] (ls' := [(0, .ref p0), (1, .ref p1), (2, .ref p2), (3, .int p3)]) rfl ?_
    refine FW.room (bc' := Bc) (bs' := Bs) (by first | exact Nat.le_refl _ | exact Nat.le_add_right _ _ | exact Nat.zero_le _ | exact Nat.le_add_left _ _ | exact Nat.le_of_eq (Nat.add_sub_cancel).symm | decide) (by first | exact Nat.le_refl _ | exact Nat.le_add_right _ _ | exact Nat.zero_le _ | exact Nat.le_add_left _ _ | exact Nat.le_of_eq (Nat.add_sub_cancel).symm | decide) ?_
    exact sj_L_law_1833 hd hK18 h_15
  · have h_16 := ineg hc609 h_14
    refine fw_iconst (v := (0 : Int32)) (show decode _ _ = .ok (.iconst 0, 1) by decide +kernel) (by decide) ?_
    exact fw_ret (v := some (.int (0 : Int32))) .ireturn (show decode _ _ = .ok (.ireturn, 1) by decide +kernel) ⟨rfl, Or.inr (Or.inl ⟨rfl, rfl⟩)⟩ ⟨_, rfl, h_16⟩
def j_L_law_792 (K18 : Nat → Nat → Nat → Int32 → fM → Prop) (φ : Int32 → fM → Prop) (p0 : Nat) (p1 : Nat) (p2 : Nat) (p3 : Int32) (M : fM) : Prop := inA M p0 12 (p3 + (1 : Int32)) ∧ inA M p0 12 (p3 + (2 : Int32)) ∧ isO M p1 10 ∧ w_X10_house p1 (mI M p0 (ix (p3 + (1 : Int32)))) (mI M p0 (ix (p3 + (2 : Int32)))) M fun x620 M616 => inA M616 p0 12 (p3 + (1 : Int32)) ∧ inA M616 p0 12 (p3 + (2 : Int32)) ∧ isO M616 p2 11 ∧ w_X11_house p2 (mI M616 p0 (ix (p3 + (1 : Int32)))) (mI M616 p0 (ix (p3 + (2 : Int32)))) M616 fun x631 M627 => iF (x620 = x631) (j_L_law_1833 K18 φ p0 p1 p2 p3 M627) (φ (0 : Int32) M627)
set_option maxRecDepth 100000 in
theorem sj_L_law_792 {g : GT} {d Bc Bs : Nat} (hd : 80 ≤ d + 1) {K18 : Nat → Nat → Nat → Int32 → fM → Prop} {φ : Int32 → fM → Prop} (hK18 : ∀ (p0 : Nat) (p1 : Nat) (p2 : Nat) (p3 : Int32) (M : fM), K18 p0 p1 p2 p3 M → FW g mtL_law (d + 1) 18 [(0, .ref p0), (1, .ref p1), (2, .ref p2), (3, .int p3)] [] M Bc Bs (rI φ)) {p0 : Nat} {p1 : Nat} {p2 : Nat} {p3 : Int32} {M : fM} (h : j_L_law_792 K18 φ p0 p1 p2 p3 M) : FW g mtL_law (d + 1) 792 [(0, .ref p0), (1, .ref p1), (2, .ref p2), (3, .int p3)] [] M (Bc + 11) (Bs + 3005) (rI φ) := by
  unfold j_L_law_792 at h
  refine fw_aload_n (i := 1) 1 rfl (show decode _ _ = .ok (.aload_n 1, 1) by decide +kernel) ?_
  refine fw_aload_n (i := 0) 0 rfl (show decode _ _ = .ok (.aload_n 0, 1) by decide +kernel) ?_
  refine fw_iload_n (i := 3) 3 rfl (show decode _ _ = .ok (.iload_n 3, 1) by decide +kernel) ?_
  refine fw_iconst (v := (1 : Int32)) (show decode _ _ = .ok (.iconst 1, 1) by decide +kernel) (by decide) ?_
  refine fw_iadd (show decode _ _ = .ok (.iadd, 1) by decide +kernel) ?_
  obtain ⟨⟨n610, hs611, hi612⟩, h_1⟩ := h
  refine fw_iald (show decode _ _ = .ok (.iaload, 1) by decide +kernel) hs611 hi612 ?_
  refine fw_aload_n (i := 0) 0 rfl (show decode _ _ = .ok (.aload_n 0, 1) by decide +kernel) ?_
  refine fw_iload_n (i := 3) 3 rfl (show decode _ _ = .ok (.iload_n 3, 1) by decide +kernel) ?_
  refine fw_iconst (v := (2 : Int32)) (show decode _ _ = .ok (.iconst 2, 1) by decide +kernel) (by decide) ?_
  refine fw_iadd (show decode _ _ = .ok (.iadd, 1) by decide +kernel) ?_
  obtain ⟨⟨n613, hs614, hi615⟩, h_2⟩ := h_1
  refine fw_iald (show decode _ _ = .ok (.iaload, 1) by decide +kernel) hs614 hi615 ?_
  obtain ⟨⟨hr618, n617, hs619⟩, h_3⟩ := h_2
  refine fw_callV (mt' := mtX10_house) (mc := 0) (ms := 0) (As := [.int (mI M p0 (ix (p3 + (1 : Int32)))), .int (mI M p0 (ix (p3 + (2 : Int32))))]) (rest := []) 2 10 n617 (show decode _ _ = .ok (.invokevirtual 102, 3) by decide +kernel) cv_L_102 ⟨_, rfl, rfl⟩ hr618 hs619 rfl (Nat.le_of_ble_eq_true rfl) (s_X10_house (d := d) (hd_le hd (by decide)) h_3) (by first | exact Nat.le_refl _ | exact Nat.le_add_right _ _ | exact Nat.zero_le _ | exact Nat.le_add_left _ _ | exact Nat.le_of_eq (Nat.add_sub_cancel).symm | decide) (by first | exact Nat.le_refl _ | exact Nat.le_add_right _ _ | exact Nat.zero_le _ | exact Nat.le_add_left _ _ | exact Nat.le_of_eq (Nat.add_sub_cancel).symm | decide) (kI (bc' := (Bc + 11)) (bs' := (Bs + 3005)) (by first | exact Nat.le_refl _ | exact Nat.le_add_right _ _ | exact Nat.zero_le _ | exact Nat.le_add_left _ _ | exact Nat.le_of_eq (Nat.add_sub_cancel).symm | decide) (by first | exact Nat.le_refl _ | exact Nat.le_add_right _ _ | exact Nat.zero_le _ | exact Nat.le_add_left _ _ | exact Nat.le_of_eq (Nat.add_sub_cancel).symm | decide) (fun x620 M616 h_4 => ?_))
  refine fw_aload_n (i := 2) 2 rfl (show decode _ _ = .ok (.aload_n 2, 1) by decide +kernel) ?_
  refine fw_aload_n (i := 0) 0 rfl (show decode _ _ = .ok (.aload_n 0, 1) by decide +kernel) ?_
  refine fw_iload_n (i := 3) 3 rfl (show decode _ _ = .ok (.iload_n 3, 1) by decide +kernel) ?_
  refine fw_iconst (v := (1 : Int32)) (show decode _ _ = .ok (.iconst 1, 1) by decide +kernel) (by decide) ?_
  refine fw_iadd (show decode _ _ = .ok (.iadd, 1) by decide +kernel) ?_
  obtain ⟨⟨n621, hs622, hi623⟩, h_5⟩ := h_4
  refine fw_iald (show decode _ _ = .ok (.iaload, 1) by decide +kernel) hs622 hi623 ?_
  refine fw_aload_n (i := 0) 0 rfl (show decode _ _ = .ok (.aload_n 0, 1) by decide +kernel) ?_
  refine fw_iload_n (i := 3) 3 rfl (show decode _ _ = .ok (.iload_n 3, 1) by decide +kernel) ?_
  refine fw_iconst (v := (2 : Int32)) (show decode _ _ = .ok (.iconst 2, 1) by decide +kernel) (by decide) ?_
  refine fw_iadd (show decode _ _ = .ok (.iadd, 1) by decide +kernel) ?_
  obtain ⟨⟨n624, hs625, hi626⟩, h_6⟩ := h_5
  refine fw_iald (show decode _ _ = .ok (.iaload, 1) by decide +kernel) hs625 hi626 ?_
  obtain ⟨⟨hr629, n628, hs630⟩, h_7⟩ := h_6
  refine fw_callV (mt' := mtX11_house) (mc := 0) (ms := 0) (As := [.int (mI M616 p0 (ix (p3 + (1 : Int32)))), .int (mI M616 p0 (ix (p3 + (2 : Int32))))]) (rest := [.int x620]) 2 11 n628 (show decode _ _ = .ok (.invokevirtual 105, 3) by decide +kernel) cv_L_105 ⟨_, rfl, rfl⟩ hr629 hs630 rfl (Nat.le_of_ble_eq_true rfl) (s_X11_house (d := d) (hd_le hd (by decide)) h_7) (by first | exact Nat.le_refl _ | exact Nat.le_add_right _ _ | exact Nat.zero_le _ | exact Nat.le_add_left _ _ | exact Nat.le_of_eq (Nat.add_sub_cancel).symm | decide) (by first | exact Nat.le_refl _ | exact Nat.le_add_right _ _ | exact Nat.zero_le _ | exact Nat.le_add_left _ _ | exact Nat.le_of_eq (Nat.add_sub_cancel).symm | decide) (kI (bc' := (Bc + 11)) (bs' := (Bs + 3005)) (by first | exact Nat.le_refl _ | exact Nat.le_add_right _ _ | exact Nat.zero_le _ | exact Nat.le_add_left _ _ | exact Nat.le_of_eq (Nat.add_sub_cancel).symm | decide) (by first | exact Nat.le_refl _ | exact Nat.le_add_right _ _ | exact Nat.zero_le _ | exact Nat.le_add_left _ _ | exact Nat.le_of_eq (Nat.add_sub_cancel).symm | decide) (fun x631 M627 h_8 => ?_))
  refine fw_icmp_eq 1833 (show decode _ _ = .ok (.if_icmp .eq 1013, 3) by decide +kernel) (by decide) (fun hc632 => ?_) (fun hc632 => ?_)
  · have h_9 := ipos hc632 h_8
    refine FW.sub [0, 1, 2, 3] (ls' := [(0, .ref p0), (1, .ref p1), (2, .ref p2), (3, .int p3)]) rfl ?_
    refine FW.room (bc' := Bc) (bs' := Bs) (by first | exact Nat.le_refl _ | exact Nat.le_add_right _ _ | exact Nat.zero_le _ | exact Nat.le_add_left _ _ | exact Nat.le_of_eq (Nat.add_sub_cancel).symm | decide) (by first | exact Nat.le_refl _ | exact Nat.le_add_right _ _ | exact Nat.zero_le _ | exact Nat.le_add_left _ _ | exact Nat.le_of_eq (Nat.add_sub_cancel).symm | decide) ?_
    exact sj_L_law_1833 hd hK18 h_9
  · have h_10 := ineg hc632 h_8
    refine fw_iconst (v := (0 : Int32)) (show decode _ _ = .ok (.iconst 0, 1) by decide +kernel) (by decide) ?_
    exact fw_ret (v := some (.int (0 : Int32))) .ireturn (show decode _ _ = .ok (.ireturn, 1) by decide +kernel) ⟨rfl, Or.inr (Or.inl ⟨rfl, rfl⟩)⟩ ⟨_, rfl, h_10⟩
def j_L_law_769 (K18 : Nat → Nat → Nat → Int32 → fM → Prop) (φ : Int32 → fM → Prop) (p0 : Nat) (p1 : Nat) (p2 : Nat) (p3 : Int32) (M : fM) : Prop := inA M p0 12 (p3 + (1 : Int32)) ∧ isO M p1 10 ∧ w_X10_way p1 (mI M p0 (ix (p3 + (1 : Int32)))) M fun x640 M636 => inA M636 p0 12 (p3 + (1 : Int32)) ∧ isO M636 p2 11 ∧ w_X11_way p2 (mI M636 p0 (ix (p3 + (1 : Int32)))) M636 fun x648 M644 => iF (x640 = x648) (j_L_law_1833 K18 φ p0 p1 p2 p3 M644) (φ (0 : Int32) M644)
set_option maxRecDepth 100000 in
theorem sj_L_law_769 {g : GT} {d Bc Bs : Nat} (hd : 80 ≤ d + 1) {K18 : Nat → Nat → Nat → Int32 → fM → Prop} {φ : Int32 → fM → Prop} (hK18 : ∀ (p0 : Nat) (p1 : Nat) (p2 : Nat) (p3 : Int32) (M : fM), K18 p0 p1 p2 p3 M → FW g mtL_law (d + 1) 18 [(0, .ref p0), (1, .ref p1), (2, .ref p2), (3, .int p3)] [] M Bc Bs (rI φ)) {p0 : Nat} {p1 : Nat} {p2 : Nat} {p3 : Int32} {M : fM} (h : j_L_law_769 K18 φ p0 p1 p2 p3 M) : FW g mtL_law (d + 1) 769 [(0, .ref p0), (1, .ref p1), (2, .ref p2), (3, .int p3)] [] M (Bc + 11) (Bs + 3005) (rI φ) := by
  unfold j_L_law_769 at h
  refine fw_aload_n (i := 1) 1 rfl (show decode _ _ = .ok (.aload_n 1, 1) by decide +kernel) ?_
  refine fw_aload_n (i := 0) 0 rfl (show decode _ _ = .ok (.aload_n 0, 1) by decide +kernel) ?_
  refine fw_iload_n (i := 3) 3 rfl (show decode _ _ = .ok (.iload_n 3, 1) by decide +kernel) ?_
  refine fw_iconst (v := (1 : Int32)) (show decode _ _ = .ok (.iconst 1, 1) by decide +kernel) (by decide) ?_
  refine fw_iadd (show decode _ _ = .ok (.iadd, 1) by decide +kernel) ?_
  obtain ⟨⟨n633, hs634, hi635⟩, h_1⟩ := h
  refine fw_iald (show decode _ _ = .ok (.iaload, 1) by decide +kernel) hs634 hi635 ?_
  obtain ⟨⟨hr638, n637, hs639⟩, h_2⟩ := h_1
  refine fw_callV (mt' := mtX10_way) (mc := 0) (ms := 0) (As := [.int (mI M p0 (ix (p3 + (1 : Int32))))]) (rest := []) 1 10 n637 (show decode _ _ = .ok (.invokevirtual 98, 3) by decide +kernel) cv_L_98 ⟨_, rfl, rfl⟩ hr638 hs639 rfl (Nat.le_of_ble_eq_true rfl) (s_X10_way (d := d) (hd_le hd (by decide)) h_2) (by first | exact Nat.le_refl _ | exact Nat.le_add_right _ _ | exact Nat.zero_le _ | exact Nat.le_add_left _ _ | exact Nat.le_of_eq (Nat.add_sub_cancel).symm | decide) (by first | exact Nat.le_refl _ | exact Nat.le_add_right _ _ | exact Nat.zero_le _ | exact Nat.le_add_left _ _ | exact Nat.le_of_eq (Nat.add_sub_cancel).symm | decide) (kI (bc' := (Bc + 11)) (bs' := (Bs + 3005)) (by first | exact Nat.le_refl _ | exact Nat.le_add_right _ _ | exact Nat.zero_le _ | exact Nat.le_add_left _ _ | exact Nat.le_of_eq (Nat.add_sub_cancel).symm | decide) (by first | exact Nat.le_refl _ | exact Nat.le_add_right _ _ | exact Nat.zero_le _ | exact Nat.le_add_left _ _ | exact Nat.le_of_eq (Nat.add_sub_cancel).symm | decide) (fun x640 M636 h_3 => ?_))
  refine fw_aload_n (i := 2) 2 rfl (show decode _ _ = .ok (.aload_n 2, 1) by decide +kernel) ?_
  refine fw_aload_n (i := 0) 0 rfl (show decode _ _ = .ok (.aload_n 0, 1) by decide +kernel) ?_
  refine fw_iload_n (i := 3) 3 rfl (show decode _ _ = .ok (.iload_n 3, 1) by decide +kernel) ?_
  refine fw_iconst (v := (1 : Int32)) (show decode _ _ = .ok (.iconst 1, 1) by decide +kernel) (by decide) ?_
  refine fw_iadd (show decode _ _ = .ok (.iadd, 1) by decide +kernel) ?_
  obtain ⟨⟨n641, hs642, hi643⟩, h_4⟩ := h_3
  refine fw_iald (show decode _ _ = .ok (.iaload, 1) by decide +kernel) hs642 hi643 ?_
  obtain ⟨⟨hr646, n645, hs647⟩, h_5⟩ := h_4
  refine fw_callV (mt' := mtX11_way) (mc := 0) (ms := 0) (As := [.int (mI M636 p0 (ix (p3 + (1 : Int32))))]) (rest := [.int x640]) 1 11 n645 (show decode _ _ = .ok (.invokevirtual 101, 3) by decide +kernel) cv_L_101 ⟨_, rfl, rfl⟩ hr646 hs647 rfl (Nat.le_of_ble_eq_true rfl) (s_X11_way (d := d) (hd_le hd (by decide)) h_5) (by first | exact Nat.le_refl _ | exact Nat.le_add_right _ _ | exact Nat.zero_le _ | exact Nat.le_add_left _ _ | exact Nat.le_of_eq (Nat.add_sub_cancel).symm | decide) (by first | exact Nat.le_refl _ | exact Nat.le_add_right _ _ | exact Nat.zero_le _ | exact Nat.le_add_left _ _ | exact Nat.le_of_eq (Nat.add_sub_cancel).symm | decide) (kI (bc' := (Bc + 11)) (bs' := (Bs + 3005)) (by first | exact Nat.le_refl _ | exact Nat.le_add_right _ _ | exact Nat.zero_le _ | exact Nat.le_add_left _ _ | exact Nat.le_of_eq (Nat.add_sub_cancel).symm | decide) (by first | exact Nat.le_refl _ | exact Nat.le_add_right _ _ | exact Nat.zero_le _ | exact Nat.le_add_left _ _ | exact Nat.le_of_eq (Nat.add_sub_cancel).symm | decide) (fun x648 M644 h_6 => ?_))
  refine fw_icmp_eq 1833 (show decode _ _ = .ok (.if_icmp .eq 1046, 3) by decide +kernel) (by decide) (fun hc649 => ?_) (fun hc649 => ?_)
  · have h_7 := ipos hc649 h_6
    refine FW.sub [0, 1, 2, 3] (ls' := [(0, .ref p0), (1, .ref p1), (2, .ref p2), (3, .int p3)]) rfl ?_
    refine FW.room (bc' := Bc) (bs' := Bs) (by first | exact Nat.le_refl _ | exact Nat.le_add_right _ _ | exact Nat.zero_le _ | exact Nat.le_add_left _ _ | exact Nat.le_of_eq (Nat.add_sub_cancel).symm | decide) (by first | exact Nat.le_refl _ | exact Nat.le_add_right _ _ | exact Nat.zero_le _ | exact Nat.le_add_left _ _ | exact Nat.le_of_eq (Nat.add_sub_cancel).symm | decide) ?_
    exact sj_L_law_1833 hd hK18 h_7
  · have h_8 := ineg hc649 h_6
    refine fw_iconst (v := (0 : Int32)) (show decode _ _ = .ok (.iconst 0, 1) by decide +kernel) (by decide) ?_
    exact fw_ret (v := some (.int (0 : Int32))) .ireturn (show decode _ _ = .ok (.ireturn, 1) by decide +kernel) ⟨rfl, Or.inr (Or.inl ⟨rfl, rfl⟩)⟩ ⟨_, rfl, h_8⟩
def j_L_law_756 (K18 : Nat → Nat → Nat → Int32 → fM → Prop) (φ : Int32 → fM → Prop) (p0 : Nat) (p1 : Nat) (p2 : Nat) (p3 : Int32) (M : fM) : Prop := isO M p1 10 ∧ w_X10_undo p1 M fun x654 M650 => isO M650 p2 11 ∧ w_X11_undo p2 M650 fun x659 M655 => iF (x654 = x659) (j_L_law_1833 K18 φ p0 p1 p2 p3 M655) (φ (0 : Int32) M655)
set_option maxRecDepth 100000 in
theorem sj_L_law_756 {g : GT} {d Bc Bs : Nat} (hd : 80 ≤ d + 1) {K18 : Nat → Nat → Nat → Int32 → fM → Prop} {φ : Int32 → fM → Prop} (hK18 : ∀ (p0 : Nat) (p1 : Nat) (p2 : Nat) (p3 : Int32) (M : fM), K18 p0 p1 p2 p3 M → FW g mtL_law (d + 1) 18 [(0, .ref p0), (1, .ref p1), (2, .ref p2), (3, .int p3)] [] M Bc Bs (rI φ)) {p0 : Nat} {p1 : Nat} {p2 : Nat} {p3 : Int32} {M : fM} (h : j_L_law_756 K18 φ p0 p1 p2 p3 M) : FW g mtL_law (d + 1) 756 [(0, .ref p0), (1, .ref p1), (2, .ref p2), (3, .int p3)] [] M (Bc + 11) (Bs + 3005) (rI φ) := by
  unfold j_L_law_756 at h
  refine fw_aload_n (i := 1) 1 rfl (show decode _ _ = .ok (.aload_n 1, 1) by decide +kernel) ?_
  obtain ⟨⟨hr652, n651, hs653⟩, h_1⟩ := h
  refine fw_callV (mt' := mtX10_undo) (mc := 0) (ms := 0) (As := []) (rest := []) 0 10 n651 (show decode _ _ = .ok (.invokevirtual 94, 3) by decide +kernel) cv_L_94 ⟨_, rfl, rfl⟩ hr652 hs653 rfl (Nat.le_of_ble_eq_true rfl) (s_X10_undo (d := d) (hd_le hd (by decide)) h_1) (by first | exact Nat.le_refl _ | exact Nat.le_add_right _ _ | exact Nat.zero_le _ | exact Nat.le_add_left _ _ | exact Nat.le_of_eq (Nat.add_sub_cancel).symm | decide) (by first | exact Nat.le_refl _ | exact Nat.le_add_right _ _ | exact Nat.zero_le _ | exact Nat.le_add_left _ _ | exact Nat.le_of_eq (Nat.add_sub_cancel).symm | decide) (kI (bc' := (Bc + 11)) (bs' := (Bs + 3005)) (by first | exact Nat.le_refl _ | exact Nat.le_add_right _ _ | exact Nat.zero_le _ | exact Nat.le_add_left _ _ | exact Nat.le_of_eq (Nat.add_sub_cancel).symm | decide) (by first | exact Nat.le_refl _ | exact Nat.le_add_right _ _ | exact Nat.zero_le _ | exact Nat.le_add_left _ _ | exact Nat.le_of_eq (Nat.add_sub_cancel).symm | decide) (fun x654 M650 h_2 => ?_))
  refine fw_aload_n (i := 2) 2 rfl (show decode _ _ = .ok (.aload_n 2, 1) by decide +kernel) ?_
  obtain ⟨⟨hr657, n656, hs658⟩, h_3⟩ := h_2
  refine fw_callV (mt' := mtX11_undo) (mc := 0) (ms := 0) (As := []) (rest := [.int x654]) 0 11 n656 (show decode _ _ = .ok (.invokevirtual 97, 3) by decide +kernel) cv_L_97 ⟨_, rfl, rfl⟩ hr657 hs658 rfl (Nat.le_of_ble_eq_true rfl) (s_X11_undo (d := d) (hd_le hd (by decide)) h_3) (by first | exact Nat.le_refl _ | exact Nat.le_add_right _ _ | exact Nat.zero_le _ | exact Nat.le_add_left _ _ | exact Nat.le_of_eq (Nat.add_sub_cancel).symm | decide) (by first | exact Nat.le_refl _ | exact Nat.le_add_right _ _ | exact Nat.zero_le _ | exact Nat.le_add_left _ _ | exact Nat.le_of_eq (Nat.add_sub_cancel).symm | decide) (kI (bc' := (Bc + 11)) (bs' := (Bs + 3005)) (by first | exact Nat.le_refl _ | exact Nat.le_add_right _ _ | exact Nat.zero_le _ | exact Nat.le_add_left _ _ | exact Nat.le_of_eq (Nat.add_sub_cancel).symm | decide) (by first | exact Nat.le_refl _ | exact Nat.le_add_right _ _ | exact Nat.zero_le _ | exact Nat.le_add_left _ _ | exact Nat.le_of_eq (Nat.add_sub_cancel).symm | decide) (fun x659 M655 h_4 => ?_))
  refine fw_icmp_eq 1833 (show decode _ _ = .ok (.if_icmp .eq 1069, 3) by decide +kernel) (by decide) (fun hc660 => ?_) (fun hc660 => ?_)
  · have h_5 := ipos hc660 h_4
    refine FW.sub [0, 1, 2, 3] (ls' := [(0, .ref p0), (1, .ref p1), (2, .ref p2), (3, .int p3)]) rfl ?_
    refine FW.room (bc' := Bc) (bs' := Bs) (by first | exact Nat.le_refl _ | exact Nat.le_add_right _ _ | exact Nat.zero_le _ | exact Nat.le_add_left _ _ | exact Nat.le_of_eq (Nat.add_sub_cancel).symm | decide) (by first | exact Nat.le_refl _ | exact Nat.le_add_right _ _ | exact Nat.zero_le _ | exact Nat.le_add_left _ _ | exact Nat.le_of_eq (Nat.add_sub_cancel).symm | decide) ?_
    exact sj_L_law_1833 hd hK18 h_5
  · have h_6 := ineg hc660 h_4
    refine fw_iconst (v := (0 : Int32)) (show decode _ _ = .ok (.iconst 0, 1) by decide +kernel) (by decide) ?_
    exact fw_ret (v := some (.int (0 : Int32))) .ireturn (show decode _ _ = .ok (.ireturn, 1) by decide +kernel) ⟨rfl, Or.inr (Or.inl ⟨rfl, rfl⟩)⟩ ⟨_, rfl, h_6⟩
def j_L_law_723 (K18 : Nat → Nat → Nat → Int32 → fM → Prop) (φ : Int32 → fM → Prop) (p0 : Nat) (p1 : Nat) (p2 : Nat) (p3 : Int32) (M : fM) : Prop := inA M p0 12 (p3 + (1 : Int32)) ∧ inA M p0 12 (p3 + (2 : Int32)) ∧ isO M p1 10 ∧ w_X10_week p1 (mI M p0 (ix (p3 + (1 : Int32)))) (mI M p0 (ix (p3 + (2 : Int32)))) M fun x671 M667 => inA M667 p0 12 (p3 + (1 : Int32)) ∧ inA M667 p0 12 (p3 + (2 : Int32)) ∧ isO M667 p2 11 ∧ w_X11_week p2 (mI M667 p0 (ix (p3 + (1 : Int32)))) (mI M667 p0 (ix (p3 + (2 : Int32)))) M667 fun x682 M678 => iF (x671 = x682) (j_L_law_1833 K18 φ p0 p1 p2 p3 M678) (φ (0 : Int32) M678)
set_option maxRecDepth 100000 in
theorem sj_L_law_723 {g : GT} {d Bc Bs : Nat} (hd : 80 ≤ d + 1) {K18 : Nat → Nat → Nat → Int32 → fM → Prop} {φ : Int32 → fM → Prop} (hK18 : ∀ (p0 : Nat) (p1 : Nat) (p2 : Nat) (p3 : Int32) (M : fM), K18 p0 p1 p2 p3 M → FW g mtL_law (d + 1) 18 [(0, .ref p0), (1, .ref p1), (2, .ref p2), (3, .int p3)] [] M Bc Bs (rI φ)) {p0 : Nat} {p1 : Nat} {p2 : Nat} {p3 : Int32} {M : fM} (h : j_L_law_723 K18 φ p0 p1 p2 p3 M) : FW g mtL_law (d + 1) 723 [(0, .ref p0), (1, .ref p1), (2, .ref p2), (3, .int p3)] [] M (Bc + 11) (Bs + 3005) (rI φ) := by
  unfold j_L_law_723 at h
  refine fw_aload_n (i := 1) 1 rfl (show decode _ _ = .ok (.aload_n 1, 1) by decide +kernel) ?_
  refine fw_aload_n (i := 0) 0 rfl (show decode _ _ = .ok (.aload_n 0, 1) by decide +kernel) ?_
  refine fw_iload_n (i := 3) 3 rfl (show decode _ _ = .ok (.iload_n 3, 1) by decide +kernel) ?_
  refine fw_iconst (v := (1 : Int32)) (show decode _ _ = .ok (.iconst 1, 1) by decide +kernel) (by decide) ?_
  refine fw_iadd (show decode _ _ = .ok (.iadd, 1) by decide +kernel) ?_
  obtain ⟨⟨n661, hs662, hi663⟩, h_1⟩ := h
  refine fw_iald (show decode _ _ = .ok (.iaload, 1) by decide +kernel) hs662 hi663 ?_
  refine fw_aload_n (i := 0) 0 rfl (show decode _ _ = .ok (.aload_n 0, 1) by decide +kernel) ?_
  refine fw_iload_n (i := 3) 3 rfl (show decode _ _ = .ok (.iload_n 3, 1) by decide +kernel) ?_
  refine fw_iconst (v := (2 : Int32)) (show decode _ _ = .ok (.iconst 2, 1) by decide +kernel) (by decide) ?_
  refine fw_iadd (show decode _ _ = .ok (.iadd, 1) by decide +kernel) ?_
  obtain ⟨⟨n664, hs665, hi666⟩, h_2⟩ := h_1
  refine fw_iald (show decode _ _ = .ok (.iaload, 1) by decide +kernel) hs665 hi666 ?_
  obtain ⟨⟨hr669, n668, hs670⟩, h_3⟩ := h_2
  refine fw_callV (mt' := mtX10_week) (mc := 0) (ms := 0) (As := [.int (mI M p0 (ix (p3 + (1 : Int32)))), .int (mI M p0 (ix (p3 + (2 : Int32))))]) (rest := []) 2 10 n668 (show decode _ _ = .ok (.invokevirtual 89, 3) by decide +kernel) cv_L_89 ⟨_, rfl, rfl⟩ hr669 hs670 rfl (Nat.le_of_ble_eq_true rfl) (s_X10_week (d := d) (hd_le hd (by decide)) h_3) (by first | exact Nat.le_refl _ | exact Nat.le_add_right _ _ | exact Nat.zero_le _ | exact Nat.le_add_left _ _ | exact Nat.le_of_eq (Nat.add_sub_cancel).symm | decide) (by first | exact Nat.le_refl _ | exact Nat.le_add_right _ _ | exact Nat.zero_le _ | exact Nat.le_add_left _ _ | exact Nat.le_of_eq (Nat.add_sub_cancel).symm | decide) (kI (bc' := (Bc + 11)) (bs' := (Bs + 3005)) (by first | exact Nat.le_refl _ | exact Nat.le_add_right _ _ | exact Nat.zero_le _ | exact Nat.le_add_left _ _ | exact Nat.le_of_eq (Nat.add_sub_cancel).symm | decide) (by first | exact Nat.le_refl _ | exact Nat.le_add_right _ _ | exact Nat.zero_le _ | exact Nat.le_add_left _ _ | exact Nat.le_of_eq (Nat.add_sub_cancel).symm | decide) (fun x671 M667 h_4 => ?_))
  refine fw_aload_n (i := 2) 2 rfl (show decode _ _ = .ok (.aload_n 2, 1) by decide +kernel) ?_
  refine fw_aload_n (i := 0) 0 rfl (show decode _ _ = .ok (.aload_n 0, 1) by decide +kernel) ?_
  refine fw_iload_n (i := 3) 3 rfl (show decode _ _ = .ok (.iload_n 3, 1) by decide +kernel) ?_
  refine fw_iconst (v := (1 : Int32)) (show decode _ _ = .ok (.iconst 1, 1) by decide +kernel) (by decide) ?_
  refine fw_iadd (show decode _ _ = .ok (.iadd, 1) by decide +kernel) ?_
  obtain ⟨⟨n672, hs673, hi674⟩, h_5⟩ := h_4
  refine fw_iald (show decode _ _ = .ok (.iaload, 1) by decide +kernel) hs673 hi674 ?_
  refine fw_aload_n (i := 0) 0 rfl (show decode _ _ = .ok (.aload_n 0, 1) by decide +kernel) ?_
  refine fw_iload_n (i := 3) 3 rfl (show decode _ _ = .ok (.iload_n 3, 1) by decide +kernel) ?_
  refine fw_iconst (v := (2 : Int32)) (show decode _ _ = .ok (.iconst 2, 1) by decide +kernel) (by decide) ?_
  refine fw_iadd (show decode _ _ = .ok (.iadd, 1) by decide +kernel) ?_
  obtain ⟨⟨n675, hs676, hi677⟩, h_6⟩ := h_5
  refine fw_iald (show decode _ _ = .ok (.iaload, 1) by decide +kernel) hs676 hi677 ?_
  obtain ⟨⟨hr680, n679, hs681⟩, h_7⟩ := h_6
  refine fw_callV (mt' := mtX11_week) (mc := 0) (ms := 0) (As := [.int (mI M667 p0 (ix (p3 + (1 : Int32)))), .int (mI M667 p0 (ix (p3 + (2 : Int32))))]) (rest := [.int x671]) 2 11 n679 (show decode _ _ = .ok (.invokevirtual 93, 3) by decide +kernel) cv_L_93 ⟨_, rfl, rfl⟩ hr680 hs681 rfl (Nat.le_of_ble_eq_true rfl) (s_X11_week (d := d) (hd_le hd (by decide)) h_7) (by first | exact Nat.le_refl _ | exact Nat.le_add_right _ _ | exact Nat.zero_le _ | exact Nat.le_add_left _ _ | exact Nat.le_of_eq (Nat.add_sub_cancel).symm | decide) (by first | exact Nat.le_refl _ | exact Nat.le_add_right _ _ | exact Nat.zero_le _ | exact Nat.le_add_left _ _ | exact Nat.le_of_eq (Nat.add_sub_cancel).symm | decide) (kI (bc' := (Bc + 11)) (bs' := (Bs + 3005)) (by first | exact Nat.le_refl _ | exact Nat.le_add_right _ _ | exact Nat.zero_le _ | exact Nat.le_add_left _ _ | exact Nat.le_of_eq (Nat.add_sub_cancel).symm | decide) (by first | exact Nat.le_refl _ | exact Nat.le_add_right _ _ | exact Nat.zero_le _ | exact Nat.le_add_left _ _ | exact Nat.le_of_eq (Nat.add_sub_cancel).symm | decide) (fun x682 M678 h_8 => ?_))
  refine fw_icmp_eq 1833 (show decode _ _ = .ok (.if_icmp .eq 1082, 3) by decide +kernel) (by decide) (fun hc683 => ?_) (fun hc683 => ?_)
  · have h_9 := ipos hc683 h_8
    refine FW.sub [0, 1, 2, 3] (ls' := [(0, .ref p0), (1, .ref p1), (2, .ref p2), (3, .int p3)]) rfl ?_
    refine FW.room (bc' := Bc) (bs' := Bs) (by first | exact Nat.le_refl _ | exact Nat.le_add_right _ _ | exact Nat.zero_le _ | exact Nat.le_add_left _ _ | exact Nat.le_of_eq (Nat.add_sub_cancel).symm | decide) (by first | exact Nat.le_refl _ | exact Nat.le_add_right _ _ | exact Nat.zero_le _ | exact Nat.le_add_left _ _ | exact Nat.le_of_eq (Nat.add_sub_cancel).symm | decide) ?_
    exact sj_L_law_1833 hd hK18 h_9
  · have h_10 := ineg hc683 h_8
    refine fw_iconst (v := (0 : Int32)) (show decode _ _ = .ok (.iconst 0, 1) by decide +kernel) (by decide) ?_
    exact fw_ret (v := some (.int (0 : Int32))) .ireturn (show decode _ _ = .ok (.ireturn, 1) by decide +kernel) ⟨rfl, Or.inr (Or.inl ⟨rfl, rfl⟩)⟩ ⟨_, rfl, h_10⟩
def j_L_law_700 (K18 : Nat → Nat → Nat → Int32 → fM → Prop) (φ : Int32 → fM → Prop) (p0 : Nat) (p1 : Nat) (p2 : Nat) (p3 : Int32) (M : fM) : Prop := inA M p0 12 (p3 + (1 : Int32)) ∧ isO M p1 10 ∧ w_X10_played p1 (mI M p0 (ix (p3 + (1 : Int32)))) M fun x691 M687 => inA M687 p0 12 (p3 + (1 : Int32)) ∧ isO M687 p2 11 ∧ w_X11_played p2 (mI M687 p0 (ix (p3 + (1 : Int32)))) M687 fun x699 M695 => iF (x691 = x699) (j_L_law_1833 K18 φ p0 p1 p2 p3 M695) (φ (0 : Int32) M695)
set_option maxRecDepth 100000 in
theorem sj_L_law_700 {g : GT} {d Bc Bs : Nat} (hd : 80 ≤ d + 1) {K18 : Nat → Nat → Nat → Int32 → fM → Prop} {φ : Int32 → fM → Prop} (hK18 : ∀ (p0 : Nat) (p1 : Nat) (p2 : Nat) (p3 : Int32) (M : fM), K18 p0 p1 p2 p3 M → FW g mtL_law (d + 1) 18 [(0, .ref p0), (1, .ref p1), (2, .ref p2), (3, .int p3)] [] M Bc Bs (rI φ)) {p0 : Nat} {p1 : Nat} {p2 : Nat} {p3 : Int32} {M : fM} (h : j_L_law_700 K18 φ p0 p1 p2 p3 M) : FW g mtL_law (d + 1) 700 [(0, .ref p0), (1, .ref p1), (2, .ref p2), (3, .int p3)] [] M (Bc + 11) (Bs + 3005) (rI φ) := by
  unfold j_L_law_700 at h
  refine fw_aload_n (i := 1) 1 rfl (show decode _ _ = .ok (.aload_n 1, 1) by decide +kernel) ?_
  refine fw_aload_n (i := 0) 0 rfl (show decode _ _ = .ok (.aload_n 0, 1) by decide +kernel) ?_
  refine fw_iload_n (i := 3) 3 rfl (show decode _ _ = .ok (.iload_n 3, 1) by decide +kernel) ?_
  refine fw_iconst (v := (1 : Int32)) (show decode _ _ = .ok (.iconst 1, 1) by decide +kernel) (by decide) ?_
  refine fw_iadd (show decode _ _ = .ok (.iadd, 1) by decide +kernel) ?_
  obtain ⟨⟨n684, hs685, hi686⟩, h_1⟩ := h
  refine fw_iald (show decode _ _ = .ok (.iaload, 1) by decide +kernel) hs685 hi686 ?_
  obtain ⟨⟨hr689, n688, hs690⟩, h_2⟩ := h_1
  refine fw_callV (mt' := mtX10_played) (mc := 0) (ms := 0) (As := [.int (mI M p0 (ix (p3 + (1 : Int32))))]) (rest := []) 1 10 n688 (show decode _ _ = .ok (.invokevirtual 85, 3) by decide +kernel) cv_L_85 ⟨_, rfl, rfl⟩ hr689 hs690 rfl (Nat.le_of_ble_eq_true rfl) (s_X10_played (d := d) (hd_le hd (by decide)) h_2) (by first | exact Nat.le_refl _ | exact Nat.le_add_right _ _ | exact Nat.zero_le _ | exact Nat.le_add_left _ _ | exact Nat.le_of_eq (Nat.add_sub_cancel).symm | decide) (by first | exact Nat.le_refl _ | exact Nat.le_add_right _ _ | exact Nat.zero_le _ | exact Nat.le_add_left _ _ | exact Nat.le_of_eq (Nat.add_sub_cancel).symm | decide) (kI (bc' := (Bc + 11)) (bs' := (Bs + 3005)) (by first | exact Nat.le_refl _ | exact Nat.le_add_right _ _ | exact Nat.zero_le _ | exact Nat.le_add_left _ _ | exact Nat.le_of_eq (Nat.add_sub_cancel).symm | decide) (by first | exact Nat.le_refl _ | exact Nat.le_add_right _ _ | exact Nat.zero_le _ | exact Nat.le_add_left _ _ | exact Nat.le_of_eq (Nat.add_sub_cancel).symm | decide) (fun x691 M687 h_3 => ?_))
  refine fw_aload_n (i := 2) 2 rfl (show decode _ _ = .ok (.aload_n 2, 1) by decide +kernel) ?_
  refine fw_aload_n (i := 0) 0 rfl (show decode _ _ = .ok (.aload_n 0, 1) by decide +kernel) ?_
  refine fw_iload_n (i := 3) 3 rfl (show decode _ _ = .ok (.iload_n 3, 1) by decide +kernel) ?_
  refine fw_iconst (v := (1 : Int32)) (show decode _ _ = .ok (.iconst 1, 1) by decide +kernel) (by decide) ?_
  refine fw_iadd (show decode _ _ = .ok (.iadd, 1) by decide +kernel) ?_
  obtain ⟨⟨n692, hs693, hi694⟩, h_4⟩ := h_3
  refine fw_iald (show decode _ _ = .ok (.iaload, 1) by decide +kernel) hs693 hi694 ?_
  obtain ⟨⟨hr697, n696, hs698⟩, h_5⟩ := h_4
  refine fw_callV (mt' := mtX11_played) (mc := 0) (ms := 0) (As := [.int (mI M687 p0 (ix (p3 + (1 : Int32))))]) (rest := [.int x691]) 1 11 n696 (show decode _ _ = .ok (.invokevirtual 88, 3) by decide +kernel) cv_L_88 ⟨_, rfl, rfl⟩ hr697 hs698 rfl (Nat.le_of_ble_eq_true rfl) (s_X11_played (d := d) (hd_le hd (by decide)) h_5) (by first | exact Nat.le_refl _ | exact Nat.le_add_right _ _ | exact Nat.zero_le _ | exact Nat.le_add_left _ _ | exact Nat.le_of_eq (Nat.add_sub_cancel).symm | decide) (by first | exact Nat.le_refl _ | exact Nat.le_add_right _ _ | exact Nat.zero_le _ | exact Nat.le_add_left _ _ | exact Nat.le_of_eq (Nat.add_sub_cancel).symm | decide) (kI (bc' := (Bc + 11)) (bs' := (Bs + 3005)) (by first | exact Nat.le_refl _ | exact Nat.le_add_right _ _ | exact Nat.zero_le _ | exact Nat.le_add_left _ _ | exact Nat.le_of_eq (Nat.add_sub_cancel).symm | decide) (by first | exact Nat.le_refl _ | exact Nat.le_add_right _ _ | exact Nat.zero_le _ | exact Nat.le_add_left _ _ | exact Nat.le_of_eq (Nat.add_sub_cancel).symm | decide) (fun x699 M695 h_6 => ?_))
  refine fw_icmp_eq 1833 (show decode _ _ = .ok (.if_icmp .eq 1115, 3) by decide +kernel) (by decide) (fun hc700 => ?_) (fun hc700 => ?_)
  · have h_7 := ipos hc700 h_6
    refine FW.sub [0, 1, 2, 3] (ls' := [(0, .ref p0), (1, .ref p1), (2, .ref p2), (3, .int p3)]) rfl ?_
    refine FW.room (bc' := Bc) (bs' := Bs) (by first | exact Nat.le_refl _ | exact Nat.le_add_right _ _ | exact Nat.zero_le _ | exact Nat.le_add_left _ _ | exact Nat.le_of_eq (Nat.add_sub_cancel).symm | decide) (by first | exact Nat.le_refl _ | exact Nat.le_add_right _ _ | exact Nat.zero_le _ | exact Nat.le_add_left _ _ | exact Nat.le_of_eq (Nat.add_sub_cancel).symm | decide) ?_
    exact sj_L_law_1833 hd hK18 h_7
  · have h_8 := ineg hc700 h_6
    refine fw_iconst (v := (0 : Int32)) (show decode _ _ = .ok (.iconst 0, 1) by decide +kernel) (by decide) ?_
    exact fw_ret (v := some (.int (0 : Int32))) .ireturn (show decode _ _ = .ok (.ireturn, 1) by decide +kernel) ⟨rfl, Or.inr (Or.inl ⟨rfl, rfl⟩)⟩ ⟨_, rfl, h_8⟩
def j_L_law_677 (K18 : Nat → Nat → Nat → Int32 → fM → Prop) (φ : Int32 → fM → Prop) (p0 : Nat) (p1 : Nat) (p2 : Nat) (p3 : Int32) (M : fM) : Prop := inA M p0 12 (p3 + (1 : Int32)) ∧ isO M p1 10 ∧ w_X10_night p1 (mI M p0 (ix (p3 + (1 : Int32)))) M fun x708 M704 => inA M704 p0 12 (p3 + (1 : Int32)) ∧ isO M704 p2 11 ∧ w_X11_night p2 (mI M704 p0 (ix (p3 + (1 : Int32)))) M704 fun x716 M712 => iF (x708 = x716) (j_L_law_1833 K18 φ p0 p1 p2 p3 M712) (φ (0 : Int32) M712)
set_option maxRecDepth 100000 in
theorem sj_L_law_677 {g : GT} {d Bc Bs : Nat} (hd : 80 ≤ d + 1) {K18 : Nat → Nat → Nat → Int32 → fM → Prop} {φ : Int32 → fM → Prop} (hK18 : ∀ (p0 : Nat) (p1 : Nat) (p2 : Nat) (p3 : Int32) (M : fM), K18 p0 p1 p2 p3 M → FW g mtL_law (d + 1) 18 [(0, .ref p0), (1, .ref p1), (2, .ref p2), (3, .int p3)] [] M Bc Bs (rI φ)) {p0 : Nat} {p1 : Nat} {p2 : Nat} {p3 : Int32} {M : fM} (h : j_L_law_677 K18 φ p0 p1 p2 p3 M) : FW g mtL_law (d + 1) 677 [(0, .ref p0), (1, .ref p1), (2, .ref p2), (3, .int p3)] [] M (Bc + 11) (Bs + 3005) (rI φ) := by
  unfold j_L_law_677 at h
  refine fw_aload_n (i := 1) 1 rfl (show decode _ _ = .ok (.aload_n 1, 1) by decide +kernel) ?_
  refine fw_aload_n (i := 0) 0 rfl (show decode _ _ = .ok (.aload_n 0, 1) by decide +kernel) ?_
  refine fw_iload_n (i := 3) 3 rfl (show decode _ _ = .ok (.iload_n 3, 1) by decide +kernel) ?_
  refine fw_iconst (v := (1 : Int32)) (show decode _ _ = .ok (.iconst 1, 1) by decide +kernel) (by decide) ?_
  refine fw_iadd (show decode _ _ = .ok (.iadd, 1) by decide +kernel) ?_
  obtain ⟨⟨n701, hs702, hi703⟩, h_1⟩ := h
  refine fw_iald (show decode _ _ = .ok (.iaload, 1) by decide +kernel) hs702 hi703 ?_
  obtain ⟨⟨hr706, n705, hs707⟩, h_2⟩ := h_1
  refine fw_callV (mt' := mtX10_night) (mc := 0) (ms := 0) (As := [.int (mI M p0 (ix (p3 + (1 : Int32))))]) (rest := []) 1 10 n705 (show decode _ _ = .ok (.invokevirtual 81, 3) by decide +kernel) cv_L_81 ⟨_, rfl, rfl⟩ hr706 hs707 rfl (Nat.le_of_ble_eq_true rfl) (s_X10_night (d := d) (hd_le hd (by decide)) h_2) (by first | exact Nat.le_refl _ | exact Nat.le_add_right _ _ | exact Nat.zero_le _ | exact Nat.le_add_left _ _ | exact Nat.le_of_eq (Nat.add_sub_cancel).symm | decide) (by first | exact Nat.le_refl _ | exact Nat.le_add_right _ _ | exact Nat.zero_le _ | exact Nat.le_add_left _ _ | exact Nat.le_of_eq (Nat.add_sub_cancel).symm | decide) (kI (bc' := (Bc + 11)) (bs' := (Bs + 3005)) (by first | exact Nat.le_refl _ | exact Nat.le_add_right _ _ | exact Nat.zero_le _ | exact Nat.le_add_left _ _ | exact Nat.le_of_eq (Nat.add_sub_cancel).symm | decide) (by first | exact Nat.le_refl _ | exact Nat.le_add_right _ _ | exact Nat.zero_le _ | exact Nat.le_add_left _ _ | exact Nat.le_of_eq (Nat.add_sub_cancel).symm | decide) (fun x708 M704 h_3 => ?_))
  refine fw_aload_n (i := 2) 2 rfl (show decode _ _ = .ok (.aload_n 2, 1) by decide +kernel) ?_
  refine fw_aload_n (i := 0) 0 rfl (show decode _ _ = .ok (.aload_n 0, 1) by decide +kernel) ?_
  refine fw_iload_n (i := 3) 3 rfl (show decode _ _ = .ok (.iload_n 3, 1) by decide +kernel) ?_
  refine fw_iconst (v := (1 : Int32)) (show decode _ _ = .ok (.iconst 1, 1) by decide +kernel) (by decide) ?_
  refine fw_iadd (show decode _ _ = .ok (.iadd, 1) by decide +kernel) ?_
  obtain ⟨⟨n709, hs710, hi711⟩, h_4⟩ := h_3
  refine fw_iald (show decode _ _ = .ok (.iaload, 1) by decide +kernel) hs710 hi711 ?_
  obtain ⟨⟨hr714, n713, hs715⟩, h_5⟩ := h_4
  refine fw_callV (mt' := mtX11_night) (mc := 0) (ms := 0) (As := [.int (mI M704 p0 (ix (p3 + (1 : Int32))))]) (rest := [.int x708]) 1 11 n713 (show decode _ _ = .ok (.invokevirtual 84, 3) by decide +kernel) cv_L_84 ⟨_, rfl, rfl⟩ hr714 hs715 rfl (Nat.le_of_ble_eq_true rfl) (s_X11_night (d := d) (hd_le hd (by decide)) h_5) (by first | exact Nat.le_refl _ | exact Nat.le_add_right _ _ | exact Nat.zero_le _ | exact Nat.le_add_left _ _ | exact Nat.le_of_eq (Nat.add_sub_cancel).symm | decide) (by first | exact Nat.le_refl _ | exact Nat.le_add_right _ _ | exact Nat.zero_le _ | exact Nat.le_add_left _ _ | exact Nat.le_of_eq (Nat.add_sub_cancel).symm | decide) (kI (bc' := (Bc + 11)) (bs' := (Bs + 3005)) (by first | exact Nat.le_refl _ | exact Nat.le_add_right _ _ | exact Nat.zero_le _ | exact Nat.le_add_left _ _ | exact Nat.le_of_eq (Nat.add_sub_cancel).symm | decide) (by first | exact Nat.le_refl _ | exact Nat.le_add_right _ _ | exact Nat.zero_le _ | exact Nat.le_add_left _ _ | exact Nat.le_of_eq (Nat.add_sub_cancel).symm | decide) (fun x716 M712 h_6 => ?_))
  refine fw_icmp_eq 1833 (show decode _ _ = .ok (.if_icmp .eq 1138, 3) by decide +kernel) (by decide) (fun hc717 => ?_) (fun hc717 => ?_)
  · have h_7 := ipos hc717 h_6
    refine FW.sub [0, 1, 2, 3] (ls' := [(0, .ref p0), (1, .ref p1), (2, .ref p2), (3, .int p3)]) rfl ?_
    refine FW.room (bc' := Bc) (bs' := Bs) (by first | exact Nat.le_refl _ | exact Nat.le_add_right _ _ | exact Nat.zero_le _ | exact Nat.le_add_left _ _ | exact Nat.le_of_eq (Nat.add_sub_cancel).symm | decide) (by first | exact Nat.le_refl _ | exact Nat.le_add_right _ _ | exact Nat.zero_le _ | exact Nat.le_add_left _ _ | exact Nat.le_of_eq (Nat.add_sub_cancel).symm | decide) ?_
    exact sj_L_law_1833 hd hK18 h_7
  · have h_8 := ineg hc717 h_6
    refine fw_iconst (v := (0 : Int32)) (show decode _ _ = .ok (.iconst 0, 1) by decide +kernel) (by decide) ?_
    exact fw_ret (v := some (.int (0 : Int32))) .ireturn (show decode _ _ = .ok (.ireturn, 1) by decide +kernel) ⟨rfl, Or.inr (Or.inl ⟨rfl, rfl⟩)⟩ ⟨_, rfl, h_8⟩
def j_L_law_664 (K18 : Nat → Nat → Nat → Int32 → fM → Prop) (φ : Int32 → fM → Prop) (p0 : Nat) (p1 : Nat) (p2 : Nat) (p3 : Int32) (M : fM) : Prop := isO M p1 10 ∧ w_X10_stop p1 M fun x722 M718 => isO M718 p2 11 ∧ w_X11_stop p2 M718 fun x727 M723 => iF (x722 = x727) (j_L_law_1833 K18 φ p0 p1 p2 p3 M723) (φ (0 : Int32) M723)
set_option maxRecDepth 100000 in
theorem sj_L_law_664 {g : GT} {d Bc Bs : Nat} (hd : 80 ≤ d + 1) {K18 : Nat → Nat → Nat → Int32 → fM → Prop} {φ : Int32 → fM → Prop} (hK18 : ∀ (p0 : Nat) (p1 : Nat) (p2 : Nat) (p3 : Int32) (M : fM), K18 p0 p1 p2 p3 M → FW g mtL_law (d + 1) 18 [(0, .ref p0), (1, .ref p1), (2, .ref p2), (3, .int p3)] [] M Bc Bs (rI φ)) {p0 : Nat} {p1 : Nat} {p2 : Nat} {p3 : Int32} {M : fM} (h : j_L_law_664 K18 φ p0 p1 p2 p3 M) : FW g mtL_law (d + 1) 664 [(0, .ref p0), (1, .ref p1), (2, .ref p2), (3, .int p3)] [] M (Bc + 11) (Bs + 3005) (rI φ) := by
  unfold j_L_law_664 at h
  refine fw_aload_n (i := 1) 1 rfl (show decode _ _ = .ok (.aload_n 1, 1) by decide +kernel) ?_
  obtain ⟨⟨hr720, n719, hs721⟩, h_1⟩ := h
  refine fw_callV (mt' := mtX10_stop) (mc := 0) (ms := 0) (As := []) (rest := []) 0 10 n719 (show decode _ _ = .ok (.invokevirtual 77, 3) by decide +kernel) cv_L_77 ⟨_, rfl, rfl⟩ hr720 hs721 rfl (Nat.le_of_ble_eq_true rfl) (s_X10_stop (d := d) (hd_le hd (by decide)) h_1) (by first | exact Nat.le_refl _ | exact Nat.le_add_right _ _ | exact Nat.zero_le _ | exact Nat.le_add_left _ _ | exact Nat.le_of_eq (Nat.add_sub_cancel).symm | decide) (by first | exact Nat.le_refl _ | exact Nat.le_add_right _ _ | exact Nat.zero_le _ | exact Nat.le_add_left _ _ | exact Nat.le_of_eq (Nat.add_sub_cancel).symm | decide) (kI (bc' := (Bc + 11)) (bs' := (Bs + 3005)) (by first | exact Nat.le_refl _ | exact Nat.le_add_right _ _ | exact Nat.zero_le _ | exact Nat.le_add_left _ _ | exact Nat.le_of_eq (Nat.add_sub_cancel).symm | decide) (by first | exact Nat.le_refl _ | exact Nat.le_add_right _ _ | exact Nat.zero_le _ | exact Nat.le_add_left _ _ | exact Nat.le_of_eq (Nat.add_sub_cancel).symm | decide) (fun x722 M718 h_2 => ?_))
  refine fw_aload_n (i := 2) 2 rfl (show decode _ _ = .ok (.aload_n 2, 1) by decide +kernel) ?_
  obtain ⟨⟨hr725, n724, hs726⟩, h_3⟩ := h_2
  refine fw_callV (mt' := mtX11_stop) (mc := 0) (ms := 0) (As := []) (rest := [.int x722]) 0 11 n724 (show decode _ _ = .ok (.invokevirtual 80, 3) by decide +kernel) cv_L_80 ⟨_, rfl, rfl⟩ hr725 hs726 rfl (Nat.le_of_ble_eq_true rfl) (s_X11_stop (d := d) (hd_le hd (by decide)) h_3) (by first | exact Nat.le_refl _ | exact Nat.le_add_right _ _ | exact Nat.zero_le _ | exact Nat.le_add_left _ _ | exact Nat.le_of_eq (Nat.add_sub_cancel).symm | decide) (by first | exact Nat.le_refl _ | exact Nat.le_add_right _ _ | exact Nat.zero_le _ | exact Nat.le_add_left _ _ | exact Nat.le_of_eq (Nat.add_sub_cancel).symm | decide) (kI (bc' := (Bc + 11)) (bs' := (Bs + 3005)) (by first | exact Nat.le_refl _ | exact Nat.le_add_right _ _ | exact Nat.zero_le _ | exact Nat.le_add_left _ _ | exact Nat.le_of_eq (Nat.add_sub_cancel).symm | decide) (by first | exact Nat.le_refl _ | exact Nat.le_add_right _ _ | exact Nat.zero_le _ | exact Nat.le_add_left _ _ | exact Nat.le_of_eq (Nat.add_sub_cancel).symm | decide) (fun x727 M723 h_4 => ?_))
  refine fw_icmp_eq 1833 (show decode _ _ = .ok (.if_icmp .eq 1161, 3) by decide +kernel) (by decide) (fun hc728 => ?_) (fun hc728 => ?_)
  · have h_5 := ipos hc728 h_4
    refine FW.sub [0, 1, 2, 3] (ls' := [(0, .ref p0), (1, .ref p1), (2, .ref p2), (3, .int p3)]) rfl ?_
    refine FW.room (bc' := Bc) (bs' := Bs) (by first | exact Nat.le_refl _ | exact Nat.le_add_right _ _ | exact Nat.zero_le _ | exact Nat.le_add_left _ _ | exact Nat.le_of_eq (Nat.add_sub_cancel).symm | decide) (by first | exact Nat.le_refl _ | exact Nat.le_add_right _ _ | exact Nat.zero_le _ | exact Nat.le_add_left _ _ | exact Nat.le_of_eq (Nat.add_sub_cancel).symm | decide) ?_
    exact sj_L_law_1833 hd hK18 h_5
  · have h_6 := ineg hc728 h_4
    refine fw_iconst (v := (0 : Int32)) (show decode _ _ = .ok (.iconst 0, 1) by decide +kernel) (by decide) ?_
    exact fw_ret (v := some (.int (0 : Int32))) .ireturn (show decode _ _ = .ok (.ireturn, 1) by decide +kernel) ⟨rfl, Or.inr (Or.inl ⟨rfl, rfl⟩)⟩ ⟨_, rfl, h_6⟩
def j_L_law_651 (K18 : Nat → Nat → Nat → Int32 → fM → Prop) (φ : Int32 → fM → Prop) (p0 : Nat) (p1 : Nat) (p2 : Nat) (p3 : Int32) (M : fM) : Prop := isO M p1 10 ∧ w_X10_toe p1 M fun x733 M729 => isO M729 p2 11 ∧ w_X11_toe p2 M729 fun x738 M734 => iF (x733 = x738) (j_L_law_1833 K18 φ p0 p1 p2 p3 M734) (φ (0 : Int32) M734)
set_option maxRecDepth 100000 in
theorem sj_L_law_651 {g : GT} {d Bc Bs : Nat} (hd : 80 ≤ d + 1) {K18 : Nat → Nat → Nat → Int32 → fM → Prop} {φ : Int32 → fM → Prop} (hK18 : ∀ (p0 : Nat) (p1 : Nat) (p2 : Nat) (p3 : Int32) (M : fM), K18 p0 p1 p2 p3 M → FW g mtL_law (d + 1) 18 [(0, .ref p0), (1, .ref p1), (2, .ref p2), (3, .int p3)] [] M Bc Bs (rI φ)) {p0 : Nat} {p1 : Nat} {p2 : Nat} {p3 : Int32} {M : fM} (h : j_L_law_651 K18 φ p0 p1 p2 p3 M) : FW g mtL_law (d + 1) 651 [(0, .ref p0), (1, .ref p1), (2, .ref p2), (3, .int p3)] [] M (Bc + 11) (Bs + 3005) (rI φ) := by
  unfold j_L_law_651 at h
  refine fw_aload_n (i := 1) 1 rfl (show decode _ _ = .ok (.aload_n 1, 1) by decide +kernel) ?_
  obtain ⟨⟨hr731, n730, hs732⟩, h_1⟩ := h
  refine fw_callV (mt' := mtX10_toe) (mc := 0) (ms := 0) (As := []) (rest := []) 0 10 n730 (show decode _ _ = .ok (.invokevirtual 73, 3) by decide +kernel) cv_L_73 ⟨_, rfl, rfl⟩ hr731 hs732 rfl (Nat.le_of_ble_eq_true rfl) (s_X10_toe (d := d) (hd_le hd (by decide)) h_1) (by first | exact Nat.le_refl _ | exact Nat.le_add_right _ _ | exact Nat.zero_le _ | exact Nat.le_add_left _ _ | exact Nat.le_of_eq (Nat.add_sub_cancel).symm | decide) (by first | exact Nat.le_refl _ | exact Nat.le_add_right _ _ | exact Nat.zero_le _ | exact Nat.le_add_left _ _ | exact Nat.le_of_eq (Nat.add_sub_cancel).symm | decide) (kI (bc' := (Bc + 11)) (bs' := (Bs + 3005)) (by first | exact Nat.le_refl _ | exact Nat.le_add_right _ _ | exact Nat.zero_le _ | exact Nat.le_add_left _ _ | exact Nat.le_of_eq (Nat.add_sub_cancel).symm | decide) (by first | exact Nat.le_refl _ | exact Nat.le_add_right _ _ | exact Nat.zero_le _ | exact Nat.le_add_left _ _ | exact Nat.le_of_eq (Nat.add_sub_cancel).symm | decide) (fun x733 M729 h_2 => ?_))
  refine fw_aload_n (i := 2) 2 rfl (show decode _ _ = .ok (.aload_n 2, 1) by decide +kernel) ?_
  obtain ⟨⟨hr736, n735, hs737⟩, h_3⟩ := h_2
  refine fw_callV (mt' := mtX11_toe) (mc := 0) (ms := 0) (As := []) (rest := [.int x733]) 0 11 n735 (show decode _ _ = .ok (.invokevirtual 76, 3) by decide +kernel) cv_L_76 ⟨_, rfl, rfl⟩ hr736 hs737 rfl (Nat.le_of_ble_eq_true rfl) (s_X11_toe (d := d) (hd_le hd (by decide)) h_3) (by first | exact Nat.le_refl _ | exact Nat.le_add_right _ _ | exact Nat.zero_le _ | exact Nat.le_add_left _ _ | exact Nat.le_of_eq (Nat.add_sub_cancel).symm | decide) (by first | exact Nat.le_refl _ | exact Nat.le_add_right _ _ | exact Nat.zero_le _ | exact Nat.le_add_left _ _ | exact Nat.le_of_eq (Nat.add_sub_cancel).symm | decide) (kI (bc' := (Bc + 11)) (bs' := (Bs + 3005)) (by first | exact Nat.le_refl _ | exact Nat.le_add_right _ _ | exact Nat.zero_le _ | exact Nat.le_add_left _ _ | exact Nat.le_of_eq (Nat.add_sub_cancel).symm | decide) (by first | exact Nat.le_refl _ | exact Nat.le_add_right _ _ | exact Nat.zero_le _ | exact Nat.le_add_left _ _ | exact Nat.le_of_eq (Nat.add_sub_cancel).symm | decide) (fun x738 M734 h_4 => ?_))
  refine fw_icmp_eq 1833 (show decode _ _ = .ok (.if_icmp .eq 1174, 3) by decide +kernel) (by decide) (fun hc739 => ?_) (fun hc739 => ?_)
  · have h_5 := ipos hc739 h_4
    refine FW.sub [0, 1, 2, 3] (ls' := [(0, .ref p0), (1, .ref p1), (2, .ref p2), (3, .int p3)]) rfl ?_
    refine FW.room (bc' := Bc) (bs' := Bs) (by first | exact Nat.le_refl _ | exact Nat.le_add_right _ _ | exact Nat.zero_le _ | exact Nat.le_add_left _ _ | exact Nat.le_of_eq (Nat.add_sub_cancel).symm | decide) (by first | exact Nat.le_refl _ | exact Nat.le_add_right _ _ | exact Nat.zero_le _ | exact Nat.le_add_left _ _ | exact Nat.le_of_eq (Nat.add_sub_cancel).symm | decide) ?_
    exact sj_L_law_1833 hd hK18 h_5
  · have h_6 := ineg hc739 h_4
    refine fw_iconst (v := (0 : Int32)) (show decode _ _ = .ok (.iconst 0, 1) by decide +kernel) (by decide) ?_
    exact fw_ret (v := some (.int (0 : Int32))) .ireturn (show decode _ _ = .ok (.ireturn, 1) by decide +kernel) ⟨rfl, Or.inr (Or.inl ⟨rfl, rfl⟩)⟩ ⟨_, rfl, h_6⟩
def j_L_law_638 (K18 : Nat → Nat → Nat → Int32 → fM → Prop) (φ : Int32 → fM → Prop) (p0 : Nat) (p1 : Nat) (p2 : Nat) (p3 : Int32) (M : fM) : Prop := isO M p1 10 ∧ w_X10_step p1 M fun x744 M740 => isO M740 p2 11 ∧ w_X11_step p2 M740 fun x749 M745 => iF (x744 = x749) (j_L_law_1833 K18 φ p0 p1 p2 p3 M745) (φ (0 : Int32) M745)
set_option maxRecDepth 100000 in
theorem sj_L_law_638 {g : GT} {d Bc Bs : Nat} (hd : 80 ≤ d + 1) {K18 : Nat → Nat → Nat → Int32 → fM → Prop} {φ : Int32 → fM → Prop} (hK18 : ∀ (p0 : Nat) (p1 : Nat) (p2 : Nat) (p3 : Int32) (M : fM), K18 p0 p1 p2 p3 M → FW g mtL_law (d + 1) 18 [(0, .ref p0), (1, .ref p1), (2, .ref p2), (3, .int p3)] [] M Bc Bs (rI φ)) {p0 : Nat} {p1 : Nat} {p2 : Nat} {p3 : Int32} {M : fM} (h : j_L_law_638 K18 φ p0 p1 p2 p3 M) : FW g mtL_law (d + 1) 638 [(0, .ref p0), (1, .ref p1), (2, .ref p2), (3, .int p3)] [] M (Bc + 11) (Bs + 3005) (rI φ) := by
  unfold j_L_law_638 at h
  refine fw_aload_n (i := 1) 1 rfl (show decode _ _ = .ok (.aload_n 1, 1) by decide +kernel) ?_
  obtain ⟨⟨hr742, n741, hs743⟩, h_1⟩ := h
  refine fw_callV (mt' := mtX10_step) (mc := 0) (ms := 0) (As := []) (rest := []) 0 10 n741 (show decode _ _ = .ok (.invokevirtual 69, 3) by decide +kernel) cv_L_69 ⟨_, rfl, rfl⟩ hr742 hs743 rfl (Nat.le_of_ble_eq_true rfl) (s_X10_step (d := d) (hd_le hd (by decide)) h_1) (by first | exact Nat.le_refl _ | exact Nat.le_add_right _ _ | exact Nat.zero_le _ | exact Nat.le_add_left _ _ | exact Nat.le_of_eq (Nat.add_sub_cancel).symm | decide) (by first | exact Nat.le_refl _ | exact Nat.le_add_right _ _ | exact Nat.zero_le _ | exact Nat.le_add_left _ _ | exact Nat.le_of_eq (Nat.add_sub_cancel).symm | decide) (kI (bc' := (Bc + 11)) (bs' := (Bs + 3005)) (by first | exact Nat.le_refl _ | exact Nat.le_add_right _ _ | exact Nat.zero_le _ | exact Nat.le_add_left _ _ | exact Nat.le_of_eq (Nat.add_sub_cancel).symm | decide) (by first | exact Nat.le_refl _ | exact Nat.le_add_right _ _ | exact Nat.zero_le _ | exact Nat.le_add_left _ _ | exact Nat.le_of_eq (Nat.add_sub_cancel).symm | decide) (fun x744 M740 h_2 => ?_))
  refine fw_aload_n (i := 2) 2 rfl (show decode _ _ = .ok (.aload_n 2, 1) by decide +kernel) ?_
  obtain ⟨⟨hr747, n746, hs748⟩, h_3⟩ := h_2
  refine fw_callV (mt' := mtX11_step) (mc := 0) (ms := 0) (As := []) (rest := [.int x744]) 0 11 n746 (show decode _ _ = .ok (.invokevirtual 72, 3) by decide +kernel) cv_L_72 ⟨_, rfl, rfl⟩ hr747 hs748 rfl (Nat.le_of_ble_eq_true rfl) (s_X11_step (d := d) (hd_le hd (by decide)) h_3) (by first | exact Nat.le_refl _ | exact Nat.le_add_right _ _ | exact Nat.zero_le _ | exact Nat.le_add_left _ _ | exact Nat.le_of_eq (Nat.add_sub_cancel).symm | decide) (by first | exact Nat.le_refl _ | exact Nat.le_add_right _ _ | exact Nat.zero_le _ | exact Nat.le_add_left _ _ | exact Nat.le_of_eq (Nat.add_sub_cancel).symm | decide) (kI (bc' := (Bc + 11)) (bs' := (Bs + 3005)) (by first | exact Nat.le_refl _ | exact Nat.le_add_right _ _ | exact Nat.zero_le _ | exact Nat.le_add_left _ _ | exact Nat.le_of_eq (Nat.add_sub_cancel).symm | decide) (by first | exact Nat.le_refl _ | exact Nat.le_add_right _ _ | exact Nat.zero_le _ | exact Nat.le_add_left _ _ | exact Nat.le_of_eq (Nat.add_sub_cancel).symm | decide) (fun x749 M745 h_4 => ?_))
  refine fw_icmp_eq 1833 (show decode _ _ = .ok (.if_icmp .eq 1187, 3) by decide +kernel) (by decide) (fun hc750 => ?_) (fun hc750 => ?_)
  · have h_5 := ipos hc750 h_4
    refine FW.sub [0, 1, 2, 3] (ls' := [(0, .ref p0), (1, .ref p1), (2, .ref p2), (3, .int p3)]) rfl ?_
    refine FW.room (bc' := Bc) (bs' := Bs) (by first | exact Nat.le_refl _ | exact Nat.le_add_right _ _ | exact Nat.zero_le _ | exact Nat.le_add_left _ _ | exact Nat.le_of_eq (Nat.add_sub_cancel).symm | decide) (by first | exact Nat.le_refl _ | exact Nat.le_add_right _ _ | exact Nat.zero_le _ | exact Nat.le_add_left _ _ | exact Nat.le_of_eq (Nat.add_sub_cancel).symm | decide) ?_
    exact sj_L_law_1833 hd hK18 h_5
  · have h_6 := ineg hc750 h_4
    refine fw_iconst (v := (0 : Int32)) (show decode _ _ = .ok (.iconst 0, 1) by decide +kernel) (by decide) ?_
    exact fw_ret (v := some (.int (0 : Int32))) .ireturn (show decode _ _ = .ok (.ireturn, 1) by decide +kernel) ⟨rfl, Or.inr (Or.inl ⟨rfl, rfl⟩)⟩ ⟨_, rfl, h_6⟩
def j_L_law_595 (K18 : Nat → Nat → Nat → Int32 → fM → Prop) (φ : Int32 → fM → Prop) (p0 : Nat) (p1 : Nat) (p2 : Nat) (p3 : Int32) (M : fM) : Prop := inA M p0 12 (p3 + (1 : Int32)) ∧ inA M p0 12 (p3 + (2 : Int32)) ∧ inA M p0 12 (p3 + (3 : Int32)) ∧ isO M p1 10 ∧ w_X10_begin p1 (mI M p0 (ix (p3 + (1 : Int32)))) (mI M p0 (ix (p3 + (2 : Int32)))) (mI M p0 (ix (p3 + (3 : Int32)))) M fun x764 M760 => inA M760 p0 12 (p3 + (1 : Int32)) ∧ inA M760 p0 12 (p3 + (2 : Int32)) ∧ inA M760 p0 12 (p3 + (3 : Int32)) ∧ isO M760 p2 11 ∧ w_X11_begin p2 (mI M760 p0 (ix (p3 + (1 : Int32)))) (mI M760 p0 (ix (p3 + (2 : Int32)))) (mI M760 p0 (ix (p3 + (3 : Int32)))) M760 fun x778 M774 => iF (x764 = x778) (j_L_law_1833 K18 φ p0 p1 p2 p3 M774) (φ (0 : Int32) M774)
set_option maxRecDepth 100000 in
theorem sj_L_law_595 {g : GT} {d Bc Bs : Nat} (hd : 80 ≤ d + 1) {K18 : Nat → Nat → Nat → Int32 → fM → Prop} {φ : Int32 → fM → Prop} (hK18 : ∀ (p0 : Nat) (p1 : Nat) (p2 : Nat) (p3 : Int32) (M : fM), K18 p0 p1 p2 p3 M → FW g mtL_law (d + 1) 18 [(0, .ref p0), (1, .ref p1), (2, .ref p2), (3, .int p3)] [] M Bc Bs (rI φ)) {p0 : Nat} {p1 : Nat} {p2 : Nat} {p3 : Int32} {M : fM} (h : j_L_law_595 K18 φ p0 p1 p2 p3 M) : FW g mtL_law (d + 1) 595 [(0, .ref p0), (1, .ref p1), (2, .ref p2), (3, .int p3)] [] M (Bc + 11) (Bs + 3005) (rI φ) := by
  unfold j_L_law_595 at h
  refine fw_aload_n (i := 1) 1 rfl (show decode _ _ = .ok (.aload_n 1, 1) by decide +kernel) ?_
  refine fw_aload_n (i := 0) 0 rfl (show decode _ _ = .ok (.aload_n 0, 1) by decide +kernel) ?_
  refine fw_iload_n (i := 3) 3 rfl (show decode _ _ = .ok (.iload_n 3, 1) by decide +kernel) ?_
  refine fw_iconst (v := (1 : Int32)) (show decode _ _ = .ok (.iconst 1, 1) by decide +kernel) (by decide) ?_
  refine fw_iadd (show decode _ _ = .ok (.iadd, 1) by decide +kernel) ?_
  obtain ⟨⟨n751, hs752, hi753⟩, h_1⟩ := h
  refine fw_iald (show decode _ _ = .ok (.iaload, 1) by decide +kernel) hs752 hi753 ?_
  refine fw_aload_n (i := 0) 0 rfl (show decode _ _ = .ok (.aload_n 0, 1) by decide +kernel) ?_
  refine fw_iload_n (i := 3) 3 rfl (show decode _ _ = .ok (.iload_n 3, 1) by decide +kernel) ?_
  refine fw_iconst (v := (2 : Int32)) (show decode _ _ = .ok (.iconst 2, 1) by decide +kernel) (by decide) ?_
  refine fw_iadd (show decode _ _ = .ok (.iadd, 1) by decide +kernel) ?_
  obtain ⟨⟨n754, hs755, hi756⟩, h_2⟩ := h_1
  refine fw_iald (show decode _ _ = .ok (.iaload, 1) by decide +kernel) hs755 hi756 ?_
  refine fw_aload_n (i := 0) 0 rfl (show decode _ _ = .ok (.aload_n 0, 1) by decide +kernel) ?_
  refine fw_iload_n (i := 3) 3 rfl (show decode _ _ = .ok (.iload_n 3, 1) by decide +kernel) ?_
  refine fw_iconst (v := (3 : Int32)) (show decode _ _ = .ok (.iconst 3, 1) by decide +kernel) (by decide) ?_
  refine fw_iadd (show decode _ _ = .ok (.iadd, 1) by decide +kernel) ?_
  obtain ⟨⟨n757, hs758, hi759⟩, h_3⟩ := h_2
  refine fw_iald (show decode _ _ = .ok (.iaload, 1) by decide +kernel) hs758 hi759 ?_
  obtain ⟨⟨hr762, n761, hs763⟩, h_4⟩ := h_3
  refine fw_callV (mt' := mtX10_begin) (mc := 0) (ms := 0) (As := [.int (mI M p0 (ix (p3 + (1 : Int32)))), .int (mI M p0 (ix (p3 + (2 : Int32)))), .int (mI M p0 (ix (p3 + (3 : Int32))))]) (rest := []) 3 10 n761 (show decode _ _ = .ok (.invokevirtual 65, 3) by decide +kernel) cv_L_65 ⟨_, rfl, rfl⟩ hr762 hs763 rfl (Nat.le_of_ble_eq_true rfl) (s_X10_begin (d := d) (hd_le hd (by decide)) h_4) (by first | exact Nat.le_refl _ | exact Nat.le_add_right _ _ | exact Nat.zero_le _ | exact Nat.le_add_left _ _ | exact Nat.le_of_eq (Nat.add_sub_cancel).symm | decide) (by first | exact Nat.le_refl _ | exact Nat.le_add_right _ _ | exact Nat.zero_le _ | exact Nat.le_add_left _ _ | exact Nat.le_of_eq (Nat.add_sub_cancel).symm | decide) (kI (bc' := (Bc + 11)) (bs' := (Bs + 3005)) (by first | exact Nat.le_refl _ | exact Nat.le_add_right _ _ | exact Nat.zero_le _ | exact Nat.le_add_left _ _ | exact Nat.le_of_eq (Nat.add_sub_cancel).symm | decide) (by first | exact Nat.le_refl _ | exact Nat.le_add_right _ _ | exact Nat.zero_le _ | exact Nat.le_add_left _ _ | exact Nat.le_of_eq (Nat.add_sub_cancel).symm | decide) (fun x764 M760 h_5 => ?_))
  refine fw_aload_n (i := 2) 2 rfl (show decode _ _ = .ok (.aload_n 2, 1) by decide +kernel) ?_
  refine fw_aload_n (i := 0) 0 rfl (show decode _ _ = .ok (.aload_n 0, 1) by decide +kernel) ?_
  refine fw_iload_n (i := 3) 3 rfl (show decode _ _ = .ok (.iload_n 3, 1) by decide +kernel) ?_
  refine fw_iconst (v := (1 : Int32)) (show decode _ _ = .ok (.iconst 1, 1) by decide +kernel) (by decide) ?_
  refine fw_iadd (show decode _ _ = .ok (.iadd, 1) by decide +kernel) ?_
  obtain ⟨⟨n765, hs766, hi767⟩, h_6⟩ := h_5
  refine fw_iald (show decode _ _ = .ok (.iaload, 1) by decide +kernel) hs766 hi767 ?_
  refine fw_aload_n (i := 0) 0 rfl (show decode _ _ = .ok (.aload_n 0, 1) by decide +kernel) ?_
  refine fw_iload_n (i := 3) 3 rfl (show decode _ _ = .ok (.iload_n 3, 1) by decide +kernel) ?_
  refine fw_iconst (v := (2 : Int32)) (show decode _ _ = .ok (.iconst 2, 1) by decide +kernel) (by decide) ?_
  refine fw_iadd (show decode _ _ = .ok (.iadd, 1) by decide +kernel) ?_
  obtain ⟨⟨n768, hs769, hi770⟩, h_7⟩ := h_6
  refine fw_iald (show decode _ _ = .ok (.iaload, 1) by decide +kernel) hs769 hi770 ?_
  refine fw_aload_n (i := 0) 0 rfl (show decode _ _ = .ok (.aload_n 0, 1) by decide +kernel) ?_
  refine fw_iload_n (i := 3) 3 rfl (show decode _ _ = .ok (.iload_n 3, 1) by decide +kernel) ?_
  refine fw_iconst (v := (3 : Int32)) (show decode _ _ = .ok (.iconst 3, 1) by decide +kernel) (by decide) ?_
  refine fw_iadd (show decode _ _ = .ok (.iadd, 1) by decide +kernel) ?_
  obtain ⟨⟨n771, hs772, hi773⟩, h_8⟩ := h_7
  refine fw_iald (show decode _ _ = .ok (.iaload, 1) by decide +kernel) hs772 hi773 ?_
  obtain ⟨⟨hr776, n775, hs777⟩, h_9⟩ := h_8
  refine fw_callV (mt' := mtX11_begin) (mc := 0) (ms := 0) (As := [.int (mI M760 p0 (ix (p3 + (1 : Int32)))), .int (mI M760 p0 (ix (p3 + (2 : Int32)))), .int (mI M760 p0 (ix (p3 + (3 : Int32))))]) (rest := [.int x764]) 3 11 n775 (show decode _ _ = .ok (.invokevirtual 68, 3) by decide +kernel) cv_L_68 ⟨_, rfl, rfl⟩ hr776 hs777 rfl (Nat.le_of_ble_eq_true rfl) (s_X11_begin (d := d) (hd_le hd (by decide)) h_9) (by first | exact Nat.le_refl _ | exact Nat.le_add_right _ _ | exact Nat.zero_le _ | exact Nat.le_add_left _ _ | exact Nat.le_of_eq (Nat.add_sub_cancel).symm | decide) (by first | exact Nat.le_refl _ | exact Nat.le_add_right _ _ | exact Nat.zero_le _ | exact Nat.le_add_left _ _ | exact Nat.le_of_eq (Nat.add_sub_cancel).symm | decide) (kI (bc' := (Bc + 11)) (bs' := (Bs + 3005)) (by first | exact Nat.le_refl _ | exact Nat.le_add_right _ _ | exact Nat.zero_le _ | exact Nat.le_add_left _ _ | exact Nat.le_of_eq (Nat.add_sub_cancel).symm | decide) (by first | exact Nat.le_refl _ | exact Nat.le_add_right _ _ | exact Nat.zero_le _ | exact Nat.le_add_left _ _ | exact Nat.le_of_eq (Nat.add_sub_cancel).symm | decide) (fun x778 M774 h_10 => ?_))
  refine fw_icmp_eq 1833 (show decode _ _ = .ok (.if_icmp .eq 1200, 3) by decide +kernel) (by decide) (fun hc779 => ?_) (fun hc779 => ?_)
  · have h_11 := ipos hc779 h_10
    refine FW.sub [0, 1, 2, 3] (ls' := [(0, .ref p0), (1, .ref p1), (2, .ref p2), (3, .int p3)]) rfl ?_
    refine FW.room (bc' := Bc) (bs' := Bs) (by first | exact Nat.le_refl _ | exact Nat.le_add_right _ _ | exact Nat.zero_le _ | exact Nat.le_add_left _ _ | exact Nat.le_of_eq (Nat.add_sub_cancel).symm | decide) (by first | exact Nat.le_refl _ | exact Nat.le_add_right _ _ | exact Nat.zero_le _ | exact Nat.le_add_left _ _ | exact Nat.le_of_eq (Nat.add_sub_cancel).symm | decide) ?_
    exact sj_L_law_1833 hd hK18 h_11
  · have h_12 := ineg hc779 h_10
    refine fw_iconst (v := (0 : Int32)) (show decode _ _ = .ok (.iconst 0, 1) by decide +kernel) (by decide) ?_
    exact fw_ret (v := some (.int (0 : Int32))) .ireturn (show decode _ _ = .ok (.ireturn, 1) by decide +kernel) ⟨rfl, Or.inr (Or.inl ⟨rfl, rfl⟩)⟩ ⟨_, rfl, h_12⟩
def j_L_law_572 (K18 : Nat → Nat → Nat → Int32 → fM → Prop) (φ : Int32 → fM → Prop) (p0 : Nat) (p1 : Nat) (p2 : Nat) (p3 : Int32) (M : fM) : Prop := inA M p0 12 (p3 + (1 : Int32)) ∧ isO M p1 10 ∧ w_X10_by p1 (mI M p0 (ix (p3 + (1 : Int32)))) M fun x787 M783 => inA M783 p0 12 (p3 + (1 : Int32)) ∧ isO M783 p2 11 ∧ w_X11_by p2 (mI M783 p0 (ix (p3 + (1 : Int32)))) M783 fun x795 M791 => iF (x787 = x795) (j_L_law_1833 K18 φ p0 p1 p2 p3 M791) (φ (0 : Int32) M791)
set_option maxRecDepth 100000 in
theorem sj_L_law_572 {g : GT} {d Bc Bs : Nat} (hd : 80 ≤ d + 1) {K18 : Nat → Nat → Nat → Int32 → fM → Prop} {φ : Int32 → fM → Prop} (hK18 : ∀ (p0 : Nat) (p1 : Nat) (p2 : Nat) (p3 : Int32) (M : fM), K18 p0 p1 p2 p3 M → FW g mtL_law (d + 1) 18 [(0, .ref p0), (1, .ref p1), (2, .ref p2), (3, .int p3)] [] M Bc Bs (rI φ)) {p0 : Nat} {p1 : Nat} {p2 : Nat} {p3 : Int32} {M : fM} (h : j_L_law_572 K18 φ p0 p1 p2 p3 M) : FW g mtL_law (d + 1) 572 [(0, .ref p0), (1, .ref p1), (2, .ref p2), (3, .int p3)] [] M (Bc + 11) (Bs + 3005) (rI φ) := by
  unfold j_L_law_572 at h
  refine fw_aload_n (i := 1) 1 rfl (show decode _ _ = .ok (.aload_n 1, 1) by decide +kernel) ?_
  refine fw_aload_n (i := 0) 0 rfl (show decode _ _ = .ok (.aload_n 0, 1) by decide +kernel) ?_
  refine fw_iload_n (i := 3) 3 rfl (show decode _ _ = .ok (.iload_n 3, 1) by decide +kernel) ?_
  refine fw_iconst (v := (1 : Int32)) (show decode _ _ = .ok (.iconst 1, 1) by decide +kernel) (by decide) ?_
  refine fw_iadd (show decode _ _ = .ok (.iadd, 1) by decide +kernel) ?_
  obtain ⟨⟨n780, hs781, hi782⟩, h_1⟩ := h
  refine fw_iald (show decode _ _ = .ok (.iaload, 1) by decide +kernel) hs781 hi782 ?_
  obtain ⟨⟨hr785, n784, hs786⟩, h_2⟩ := h_1
  refine fw_callV (mt' := mtX10_by) (mc := 0) (ms := 0) (As := [.int (mI M p0 (ix (p3 + (1 : Int32))))]) (rest := []) 1 10 n784 (show decode _ _ = .ok (.invokevirtual 61, 3) by decide +kernel) cv_L_61 ⟨_, rfl, rfl⟩ hr785 hs786 rfl (Nat.le_of_ble_eq_true rfl) (s_X10_by (d := d) (hd_le hd (by decide)) h_2) (by first | exact Nat.le_refl _ | exact Nat.le_add_right _ _ | exact Nat.zero_le _ | exact Nat.le_add_left _ _ | exact Nat.le_of_eq (Nat.add_sub_cancel).symm | decide) (by first | exact Nat.le_refl _ | exact Nat.le_add_right _ _ | exact Nat.zero_le _ | exact Nat.le_add_left _ _ | exact Nat.le_of_eq (Nat.add_sub_cancel).symm | decide) (kI (bc' := (Bc + 11)) (bs' := (Bs + 3005)) (by first | exact Nat.le_refl _ | exact Nat.le_add_right _ _ | exact Nat.zero_le _ | exact Nat.le_add_left _ _ | exact Nat.le_of_eq (Nat.add_sub_cancel).symm | decide) (by first | exact Nat.le_refl _ | exact Nat.le_add_right _ _ | exact Nat.zero_le _ | exact Nat.le_add_left _ _ | exact Nat.le_of_eq (Nat.add_sub_cancel).symm | decide) (fun x787 M783 h_3 => ?_))
  refine fw_aload_n (i := 2) 2 rfl (show decode _ _ = .ok (.aload_n 2, 1) by decide +kernel) ?_
  refine fw_aload_n (i := 0) 0 rfl (show decode _ _ = .ok (.aload_n 0, 1) by decide +kernel) ?_
  refine fw_iload_n (i := 3) 3 rfl (show decode _ _ = .ok (.iload_n 3, 1) by decide +kernel) ?_
  refine fw_iconst (v := (1 : Int32)) (show decode _ _ = .ok (.iconst 1, 1) by decide +kernel) (by decide) ?_
  refine fw_iadd (show decode _ _ = .ok (.iadd, 1) by decide +kernel) ?_
  obtain ⟨⟨n788, hs789, hi790⟩, h_4⟩ := h_3
  refine fw_iald (show decode _ _ = .ok (.iaload, 1) by decide +kernel) hs789 hi790 ?_
  obtain ⟨⟨hr793, n792, hs794⟩, h_5⟩ := h_4
  refine fw_callV (mt' := mtX11_by) (mc := 0) (ms := 0) (As := [.int (mI M783 p0 (ix (p3 + (1 : Int32))))]) (rest := [.int x787]) 1 11 n792 (show decode _ _ = .ok (.invokevirtual 64, 3) by decide +kernel) cv_L_64 ⟨_, rfl, rfl⟩ hr793 hs794 rfl (Nat.le_of_ble_eq_true rfl) (s_X11_by (d := d) (hd_le hd (by decide)) h_5) (by first | exact Nat.le_refl _ | exact Nat.le_add_right _ _ | exact Nat.zero_le _ | exact Nat.le_add_left _ _ | exact Nat.le_of_eq (Nat.add_sub_cancel).symm | decide) (by first | exact Nat.le_refl _ | exact Nat.le_add_right _ _ | exact Nat.zero_le _ | exact Nat.le_add_left _ _ | exact Nat.le_of_eq (Nat.add_sub_cancel).symm | decide) (kI (bc' := (Bc + 11)) (bs' := (Bs + 3005)) (by first | exact Nat.le_refl _ | exact Nat.le_add_right _ _ | exact Nat.zero_le _ | exact Nat.le_add_left _ _ | exact Nat.le_of_eq (Nat.add_sub_cancel).symm | decide) (by first | exact Nat.le_refl _ | exact Nat.le_add_right _ _ | exact Nat.zero_le _ | exact Nat.le_add_left _ _ | exact Nat.le_of_eq (Nat.add_sub_cancel).symm | decide) (fun x795 M791 h_6 => ?_))
  refine fw_icmp_eq 1833 (show decode _ _ = .ok (.if_icmp .eq 1243, 3) by decide +kernel) (by decide) (fun hc796 => ?_) (fun hc796 => ?_)
  · have h_7 := ipos hc796 h_6
    refine FW.sub [0, 1, 2, 3] (ls' := [(0, .ref p0), (1, .ref p1), (2, .ref p2), (3, .int p3)]) rfl ?_
    refine FW.room (bc' := Bc) (bs' := Bs) (by first | exact Nat.le_refl _ | exact Nat.le_add_right _ _ | exact Nat.zero_le _ | exact Nat.le_add_left _ _ | exact Nat.le_of_eq (Nat.add_sub_cancel).symm | decide) (by first | exact Nat.le_refl _ | exact Nat.le_add_right _ _ | exact Nat.zero_le _ | exact Nat.le_add_left _ _ | exact Nat.le_of_eq (Nat.add_sub_cancel).symm | decide) ?_
    exact sj_L_law_1833 hd hK18 h_7
  · have h_8 := ineg hc796 h_6
    refine fw_iconst (v := (0 : Int32)) (show decode _ _ = .ok (.iconst 0, 1) by decide +kernel) (by decide) ?_
    exact fw_ret (v := some (.int (0 : Int32))) .ireturn (show decode _ _ = .ok (.ireturn, 1) by decide +kernel) ⟨rfl, Or.inr (Or.inl ⟨rfl, rfl⟩)⟩ ⟨_, rfl, h_8⟩
def j_L_law_549 (K18 : Nat → Nat → Nat → Int32 → fM → Prop) (φ : Int32 → fM → Prop) (p0 : Nat) (p1 : Nat) (p2 : Nat) (p3 : Int32) (M : fM) : Prop := inA M p0 12 (p3 + (1 : Int32)) ∧ isO M p1 10 ∧ w_X10_fault p1 (mI M p0 (ix (p3 + (1 : Int32)))) M fun x804 M800 => inA M800 p0 12 (p3 + (1 : Int32)) ∧ isO M800 p2 11 ∧ w_X11_fault p2 (mI M800 p0 (ix (p3 + (1 : Int32)))) M800 fun x812 M808 => iF (x804 = x812) (j_L_law_1833 K18 φ p0 p1 p2 p3 M808) (φ (0 : Int32) M808)
set_option maxRecDepth 100000 in
theorem sj_L_law_549 {g : GT} {d Bc Bs : Nat} (hd : 80 ≤ d + 1) {K18 : Nat → Nat → Nat → Int32 → fM → Prop} {φ : Int32 → fM → Prop} (hK18 : ∀ (p0 : Nat) (p1 : Nat) (p2 : Nat) (p3 : Int32) (M : fM), K18 p0 p1 p2 p3 M → FW g mtL_law (d + 1) 18 [(0, .ref p0), (1, .ref p1), (2, .ref p2), (3, .int p3)] [] M Bc Bs (rI φ)) {p0 : Nat} {p1 : Nat} {p2 : Nat} {p3 : Int32} {M : fM} (h : j_L_law_549 K18 φ p0 p1 p2 p3 M) : FW g mtL_law (d + 1) 549 [(0, .ref p0), (1, .ref p1), (2, .ref p2), (3, .int p3)] [] M (Bc + 11) (Bs + 3005) (rI φ) := by
  unfold j_L_law_549 at h
  refine fw_aload_n (i := 1) 1 rfl (show decode _ _ = .ok (.aload_n 1, 1) by decide +kernel) ?_
  refine fw_aload_n (i := 0) 0 rfl (show decode _ _ = .ok (.aload_n 0, 1) by decide +kernel) ?_
  refine fw_iload_n (i := 3) 3 rfl (show decode _ _ = .ok (.iload_n 3, 1) by decide +kernel) ?_
  refine fw_iconst (v := (1 : Int32)) (show decode _ _ = .ok (.iconst 1, 1) by decide +kernel) (by decide) ?_
  refine fw_iadd (show decode _ _ = .ok (.iadd, 1) by decide +kernel) ?_
  obtain ⟨⟨n797, hs798, hi799⟩, h_1⟩ := h
  refine fw_iald (show decode _ _ = .ok (.iaload, 1) by decide +kernel) hs798 hi799 ?_
  obtain ⟨⟨hr802, n801, hs803⟩, h_2⟩ := h_1
  refine fw_callV (mt' := mtX10_fault) (mc := 0) (ms := 0) (As := [.int (mI M p0 (ix (p3 + (1 : Int32))))]) (rest := []) 1 10 n801 (show decode _ _ = .ok (.invokevirtual 57, 3) by decide +kernel) cv_L_57 ⟨_, rfl, rfl⟩ hr802 hs803 rfl (Nat.le_of_ble_eq_true rfl) (s_X10_fault (d := d) (hd_le hd (by decide)) h_2) (by first | exact Nat.le_refl _ | exact Nat.le_add_right _ _ | exact Nat.zero_le _ | exact Nat.le_add_left _ _ | exact Nat.le_of_eq (Nat.add_sub_cancel).symm | decide) (by first | exact Nat.le_refl _ | exact Nat.le_add_right _ _ | exact Nat.zero_le _ | exact Nat.le_add_left _ _ | exact Nat.le_of_eq (Nat.add_sub_cancel).symm | decide) (kI (bc' := (Bc + 11)) (bs' := (Bs + 3005)) (by first | exact Nat.le_refl _ | exact Nat.le_add_right _ _ | exact Nat.zero_le _ | exact Nat.le_add_left _ _ | exact Nat.le_of_eq (Nat.add_sub_cancel).symm | decide) (by first | exact Nat.le_refl _ | exact Nat.le_add_right _ _ | exact Nat.zero_le _ | exact Nat.le_add_left _ _ | exact Nat.le_of_eq (Nat.add_sub_cancel).symm | decide) (fun x804 M800 h_3 => ?_))
  refine fw_aload_n (i := 2) 2 rfl (show decode _ _ = .ok (.aload_n 2, 1) by decide +kernel) ?_
  refine fw_aload_n (i := 0) 0 rfl (show decode _ _ = .ok (.aload_n 0, 1) by decide +kernel) ?_
  refine fw_iload_n (i := 3) 3 rfl (show decode _ _ = .ok (.iload_n 3, 1) by decide +kernel) ?_
  refine fw_iconst (v := (1 : Int32)) (show decode _ _ = .ok (.iconst 1, 1) by decide +kernel) (by decide) ?_
  refine fw_iadd (show decode _ _ = .ok (.iadd, 1) by decide +kernel) ?_
  obtain ⟨⟨n805, hs806, hi807⟩, h_4⟩ := h_3
  refine fw_iald (show decode _ _ = .ok (.iaload, 1) by decide +kernel) hs806 hi807 ?_
  obtain ⟨⟨hr810, n809, hs811⟩, h_5⟩ := h_4
  refine fw_callV (mt' := mtX11_fault) (mc := 0) (ms := 0) (As := [.int (mI M800 p0 (ix (p3 + (1 : Int32))))]) (rest := [.int x804]) 1 11 n809 (show decode _ _ = .ok (.invokevirtual 60, 3) by decide +kernel) cv_L_60 ⟨_, rfl, rfl⟩ hr810 hs811 rfl (Nat.le_of_ble_eq_true rfl) (s_X11_fault (d := d) (hd_le hd (by decide)) h_5) (by first | exact Nat.le_refl _ | exact Nat.le_add_right _ _ | exact Nat.zero_le _ | exact Nat.le_add_left _ _ | exact Nat.le_of_eq (Nat.add_sub_cancel).symm | decide) (by first | exact Nat.le_refl _ | exact Nat.le_add_right _ _ | exact Nat.zero_le _ | exact Nat.le_add_left _ _ | exact Nat.le_of_eq (Nat.add_sub_cancel).symm | decide) (kI (bc' := (Bc + 11)) (bs' := (Bs + 3005)) (by first | exact Nat.le_refl _ | exact Nat.le_add_right _ _ | exact Nat.zero_le _ | exact Nat.le_add_left _ _ | exact Nat.le_of_eq (Nat.add_sub_cancel).symm | decide) (by first | exact Nat.le_refl _ | exact Nat.le_add_right _ _ | exact Nat.zero_le _ | exact Nat.le_add_left _ _ | exact Nat.le_of_eq (Nat.add_sub_cancel).symm | decide) (fun x812 M808 h_6 => ?_))
  refine fw_icmp_eq 1833 (show decode _ _ = .ok (.if_icmp .eq 1266, 3) by decide +kernel) (by decide) (fun hc813 => ?_) (fun hc813 => ?_)
  · have h_7 := ipos hc813 h_6
    refine FW.sub [0, 1, 2, 3] (ls' := [(0, .ref p0), (1, .ref p1), (2, .ref p2), (3, .int p3)]) rfl ?_
    refine FW.room (bc' := Bc) (bs' := Bs) (by first | exact Nat.le_refl _ | exact Nat.le_add_right _ _ | exact Nat.zero_le _ | exact Nat.le_add_left _ _ | exact Nat.le_of_eq (Nat.add_sub_cancel).symm | decide) (by first | exact Nat.le_refl _ | exact Nat.le_add_right _ _ | exact Nat.zero_le _ | exact Nat.le_add_left _ _ | exact Nat.le_of_eq (Nat.add_sub_cancel).symm | decide) ?_
    exact sj_L_law_1833 hd hK18 h_7
  · have h_8 := ineg hc813 h_6
    refine fw_iconst (v := (0 : Int32)) (show decode _ _ = .ok (.iconst 0, 1) by decide +kernel) (by decide) ?_
    exact fw_ret (v := some (.int (0 : Int32))) .ireturn (show decode _ _ = .ok (.ireturn, 1) by decide +kernel) ⟨rfl, Or.inr (Or.inl ⟨rfl, rfl⟩)⟩ ⟨_, rfl, h_8⟩
def j_L_law_536 (K18 : Nat → Nat → Nat → Int32 → fM → Prop) (φ : Int32 → fM → Prop) (p0 : Nat) (p1 : Nat) (p2 : Nat) (p3 : Int32) (M : fM) : Prop := isO M p1 10 ∧ w_X10_text p1 M fun x818 M814 => isO M814 p2 11 ∧ w_X11_text p2 M814 fun x823 M819 => iF (x818 = x823) (j_L_law_1833 K18 φ p0 p1 p2 p3 M819) (φ (0 : Int32) M819)
set_option maxRecDepth 100000 in
theorem sj_L_law_536 {g : GT} {d Bc Bs : Nat} (hd : 80 ≤ d + 1) {K18 : Nat → Nat → Nat → Int32 → fM → Prop} {φ : Int32 → fM → Prop} (hK18 : ∀ (p0 : Nat) (p1 : Nat) (p2 : Nat) (p3 : Int32) (M : fM), K18 p0 p1 p2 p3 M → FW g mtL_law (d + 1) 18 [(0, .ref p0), (1, .ref p1), (2, .ref p2), (3, .int p3)] [] M Bc Bs (rI φ)) {p0 : Nat} {p1 : Nat} {p2 : Nat} {p3 : Int32} {M : fM} (h : j_L_law_536 K18 φ p0 p1 p2 p3 M) : FW g mtL_law (d + 1) 536 [(0, .ref p0), (1, .ref p1), (2, .ref p2), (3, .int p3)] [] M (Bc + 11) (Bs + 3005) (rI φ) := by
  unfold j_L_law_536 at h
  refine fw_aload_n (i := 1) 1 rfl (show decode _ _ = .ok (.aload_n 1, 1) by decide +kernel) ?_
  obtain ⟨⟨hr816, n815, hs817⟩, h_1⟩ := h
  refine fw_callV (mt' := mtX10_text) (mc := 11) (ms := 3005) (As := []) (rest := []) 0 10 n815 (show decode _ _ = .ok (.invokevirtual 52, 3) by decide +kernel) cv_L_52 ⟨_, rfl, rfl⟩ hr816 hs817 rfl (Nat.le_of_ble_eq_true rfl) (s_X10_text (d := d) (hd_le hd (by decide)) h_1) (by first | exact Nat.le_refl _ | exact Nat.le_add_right _ _ | exact Nat.zero_le _ | exact Nat.le_add_left _ _ | exact Nat.le_of_eq (Nat.add_sub_cancel).symm | decide) (by first | exact Nat.le_refl _ | exact Nat.le_add_right _ _ | exact Nat.zero_le _ | exact Nat.le_add_left _ _ | exact Nat.le_of_eq (Nat.add_sub_cancel).symm | decide) (kI (bc' := Bc) (bs' := Bs) (by first | exact Nat.le_refl _ | exact Nat.le_add_right _ _ | exact Nat.zero_le _ | exact Nat.le_add_left _ _ | exact Nat.le_of_eq (Nat.add_sub_cancel).symm | decide) (by first | exact Nat.le_refl _ | exact Nat.le_add_right _ _ | exact Nat.zero_le _ | exact Nat.le_add_left _ _ | exact Nat.le_of_eq (Nat.add_sub_cancel).symm | decide) (fun x818 M814 h_2 => ?_))
  refine fw_aload_n (i := 2) 2 rfl (show decode _ _ = .ok (.aload_n 2, 1) by decide +kernel) ?_
  obtain ⟨⟨hr821, n820, hs822⟩, h_3⟩ := h_2
  refine fw_callV (mt' := mtX11_text) (mc := 0) (ms := 0) (As := []) (rest := [.int x818]) 0 11 n820 (show decode _ _ = .ok (.invokevirtual 56, 3) by decide +kernel) cv_L_56 ⟨_, rfl, rfl⟩ hr821 hs822 rfl (Nat.le_of_ble_eq_true rfl) (s_X11_text (d := d) (hd_le hd (by decide)) h_3) (by first | exact Nat.le_refl _ | exact Nat.le_add_right _ _ | exact Nat.zero_le _ | exact Nat.le_add_left _ _ | exact Nat.le_of_eq (Nat.add_sub_cancel).symm | decide) (by first | exact Nat.le_refl _ | exact Nat.le_add_right _ _ | exact Nat.zero_le _ | exact Nat.le_add_left _ _ | exact Nat.le_of_eq (Nat.add_sub_cancel).symm | decide) (kI (bc' := Bc) (bs' := Bs) (by first | exact Nat.le_refl _ | exact Nat.le_add_right _ _ | exact Nat.zero_le _ | exact Nat.le_add_left _ _ | exact Nat.le_of_eq (Nat.add_sub_cancel).symm | decide) (by first | exact Nat.le_refl _ | exact Nat.le_add_right _ _ | exact Nat.zero_le _ | exact Nat.le_add_left _ _ | exact Nat.le_of_eq (Nat.add_sub_cancel).symm | decide) (fun x823 M819 h_4 => ?_))
  refine fw_icmp_eq 1833 (show decode _ _ = .ok (.if_icmp .eq 1289, 3) by decide +kernel) (by decide) (fun hc824 => ?_) (fun hc824 => ?_)
  · have h_5 := ipos hc824 h_4
    refine FW.sub [0, 1, 2, 3] (ls' := [(0, .ref p0), (1, .ref p1), (2, .ref p2), (3, .int p3)]) rfl ?_
    exact sj_L_law_1833 hd hK18 h_5
  · have h_6 := ineg hc824 h_4
    refine fw_iconst (v := (0 : Int32)) (show decode _ _ = .ok (.iconst 0, 1) by decide +kernel) (by decide) ?_
    exact fw_ret (v := some (.int (0 : Int32))) .ireturn (show decode _ _ = .ok (.ireturn, 1) by decide +kernel) ⟨rfl, Or.inr (Or.inl ⟨rfl, rfl⟩)⟩ ⟨_, rfl, h_6⟩
def j_L_law_513 (K18 : Nat → Nat → Nat → Int32 → fM → Prop) (φ : Int32 → fM → Prop) (p0 : Nat) (p1 : Nat) (p2 : Nat) (p3 : Int32) (M : fM) : Prop := inA M p0 12 (p3 + (1 : Int32)) ∧ isO M p1 10 ∧ w_X10_end p1 (mI M p0 (ix (p3 + (1 : Int32)))) M fun x832 M828 => inA M828 p0 12 (p3 + (1 : Int32)) ∧ isO M828 p2 11 ∧ w_X11_end p2 (mI M828 p0 (ix (p3 + (1 : Int32)))) M828 fun x840 M836 => iF (x832 = x840) (j_L_law_1833 K18 φ p0 p1 p2 p3 M836) (φ (0 : Int32) M836)
set_option maxRecDepth 100000 in
theorem sj_L_law_513 {g : GT} {d Bc Bs : Nat} (hd : 80 ≤ d + 1) {K18 : Nat → Nat → Nat → Int32 → fM → Prop} {φ : Int32 → fM → Prop} (hK18 : ∀ (p0 : Nat) (p1 : Nat) (p2 : Nat) (p3 : Int32) (M : fM), K18 p0 p1 p2 p3 M → FW g mtL_law (d + 1) 18 [(0, .ref p0), (1, .ref p1), (2, .ref p2), (3, .int p3)] [] M Bc Bs (rI φ)) {p0 : Nat} {p1 : Nat} {p2 : Nat} {p3 : Int32} {M : fM} (h : j_L_law_513 K18 φ p0 p1 p2 p3 M) : FW g mtL_law (d + 1) 513 [(0, .ref p0), (1, .ref p1), (2, .ref p2), (3, .int p3)] [] M (Bc + 11) (Bs + 3005) (rI φ) := by
  unfold j_L_law_513 at h
  refine fw_aload_n (i := 1) 1 rfl (show decode _ _ = .ok (.aload_n 1, 1) by decide +kernel) ?_
  refine fw_aload_n (i := 0) 0 rfl (show decode _ _ = .ok (.aload_n 0, 1) by decide +kernel) ?_
  refine fw_iload_n (i := 3) 3 rfl (show decode _ _ = .ok (.iload_n 3, 1) by decide +kernel) ?_
  refine fw_iconst (v := (1 : Int32)) (show decode _ _ = .ok (.iconst 1, 1) by decide +kernel) (by decide) ?_
  refine fw_iadd (show decode _ _ = .ok (.iadd, 1) by decide +kernel) ?_
  obtain ⟨⟨n825, hs826, hi827⟩, h_1⟩ := h
  refine fw_iald (show decode _ _ = .ok (.iaload, 1) by decide +kernel) hs826 hi827 ?_
  obtain ⟨⟨hr830, n829, hs831⟩, h_2⟩ := h_1
  refine fw_callV (mt' := mtX10_end) (mc := 0) (ms := 0) (As := [.int (mI M p0 (ix (p3 + (1 : Int32))))]) (rest := []) 1 10 n829 (show decode _ _ = .ok (.invokevirtual 47, 3) by decide +kernel) cv_L_47 ⟨_, rfl, rfl⟩ hr830 hs831 rfl (Nat.le_of_ble_eq_true rfl) (s_X10_end (d := d) (hd_le hd (by decide)) h_2) (by first | exact Nat.le_refl _ | exact Nat.le_add_right _ _ | exact Nat.zero_le _ | exact Nat.le_add_left _ _ | exact Nat.le_of_eq (Nat.add_sub_cancel).symm | decide) (by first | exact Nat.le_refl _ | exact Nat.le_add_right _ _ | exact Nat.zero_le _ | exact Nat.le_add_left _ _ | exact Nat.le_of_eq (Nat.add_sub_cancel).symm | decide) (kI (bc' := (Bc + 11)) (bs' := (Bs + 3005)) (by first | exact Nat.le_refl _ | exact Nat.le_add_right _ _ | exact Nat.zero_le _ | exact Nat.le_add_left _ _ | exact Nat.le_of_eq (Nat.add_sub_cancel).symm | decide) (by first | exact Nat.le_refl _ | exact Nat.le_add_right _ _ | exact Nat.zero_le _ | exact Nat.le_add_left _ _ | exact Nat.le_of_eq (Nat.add_sub_cancel).symm | decide) (fun x832 M828 h_3 => ?_))
  refine fw_aload_n (i := 2) 2 rfl (show decode _ _ = .ok (.aload_n 2, 1) by decide +kernel) ?_
  refine fw_aload_n (i := 0) 0 rfl (show decode _ _ = .ok (.aload_n 0, 1) by decide +kernel) ?_
  refine fw_iload_n (i := 3) 3 rfl (show decode _ _ = .ok (.iload_n 3, 1) by decide +kernel) ?_
  refine fw_iconst (v := (1 : Int32)) (show decode _ _ = .ok (.iconst 1, 1) by decide +kernel) (by decide) ?_
  refine fw_iadd (show decode _ _ = .ok (.iadd, 1) by decide +kernel) ?_
  obtain ⟨⟨n833, hs834, hi835⟩, h_4⟩ := h_3
  refine fw_iald (show decode _ _ = .ok (.iaload, 1) by decide +kernel) hs834 hi835 ?_
  obtain ⟨⟨hr838, n837, hs839⟩, h_5⟩ := h_4
  refine fw_callV (mt' := mtX11_end) (mc := 0) (ms := 0) (As := [.int (mI M828 p0 (ix (p3 + (1 : Int32))))]) (rest := [.int x832]) 1 11 n837 (show decode _ _ = .ok (.invokevirtual 51, 3) by decide +kernel) cv_L_51 ⟨_, rfl, rfl⟩ hr838 hs839 rfl (Nat.le_of_ble_eq_true rfl) (s_X11_end (d := d) (hd_le hd (by decide)) h_5) (by first | exact Nat.le_refl _ | exact Nat.le_add_right _ _ | exact Nat.zero_le _ | exact Nat.le_add_left _ _ | exact Nat.le_of_eq (Nat.add_sub_cancel).symm | decide) (by first | exact Nat.le_refl _ | exact Nat.le_add_right _ _ | exact Nat.zero_le _ | exact Nat.le_add_left _ _ | exact Nat.le_of_eq (Nat.add_sub_cancel).symm | decide) (kI (bc' := (Bc + 11)) (bs' := (Bs + 3005)) (by first | exact Nat.le_refl _ | exact Nat.le_add_right _ _ | exact Nat.zero_le _ | exact Nat.le_add_left _ _ | exact Nat.le_of_eq (Nat.add_sub_cancel).symm | decide) (by first | exact Nat.le_refl _ | exact Nat.le_add_right _ _ | exact Nat.zero_le _ | exact Nat.le_add_left _ _ | exact Nat.le_of_eq (Nat.add_sub_cancel).symm | decide) (fun x840 M836 h_6 => ?_))
  refine fw_icmp_eq 1833 (show decode _ _ = .ok (.if_icmp .eq 1302, 3) by decide +kernel) (by decide) (fun hc841 => ?_) (fun hc841 => ?_)
  · have h_7 := ipos hc841 h_6
    refine FW.sub [0, 1, 2, 3] (ls' := [(0, .ref p0), (1, .ref p1), (2, .ref p2), (3, .int p3)]) rfl ?_
    refine FW.room (bc' := Bc) (bs' := Bs) (by first | exact Nat.le_refl _ | exact Nat.le_add_right _ _ | exact Nat.zero_le _ | exact Nat.le_add_left _ _ | exact Nat.le_of_eq (Nat.add_sub_cancel).symm | decide) (by first | exact Nat.le_refl _ | exact Nat.le_add_right _ _ | exact Nat.zero_le _ | exact Nat.le_add_left _ _ | exact Nat.le_of_eq (Nat.add_sub_cancel).symm | decide) ?_
    exact sj_L_law_1833 hd hK18 h_7
  · have h_8 := ineg hc841 h_6
    refine fw_iconst (v := (0 : Int32)) (show decode _ _ = .ok (.iconst 0, 1) by decide +kernel) (by decide) ?_
    exact fw_ret (v := some (.int (0 : Int32))) .ireturn (show decode _ _ = .ok (.ireturn, 1) by decide +kernel) ⟨rfl, Or.inr (Or.inl ⟨rfl, rfl⟩)⟩ ⟨_, rfl, h_8⟩
def j_L_law_450 (K18 : Nat → Nat → Nat → Int32 → fM → Prop) (φ : Int32 → fM → Prop) (p0 : Nat) (p1 : Nat) (p2 : Nat) (p3 : Int32) (M : fM) : Prop := inA M p0 12 (p3 + (1 : Int32)) ∧ inA M p0 12 (p3 + (2 : Int32)) ∧ inA M p0 12 (p3 + (3 : Int32)) ∧ inA M p0 12 (p3 + (4 : Int32)) ∧ inA M p0 12 (p3 + (5 : Int32)) ∧ isO M p1 10 ∧ w_X10_feed p1 (mI M p0 (ix (p3 + (1 : Int32)))) (mI M p0 (ix (p3 + (2 : Int32)))) (mI M p0 (ix (p3 + (3 : Int32)))) (mI M p0 (ix (p3 + (4 : Int32)))) (mI M p0 (ix (p3 + (5 : Int32)))) M fun x861 M857 => inA M857 p0 12 (p3 + (1 : Int32)) ∧ inA M857 p0 12 (p3 + (2 : Int32)) ∧ inA M857 p0 12 (p3 + (3 : Int32)) ∧ inA M857 p0 12 (p3 + (4 : Int32)) ∧ inA M857 p0 12 (p3 + (5 : Int32)) ∧ isO M857 p2 11 ∧ w_X11_feed p2 (mI M857 p0 (ix (p3 + (1 : Int32)))) (mI M857 p0 (ix (p3 + (2 : Int32)))) (mI M857 p0 (ix (p3 + (3 : Int32)))) (mI M857 p0 (ix (p3 + (4 : Int32)))) (mI M857 p0 (ix (p3 + (5 : Int32)))) M857 fun x881 M877 => iF (x861 = x881) (j_L_law_1833 K18 φ p0 p1 p2 p3 M877) (φ (0 : Int32) M877)
set_option maxRecDepth 100000 in
theorem sj_L_law_450 {g : GT} {d Bc Bs : Nat} (hd : 80 ≤ d + 1) {K18 : Nat → Nat → Nat → Int32 → fM → Prop} {φ : Int32 → fM → Prop} (hK18 : ∀ (p0 : Nat) (p1 : Nat) (p2 : Nat) (p3 : Int32) (M : fM), K18 p0 p1 p2 p3 M → FW g mtL_law (d + 1) 18 [(0, .ref p0), (1, .ref p1), (2, .ref p2), (3, .int p3)] [] M Bc Bs (rI φ)) {p0 : Nat} {p1 : Nat} {p2 : Nat} {p3 : Int32} {M : fM} (h : j_L_law_450 K18 φ p0 p1 p2 p3 M) : FW g mtL_law (d + 1) 450 [(0, .ref p0), (1, .ref p1), (2, .ref p2), (3, .int p3)] [] M (Bc + 11) (Bs + 3005) (rI φ) := by
  unfold j_L_law_450 at h
  refine fw_aload_n (i := 1) 1 rfl (show decode _ _ = .ok (.aload_n 1, 1) by decide +kernel) ?_
  refine fw_aload_n (i := 0) 0 rfl (show decode _ _ = .ok (.aload_n 0, 1) by decide +kernel) ?_
  refine fw_iload_n (i := 3) 3 rfl (show decode _ _ = .ok (.iload_n 3, 1) by decide +kernel) ?_
  refine fw_iconst (v := (1 : Int32)) (show decode _ _ = .ok (.iconst 1, 1) by decide +kernel) (by decide) ?_
  refine fw_iadd (show decode _ _ = .ok (.iadd, 1) by decide +kernel) ?_
  obtain ⟨⟨n842, hs843, hi844⟩, h_1⟩ := h
  refine fw_iald (show decode _ _ = .ok (.iaload, 1) by decide +kernel) hs843 hi844 ?_
  refine fw_aload_n (i := 0) 0 rfl (show decode _ _ = .ok (.aload_n 0, 1) by decide +kernel) ?_
  refine fw_iload_n (i := 3) 3 rfl (show decode _ _ = .ok (.iload_n 3, 1) by decide +kernel) ?_
  refine fw_iconst (v := (2 : Int32)) (show decode _ _ = .ok (.iconst 2, 1) by decide +kernel) (by decide) ?_
  refine fw_iadd (show decode _ _ = .ok (.iadd, 1) by decide +kernel) ?_
  obtain ⟨⟨n845, hs846, hi847⟩, h_2⟩ := h_1
  refine fw_iald (show decode _ _ = .ok (.iaload, 1) by decide +kernel) hs846 hi847 ?_
  refine fw_aload_n (i := 0) 0 rfl (show decode _ _ = .ok (.aload_n 0, 1) by decide +kernel) ?_
  refine fw_iload_n (i := 3) 3 rfl (show decode _ _ = .ok (.iload_n 3, 1) by decide +kernel) ?_
  refine fw_iconst (v := (3 : Int32)) (show decode _ _ = .ok (.iconst 3, 1) by decide +kernel) (by decide) ?_
  refine fw_iadd (show decode _ _ = .ok (.iadd, 1) by decide +kernel) ?_
  obtain ⟨⟨n848, hs849, hi850⟩, h_3⟩ := h_2
  refine fw_iald (show decode _ _ = .ok (.iaload, 1) by decide +kernel) hs849 hi850 ?_
  refine fw_aload_n (i := 0) 0 rfl (show decode _ _ = .ok (.aload_n 0, 1) by decide +kernel) ?_
  refine fw_iload_n (i := 3) 3 rfl (show decode _ _ = .ok (.iload_n 3, 1) by decide +kernel) ?_
  refine fw_iconst (v := (4 : Int32)) (show decode _ _ = .ok (.iconst 4, 1) by decide +kernel) (by decide) ?_
  refine fw_iadd (show decode _ _ = .ok (.iadd, 1) by decide +kernel) ?_
  obtain ⟨⟨n851, hs852, hi853⟩, h_4⟩ := h_3
  refine fw_iald (show decode _ _ = .ok (.iaload, 1) by decide +kernel) hs852 hi853 ?_
  refine fw_aload_n (i := 0) 0 rfl (show decode _ _ = .ok (.aload_n 0, 1) by decide +kernel) ?_
  refine fw_iload_n (i := 3) 3 rfl (show decode _ _ = .ok (.iload_n 3, 1) by decide +kernel) ?_
  refine fw_iconst (v := (5 : Int32)) (show decode _ _ = .ok (.iconst 5, 1) by decide +kernel) (by decide) ?_
  refine fw_iadd (show decode _ _ = .ok (.iadd, 1) by decide +kernel) ?_
  obtain ⟨⟨n854, hs855, hi856⟩, h_5⟩ := h_4
  refine fw_iald (show decode _ _ = .ok (.iaload, 1) by decide +kernel) hs855 hi856 ?_
  obtain ⟨⟨hr859, n858, hs860⟩, h_6⟩ := h_5
  refine fw_callV (mt' := mtX10_feed) (mc := 0) (ms := 0) (As := [.int (mI M p0 (ix (p3 + (1 : Int32)))), .int (mI M p0 (ix (p3 + (2 : Int32)))), .int (mI M p0 (ix (p3 + (3 : Int32)))), .int (mI M p0 (ix (p3 + (4 : Int32)))), .int (mI M p0 (ix (p3 + (5 : Int32))))]) (rest := []) 5 10 n858 (show decode _ _ = .ok (.invokevirtual 42, 3) by decide +kernel) cv_L_42 ⟨_, rfl, rfl⟩ hr859 hs860 rfl (Nat.le_of_ble_eq_true rfl) (s_X10_feed (d := d) (hd_le hd (by decide)) h_6) (by first | exact Nat.le_refl _ | exact Nat.le_add_right _ _ | exact Nat.zero_le _ | exact Nat.le_add_left _ _ | exact Nat.le_of_eq (Nat.add_sub_cancel).symm | decide) (by first | exact Nat.le_refl _ | exact Nat.le_add_right _ _ | exact Nat.zero_le _ | exact Nat.le_add_left _ _ | exact Nat.le_of_eq (Nat.add_sub_cancel).symm | decide) (kI (bc' := (Bc + 11)) (bs' := (Bs + 3005)) (by first | exact Nat.le_refl _ | exact Nat.le_add_right _ _ | exact Nat.zero_le _ | exact Nat.le_add_left _ _ | exact Nat.le_of_eq (Nat.add_sub_cancel).symm | decide) (by first | exact Nat.le_refl _ | exact Nat.le_add_right _ _ | exact Nat.zero_le _ | exact Nat.le_add_left _ _ | exact Nat.le_of_eq (Nat.add_sub_cancel).symm | decide) (fun x861 M857 h_7 => ?_))
  refine fw_aload_n (i := 2) 2 rfl (show decode _ _ = .ok (.aload_n 2, 1) by decide +kernel) ?_
  refine fw_aload_n (i := 0) 0 rfl (show decode _ _ = .ok (.aload_n 0, 1) by decide +kernel) ?_
  refine fw_iload_n (i := 3) 3 rfl (show decode _ _ = .ok (.iload_n 3, 1) by decide +kernel) ?_
  refine fw_iconst (v := (1 : Int32)) (show decode _ _ = .ok (.iconst 1, 1) by decide +kernel) (by decide) ?_
  refine fw_iadd (show decode _ _ = .ok (.iadd, 1) by decide +kernel) ?_
  obtain ⟨⟨n862, hs863, hi864⟩, h_8⟩ := h_7
  refine fw_iald (show decode _ _ = .ok (.iaload, 1) by decide +kernel) hs863 hi864 ?_
  refine fw_aload_n (i := 0) 0 rfl (show decode _ _ = .ok (.aload_n 0, 1) by decide +kernel) ?_
  refine fw_iload_n (i := 3) 3 rfl (show decode _ _ = .ok (.iload_n 3, 1) by decide +kernel) ?_
  refine fw_iconst (v := (2 : Int32)) (show decode _ _ = .ok (.iconst 2, 1) by decide +kernel) (by decide) ?_
  refine fw_iadd (show decode _ _ = .ok (.iadd, 1) by decide +kernel) ?_
  obtain ⟨⟨n865, hs866, hi867⟩, h_9⟩ := h_8
  refine fw_iald (show decode _ _ = .ok (.iaload, 1) by decide +kernel) hs866 hi867 ?_
  refine fw_aload_n (i := 0) 0 rfl (show decode _ _ = .ok (.aload_n 0, 1) by decide +kernel) ?_
  refine fw_iload_n (i := 3) 3 rfl (show decode _ _ = .ok (.iload_n 3, 1) by decide +kernel) ?_
  refine fw_iconst (v := (3 : Int32)) (show decode _ _ = .ok (.iconst 3, 1) by decide +kernel) (by decide) ?_
  refine fw_iadd (show decode _ _ = .ok (.iadd, 1) by decide +kernel) ?_
  obtain ⟨⟨n868, hs869, hi870⟩, h_10⟩ := h_9
  refine fw_iald (show decode _ _ = .ok (.iaload, 1) by decide +kernel) hs869 hi870 ?_
  refine fw_aload_n (i := 0) 0 rfl (show decode _ _ = .ok (.aload_n 0, 1) by decide +kernel) ?_
  refine fw_iload_n (i := 3) 3 rfl (show decode _ _ = .ok (.iload_n 3, 1) by decide +kernel) ?_
  refine fw_iconst (v := (4 : Int32)) (show decode _ _ = .ok (.iconst 4, 1) by decide +kernel) (by decide) ?_
  refine fw_iadd (show decode _ _ = .ok (.iadd, 1) by decide +kernel) ?_
  obtain ⟨⟨n871, hs872, hi873⟩, h_11⟩ := h_10
  refine fw_iald (show decode _ _ = .ok (.iaload, 1) by decide +kernel) hs872 hi873 ?_
  refine fw_aload_n (i := 0) 0 rfl (show decode _ _ = .ok (.aload_n 0, 1) by decide +kernel) ?_
  refine fw_iload_n (i := 3) 3 rfl (show decode _ _ = .ok (.iload_n 3, 1) by decide +kernel) ?_
  refine fw_iconst (v := (5 : Int32)) (show decode _ _ = .ok (.iconst 5, 1) by decide +kernel) (by decide) ?_
  refine fw_iadd (show decode _ _ = .ok (.iadd, 1) by decide +kernel) ?_
  obtain ⟨⟨n874, hs875, hi876⟩, h_12⟩ := h_11
  refine fw_iald (show decode _ _ = .ok (.iaload, 1) by decide +kernel) hs875 hi876 ?_
  obtain ⟨⟨hr879, n878, hs880⟩, h_13⟩ := h_12
  refine fw_callV (mt' := mtX11_feed) (mc := 0) (ms := 0) (As := [.int (mI M857 p0 (ix (p3 + (1 : Int32)))), .int (mI M857 p0 (ix (p3 + (2 : Int32)))), .int (mI M857 p0 (ix (p3 + (3 : Int32)))), .int (mI M857 p0 (ix (p3 + (4 : Int32)))), .int (mI M857 p0 (ix (p3 + (5 : Int32))))]) (rest := [.int x861]) 5 11 n878 (show decode _ _ = .ok (.invokevirtual 46, 3) by decide +kernel) cv_L_46 ⟨_, rfl, rfl⟩ hr879 hs880 rfl (Nat.le_of_ble_eq_true rfl) (s_X11_feed (d := d) (hd_le hd (by decide)) h_13) (by first | exact Nat.le_refl _ | exact Nat.le_add_right _ _ | exact Nat.zero_le _ | exact Nat.le_add_left _ _ | exact Nat.le_of_eq (Nat.add_sub_cancel).symm | decide) (by first | exact Nat.le_refl _ | exact Nat.le_add_right _ _ | exact Nat.zero_le _ | exact Nat.le_add_left _ _ | exact Nat.le_of_eq (Nat.add_sub_cancel).symm | decide) (kI (bc' := (Bc + 11)) (bs' := (Bs + 3005)) (by first | exact Nat.le_refl _ | exact Nat.le_add_right _ _ | exact Nat.zero_le _ | exact Nat.le_add_left _ _ | exact Nat.le_of_eq (Nat.add_sub_cancel).symm | decide) (by first | exact Nat.le_refl _ | exact Nat.le_add_right _ _ | exact Nat.zero_le _ | exact Nat.le_add_left _ _ | exact Nat.le_of_eq (Nat.add_sub_cancel).symm | decide) (fun x881 M877 h_14 => ?_))
  refine fw_icmp_eq 1833 (show decode _ _ = .ok (.if_icmp .eq 1325, 3) by decide +kernel) (by decide) (fun hc882 => ?_) (fun hc882 => ?_)
  · have h_15 := ipos hc882 h_14
    refine FW.sub [0, 1, 2, 3] (ls' := [(0, .ref p0), (1, .ref p1), (2, .ref p2), (3, .int p3)]) rfl ?_
    refine FW.room (bc' := Bc) (bs' := Bs) (by first | exact Nat.le_refl _ | exact Nat.le_add_right _ _ | exact Nat.zero_le _ | exact Nat.le_add_left _ _ | exact Nat.le_of_eq (Nat.add_sub_cancel).symm | decide) (by first | exact Nat.le_refl _ | exact Nat.le_add_right _ _ | exact Nat.zero_le _ | exact Nat.le_add_left _ _ | exact Nat.le_of_eq (Nat.add_sub_cancel).symm | decide) ?_
    exact sj_L_law_1833 hd hK18 h_15
  · have h_16 := ineg hc882 h_14
    refine fw_iconst (v := (0 : Int32)) (show decode _ _ = .ok (.iconst 0, 1) by decide +kernel) (by decide) ?_
    exact fw_ret (v := some (.int (0 : Int32))) .ireturn (show decode _ _ = .ok (.ireturn, 1) by decide +kernel) ⟨rfl, Or.inr (Or.inl ⟨rfl, rfl⟩)⟩ ⟨_, rfl, h_16⟩
def j_L_law_427 (K18 : Nat → Nat → Nat → Int32 → fM → Prop) (φ : Int32 → fM → Prop) (p0 : Nat) (p1 : Nat) (p2 : Nat) (p3 : Int32) (M : fM) : Prop := inA M p0 12 (p3 + (1 : Int32)) ∧ isO M p1 10 ∧ w_X10_seed p1 (mI M p0 (ix (p3 + (1 : Int32)))) M fun x890 M886 => inA M886 p0 12 (p3 + (1 : Int32)) ∧ isO M886 p2 11 ∧ w_X11_seed p2 (mI M886 p0 (ix (p3 + (1 : Int32)))) M886 fun x898 M894 => iF (x890 = x898) (j_L_law_1833 K18 φ p0 p1 p2 p3 M894) (φ (0 : Int32) M894)
set_option maxRecDepth 100000 in
theorem sj_L_law_427 {g : GT} {d Bc Bs : Nat} (hd : 80 ≤ d + 1) {K18 : Nat → Nat → Nat → Int32 → fM → Prop} {φ : Int32 → fM → Prop} (hK18 : ∀ (p0 : Nat) (p1 : Nat) (p2 : Nat) (p3 : Int32) (M : fM), K18 p0 p1 p2 p3 M → FW g mtL_law (d + 1) 18 [(0, .ref p0), (1, .ref p1), (2, .ref p2), (3, .int p3)] [] M Bc Bs (rI φ)) {p0 : Nat} {p1 : Nat} {p2 : Nat} {p3 : Int32} {M : fM} (h : j_L_law_427 K18 φ p0 p1 p2 p3 M) : FW g mtL_law (d + 1) 427 [(0, .ref p0), (1, .ref p1), (2, .ref p2), (3, .int p3)] [] M (Bc + 11) (Bs + 3005) (rI φ) := by
  unfold j_L_law_427 at h
  refine fw_aload_n (i := 1) 1 rfl (show decode _ _ = .ok (.aload_n 1, 1) by decide +kernel) ?_
  refine fw_aload_n (i := 0) 0 rfl (show decode _ _ = .ok (.aload_n 0, 1) by decide +kernel) ?_
  refine fw_iload_n (i := 3) 3 rfl (show decode _ _ = .ok (.iload_n 3, 1) by decide +kernel) ?_
  refine fw_iconst (v := (1 : Int32)) (show decode _ _ = .ok (.iconst 1, 1) by decide +kernel) (by decide) ?_
  refine fw_iadd (show decode _ _ = .ok (.iadd, 1) by decide +kernel) ?_
  obtain ⟨⟨n883, hs884, hi885⟩, h_1⟩ := h
  refine fw_iald (show decode _ _ = .ok (.iaload, 1) by decide +kernel) hs884 hi885 ?_
  obtain ⟨⟨hr888, n887, hs889⟩, h_2⟩ := h_1
  refine fw_callV (mt' := mtX10_seed) (mc := 0) (ms := 0) (As := [.int (mI M p0 (ix (p3 + (1 : Int32))))]) (rest := []) 1 10 n887 (show decode _ _ = .ok (.invokevirtual 37, 3) by decide +kernel) cv_L_37 ⟨_, rfl, rfl⟩ hr888 hs889 rfl (Nat.le_of_ble_eq_true rfl) (s_X10_seed (d := d) (hd_le hd (by decide)) h_2) (by first | exact Nat.le_refl _ | exact Nat.le_add_right _ _ | exact Nat.zero_le _ | exact Nat.le_add_left _ _ | exact Nat.le_of_eq (Nat.add_sub_cancel).symm | decide) (by first | exact Nat.le_refl _ | exact Nat.le_add_right _ _ | exact Nat.zero_le _ | exact Nat.le_add_left _ _ | exact Nat.le_of_eq (Nat.add_sub_cancel).symm | decide) (kI (bc' := (Bc + 11)) (bs' := (Bs + 3005)) (by first | exact Nat.le_refl _ | exact Nat.le_add_right _ _ | exact Nat.zero_le _ | exact Nat.le_add_left _ _ | exact Nat.le_of_eq (Nat.add_sub_cancel).symm | decide) (by first | exact Nat.le_refl _ | exact Nat.le_add_right _ _ | exact Nat.zero_le _ | exact Nat.le_add_left _ _ | exact Nat.le_of_eq (Nat.add_sub_cancel).symm | decide) (fun x890 M886 h_3 => ?_))
  refine fw_aload_n (i := 2) 2 rfl (show decode _ _ = .ok (.aload_n 2, 1) by decide +kernel) ?_
  refine fw_aload_n (i := 0) 0 rfl (show decode _ _ = .ok (.aload_n 0, 1) by decide +kernel) ?_
  refine fw_iload_n (i := 3) 3 rfl (show decode _ _ = .ok (.iload_n 3, 1) by decide +kernel) ?_
  refine fw_iconst (v := (1 : Int32)) (show decode _ _ = .ok (.iconst 1, 1) by decide +kernel) (by decide) ?_
  refine fw_iadd (show decode _ _ = .ok (.iadd, 1) by decide +kernel) ?_
  obtain ⟨⟨n891, hs892, hi893⟩, h_4⟩ := h_3
  refine fw_iald (show decode _ _ = .ok (.iaload, 1) by decide +kernel) hs892 hi893 ?_
  obtain ⟨⟨hr896, n895, hs897⟩, h_5⟩ := h_4
  refine fw_callV (mt' := mtX11_seed) (mc := 0) (ms := 0) (As := [.int (mI M886 p0 (ix (p3 + (1 : Int32))))]) (rest := [.int x890]) 1 11 n895 (show decode _ _ = .ok (.invokevirtual 41, 3) by decide +kernel) cv_L_41 ⟨_, rfl, rfl⟩ hr896 hs897 rfl (Nat.le_of_ble_eq_true rfl) (s_X11_seed (d := d) (hd_le hd (by decide)) h_5) (by first | exact Nat.le_refl _ | exact Nat.le_add_right _ _ | exact Nat.zero_le _ | exact Nat.le_add_left _ _ | exact Nat.le_of_eq (Nat.add_sub_cancel).symm | decide) (by first | exact Nat.le_refl _ | exact Nat.le_add_right _ _ | exact Nat.zero_le _ | exact Nat.le_add_left _ _ | exact Nat.le_of_eq (Nat.add_sub_cancel).symm | decide) (kI (bc' := (Bc + 11)) (bs' := (Bs + 3005)) (by first | exact Nat.le_refl _ | exact Nat.le_add_right _ _ | exact Nat.zero_le _ | exact Nat.le_add_left _ _ | exact Nat.le_of_eq (Nat.add_sub_cancel).symm | decide) (by first | exact Nat.le_refl _ | exact Nat.le_add_right _ _ | exact Nat.zero_le _ | exact Nat.le_add_left _ _ | exact Nat.le_of_eq (Nat.add_sub_cancel).symm | decide) (fun x898 M894 h_6 => ?_))
  refine fw_icmp_eq 1833 (show decode _ _ = .ok (.if_icmp .eq 1388, 3) by decide +kernel) (by decide) (fun hc899 => ?_) (fun hc899 => ?_)
  · have h_7 := ipos hc899 h_6
    refine FW.sub [0, 1, 2, 3] (ls' := [(0, .ref p0), (1, .ref p1), (2, .ref p2), (3, .int p3)]) rfl ?_
    refine FW.room (bc' := Bc) (bs' := Bs) (by first | exact Nat.le_refl _ | exact Nat.le_add_right _ _ | exact Nat.zero_le _ | exact Nat.le_add_left _ _ | exact Nat.le_of_eq (Nat.add_sub_cancel).symm | decide) (by first | exact Nat.le_refl _ | exact Nat.le_add_right _ _ | exact Nat.zero_le _ | exact Nat.le_add_left _ _ | exact Nat.le_of_eq (Nat.add_sub_cancel).symm | decide) ?_
    exact sj_L_law_1833 hd hK18 h_7
  · have h_8 := ineg hc899 h_6
    refine fw_iconst (v := (0 : Int32)) (show decode _ _ = .ok (.iconst 0, 1) by decide +kernel) (by decide) ?_
    exact fw_ret (v := some (.int (0 : Int32))) .ireturn (show decode _ _ = .ok (.ireturn, 1) by decide +kernel) ⟨rfl, Or.inr (Or.inl ⟨rfl, rfl⟩)⟩ ⟨_, rfl, h_8⟩
def j_L_law_384 (K18 : Nat → Nat → Nat → Int32 → fM → Prop) (φ : Int32 → fM → Prop) (p0 : Nat) (p1 : Nat) (p2 : Nat) (p3 : Int32) (M : fM) : Prop := inA M p0 12 (p3 + (1 : Int32)) ∧ inA M p0 12 (p3 + (2 : Int32)) ∧ inA M p0 12 (p3 + (3 : Int32)) ∧ isO M p1 10 ∧ w_X10_person p1 (mI M p0 (ix (p3 + (1 : Int32)))) (mI M p0 (ix (p3 + (2 : Int32)))) (mI M p0 (ix (p3 + (3 : Int32)))) M fun x913 M909 => inA M909 p0 12 (p3 + (1 : Int32)) ∧ inA M909 p0 12 (p3 + (2 : Int32)) ∧ inA M909 p0 12 (p3 + (3 : Int32)) ∧ isO M909 p2 11 ∧ w_X11_person p2 (mI M909 p0 (ix (p3 + (1 : Int32)))) (mI M909 p0 (ix (p3 + (2 : Int32)))) (mI M909 p0 (ix (p3 + (3 : Int32)))) M909 fun x927 M923 => iF (x913 = x927) (j_L_law_1833 K18 φ p0 p1 p2 p3 M923) (φ (0 : Int32) M923)
set_option maxRecDepth 100000 in
theorem sj_L_law_384 {g : GT} {d Bc Bs : Nat} (hd : 80 ≤ d + 1) {K18 : Nat → Nat → Nat → Int32 → fM → Prop} {φ : Int32 → fM → Prop} (hK18 : ∀ (p0 : Nat) (p1 : Nat) (p2 : Nat) (p3 : Int32) (M : fM), K18 p0 p1 p2 p3 M → FW g mtL_law (d + 1) 18 [(0, .ref p0), (1, .ref p1), (2, .ref p2), (3, .int p3)] [] M Bc Bs (rI φ)) {p0 : Nat} {p1 : Nat} {p2 : Nat} {p3 : Int32} {M : fM} (h : j_L_law_384 K18 φ p0 p1 p2 p3 M) : FW g mtL_law (d + 1) 384 [(0, .ref p0), (1, .ref p1), (2, .ref p2), (3, .int p3)] [] M (Bc + 11) (Bs + 3005) (rI φ) := by
  unfold j_L_law_384 at h
  refine fw_aload_n (i := 1) 1 rfl (show decode _ _ = .ok (.aload_n 1, 1) by decide +kernel) ?_
  refine fw_aload_n (i := 0) 0 rfl (show decode _ _ = .ok (.aload_n 0, 1) by decide +kernel) ?_
  refine fw_iload_n (i := 3) 3 rfl (show decode _ _ = .ok (.iload_n 3, 1) by decide +kernel) ?_
  refine fw_iconst (v := (1 : Int32)) (show decode _ _ = .ok (.iconst 1, 1) by decide +kernel) (by decide) ?_
  refine fw_iadd (show decode _ _ = .ok (.iadd, 1) by decide +kernel) ?_
  obtain ⟨⟨n900, hs901, hi902⟩, h_1⟩ := h
  refine fw_iald (show decode _ _ = .ok (.iaload, 1) by decide +kernel) hs901 hi902 ?_
  refine fw_aload_n (i := 0) 0 rfl (show decode _ _ = .ok (.aload_n 0, 1) by decide +kernel) ?_
  refine fw_iload_n (i := 3) 3 rfl (show decode _ _ = .ok (.iload_n 3, 1) by decide +kernel) ?_
  refine fw_iconst (v := (2 : Int32)) (show decode _ _ = .ok (.iconst 2, 1) by decide +kernel) (by decide) ?_
  refine fw_iadd (show decode _ _ = .ok (.iadd, 1) by decide +kernel) ?_
  obtain ⟨⟨n903, hs904, hi905⟩, h_2⟩ := h_1
  refine fw_iald (show decode _ _ = .ok (.iaload, 1) by decide +kernel) hs904 hi905 ?_
  refine fw_aload_n (i := 0) 0 rfl (show decode _ _ = .ok (.aload_n 0, 1) by decide +kernel) ?_
  refine fw_iload_n (i := 3) 3 rfl (show decode _ _ = .ok (.iload_n 3, 1) by decide +kernel) ?_
  refine fw_iconst (v := (3 : Int32)) (show decode _ _ = .ok (.iconst 3, 1) by decide +kernel) (by decide) ?_
  refine fw_iadd (show decode _ _ = .ok (.iadd, 1) by decide +kernel) ?_
  obtain ⟨⟨n906, hs907, hi908⟩, h_3⟩ := h_2
  refine fw_iald (show decode _ _ = .ok (.iaload, 1) by decide +kernel) hs907 hi908 ?_
  obtain ⟨⟨hr911, n910, hs912⟩, h_4⟩ := h_3
  refine fw_callV (mt' := mtX10_person) (mc := 0) (ms := 0) (As := [.int (mI M p0 (ix (p3 + (1 : Int32)))), .int (mI M p0 (ix (p3 + (2 : Int32)))), .int (mI M p0 (ix (p3 + (3 : Int32))))]) (rest := []) 3 10 n910 (show decode _ _ = .ok (.invokevirtual 32, 3) by decide +kernel) cv_L_32 ⟨_, rfl, rfl⟩ hr911 hs912 rfl (Nat.le_of_ble_eq_true rfl) (s_X10_person (d := d) (hd_le hd (by decide)) h_4) (by first | exact Nat.le_refl _ | exact Nat.le_add_right _ _ | exact Nat.zero_le _ | exact Nat.le_add_left _ _ | exact Nat.le_of_eq (Nat.add_sub_cancel).symm | decide) (by first | exact Nat.le_refl _ | exact Nat.le_add_right _ _ | exact Nat.zero_le _ | exact Nat.le_add_left _ _ | exact Nat.le_of_eq (Nat.add_sub_cancel).symm | decide) (kI (bc' := (Bc + 11)) (bs' := (Bs + 3005)) (by first | exact Nat.le_refl _ | exact Nat.le_add_right _ _ | exact Nat.zero_le _ | exact Nat.le_add_left _ _ | exact Nat.le_of_eq (Nat.add_sub_cancel).symm | decide) (by first | exact Nat.le_refl _ | exact Nat.le_add_right _ _ | exact Nat.zero_le _ | exact Nat.le_add_left _ _ | exact Nat.le_of_eq (Nat.add_sub_cancel).symm | decide) (fun x913 M909 h_5 => ?_))
  refine fw_aload_n (i := 2) 2 rfl (show decode _ _ = .ok (.aload_n 2, 1) by decide +kernel) ?_
  refine fw_aload_n (i := 0) 0 rfl (show decode _ _ = .ok (.aload_n 0, 1) by decide +kernel) ?_
  refine fw_iload_n (i := 3) 3 rfl (show decode _ _ = .ok (.iload_n 3, 1) by decide +kernel) ?_
  refine fw_iconst (v := (1 : Int32)) (show decode _ _ = .ok (.iconst 1, 1) by decide +kernel) (by decide) ?_
  refine fw_iadd (show decode _ _ = .ok (.iadd, 1) by decide +kernel) ?_
  obtain ⟨⟨n914, hs915, hi916⟩, h_6⟩ := h_5
  refine fw_iald (show decode _ _ = .ok (.iaload, 1) by decide +kernel) hs915 hi916 ?_
  refine fw_aload_n (i := 0) 0 rfl (show decode _ _ = .ok (.aload_n 0, 1) by decide +kernel) ?_
  refine fw_iload_n (i := 3) 3 rfl (show decode _ _ = .ok (.iload_n 3, 1) by decide +kernel) ?_
  refine fw_iconst (v := (2 : Int32)) (show decode _ _ = .ok (.iconst 2, 1) by decide +kernel) (by decide) ?_
  refine fw_iadd (show decode _ _ = .ok (.iadd, 1) by decide +kernel) ?_
  obtain ⟨⟨n917, hs918, hi919⟩, h_7⟩ := h_6
  refine fw_iald (show decode _ _ = .ok (.iaload, 1) by decide +kernel) hs918 hi919 ?_
  refine fw_aload_n (i := 0) 0 rfl (show decode _ _ = .ok (.aload_n 0, 1) by decide +kernel) ?_
  refine fw_iload_n (i := 3) 3 rfl (show decode _ _ = .ok (.iload_n 3, 1) by decide +kernel) ?_
  refine fw_iconst (v := (3 : Int32)) (show decode _ _ = .ok (.iconst 3, 1) by decide +kernel) (by decide) ?_
  refine fw_iadd (show decode _ _ = .ok (.iadd, 1) by decide +kernel) ?_
  obtain ⟨⟨n920, hs921, hi922⟩, h_8⟩ := h_7
  refine fw_iald (show decode _ _ = .ok (.iaload, 1) by decide +kernel) hs921 hi922 ?_
  obtain ⟨⟨hr925, n924, hs926⟩, h_9⟩ := h_8
  refine fw_callV (mt' := mtX11_person) (mc := 0) (ms := 0) (As := [.int (mI M909 p0 (ix (p3 + (1 : Int32)))), .int (mI M909 p0 (ix (p3 + (2 : Int32)))), .int (mI M909 p0 (ix (p3 + (3 : Int32))))]) (rest := [.int x913]) 3 11 n924 (show decode _ _ = .ok (.invokevirtual 36, 3) by decide +kernel) cv_L_36 ⟨_, rfl, rfl⟩ hr925 hs926 rfl (Nat.le_of_ble_eq_true rfl) (s_X11_person (d := d) (hd_le hd (by decide)) h_9) (by first | exact Nat.le_refl _ | exact Nat.le_add_right _ _ | exact Nat.zero_le _ | exact Nat.le_add_left _ _ | exact Nat.le_of_eq (Nat.add_sub_cancel).symm | decide) (by first | exact Nat.le_refl _ | exact Nat.le_add_right _ _ | exact Nat.zero_le _ | exact Nat.le_add_left _ _ | exact Nat.le_of_eq (Nat.add_sub_cancel).symm | decide) (kI (bc' := (Bc + 11)) (bs' := (Bs + 3005)) (by first | exact Nat.le_refl _ | exact Nat.le_add_right _ _ | exact Nat.zero_le _ | exact Nat.le_add_left _ _ | exact Nat.le_of_eq (Nat.add_sub_cancel).symm | decide) (by first | exact Nat.le_refl _ | exact Nat.le_add_right _ _ | exact Nat.zero_le _ | exact Nat.le_add_left _ _ | exact Nat.le_of_eq (Nat.add_sub_cancel).symm | decide) (fun x927 M923 h_10 => ?_))
  refine fw_icmp_eq 1833 (show decode _ _ = .ok (.if_icmp .eq 1411, 3) by decide +kernel) (by decide) (fun hc928 => ?_) (fun hc928 => ?_)
  · have h_11 := ipos hc928 h_10
    refine FW.sub [0, 1, 2, 3] (ls' := [(0, .ref p0), (1, .ref p1), (2, .ref p2), (3, .int p3)]) rfl ?_
    refine FW.room (bc' := Bc) (bs' := Bs) (by first | exact Nat.le_refl _ | exact Nat.le_add_right _ _ | exact Nat.zero_le _ | exact Nat.le_add_left _ _ | exact Nat.le_of_eq (Nat.add_sub_cancel).symm | decide) (by first | exact Nat.le_refl _ | exact Nat.le_add_right _ _ | exact Nat.zero_le _ | exact Nat.le_add_left _ _ | exact Nat.le_of_eq (Nat.add_sub_cancel).symm | decide) ?_
    exact sj_L_law_1833 hd hK18 h_11
  · have h_12 := ineg hc928 h_10
    refine fw_iconst (v := (0 : Int32)) (show decode _ _ = .ok (.iconst 0, 1) by decide +kernel) (by decide) ?_
    exact fw_ret (v := some (.int (0 : Int32))) .ireturn (show decode _ _ = .ok (.ireturn, 1) by decide +kernel) ⟨rfl, Or.inr (Or.inl ⟨rfl, rfl⟩)⟩ ⟨_, rfl, h_12⟩
def j_L_law_351 (K18 : Nat → Nat → Nat → Int32 → fM → Prop) (φ : Int32 → fM → Prop) (p0 : Nat) (p1 : Nat) (p2 : Nat) (p3 : Int32) (M : fM) : Prop := inA M p0 12 (p3 + (1 : Int32)) ∧ inA M p0 12 (p3 + (2 : Int32)) ∧ isO M p1 10 ∧ w_X10_rail p1 (mI M p0 (ix (p3 + (1 : Int32)))) (mI M p0 (ix (p3 + (2 : Int32)))) M fun x939 M935 => inA M935 p0 12 (p3 + (1 : Int32)) ∧ inA M935 p0 12 (p3 + (2 : Int32)) ∧ isO M935 p2 11 ∧ w_X11_rail p2 (mI M935 p0 (ix (p3 + (1 : Int32)))) (mI M935 p0 (ix (p3 + (2 : Int32)))) M935 fun x950 M946 => iF (x939 = x950) (j_L_law_1833 K18 φ p0 p1 p2 p3 M946) (φ (0 : Int32) M946)
set_option maxRecDepth 100000 in
theorem sj_L_law_351 {g : GT} {d Bc Bs : Nat} (hd : 80 ≤ d + 1) {K18 : Nat → Nat → Nat → Int32 → fM → Prop} {φ : Int32 → fM → Prop} (hK18 : ∀ (p0 : Nat) (p1 : Nat) (p2 : Nat) (p3 : Int32) (M : fM), K18 p0 p1 p2 p3 M → FW g mtL_law (d + 1) 18 [(0, .ref p0), (1, .ref p1), (2, .ref p2), (3, .int p3)] [] M Bc Bs (rI φ)) {p0 : Nat} {p1 : Nat} {p2 : Nat} {p3 : Int32} {M : fM} (h : j_L_law_351 K18 φ p0 p1 p2 p3 M) : FW g mtL_law (d + 1) 351 [(0, .ref p0), (1, .ref p1), (2, .ref p2), (3, .int p3)] [] M (Bc + 11) (Bs + 3005) (rI φ) := by
  unfold j_L_law_351 at h
  refine fw_aload_n (i := 1) 1 rfl (show decode _ _ = .ok (.aload_n 1, 1) by decide +kernel) ?_
  refine fw_aload_n (i := 0) 0 rfl (show decode _ _ = .ok (.aload_n 0, 1) by decide +kernel) ?_
  refine fw_iload_n (i := 3) 3 rfl (show decode _ _ = .ok (.iload_n 3, 1) by decide +kernel) ?_
  refine fw_iconst (v := (1 : Int32)) (show decode _ _ = .ok (.iconst 1, 1) by decide +kernel) (by decide) ?_
  refine fw_iadd (show decode _ _ = .ok (.iadd, 1) by decide +kernel) ?_
  obtain ⟨⟨n929, hs930, hi931⟩, h_1⟩ := h
  refine fw_iald (show decode _ _ = .ok (.iaload, 1) by decide +kernel) hs930 hi931 ?_
  refine fw_aload_n (i := 0) 0 rfl (show decode _ _ = .ok (.aload_n 0, 1) by decide +kernel) ?_
  refine fw_iload_n (i := 3) 3 rfl (show decode _ _ = .ok (.iload_n 3, 1) by decide +kernel) ?_
  refine fw_iconst (v := (2 : Int32)) (show decode _ _ = .ok (.iconst 2, 1) by decide +kernel) (by decide) ?_
  refine fw_iadd (show decode _ _ = .ok (.iadd, 1) by decide +kernel) ?_
  obtain ⟨⟨n932, hs933, hi934⟩, h_2⟩ := h_1
  refine fw_iald (show decode _ _ = .ok (.iaload, 1) by decide +kernel) hs933 hi934 ?_
  obtain ⟨⟨hr937, n936, hs938⟩, h_3⟩ := h_2
  refine fw_callV (mt' := mtX10_rail) (mc := 0) (ms := 0) (As := [.int (mI M p0 (ix (p3 + (1 : Int32)))), .int (mI M p0 (ix (p3 + (2 : Int32))))]) (rest := []) 2 10 n936 (show decode _ _ = .ok (.invokevirtual 28, 3) by decide +kernel) cv_L_28 ⟨_, rfl, rfl⟩ hr937 hs938 rfl (Nat.le_of_ble_eq_true rfl) (s_X10_rail (d := d) (hd_le hd (by decide)) h_3) (by first | exact Nat.le_refl _ | exact Nat.le_add_right _ _ | exact Nat.zero_le _ | exact Nat.le_add_left _ _ | exact Nat.le_of_eq (Nat.add_sub_cancel).symm | decide) (by first | exact Nat.le_refl _ | exact Nat.le_add_right _ _ | exact Nat.zero_le _ | exact Nat.le_add_left _ _ | exact Nat.le_of_eq (Nat.add_sub_cancel).symm | decide) (kI (bc' := (Bc + 11)) (bs' := (Bs + 3005)) (by first | exact Nat.le_refl _ | exact Nat.le_add_right _ _ | exact Nat.zero_le _ | exact Nat.le_add_left _ _ | exact Nat.le_of_eq (Nat.add_sub_cancel).symm | decide) (by first | exact Nat.le_refl _ | exact Nat.le_add_right _ _ | exact Nat.zero_le _ | exact Nat.le_add_left _ _ | exact Nat.le_of_eq (Nat.add_sub_cancel).symm | decide) (fun x939 M935 h_4 => ?_))
  refine fw_aload_n (i := 2) 2 rfl (show decode _ _ = .ok (.aload_n 2, 1) by decide +kernel) ?_
  refine fw_aload_n (i := 0) 0 rfl (show decode _ _ = .ok (.aload_n 0, 1) by decide +kernel) ?_
  refine fw_iload_n (i := 3) 3 rfl (show decode _ _ = .ok (.iload_n 3, 1) by decide +kernel) ?_
  refine fw_iconst (v := (1 : Int32)) (show decode _ _ = .ok (.iconst 1, 1) by decide +kernel) (by decide) ?_
  refine fw_iadd (show decode _ _ = .ok (.iadd, 1) by decide +kernel) ?_
  obtain ⟨⟨n940, hs941, hi942⟩, h_5⟩ := h_4
  refine fw_iald (show decode _ _ = .ok (.iaload, 1) by decide +kernel) hs941 hi942 ?_
  refine fw_aload_n (i := 0) 0 rfl (show decode _ _ = .ok (.aload_n 0, 1) by decide +kernel) ?_
  refine fw_iload_n (i := 3) 3 rfl (show decode _ _ = .ok (.iload_n 3, 1) by decide +kernel) ?_
  refine fw_iconst (v := (2 : Int32)) (show decode _ _ = .ok (.iconst 2, 1) by decide +kernel) (by decide) ?_
  refine fw_iadd (show decode _ _ = .ok (.iadd, 1) by decide +kernel) ?_
  obtain ⟨⟨n943, hs944, hi945⟩, h_6⟩ := h_5
  refine fw_iald (show decode _ _ = .ok (.iaload, 1) by decide +kernel) hs944 hi945 ?_
  obtain ⟨⟨hr948, n947, hs949⟩, h_7⟩ := h_6
  refine fw_callV (mt' := mtX11_rail) (mc := 0) (ms := 0) (As := [.int (mI M935 p0 (ix (p3 + (1 : Int32)))), .int (mI M935 p0 (ix (p3 + (2 : Int32))))]) (rest := [.int x939]) 2 11 n947 (show decode _ _ = .ok (.invokevirtual 31, 3) by decide +kernel) cv_L_31 ⟨_, rfl, rfl⟩ hr948 hs949 rfl (Nat.le_of_ble_eq_true rfl) (s_X11_rail (d := d) (hd_le hd (by decide)) h_7) (by first | exact Nat.le_refl _ | exact Nat.le_add_right _ _ | exact Nat.zero_le _ | exact Nat.le_add_left _ _ | exact Nat.le_of_eq (Nat.add_sub_cancel).symm | decide) (by first | exact Nat.le_refl _ | exact Nat.le_add_right _ _ | exact Nat.zero_le _ | exact Nat.le_add_left _ _ | exact Nat.le_of_eq (Nat.add_sub_cancel).symm | decide) (kI (bc' := (Bc + 11)) (bs' := (Bs + 3005)) (by first | exact Nat.le_refl _ | exact Nat.le_add_right _ _ | exact Nat.zero_le _ | exact Nat.le_add_left _ _ | exact Nat.le_of_eq (Nat.add_sub_cancel).symm | decide) (by first | exact Nat.le_refl _ | exact Nat.le_add_right _ _ | exact Nat.zero_le _ | exact Nat.le_add_left _ _ | exact Nat.le_of_eq (Nat.add_sub_cancel).symm | decide) (fun x950 M946 h_8 => ?_))
  refine fw_icmp_eq 1833 (show decode _ _ = .ok (.if_icmp .eq 1454, 3) by decide +kernel) (by decide) (fun hc951 => ?_) (fun hc951 => ?_)
  · have h_9 := ipos hc951 h_8
    refine FW.sub [0, 1, 2, 3] (ls' := [(0, .ref p0), (1, .ref p1), (2, .ref p2), (3, .int p3)]) rfl ?_
    refine FW.room (bc' := Bc) (bs' := Bs) (by first | exact Nat.le_refl _ | exact Nat.le_add_right _ _ | exact Nat.zero_le _ | exact Nat.le_add_left _ _ | exact Nat.le_of_eq (Nat.add_sub_cancel).symm | decide) (by first | exact Nat.le_refl _ | exact Nat.le_add_right _ _ | exact Nat.zero_le _ | exact Nat.le_add_left _ _ | exact Nat.le_of_eq (Nat.add_sub_cancel).symm | decide) ?_
    exact sj_L_law_1833 hd hK18 h_9
  · have h_10 := ineg hc951 h_8
    refine fw_iconst (v := (0 : Int32)) (show decode _ _ = .ok (.iconst 0, 1) by decide +kernel) (by decide) ?_
    exact fw_ret (v := some (.int (0 : Int32))) .ireturn (show decode _ _ = .ok (.ireturn, 1) by decide +kernel) ⟨rfl, Or.inr (Or.inl ⟨rfl, rfl⟩)⟩ ⟨_, rfl, h_10⟩
def j_L_law_343 (K18 : Nat → Nat → Nat → Int32 → fM → Prop) (φ : Int32 → fM → Prop) (p0 : Nat) (p1 : Nat) (p2 : Nat) (p3 : Int32) (s0 : Int32) (s1 : Int32) (s2 : Int32) (s3 : Nat) (s4 : Int32) (M : fM) : Prop := isO M s3 11 ∧ w_X11_mark s3 s2 s1 s0 M fun x956 M952 => iF (s4 = x956) (j_L_law_1833 K18 φ p0 p1 p2 p3 M952) (φ (0 : Int32) M952)
set_option maxRecDepth 100000 in
theorem sj_L_law_343 {g : GT} {d Bc Bs : Nat} (hd : 80 ≤ d + 1) {K18 : Nat → Nat → Nat → Int32 → fM → Prop} {φ : Int32 → fM → Prop} (hK18 : ∀ (p0 : Nat) (p1 : Nat) (p2 : Nat) (p3 : Int32) (M : fM), K18 p0 p1 p2 p3 M → FW g mtL_law (d + 1) 18 [(0, .ref p0), (1, .ref p1), (2, .ref p2), (3, .int p3)] [] M Bc Bs (rI φ)) {p0 : Nat} {p1 : Nat} {p2 : Nat} {p3 : Int32} {s0 : Int32} {s1 : Int32} {s2 : Int32} {s3 : Nat} {s4 : Int32} {M : fM} (h : j_L_law_343 K18 φ p0 p1 p2 p3 s0 s1 s2 s3 s4 M) : FW g mtL_law (d + 1) 343 [(0, .ref p0), (1, .ref p1), (2, .ref p2), (3, .int p3)] [.int s0, .int s1, .int s2, .ref s3, .int s4] M Bc Bs (rI φ) := by
  unfold j_L_law_343 at h
  obtain ⟨⟨hr954, n953, hs955⟩, h_1⟩ := h
  refine fw_callV (mt' := mtX11_mark) (mc := 0) (ms := 0) (As := [.int s2, .int s1, .int s0]) (rest := [.int s4]) 3 11 n953 (show decode _ _ = .ok (.invokevirtual 27, 3) by decide +kernel) cv_L_27 ⟨_, rfl, rfl⟩ hr954 hs955 rfl (Nat.le_of_ble_eq_true rfl) (s_X11_mark (d := d) (hd_le hd (by decide)) h_1) (by first | exact Nat.le_refl _ | exact Nat.le_add_right _ _ | exact Nat.zero_le _ | exact Nat.le_add_left _ _ | exact Nat.le_of_eq (Nat.add_sub_cancel).symm | decide) (by first | exact Nat.le_refl _ | exact Nat.le_add_right _ _ | exact Nat.zero_le _ | exact Nat.le_add_left _ _ | exact Nat.le_of_eq (Nat.add_sub_cancel).symm | decide) (kI (bc' := Bc) (bs' := Bs) (by first | exact Nat.le_refl _ | exact Nat.le_add_right _ _ | exact Nat.zero_le _ | exact Nat.le_add_left _ _ | exact Nat.le_of_eq (Nat.add_sub_cancel).symm | decide) (by first | exact Nat.le_refl _ | exact Nat.le_add_right _ _ | exact Nat.zero_le _ | exact Nat.le_add_left _ _ | exact Nat.le_of_eq (Nat.add_sub_cancel).symm | decide) (fun x956 M952 h_2 => ?_))
  refine fw_icmp_eq 1833 (show decode _ _ = .ok (.if_icmp .eq 1487, 3) by decide +kernel) (by decide) (fun hc957 => ?_) (fun hc957 => ?_)
  · have h_3 := ipos hc957 h_2
    refine FW.sub [0, 1, 2, 3] (ls' := [(0, .ref p0), (1, .ref p1), (2, .ref p2), (3, .int p3)]) rfl ?_
    exact sj_L_law_1833 hd hK18 h_3
  · have h_4 := ineg hc957 h_2
    refine fw_iconst (v := (0 : Int32)) (show decode _ _ = .ok (.iconst 0, 1) by decide +kernel) (by decide) ?_
    exact fw_ret (v := some (.int (0 : Int32))) .ireturn (show decode _ _ = .ok (.ireturn, 1) by decide +kernel) ⟨rfl, Or.inr (Or.inl ⟨rfl, rfl⟩)⟩ ⟨_, rfl, h_4⟩
def j_L_law_316 (K18 : Nat → Nat → Nat → Int32 → fM → Prop) (φ : Int32 → fM → Prop) (p0 : Nat) (p1 : Nat) (p2 : Nat) (p3 : Int32) (s0 : Int32) (s1 : Int32) (s2 : Int32) (s3 : Nat) (M : fM) : Prop := isO M s3 10 ∧ w_X10_mark s3 s2 s1 s0 M fun x962 M958 => inA M958 p0 12 (p3 + (1 : Int32)) ∧ inA M958 p0 12 (p3 + (2 : Int32)) ∧ inA M958 p0 12 (p3 + (3 : Int32)) ∧ iF ((mI M958 p0 (ix (p3 + (3 : Int32)))) = 0) (j_L_law_343 K18 φ p0 p1 p2 p3 (0 : Int32) (mI M958 p0 (ix (p3 + (2 : Int32)))) (mI M958 p0 (ix (p3 + (1 : Int32)))) p2 x962 M958) (j_L_law_343 K18 φ p0 p1 p2 p3 (1 : Int32) (mI M958 p0 (ix (p3 + (2 : Int32)))) (mI M958 p0 (ix (p3 + (1 : Int32)))) p2 x962 M958)
set_option maxRecDepth 100000 in
theorem sj_L_law_316 {g : GT} {d Bc Bs : Nat} (hd : 80 ≤ d + 1) {K18 : Nat → Nat → Nat → Int32 → fM → Prop} {φ : Int32 → fM → Prop} (hK18 : ∀ (p0 : Nat) (p1 : Nat) (p2 : Nat) (p3 : Int32) (M : fM), K18 p0 p1 p2 p3 M → FW g mtL_law (d + 1) 18 [(0, .ref p0), (1, .ref p1), (2, .ref p2), (3, .int p3)] [] M Bc Bs (rI φ)) {p0 : Nat} {p1 : Nat} {p2 : Nat} {p3 : Int32} {s0 : Int32} {s1 : Int32} {s2 : Int32} {s3 : Nat} {M : fM} (h : j_L_law_316 K18 φ p0 p1 p2 p3 s0 s1 s2 s3 M) : FW g mtL_law (d + 1) 316 [(0, .ref p0), (1, .ref p1), (2, .ref p2), (3, .int p3)] [.int s0, .int s1, .int s2, .ref s3] M Bc Bs (rI φ) := by
  unfold j_L_law_316 at h
  obtain ⟨⟨hr960, n959, hs961⟩, h_1⟩ := h
  refine fw_callV (mt' := mtX10_mark) (mc := 0) (ms := 0) (As := [.int s2, .int s1, .int s0]) (rest := []) 3 10 n959 (show decode _ _ = .ok (.invokevirtual 23, 3) by decide +kernel) cv_L_23 ⟨_, rfl, rfl⟩ hr960 hs961 rfl (Nat.le_of_ble_eq_true rfl) (s_X10_mark (d := d) (hd_le hd (by decide)) h_1) (by first | exact Nat.le_refl _ | exact Nat.le_add_right _ _ | exact Nat.zero_le _ | exact Nat.le_add_left _ _ | exact Nat.le_of_eq (Nat.add_sub_cancel).symm | decide) (by first | exact Nat.le_refl _ | exact Nat.le_add_right _ _ | exact Nat.zero_le _ | exact Nat.le_add_left _ _ | exact Nat.le_of_eq (Nat.add_sub_cancel).symm | decide) (kI (bc' := Bc) (bs' := Bs) (by first | exact Nat.le_refl _ | exact Nat.le_add_right _ _ | exact Nat.zero_le _ | exact Nat.le_add_left _ _ | exact Nat.le_of_eq (Nat.add_sub_cancel).symm | decide) (by first | exact Nat.le_refl _ | exact Nat.le_add_right _ _ | exact Nat.zero_le _ | exact Nat.le_add_left _ _ | exact Nat.le_of_eq (Nat.add_sub_cancel).symm | decide) (fun x962 M958 h_2 => ?_))
  refine fw_aload_n (i := 2) 2 rfl (show decode _ _ = .ok (.aload_n 2, 1) by decide +kernel) ?_
  refine fw_aload_n (i := 0) 0 rfl (show decode _ _ = .ok (.aload_n 0, 1) by decide +kernel) ?_
  refine fw_iload_n (i := 3) 3 rfl (show decode _ _ = .ok (.iload_n 3, 1) by decide +kernel) ?_
  refine fw_iconst (v := (1 : Int32)) (show decode _ _ = .ok (.iconst 1, 1) by decide +kernel) (by decide) ?_
  refine fw_iadd (show decode _ _ = .ok (.iadd, 1) by decide +kernel) ?_
  obtain ⟨⟨n963, hs964, hi965⟩, h_3⟩ := h_2
  refine fw_iald (show decode _ _ = .ok (.iaload, 1) by decide +kernel) hs964 hi965 ?_
  refine fw_aload_n (i := 0) 0 rfl (show decode _ _ = .ok (.aload_n 0, 1) by decide +kernel) ?_
  refine fw_iload_n (i := 3) 3 rfl (show decode _ _ = .ok (.iload_n 3, 1) by decide +kernel) ?_
  refine fw_iconst (v := (2 : Int32)) (show decode _ _ = .ok (.iconst 2, 1) by decide +kernel) (by decide) ?_
  refine fw_iadd (show decode _ _ = .ok (.iadd, 1) by decide +kernel) ?_
  obtain ⟨⟨n966, hs967, hi968⟩, h_4⟩ := h_3
  refine fw_iald (show decode _ _ = .ok (.iaload, 1) by decide +kernel) hs967 hi968 ?_
  refine fw_aload_n (i := 0) 0 rfl (show decode _ _ = .ok (.aload_n 0, 1) by decide +kernel) ?_
  refine fw_iload_n (i := 3) 3 rfl (show decode _ _ = .ok (.iload_n 3, 1) by decide +kernel) ?_
  refine fw_iconst (v := (3 : Int32)) (show decode _ _ = .ok (.iconst 3, 1) by decide +kernel) (by decide) ?_
  refine fw_iadd (show decode _ _ = .ok (.iadd, 1) by decide +kernel) ?_
  obtain ⟨⟨n969, hs970, hi971⟩, h_5⟩ := h_4
  refine fw_iald (show decode _ _ = .ok (.iaload, 1) by decide +kernel) hs970 hi971 ?_
  refine fw_if_eq 342 (show decode _ _ = .ok (.ifCond .eq 7, 3) by decide +kernel) (by decide) (fun hc972 => ?_) (fun hc972 => ?_)
  · have h_6 := ipos hc972 h_5
    refine fw_iconst (v := (0 : Int32)) (show decode _ _ = .ok (.iconst 0, 1) by decide +kernel) (by decide) ?_
    refine FW.sub [0, 1, 2, 3] (ls' := [(0, .ref p0), (1, .ref p1), (2, .ref p2), (3, .int p3)]) rfl ?_
    exact sj_L_law_343 hd hK18 h_6
  · have h_7 := ineg hc972 h_5
    refine fw_iconst (v := (1 : Int32)) (show decode _ _ = .ok (.iconst 1, 1) by decide +kernel) (by decide) ?_
    refine fw_goto 343 (show decode _ _ = .ok (.goto 4, 3) by decide +kernel) (by decide) ?_
    refine FW.sub [0, 1, 2, 3] (ls' := [(0, .ref p0), (1, .ref p1), (2, .ref p2), (3, .int p3)]) rfl ?_
    exact sj_L_law_343 hd hK18 h_7
def j_L_law_292 (K18 : Nat → Nat → Nat → Int32 → fM → Prop) (φ : Int32 → fM → Prop) (p0 : Nat) (p1 : Nat) (p2 : Nat) (p3 : Int32) (M : fM) : Prop := inA M p0 12 (p3 + (1 : Int32)) ∧ inA M p0 12 (p3 + (2 : Int32)) ∧ inA M p0 12 (p3 + (3 : Int32)) ∧ iF ((mI M p0 (ix (p3 + (3 : Int32)))) = 0) (j_L_law_316 K18 φ p0 p1 p2 p3 (0 : Int32) (mI M p0 (ix (p3 + (2 : Int32)))) (mI M p0 (ix (p3 + (1 : Int32)))) p1 M) (j_L_law_316 K18 φ p0 p1 p2 p3 (1 : Int32) (mI M p0 (ix (p3 + (2 : Int32)))) (mI M p0 (ix (p3 + (1 : Int32)))) p1 M)
set_option maxRecDepth 100000 in
theorem sj_L_law_292 {g : GT} {d Bc Bs : Nat} (hd : 80 ≤ d + 1) {K18 : Nat → Nat → Nat → Int32 → fM → Prop} {φ : Int32 → fM → Prop} (hK18 : ∀ (p0 : Nat) (p1 : Nat) (p2 : Nat) (p3 : Int32) (M : fM), K18 p0 p1 p2 p3 M → FW g mtL_law (d + 1) 18 [(0, .ref p0), (1, .ref p1), (2, .ref p2), (3, .int p3)] [] M Bc Bs (rI φ)) {p0 : Nat} {p1 : Nat} {p2 : Nat} {p3 : Int32} {M : fM} (h : j_L_law_292 K18 φ p0 p1 p2 p3 M) : FW g mtL_law (d + 1) 292 [(0, .ref p0), (1, .ref p1), (2, .ref p2), (3, .int p3)] [] M (Bc + 11) (Bs + 3005) (rI φ) := by
  unfold j_L_law_292 at h
  refine fw_aload_n (i := 1) 1 rfl (show decode _ _ = .ok (.aload_n 1, 1) by decide +kernel) ?_
  refine fw_aload_n (i := 0) 0 rfl (show decode _ _ = .ok (.aload_n 0, 1) by decide +kernel) ?_
  refine fw_iload_n (i := 3) 3 rfl (show decode _ _ = .ok (.iload_n 3, 1) by decide +kernel) ?_
  refine fw_iconst (v := (1 : Int32)) (show decode _ _ = .ok (.iconst 1, 1) by decide +kernel) (by decide) ?_
  refine fw_iadd (show decode _ _ = .ok (.iadd, 1) by decide +kernel) ?_
  obtain ⟨⟨n973, hs974, hi975⟩, h_1⟩ := h
  refine fw_iald (show decode _ _ = .ok (.iaload, 1) by decide +kernel) hs974 hi975 ?_
  refine fw_aload_n (i := 0) 0 rfl (show decode _ _ = .ok (.aload_n 0, 1) by decide +kernel) ?_
  refine fw_iload_n (i := 3) 3 rfl (show decode _ _ = .ok (.iload_n 3, 1) by decide +kernel) ?_
  refine fw_iconst (v := (2 : Int32)) (show decode _ _ = .ok (.iconst 2, 1) by decide +kernel) (by decide) ?_
  refine fw_iadd (show decode _ _ = .ok (.iadd, 1) by decide +kernel) ?_
  obtain ⟨⟨n976, hs977, hi978⟩, h_2⟩ := h_1
  refine fw_iald (show decode _ _ = .ok (.iaload, 1) by decide +kernel) hs977 hi978 ?_
  refine fw_aload_n (i := 0) 0 rfl (show decode _ _ = .ok (.aload_n 0, 1) by decide +kernel) ?_
  refine fw_iload_n (i := 3) 3 rfl (show decode _ _ = .ok (.iload_n 3, 1) by decide +kernel) ?_
  refine fw_iconst (v := (3 : Int32)) (show decode _ _ = .ok (.iconst 3, 1) by decide +kernel) (by decide) ?_
  refine fw_iadd (show decode _ _ = .ok (.iadd, 1) by decide +kernel) ?_
  obtain ⟨⟨n979, hs980, hi981⟩, h_3⟩ := h_2
  refine fw_iald (show decode _ _ = .ok (.iaload, 1) by decide +kernel) hs980 hi981 ?_
  refine fw_if_eq 315 (show decode _ _ = .ok (.ifCond .eq 7, 3) by decide +kernel) (by decide) (fun hc982 => ?_) (fun hc982 => ?_)
  · have h_4 := ipos hc982 h_3
    refine fw_iconst (v := (0 : Int32)) (show decode _ _ = .ok (.iconst 0, 1) by decide +kernel) (by decide) ?_
    refine FW.sub [0, 1, 2, 3] (ls' := [(0, .ref p0), (1, .ref p1), (2, .ref p2), (3, .int p3)]) rfl ?_
    refine FW.room (bc' := Bc) (bs' := Bs) (by first | exact Nat.le_refl _ | exact Nat.le_add_right _ _ | exact Nat.zero_le _ | exact Nat.le_add_left _ _ | exact Nat.le_of_eq (Nat.add_sub_cancel).symm | decide) (by first | exact Nat.le_refl _ | exact Nat.le_add_right _ _ | exact Nat.zero_le _ | exact Nat.le_add_left _ _ | exact Nat.le_of_eq (Nat.add_sub_cancel).symm | decide) ?_
    exact sj_L_law_316 hd hK18 h_4
  · have h_5 := ineg hc982 h_3
    refine fw_iconst (v := (1 : Int32)) (show decode _ _ = .ok (.iconst 1, 1) by decide +kernel) (by decide) ?_
    refine fw_goto 316 (show decode _ _ = .ok (.goto 4, 3) by decide +kernel) (by decide) ?_
    refine FW.sub [0, 1, 2, 3] (ls' := [(0, .ref p0), (1, .ref p1), (2, .ref p2), (3, .int p3)]) rfl ?_
    refine FW.room (bc' := Bc) (bs' := Bs) (by first | exact Nat.le_refl _ | exact Nat.le_add_right _ _ | exact Nat.zero_le _ | exact Nat.le_add_left _ _ | exact Nat.le_of_eq (Nat.add_sub_cancel).symm | decide) (by first | exact Nat.le_refl _ | exact Nat.le_add_right _ _ | exact Nat.zero_le _ | exact Nat.le_add_left _ _ | exact Nat.le_of_eq (Nat.add_sub_cancel).symm | decide) ?_
    exact sj_L_law_316 hd hK18 h_5
def j_L_law_249 (K18 : Nat → Nat → Nat → Int32 → fM → Prop) (φ : Int32 → fM → Prop) (p0 : Nat) (p1 : Nat) (p2 : Nat) (p3 : Int32) (M : fM) : Prop := inA M p0 12 (p3 + (1 : Int32)) ∧ inA M p0 12 (p3 + (2 : Int32)) ∧ inA M p0 12 (p3 + (3 : Int32)) ∧ isO M p1 10 ∧ w_X10_height p1 (mI M p0 (ix (p3 + (1 : Int32)))) (mI M p0 (ix (p3 + (2 : Int32)))) (mI M p0 (ix (p3 + (3 : Int32)))) M fun x996 M992 => inA M992 p0 12 (p3 + (1 : Int32)) ∧ inA M992 p0 12 (p3 + (2 : Int32)) ∧ inA M992 p0 12 (p3 + (3 : Int32)) ∧ isO M992 p2 11 ∧ w_X11_height p2 (mI M992 p0 (ix (p3 + (1 : Int32)))) (mI M992 p0 (ix (p3 + (2 : Int32)))) (mI M992 p0 (ix (p3 + (3 : Int32)))) M992 fun x1010 M1006 => iF (x996 = x1010) (j_L_law_1833 K18 φ p0 p1 p2 p3 M1006) (φ (0 : Int32) M1006)
set_option maxRecDepth 100000 in
theorem sj_L_law_249 {g : GT} {d Bc Bs : Nat} (hd : 80 ≤ d + 1) {K18 : Nat → Nat → Nat → Int32 → fM → Prop} {φ : Int32 → fM → Prop} (hK18 : ∀ (p0 : Nat) (p1 : Nat) (p2 : Nat) (p3 : Int32) (M : fM), K18 p0 p1 p2 p3 M → FW g mtL_law (d + 1) 18 [(0, .ref p0), (1, .ref p1), (2, .ref p2), (3, .int p3)] [] M Bc Bs (rI φ)) {p0 : Nat} {p1 : Nat} {p2 : Nat} {p3 : Int32} {M : fM} (h : j_L_law_249 K18 φ p0 p1 p2 p3 M) : FW g mtL_law (d + 1) 249 [(0, .ref p0), (1, .ref p1), (2, .ref p2), (3, .int p3)] [] M (Bc + 11) (Bs + 3005) (rI φ) := by
  unfold j_L_law_249 at h
  refine fw_aload_n (i := 1) 1 rfl (show decode _ _ = .ok (.aload_n 1, 1) by decide +kernel) ?_
  refine fw_aload_n (i := 0) 0 rfl (show decode _ _ = .ok (.aload_n 0, 1) by decide +kernel) ?_
  refine fw_iload_n (i := 3) 3 rfl (show decode _ _ = .ok (.iload_n 3, 1) by decide +kernel) ?_
  refine fw_iconst (v := (1 : Int32)) (show decode _ _ = .ok (.iconst 1, 1) by decide +kernel) (by decide) ?_
  refine fw_iadd (show decode _ _ = .ok (.iadd, 1) by decide +kernel) ?_
  obtain ⟨⟨n983, hs984, hi985⟩, h_1⟩ := h
  refine fw_iald (show decode _ _ = .ok (.iaload, 1) by decide +kernel) hs984 hi985 ?_
  refine fw_aload_n (i := 0) 0 rfl (show decode _ _ = .ok (.aload_n 0, 1) by decide +kernel) ?_
  refine fw_iload_n (i := 3) 3 rfl (show decode _ _ = .ok (.iload_n 3, 1) by decide +kernel) ?_
  refine fw_iconst (v := (2 : Int32)) (show decode _ _ = .ok (.iconst 2, 1) by decide +kernel) (by decide) ?_
  refine fw_iadd (show decode _ _ = .ok (.iadd, 1) by decide +kernel) ?_
  obtain ⟨⟨n986, hs987, hi988⟩, h_2⟩ := h_1
  refine fw_iald (show decode _ _ = .ok (.iaload, 1) by decide +kernel) hs987 hi988 ?_
  refine fw_aload_n (i := 0) 0 rfl (show decode _ _ = .ok (.aload_n 0, 1) by decide +kernel) ?_
  refine fw_iload_n (i := 3) 3 rfl (show decode _ _ = .ok (.iload_n 3, 1) by decide +kernel) ?_
  refine fw_iconst (v := (3 : Int32)) (show decode _ _ = .ok (.iconst 3, 1) by decide +kernel) (by decide) ?_
  refine fw_iadd (show decode _ _ = .ok (.iadd, 1) by decide +kernel) ?_
  obtain ⟨⟨n989, hs990, hi991⟩, h_3⟩ := h_2
  refine fw_iald (show decode _ _ = .ok (.iaload, 1) by decide +kernel) hs990 hi991 ?_
  obtain ⟨⟨hr994, n993, hs995⟩, h_4⟩ := h_3
  refine fw_callV (mt' := mtX10_height) (mc := 0) (ms := 0) (As := [.int (mI M p0 (ix (p3 + (1 : Int32)))), .int (mI M p0 (ix (p3 + (2 : Int32)))), .int (mI M p0 (ix (p3 + (3 : Int32))))]) (rest := []) 3 10 n993 (show decode _ _ = .ok (.invokevirtual 18, 3) by decide +kernel) cv_L_18 ⟨_, rfl, rfl⟩ hr994 hs995 rfl (Nat.le_of_ble_eq_true rfl) (s_X10_height (d := d) (hd_le hd (by decide)) h_4) (by first | exact Nat.le_refl _ | exact Nat.le_add_right _ _ | exact Nat.zero_le _ | exact Nat.le_add_left _ _ | exact Nat.le_of_eq (Nat.add_sub_cancel).symm | decide) (by first | exact Nat.le_refl _ | exact Nat.le_add_right _ _ | exact Nat.zero_le _ | exact Nat.le_add_left _ _ | exact Nat.le_of_eq (Nat.add_sub_cancel).symm | decide) (kI (bc' := (Bc + 11)) (bs' := (Bs + 3005)) (by first | exact Nat.le_refl _ | exact Nat.le_add_right _ _ | exact Nat.zero_le _ | exact Nat.le_add_left _ _ | exact Nat.le_of_eq (Nat.add_sub_cancel).symm | decide) (by first | exact Nat.le_refl _ | exact Nat.le_add_right _ _ | exact Nat.zero_le _ | exact Nat.le_add_left _ _ | exact Nat.le_of_eq (Nat.add_sub_cancel).symm | decide) (fun x996 M992 h_5 => ?_))
  refine fw_aload_n (i := 2) 2 rfl (show decode _ _ = .ok (.aload_n 2, 1) by decide +kernel) ?_
  refine fw_aload_n (i := 0) 0 rfl (show decode _ _ = .ok (.aload_n 0, 1) by decide +kernel) ?_
  refine fw_iload_n (i := 3) 3 rfl (show decode _ _ = .ok (.iload_n 3, 1) by decide +kernel) ?_
  refine fw_iconst (v := (1 : Int32)) (show decode _ _ = .ok (.iconst 1, 1) by decide +kernel) (by decide) ?_
  refine fw_iadd (show decode _ _ = .ok (.iadd, 1) by decide +kernel) ?_
  obtain ⟨⟨n997, hs998, hi999⟩, h_6⟩ := h_5
  refine fw_iald (show decode _ _ = .ok (.iaload, 1) by decide +kernel) hs998 hi999 ?_
  refine fw_aload_n (i := 0) 0 rfl (show decode _ _ = .ok (.aload_n 0, 1) by decide +kernel) ?_
  refine fw_iload_n (i := 3) 3 rfl (show decode _ _ = .ok (.iload_n 3, 1) by decide +kernel) ?_
  refine fw_iconst (v := (2 : Int32)) (show decode _ _ = .ok (.iconst 2, 1) by decide +kernel) (by decide) ?_
  refine fw_iadd (show decode _ _ = .ok (.iadd, 1) by decide +kernel) ?_
  obtain ⟨⟨n1000, hs1001, hi1002⟩, h_7⟩ := h_6
  refine fw_iald (show decode _ _ = .ok (.iaload, 1) by decide +kernel) hs1001 hi1002 ?_
  refine fw_aload_n (i := 0) 0 rfl (show decode _ _ = .ok (.aload_n 0, 1) by decide +kernel) ?_
  refine fw_iload_n (i := 3) 3 rfl (show decode _ _ = .ok (.iload_n 3, 1) by decide +kernel) ?_
  refine fw_iconst (v := (3 : Int32)) (show decode _ _ = .ok (.iconst 3, 1) by decide +kernel) (by decide) ?_
  refine fw_iadd (show decode _ _ = .ok (.iadd, 1) by decide +kernel) ?_
  obtain ⟨⟨n1003, hs1004, hi1005⟩, h_8⟩ := h_7
  refine fw_iald (show decode _ _ = .ok (.iaload, 1) by decide +kernel) hs1004 hi1005 ?_
  obtain ⟨⟨hr1008, n1007, hs1009⟩, h_9⟩ := h_8
  refine fw_callV (mt' := mtX11_height) (mc := 0) (ms := 0) (As := [.int (mI M992 p0 (ix (p3 + (1 : Int32)))), .int (mI M992 p0 (ix (p3 + (2 : Int32)))), .int (mI M992 p0 (ix (p3 + (3 : Int32))))]) (rest := [.int x996]) 3 11 n1007 (show decode _ _ = .ok (.invokevirtual 22, 3) by decide +kernel) cv_L_22 ⟨_, rfl, rfl⟩ hr1008 hs1009 rfl (Nat.le_of_ble_eq_true rfl) (s_X11_height (d := d) (hd_le hd (by decide)) h_9) (by first | exact Nat.le_refl _ | exact Nat.le_add_right _ _ | exact Nat.zero_le _ | exact Nat.le_add_left _ _ | exact Nat.le_of_eq (Nat.add_sub_cancel).symm | decide) (by first | exact Nat.le_refl _ | exact Nat.le_add_right _ _ | exact Nat.zero_le _ | exact Nat.le_add_left _ _ | exact Nat.le_of_eq (Nat.add_sub_cancel).symm | decide) (kI (bc' := (Bc + 11)) (bs' := (Bs + 3005)) (by first | exact Nat.le_refl _ | exact Nat.le_add_right _ _ | exact Nat.zero_le _ | exact Nat.le_add_left _ _ | exact Nat.le_of_eq (Nat.add_sub_cancel).symm | decide) (by first | exact Nat.le_refl _ | exact Nat.le_add_right _ _ | exact Nat.zero_le _ | exact Nat.le_add_left _ _ | exact Nat.le_of_eq (Nat.add_sub_cancel).symm | decide) (fun x1010 M1006 h_10 => ?_))
  refine fw_icmp_eq 1833 (show decode _ _ = .ok (.if_icmp .eq 1546, 3) by decide +kernel) (by decide) (fun hc1011 => ?_) (fun hc1011 => ?_)
  · have h_11 := ipos hc1011 h_10
    refine FW.sub [0, 1, 2, 3] (ls' := [(0, .ref p0), (1, .ref p1), (2, .ref p2), (3, .int p3)]) rfl ?_
    refine FW.room (bc' := Bc) (bs' := Bs) (by first | exact Nat.le_refl _ | exact Nat.le_add_right _ _ | exact Nat.zero_le _ | exact Nat.le_add_left _ _ | exact Nat.le_of_eq (Nat.add_sub_cancel).symm | decide) (by first | exact Nat.le_refl _ | exact Nat.le_add_right _ _ | exact Nat.zero_le _ | exact Nat.le_add_left _ _ | exact Nat.le_of_eq (Nat.add_sub_cancel).symm | decide) ?_
    exact sj_L_law_1833 hd hK18 h_11
  · have h_12 := ineg hc1011 h_10
    refine fw_iconst (v := (0 : Int32)) (show decode _ _ = .ok (.iconst 0, 1) by decide +kernel) (by decide) ?_
    exact fw_ret (v := some (.int (0 : Int32))) .ireturn (show decode _ _ = .ok (.ireturn, 1) by decide +kernel) ⟨rfl, Or.inr (Or.inl ⟨rfl, rfl⟩)⟩ ⟨_, rfl, h_12⟩
def j_L_law_216 (K18 : Nat → Nat → Nat → Int32 → fM → Prop) (φ : Int32 → fM → Prop) (p0 : Nat) (p1 : Nat) (p2 : Nat) (p3 : Int32) (M : fM) : Prop := inA M p0 12 (p3 + (1 : Int32)) ∧ inA M p0 12 (p3 + (2 : Int32)) ∧ isO M p1 10 ∧ w_X10_stair p1 (mI M p0 (ix (p3 + (1 : Int32)))) (mI M p0 (ix (p3 + (2 : Int32)))) M fun x1022 M1018 => inA M1018 p0 12 (p3 + (1 : Int32)) ∧ inA M1018 p0 12 (p3 + (2 : Int32)) ∧ isO M1018 p2 11 ∧ w_X11_stair p2 (mI M1018 p0 (ix (p3 + (1 : Int32)))) (mI M1018 p0 (ix (p3 + (2 : Int32)))) M1018 fun x1033 M1029 => iF (x1022 = x1033) (j_L_law_1833 K18 φ p0 p1 p2 p3 M1029) (φ (0 : Int32) M1029)
set_option maxRecDepth 100000 in
theorem sj_L_law_216 {g : GT} {d Bc Bs : Nat} (hd : 80 ≤ d + 1) {K18 : Nat → Nat → Nat → Int32 → fM → Prop} {φ : Int32 → fM → Prop} (hK18 : ∀ (p0 : Nat) (p1 : Nat) (p2 : Nat) (p3 : Int32) (M : fM), K18 p0 p1 p2 p3 M → FW g mtL_law (d + 1) 18 [(0, .ref p0), (1, .ref p1), (2, .ref p2), (3, .int p3)] [] M Bc Bs (rI φ)) {p0 : Nat} {p1 : Nat} {p2 : Nat} {p3 : Int32} {M : fM} (h : j_L_law_216 K18 φ p0 p1 p2 p3 M) : FW g mtL_law (d + 1) 216 [(0, .ref p0), (1, .ref p1), (2, .ref p2), (3, .int p3)] [] M (Bc + 11) (Bs + 3005) (rI φ) := by
  unfold j_L_law_216 at h
  refine fw_aload_n (i := 1) 1 rfl (show decode _ _ = .ok (.aload_n 1, 1) by decide +kernel) ?_
  refine fw_aload_n (i := 0) 0 rfl (show decode _ _ = .ok (.aload_n 0, 1) by decide +kernel) ?_
  refine fw_iload_n (i := 3) 3 rfl (show decode _ _ = .ok (.iload_n 3, 1) by decide +kernel) ?_
  refine fw_iconst (v := (1 : Int32)) (show decode _ _ = .ok (.iconst 1, 1) by decide +kernel) (by decide) ?_
  refine fw_iadd (show decode _ _ = .ok (.iadd, 1) by decide +kernel) ?_
  obtain ⟨⟨n1012, hs1013, hi1014⟩, h_1⟩ := h
  refine fw_iald (show decode _ _ = .ok (.iaload, 1) by decide +kernel) hs1013 hi1014 ?_
  refine fw_aload_n (i := 0) 0 rfl (show decode _ _ = .ok (.aload_n 0, 1) by decide +kernel) ?_
  refine fw_iload_n (i := 3) 3 rfl (show decode _ _ = .ok (.iload_n 3, 1) by decide +kernel) ?_
  refine fw_iconst (v := (2 : Int32)) (show decode _ _ = .ok (.iconst 2, 1) by decide +kernel) (by decide) ?_
  refine fw_iadd (show decode _ _ = .ok (.iadd, 1) by decide +kernel) ?_
  obtain ⟨⟨n1015, hs1016, hi1017⟩, h_2⟩ := h_1
  refine fw_iald (show decode _ _ = .ok (.iaload, 1) by decide +kernel) hs1016 hi1017 ?_
  obtain ⟨⟨hr1020, n1019, hs1021⟩, h_3⟩ := h_2
  refine fw_callV (mt' := mtX10_stair) (mc := 0) (ms := 0) (As := [.int (mI M p0 (ix (p3 + (1 : Int32)))), .int (mI M p0 (ix (p3 + (2 : Int32))))]) (rest := []) 2 10 n1019 (show decode _ _ = .ok (.invokevirtual 13, 3) by decide +kernel) cv_L_13 ⟨_, rfl, rfl⟩ hr1020 hs1021 rfl (Nat.le_of_ble_eq_true rfl) (s_X10_stair (d := d) (hd_le hd (by decide)) h_3) (by first | exact Nat.le_refl _ | exact Nat.le_add_right _ _ | exact Nat.zero_le _ | exact Nat.le_add_left _ _ | exact Nat.le_of_eq (Nat.add_sub_cancel).symm | decide) (by first | exact Nat.le_refl _ | exact Nat.le_add_right _ _ | exact Nat.zero_le _ | exact Nat.le_add_left _ _ | exact Nat.le_of_eq (Nat.add_sub_cancel).symm | decide) (kI (bc' := (Bc + 11)) (bs' := (Bs + 3005)) (by first | exact Nat.le_refl _ | exact Nat.le_add_right _ _ | exact Nat.zero_le _ | exact Nat.le_add_left _ _ | exact Nat.le_of_eq (Nat.add_sub_cancel).symm | decide) (by first | exact Nat.le_refl _ | exact Nat.le_add_right _ _ | exact Nat.zero_le _ | exact Nat.le_add_left _ _ | exact Nat.le_of_eq (Nat.add_sub_cancel).symm | decide) (fun x1022 M1018 h_4 => ?_))
  refine fw_aload_n (i := 2) 2 rfl (show decode _ _ = .ok (.aload_n 2, 1) by decide +kernel) ?_
  refine fw_aload_n (i := 0) 0 rfl (show decode _ _ = .ok (.aload_n 0, 1) by decide +kernel) ?_
  refine fw_iload_n (i := 3) 3 rfl (show decode _ _ = .ok (.iload_n 3, 1) by decide +kernel) ?_
  refine fw_iconst (v := (1 : Int32)) (show decode _ _ = .ok (.iconst 1, 1) by decide +kernel) (by decide) ?_
  refine fw_iadd (show decode _ _ = .ok (.iadd, 1) by decide +kernel) ?_
  obtain ⟨⟨n1023, hs1024, hi1025⟩, h_5⟩ := h_4
  refine fw_iald (show decode _ _ = .ok (.iaload, 1) by decide +kernel) hs1024 hi1025 ?_
  refine fw_aload_n (i := 0) 0 rfl (show decode _ _ = .ok (.aload_n 0, 1) by decide +kernel) ?_
  refine fw_iload_n (i := 3) 3 rfl (show decode _ _ = .ok (.iload_n 3, 1) by decide +kernel) ?_
  refine fw_iconst (v := (2 : Int32)) (show decode _ _ = .ok (.iconst 2, 1) by decide +kernel) (by decide) ?_
  refine fw_iadd (show decode _ _ = .ok (.iadd, 1) by decide +kernel) ?_
  obtain ⟨⟨n1026, hs1027, hi1028⟩, h_6⟩ := h_5
  refine fw_iald (show decode _ _ = .ok (.iaload, 1) by decide +kernel) hs1027 hi1028 ?_
  obtain ⟨⟨hr1031, n1030, hs1032⟩, h_7⟩ := h_6
  refine fw_callV (mt' := mtX11_stair) (mc := 0) (ms := 0) (As := [.int (mI M1018 p0 (ix (p3 + (1 : Int32)))), .int (mI M1018 p0 (ix (p3 + (2 : Int32))))]) (rest := [.int x1022]) 2 11 n1030 (show decode _ _ = .ok (.invokevirtual 17, 3) by decide +kernel) cv_L_17 ⟨_, rfl, rfl⟩ hr1031 hs1032 rfl (Nat.le_of_ble_eq_true rfl) (s_X11_stair (d := d) (hd_le hd (by decide)) h_7) (by first | exact Nat.le_refl _ | exact Nat.le_add_right _ _ | exact Nat.zero_le _ | exact Nat.le_add_left _ _ | exact Nat.le_of_eq (Nat.add_sub_cancel).symm | decide) (by first | exact Nat.le_refl _ | exact Nat.le_add_right _ _ | exact Nat.zero_le _ | exact Nat.le_add_left _ _ | exact Nat.le_of_eq (Nat.add_sub_cancel).symm | decide) (kI (bc' := (Bc + 11)) (bs' := (Bs + 3005)) (by first | exact Nat.le_refl _ | exact Nat.le_add_right _ _ | exact Nat.zero_le _ | exact Nat.le_add_left _ _ | exact Nat.le_of_eq (Nat.add_sub_cancel).symm | decide) (by first | exact Nat.le_refl _ | exact Nat.le_add_right _ _ | exact Nat.zero_le _ | exact Nat.le_add_left _ _ | exact Nat.le_of_eq (Nat.add_sub_cancel).symm | decide) (fun x1033 M1029 h_8 => ?_))
  refine fw_icmp_eq 1833 (show decode _ _ = .ok (.if_icmp .eq 1589, 3) by decide +kernel) (by decide) (fun hc1034 => ?_) (fun hc1034 => ?_)
  · have h_9 := ipos hc1034 h_8
    refine FW.sub [0, 1, 2, 3] (ls' := [(0, .ref p0), (1, .ref p1), (2, .ref p2), (3, .int p3)]) rfl ?_
    refine FW.room (bc' := Bc) (bs' := Bs) (by first | exact Nat.le_refl _ | exact Nat.le_add_right _ _ | exact Nat.zero_le _ | exact Nat.le_add_left _ _ | exact Nat.le_of_eq (Nat.add_sub_cancel).symm | decide) (by first | exact Nat.le_refl _ | exact Nat.le_add_right _ _ | exact Nat.zero_le _ | exact Nat.le_add_left _ _ | exact Nat.le_of_eq (Nat.add_sub_cancel).symm | decide) ?_
    exact sj_L_law_1833 hd hK18 h_9
  · have h_10 := ineg hc1034 h_8
    refine fw_iconst (v := (0 : Int32)) (show decode _ _ = .ok (.iconst 0, 1) by decide +kernel) (by decide) ?_
    exact fw_ret (v := some (.int (0 : Int32))) .ireturn (show decode _ _ = .ok (.ireturn, 1) by decide +kernel) ⟨rfl, Or.inr (Or.inl ⟨rfl, rfl⟩)⟩ ⟨_, rfl, h_10⟩
def b_L_law_18 (K18 : Nat → Nat → Nat → Int32 → fM → Prop) (φ : Int32 → fM → Prop) (p0 : Nat) (p1 : Nat) (p2 : Nat) (p3 : Int32) (M : fM) : Prop := lenA M p0 12 fun n1035 => iF (((nI n1035) - (7 : Int32)) < p3) (φ (1 : Int32) M) (inA M p0 12 p3 ∧ nm ((mI M p0 (ix p3)) &&& (63 : Int32)) fun x1040 => iF (x1040 = (0 : Int32)) (j_L_law_216 K18 φ p0 p1 p2 p3 M) (iF (x1040 = (1 : Int32)) (j_L_law_249 K18 φ p0 p1 p2 p3 M) (iF (x1040 = (2 : Int32)) (j_L_law_292 K18 φ p0 p1 p2 p3 M) (iF (x1040 = (3 : Int32)) (j_L_law_351 K18 φ p0 p1 p2 p3 M) (iF (x1040 = (4 : Int32)) (j_L_law_384 K18 φ p0 p1 p2 p3 M) (iF (x1040 = (5 : Int32)) (j_L_law_427 K18 φ p0 p1 p2 p3 M) (iF (x1040 = (6 : Int32)) (j_L_law_450 K18 φ p0 p1 p2 p3 M) (iF (x1040 = (7 : Int32)) (j_L_law_513 K18 φ p0 p1 p2 p3 M) (iF (x1040 = (8 : Int32)) (j_L_law_536 K18 φ p0 p1 p2 p3 M) (iF (x1040 = (9 : Int32)) (j_L_law_549 K18 φ p0 p1 p2 p3 M) (iF (x1040 = (10 : Int32)) (j_L_law_572 K18 φ p0 p1 p2 p3 M) (iF (x1040 = (11 : Int32)) (j_L_law_595 K18 φ p0 p1 p2 p3 M) (iF (x1040 = (12 : Int32)) (j_L_law_638 K18 φ p0 p1 p2 p3 M) (iF (x1040 = (13 : Int32)) (j_L_law_651 K18 φ p0 p1 p2 p3 M) (iF (x1040 = (14 : Int32)) (j_L_law_664 K18 φ p0 p1 p2 p3 M) (iF (x1040 = (15 : Int32)) (j_L_law_677 K18 φ p0 p1 p2 p3 M) (iF (x1040 = (16 : Int32)) (j_L_law_700 K18 φ p0 p1 p2 p3 M) (iF (x1040 = (17 : Int32)) (j_L_law_723 K18 φ p0 p1 p2 p3 M) (iF (x1040 = (18 : Int32)) (j_L_law_756 K18 φ p0 p1 p2 p3 M) (iF (x1040 = (19 : Int32)) (j_L_law_769 K18 φ p0 p1 p2 p3 M) (iF (x1040 = (20 : Int32)) (j_L_law_792 K18 φ p0 p1 p2 p3 M) (iF (x1040 = (21 : Int32)) (j_L_law_825 K18 φ p0 p1 p2 p3 M) (iF (x1040 = (22 : Int32)) (j_L_law_888 K18 φ p0 p1 p2 p3 M) (iF (x1040 = (23 : Int32)) (j_L_law_921 K18 φ p0 p1 p2 p3 M) (iF (x1040 = (24 : Int32)) (j_L_law_1013 K18 φ p0 p1 p2 p3 M) (iF (x1040 = (25 : Int32)) (j_L_law_1093 K18 φ p0 p1 p2 p3 M) (iF (x1040 = (26 : Int32)) (j_L_law_1136 K18 φ p0 p1 p2 p3 M) (iF (x1040 = (27 : Int32)) (j_L_law_1179 K18 φ p0 p1 p2 p3 M) (iF (x1040 = (28 : Int32)) (j_L_law_1212 K18 φ p0 p1 p2 p3 M) (iF (x1040 = (29 : Int32)) (j_L_law_1265 K18 φ p0 p1 p2 p3 M) (iF (x1040 = (30 : Int32)) (j_L_law_1335 K18 φ p0 p1 p2 p3 M) (iF (x1040 = (31 : Int32)) (j_L_law_1405 K18 φ p0 p1 p2 p3 M) (iF (x1040 = (32 : Int32)) (j_L_law_1475 K18 φ p0 p1 p2 p3 M) (iF (x1040 = (33 : Int32)) (j_L_law_1534 K18 φ p0 p1 p2 p3 M) (iF (x1040 = (34 : Int32)) (j_L_law_1567 K18 φ p0 p1 p2 p3 M) (iF (x1040 = (35 : Int32)) (j_L_law_1600 K18 φ p0 p1 p2 p3 M) (iF (x1040 = (36 : Int32)) (j_L_law_1643 K18 φ p0 p1 p2 p3 M) (iF (x1040 = (37 : Int32)) (j_L_law_1712 K18 φ p0 p1 p2 p3 M) (iF (x1040 = (38 : Int32)) (j_L_law_1725 K18 φ p0 p1 p2 p3 M) (iF (x1040 = (39 : Int32)) (j_L_law_1784 K18 φ p0 p1 p2 p3 M) (iF (x1040 = (40 : Int32)) (j_L_law_1797 K18 φ p0 p1 p2 p3 M) (iF (x1040 = (41 : Int32)) (j_L_law_1810 K18 φ p0 p1 p2 p3 M) (j_L_law_1833 K18 φ p0 p1 p2 p3 M)))))))))))))))))))))))))))))))))))))))))))
def l_L_law_18 (φ : Int32 → fM → Prop) : Nat → Nat → Nat → Nat → Int32 → fM → Prop
  | 0, _, _, _, _, _ => False
  | n + 1, p0, p1, p2, p3, M => b_L_law_18 (l_L_law_18 φ n) φ p0 p1 p2 p3 M
set_option maxRecDepth 100000 in
theorem sb_L_law_18 {g : GT} {d Bc Bs : Nat} (hd : 80 ≤ d + 1) {K18 : Nat → Nat → Nat → Int32 → fM → Prop} {φ : Int32 → fM → Prop} (hK18 : ∀ (p0 : Nat) (p1 : Nat) (p2 : Nat) (p3 : Int32) (M : fM), K18 p0 p1 p2 p3 M → FW g mtL_law (d + 1) 18 [(0, .ref p0), (1, .ref p1), (2, .ref p2), (3, .int p3)] [] M Bc Bs (rI φ)) {p0 : Nat} {p1 : Nat} {p2 : Nat} {p3 : Int32} {M : fM} (h : b_L_law_18 K18 φ p0 p1 p2 p3 M) : FW g mtL_law (d + 1) 18 [(0, .ref p0), (1, .ref p1), (2, .ref p2), (3, .int p3)] [] M (Bc + 11) (Bs + 3005) (rI φ) := by
  unfold b_L_law_18 at h
  refine fw_iload_n (i := 3) 3 rfl (show decode _ _ = .ok (.iload_n 3, 1) by decide +kernel) ?_
  refine fw_aload_n (i := 0) 0 rfl (show decode _ _ = .ok (.aload_n 0, 1) by decide +kernel) ?_
  obtain ⟨n1035, hs1036, h_1⟩ := h
  refine fw_alen (show decode _ _ = .ok (.arraylength, 1) by decide +kernel) hs1036 (by decide) (by decide) (by decide) (fun h_1 => absurd h_1 (by decide)) ?_
  refine fw_bipush (v := (7 : Int32)) (show decode _ _ = .ok (.bipush 7, 2) by decide +kernel) (by decide) ?_
  refine fw_isub (show decode _ _ = .ok (.isub, 1) by decide +kernel) ?_
  refine fw_icmp_gt 1839 (show decode _ _ = .ok (.if_icmp .gt 1815, 3) by decide +kernel) (by decide) (fun hc1086 => ?_) (fun hc1086 => ?_)
  · have h_2 := ipos hc1086 h_1
    refine fw_iconst (v := (1 : Int32)) (show decode _ _ = .ok (.iconst 1, 1) by decide +kernel) (by decide) ?_
    exact fw_ret (v := some (.int (1 : Int32))) .ireturn (show decode _ _ = .ok (.ireturn, 1) by decide +kernel) ⟨rfl, Or.inr (Or.inl ⟨rfl, rfl⟩)⟩ ⟨_, rfl, h_2⟩
  · have h_3 := ineg hc1086 h_1
    refine fw_aload_n (i := 0) 0 rfl (show decode _ _ = .ok (.aload_n 0, 1) by decide +kernel) ?_
    refine fw_iload_n (i := 3) 3 rfl (show decode _ _ = .ok (.iload_n 3, 1) by decide +kernel) ?_
    obtain ⟨⟨n1037, hs1038, hi1039⟩, h_4⟩ := h_3
    refine fw_iald (show decode _ _ = .ok (.iaload, 1) by decide +kernel) hs1038 hi1039 ?_
    refine fw_bipush (v := (63 : Int32)) (show decode _ _ = .ok (.bipush 63, 2) by decide +kernel) (by decide) ?_
    refine fw_iand (show decode _ _ = .ok (.iand, 1) by decide +kernel) ?_
    refine fw_nmI (fun x1040 ex1041 => ?_)
    have h_5 := h_4 x1040 ex1041
    by_cases hc1042 : x1040 = (0 : Int32)
    · have h_6 := ipos hc1042 h_5
      refine fw_tin (off := 183) 216 (show decode _ _ = .ok (.tableswitch 1800 0 41 #[183, 216, 259, 318, 351, 394, 417, 480, 503, 516, 539, 562, 605, 618, 631, 644, 667, 690, 723, 736, 759, 792, 855, 888, 980, 1060, 1103, 1146, 1179, 1232, 1302, 1372, 1442, 1501, 1534, 1567, 1610, 1679, 1692, 1751, 1764, 1777], 183) by decide +kernel) (by rw [hc1042]; decide) (by rw [hc1042]; decide) (by rw [hc1042]; rfl) (by decide) ?_
      refine FW.sub [0, 1, 2, 3] (ls' := [(0, .ref p0), (1, .ref p1), (2, .ref p2), (3, .int p3)]) rfl ?_
      exact sj_L_law_216 hd hK18 h_6
    have h_7 := ineg hc1042 h_5
    by_cases hc1043 : x1040 = (1 : Int32)
    · have h_8 := ipos hc1043 h_7
      refine fw_tin (off := 216) 249 (show decode _ _ = .ok (.tableswitch 1800 0 41 #[183, 216, 259, 318, 351, 394, 417, 480, 503, 516, 539, 562, 605, 618, 631, 644, 667, 690, 723, 736, 759, 792, 855, 888, 980, 1060, 1103, 1146, 1179, 1232, 1302, 1372, 1442, 1501, 1534, 1567, 1610, 1679, 1692, 1751, 1764, 1777], 183) by decide +kernel) (by rw [hc1043]; decide) (by rw [hc1043]; decide) (by rw [hc1043]; rfl) (by decide) ?_
      refine FW.sub [0, 1, 2, 3] (ls' := [(0, .ref p0), (1, .ref p1), (2, .ref p2), (3, .int p3)]) rfl ?_
      exact sj_L_law_249 hd hK18 h_8
    have h_9 := ineg hc1043 h_7
    by_cases hc1044 : x1040 = (2 : Int32)
    · have h_10 := ipos hc1044 h_9
      refine fw_tin (off := 259) 292 (show decode _ _ = .ok (.tableswitch 1800 0 41 #[183, 216, 259, 318, 351, 394, 417, 480, 503, 516, 539, 562, 605, 618, 631, 644, 667, 690, 723, 736, 759, 792, 855, 888, 980, 1060, 1103, 1146, 1179, 1232, 1302, 1372, 1442, 1501, 1534, 1567, 1610, 1679, 1692, 1751, 1764, 1777], 183) by decide +kernel) (by rw [hc1044]; decide) (by rw [hc1044]; decide) (by rw [hc1044]; rfl) (by decide) ?_
      refine FW.sub [0, 1, 2, 3] (ls' := [(0, .ref p0), (1, .ref p1), (2, .ref p2), (3, .int p3)]) rfl ?_
      exact sj_L_law_292 hd hK18 h_10
    have h_11 := ineg hc1044 h_9
    by_cases hc1045 : x1040 = (3 : Int32)
    · have h_12 := ipos hc1045 h_11
      refine fw_tin (off := 318) 351 (show decode _ _ = .ok (.tableswitch 1800 0 41 #[183, 216, 259, 318, 351, 394, 417, 480, 503, 516, 539, 562, 605, 618, 631, 644, 667, 690, 723, 736, 759, 792, 855, 888, 980, 1060, 1103, 1146, 1179, 1232, 1302, 1372, 1442, 1501, 1534, 1567, 1610, 1679, 1692, 1751, 1764, 1777], 183) by decide +kernel) (by rw [hc1045]; decide) (by rw [hc1045]; decide) (by rw [hc1045]; rfl) (by decide) ?_
      refine FW.sub [0, 1, 2, 3] (ls' := [(0, .ref p0), (1, .ref p1), (2, .ref p2), (3, .int p3)]) rfl ?_
      exact sj_L_law_351 hd hK18 h_12
    have h_13 := ineg hc1045 h_11
    by_cases hc1046 : x1040 = (4 : Int32)
    · have h_14 := ipos hc1046 h_13
      refine fw_tin (off := 351) 384 (show decode _ _ = .ok (.tableswitch 1800 0 41 #[183, 216, 259, 318, 351, 394, 417, 480, 503, 516, 539, 562, 605, 618, 631, 644, 667, 690, 723, 736, 759, 792, 855, 888, 980, 1060, 1103, 1146, 1179, 1232, 1302, 1372, 1442, 1501, 1534, 1567, 1610, 1679, 1692, 1751, 1764, 1777], 183) by decide +kernel) (by rw [hc1046]; decide) (by rw [hc1046]; decide) (by rw [hc1046]; rfl) (by decide) ?_
      refine FW.sub [0, 1, 2, 3] (ls' := [(0, .ref p0), (1, .ref p1), (2, .ref p2), (3, .int p3)]) rfl ?_
      exact sj_L_law_384 hd hK18 h_14
    have h_15 := ineg hc1046 h_13
    by_cases hc1047 : x1040 = (5 : Int32)
    · have h_16 := ipos hc1047 h_15
      refine fw_tin (off := 394) 427 (show decode _ _ = .ok (.tableswitch 1800 0 41 #[183, 216, 259, 318, 351, 394, 417, 480, 503, 516, 539, 562, 605, 618, 631, 644, 667, 690, 723, 736, 759, 792, 855, 888, 980, 1060, 1103, 1146, 1179, 1232, 1302, 1372, 1442, 1501, 1534, 1567, 1610, 1679, 1692, 1751, 1764, 1777], 183) by decide +kernel) (by rw [hc1047]; decide) (by rw [hc1047]; decide) (by rw [hc1047]; rfl) (by decide) ?_
      refine FW.sub [0, 1, 2, 3] (ls' := [(0, .ref p0), (1, .ref p1), (2, .ref p2), (3, .int p3)]) rfl ?_
      exact sj_L_law_427 hd hK18 h_16
    have h_17 := ineg hc1047 h_15
    by_cases hc1048 : x1040 = (6 : Int32)
    · have h_18 := ipos hc1048 h_17
      refine fw_tin (off := 417) 450 (show decode _ _ = .ok (.tableswitch 1800 0 41 #[183, 216, 259, 318, 351, 394, 417, 480, 503, 516, 539, 562, 605, 618, 631, 644, 667, 690, 723, 736, 759, 792, 855, 888, 980, 1060, 1103, 1146, 1179, 1232, 1302, 1372, 1442, 1501, 1534, 1567, 1610, 1679, 1692, 1751, 1764, 1777], 183) by decide +kernel) (by rw [hc1048]; decide) (by rw [hc1048]; decide) (by rw [hc1048]; rfl) (by decide) ?_
      refine FW.sub [0, 1, 2, 3] (ls' := [(0, .ref p0), (1, .ref p1), (2, .ref p2), (3, .int p3)]) rfl ?_
      exact sj_L_law_450 hd hK18 h_18
    have h_19 := ineg hc1048 h_17
    by_cases hc1049 : x1040 = (7 : Int32)
    · have h_20 := ipos hc1049 h_19
      refine fw_tin (off := 480) 513 (show decode _ _ = .ok (.tableswitch 1800 0 41 #[183, 216, 259, 318, 351, 394, 417, 480, 503, 516, 539, 562, 605, 618, 631, 644, 667, 690, 723, 736, 759, 792, 855, 888, 980, 1060, 1103, 1146, 1179, 1232, 1302, 1372, 1442, 1501, 1534, 1567, 1610, 1679, 1692, 1751, 1764, 1777], 183) by decide +kernel) (by rw [hc1049]; decide) (by rw [hc1049]; decide) (by rw [hc1049]; rfl) (by decide) ?_
      refine FW.sub [0, 1, 2, 3] (ls' := [(0, .ref p0), (1, .ref p1), (2, .ref p2), (3, .int p3)]) rfl ?_
      exact sj_L_law_513 hd hK18 h_20
    have h_21 := ineg hc1049 h_19
    by_cases hc1050 : x1040 = (8 : Int32)
    · have h_22 := ipos hc1050 h_21
      refine fw_tin (off := 503) 536 (show decode _ _ = .ok (.tableswitch 1800 0 41 #[183, 216, 259, 318, 351, 394, 417, 480, 503, 516, 539, 562, 605, 618, 631, 644, 667, 690, 723, 736, 759, 792, 855, 888, 980, 1060, 1103, 1146, 1179, 1232, 1302, 1372, 1442, 1501, 1534, 1567, 1610, 1679, 1692, 1751, 1764, 1777], 183) by decide +kernel) (by rw [hc1050]; decide) (by rw [hc1050]; decide) (by rw [hc1050]; rfl) (by decide) ?_
      refine FW.sub [0, 1, 2, 3] (ls' := [(0, .ref p0), (1, .ref p1), (2, .ref p2), (3, .int p3)]) rfl ?_
      exact sj_L_law_536 hd hK18 h_22
    have h_23 := ineg hc1050 h_21
    by_cases hc1051 : x1040 = (9 : Int32)
    · have h_24 := ipos hc1051 h_23
      refine fw_tin (off := 516) 549 (show decode _ _ = .ok (.tableswitch 1800 0 41 #[183, 216, 259, 318, 351, 394, 417, 480, 503, 516, 539, 562, 605, 618, 631, 644, 667, 690, 723, 736, 759, 792, 855, 888, 980, 1060, 1103, 1146, 1179, 1232, 1302, 1372, 1442, 1501, 1534, 1567, 1610, 1679, 1692, 1751, 1764, 1777], 183) by decide +kernel) (by rw [hc1051]; decide) (by rw [hc1051]; decide) (by rw [hc1051]; rfl) (by decide) ?_
      refine FW.sub [0, 1, 2, 3] (ls' := [(0, .ref p0), (1, .ref p1), (2, .ref p2), (3, .int p3)]) rfl ?_
      exact sj_L_law_549 hd hK18 h_24
    have h_25 := ineg hc1051 h_23
    by_cases hc1052 : x1040 = (10 : Int32)
    · have h_26 := ipos hc1052 h_25
      refine fw_tin (off := 539) 572 (show decode _ _ = .ok (.tableswitch 1800 0 41 #[183, 216, 259, 318, 351, 394, 417, 480, 503, 516, 539, 562, 605, 618, 631, 644, 667, 690, 723, 736, 759, 792, 855, 888, 980, 1060, 1103, 1146, 1179, 1232, 1302, 1372, 1442, 1501, 1534, 1567, 1610, 1679, 1692, 1751, 1764, 1777], 183) by decide +kernel) (by rw [hc1052]; decide) (by rw [hc1052]; decide) (by rw [hc1052]; rfl) (by decide) ?_
      refine FW.sub [0, 1, 2, 3] (ls' := [(0, .ref p0), (1, .ref p1), (2, .ref p2), (3, .int p3)]) rfl ?_
      exact sj_L_law_572 hd hK18 h_26
    have h_27 := ineg hc1052 h_25
    by_cases hc1053 : x1040 = (11 : Int32)
    · have h_28 := ipos hc1053 h_27
      refine fw_tin (off := 562) 595 (show decode _ _ = .ok (.tableswitch 1800 0 41 #[183, 216, 259, 318, 351, 394, 417, 480, 503, 516, 539, 562, 605, 618, 631, 644, 667, 690, 723, 736, 759, 792, 855, 888, 980, 1060, 1103, 1146, 1179, 1232, 1302, 1372, 1442, 1501, 1534, 1567, 1610, 1679, 1692, 1751, 1764, 1777], 183) by decide +kernel) (by rw [hc1053]; decide) (by rw [hc1053]; decide) (by rw [hc1053]; rfl) (by decide) ?_
      refine FW.sub [0, 1, 2, 3] (ls' := [(0, .ref p0), (1, .ref p1), (2, .ref p2), (3, .int p3)]) rfl ?_
      exact sj_L_law_595 hd hK18 h_28
    have h_29 := ineg hc1053 h_27
    by_cases hc1054 : x1040 = (12 : Int32)
    · have h_30 := ipos hc1054 h_29
      refine fw_tin (off := 605) 638 (show decode _ _ = .ok (.tableswitch 1800 0 41 #[183, 216, 259, 318, 351, 394, 417, 480, 503, 516, 539, 562, 605, 618, 631, 644, 667, 690, 723, 736, 759, 792, 855, 888, 980, 1060, 1103, 1146, 1179, 1232, 1302, 1372, 1442, 1501, 1534, 1567, 1610, 1679, 1692, 1751, 1764, 1777], 183) by decide +kernel) (by rw [hc1054]; decide) (by rw [hc1054]; decide) (by rw [hc1054]; rfl) (by decide) ?_
      refine FW.sub [0, 1, 2, 3] (ls' := [(0, .ref p0), (1, .ref p1), (2, .ref p2), (3, .int p3)]) rfl ?_
      exact sj_L_law_638 hd hK18 h_30
    have h_31 := ineg hc1054 h_29
    by_cases hc1055 : x1040 = (13 : Int32)
    · have h_32 := ipos hc1055 h_31
      refine fw_tin (off := 618) 651 (show decode _ _ = .ok (.tableswitch 1800 0 41 #[183, 216, 259, 318, 351, 394, 417, 480, 503, 516, 539, 562, 605, 618, 631, 644, 667, 690, 723, 736, 759, 792, 855, 888, 980, 1060, 1103, 1146, 1179, 1232, 1302, 1372, 1442, 1501, 1534, 1567, 1610, 1679, 1692, 1751, 1764, 1777], 183) by decide +kernel) (by rw [hc1055]; decide) (by rw [hc1055]; decide) (by rw [hc1055]; rfl) (by decide) ?_
      refine FW.sub [0, 1, 2, 3] (ls' := [(0, .ref p0), (1, .ref p1), (2, .ref p2), (3, .int p3)]) rfl ?_
      exact sj_L_law_651 hd hK18 h_32
    have h_33 := ineg hc1055 h_31
    by_cases hc1056 : x1040 = (14 : Int32)
    · have h_34 := ipos hc1056 h_33
      refine fw_tin (off := 631) 664 (show decode _ _ = .ok (.tableswitch 1800 0 41 #[183, 216, 259, 318, 351, 394, 417, 480, 503, 516, 539, 562, 605, 618, 631, 644, 667, 690, 723, 736, 759, 792, 855, 888, 980, 1060, 1103, 1146, 1179, 1232, 1302, 1372, 1442, 1501, 1534, 1567, 1610, 1679, 1692, 1751, 1764, 1777], 183) by decide +kernel) (by rw [hc1056]; decide) (by rw [hc1056]; decide) (by rw [hc1056]; rfl) (by decide) ?_
      refine FW.sub [0, 1, 2, 3] (ls' := [(0, .ref p0), (1, .ref p1), (2, .ref p2), (3, .int p3)]) rfl ?_
      exact sj_L_law_664 hd hK18 h_34
    have h_35 := ineg hc1056 h_33
    by_cases hc1057 : x1040 = (15 : Int32)
    · have h_36 := ipos hc1057 h_35
      refine fw_tin (off := 644) 677 (show decode _ _ = .ok (.tableswitch 1800 0 41 #[183, 216, 259, 318, 351, 394, 417, 480, 503, 516, 539, 562, 605, 618, 631, 644, 667, 690, 723, 736, 759, 792, 855, 888, 980, 1060, 1103, 1146, 1179, 1232, 1302, 1372, 1442, 1501, 1534, 1567, 1610, 1679, 1692, 1751, 1764, 1777], 183) by decide +kernel) (by rw [hc1057]; decide) (by rw [hc1057]; decide) (by rw [hc1057]; rfl) (by decide) ?_
      refine FW.sub [0, 1, 2, 3] (ls' := [(0, .ref p0), (1, .ref p1), (2, .ref p2), (3, .int p3)]) rfl ?_
      exact sj_L_law_677 hd hK18 h_36
    have h_37 := ineg hc1057 h_35
    by_cases hc1058 : x1040 = (16 : Int32)
    · have h_38 := ipos hc1058 h_37
      refine fw_tin (off := 667) 700 (show decode _ _ = .ok (.tableswitch 1800 0 41 #[183, 216, 259, 318, 351, 394, 417, 480, 503, 516, 539, 562, 605, 618, 631, 644, 667, 690, 723, 736, 759, 792, 855, 888, 980, 1060, 1103, 1146, 1179, 1232, 1302, 1372, 1442, 1501, 1534, 1567, 1610, 1679, 1692, 1751, 1764, 1777], 183) by decide +kernel) (by rw [hc1058]; decide) (by rw [hc1058]; decide) (by rw [hc1058]; rfl) (by decide) ?_
      refine FW.sub [0, 1, 2, 3] (ls' := [(0, .ref p0), (1, .ref p1), (2, .ref p2), (3, .int p3)]) rfl ?_
      exact sj_L_law_700 hd hK18 h_38
    have h_39 := ineg hc1058 h_37
    by_cases hc1059 : x1040 = (17 : Int32)
    · have h_40 := ipos hc1059 h_39
      refine fw_tin (off := 690) 723 (show decode _ _ = .ok (.tableswitch 1800 0 41 #[183, 216, 259, 318, 351, 394, 417, 480, 503, 516, 539, 562, 605, 618, 631, 644, 667, 690, 723, 736, 759, 792, 855, 888, 980, 1060, 1103, 1146, 1179, 1232, 1302, 1372, 1442, 1501, 1534, 1567, 1610, 1679, 1692, 1751, 1764, 1777], 183) by decide +kernel) (by rw [hc1059]; decide) (by rw [hc1059]; decide) (by rw [hc1059]; rfl) (by decide) ?_
      refine FW.sub [0, 1, 2, 3] (ls' := [(0, .ref p0), (1, .ref p1), (2, .ref p2), (3, .int p3)]) rfl ?_
      exact sj_L_law_723 hd hK18 h_40
    have h_41 := ineg hc1059 h_39
    by_cases hc1060 : x1040 = (18 : Int32)
    · have h_42 := ipos hc1060 h_41
      refine fw_tin (off := 723) 756 (show decode _ _ = .ok (.tableswitch 1800 0 41 #[183, 216, 259, 318, 351, 394, 417, 480, 503, 516, 539, 562, 605, 618, 631, 644, 667, 690, 723, 736, 759, 792, 855, 888, 980, 1060, 1103, 1146, 1179, 1232, 1302, 1372, 1442, 1501, 1534, 1567, 1610, 1679, 1692, 1751, 1764, 1777], 183) by decide +kernel) (by rw [hc1060]; decide) (by rw [hc1060]; decide) (by rw [hc1060]; rfl) (by decide) ?_
      refine FW.sub [0, 1, 2, 3] (ls' := [(0, .ref p0), (1, .ref p1), (2, .ref p2), (3, .int p3)]) rfl ?_
      exact sj_L_law_756 hd hK18 h_42
    have h_43 := ineg hc1060 h_41
    by_cases hc1061 : x1040 = (19 : Int32)
    · have h_44 := ipos hc1061 h_43
      refine fw_tin (off := 736) 769 (show decode _ _ = .ok (.tableswitch 1800 0 41 #[183, 216, 259, 318, 351, 394, 417, 480, 503, 516, 539, 562, 605, 618, 631, 644, 667, 690, 723, 736, 759, 792, 855, 888, 980, 1060, 1103, 1146, 1179, 1232, 1302, 1372, 1442, 1501, 1534, 1567, 1610, 1679, 1692, 1751, 1764, 1777], 183) by decide +kernel) (by rw [hc1061]; decide) (by rw [hc1061]; decide) (by rw [hc1061]; rfl) (by decide) ?_
      refine FW.sub [0, 1, 2, 3] (ls' := [(0, .ref p0), (1, .ref p1), (2, .ref p2), (3, .int p3)]) rfl ?_
      exact sj_L_law_769 hd hK18 h_44
    have h_45 := ineg hc1061 h_43
    by_cases hc1062 : x1040 = (20 : Int32)
    · have h_46 := ipos hc1062 h_45
      refine fw_tin (off := 759) 792 (show decode _ _ = .ok (.tableswitch 1800 0 41 #[183, 216, 259, 318, 351, 394, 417, 480, 503, 516, 539, 562, 605, 618, 631, 644, 667, 690, 723, 736, 759, 792, 855, 888, 980, 1060, 1103, 1146, 1179, 1232, 1302, 1372, 1442, 1501, 1534, 1567, 1610, 1679, 1692, 1751, 1764, 1777], 183) by decide +kernel) (by rw [hc1062]; decide) (by rw [hc1062]; decide) (by rw [hc1062]; rfl) (by decide) ?_
      refine FW.sub [0, 1, 2, 3] (ls' := [(0, .ref p0), (1, .ref p1), (2, .ref p2), (3, .int p3)]) rfl ?_
      exact sj_L_law_792 hd hK18 h_46
    have h_47 := ineg hc1062 h_45
    by_cases hc1063 : x1040 = (21 : Int32)
    · have h_48 := ipos hc1063 h_47
      refine fw_tin (off := 792) 825 (show decode _ _ = .ok (.tableswitch 1800 0 41 #[183, 216, 259, 318, 351, 394, 417, 480, 503, 516, 539, 562, 605, 618, 631, 644, 667, 690, 723, 736, 759, 792, 855, 888, 980, 1060, 1103, 1146, 1179, 1232, 1302, 1372, 1442, 1501, 1534, 1567, 1610, 1679, 1692, 1751, 1764, 1777], 183) by decide +kernel) (by rw [hc1063]; decide) (by rw [hc1063]; decide) (by rw [hc1063]; rfl) (by decide) ?_
      refine FW.sub [0, 1, 2, 3] (ls' := [(0, .ref p0), (1, .ref p1), (2, .ref p2), (3, .int p3)]) rfl ?_
      exact sj_L_law_825 hd hK18 h_48
    have h_49 := ineg hc1063 h_47
    by_cases hc1064 : x1040 = (22 : Int32)
    · have h_50 := ipos hc1064 h_49
      refine fw_tin (off := 855) 888 (show decode _ _ = .ok (.tableswitch 1800 0 41 #[183, 216, 259, 318, 351, 394, 417, 480, 503, 516, 539, 562, 605, 618, 631, 644, 667, 690, 723, 736, 759, 792, 855, 888, 980, 1060, 1103, 1146, 1179, 1232, 1302, 1372, 1442, 1501, 1534, 1567, 1610, 1679, 1692, 1751, 1764, 1777], 183) by decide +kernel) (by rw [hc1064]; decide) (by rw [hc1064]; decide) (by rw [hc1064]; rfl) (by decide) ?_
      refine FW.sub [0, 1, 2, 3] (ls' := [(0, .ref p0), (1, .ref p1), (2, .ref p2), (3, .int p3)]) rfl ?_
      exact sj_L_law_888 hd hK18 h_50
    have h_51 := ineg hc1064 h_49
    by_cases hc1065 : x1040 = (23 : Int32)
    · have h_52 := ipos hc1065 h_51
      refine fw_tin (off := 888) 921 (show decode _ _ = .ok (.tableswitch 1800 0 41 #[183, 216, 259, 318, 351, 394, 417, 480, 503, 516, 539, 562, 605, 618, 631, 644, 667, 690, 723, 736, 759, 792, 855, 888, 980, 1060, 1103, 1146, 1179, 1232, 1302, 1372, 1442, 1501, 1534, 1567, 1610, 1679, 1692, 1751, 1764, 1777], 183) by decide +kernel) (by rw [hc1065]; decide) (by rw [hc1065]; decide) (by rw [hc1065]; rfl) (by decide) ?_
      refine FW.sub [0, 1, 2, 3] (ls' := [(0, .ref p0), (1, .ref p1), (2, .ref p2), (3, .int p3)]) rfl ?_
      exact sj_L_law_921 hd hK18 h_52
    have h_53 := ineg hc1065 h_51
    by_cases hc1066 : x1040 = (24 : Int32)
    · have h_54 := ipos hc1066 h_53
      refine fw_tin (off := 980) 1013 (show decode _ _ = .ok (.tableswitch 1800 0 41 #[183, 216, 259, 318, 351, 394, 417, 480, 503, 516, 539, 562, 605, 618, 631, 644, 667, 690, 723, 736, 759, 792, 855, 888, 980, 1060, 1103, 1146, 1179, 1232, 1302, 1372, 1442, 1501, 1534, 1567, 1610, 1679, 1692, 1751, 1764, 1777], 183) by decide +kernel) (by rw [hc1066]; decide) (by rw [hc1066]; decide) (by rw [hc1066]; rfl) (by decide) ?_
      refine FW.sub [0, 1, 2, 3] (ls' := [(0, .ref p0), (1, .ref p1), (2, .ref p2), (3, .int p3)]) rfl ?_
      exact sj_L_law_1013 hd hK18 h_54
    have h_55 := ineg hc1066 h_53
    by_cases hc1067 : x1040 = (25 : Int32)
    · have h_56 := ipos hc1067 h_55
      refine fw_tin (off := 1060) 1093 (show decode _ _ = .ok (.tableswitch 1800 0 41 #[183, 216, 259, 318, 351, 394, 417, 480, 503, 516, 539, 562, 605, 618, 631, 644, 667, 690, 723, 736, 759, 792, 855, 888, 980, 1060, 1103, 1146, 1179, 1232, 1302, 1372, 1442, 1501, 1534, 1567, 1610, 1679, 1692, 1751, 1764, 1777], 183) by decide +kernel) (by rw [hc1067]; decide) (by rw [hc1067]; decide) (by rw [hc1067]; rfl) (by decide) ?_
      refine FW.sub [0, 1, 2, 3] (ls' := [(0, .ref p0), (1, .ref p1), (2, .ref p2), (3, .int p3)]) rfl ?_
      exact sj_L_law_1093 hd hK18 h_56
    have h_57 := ineg hc1067 h_55
    by_cases hc1068 : x1040 = (26 : Int32)
    · have h_58 := ipos hc1068 h_57
      refine fw_tin (off := 1103) 1136 (show decode _ _ = .ok (.tableswitch 1800 0 41 #[183, 216, 259, 318, 351, 394, 417, 480, 503, 516, 539, 562, 605, 618, 631, 644, 667, 690, 723, 736, 759, 792, 855, 888, 980, 1060, 1103, 1146, 1179, 1232, 1302, 1372, 1442, 1501, 1534, 1567, 1610, 1679, 1692, 1751, 1764, 1777], 183) by decide +kernel) (by rw [hc1068]; decide) (by rw [hc1068]; decide) (by rw [hc1068]; rfl) (by decide) ?_
      refine FW.sub [0, 1, 2, 3] (ls' := [(0, .ref p0), (1, .ref p1), (2, .ref p2), (3, .int p3)]) rfl ?_
      exact sj_L_law_1136 hd hK18 h_58
    have h_59 := ineg hc1068 h_57
    by_cases hc1069 : x1040 = (27 : Int32)
    · have h_60 := ipos hc1069 h_59
      refine fw_tin (off := 1146) 1179 (show decode _ _ = .ok (.tableswitch 1800 0 41 #[183, 216, 259, 318, 351, 394, 417, 480, 503, 516, 539, 562, 605, 618, 631, 644, 667, 690, 723, 736, 759, 792, 855, 888, 980, 1060, 1103, 1146, 1179, 1232, 1302, 1372, 1442, 1501, 1534, 1567, 1610, 1679, 1692, 1751, 1764, 1777], 183) by decide +kernel) (by rw [hc1069]; decide) (by rw [hc1069]; decide) (by rw [hc1069]; rfl) (by decide) ?_
      refine FW.sub [0, 1, 2, 3] (ls' := [(0, .ref p0), (1, .ref p1), (2, .ref p2), (3, .int p3)]) rfl ?_
      exact sj_L_law_1179 hd hK18 h_60
    have h_61 := ineg hc1069 h_59
    by_cases hc1070 : x1040 = (28 : Int32)
    · have h_62 := ipos hc1070 h_61
      refine fw_tin (off := 1179) 1212 (show decode _ _ = .ok (.tableswitch 1800 0 41 #[183, 216, 259, 318, 351, 394, 417, 480, 503, 516, 539, 562, 605, 618, 631, 644, 667, 690, 723, 736, 759, 792, 855, 888, 980, 1060, 1103, 1146, 1179, 1232, 1302, 1372, 1442, 1501, 1534, 1567, 1610, 1679, 1692, 1751, 1764, 1777], 183) by decide +kernel) (by rw [hc1070]; decide) (by rw [hc1070]; decide) (by rw [hc1070]; rfl) (by decide) ?_
      refine FW.sub [0, 1, 2, 3] (ls' := [(0, .ref p0), (1, .ref p1), (2, .ref p2), (3, .int p3)]) rfl ?_
      exact sj_L_law_1212 hd hK18 h_62
    have h_63 := ineg hc1070 h_61
    by_cases hc1071 : x1040 = (29 : Int32)
    · have h_64 := ipos hc1071 h_63
      refine fw_tin (off := 1232) 1265 (show decode _ _ = .ok (.tableswitch 1800 0 41 #[183, 216, 259, 318, 351, 394, 417, 480, 503, 516, 539, 562, 605, 618, 631, 644, 667, 690, 723, 736, 759, 792, 855, 888, 980, 1060, 1103, 1146, 1179, 1232, 1302, 1372, 1442, 1501, 1534, 1567, 1610, 1679, 1692, 1751, 1764, 1777], 183) by decide +kernel) (by rw [hc1071]; decide) (by rw [hc1071]; decide) (by rw [hc1071]; rfl) (by decide) ?_
      refine FW.sub [0, 1, 2, 3] (ls' := [(0, .ref p0), (1, .ref p1), (2, .ref p2), (3, .int p3)]) rfl ?_
      exact sj_L_law_1265 hd hK18 h_64
    have h_65 := ineg hc1071 h_63
    by_cases hc1072 : x1040 = (30 : Int32)
    · have h_66 := ipos hc1072 h_65
      refine fw_tin (off := 1302) 1335 (show decode _ _ = .ok (.tableswitch 1800 0 41 #[183, 216, 259, 318, 351, 394, 417, 480, 503, 516, 539, 562, 605, 618, 631, 644, 667, 690, 723, 736, 759, 792, 855, 888, 980, 1060, 1103, 1146, 1179, 1232, 1302, 1372, 1442, 1501, 1534, 1567, 1610, 1679, 1692, 1751, 1764, 1777], 183) by decide +kernel) (by rw [hc1072]; decide) (by rw [hc1072]; decide) (by rw [hc1072]; rfl) (by decide) ?_
      refine FW.sub [0, 1, 2, 3] (ls' := [(0, .ref p0), (1, .ref p1), (2, .ref p2), (3, .int p3)]) rfl ?_
      exact sj_L_law_1335 hd hK18 h_66
    have h_67 := ineg hc1072 h_65
    by_cases hc1073 : x1040 = (31 : Int32)
    · have h_68 := ipos hc1073 h_67
      refine fw_tin (off := 1372) 1405 (show decode _ _ = .ok (.tableswitch 1800 0 41 #[183, 216, 259, 318, 351, 394, 417, 480, 503, 516, 539, 562, 605, 618, 631, 644, 667, 690, 723, 736, 759, 792, 855, 888, 980, 1060, 1103, 1146, 1179, 1232, 1302, 1372, 1442, 1501, 1534, 1567, 1610, 1679, 1692, 1751, 1764, 1777], 183) by decide +kernel) (by rw [hc1073]; decide) (by rw [hc1073]; decide) (by rw [hc1073]; rfl) (by decide) ?_
      refine FW.sub [0, 1, 2, 3] (ls' := [(0, .ref p0), (1, .ref p1), (2, .ref p2), (3, .int p3)]) rfl ?_
      exact sj_L_law_1405 hd hK18 h_68
    have h_69 := ineg hc1073 h_67
    by_cases hc1074 : x1040 = (32 : Int32)
    · have h_70 := ipos hc1074 h_69
      refine fw_tin (off := 1442) 1475 (show decode _ _ = .ok (.tableswitch 1800 0 41 #[183, 216, 259, 318, 351, 394, 417, 480, 503, 516, 539, 562, 605, 618, 631, 644, 667, 690, 723, 736, 759, 792, 855, 888, 980, 1060, 1103, 1146, 1179, 1232, 1302, 1372, 1442, 1501, 1534, 1567, 1610, 1679, 1692, 1751, 1764, 1777], 183) by decide +kernel) (by rw [hc1074]; decide) (by rw [hc1074]; decide) (by rw [hc1074]; rfl) (by decide) ?_
      refine FW.sub [0, 1, 2, 3] (ls' := [(0, .ref p0), (1, .ref p1), (2, .ref p2), (3, .int p3)]) rfl ?_
      exact sj_L_law_1475 hd hK18 h_70
    have h_71 := ineg hc1074 h_69
    by_cases hc1075 : x1040 = (33 : Int32)
    · have h_72 := ipos hc1075 h_71
      refine fw_tin (off := 1501) 1534 (show decode _ _ = .ok (.tableswitch 1800 0 41 #[183, 216, 259, 318, 351, 394, 417, 480, 503, 516, 539, 562, 605, 618, 631, 644, 667, 690, 723, 736, 759, 792, 855, 888, 980, 1060, 1103, 1146, 1179, 1232, 1302, 1372, 1442, 1501, 1534, 1567, 1610, 1679, 1692, 1751, 1764, 1777], 183) by decide +kernel) (by rw [hc1075]; decide) (by rw [hc1075]; decide) (by rw [hc1075]; rfl) (by decide) ?_
      refine FW.sub [0, 1, 2, 3] (ls' := [(0, .ref p0), (1, .ref p1), (2, .ref p2), (3, .int p3)]) rfl ?_
      exact sj_L_law_1534 hd hK18 h_72
    have h_73 := ineg hc1075 h_71
    by_cases hc1076 : x1040 = (34 : Int32)
    · have h_74 := ipos hc1076 h_73
      refine fw_tin (off := 1534) 1567 (show decode _ _ = .ok (.tableswitch 1800 0 41 #[183, 216, 259, 318, 351, 394, 417, 480, 503, 516, 539, 562, 605, 618, 631, 644, 667, 690, 723, 736, 759, 792, 855, 888, 980, 1060, 1103, 1146, 1179, 1232, 1302, 1372, 1442, 1501, 1534, 1567, 1610, 1679, 1692, 1751, 1764, 1777], 183) by decide +kernel) (by rw [hc1076]; decide) (by rw [hc1076]; decide) (by rw [hc1076]; rfl) (by decide) ?_
      refine FW.sub [0, 1, 2, 3] (ls' := [(0, .ref p0), (1, .ref p1), (2, .ref p2), (3, .int p3)]) rfl ?_
      exact sj_L_law_1567 hd hK18 h_74
    have h_75 := ineg hc1076 h_73
    by_cases hc1077 : x1040 = (35 : Int32)
    · have h_76 := ipos hc1077 h_75
      refine fw_tin (off := 1567) 1600 (show decode _ _ = .ok (.tableswitch 1800 0 41 #[183, 216, 259, 318, 351, 394, 417, 480, 503, 516, 539, 562, 605, 618, 631, 644, 667, 690, 723, 736, 759, 792, 855, 888, 980, 1060, 1103, 1146, 1179, 1232, 1302, 1372, 1442, 1501, 1534, 1567, 1610, 1679, 1692, 1751, 1764, 1777], 183) by decide +kernel) (by rw [hc1077]; decide) (by rw [hc1077]; decide) (by rw [hc1077]; rfl) (by decide) ?_
      refine FW.sub [0, 1, 2, 3] (ls' := [(0, .ref p0), (1, .ref p1), (2, .ref p2), (3, .int p3)]) rfl ?_
      exact sj_L_law_1600 hd hK18 h_76
    have h_77 := ineg hc1077 h_75
    by_cases hc1078 : x1040 = (36 : Int32)
    · have h_78 := ipos hc1078 h_77
      refine fw_tin (off := 1610) 1643 (show decode _ _ = .ok (.tableswitch 1800 0 41 #[183, 216, 259, 318, 351, 394, 417, 480, 503, 516, 539, 562, 605, 618, 631, 644, 667, 690, 723, 736, 759, 792, 855, 888, 980, 1060, 1103, 1146, 1179, 1232, 1302, 1372, 1442, 1501, 1534, 1567, 1610, 1679, 1692, 1751, 1764, 1777], 183) by decide +kernel) (by rw [hc1078]; decide) (by rw [hc1078]; decide) (by rw [hc1078]; rfl) (by decide) ?_
      refine FW.sub [0, 1, 2, 3] (ls' := [(0, .ref p0), (1, .ref p1), (2, .ref p2), (3, .int p3)]) rfl ?_
      exact sj_L_law_1643 hd hK18 h_78
    have h_79 := ineg hc1078 h_77
    by_cases hc1079 : x1040 = (37 : Int32)
    · have h_80 := ipos hc1079 h_79
      refine fw_tin (off := 1679) 1712 (show decode _ _ = .ok (.tableswitch 1800 0 41 #[183, 216, 259, 318, 351, 394, 417, 480, 503, 516, 539, 562, 605, 618, 631, 644, 667, 690, 723, 736, 759, 792, 855, 888, 980, 1060, 1103, 1146, 1179, 1232, 1302, 1372, 1442, 1501, 1534, 1567, 1610, 1679, 1692, 1751, 1764, 1777], 183) by decide +kernel) (by rw [hc1079]; decide) (by rw [hc1079]; decide) (by rw [hc1079]; rfl) (by decide) ?_
      refine FW.sub [0, 1, 2, 3] (ls' := [(0, .ref p0), (1, .ref p1), (2, .ref p2), (3, .int p3)]) rfl ?_
      exact sj_L_law_1712 hd hK18 h_80
    have h_81 := ineg hc1079 h_79
    by_cases hc1080 : x1040 = (38 : Int32)
    · have h_82 := ipos hc1080 h_81
      refine fw_tin (off := 1692) 1725 (show decode _ _ = .ok (.tableswitch 1800 0 41 #[183, 216, 259, 318, 351, 394, 417, 480, 503, 516, 539, 562, 605, 618, 631, 644, 667, 690, 723, 736, 759, 792, 855, 888, 980, 1060, 1103, 1146, 1179, 1232, 1302, 1372, 1442, 1501, 1534, 1567, 1610, 1679, 1692, 1751, 1764, 1777], 183) by decide +kernel) (by rw [hc1080]; decide) (by rw [hc1080]; decide) (by rw [hc1080]; rfl) (by decide) ?_
      refine FW.sub [0, 1, 2, 3] (ls' := [(0, .ref p0), (1, .ref p1), (2, .ref p2), (3, .int p3)]) rfl ?_
      exact sj_L_law_1725 hd hK18 h_82
    have h_83 := ineg hc1080 h_81
    by_cases hc1081 : x1040 = (39 : Int32)
    · have h_84 := ipos hc1081 h_83
      refine fw_tin (off := 1751) 1784 (show decode _ _ = .ok (.tableswitch 1800 0 41 #[183, 216, 259, 318, 351, 394, 417, 480, 503, 516, 539, 562, 605, 618, 631, 644, 667, 690, 723, 736, 759, 792, 855, 888, 980, 1060, 1103, 1146, 1179, 1232, 1302, 1372, 1442, 1501, 1534, 1567, 1610, 1679, 1692, 1751, 1764, 1777], 183) by decide +kernel) (by rw [hc1081]; decide) (by rw [hc1081]; decide) (by rw [hc1081]; rfl) (by decide) ?_
      refine FW.sub [0, 1, 2, 3] (ls' := [(0, .ref p0), (1, .ref p1), (2, .ref p2), (3, .int p3)]) rfl ?_
      exact sj_L_law_1784 hd hK18 h_84
    have h_85 := ineg hc1081 h_83
    by_cases hc1082 : x1040 = (40 : Int32)
    · have h_86 := ipos hc1082 h_85
      refine fw_tin (off := 1764) 1797 (show decode _ _ = .ok (.tableswitch 1800 0 41 #[183, 216, 259, 318, 351, 394, 417, 480, 503, 516, 539, 562, 605, 618, 631, 644, 667, 690, 723, 736, 759, 792, 855, 888, 980, 1060, 1103, 1146, 1179, 1232, 1302, 1372, 1442, 1501, 1534, 1567, 1610, 1679, 1692, 1751, 1764, 1777], 183) by decide +kernel) (by rw [hc1082]; decide) (by rw [hc1082]; decide) (by rw [hc1082]; rfl) (by decide) ?_
      refine FW.sub [0, 1, 2, 3] (ls' := [(0, .ref p0), (1, .ref p1), (2, .ref p2), (3, .int p3)]) rfl ?_
      exact sj_L_law_1797 hd hK18 h_86
    have h_87 := ineg hc1082 h_85
    by_cases hc1083 : x1040 = (41 : Int32)
    · have h_88 := ipos hc1083 h_87
      refine fw_tin (off := 1777) 1810 (show decode _ _ = .ok (.tableswitch 1800 0 41 #[183, 216, 259, 318, 351, 394, 417, 480, 503, 516, 539, 562, 605, 618, 631, 644, 667, 690, 723, 736, 759, 792, 855, 888, 980, 1060, 1103, 1146, 1179, 1232, 1302, 1372, 1442, 1501, 1534, 1567, 1610, 1679, 1692, 1751, 1764, 1777], 183) by decide +kernel) (by rw [hc1083]; decide) (by rw [hc1083]; decide) (by rw [hc1083]; rfl) (by decide) ?_
      refine FW.sub [0, 1, 2, 3] (ls' := [(0, .ref p0), (1, .ref p1), (2, .ref p2), (3, .int p3)]) rfl ?_
      exact sj_L_law_1810 hd hK18 h_88
    have h_89 := ineg hc1083 h_87
    by_cases ho1084 : Int32.toInt x1040 < 0 ∨ 41 < Int32.toInt x1040
    · refine fw_tout 1833 (show decode _ _ = .ok (.tableswitch 1800 0 41 #[183, 216, 259, 318, 351, 394, 417, 480, 503, 516, 539, 562, 605, 618, 631, 644, 667, 690, 723, 736, 759, 792, 855, 888, 980, 1060, 1103, 1146, 1179, 1232, 1302, 1372, 1442, 1501, 1534, 1567, 1610, 1679, 1692, 1751, 1764, 1777], 183) by decide +kernel) ho1084 (by decide) ?_
      refine FW.sub [0, 1, 2, 3] (ls' := [(0, .ref p0), (1, .ref p1), (2, .ref p2), (3, .int p3)]) rfl ?_
      refine FW.room (bc' := Bc) (bs' := Bs) (by first | exact Nat.le_refl _ | exact Nat.le_add_right _ _ | exact Nat.zero_le _ | exact Nat.le_add_left _ _ | exact Nat.le_of_eq (Nat.add_sub_cancel).symm | decide) (by first | exact Nat.le_refl _ | exact Nat.le_add_right _ _ | exact Nat.zero_le _ | exact Nat.le_add_left _ _ | exact Nat.le_of_eq (Nat.add_sub_cancel).symm | decide) ?_
      exact sj_L_law_1833 hd hK18 h_89
    have e1085 := tsx_0_41 (Int32.toInt x1040) ho1084
    rcases e1085 with e1085 | e1085 | e1085 | e1085 | e1085 | e1085 | e1085 | e1085 | e1085 | e1085 | e1085 | e1085 | e1085 | e1085 | e1085 | e1085 | e1085 | e1085 | e1085 | e1085 | e1085 | e1085 | e1085 | e1085 | e1085 | e1085 | e1085 | e1085 | e1085 | e1085 | e1085 | e1085 | e1085 | e1085 | e1085 | e1085 | e1085 | e1085 | e1085 | e1085 | e1085 | e1085
    · exact absurd (Int32.toInt_inj.mp (Eq.trans e1085 rfl)) hc1042
    · exact absurd (Int32.toInt_inj.mp (Eq.trans e1085 rfl)) hc1043
    · exact absurd (Int32.toInt_inj.mp (Eq.trans e1085 rfl)) hc1044
    · exact absurd (Int32.toInt_inj.mp (Eq.trans e1085 rfl)) hc1045
    · exact absurd (Int32.toInt_inj.mp (Eq.trans e1085 rfl)) hc1046
    · exact absurd (Int32.toInt_inj.mp (Eq.trans e1085 rfl)) hc1047
    · exact absurd (Int32.toInt_inj.mp (Eq.trans e1085 rfl)) hc1048
    · exact absurd (Int32.toInt_inj.mp (Eq.trans e1085 rfl)) hc1049
    · exact absurd (Int32.toInt_inj.mp (Eq.trans e1085 rfl)) hc1050
    · exact absurd (Int32.toInt_inj.mp (Eq.trans e1085 rfl)) hc1051
    · exact absurd (Int32.toInt_inj.mp (Eq.trans e1085 rfl)) hc1052
    · exact absurd (Int32.toInt_inj.mp (Eq.trans e1085 rfl)) hc1053
    · exact absurd (Int32.toInt_inj.mp (Eq.trans e1085 rfl)) hc1054
    · exact absurd (Int32.toInt_inj.mp (Eq.trans e1085 rfl)) hc1055
    · exact absurd (Int32.toInt_inj.mp (Eq.trans e1085 rfl)) hc1056
    · exact absurd (Int32.toInt_inj.mp (Eq.trans e1085 rfl)) hc1057
    · exact absurd (Int32.toInt_inj.mp (Eq.trans e1085 rfl)) hc1058
    · exact absurd (Int32.toInt_inj.mp (Eq.trans e1085 rfl)) hc1059
    · exact absurd (Int32.toInt_inj.mp (Eq.trans e1085 rfl)) hc1060
    · exact absurd (Int32.toInt_inj.mp (Eq.trans e1085 rfl)) hc1061
    · exact absurd (Int32.toInt_inj.mp (Eq.trans e1085 rfl)) hc1062
    · exact absurd (Int32.toInt_inj.mp (Eq.trans e1085 rfl)) hc1063
    · exact absurd (Int32.toInt_inj.mp (Eq.trans e1085 rfl)) hc1064
    · exact absurd (Int32.toInt_inj.mp (Eq.trans e1085 rfl)) hc1065
    · exact absurd (Int32.toInt_inj.mp (Eq.trans e1085 rfl)) hc1066
    · exact absurd (Int32.toInt_inj.mp (Eq.trans e1085 rfl)) hc1067
    · exact absurd (Int32.toInt_inj.mp (Eq.trans e1085 rfl)) hc1068
    · exact absurd (Int32.toInt_inj.mp (Eq.trans e1085 rfl)) hc1069
    · exact absurd (Int32.toInt_inj.mp (Eq.trans e1085 rfl)) hc1070
    · exact absurd (Int32.toInt_inj.mp (Eq.trans e1085 rfl)) hc1071
    · exact absurd (Int32.toInt_inj.mp (Eq.trans e1085 rfl)) hc1072
    · exact absurd (Int32.toInt_inj.mp (Eq.trans e1085 rfl)) hc1073
    · exact absurd (Int32.toInt_inj.mp (Eq.trans e1085 rfl)) hc1074
    · exact absurd (Int32.toInt_inj.mp (Eq.trans e1085 rfl)) hc1075
    · exact absurd (Int32.toInt_inj.mp (Eq.trans e1085 rfl)) hc1076
    · exact absurd (Int32.toInt_inj.mp (Eq.trans e1085 rfl)) hc1077
    · exact absurd (Int32.toInt_inj.mp (Eq.trans e1085 rfl)) hc1078
    · exact absurd (Int32.toInt_inj.mp (Eq.trans e1085 rfl)) hc1079
    · exact absurd (Int32.toInt_inj.mp (Eq.trans e1085 rfl)) hc1080
    · exact absurd (Int32.toInt_inj.mp (Eq.trans e1085 rfl)) hc1081
    · exact absurd (Int32.toInt_inj.mp (Eq.trans e1085 rfl)) hc1082
    · exact absurd (Int32.toInt_inj.mp (Eq.trans e1085 rfl)) hc1083
theorem sl_L_law_18 {g : GT} {d : Nat} (hd : 80 ≤ d + 1) {φ : Int32 → fM → Prop} : ∀ (n : Nat) {p0 : Nat} {p1 : Nat} {p2 : Nat} {p3 : Int32} {M : fM}, l_L_law_18 φ n p0 p1 p2 p3 M → FW g mtL_law (d + 1) 18 [(0, .ref p0), (1, .ref p1), (2, .ref p2), (3, .int p3)] [] M (n * 11) (n * 3005) (rI φ)
  | 0 => fun h => h.elim
  | n + 1 => fun h => FW.room (Nat.le_of_eq (Nat.succ_mul n 11).symm) (Nat.le_of_eq (Nat.succ_mul n 3005).symm) (sb_L_law_18 (Bc := n * 11) (Bs := n * 3005) hd (fun _ _ _ _ _ h => sl_L_law_18 hd n h) h)
def w_L_law (p0 : Nat) (M : fM) (φ : Int32 → fM → Prop) : Prop := nw M 10 8 fun q1087 M1089 => w_X10_init q1087 M1089 fun M1091 => nw M1091 11 32 fun q1092 M1094 => w_X11_init q1092 M1094 fun M1096 => ∃ n, n ≤ 513 ∧ l_L_law_18 φ n p0 q1087 q1092 (0 : Int32) M1096
set_option maxRecDepth 100000 in
theorem s_L_law {g : GT} {d : Nat} (hd : 80 ≤ d + 1) {p0 : Nat} {M : fM} {φ : Int32 → fM → Prop} (h : w_L_law p0 M φ) : FW g mtL_law (d + 1) 0 [(0, .ref p0)] [] M 5719 1559294 (rI φ) := by
  unfold w_L_law at h
  refine fw_new (kd := 10) (len := 8) (show decode _ _ = .ok (.new 7, 3) by decide +kernel) cl_L_7 (by decide) (by decide) ?_
  refine FW.room (bc' := 5718) (bs' := 1559286) (by decide) (by decide) ?_
  refine FW.nmN (fun q1087 eq1088 => ?_)
  refine FW.nmM (fun M1089 eM1090 => ?_)
  have h_1 := h q1087 M1089 eq1088 eM1090
  refine fw_dup (show decode _ _ = .ok (.dup, 1) by decide +kernel) rfl ?_
  refine fw_callI (mt' := mtX10_init) (mc := 63) (ms := 7952) (As := []) (rest := [.ref q1087]) 0 (show decode _ _ = .ok (.invokespecial 9, 3) by decide +kernel) ci_L_9 rfl (Nat.le_of_ble_eq_true rfl) (s_X10_init (d := d) (hd_le hd (by decide)) h_1) (by first | exact Nat.le_refl _ | exact Nat.le_add_right _ _ | exact Nat.zero_le _ | exact Nat.le_add_left _ _ | exact Nat.le_of_eq (Nat.add_sub_cancel).symm | decide) (by first | exact Nat.le_refl _ | exact Nat.le_add_right _ _ | exact Nat.zero_le _ | exact Nat.le_add_left _ _ | exact Nat.le_of_eq (Nat.add_sub_cancel).symm | decide) (kV (bc' := 5655) (bs' := 1551334) (by first | exact Nat.le_refl _ | exact Nat.le_add_right _ _ | exact Nat.zero_le _ | exact Nat.le_add_left _ _ | exact Nat.le_of_eq (Nat.add_sub_cancel).symm | decide) (by first | exact Nat.le_refl _ | exact Nat.le_add_right _ _ | exact Nat.zero_le _ | exact Nat.le_add_left _ _ | exact Nat.le_of_eq (Nat.add_sub_cancel).symm | decide) (fun M1091 h_2 => ?_))
  refine fw_astore_n (i := 1) (ls' := [(1, .ref q1087), (0, .ref p0)]) (show decode _ _ = .ok (.astore_n 1, 1) by decide +kernel) (by decide) rfl ?_
  refine fw_new (kd := 11) (len := 32) (show decode _ _ = .ok (.new 10, 3) by decide +kernel) cl_L_10 (by decide) (by decide) ?_
  refine FW.room (bc' := 5654) (bs' := 1551302) (by decide) (by decide) ?_
  refine FW.nmN (fun q1092 eq1093 => ?_)
  refine FW.nmM (fun M1094 eM1095 => ?_)
  have h_3 := h_2 q1092 M1094 eq1093 eM1095
  refine fw_dup (show decode _ _ = .ok (.dup, 1) by decide +kernel) rfl ?_
  refine fw_callI (mt' := mtX11_init) (mc := 11) (ms := 9737) (As := []) (rest := [.ref q1092]) 0 (show decode _ _ = .ok (.invokespecial 12, 3) by decide +kernel) ci_L_12 rfl (Nat.le_of_ble_eq_true rfl) (s_X11_init (d := d) (hd_le hd (by decide)) h_3) (by first | exact Nat.le_refl _ | exact Nat.le_add_right _ _ | exact Nat.zero_le _ | exact Nat.le_add_left _ _ | exact Nat.le_of_eq (Nat.add_sub_cancel).symm | decide) (by first | exact Nat.le_refl _ | exact Nat.le_add_right _ _ | exact Nat.zero_le _ | exact Nat.le_add_left _ _ | exact Nat.le_of_eq (Nat.add_sub_cancel).symm | decide) (kV (bc' := 5643) (bs' := 1541565) (by first | exact Nat.le_refl _ | exact Nat.le_add_right _ _ | exact Nat.zero_le _ | exact Nat.le_add_left _ _ | exact Nat.le_of_eq (Nat.add_sub_cancel).symm | decide) (by first | exact Nat.le_refl _ | exact Nat.le_add_right _ _ | exact Nat.zero_le _ | exact Nat.le_add_left _ _ | exact Nat.le_of_eq (Nat.add_sub_cancel).symm | decide) (fun M1096 h_4 => ?_))
  refine fw_astore_n (i := 2) (ls' := [(2, .ref q1092), (1, .ref q1087), (0, .ref p0)]) (show decode _ _ = .ok (.astore_n 2, 1) by decide +kernel) (by decide) rfl ?_
  refine fw_iconst (v := (0 : Int32)) (show decode _ _ = .ok (.iconst 0, 1) by decide +kernel) (by decide) ?_
  refine fw_istore_n (i := 3) (ls' := [(3, .int (0 : Int32)), (2, .ref q1092), (1, .ref q1087), (0, .ref p0)]) (show decode _ _ = .ok (.istore_n 3, 1) by decide +kernel) (by decide) rfl ?_
  refine FW.sub [3, 2, 1, 0] (ls' := [(0, .ref p0), (1, .ref q1087), (2, .ref q1092), (3, .int (0 : Int32))]) rfl ?_
  obtain ⟨nn, hn, h_5⟩ := h_4
  refine FW.room (bc' := nn * 11) (bs' := nn * 3005) (Nat.mul_le_mul_right 11 hn) (Nat.mul_le_mul_right 3005 hn) ?_
  exact sl_L_law_18 hd nn h_5
