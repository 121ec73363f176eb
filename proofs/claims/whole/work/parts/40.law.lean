def j_L_law_1776 (K18 : Nat → Nat → Nat → Int32 → fM → Prop) (φ : Int32 → fM → Prop) (p0 : Nat) (p1 : Nat) (p2 : Nat) (p3 : Int32) (s0 : Int32) (s1 : Int32) (s2 : Int32) (s3 : Nat) (s4 : Int32) (M : fM) : Prop := isO M s3 11 ∧ w_X11_alike s3 s2 s1 s0 M fun x5 M1 => iF (s4 = x5) (nm (p3 + (7 : Int32)) fun x6 => K18 p0 p1 p2 x6 M1) (φ (0 : Int32) M1)
set_option maxRecDepth 100000 in
theorem sj_L_law_1776 {g : GT} {d Bc Bs : Nat} (hd : 80 ≤ d + 1) {K18 : Nat → Nat → Nat → Int32 → fM → Prop} {φ : Int32 → fM → Prop} (hK18 : ∀ (p0 : Nat) (p1 : Nat) (p2 : Nat) (p3 : Int32) (M : fM), K18 p0 p1 p2 p3 M → FW g mtL_law (d + 1) 18 [(0, .ref p0), (1, .ref p1), (2, .ref p2), (3, .int p3)] [] M Bc Bs (rI φ)) {p0 : Nat} {p1 : Nat} {p2 : Nat} {p3 : Int32} {s0 : Int32} {s1 : Int32} {s2 : Int32} {s3 : Nat} {s4 : Int32} {M : fM} (h : j_L_law_1776 K18 φ p0 p1 p2 p3 s0 s1 s2 s3 s4 M) : FW g mtL_law (d + 1) 1776 [(0, .ref p0), (1, .ref p1), (2, .ref p2), (3, .int p3)] [.int s0, .int s1, .int s2, .ref s3, .int s4] M Bc Bs (rI φ) := by
  unfold j_L_law_1776 at h
  obtain ⟨⟨hr3, n2, hs4⟩, h_1⟩ := h
  refine fw_callV (mt' := mtX11_alike) (mc := 0) (ms := 0) (As := [.int s2, .int s1, .int s0]) (rest := [.int s4]) 3 11 n2 (show decode _ _ = .ok (.invokevirtual 183, 3) by decide +kernel) cv_L_183 ⟨_, rfl, rfl⟩ hr3 hs4 rfl (Nat.le_of_ble_eq_true rfl) (s_X11_alike (d := d) (hd_le hd (by decide)) h_1) (by first | exact Nat.le_refl _ | exact Nat.le_add_right _ _ | exact Nat.zero_le _ | exact Nat.le_add_left _ _ | exact Nat.le_of_eq (Nat.add_sub_cancel).symm | decide) (by first | exact Nat.le_refl _ | exact Nat.le_add_right _ _ | exact Nat.zero_le _ | exact Nat.le_add_left _ _ | exact Nat.le_of_eq (Nat.add_sub_cancel).symm | decide) (kI (bc' := Bc) (bs' := Bs) (by first | exact Nat.le_refl _ | exact Nat.le_add_right _ _ | exact Nat.zero_le _ | exact Nat.le_add_left _ _ | exact Nat.le_of_eq (Nat.add_sub_cancel).symm | decide) (by first | exact Nat.le_refl _ | exact Nat.le_add_right _ _ | exact Nat.zero_le _ | exact Nat.le_add_left _ _ | exact Nat.le_of_eq (Nat.add_sub_cancel).symm | decide) (fun x5 M1 h_2 => ?_))
  refine fw_icmp_eq 1833 (show decode _ _ = .ok (.if_icmp .eq 54, 3) by decide +kernel) (by decide) (fun hc8 => ?_) (fun hc8 => ?_)
  · have h_3 := ipos hc8 h_2
    obtain ⟨x6, ex7⟩ : ∃ y : Int32, y = p3 + (7 : Int32) := ⟨_, rfl⟩
    have h_4 := h_3 x6 ex7
    refine fw_iinc (i := 3) (x := p3) (v := x6) (ls' := [(3, .int x6), (0, .ref p0), (1, .ref p1), (2, .ref p2)]) 3 rfl (show decode _ _ = .ok (.iinc 3 7, 3) by decide +kernel) (by rw [ex7]; rfl) (by decide) rfl ?_
    refine fw_goto 18 (show decode _ _ = .ok (.goto (-1818), 3) by decide +kernel) (by decide) ?_
    refine FW.sub [1, 2, 3, 0] (ls' := [(0, .ref p0), (1, .ref p1), (2, .ref p2), (3, .int x6)]) rfl ?_
    exact hK18 _ _ _ _ _ h_4
  · have h_5 := ineg hc8 h_2
    refine fw_iconst (v := (0 : Int32)) (show decode _ _ = .ok (.iconst 0, 1) by decide +kernel) (by decide) ?_
    exact fw_ret (v := some (.int (0 : Int32))) .ireturn (show decode _ _ = .ok (.ireturn, 1) by decide +kernel) ⟨rfl, Or.inr (Or.inl ⟨rfl, rfl⟩)⟩ ⟨_, rfl, h_5⟩
def j_L_law_1749 (K18 : Nat → Nat → Nat → Int32 → fM → Prop) (φ : Int32 → fM → Prop) (p0 : Nat) (p1 : Nat) (p2 : Nat) (p3 : Int32) (s0 : Int32) (s1 : Int32) (s2 : Int32) (s3 : Nat) (M : fM) : Prop := isO M s3 10 ∧ w_X10_alike s3 s2 s1 s0 M fun x13 M9 => inA M9 p0 12 (p3 + (1 : Int32)) ∧ inA M9 p0 12 (p3 + (2 : Int32)) ∧ inA M9 p0 12 (p3 + (3 : Int32)) ∧ iF ((mI M9 p0 (ix (p3 + (3 : Int32)))) = 0) (j_L_law_1776 K18 φ p0 p1 p2 p3 (0 : Int32) (mI M9 p0 (ix (p3 + (2 : Int32)))) (mI M9 p0 (ix (p3 + (1 : Int32)))) p2 x13 M9) (j_L_law_1776 K18 φ p0 p1 p2 p3 (1 : Int32) (mI M9 p0 (ix (p3 + (2 : Int32)))) (mI M9 p0 (ix (p3 + (1 : Int32)))) p2 x13 M9)
set_option maxRecDepth 100000 in
theorem sj_L_law_1749 {g : GT} {d Bc Bs : Nat} (hd : 80 ≤ d + 1) {K18 : Nat → Nat → Nat → Int32 → fM → Prop} {φ : Int32 → fM → Prop} (hK18 : ∀ (p0 : Nat) (p1 : Nat) (p2 : Nat) (p3 : Int32) (M : fM), K18 p0 p1 p2 p3 M → FW g mtL_law (d + 1) 18 [(0, .ref p0), (1, .ref p1), (2, .ref p2), (3, .int p3)] [] M Bc Bs (rI φ)) {p0 : Nat} {p1 : Nat} {p2 : Nat} {p3 : Int32} {s0 : Int32} {s1 : Int32} {s2 : Int32} {s3 : Nat} {M : fM} (h : j_L_law_1749 K18 φ p0 p1 p2 p3 s0 s1 s2 s3 M) : FW g mtL_law (d + 1) 1749 [(0, .ref p0), (1, .ref p1), (2, .ref p2), (3, .int p3)] [.int s0, .int s1, .int s2, .ref s3] M Bc Bs (rI φ) := by
  unfold j_L_law_1749 at h
  obtain ⟨⟨hr11, n10, hs12⟩, h_1⟩ := h
  refine fw_callV (mt' := mtX10_alike) (mc := 0) (ms := 0) (As := [.int s2, .int s1, .int s0]) (rest := []) 3 10 n10 (show decode _ _ = .ok (.invokevirtual 180, 3) by decide +kernel) cv_L_180 ⟨_, rfl, rfl⟩ hr11 hs12 rfl (Nat.le_of_ble_eq_true rfl) (s_X10_alike (d := d) (hd_le hd (by decide)) h_1) (by first | exact Nat.le_refl _ | exact Nat.le_add_right _ _ | exact Nat.zero_le _ | exact Nat.le_add_left _ _ | exact Nat.le_of_eq (Nat.add_sub_cancel).symm | decide) (by first | exact Nat.le_refl _ | exact Nat.le_add_right _ _ | exact Nat.zero_le _ | exact Nat.le_add_left _ _ | exact Nat.le_of_eq (Nat.add_sub_cancel).symm | decide) (kI (bc' := Bc) (bs' := Bs) (by first | exact Nat.le_refl _ | exact Nat.le_add_right _ _ | exact Nat.zero_le _ | exact Nat.le_add_left _ _ | exact Nat.le_of_eq (Nat.add_sub_cancel).symm | decide) (by first | exact Nat.le_refl _ | exact Nat.le_add_right _ _ | exact Nat.zero_le _ | exact Nat.le_add_left _ _ | exact Nat.le_of_eq (Nat.add_sub_cancel).symm | decide) (fun x13 M9 h_2 => ?_))
  refine fw_aload_n (i := 2) 2 rfl (show decode _ _ = .ok (.aload_n 2, 1) by decide +kernel) ?_
  refine fw_aload_n (i := 0) 0 rfl (show decode _ _ = .ok (.aload_n 0, 1) by decide +kernel) ?_
  refine fw_iload_n (i := 3) 3 rfl (show decode _ _ = .ok (.iload_n 3, 1) by decide +kernel) ?_
  refine fw_iconst (v := (1 : Int32)) (show decode _ _ = .ok (.iconst 1, 1) by decide +kernel) (by decide) ?_
  refine fw_iadd (show decode _ _ = .ok (.iadd, 1) by decide +kernel) ?_
  obtain ⟨⟨n14, hs15, hi16⟩, h_3⟩ := h_2
  refine fw_iald (show decode _ _ = .ok (.iaload, 1) by decide +kernel) hs15 hi16 ?_
  refine fw_aload_n (i := 0) 0 rfl (show decode _ _ = .ok (.aload_n 0, 1) by decide +kernel) ?_
  refine fw_iload_n (i := 3) 3 rfl (show decode _ _ = .ok (.iload_n 3, 1) by decide +kernel) ?_
  refine fw_iconst (v := (2 : Int32)) (show decode _ _ = .ok (.iconst 2, 1) by decide +kernel) (by decide) ?_
  refine fw_iadd (show decode _ _ = .ok (.iadd, 1) by decide +kernel) ?_
  obtain ⟨⟨n17, hs18, hi19⟩, h_4⟩ := h_3
  refine fw_iald (show decode _ _ = .ok (.iaload, 1) by decide +kernel) hs18 hi19 ?_
  refine fw_aload_n (i := 0) 0 rfl (show decode _ _ = .ok (.aload_n 0, 1) by decide +kernel) ?_
  refine fw_iload_n (i := 3) 3 rfl (show decode _ _ = .ok (.iload_n 3, 1) by decide +kernel) ?_
  refine fw_iconst (v := (3 : Int32)) (show decode _ _ = .ok (.iconst 3, 1) by decide +kernel) (by decide) ?_
  refine fw_iadd (show decode _ _ = .ok (.iadd, 1) by decide +kernel) ?_
  obtain ⟨⟨n20, hs21, hi22⟩, h_5⟩ := h_4
  refine fw_iald (show decode _ _ = .ok (.iaload, 1) by decide +kernel) hs21 hi22 ?_
  refine fw_if_eq 1775 (show decode _ _ = .ok (.ifCond .eq 7, 3) by decide +kernel) (by decide) (fun hc23 => ?_) (fun hc23 => ?_)
  · have h_6 := ipos hc23 h_5
    refine fw_iconst (v := (0 : Int32)) (show decode _ _ = .ok (.iconst 0, 1) by decide +kernel) (by decide) ?_
    refine FW.sub [0, 1, 2, 3] (ls' := [(0, .ref p0), (1, .ref p1), (2, .ref p2), (3, .int p3)]) rfl ?_
    exact sj_L_law_1776 hd hK18 h_6
  · have h_7 := ineg hc23 h_5
    refine fw_iconst (v := (1 : Int32)) (show decode _ _ = .ok (.iconst 1, 1) by decide +kernel) (by decide) ?_
    refine fw_goto 1776 (show decode _ _ = .ok (.goto 4, 3) by decide +kernel) (by decide) ?_
    refine FW.sub [0, 1, 2, 3] (ls' := [(0, .ref p0), (1, .ref p1), (2, .ref p2), (3, .int p3)]) rfl ?_
    exact sj_L_law_1776 hd hK18 h_7
def j_L_law_1704 (K18 : Nat → Nat → Nat → Int32 → fM → Prop) (φ : Int32 → fM → Prop) (p0 : Nat) (p1 : Nat) (p2 : Nat) (p3 : Int32) (s0 : Int32) (s1 : Int32) (s2 : Int32) (s3 : Int32) (s4 : Nat) (s5 : Int32) (M : fM) : Prop := isO M s4 11 ∧ w_X11_seen s4 s3 s2 s1 s0 M fun x28 M24 => iF (s5 = x28) (nm (p3 + (7 : Int32)) fun x29 => K18 p0 p1 p2 x29 M24) (φ (0 : Int32) M24)
set_option maxRecDepth 100000 in
theorem sj_L_law_1704 {g : GT} {d Bc Bs : Nat} (hd : 80 ≤ d + 1) {K18 : Nat → Nat → Nat → Int32 → fM → Prop} {φ : Int32 → fM → Prop} (hK18 : ∀ (p0 : Nat) (p1 : Nat) (p2 : Nat) (p3 : Int32) (M : fM), K18 p0 p1 p2 p3 M → FW g mtL_law (d + 1) 18 [(0, .ref p0), (1, .ref p1), (2, .ref p2), (3, .int p3)] [] M Bc Bs (rI φ)) {p0 : Nat} {p1 : Nat} {p2 : Nat} {p3 : Int32} {s0 : Int32} {s1 : Int32} {s2 : Int32} {s3 : Int32} {s4 : Nat} {s5 : Int32} {M : fM} (h : j_L_law_1704 K18 φ p0 p1 p2 p3 s0 s1 s2 s3 s4 s5 M) : FW g mtL_law (d + 1) 1704 [(0, .ref p0), (1, .ref p1), (2, .ref p2), (3, .int p3)] [.int s0, .int s1, .int s2, .int s3, .ref s4, .int s5] M Bc Bs (rI φ) := by
  unfold j_L_law_1704 at h
  obtain ⟨⟨hr26, n25, hs27⟩, h_1⟩ := h
  refine fw_callV (mt' := mtX11_seen) (mc := 0) (ms := 0) (As := [.int s3, .int s2, .int s1, .int s0]) (rest := [.int s5]) 4 11 n25 (show decode _ _ = .ok (.invokevirtual 175, 3) by decide +kernel) cv_L_175 ⟨_, rfl, rfl⟩ hr26 hs27 rfl (Nat.le_of_ble_eq_true rfl) (s_X11_seen (d := d) (hd_le hd (by decide)) h_1) (by first | exact Nat.le_refl _ | exact Nat.le_add_right _ _ | exact Nat.zero_le _ | exact Nat.le_add_left _ _ | exact Nat.le_of_eq (Nat.add_sub_cancel).symm | decide) (by first | exact Nat.le_refl _ | exact Nat.le_add_right _ _ | exact Nat.zero_le _ | exact Nat.le_add_left _ _ | exact Nat.le_of_eq (Nat.add_sub_cancel).symm | decide) (kI (bc' := Bc) (bs' := Bs) (by first | exact Nat.le_refl _ | exact Nat.le_add_right _ _ | exact Nat.zero_le _ | exact Nat.le_add_left _ _ | exact Nat.le_of_eq (Nat.add_sub_cancel).symm | decide) (by first | exact Nat.le_refl _ | exact Nat.le_add_right _ _ | exact Nat.zero_le _ | exact Nat.le_add_left _ _ | exact Nat.le_of_eq (Nat.add_sub_cancel).symm | decide) (fun x28 M24 h_2 => ?_))
  refine fw_icmp_eq 1833 (show decode _ _ = .ok (.if_icmp .eq 126, 3) by decide +kernel) (by decide) (fun hc31 => ?_) (fun hc31 => ?_)
  · have h_3 := ipos hc31 h_2
    obtain ⟨x29, ex30⟩ : ∃ y : Int32, y = p3 + (7 : Int32) := ⟨_, rfl⟩
    have h_4 := h_3 x29 ex30
    refine fw_iinc (i := 3) (x := p3) (v := x29) (ls' := [(3, .int x29), (0, .ref p0), (1, .ref p1), (2, .ref p2)]) 3 rfl (show decode _ _ = .ok (.iinc 3 7, 3) by decide +kernel) (by rw [ex30]; rfl) (by decide) rfl ?_
    refine fw_goto 18 (show decode _ _ = .ok (.goto (-1818), 3) by decide +kernel) (by decide) ?_
    refine FW.sub [1, 2, 3, 0] (ls' := [(0, .ref p0), (1, .ref p1), (2, .ref p2), (3, .int x29)]) rfl ?_
    exact hK18 _ _ _ _ _ h_4
  · have h_5 := ineg hc31 h_2
    refine fw_iconst (v := (0 : Int32)) (show decode _ _ = .ok (.iconst 0, 1) by decide +kernel) (by decide) ?_
    exact fw_ret (v := some (.int (0 : Int32))) .ireturn (show decode _ _ = .ok (.ireturn, 1) by decide +kernel) ⟨rfl, Or.inr (Or.inl ⟨rfl, rfl⟩)⟩ ⟨_, rfl, h_5⟩
def j_L_law_1672 (K18 : Nat → Nat → Nat → Int32 → fM → Prop) (φ : Int32 → fM → Prop) (p0 : Nat) (p1 : Nat) (p2 : Nat) (p3 : Int32) (s0 : Int32) (s1 : Int32) (s2 : Int32) (s3 : Int32) (s4 : Nat) (M : fM) : Prop := isO M s4 10 ∧ w_X10_seen s4 s3 s2 s1 s0 M fun x36 M32 => inA M32 p0 12 (p3 + (1 : Int32)) ∧ inA M32 p0 12 (p3 + (2 : Int32)) ∧ inA M32 p0 12 (p3 + (3 : Int32)) ∧ inA M32 p0 12 (p3 + (4 : Int32)) ∧ iF ((mI M32 p0 (ix (p3 + (4 : Int32)))) = 0) (j_L_law_1704 K18 φ p0 p1 p2 p3 (0 : Int32) (mI M32 p0 (ix (p3 + (3 : Int32)))) (mI M32 p0 (ix (p3 + (2 : Int32)))) (mI M32 p0 (ix (p3 + (1 : Int32)))) p2 x36 M32) (j_L_law_1704 K18 φ p0 p1 p2 p3 (1 : Int32) (mI M32 p0 (ix (p3 + (3 : Int32)))) (mI M32 p0 (ix (p3 + (2 : Int32)))) (mI M32 p0 (ix (p3 + (1 : Int32)))) p2 x36 M32)
set_option maxRecDepth 100000 in
theorem sj_L_law_1672 {g : GT} {d Bc Bs : Nat} (hd : 80 ≤ d + 1) {K18 : Nat → Nat → Nat → Int32 → fM → Prop} {φ : Int32 → fM → Prop} (hK18 : ∀ (p0 : Nat) (p1 : Nat) (p2 : Nat) (p3 : Int32) (M : fM), K18 p0 p1 p2 p3 M → FW g mtL_law (d + 1) 18 [(0, .ref p0), (1, .ref p1), (2, .ref p2), (3, .int p3)] [] M Bc Bs (rI φ)) {p0 : Nat} {p1 : Nat} {p2 : Nat} {p3 : Int32} {s0 : Int32} {s1 : Int32} {s2 : Int32} {s3 : Int32} {s4 : Nat} {M : fM} (h : j_L_law_1672 K18 φ p0 p1 p2 p3 s0 s1 s2 s3 s4 M) : FW g mtL_law (d + 1) 1672 [(0, .ref p0), (1, .ref p1), (2, .ref p2), (3, .int p3)] [.int s0, .int s1, .int s2, .int s3, .ref s4] M Bc Bs (rI φ) := by
  unfold j_L_law_1672 at h
  obtain ⟨⟨hr34, n33, hs35⟩, h_1⟩ := h
  refine fw_callV (mt' := mtX10_seen) (mc := 0) (ms := 0) (As := [.int s3, .int s2, .int s1, .int s0]) (rest := []) 4 10 n33 (show decode _ _ = .ok (.invokevirtual 171, 3) by decide +kernel) cv_L_171 ⟨_, rfl, rfl⟩ hr34 hs35 rfl (Nat.le_of_ble_eq_true rfl) (s_X10_seen (d := d) (hd_le hd (by decide)) h_1) (by first | exact Nat.le_refl _ | exact Nat.le_add_right _ _ | exact Nat.zero_le _ | exact Nat.le_add_left _ _ | exact Nat.le_of_eq (Nat.add_sub_cancel).symm | decide) (by first | exact Nat.le_refl _ | exact Nat.le_add_right _ _ | exact Nat.zero_le _ | exact Nat.le_add_left _ _ | exact Nat.le_of_eq (Nat.add_sub_cancel).symm | decide) (kI (bc' := Bc) (bs' := Bs) (by first | exact Nat.le_refl _ | exact Nat.le_add_right _ _ | exact Nat.zero_le _ | exact Nat.le_add_left _ _ | exact Nat.le_of_eq (Nat.add_sub_cancel).symm | decide) (by first | exact Nat.le_refl _ | exact Nat.le_add_right _ _ | exact Nat.zero_le _ | exact Nat.le_add_left _ _ | exact Nat.le_of_eq (Nat.add_sub_cancel).symm | decide) (fun x36 M32 h_2 => ?_))
  refine fw_aload_n (i := 2) 2 rfl (show decode _ _ = .ok (.aload_n 2, 1) by decide +kernel) ?_
  refine fw_aload_n (i := 0) 0 rfl (show decode _ _ = .ok (.aload_n 0, 1) by decide +kernel) ?_
  refine fw_iload_n (i := 3) 3 rfl (show decode _ _ = .ok (.iload_n 3, 1) by decide +kernel) ?_
  refine fw_iconst (v := (1 : Int32)) (show decode _ _ = .ok (.iconst 1, 1) by decide +kernel) (by decide) ?_
  refine fw_iadd (show decode _ _ = .ok (.iadd, 1) by decide +kernel) ?_
  obtain ⟨⟨n37, hs38, hi39⟩, h_3⟩ := h_2
  refine fw_iald (show decode _ _ = .ok (.iaload, 1) by decide +kernel) hs38 hi39 ?_
  refine fw_aload_n (i := 0) 0 rfl (show decode _ _ = .ok (.aload_n 0, 1) by decide +kernel) ?_
  refine fw_iload_n (i := 3) 3 rfl (show decode _ _ = .ok (.iload_n 3, 1) by decide +kernel) ?_
  refine fw_iconst (v := (2 : Int32)) (show decode _ _ = .ok (.iconst 2, 1) by decide +kernel) (by decide) ?_
  refine fw_iadd (show decode _ _ = .ok (.iadd, 1) by decide +kernel) ?_
  obtain ⟨⟨n40, hs41, hi42⟩, h_4⟩ := h_3
  refine fw_iald (show decode _ _ = .ok (.iaload, 1) by decide +kernel) hs41 hi42 ?_
  refine fw_aload_n (i := 0) 0 rfl (show decode _ _ = .ok (.aload_n 0, 1) by decide +kernel) ?_
  refine fw_iload_n (i := 3) 3 rfl (show decode _ _ = .ok (.iload_n 3, 1) by decide +kernel) ?_
  refine fw_iconst (v := (3 : Int32)) (show decode _ _ = .ok (.iconst 3, 1) by decide +kernel) (by decide) ?_
  refine fw_iadd (show decode _ _ = .ok (.iadd, 1) by decide +kernel) ?_
  obtain ⟨⟨n43, hs44, hi45⟩, h_5⟩ := h_4
  refine fw_iald (show decode _ _ = .ok (.iaload, 1) by decide +kernel) hs44 hi45 ?_
  refine fw_aload_n (i := 0) 0 rfl (show decode _ _ = .ok (.aload_n 0, 1) by decide +kernel) ?_
  refine fw_iload_n (i := 3) 3 rfl (show decode _ _ = .ok (.iload_n 3, 1) by decide +kernel) ?_
  refine fw_iconst (v := (4 : Int32)) (show decode _ _ = .ok (.iconst 4, 1) by decide +kernel) (by decide) ?_
  refine fw_iadd (show decode _ _ = .ok (.iadd, 1) by decide +kernel) ?_
  obtain ⟨⟨n46, hs47, hi48⟩, h_6⟩ := h_5
  refine fw_iald (show decode _ _ = .ok (.iaload, 1) by decide +kernel) hs47 hi48 ?_
  refine fw_if_eq 1703 (show decode _ _ = .ok (.ifCond .eq 7, 3) by decide +kernel) (by decide) (fun hc49 => ?_) (fun hc49 => ?_)
  · have h_7 := ipos hc49 h_6
    refine fw_iconst (v := (0 : Int32)) (show decode _ _ = .ok (.iconst 0, 1) by decide +kernel) (by decide) ?_
    refine FW.sub [0, 1, 2, 3] (ls' := [(0, .ref p0), (1, .ref p1), (2, .ref p2), (3, .int p3)]) rfl ?_
    exact sj_L_law_1704 hd hK18 h_7
  · have h_8 := ineg hc49 h_6
    refine fw_iconst (v := (1 : Int32)) (show decode _ _ = .ok (.iconst 1, 1) by decide +kernel) (by decide) ?_
    refine fw_goto 1704 (show decode _ _ = .ok (.goto 4, 3) by decide +kernel) (by decide) ?_
    refine FW.sub [0, 1, 2, 3] (ls' := [(0, .ref p0), (1, .ref p1), (2, .ref p2), (3, .int p3)]) rfl ?_
    exact sj_L_law_1704 hd hK18 h_8
def j_L_law_1526 (K18 : Nat → Nat → Nat → Int32 → fM → Prop) (φ : Int32 → fM → Prop) (p0 : Nat) (p1 : Nat) (p2 : Nat) (p3 : Int32) (s0 : Int32) (s1 : Int32) (s2 : Int32) (s3 : Nat) (s4 : Int32) (M : fM) : Prop := isO M s3 11 ∧ w_X11_average s3 s2 s1 s0 M fun x54 M50 => iF (s4 = x54) (nm (p3 + (7 : Int32)) fun x55 => K18 p0 p1 p2 x55 M50) (φ (0 : Int32) M50)
set_option maxRecDepth 100000 in
theorem sj_L_law_1526 {g : GT} {d Bc Bs : Nat} (hd : 80 ≤ d + 1) {K18 : Nat → Nat → Nat → Int32 → fM → Prop} {φ : Int32 → fM → Prop} (hK18 : ∀ (p0 : Nat) (p1 : Nat) (p2 : Nat) (p3 : Int32) (M : fM), K18 p0 p1 p2 p3 M → FW g mtL_law (d + 1) 18 [(0, .ref p0), (1, .ref p1), (2, .ref p2), (3, .int p3)] [] M Bc Bs (rI φ)) {p0 : Nat} {p1 : Nat} {p2 : Nat} {p3 : Int32} {s0 : Int32} {s1 : Int32} {s2 : Int32} {s3 : Nat} {s4 : Int32} {M : fM} (h : j_L_law_1526 K18 φ p0 p1 p2 p3 s0 s1 s2 s3 s4 M) : FW g mtL_law (d + 1) 1526 [(0, .ref p0), (1, .ref p1), (2, .ref p2), (3, .int p3)] [.int s0, .int s1, .int s2, .ref s3, .int s4] M Bc Bs (rI φ) := by
  unfold j_L_law_1526 at h
  obtain ⟨⟨hr52, n51, hs53⟩, h_1⟩ := h
  refine fw_callV (mt' := mtX11_average) (mc := 0) (ms := 0) (As := [.int s2, .int s1, .int s0]) (rest := [.int s4]) 3 11 n51 (show decode _ _ = .ok (.invokevirtual 158, 3) by decide +kernel) cv_L_158 ⟨_, rfl, rfl⟩ hr52 hs53 rfl (Nat.le_of_ble_eq_true rfl) (s_X11_average (d := d) (hd_le hd (by decide)) h_1) (by first | exact Nat.le_refl _ | exact Nat.le_add_right _ _ | exact Nat.zero_le _ | exact Nat.le_add_left _ _ | exact Nat.le_of_eq (Nat.add_sub_cancel).symm | decide) (by first | exact Nat.le_refl _ | exact Nat.le_add_right _ _ | exact Nat.zero_le _ | exact Nat.le_add_left _ _ | exact Nat.le_of_eq (Nat.add_sub_cancel).symm | decide) (kI (bc' := Bc) (bs' := Bs) (by first | exact Nat.le_refl _ | exact Nat.le_add_right _ _ | exact Nat.zero_le _ | exact Nat.le_add_left _ _ | exact Nat.le_of_eq (Nat.add_sub_cancel).symm | decide) (by first | exact Nat.le_refl _ | exact Nat.le_add_right _ _ | exact Nat.zero_le _ | exact Nat.le_add_left _ _ | exact Nat.le_of_eq (Nat.add_sub_cancel).symm | decide) (fun x54 M50 h_2 => ?_))
  refine fw_icmp_eq 1833 (show decode _ _ = .ok (.if_icmp .eq 304, 3) by decide +kernel) (by decide) (fun hc57 => ?_) (fun hc57 => ?_)
  · have h_3 := ipos hc57 h_2
    obtain ⟨x55, ex56⟩ : ∃ y : Int32, y = p3 + (7 : Int32) := ⟨_, rfl⟩
    have h_4 := h_3 x55 ex56
    refine fw_iinc (i := 3) (x := p3) (v := x55) (ls' := [(3, .int x55), (0, .ref p0), (1, .ref p1), (2, .ref p2)]) 3 rfl (show decode _ _ = .ok (.iinc 3 7, 3) by decide +kernel) (by rw [ex56]; rfl) (by decide) rfl ?_
    refine fw_goto 18 (show decode _ _ = .ok (.goto (-1818), 3) by decide +kernel) (by decide) ?_
    refine FW.sub [1, 2, 3, 0] (ls' := [(0, .ref p0), (1, .ref p1), (2, .ref p2), (3, .int x55)]) rfl ?_
    exact hK18 _ _ _ _ _ h_4
  · have h_5 := ineg hc57 h_2
    refine fw_iconst (v := (0 : Int32)) (show decode _ _ = .ok (.iconst 0, 1) by decide +kernel) (by decide) ?_
    exact fw_ret (v := some (.int (0 : Int32))) .ireturn (show decode _ _ = .ok (.ireturn, 1) by decide +kernel) ⟨rfl, Or.inr (Or.inl ⟨rfl, rfl⟩)⟩ ⟨_, rfl, h_5⟩
def j_L_law_1499 (K18 : Nat → Nat → Nat → Int32 → fM → Prop) (φ : Int32 → fM → Prop) (p0 : Nat) (p1 : Nat) (p2 : Nat) (p3 : Int32) (s0 : Int32) (s1 : Int32) (s2 : Int32) (s3 : Nat) (M : fM) : Prop := isO M s3 10 ∧ w_X10_average s3 s2 s1 s0 M fun x62 M58 => inA M58 p0 12 (p3 + (1 : Int32)) ∧ inA M58 p0 12 (p3 + (2 : Int32)) ∧ inA M58 p0 12 (p3 + (3 : Int32)) ∧ iF ((mI M58 p0 (ix (p3 + (3 : Int32)))) = 0) (j_L_law_1526 K18 φ p0 p1 p2 p3 (0 : Int32) (mI M58 p0 (ix (p3 + (2 : Int32)))) (mI M58 p0 (ix (p3 + (1 : Int32)))) p2 x62 M58) (j_L_law_1526 K18 φ p0 p1 p2 p3 (1 : Int32) (mI M58 p0 (ix (p3 + (2 : Int32)))) (mI M58 p0 (ix (p3 + (1 : Int32)))) p2 x62 M58)
set_option maxRecDepth 100000 in
theorem sj_L_law_1499 {g : GT} {d Bc Bs : Nat} (hd : 80 ≤ d + 1) {K18 : Nat → Nat → Nat → Int32 → fM → Prop} {φ : Int32 → fM → Prop} (hK18 : ∀ (p0 : Nat) (p1 : Nat) (p2 : Nat) (p3 : Int32) (M : fM), K18 p0 p1 p2 p3 M → FW g mtL_law (d + 1) 18 [(0, .ref p0), (1, .ref p1), (2, .ref p2), (3, .int p3)] [] M Bc Bs (rI φ)) {p0 : Nat} {p1 : Nat} {p2 : Nat} {p3 : Int32} {s0 : Int32} {s1 : Int32} {s2 : Int32} {s3 : Nat} {M : fM} (h : j_L_law_1499 K18 φ p0 p1 p2 p3 s0 s1 s2 s3 M) : FW g mtL_law (d + 1) 1499 [(0, .ref p0), (1, .ref p1), (2, .ref p2), (3, .int p3)] [.int s0, .int s1, .int s2, .ref s3] M Bc Bs (rI φ) := by
  unfold j_L_law_1499 at h
  obtain ⟨⟨hr60, n59, hs61⟩, h_1⟩ := h
  refine fw_callV (mt' := mtX10_average) (mc := 0) (ms := 0) (As := [.int s2, .int s1, .int s0]) (rest := []) 3 10 n59 (show decode _ _ = .ok (.invokevirtual 154, 3) by decide +kernel) cv_L_154 ⟨_, rfl, rfl⟩ hr60 hs61 rfl (Nat.le_of_ble_eq_true rfl) (s_X10_average (d := d) (hd_le hd (by decide)) h_1) (by first | exact Nat.le_refl _ | exact Nat.le_add_right _ _ | exact Nat.zero_le _ | exact Nat.le_add_left _ _ | exact Nat.le_of_eq (Nat.add_sub_cancel).symm | decide) (by first | exact Nat.le_refl _ | exact Nat.le_add_right _ _ | exact Nat.zero_le _ | exact Nat.le_add_left _ _ | exact Nat.le_of_eq (Nat.add_sub_cancel).symm | decide) (kI (bc' := Bc) (bs' := Bs) (by first | exact Nat.le_refl _ | exact Nat.le_add_right _ _ | exact Nat.zero_le _ | exact Nat.le_add_left _ _ | exact Nat.le_of_eq (Nat.add_sub_cancel).symm | decide) (by first | exact Nat.le_refl _ | exact Nat.le_add_right _ _ | exact Nat.zero_le _ | exact Nat.le_add_left _ _ | exact Nat.le_of_eq (Nat.add_sub_cancel).symm | decide) (fun x62 M58 h_2 => ?_))
  refine fw_aload_n (i := 2) 2 rfl (show decode _ _ = .ok (.aload_n 2, 1) by decide +kernel) ?_
  refine fw_aload_n (i := 0) 0 rfl (show decode _ _ = .ok (.aload_n 0, 1) by decide +kernel) ?_
  refine fw_iload_n (i := 3) 3 rfl (show decode _ _ = .ok (.iload_n 3, 1) by decide +kernel) ?_
  refine fw_iconst (v := (1 : Int32)) (show decode _ _ = .ok (.iconst 1, 1) by decide +kernel) (by decide) ?_
  refine fw_iadd (show decode _ _ = .ok (.iadd, 1) by decide +kernel) ?_
  obtain ⟨⟨n63, hs64, hi65⟩, h_3⟩ := h_2
  refine fw_iald (show decode _ _ = .ok (.iaload, 1) by decide +kernel) hs64 hi65 ?_
  refine fw_aload_n (i := 0) 0 rfl (show decode _ _ = .ok (.aload_n 0, 1) by decide +kernel) ?_
  refine fw_iload_n (i := 3) 3 rfl (show decode _ _ = .ok (.iload_n 3, 1) by decide +kernel) ?_
  refine fw_iconst (v := (2 : Int32)) (show decode _ _ = .ok (.iconst 2, 1) by decide +kernel) (by decide) ?_
  refine fw_iadd (show decode _ _ = .ok (.iadd, 1) by decide +kernel) ?_
  obtain ⟨⟨n66, hs67, hi68⟩, h_4⟩ := h_3
  refine fw_iald (show decode _ _ = .ok (.iaload, 1) by decide +kernel) hs67 hi68 ?_
  refine fw_aload_n (i := 0) 0 rfl (show decode _ _ = .ok (.aload_n 0, 1) by decide +kernel) ?_
  refine fw_iload_n (i := 3) 3 rfl (show decode _ _ = .ok (.iload_n 3, 1) by decide +kernel) ?_
  refine fw_iconst (v := (3 : Int32)) (show decode _ _ = .ok (.iconst 3, 1) by decide +kernel) (by decide) ?_
  refine fw_iadd (show decode _ _ = .ok (.iadd, 1) by decide +kernel) ?_
  obtain ⟨⟨n69, hs70, hi71⟩, h_5⟩ := h_4
  refine fw_iald (show decode _ _ = .ok (.iaload, 1) by decide +kernel) hs70 hi71 ?_
  refine fw_if_eq 1525 (show decode _ _ = .ok (.ifCond .eq 7, 3) by decide +kernel) (by decide) (fun hc72 => ?_) (fun hc72 => ?_)
  · have h_6 := ipos hc72 h_5
    refine fw_iconst (v := (0 : Int32)) (show decode _ _ = .ok (.iconst 0, 1) by decide +kernel) (by decide) ?_
    refine FW.sub [0, 1, 2, 3] (ls' := [(0, .ref p0), (1, .ref p1), (2, .ref p2), (3, .int p3)]) rfl ?_
    exact sj_L_law_1526 hd hK18 h_6
  · have h_7 := ineg hc72 h_5
    refine fw_iconst (v := (1 : Int32)) (show decode _ _ = .ok (.iconst 1, 1) by decide +kernel) (by decide) ?_
    refine fw_goto 1526 (show decode _ _ = .ok (.goto 4, 3) by decide +kernel) (by decide) ?_
    refine FW.sub [0, 1, 2, 3] (ls' := [(0, .ref p0), (1, .ref p1), (2, .ref p2), (3, .int p3)]) rfl ?_
    exact sj_L_law_1526 hd hK18 h_7
def j_L_law_1466 (K18 : Nat → Nat → Nat → Int32 → fM → Prop) (φ : Int32 → fM → Prop) (p0 : Nat) (p1 : Nat) (p2 : Nat) (p3 : Int32) (s0 : Int32) (s1 : Int32) (s2 : Int32) (s3 : Int32) (s4 : Nat) (s5 : Int64) (M : fM) : Prop := isO M s4 11 ∧ w_X11_sure s4 s3 s2 s1 s0 M fun x77 M73 => iF ((lg_cmp s5 x77) = 0) (nm (p3 + (7 : Int32)) fun x78 => K18 p0 p1 p2 x78 M73) (φ (0 : Int32) M73)
set_option maxRecDepth 100000 in
theorem sj_L_law_1466 {g : GT} {d Bc Bs : Nat} (hd : 80 ≤ d + 1) {K18 : Nat → Nat → Nat → Int32 → fM → Prop} {φ : Int32 → fM → Prop} (hK18 : ∀ (p0 : Nat) (p1 : Nat) (p2 : Nat) (p3 : Int32) (M : fM), K18 p0 p1 p2 p3 M → FW g mtL_law (d + 1) 18 [(0, .ref p0), (1, .ref p1), (2, .ref p2), (3, .int p3)] [] M Bc Bs (rI φ)) {p0 : Nat} {p1 : Nat} {p2 : Nat} {p3 : Int32} {s0 : Int32} {s1 : Int32} {s2 : Int32} {s3 : Int32} {s4 : Nat} {s5 : Int64} {M : fM} (h : j_L_law_1466 K18 φ p0 p1 p2 p3 s0 s1 s2 s3 s4 s5 M) : FW g mtL_law (d + 1) 1466 [(0, .ref p0), (1, .ref p1), (2, .ref p2), (3, .int p3)] [.int s0, .int s1, .int s2, .int s3, .ref s4, .long s5] M Bc Bs (rI φ) := by
  unfold j_L_law_1466 at h
  obtain ⟨⟨hr75, n74, hs76⟩, h_1⟩ := h
  refine fw_callV (mt' := mtX11_sure) (mc := 0) (ms := 0) (As := [.int s3, .int s2, .int s1, .int s0]) (rest := [.long s5]) 4 11 n74 (show decode _ _ = .ok (.invokevirtual 153, 3) by decide +kernel) cv_L_153 ⟨_, rfl, rfl⟩ hr75 hs76 rfl (Nat.le_of_ble_eq_true rfl) (s_X11_sure (d := d) (hd_le hd (by decide)) h_1) (by first | exact Nat.le_refl _ | exact Nat.le_add_right _ _ | exact Nat.zero_le _ | exact Nat.le_add_left _ _ | exact Nat.le_of_eq (Nat.add_sub_cancel).symm | decide) (by first | exact Nat.le_refl _ | exact Nat.le_add_right _ _ | exact Nat.zero_le _ | exact Nat.le_add_left _ _ | exact Nat.le_of_eq (Nat.add_sub_cancel).symm | decide) (kJ (bc' := Bc) (bs' := Bs) (by first | exact Nat.le_refl _ | exact Nat.le_add_right _ _ | exact Nat.zero_le _ | exact Nat.le_add_left _ _ | exact Nat.le_of_eq (Nat.add_sub_cancel).symm | decide) (by first | exact Nat.le_refl _ | exact Nat.le_add_right _ _ | exact Nat.zero_le _ | exact Nat.le_add_left _ _ | exact Nat.le_of_eq (Nat.add_sub_cancel).symm | decide) (fun x77 M73 h_2 => ?_))
  refine fw_lcmp (show decode _ _ = .ok (.lcmp, 1) by decide +kernel) ?_
  refine fw_if_eq 1833 (show decode _ _ = .ok (.ifCond .eq 363, 3) by decide +kernel) (by decide) (fun hc80 => ?_) (fun hc80 => ?_)
  · have h_3 := ipos hc80 h_2
    obtain ⟨x78, ex79⟩ : ∃ y : Int32, y = p3 + (7 : Int32) := ⟨_, rfl⟩
    have h_4 := h_3 x78 ex79
    refine fw_iinc (i := 3) (x := p3) (v := x78) (ls' := [(3, .int x78), (0, .ref p0), (1, .ref p1), (2, .ref p2)]) 3 rfl (show decode _ _ = .ok (.iinc 3 7, 3) by decide +kernel) (by rw [ex79]; rfl) (by decide) rfl ?_
    refine fw_goto 18 (show decode _ _ = .ok (.goto (-1818), 3) by decide +kernel) (by decide) ?_
    refine FW.sub [1, 2, 3, 0] (ls' := [(0, .ref p0), (1, .ref p1), (2, .ref p2), (3, .int x78)]) rfl ?_
    exact hK18 _ _ _ _ _ h_4
  · have h_5 := ineg hc80 h_2
    refine fw_iconst (v := (0 : Int32)) (show decode _ _ = .ok (.iconst 0, 1) by decide +kernel) (by decide) ?_
    exact fw_ret (v := some (.int (0 : Int32))) .ireturn (show decode _ _ = .ok (.ireturn, 1) by decide +kernel) ⟨rfl, Or.inr (Or.inl ⟨rfl, rfl⟩)⟩ ⟨_, rfl, h_5⟩
def j_L_law_1434 (K18 : Nat → Nat → Nat → Int32 → fM → Prop) (φ : Int32 → fM → Prop) (p0 : Nat) (p1 : Nat) (p2 : Nat) (p3 : Int32) (s0 : Int32) (s1 : Int32) (s2 : Int32) (s3 : Int32) (s4 : Nat) (M : fM) : Prop := isO M s4 10 ∧ w_X10_sure s4 s3 s2 s1 s0 M fun x85 M81 => inA M81 p0 12 (p3 + (1 : Int32)) ∧ inA M81 p0 12 (p3 + (2 : Int32)) ∧ inA M81 p0 12 (p3 + (3 : Int32)) ∧ inA M81 p0 12 (p3 + (4 : Int32)) ∧ iF ((mI M81 p0 (ix (p3 + (4 : Int32)))) = 0) (j_L_law_1466 K18 φ p0 p1 p2 p3 (0 : Int32) (mI M81 p0 (ix (p3 + (3 : Int32)))) (mI M81 p0 (ix (p3 + (2 : Int32)))) (mI M81 p0 (ix (p3 + (1 : Int32)))) p2 x85 M81) (j_L_law_1466 K18 φ p0 p1 p2 p3 (1 : Int32) (mI M81 p0 (ix (p3 + (3 : Int32)))) (mI M81 p0 (ix (p3 + (2 : Int32)))) (mI M81 p0 (ix (p3 + (1 : Int32)))) p2 x85 M81)
set_option maxRecDepth 100000 in
theorem sj_L_law_1434 {g : GT} {d Bc Bs : Nat} (hd : 80 ≤ d + 1) {K18 : Nat → Nat → Nat → Int32 → fM → Prop} {φ : Int32 → fM → Prop} (hK18 : ∀ (p0 : Nat) (p1 : Nat) (p2 : Nat) (p3 : Int32) (M : fM), K18 p0 p1 p2 p3 M → FW g mtL_law (d + 1) 18 [(0, .ref p0), (1, .ref p1), (2, .ref p2), (3, .int p3)] [] M Bc Bs (rI φ)) {p0 : Nat} {p1 : Nat} {p2 : Nat} {p3 : Int32} {s0 : Int32} {s1 : Int32} {s2 : Int32} {s3 : Int32} {s4 : Nat} {M : fM} (h : j_L_law_1434 K18 φ p0 p1 p2 p3 s0 s1 s2 s3 s4 M) : FW g mtL_law (d + 1) 1434 [(0, .ref p0), (1, .ref p1), (2, .ref p2), (3, .int p3)] [.int s0, .int s1, .int s2, .int s3, .ref s4] M Bc Bs (rI φ) := by
  unfold j_L_law_1434 at h
  obtain ⟨⟨hr83, n82, hs84⟩, h_1⟩ := h
  refine fw_callV (mt' := mtX10_sure) (mc := 0) (ms := 0) (As := [.int s3, .int s2, .int s1, .int s0]) (rest := []) 4 10 n82 (show decode _ _ = .ok (.invokevirtual 150, 3) by decide +kernel) cv_L_150 ⟨_, rfl, rfl⟩ hr83 hs84 rfl (Nat.le_of_ble_eq_true rfl) (s_X10_sure (d := d) (hd_le hd (by decide)) h_1) (by first | exact Nat.le_refl _ | exact Nat.le_add_right _ _ | exact Nat.zero_le _ | exact Nat.le_add_left _ _ | exact Nat.le_of_eq (Nat.add_sub_cancel).symm | decide) (by first | exact Nat.le_refl _ | exact Nat.le_add_right _ _ | exact Nat.zero_le _ | exact Nat.le_add_left _ _ | exact Nat.le_of_eq (Nat.add_sub_cancel).symm | decide) (kJ (bc' := Bc) (bs' := Bs) (by first | exact Nat.le_refl _ | exact Nat.le_add_right _ _ | exact Nat.zero_le _ | exact Nat.le_add_left _ _ | exact Nat.le_of_eq (Nat.add_sub_cancel).symm | decide) (by first | exact Nat.le_refl _ | exact Nat.le_add_right _ _ | exact Nat.zero_le _ | exact Nat.le_add_left _ _ | exact Nat.le_of_eq (Nat.add_sub_cancel).symm | decide) (fun x85 M81 h_2 => ?_))
  refine fw_aload_n (i := 2) 2 rfl (show decode _ _ = .ok (.aload_n 2, 1) by decide +kernel) ?_
  refine fw_aload_n (i := 0) 0 rfl (show decode _ _ = .ok (.aload_n 0, 1) by decide +kernel) ?_
  refine fw_iload_n (i := 3) 3 rfl (show decode _ _ = .ok (.iload_n 3, 1) by decide +kernel) ?_
  refine fw_iconst (v := (1 : Int32)) (show decode _ _ = .ok (.iconst 1, 1) by decide +kernel) (by decide) ?_
  refine fw_iadd (show decode _ _ = .ok (.iadd, 1) by decide +kernel) ?_
  obtain ⟨⟨n86, hs87, hi88⟩, h_3⟩ := h_2
  refine fw_iald (show decode _ _ = .ok (.iaload, 1) by decide +kernel) hs87 hi88 ?_
  refine fw_aload_n (i := 0) 0 rfl (show decode _ _ = .ok (.aload_n 0, 1) by decide +kernel) ?_
  refine fw_iload_n (i := 3) 3 rfl (show decode _ _ = .ok (.iload_n 3, 1) by decide +kernel) ?_
  refine fw_iconst (v := (2 : Int32)) (show decode _ _ = .ok (.iconst 2, 1) by decide +kernel) (by decide) ?_
  refine fw_iadd (show decode _ _ = .ok (.iadd, 1) by decide +kernel) ?_
  obtain ⟨⟨n89, hs90, hi91⟩, h_4⟩ := h_3
  refine fw_iald (show decode _ _ = .ok (.iaload, 1) by decide +kernel) hs90 hi91 ?_
  refine fw_aload_n (i := 0) 0 rfl (show decode _ _ = .ok (.aload_n 0, 1) by decide +kernel) ?_
  refine fw_iload_n (i := 3) 3 rfl (show decode _ _ = .ok (.iload_n 3, 1) by decide +kernel) ?_
  refine fw_iconst (v := (3 : Int32)) (show decode _ _ = .ok (.iconst 3, 1) by decide +kernel) (by decide) ?_
  refine fw_iadd (show decode _ _ = .ok (.iadd, 1) by decide +kernel) ?_
  obtain ⟨⟨n92, hs93, hi94⟩, h_5⟩ := h_4
  refine fw_iald (show decode _ _ = .ok (.iaload, 1) by decide +kernel) hs93 hi94 ?_
  refine fw_aload_n (i := 0) 0 rfl (show decode _ _ = .ok (.aload_n 0, 1) by decide +kernel) ?_
  refine fw_iload_n (i := 3) 3 rfl (show decode _ _ = .ok (.iload_n 3, 1) by decide +kernel) ?_
  refine fw_iconst (v := (4 : Int32)) (show decode _ _ = .ok (.iconst 4, 1) by decide +kernel) (by decide) ?_
  refine fw_iadd (show decode _ _ = .ok (.iadd, 1) by decide +kernel) ?_
  obtain ⟨⟨n95, hs96, hi97⟩, h_6⟩ := h_5
  refine fw_iald (show decode _ _ = .ok (.iaload, 1) by decide +kernel) hs96 hi97 ?_
  refine fw_if_eq 1465 (show decode _ _ = .ok (.ifCond .eq 7, 3) by decide +kernel) (by decide) (fun hc98 => ?_) (fun hc98 => ?_)
  · have h_7 := ipos hc98 h_6
    refine fw_iconst (v := (0 : Int32)) (show decode _ _ = .ok (.iconst 0, 1) by decide +kernel) (by decide) ?_
    refine FW.sub [0, 1, 2, 3] (ls' := [(0, .ref p0), (1, .ref p1), (2, .ref p2), (3, .int p3)]) rfl ?_
    exact sj_L_law_1466 hd hK18 h_7
  · have h_8 := ineg hc98 h_6
    refine fw_iconst (v := (1 : Int32)) (show decode _ _ = .ok (.iconst 1, 1) by decide +kernel) (by decide) ?_
    refine fw_goto 1466 (show decode _ _ = .ok (.goto 4, 3) by decide +kernel) (by decide) ?_
    refine FW.sub [0, 1, 2, 3] (ls' := [(0, .ref p0), (1, .ref p1), (2, .ref p2), (3, .int p3)]) rfl ?_
    exact sj_L_law_1466 hd hK18 h_8
def j_L_law_1396 (K18 : Nat → Nat → Nat → Int32 → fM → Prop) (φ : Int32 → fM → Prop) (p0 : Nat) (p1 : Nat) (p2 : Nat) (p3 : Int32) (s0 : Int32) (s1 : Int32) (s2 : Int32) (s3 : Int32) (s4 : Nat) (s5 : Int64) (M : fM) : Prop := isO M s4 11 ∧ w_X11_whether s4 s3 s2 s1 s0 M fun x103 M99 => iF ((lg_cmp s5 x103) = 0) (nm (p3 + (7 : Int32)) fun x104 => K18 p0 p1 p2 x104 M99) (φ (0 : Int32) M99)
set_option maxRecDepth 100000 in
theorem sj_L_law_1396 {g : GT} {d Bc Bs : Nat} (hd : 80 ≤ d + 1) {K18 : Nat → Nat → Nat → Int32 → fM → Prop} {φ : Int32 → fM → Prop} (hK18 : ∀ (p0 : Nat) (p1 : Nat) (p2 : Nat) (p3 : Int32) (M : fM), K18 p0 p1 p2 p3 M → FW g mtL_law (d + 1) 18 [(0, .ref p0), (1, .ref p1), (2, .ref p2), (3, .int p3)] [] M Bc Bs (rI φ)) {p0 : Nat} {p1 : Nat} {p2 : Nat} {p3 : Int32} {s0 : Int32} {s1 : Int32} {s2 : Int32} {s3 : Int32} {s4 : Nat} {s5 : Int64} {M : fM} (h : j_L_law_1396 K18 φ p0 p1 p2 p3 s0 s1 s2 s3 s4 s5 M) : FW g mtL_law (d + 1) 1396 [(0, .ref p0), (1, .ref p1), (2, .ref p2), (3, .int p3)] [.int s0, .int s1, .int s2, .int s3, .ref s4, .long s5] M Bc Bs (rI φ) := by
  unfold j_L_law_1396 at h
  obtain ⟨⟨hr101, n100, hs102⟩, h_1⟩ := h
  refine fw_callV (mt' := mtX11_whether) (mc := 0) (ms := 0) (As := [.int s3, .int s2, .int s1, .int s0]) (rest := [.long s5]) 4 11 n100 (show decode _ _ = .ok (.invokevirtual 149, 3) by decide +kernel) cv_L_149 ⟨_, rfl, rfl⟩ hr101 hs102 rfl (Nat.le_of_ble_eq_true rfl) (s_X11_whether (d := d) (hd_le hd (by decide)) h_1) (by first | exact Nat.le_refl _ | exact Nat.le_add_right _ _ | exact Nat.zero_le _ | exact Nat.le_add_left _ _ | exact Nat.le_of_eq (Nat.add_sub_cancel).symm | decide) (by first | exact Nat.le_refl _ | exact Nat.le_add_right _ _ | exact Nat.zero_le _ | exact Nat.le_add_left _ _ | exact Nat.le_of_eq (Nat.add_sub_cancel).symm | decide) (kJ (bc' := Bc) (bs' := Bs) (by first | exact Nat.le_refl _ | exact Nat.le_add_right _ _ | exact Nat.zero_le _ | exact Nat.le_add_left _ _ | exact Nat.le_of_eq (Nat.add_sub_cancel).symm | decide) (by first | exact Nat.le_refl _ | exact Nat.le_add_right _ _ | exact Nat.zero_le _ | exact Nat.le_add_left _ _ | exact Nat.le_of_eq (Nat.add_sub_cancel).symm | decide) (fun x103 M99 h_2 => ?_))
  refine fw_lcmp (show decode _ _ = .ok (.lcmp, 1) by decide +kernel) ?_
  refine fw_if_eq 1833 (show decode _ _ = .ok (.ifCond .eq 433, 3) by decide +kernel) (by decide) (fun hc106 => ?_) (fun hc106 => ?_)
  · have h_3 := ipos hc106 h_2
    obtain ⟨x104, ex105⟩ : ∃ y : Int32, y = p3 + (7 : Int32) := ⟨_, rfl⟩
    have h_4 := h_3 x104 ex105
    refine fw_iinc (i := 3) (x := p3) (v := x104) (ls' := [(3, .int x104), (0, .ref p0), (1, .ref p1), (2, .ref p2)]) 3 rfl (show decode _ _ = .ok (.iinc 3 7, 3) by decide +kernel) (by rw [ex105]; rfl) (by decide) rfl ?_
    refine fw_goto 18 (show decode _ _ = .ok (.goto (-1818), 3) by decide +kernel) (by decide) ?_
    refine FW.sub [1, 2, 3, 0] (ls' := [(0, .ref p0), (1, .ref p1), (2, .ref p2), (3, .int x104)]) rfl ?_
    exact hK18 _ _ _ _ _ h_4
  · have h_5 := ineg hc106 h_2
    refine fw_iconst (v := (0 : Int32)) (show decode _ _ = .ok (.iconst 0, 1) by decide +kernel) (by decide) ?_
    exact fw_ret (v := some (.int (0 : Int32))) .ireturn (show decode _ _ = .ok (.ireturn, 1) by decide +kernel) ⟨rfl, Or.inr (Or.inl ⟨rfl, rfl⟩)⟩ ⟨_, rfl, h_5⟩
def j_L_law_1364 (K18 : Nat → Nat → Nat → Int32 → fM → Prop) (φ : Int32 → fM → Prop) (p0 : Nat) (p1 : Nat) (p2 : Nat) (p3 : Int32) (s0 : Int32) (s1 : Int32) (s2 : Int32) (s3 : Int32) (s4 : Nat) (M : fM) : Prop := isO M s4 10 ∧ w_X10_whether s4 s3 s2 s1 s0 M fun x111 M107 => inA M107 p0 12 (p3 + (1 : Int32)) ∧ inA M107 p0 12 (p3 + (2 : Int32)) ∧ inA M107 p0 12 (p3 + (3 : Int32)) ∧ inA M107 p0 12 (p3 + (4 : Int32)) ∧ iF ((mI M107 p0 (ix (p3 + (4 : Int32)))) = 0) (j_L_law_1396 K18 φ p0 p1 p2 p3 (0 : Int32) (mI M107 p0 (ix (p3 + (3 : Int32)))) (mI M107 p0 (ix (p3 + (2 : Int32)))) (mI M107 p0 (ix (p3 + (1 : Int32)))) p2 x111 M107) (j_L_law_1396 K18 φ p0 p1 p2 p3 (1 : Int32) (mI M107 p0 (ix (p3 + (3 : Int32)))) (mI M107 p0 (ix (p3 + (2 : Int32)))) (mI M107 p0 (ix (p3 + (1 : Int32)))) p2 x111 M107)
set_option maxRecDepth 100000 in
theorem sj_L_law_1364 {g : GT} {d Bc Bs : Nat} (hd : 80 ≤ d + 1) {K18 : Nat → Nat → Nat → Int32 → fM → Prop} {φ : Int32 → fM → Prop} (hK18 : ∀ (p0 : Nat) (p1 : Nat) (p2 : Nat) (p3 : Int32) (M : fM), K18 p0 p1 p2 p3 M → FW g mtL_law (d + 1) 18 [(0, .ref p0), (1, .ref p1), (2, .ref p2), (3, .int p3)] [] M Bc Bs (rI φ)) {p0 : Nat} {p1 : Nat} {p2 : Nat} {p3 : Int32} {s0 : Int32} {s1 : Int32} {s2 : Int32} {s3 : Int32} {s4 : Nat} {M : fM} (h : j_L_law_1364 K18 φ p0 p1 p2 p3 s0 s1 s2 s3 s4 M) : FW g mtL_law (d + 1) 1364 [(0, .ref p0), (1, .ref p1), (2, .ref p2), (3, .int p3)] [.int s0, .int s1, .int s2, .int s3, .ref s4] M Bc Bs (rI φ) := by
  unfold j_L_law_1364 at h
  obtain ⟨⟨hr109, n108, hs110⟩, h_1⟩ := h
  refine fw_callV (mt' := mtX10_whether) (mc := 0) (ms := 0) (As := [.int s3, .int s2, .int s1, .int s0]) (rest := []) 4 10 n108 (show decode _ _ = .ok (.invokevirtual 146, 3) by decide +kernel) cv_L_146 ⟨_, rfl, rfl⟩ hr109 hs110 rfl (Nat.le_of_ble_eq_true rfl) (s_X10_whether (d := d) (hd_le hd (by decide)) h_1) (by first | exact Nat.le_refl _ | exact Nat.le_add_right _ _ | exact Nat.zero_le _ | exact Nat.le_add_left _ _ | exact Nat.le_of_eq (Nat.add_sub_cancel).symm | decide) (by first | exact Nat.le_refl _ | exact Nat.le_add_right _ _ | exact Nat.zero_le _ | exact Nat.le_add_left _ _ | exact Nat.le_of_eq (Nat.add_sub_cancel).symm | decide) (kJ (bc' := Bc) (bs' := Bs) (by first | exact Nat.le_refl _ | exact Nat.le_add_right _ _ | exact Nat.zero_le _ | exact Nat.le_add_left _ _ | exact Nat.le_of_eq (Nat.add_sub_cancel).symm | decide) (by first | exact Nat.le_refl _ | exact Nat.le_add_right _ _ | exact Nat.zero_le _ | exact Nat.le_add_left _ _ | exact Nat.le_of_eq (Nat.add_sub_cancel).symm | decide) (fun x111 M107 h_2 => ?_))
  refine fw_aload_n (i := 2) 2 rfl (show decode _ _ = .ok (.aload_n 2, 1) by decide +kernel) ?_
  refine fw_aload_n (i := 0) 0 rfl (show decode _ _ = .ok (.aload_n 0, 1) by decide +kernel) ?_
  refine fw_iload_n (i := 3) 3 rfl (show decode _ _ = .ok (.iload_n 3, 1) by decide +kernel) ?_
  refine fw_iconst (v := (1 : Int32)) (show decode _ _ = .ok (.iconst 1, 1) by decide +kernel) (by decide) ?_
  refine fw_iadd (show decode _ _ = .ok (.iadd, 1) by decide +kernel) ?_
  obtain ⟨⟨n112, hs113, hi114⟩, h_3⟩ := h_2
  refine fw_iald (show decode _ _ = .ok (.iaload, 1) by decide +kernel) hs113 hi114 ?_
  refine fw_aload_n (i := 0) 0 rfl (show decode _ _ = .ok (.aload_n 0, 1) by decide +kernel) ?_
  refine fw_iload_n (i := 3) 3 rfl (show decode _ _ = .ok (.iload_n 3, 1) by decide +kernel) ?_
  refine fw_iconst (v := (2 : Int32)) (show decode _ _ = .ok (.iconst 2, 1) by decide +kernel) (by decide) ?_
  refine fw_iadd (show decode _ _ = .ok (.iadd, 1) by decide +kernel) ?_
  obtain ⟨⟨n115, hs116, hi117⟩, h_4⟩ := h_3
  refine fw_iald (show decode _ _ = .ok (.iaload, 1) by decide +kernel) hs116 hi117 ?_
  refine fw_aload_n (i := 0) 0 rfl (show decode _ _ = .ok (.aload_n 0, 1) by decide +kernel) ?_
  refine fw_iload_n (i := 3) 3 rfl (show decode _ _ = .ok (.iload_n 3, 1) by decide +kernel) ?_
  refine fw_iconst (v := (3 : Int32)) (show decode _ _ = .ok (.iconst 3, 1) by decide +kernel) (by decide) ?_
  refine fw_iadd (show decode _ _ = .ok (.iadd, 1) by decide +kernel) ?_
  obtain ⟨⟨n118, hs119, hi120⟩, h_5⟩ := h_4
  refine fw_iald (show decode _ _ = .ok (.iaload, 1) by decide +kernel) hs119 hi120 ?_
  refine fw_aload_n (i := 0) 0 rfl (show decode _ _ = .ok (.aload_n 0, 1) by decide +kernel) ?_
  refine fw_iload_n (i := 3) 3 rfl (show decode _ _ = .ok (.iload_n 3, 1) by decide +kernel) ?_
  refine fw_iconst (v := (4 : Int32)) (show decode _ _ = .ok (.iconst 4, 1) by decide +kernel) (by decide) ?_
  refine fw_iadd (show decode _ _ = .ok (.iadd, 1) by decide +kernel) ?_
  obtain ⟨⟨n121, hs122, hi123⟩, h_6⟩ := h_5
  refine fw_iald (show decode _ _ = .ok (.iaload, 1) by decide +kernel) hs122 hi123 ?_
  refine fw_if_eq 1395 (show decode _ _ = .ok (.ifCond .eq 7, 3) by decide +kernel) (by decide) (fun hc124 => ?_) (fun hc124 => ?_)
  · have h_7 := ipos hc124 h_6
    refine fw_iconst (v := (0 : Int32)) (show decode _ _ = .ok (.iconst 0, 1) by decide +kernel) (by decide) ?_
    refine FW.sub [0, 1, 2, 3] (ls' := [(0, .ref p0), (1, .ref p1), (2, .ref p2), (3, .int p3)]) rfl ?_
    exact sj_L_law_1396 hd hK18 h_7
  · have h_8 := ineg hc124 h_6
    refine fw_iconst (v := (1 : Int32)) (show decode _ _ = .ok (.iconst 1, 1) by decide +kernel) (by decide) ?_
    refine fw_goto 1396 (show decode _ _ = .ok (.goto 4, 3) by decide +kernel) (by decide) ?_
    refine FW.sub [0, 1, 2, 3] (ls' := [(0, .ref p0), (1, .ref p1), (2, .ref p2), (3, .int p3)]) rfl ?_
    exact sj_L_law_1396 hd hK18 h_8
def j_L_law_1326 (K18 : Nat → Nat → Nat → Int32 → fM → Prop) (φ : Int32 → fM → Prop) (p0 : Nat) (p1 : Nat) (p2 : Nat) (p3 : Int32) (s0 : Int32) (s1 : Int32) (s2 : Int32) (s3 : Int32) (s4 : Nat) (s5 : Int64) (M : fM) : Prop := isO M s4 11 ∧ w_X11_which s4 s3 s2 s1 s0 M fun x129 M125 => iF ((lg_cmp s5 x129) = 0) (nm (p3 + (7 : Int32)) fun x130 => K18 p0 p1 p2 x130 M125) (φ (0 : Int32) M125)
set_option maxRecDepth 100000 in
theorem sj_L_law_1326 {g : GT} {d Bc Bs : Nat} (hd : 80 ≤ d + 1) {K18 : Nat → Nat → Nat → Int32 → fM → Prop} {φ : Int32 → fM → Prop} (hK18 : ∀ (p0 : Nat) (p1 : Nat) (p2 : Nat) (p3 : Int32) (M : fM), K18 p0 p1 p2 p3 M → FW g mtL_law (d + 1) 18 [(0, .ref p0), (1, .ref p1), (2, .ref p2), (3, .int p3)] [] M Bc Bs (rI φ)) {p0 : Nat} {p1 : Nat} {p2 : Nat} {p3 : Int32} {s0 : Int32} {s1 : Int32} {s2 : Int32} {s3 : Int32} {s4 : Nat} {s5 : Int64} {M : fM} (h : j_L_law_1326 K18 φ p0 p1 p2 p3 s0 s1 s2 s3 s4 s5 M) : FW g mtL_law (d + 1) 1326 [(0, .ref p0), (1, .ref p1), (2, .ref p2), (3, .int p3)] [.int s0, .int s1, .int s2, .int s3, .ref s4, .long s5] M Bc Bs (rI φ) := by
  unfold j_L_law_1326 at h
  obtain ⟨⟨hr127, n126, hs128⟩, h_1⟩ := h
  refine fw_callV (mt' := mtX11_which) (mc := 0) (ms := 0) (As := [.int s3, .int s2, .int s1, .int s0]) (rest := [.long s5]) 4 11 n126 (show decode _ _ = .ok (.invokevirtual 145, 3) by decide +kernel) cv_L_145 ⟨_, rfl, rfl⟩ hr127 hs128 rfl (Nat.le_of_ble_eq_true rfl) (s_X11_which (d := d) (hd_le hd (by decide)) h_1) (by first | exact Nat.le_refl _ | exact Nat.le_add_right _ _ | exact Nat.zero_le _ | exact Nat.le_add_left _ _ | exact Nat.le_of_eq (Nat.add_sub_cancel).symm | decide) (by first | exact Nat.le_refl _ | exact Nat.le_add_right _ _ | exact Nat.zero_le _ | exact Nat.le_add_left _ _ | exact Nat.le_of_eq (Nat.add_sub_cancel).symm | decide) (kJ (bc' := Bc) (bs' := Bs) (by first | exact Nat.le_refl _ | exact Nat.le_add_right _ _ | exact Nat.zero_le _ | exact Nat.le_add_left _ _ | exact Nat.le_of_eq (Nat.add_sub_cancel).symm | decide) (by first | exact Nat.le_refl _ | exact Nat.le_add_right _ _ | exact Nat.zero_le _ | exact Nat.le_add_left _ _ | exact Nat.le_of_eq (Nat.add_sub_cancel).symm | decide) (fun x129 M125 h_2 => ?_))
  refine fw_lcmp (show decode _ _ = .ok (.lcmp, 1) by decide +kernel) ?_
  refine fw_if_eq 1833 (show decode _ _ = .ok (.ifCond .eq 503, 3) by decide +kernel) (by decide) (fun hc132 => ?_) (fun hc132 => ?_)
  · have h_3 := ipos hc132 h_2
    obtain ⟨x130, ex131⟩ : ∃ y : Int32, y = p3 + (7 : Int32) := ⟨_, rfl⟩
    have h_4 := h_3 x130 ex131
    refine fw_iinc (i := 3) (x := p3) (v := x130) (ls' := [(3, .int x130), (0, .ref p0), (1, .ref p1), (2, .ref p2)]) 3 rfl (show decode _ _ = .ok (.iinc 3 7, 3) by decide +kernel) (by rw [ex131]; rfl) (by decide) rfl ?_
    refine fw_goto 18 (show decode _ _ = .ok (.goto (-1818), 3) by decide +kernel) (by decide) ?_
    refine FW.sub [1, 2, 3, 0] (ls' := [(0, .ref p0), (1, .ref p1), (2, .ref p2), (3, .int x130)]) rfl ?_
    exact hK18 _ _ _ _ _ h_4
  · have h_5 := ineg hc132 h_2
    refine fw_iconst (v := (0 : Int32)) (show decode _ _ = .ok (.iconst 0, 1) by decide +kernel) (by decide) ?_
    exact fw_ret (v := some (.int (0 : Int32))) .ireturn (show decode _ _ = .ok (.ireturn, 1) by decide +kernel) ⟨rfl, Or.inr (Or.inl ⟨rfl, rfl⟩)⟩ ⟨_, rfl, h_5⟩
def j_L_law_1294 (K18 : Nat → Nat → Nat → Int32 → fM → Prop) (φ : Int32 → fM → Prop) (p0 : Nat) (p1 : Nat) (p2 : Nat) (p3 : Int32) (s0 : Int32) (s1 : Int32) (s2 : Int32) (s3 : Int32) (s4 : Nat) (M : fM) : Prop := isO M s4 10 ∧ w_X10_which s4 s3 s2 s1 s0 M fun x137 M133 => inA M133 p0 12 (p3 + (1 : Int32)) ∧ inA M133 p0 12 (p3 + (2 : Int32)) ∧ inA M133 p0 12 (p3 + (3 : Int32)) ∧ inA M133 p0 12 (p3 + (4 : Int32)) ∧ iF ((mI M133 p0 (ix (p3 + (4 : Int32)))) = 0) (j_L_law_1326 K18 φ p0 p1 p2 p3 (0 : Int32) (mI M133 p0 (ix (p3 + (3 : Int32)))) (mI M133 p0 (ix (p3 + (2 : Int32)))) (mI M133 p0 (ix (p3 + (1 : Int32)))) p2 x137 M133) (j_L_law_1326 K18 φ p0 p1 p2 p3 (1 : Int32) (mI M133 p0 (ix (p3 + (3 : Int32)))) (mI M133 p0 (ix (p3 + (2 : Int32)))) (mI M133 p0 (ix (p3 + (1 : Int32)))) p2 x137 M133)
set_option maxRecDepth 100000 in
theorem sj_L_law_1294 {g : GT} {d Bc Bs : Nat} (hd : 80 ≤ d + 1) {K18 : Nat → Nat → Nat → Int32 → fM → Prop} {φ : Int32 → fM → Prop} (hK18 : ∀ (p0 : Nat) (p1 : Nat) (p2 : Nat) (p3 : Int32) (M : fM), K18 p0 p1 p2 p3 M → FW g mtL_law (d + 1) 18 [(0, .ref p0), (1, .ref p1), (2, .ref p2), (3, .int p3)] [] M Bc Bs (rI φ)) {p0 : Nat} {p1 : Nat} {p2 : Nat} {p3 : Int32} {s0 : Int32} {s1 : Int32} {s2 : Int32} {s3 : Int32} {s4 : Nat} {M : fM} (h : j_L_law_1294 K18 φ p0 p1 p2 p3 s0 s1 s2 s3 s4 M) : FW g mtL_law (d + 1) 1294 [(0, .ref p0), (1, .ref p1), (2, .ref p2), (3, .int p3)] [.int s0, .int s1, .int s2, .int s3, .ref s4] M Bc Bs (rI φ) := by
  unfold j_L_law_1294 at h
  obtain ⟨⟨hr135, n134, hs136⟩, h_1⟩ := h
  refine fw_callV (mt' := mtX10_which) (mc := 0) (ms := 0) (As := [.int s3, .int s2, .int s1, .int s0]) (rest := []) 4 10 n134 (show decode _ _ = .ok (.invokevirtual 141, 3) by decide +kernel) cv_L_141 ⟨_, rfl, rfl⟩ hr135 hs136 rfl (Nat.le_of_ble_eq_true rfl) (s_X10_which (d := d) (hd_le hd (by decide)) h_1) (by first | exact Nat.le_refl _ | exact Nat.le_add_right _ _ | exact Nat.zero_le _ | exact Nat.le_add_left _ _ | exact Nat.le_of_eq (Nat.add_sub_cancel).symm | decide) (by first | exact Nat.le_refl _ | exact Nat.le_add_right _ _ | exact Nat.zero_le _ | exact Nat.le_add_left _ _ | exact Nat.le_of_eq (Nat.add_sub_cancel).symm | decide) (kJ (bc' := Bc) (bs' := Bs) (by first | exact Nat.le_refl _ | exact Nat.le_add_right _ _ | exact Nat.zero_le _ | exact Nat.le_add_left _ _ | exact Nat.le_of_eq (Nat.add_sub_cancel).symm | decide) (by first | exact Nat.le_refl _ | exact Nat.le_add_right _ _ | exact Nat.zero_le _ | exact Nat.le_add_left _ _ | exact Nat.le_of_eq (Nat.add_sub_cancel).symm | decide) (fun x137 M133 h_2 => ?_))
  refine fw_aload_n (i := 2) 2 rfl (show decode _ _ = .ok (.aload_n 2, 1) by decide +kernel) ?_
  refine fw_aload_n (i := 0) 0 rfl (show decode _ _ = .ok (.aload_n 0, 1) by decide +kernel) ?_
  refine fw_iload_n (i := 3) 3 rfl (show decode _ _ = .ok (.iload_n 3, 1) by decide +kernel) ?_
  refine fw_iconst (v := (1 : Int32)) (show decode _ _ = .ok (.iconst 1, 1) by decide +kernel) (by decide) ?_
  refine fw_iadd (show decode _ _ = .ok (.iadd, 1) by decide +kernel) ?_
  obtain ⟨⟨n138, hs139, hi140⟩, h_3⟩ := h_2
  refine fw_iald (show decode _ _ = .ok (.iaload, 1) by decide +kernel) hs139 hi140 ?_
  refine fw_aload_n (i := 0) 0 rfl (show decode _ _ = .ok (.aload_n 0, 1) by decide +kernel) ?_
  refine fw_iload_n (i := 3) 3 rfl (show decode _ _ = .ok (.iload_n 3, 1) by decide +kernel) ?_
  refine fw_iconst (v := (2 : Int32)) (show decode _ _ = .ok (.iconst 2, 1) by decide +kernel) (by decide) ?_
  refine fw_iadd (show decode _ _ = .ok (.iadd, 1) by decide +kernel) ?_
  obtain ⟨⟨n141, hs142, hi143⟩, h_4⟩ := h_3
  refine fw_iald (show decode _ _ = .ok (.iaload, 1) by decide +kernel) hs142 hi143 ?_
  refine fw_aload_n (i := 0) 0 rfl (show decode _ _ = .ok (.aload_n 0, 1) by decide +kernel) ?_
  refine fw_iload_n (i := 3) 3 rfl (show decode _ _ = .ok (.iload_n 3, 1) by decide +kernel) ?_
  refine fw_iconst (v := (3 : Int32)) (show decode _ _ = .ok (.iconst 3, 1) by decide +kernel) (by decide) ?_
  refine fw_iadd (show decode _ _ = .ok (.iadd, 1) by decide +kernel) ?_
  obtain ⟨⟨n144, hs145, hi146⟩, h_5⟩ := h_4
  refine fw_iald (show decode _ _ = .ok (.iaload, 1) by decide +kernel) hs145 hi146 ?_
  refine fw_aload_n (i := 0) 0 rfl (show decode _ _ = .ok (.aload_n 0, 1) by decide +kernel) ?_
  refine fw_iload_n (i := 3) 3 rfl (show decode _ _ = .ok (.iload_n 3, 1) by decide +kernel) ?_
  refine fw_iconst (v := (4 : Int32)) (show decode _ _ = .ok (.iconst 4, 1) by decide +kernel) (by decide) ?_
  refine fw_iadd (show decode _ _ = .ok (.iadd, 1) by decide +kernel) ?_
  obtain ⟨⟨n147, hs148, hi149⟩, h_6⟩ := h_5
  refine fw_iald (show decode _ _ = .ok (.iaload, 1) by decide +kernel) hs148 hi149 ?_
  refine fw_if_eq 1325 (show decode _ _ = .ok (.ifCond .eq 7, 3) by decide +kernel) (by decide) (fun hc150 => ?_) (fun hc150 => ?_)
  · have h_7 := ipos hc150 h_6
    refine fw_iconst (v := (0 : Int32)) (show decode _ _ = .ok (.iconst 0, 1) by decide +kernel) (by decide) ?_
    refine FW.sub [0, 1, 2, 3] (ls' := [(0, .ref p0), (1, .ref p1), (2, .ref p2), (3, .int p3)]) rfl ?_
    exact sj_L_law_1326 hd hK18 h_7
  · have h_8 := ineg hc150 h_6
    refine fw_iconst (v := (1 : Int32)) (show decode _ _ = .ok (.iconst 1, 1) by decide +kernel) (by decide) ?_
    refine fw_goto 1326 (show decode _ _ = .ok (.goto 4, 3) by decide +kernel) (by decide) ?_
    refine FW.sub [0, 1, 2, 3] (ls' := [(0, .ref p0), (1, .ref p1), (2, .ref p2), (3, .int p3)]) rfl ?_
    exact sj_L_law_1326 hd hK18 h_8
def j_L_law_1084 (K18 : Nat → Nat → Nat → Int32 → fM → Prop) (φ : Int32 → fM → Prop) (p0 : Nat) (p1 : Nat) (p2 : Nat) (p3 : Int32) (s0 : Int32) (s1 : Int32) (s2 : Int32) (s3 : Int32) (s4 : Int32) (s5 : Nat) (s6 : Int64) (M : fM) : Prop := isO M s5 11 ∧ w_X11_cost s5 s4 s3 s2 s1 s0 M fun x155 M151 => iF ((lg_cmp s6 x155) = 0) (nm (p3 + (7 : Int32)) fun x156 => K18 p0 p1 p2 x156 M151) (φ (0 : Int32) M151)
set_option maxRecDepth 100000 in
theorem sj_L_law_1084 {g : GT} {d Bc Bs : Nat} (hd : 80 ≤ d + 1) {K18 : Nat → Nat → Nat → Int32 → fM → Prop} {φ : Int32 → fM → Prop} (hK18 : ∀ (p0 : Nat) (p1 : Nat) (p2 : Nat) (p3 : Int32) (M : fM), K18 p0 p1 p2 p3 M → FW g mtL_law (d + 1) 18 [(0, .ref p0), (1, .ref p1), (2, .ref p2), (3, .int p3)] [] M Bc Bs (rI φ)) {p0 : Nat} {p1 : Nat} {p2 : Nat} {p3 : Int32} {s0 : Int32} {s1 : Int32} {s2 : Int32} {s3 : Int32} {s4 : Int32} {s5 : Nat} {s6 : Int64} {M : fM} (h : j_L_law_1084 K18 φ p0 p1 p2 p3 s0 s1 s2 s3 s4 s5 s6 M) : FW g mtL_law (d + 1) 1084 [(0, .ref p0), (1, .ref p1), (2, .ref p2), (3, .int p3)] [.int s0, .int s1, .int s2, .int s3, .int s4, .ref s5, .long s6] M Bc Bs (rI φ) := by
  unfold j_L_law_1084 at h
  obtain ⟨⟨hr153, n152, hs154⟩, h_1⟩ := h
  refine fw_callV (mt' := mtX11_cost) (mc := 0) (ms := 0) (As := [.int s4, .int s3, .int s2, .int s1, .int s0]) (rest := [.long s6]) 5 11 n152 (show decode _ _ = .ok (.invokevirtual 123, 3) by decide +kernel) cv_L_123 ⟨_, rfl, rfl⟩ hr153 hs154 rfl (Nat.le_of_ble_eq_true rfl) (s_X11_cost (d := d) (hd_le hd (by decide)) h_1) (by first | exact Nat.le_refl _ | exact Nat.le_add_right _ _ | exact Nat.zero_le _ | exact Nat.le_add_left _ _ | exact Nat.le_of_eq (Nat.add_sub_cancel).symm | decide) (by first | exact Nat.le_refl _ | exact Nat.le_add_right _ _ | exact Nat.zero_le _ | exact Nat.le_add_left _ _ | exact Nat.le_of_eq (Nat.add_sub_cancel).symm | decide) (kJ (bc' := Bc) (bs' := Bs) (by first | exact Nat.le_refl _ | exact Nat.le_add_right _ _ | exact Nat.zero_le _ | exact Nat.le_add_left _ _ | exact Nat.le_of_eq (Nat.add_sub_cancel).symm | decide) (by first | exact Nat.le_refl _ | exact Nat.le_add_right _ _ | exact Nat.zero_le _ | exact Nat.le_add_left _ _ | exact Nat.le_of_eq (Nat.add_sub_cancel).symm | decide) (fun x155 M151 h_2 => ?_))
  refine fw_lcmp (show decode _ _ = .ok (.lcmp, 1) by decide +kernel) ?_
  refine fw_if_eq 1833 (show decode _ _ = .ok (.ifCond .eq 745, 3) by decide +kernel) (by decide) (fun hc158 => ?_) (fun hc158 => ?_)
  · have h_3 := ipos hc158 h_2
    obtain ⟨x156, ex157⟩ : ∃ y : Int32, y = p3 + (7 : Int32) := ⟨_, rfl⟩
    have h_4 := h_3 x156 ex157
    refine fw_iinc (i := 3) (x := p3) (v := x156) (ls' := [(3, .int x156), (0, .ref p0), (1, .ref p1), (2, .ref p2)]) 3 rfl (show decode _ _ = .ok (.iinc 3 7, 3) by decide +kernel) (by rw [ex157]; rfl) (by decide) rfl ?_
    refine fw_goto 18 (show decode _ _ = .ok (.goto (-1818), 3) by decide +kernel) (by decide) ?_
    refine FW.sub [1, 2, 3, 0] (ls' := [(0, .ref p0), (1, .ref p1), (2, .ref p2), (3, .int x156)]) rfl ?_
    exact hK18 _ _ _ _ _ h_4
  · have h_5 := ineg hc158 h_2
    refine fw_iconst (v := (0 : Int32)) (show decode _ _ = .ok (.iconst 0, 1) by decide +kernel) (by decide) ?_
    exact fw_ret (v := some (.int (0 : Int32))) .ireturn (show decode _ _ = .ok (.ireturn, 1) by decide +kernel) ⟨rfl, Or.inr (Or.inl ⟨rfl, rfl⟩)⟩ ⟨_, rfl, h_5⟩
def j_L_law_1047 (K18 : Nat → Nat → Nat → Int32 → fM → Prop) (φ : Int32 → fM → Prop) (p0 : Nat) (p1 : Nat) (p2 : Nat) (p3 : Int32) (s0 : Int32) (s1 : Int32) (s2 : Int32) (s3 : Int32) (s4 : Int32) (s5 : Nat) (M : fM) : Prop := isO M s5 10 ∧ w_X10_cost s5 s4 s3 s2 s1 s0 M fun x163 M159 => inA M159 p0 12 (p3 + (1 : Int32)) ∧ inA M159 p0 12 (p3 + (2 : Int32)) ∧ inA M159 p0 12 (p3 + (3 : Int32)) ∧ inA M159 p0 12 (p3 + (4 : Int32)) ∧ inA M159 p0 12 (p3 + (5 : Int32)) ∧ iF ((mI M159 p0 (ix (p3 + (5 : Int32)))) = 0) (j_L_law_1084 K18 φ p0 p1 p2 p3 (0 : Int32) (mI M159 p0 (ix (p3 + (4 : Int32)))) (mI M159 p0 (ix (p3 + (3 : Int32)))) (mI M159 p0 (ix (p3 + (2 : Int32)))) (mI M159 p0 (ix (p3 + (1 : Int32)))) p2 x163 M159) (j_L_law_1084 K18 φ p0 p1 p2 p3 (1 : Int32) (mI M159 p0 (ix (p3 + (4 : Int32)))) (mI M159 p0 (ix (p3 + (3 : Int32)))) (mI M159 p0 (ix (p3 + (2 : Int32)))) (mI M159 p0 (ix (p3 + (1 : Int32)))) p2 x163 M159)
set_option maxRecDepth 100000 in
theorem sj_L_law_1047 {g : GT} {d Bc Bs : Nat} (hd : 80 ≤ d + 1) {K18 : Nat → Nat → Nat → Int32 → fM → Prop} {φ : Int32 → fM → Prop} (hK18 : ∀ (p0 : Nat) (p1 : Nat) (p2 : Nat) (p3 : Int32) (M : fM), K18 p0 p1 p2 p3 M → FW g mtL_law (d + 1) 18 [(0, .ref p0), (1, .ref p1), (2, .ref p2), (3, .int p3)] [] M Bc Bs (rI φ)) {p0 : Nat} {p1 : Nat} {p2 : Nat} {p3 : Int32} {s0 : Int32} {s1 : Int32} {s2 : Int32} {s3 : Int32} {s4 : Int32} {s5 : Nat} {M : fM} (h : j_L_law_1047 K18 φ p0 p1 p2 p3 s0 s1 s2 s3 s4 s5 M) : FW g mtL_law (d + 1) 1047 [(0, .ref p0), (1, .ref p1), (2, .ref p2), (3, .int p3)] [.int s0, .int s1, .int s2, .int s3, .int s4, .ref s5] M Bc Bs (rI φ) := by
  unfold j_L_law_1047 at h
  obtain ⟨⟨hr161, n160, hs162⟩, h_1⟩ := h
  refine fw_callV (mt' := mtX10_cost) (mc := 0) (ms := 0) (As := [.int s4, .int s3, .int s2, .int s1, .int s0]) (rest := []) 5 10 n160 (show decode _ _ = .ok (.invokevirtual 119, 3) by decide +kernel) cv_L_119 ⟨_, rfl, rfl⟩ hr161 hs162 rfl (Nat.le_of_ble_eq_true rfl) (s_X10_cost (d := d) (hd_le hd (by decide)) h_1) (by first | exact Nat.le_refl _ | exact Nat.le_add_right _ _ | exact Nat.zero_le _ | exact Nat.le_add_left _ _ | exact Nat.le_of_eq (Nat.add_sub_cancel).symm | decide) (by first | exact Nat.le_refl _ | exact Nat.le_add_right _ _ | exact Nat.zero_le _ | exact Nat.le_add_left _ _ | exact Nat.le_of_eq (Nat.add_sub_cancel).symm | decide) (kJ (bc' := Bc) (bs' := Bs) (by first | exact Nat.le_refl _ | exact Nat.le_add_right _ _ | exact Nat.zero_le _ | exact Nat.le_add_left _ _ | exact Nat.le_of_eq (Nat.add_sub_cancel).symm | decide) (by first | exact Nat.le_refl _ | exact Nat.le_add_right _ _ | exact Nat.zero_le _ | exact Nat.le_add_left _ _ | exact Nat.le_of_eq (Nat.add_sub_cancel).symm | decide) (fun x163 M159 h_2 => ?_))
  refine fw_aload_n (i := 2) 2 rfl (show decode _ _ = .ok (.aload_n 2, 1) by decide +kernel) ?_
  refine fw_aload_n (i := 0) 0 rfl (show decode _ _ = .ok (.aload_n 0, 1) by decide +kernel) ?_
  refine fw_iload_n (i := 3) 3 rfl (show decode _ _ = .ok (.iload_n 3, 1) by decide +kernel) ?_
  refine fw_iconst (v := (1 : Int32)) (show decode _ _ = .ok (.iconst 1, 1) by decide +kernel) (by decide) ?_
  refine fw_iadd (show decode _ _ = .ok (.iadd, 1) by decide +kernel) ?_
  obtain ⟨⟨n164, hs165, hi166⟩, h_3⟩ := h_2
  refine fw_iald (show decode _ _ = .ok (.iaload, 1) by decide +kernel) hs165 hi166 ?_
  refine fw_aload_n (i := 0) 0 rfl (show decode _ _ = .ok (.aload_n 0, 1) by decide +kernel) ?_
  refine fw_iload_n (i := 3) 3 rfl (show decode _ _ = .ok (.iload_n 3, 1) by decide +kernel) ?_
  refine fw_iconst (v := (2 : Int32)) (show decode _ _ = .ok (.iconst 2, 1) by decide +kernel) (by decide) ?_
  refine fw_iadd (show decode _ _ = .ok (.iadd, 1) by decide +kernel) ?_
  obtain ⟨⟨n167, hs168, hi169⟩, h_4⟩ := h_3
  refine fw_iald (show decode _ _ = .ok (.iaload, 1) by decide +kernel) hs168 hi169 ?_
  refine fw_aload_n (i := 0) 0 rfl (show decode _ _ = .ok (.aload_n 0, 1) by decide +kernel) ?_
  refine fw_iload_n (i := 3) 3 rfl (show decode _ _ = .ok (.iload_n 3, 1) by decide +kernel) ?_
  refine fw_iconst (v := (3 : Int32)) (show decode _ _ = .ok (.iconst 3, 1) by decide +kernel) (by decide) ?_
  refine fw_iadd (show decode _ _ = .ok (.iadd, 1) by decide +kernel) ?_
  obtain ⟨⟨n170, hs171, hi172⟩, h_5⟩ := h_4
  refine fw_iald (show decode _ _ = .ok (.iaload, 1) by decide +kernel) hs171 hi172 ?_
  refine fw_aload_n (i := 0) 0 rfl (show decode _ _ = .ok (.aload_n 0, 1) by decide +kernel) ?_
  refine fw_iload_n (i := 3) 3 rfl (show decode _ _ = .ok (.iload_n 3, 1) by decide +kernel) ?_
  refine fw_iconst (v := (4 : Int32)) (show decode _ _ = .ok (.iconst 4, 1) by decide +kernel) (by decide) ?_
  refine fw_iadd (show decode _ _ = .ok (.iadd, 1) by decide +kernel) ?_
  obtain ⟨⟨n173, hs174, hi175⟩, h_6⟩ := h_5
  refine fw_iald (show decode _ _ = .ok (.iaload, 1) by decide +kernel) hs174 hi175 ?_
  refine fw_aload_n (i := 0) 0 rfl (show decode _ _ = .ok (.aload_n 0, 1) by decide +kernel) ?_
  refine fw_iload_n (i := 3) 3 rfl (show decode _ _ = .ok (.iload_n 3, 1) by decide +kernel) ?_
  refine fw_iconst (v := (5 : Int32)) (show decode _ _ = .ok (.iconst 5, 1) by decide +kernel) (by decide) ?_
  refine fw_iadd (show decode _ _ = .ok (.iadd, 1) by decide +kernel) ?_
  obtain ⟨⟨n176, hs177, hi178⟩, h_7⟩ := h_6
  refine fw_iald (show decode _ _ = .ok (.iaload, 1) by decide +kernel) hs177 hi178 ?_
  refine fw_if_eq 1083 (show decode _ _ = .ok (.ifCond .eq 7, 3) by decide +kernel) (by decide) (fun hc179 => ?_) (fun hc179 => ?_)
  · have h_8 := ipos hc179 h_7
    refine fw_iconst (v := (0 : Int32)) (show decode _ _ = .ok (.iconst 0, 1) by decide +kernel) (by decide) ?_
    refine FW.sub [0, 1, 2, 3] (ls' := [(0, .ref p0), (1, .ref p1), (2, .ref p2), (3, .int p3)]) rfl ?_
    exact sj_L_law_1084 hd hK18 h_8
  · have h_9 := ineg hc179 h_7
    refine fw_iconst (v := (1 : Int32)) (show decode _ _ = .ok (.iconst 1, 1) by decide +kernel) (by decide) ?_
    refine fw_goto 1084 (show decode _ _ = .ok (.goto 4, 3) by decide +kernel) (by decide) ?_
    refine FW.sub [0, 1, 2, 3] (ls' := [(0, .ref p0), (1, .ref p1), (2, .ref p2), (3, .int p3)]) rfl ?_
    exact sj_L_law_1084 hd hK18 h_9
def j_L_law_1004 (K18 : Nat → Nat → Nat → Int32 → fM → Prop) (φ : Int32 → fM → Prop) (p0 : Nat) (p1 : Nat) (p2 : Nat) (p3 : Int32) (s0 : Int32) (s1 : Int32) (s2 : Int32) (s3 : Int32) (s4 : Int32) (s5 : Int32) (s6 : Nat) (s7 : Int64) (M : fM) : Prop := isO M s6 11 ∧ w_X11_where s6 s5 s4 s3 s2 s1 s0 M fun x184 M180 => iF ((lg_cmp s7 x184) = 0) (nm (p3 + (7 : Int32)) fun x185 => K18 p0 p1 p2 x185 M180) (φ (0 : Int32) M180)
set_option maxRecDepth 100000 in
theorem sj_L_law_1004 {g : GT} {d Bc Bs : Nat} (hd : 80 ≤ d + 1) {K18 : Nat → Nat → Nat → Int32 → fM → Prop} {φ : Int32 → fM → Prop} (hK18 : ∀ (p0 : Nat) (p1 : Nat) (p2 : Nat) (p3 : Int32) (M : fM), K18 p0 p1 p2 p3 M → FW g mtL_law (d + 1) 18 [(0, .ref p0), (1, .ref p1), (2, .ref p2), (3, .int p3)] [] M Bc Bs (rI φ)) {p0 : Nat} {p1 : Nat} {p2 : Nat} {p3 : Int32} {s0 : Int32} {s1 : Int32} {s2 : Int32} {s3 : Int32} {s4 : Int32} {s5 : Int32} {s6 : Nat} {s7 : Int64} {M : fM} (h : j_L_law_1004 K18 φ p0 p1 p2 p3 s0 s1 s2 s3 s4 s5 s6 s7 M) : FW g mtL_law (d + 1) 1004 [(0, .ref p0), (1, .ref p1), (2, .ref p2), (3, .int p3)] [.int s0, .int s1, .int s2, .int s3, .int s4, .int s5, .ref s6, .long s7] M Bc Bs (rI φ) := by
  unfold j_L_law_1004 at h
  obtain ⟨⟨hr182, n181, hs183⟩, h_1⟩ := h
  refine fw_callV (mt' := mtX11_where) (mc := 0) (ms := 0) (As := [.int s5, .int s4, .int s3, .int s2, .int s1, .int s0]) (rest := [.long s7]) 6 11 n181 (show decode _ _ = .ok (.invokevirtual 118, 3) by decide +kernel) cv_L_118 ⟨_, rfl, rfl⟩ hr182 hs183 rfl (Nat.le_of_ble_eq_true rfl) (s_X11_where (d := d) (hd_le hd (by decide)) h_1) (by first | exact Nat.le_refl _ | exact Nat.le_add_right _ _ | exact Nat.zero_le _ | exact Nat.le_add_left _ _ | exact Nat.le_of_eq (Nat.add_sub_cancel).symm | decide) (by first | exact Nat.le_refl _ | exact Nat.le_add_right _ _ | exact Nat.zero_le _ | exact Nat.le_add_left _ _ | exact Nat.le_of_eq (Nat.add_sub_cancel).symm | decide) (kJ (bc' := Bc) (bs' := Bs) (by first | exact Nat.le_refl _ | exact Nat.le_add_right _ _ | exact Nat.zero_le _ | exact Nat.le_add_left _ _ | exact Nat.le_of_eq (Nat.add_sub_cancel).symm | decide) (by first | exact Nat.le_refl _ | exact Nat.le_add_right _ _ | exact Nat.zero_le _ | exact Nat.le_add_left _ _ | exact Nat.le_of_eq (Nat.add_sub_cancel).symm | decide) (fun x184 M180 h_2 => ?_))
  refine fw_lcmp (show decode _ _ = .ok (.lcmp, 1) by decide +kernel) ?_
  refine fw_if_eq 1833 (show decode _ _ = .ok (.ifCond .eq 825, 3) by decide +kernel) (by decide) (fun hc187 => ?_) (fun hc187 => ?_)
  · have h_3 := ipos hc187 h_2
    obtain ⟨x185, ex186⟩ : ∃ y : Int32, y = p3 + (7 : Int32) := ⟨_, rfl⟩
    have h_4 := h_3 x185 ex186
    refine fw_iinc (i := 3) (x := p3) (v := x185) (ls' := [(3, .int x185), (0, .ref p0), (1, .ref p1), (2, .ref p2)]) 3 rfl (show decode _ _ = .ok (.iinc 3 7, 3) by decide +kernel) (by rw [ex186]; rfl) (by decide) rfl ?_
    refine fw_goto 18 (show decode _ _ = .ok (.goto (-1818), 3) by decide +kernel) (by decide) ?_
    refine FW.sub [1, 2, 3, 0] (ls' := [(0, .ref p0), (1, .ref p1), (2, .ref p2), (3, .int x185)]) rfl ?_
    exact hK18 _ _ _ _ _ h_4
  · have h_5 := ineg hc187 h_2
    refine fw_iconst (v := (0 : Int32)) (show decode _ _ = .ok (.iconst 0, 1) by decide +kernel) (by decide) ?_
    exact fw_ret (v := some (.int (0 : Int32))) .ireturn (show decode _ _ = .ok (.ireturn, 1) by decide +kernel) ⟨rfl, Or.inr (Or.inl ⟨rfl, rfl⟩)⟩ ⟨_, rfl, h_5⟩
def j_L_law_961 (K18 : Nat → Nat → Nat → Int32 → fM → Prop) (φ : Int32 → fM → Prop) (p0 : Nat) (p1 : Nat) (p2 : Nat) (p3 : Int32) (s0 : Int32) (s1 : Int32) (s2 : Int32) (s3 : Int32) (s4 : Int32) (s5 : Int32) (s6 : Nat) (M : fM) : Prop := isO M s6 10 ∧ w_X10_where s6 s5 s4 s3 s2 s1 s0 M fun x192 M188 => inA M188 p0 12 (p3 + (1 : Int32)) ∧ inA M188 p0 12 (p3 + (2 : Int32)) ∧ inA M188 p0 12 (p3 + (3 : Int32)) ∧ inA M188 p0 12 (p3 + (4 : Int32)) ∧ inA M188 p0 12 (p3 + (5 : Int32)) ∧ inA M188 p0 12 (p3 + (6 : Int32)) ∧ iF ((mI M188 p0 (ix (p3 + (6 : Int32)))) = 0) (j_L_law_1004 K18 φ p0 p1 p2 p3 (0 : Int32) (mI M188 p0 (ix (p3 + (5 : Int32)))) (mI M188 p0 (ix (p3 + (4 : Int32)))) (mI M188 p0 (ix (p3 + (3 : Int32)))) (mI M188 p0 (ix (p3 + (2 : Int32)))) (mI M188 p0 (ix (p3 + (1 : Int32)))) p2 x192 M188) (j_L_law_1004 K18 φ p0 p1 p2 p3 (1 : Int32) (mI M188 p0 (ix (p3 + (5 : Int32)))) (mI M188 p0 (ix (p3 + (4 : Int32)))) (mI M188 p0 (ix (p3 + (3 : Int32)))) (mI M188 p0 (ix (p3 + (2 : Int32)))) (mI M188 p0 (ix (p3 + (1 : Int32)))) p2 x192 M188)
set_option maxRecDepth 100000 in
theorem sj_L_law_961 {g : GT} {d Bc Bs : Nat} (hd : 80 ≤ d + 1) {K18 : Nat → Nat → Nat → Int32 → fM → Prop} {φ : Int32 → fM → Prop} (hK18 : ∀ (p0 : Nat) (p1 : Nat) (p2 : Nat) (p3 : Int32) (M : fM), K18 p0 p1 p2 p3 M → FW g mtL_law (d + 1) 18 [(0, .ref p0), (1, .ref p1), (2, .ref p2), (3, .int p3)] [] M Bc Bs (rI φ)) {p0 : Nat} {p1 : Nat} {p2 : Nat} {p3 : Int32} {s0 : Int32} {s1 : Int32} {s2 : Int32} {s3 : Int32} {s4 : Int32} {s5 : Int32} {s6 : Nat} {M : fM} (h : j_L_law_961 K18 φ p0 p1 p2 p3 s0 s1 s2 s3 s4 s5 s6 M) : FW g mtL_law (d + 1) 961 [(0, .ref p0), (1, .ref p1), (2, .ref p2), (3, .int p3)] [.int s0, .int s1, .int s2, .int s3, .int s4, .int s5, .ref s6] M Bc Bs (rI φ) := by
  unfold j_L_law_961 at h
  obtain ⟨⟨hr190, n189, hs191⟩, h_1⟩ := h
  refine fw_callV (mt' := mtX10_where) (mc := 0) (ms := 0) (As := [.int s5, .int s4, .int s3, .int s2, .int s1, .int s0]) (rest := []) 6 10 n189 (show decode _ _ = .ok (.invokevirtual 114, 3) by decide +kernel) cv_L_114 ⟨_, rfl, rfl⟩ hr190 hs191 rfl (Nat.le_of_ble_eq_true rfl) (s_X10_where (d := d) (hd_le hd (by decide)) h_1) (by first | exact Nat.le_refl _ | exact Nat.le_add_right _ _ | exact Nat.zero_le _ | exact Nat.le_add_left _ _ | exact Nat.le_of_eq (Nat.add_sub_cancel).symm | decide) (by first | exact Nat.le_refl _ | exact Nat.le_add_right _ _ | exact Nat.zero_le _ | exact Nat.le_add_left _ _ | exact Nat.le_of_eq (Nat.add_sub_cancel).symm | decide) (kJ (bc' := Bc) (bs' := Bs) (by first | exact Nat.le_refl _ | exact Nat.le_add_right _ _ | exact Nat.zero_le _ | exact Nat.le_add_left _ _ | exact Nat.le_of_eq (Nat.add_sub_cancel).symm | decide) (by first | exact Nat.le_refl _ | exact Nat.le_add_right _ _ | exact Nat.zero_le _ | exact Nat.le_add_left _ _ | exact Nat.le_of_eq (Nat.add_sub_cancel).symm | decide) (fun x192 M188 h_2 => ?_))
  refine fw_aload_n (i := 2) 2 rfl (show decode _ _ = .ok (.aload_n 2, 1) by decide +kernel) ?_
  refine fw_aload_n (i := 0) 0 rfl (show decode _ _ = .ok (.aload_n 0, 1) by decide +kernel) ?_
  refine fw_iload_n (i := 3) 3 rfl (show decode _ _ = .ok (.iload_n 3, 1) by decide +kernel) ?_
  refine fw_iconst (v := (1 : Int32)) (show decode _ _ = .ok (.iconst 1, 1) by decide +kernel) (by decide) ?_
  refine fw_iadd (show decode _ _ = .ok (.iadd, 1) by decide +kernel) ?_
  obtain ⟨⟨n193, hs194, hi195⟩, h_3⟩ := h_2
  refine fw_iald (show decode _ _ = .ok (.iaload, 1) by decide +kernel) hs194 hi195 ?_
  refine fw_aload_n (i := 0) 0 rfl (show decode _ _ = .ok (.aload_n 0, 1) by decide +kernel) ?_
  refine fw_iload_n (i := 3) 3 rfl (show decode _ _ = .ok (.iload_n 3, 1) by decide +kernel) ?_
  refine fw_iconst (v := (2 : Int32)) (show decode _ _ = .ok (.iconst 2, 1) by decide +kernel) (by decide) ?_
  refine fw_iadd (show decode _ _ = .ok (.iadd, 1) by decide +kernel) ?_
  obtain ⟨⟨n196, hs197, hi198⟩, h_4⟩ := h_3
  refine fw_iald (show decode _ _ = .ok (.iaload, 1) by decide +kernel) hs197 hi198 ?_
  refine fw_aload_n (i := 0) 0 rfl (show decode _ _ = .ok (.aload_n 0, 1) by decide +kernel) ?_
  refine fw_iload_n (i := 3) 3 rfl (show decode _ _ = .ok (.iload_n 3, 1) by decide +kernel) ?_
  refine fw_iconst (v := (3 : Int32)) (show decode _ _ = .ok (.iconst 3, 1) by decide +kernel) (by decide) ?_
  refine fw_iadd (show decode _ _ = .ok (.iadd, 1) by decide +kernel) ?_
  obtain ⟨⟨n199, hs200, hi201⟩, h_5⟩ := h_4
  refine fw_iald (show decode _ _ = .ok (.iaload, 1) by decide +kernel) hs200 hi201 ?_
  refine fw_aload_n (i := 0) 0 rfl (show decode _ _ = .ok (.aload_n 0, 1) by decide +kernel) ?_
  refine fw_iload_n (i := 3) 3 rfl (show decode _ _ = .ok (.iload_n 3, 1) by decide +kernel) ?_
  refine fw_iconst (v := (4 : Int32)) (show decode _ _ = .ok (.iconst 4, 1) by decide +kernel) (by decide) ?_
  refine fw_iadd (show decode _ _ = .ok (.iadd, 1) by decide +kernel) ?_
  obtain ⟨⟨n202, hs203, hi204⟩, h_6⟩ := h_5
  refine fw_iald (show decode _ _ = .ok (.iaload, 1) by decide +kernel) hs203 hi204 ?_
  refine fw_aload_n (i := 0) 0 rfl (show decode _ _ = .ok (.aload_n 0, 1) by decide +kernel) ?_
  refine fw_iload_n (i := 3) 3 rfl (show decode _ _ = .ok (.iload_n 3, 1) by decide +kernel) ?_
  refine fw_iconst (v := (5 : Int32)) (show decode _ _ = .ok (.iconst 5, 1) by decide +kernel) (by decide) ?_
  refine fw_iadd (show decode _ _ = .ok (.iadd, 1) by decide +kernel) ?_
  obtain ⟨⟨n205, hs206, hi207⟩, h_7⟩ := h_6
  refine fw_iald (show decode _ _ = .ok (.iaload, 1) by decide +kernel) hs206 hi207 ?_
  refine fw_aload_n (i := 0) 0 rfl (show decode _ _ = .ok (.aload_n 0, 1) by decide +kernel) ?_
  refine fw_iload_n (i := 3) 3 rfl (show decode _ _ = .ok (.iload_n 3, 1) by decide +kernel) ?_
  refine fw_bipush (v := (6 : Int32)) (show decode _ _ = .ok (.bipush 6, 2) by decide +kernel) (by decide) ?_
  refine fw_iadd (show decode _ _ = .ok (.iadd, 1) by decide +kernel) ?_
  obtain ⟨⟨n208, hs209, hi210⟩, h_8⟩ := h_7
  refine fw_iald (show decode _ _ = .ok (.iaload, 1) by decide +kernel) hs209 hi210 ?_
  refine fw_if_eq 1003 (show decode _ _ = .ok (.ifCond .eq 7, 3) by decide +kernel) (by decide) (fun hc211 => ?_) (fun hc211 => ?_)
  · have h_9 := ipos hc211 h_8
    refine fw_iconst (v := (0 : Int32)) (show decode _ _ = .ok (.iconst 0, 1) by decide +kernel) (by decide) ?_
    refine FW.sub [0, 1, 2, 3] (ls' := [(0, .ref p0), (1, .ref p1), (2, .ref p2), (3, .int p3)]) rfl ?_
    exact sj_L_law_1004 hd hK18 h_9
  · have h_10 := ineg hc211 h_8
    refine fw_iconst (v := (1 : Int32)) (show decode _ _ = .ok (.iconst 1, 1) by decide +kernel) (by decide) ?_
    refine fw_goto 1004 (show decode _ _ = .ok (.goto 4, 3) by decide +kernel) (by decide) ?_
    refine FW.sub [0, 1, 2, 3] (ls' := [(0, .ref p0), (1, .ref p1), (2, .ref p2), (3, .int p3)]) rfl ?_
    exact sj_L_law_1004 hd hK18 h_10
def j_L_law_343 (K18 : Nat → Nat → Nat → Int32 → fM → Prop) (φ : Int32 → fM → Prop) (p0 : Nat) (p1 : Nat) (p2 : Nat) (p3 : Int32) (s0 : Int32) (s1 : Int32) (s2 : Int32) (s3 : Nat) (s4 : Int32) (M : fM) : Prop := isO M s3 11 ∧ w_X11_mark s3 s2 s1 s0 M fun x216 M212 => iF (s4 = x216) (nm (p3 + (7 : Int32)) fun x217 => K18 p0 p1 p2 x217 M212) (φ (0 : Int32) M212)
set_option maxRecDepth 100000 in
theorem sj_L_law_343 {g : GT} {d Bc Bs : Nat} (hd : 80 ≤ d + 1) {K18 : Nat → Nat → Nat → Int32 → fM → Prop} {φ : Int32 → fM → Prop} (hK18 : ∀ (p0 : Nat) (p1 : Nat) (p2 : Nat) (p3 : Int32) (M : fM), K18 p0 p1 p2 p3 M → FW g mtL_law (d + 1) 18 [(0, .ref p0), (1, .ref p1), (2, .ref p2), (3, .int p3)] [] M Bc Bs (rI φ)) {p0 : Nat} {p1 : Nat} {p2 : Nat} {p3 : Int32} {s0 : Int32} {s1 : Int32} {s2 : Int32} {s3 : Nat} {s4 : Int32} {M : fM} (h : j_L_law_343 K18 φ p0 p1 p2 p3 s0 s1 s2 s3 s4 M) : FW g mtL_law (d + 1) 343 [(0, .ref p0), (1, .ref p1), (2, .ref p2), (3, .int p3)] [.int s0, .int s1, .int s2, .ref s3, .int s4] M Bc Bs (rI φ) := by
  unfold j_L_law_343 at h
  obtain ⟨⟨hr214, n213, hs215⟩, h_1⟩ := h
  refine fw_callV (mt' := mtX11_mark) (mc := 0) (ms := 0) (As := [.int s2, .int s1, .int s0]) (rest := [.int s4]) 3 11 n213 (show decode _ _ = .ok (.invokevirtual 27, 3) by decide +kernel) cv_L_27 ⟨_, rfl, rfl⟩ hr214 hs215 rfl (Nat.le_of_ble_eq_true rfl) (s_X11_mark (d := d) (hd_le hd (by decide)) h_1) (by first | exact Nat.le_refl _ | exact Nat.le_add_right _ _ | exact Nat.zero_le _ | exact Nat.le_add_left _ _ | exact Nat.le_of_eq (Nat.add_sub_cancel).symm | decide) (by first | exact Nat.le_refl _ | exact Nat.le_add_right _ _ | exact Nat.zero_le _ | exact Nat.le_add_left _ _ | exact Nat.le_of_eq (Nat.add_sub_cancel).symm | decide) (kI (bc' := Bc) (bs' := Bs) (by first | exact Nat.le_refl _ | exact Nat.le_add_right _ _ | exact Nat.zero_le _ | exact Nat.le_add_left _ _ | exact Nat.le_of_eq (Nat.add_sub_cancel).symm | decide) (by first | exact Nat.le_refl _ | exact Nat.le_add_right _ _ | exact Nat.zero_le _ | exact Nat.le_add_left _ _ | exact Nat.le_of_eq (Nat.add_sub_cancel).symm | decide) (fun x216 M212 h_2 => ?_))
  refine fw_icmp_eq 1833 (show decode _ _ = .ok (.if_icmp .eq 1487, 3) by decide +kernel) (by decide) (fun hc219 => ?_) (fun hc219 => ?_)
  · have h_3 := ipos hc219 h_2
    obtain ⟨x217, ex218⟩ : ∃ y : Int32, y = p3 + (7 : Int32) := ⟨_, rfl⟩
    have h_4 := h_3 x217 ex218
    refine fw_iinc (i := 3) (x := p3) (v := x217) (ls' := [(3, .int x217), (0, .ref p0), (1, .ref p1), (2, .ref p2)]) 3 rfl (show decode _ _ = .ok (.iinc 3 7, 3) by decide +kernel) (by rw [ex218]; rfl) (by decide) rfl ?_
    refine fw_goto 18 (show decode _ _ = .ok (.goto (-1818), 3) by decide +kernel) (by decide) ?_
    refine FW.sub [1, 2, 3, 0] (ls' := [(0, .ref p0), (1, .ref p1), (2, .ref p2), (3, .int x217)]) rfl ?_
    exact hK18 _ _ _ _ _ h_4
  · have h_5 := ineg hc219 h_2
    refine fw_iconst (v := (0 : Int32)) (show decode _ _ = .ok (.iconst 0, 1) by decide +kernel) (by decide) ?_
    exact fw_ret (v := some (.int (0 : Int32))) .ireturn (show decode _ _ = .ok (.ireturn, 1) by decide +kernel) ⟨rfl, Or.inr (Or.inl ⟨rfl, rfl⟩)⟩ ⟨_, rfl, h_5⟩
def j_L_law_316 (K18 : Nat → Nat → Nat → Int32 → fM → Prop) (φ : Int32 → fM → Prop) (p0 : Nat) (p1 : Nat) (p2 : Nat) (p3 : Int32) (s0 : Int32) (s1 : Int32) (s2 : Int32) (s3 : Nat) (M : fM) : Prop := isO M s3 10 ∧ w_X10_mark s3 s2 s1 s0 M fun x224 M220 => inA M220 p0 12 (p3 + (1 : Int32)) ∧ inA M220 p0 12 (p3 + (2 : Int32)) ∧ inA M220 p0 12 (p3 + (3 : Int32)) ∧ iF ((mI M220 p0 (ix (p3 + (3 : Int32)))) = 0) (j_L_law_343 K18 φ p0 p1 p2 p3 (0 : Int32) (mI M220 p0 (ix (p3 + (2 : Int32)))) (mI M220 p0 (ix (p3 + (1 : Int32)))) p2 x224 M220) (j_L_law_343 K18 φ p0 p1 p2 p3 (1 : Int32) (mI M220 p0 (ix (p3 + (2 : Int32)))) (mI M220 p0 (ix (p3 + (1 : Int32)))) p2 x224 M220)
set_option maxRecDepth 100000 in
theorem sj_L_law_316 {g : GT} {d Bc Bs : Nat} (hd : 80 ≤ d + 1) {K18 : Nat → Nat → Nat → Int32 → fM → Prop} {φ : Int32 → fM → Prop} (hK18 : ∀ (p0 : Nat) (p1 : Nat) (p2 : Nat) (p3 : Int32) (M : fM), K18 p0 p1 p2 p3 M → FW g mtL_law (d + 1) 18 [(0, .ref p0), (1, .ref p1), (2, .ref p2), (3, .int p3)] [] M Bc Bs (rI φ)) {p0 : Nat} {p1 : Nat} {p2 : Nat} {p3 : Int32} {s0 : Int32} {s1 : Int32} {s2 : Int32} {s3 : Nat} {M : fM} (h : j_L_law_316 K18 φ p0 p1 p2 p3 s0 s1 s2 s3 M) : FW g mtL_law (d + 1) 316 [(0, .ref p0), (1, .ref p1), (2, .ref p2), (3, .int p3)] [.int s0, .int s1, .int s2, .ref s3] M Bc Bs (rI φ) := by
  unfold j_L_law_316 at h
  obtain ⟨⟨hr222, n221, hs223⟩, h_1⟩ := h
  refine fw_callV (mt' := mtX10_mark) (mc := 0) (ms := 0) (As := [.int s2, .int s1, .int s0]) (rest := []) 3 10 n221 (show decode _ _ = .ok (.invokevirtual 23, 3) by decide +kernel) cv_L_23 ⟨_, rfl, rfl⟩ hr222 hs223 rfl (Nat.le_of_ble_eq_true rfl) (s_X10_mark (d := d) (hd_le hd (by decide)) h_1) (by first | exact Nat.le_refl _ | exact Nat.le_add_right _ _ | exact Nat.zero_le _ | exact Nat.le_add_left _ _ | exact Nat.le_of_eq (Nat.add_sub_cancel).symm | decide) (by first | exact Nat.le_refl _ | exact Nat.le_add_right _ _ | exact Nat.zero_le _ | exact Nat.le_add_left _ _ | exact Nat.le_of_eq (Nat.add_sub_cancel).symm | decide) (kI (bc' := Bc) (bs' := Bs) (by first | exact Nat.le_refl _ | exact Nat.le_add_right _ _ | exact Nat.zero_le _ | exact Nat.le_add_left _ _ | exact Nat.le_of_eq (Nat.add_sub_cancel).symm | decide) (by first | exact Nat.le_refl _ | exact Nat.le_add_right _ _ | exact Nat.zero_le _ | exact Nat.le_add_left _ _ | exact Nat.le_of_eq (Nat.add_sub_cancel).symm | decide) (fun x224 M220 h_2 => ?_))
  refine fw_aload_n (i := 2) 2 rfl (show decode _ _ = .ok (.aload_n 2, 1) by decide +kernel) ?_
  refine fw_aload_n (i := 0) 0 rfl (show decode _ _ = .ok (.aload_n 0, 1) by decide +kernel) ?_
  refine fw_iload_n (i := 3) 3 rfl (show decode _ _ = .ok (.iload_n 3, 1) by decide +kernel) ?_
  refine fw_iconst (v := (1 : Int32)) (show decode _ _ = .ok (.iconst 1, 1) by decide +kernel) (by decide) ?_
  refine fw_iadd (show decode _ _ = .ok (.iadd, 1) by decide +kernel) ?_
  obtain ⟨⟨n225, hs226, hi227⟩, h_3⟩ := h_2
  refine fw_iald (show decode _ _ = .ok (.iaload, 1) by decide +kernel) hs226 hi227 ?_
  refine fw_aload_n (i := 0) 0 rfl (show decode _ _ = .ok (.aload_n 0, 1) by decide +kernel) ?_
  refine fw_iload_n (i := 3) 3 rfl (show decode _ _ = .ok (.iload_n 3, 1) by decide +kernel) ?_
  refine fw_iconst (v := (2 : Int32)) (show decode _ _ = .ok (.iconst 2, 1) by decide +kernel) (by decide) ?_
  refine fw_iadd (show decode _ _ = .ok (.iadd, 1) by decide +kernel) ?_
  obtain ⟨⟨n228, hs229, hi230⟩, h_4⟩ := h_3
  refine fw_iald (show decode _ _ = .ok (.iaload, 1) by decide +kernel) hs229 hi230 ?_
  refine fw_aload_n (i := 0) 0 rfl (show decode _ _ = .ok (.aload_n 0, 1) by decide +kernel) ?_
  refine fw_iload_n (i := 3) 3 rfl (show decode _ _ = .ok (.iload_n 3, 1) by decide +kernel) ?_
  refine fw_iconst (v := (3 : Int32)) (show decode _ _ = .ok (.iconst 3, 1) by decide +kernel) (by decide) ?_
  refine fw_iadd (show decode _ _ = .ok (.iadd, 1) by decide +kernel) ?_
  obtain ⟨⟨n231, hs232, hi233⟩, h_5⟩ := h_4
  refine fw_iald (show decode _ _ = .ok (.iaload, 1) by decide +kernel) hs232 hi233 ?_
  refine fw_if_eq 342 (show decode _ _ = .ok (.ifCond .eq 7, 3) by decide +kernel) (by decide) (fun hc234 => ?_) (fun hc234 => ?_)
  · have h_6 := ipos hc234 h_5
    refine fw_iconst (v := (0 : Int32)) (show decode _ _ = .ok (.iconst 0, 1) by decide +kernel) (by decide) ?_
    refine FW.sub [0, 1, 2, 3] (ls' := [(0, .ref p0), (1, .ref p1), (2, .ref p2), (3, .int p3)]) rfl ?_
    exact sj_L_law_343 hd hK18 h_6
  · have h_7 := ineg hc234 h_5
    refine fw_iconst (v := (1 : Int32)) (show decode _ _ = .ok (.iconst 1, 1) by decide +kernel) (by decide) ?_
    refine fw_goto 343 (show decode _ _ = .ok (.goto 4, 3) by decide +kernel) (by decide) ?_
    refine FW.sub [0, 1, 2, 3] (ls' := [(0, .ref p0), (1, .ref p1), (2, .ref p2), (3, .int p3)]) rfl ?_
    exact sj_L_law_343 hd hK18 h_7
def b_L_law_18 (K18 : Nat → Nat → Nat → Int32 → fM → Prop) (φ : Int32 → fM → Prop) (p0 : Nat) (p1 : Nat) (p2 : Nat) (p3 : Int32) (M : fM) : Prop := lenA M p0 12 fun n235 => iF (((nI n235) - (7 : Int32)) < p3) (φ (1 : Int32) M) (inA M p0 12 p3 ∧ nm ((mI M p0 (ix p3)) &&& (63 : Int32)) fun x240 => iF (x240 = (0 : Int32)) (inA M p0 12 (p3 + (1 : Int32)) ∧ inA M p0 12 (p3 + (2 : Int32)) ∧ isO M p1 10 ∧ w_X10_stair p1 (mI M p0 (ix (p3 + (1 : Int32)))) (mI M p0 (ix (p3 + (2 : Int32)))) M fun x252 M248 => inA M248 p0 12 (p3 + (1 : Int32)) ∧ inA M248 p0 12 (p3 + (2 : Int32)) ∧ isO M248 p2 11 ∧ w_X11_stair p2 (mI M248 p0 (ix (p3 + (1 : Int32)))) (mI M248 p0 (ix (p3 + (2 : Int32)))) M248 fun x263 M259 => iF (x252 = x263) (nm (p3 + (7 : Int32)) fun x264 => K18 p0 p1 p2 x264 M259) (φ (0 : Int32) M259)) (iF (x240 = (1 : Int32)) (inA M p0 12 (p3 + (1 : Int32)) ∧ inA M p0 12 (p3 + (2 : Int32)) ∧ inA M p0 12 (p3 + (3 : Int32)) ∧ isO M p1 10 ∧ w_X10_height p1 (mI M p0 (ix (p3 + (1 : Int32)))) (mI M p0 (ix (p3 + (2 : Int32)))) (mI M p0 (ix (p3 + (3 : Int32)))) M fun x281 M277 => inA M277 p0 12 (p3 + (1 : Int32)) ∧ inA M277 p0 12 (p3 + (2 : Int32)) ∧ inA M277 p0 12 (p3 + (3 : Int32)) ∧ isO M277 p2 11 ∧ w_X11_height p2 (mI M277 p0 (ix (p3 + (1 : Int32)))) (mI M277 p0 (ix (p3 + (2 : Int32)))) (mI M277 p0 (ix (p3 + (3 : Int32)))) M277 fun x295 M291 => iF (x281 = x295) (nm (p3 + (7 : Int32)) fun x296 => K18 p0 p1 p2 x296 M291) (φ (0 : Int32) M291)) (iF (x240 = (2 : Int32)) (inA M p0 12 (p3 + (1 : Int32)) ∧ inA M p0 12 (p3 + (2 : Int32)) ∧ inA M p0 12 (p3 + (3 : Int32)) ∧ iF ((mI M p0 (ix (p3 + (3 : Int32)))) = 0) (j_L_law_316 K18 φ p0 p1 p2 p3 (0 : Int32) (mI M p0 (ix (p3 + (2 : Int32)))) (mI M p0 (ix (p3 + (1 : Int32)))) p1 M) (j_L_law_316 K18 φ p0 p1 p2 p3 (1 : Int32) (mI M p0 (ix (p3 + (2 : Int32)))) (mI M p0 (ix (p3 + (1 : Int32)))) p1 M)) (iF (x240 = (3 : Int32)) (inA M p0 12 (p3 + (1 : Int32)) ∧ inA M p0 12 (p3 + (2 : Int32)) ∧ isO M p1 10 ∧ w_X10_rail p1 (mI M p0 (ix (p3 + (1 : Int32)))) (mI M p0 (ix (p3 + (2 : Int32)))) M fun x321 M317 => inA M317 p0 12 (p3 + (1 : Int32)) ∧ inA M317 p0 12 (p3 + (2 : Int32)) ∧ isO M317 p2 11 ∧ w_X11_rail p2 (mI M317 p0 (ix (p3 + (1 : Int32)))) (mI M317 p0 (ix (p3 + (2 : Int32)))) M317 fun x332 M328 => iF (x321 = x332) (nm (p3 + (7 : Int32)) fun x333 => K18 p0 p1 p2 x333 M328) (φ (0 : Int32) M328)) (iF (x240 = (4 : Int32)) (inA M p0 12 (p3 + (1 : Int32)) ∧ inA M p0 12 (p3 + (2 : Int32)) ∧ inA M p0 12 (p3 + (3 : Int32)) ∧ isO M p1 10 ∧ w_X10_person p1 (mI M p0 (ix (p3 + (1 : Int32)))) (mI M p0 (ix (p3 + (2 : Int32)))) (mI M p0 (ix (p3 + (3 : Int32)))) M fun x350 M346 => inA M346 p0 12 (p3 + (1 : Int32)) ∧ inA M346 p0 12 (p3 + (2 : Int32)) ∧ inA M346 p0 12 (p3 + (3 : Int32)) ∧ isO M346 p2 11 ∧ w_X11_person p2 (mI M346 p0 (ix (p3 + (1 : Int32)))) (mI M346 p0 (ix (p3 + (2 : Int32)))) (mI M346 p0 (ix (p3 + (3 : Int32)))) M346 fun x364 M360 => iF (x350 = x364) (nm (p3 + (7 : Int32)) fun x365 => K18 p0 p1 p2 x365 M360) (φ (0 : Int32) M360)) (iF (x240 = (5 : Int32)) (inA M p0 12 (p3 + (1 : Int32)) ∧ isO M p1 10 ∧ w_X10_seed p1 (mI M p0 (ix (p3 + (1 : Int32)))) M fun x376 M372 => inA M372 p0 12 (p3 + (1 : Int32)) ∧ isO M372 p2 11 ∧ w_X11_seed p2 (mI M372 p0 (ix (p3 + (1 : Int32)))) M372 fun x384 M380 => iF (x376 = x384) (nm (p3 + (7 : Int32)) fun x385 => K18 p0 p1 p2 x385 M380) (φ (0 : Int32) M380)) (iF (x240 = (6 : Int32)) (inA M p0 12 (p3 + (1 : Int32)) ∧ inA M p0 12 (p3 + (2 : Int32)) ∧ inA M p0 12 (p3 + (3 : Int32)) ∧ inA M p0 12 (p3 + (4 : Int32)) ∧ inA M p0 12 (p3 + (5 : Int32)) ∧ isO M p1 10 ∧ w_X10_feed p1 (mI M p0 (ix (p3 + (1 : Int32)))) (mI M p0 (ix (p3 + (2 : Int32)))) (mI M p0 (ix (p3 + (3 : Int32)))) (mI M p0 (ix (p3 + (4 : Int32)))) (mI M p0 (ix (p3 + (5 : Int32)))) M fun x408 M404 => inA M404 p0 12 (p3 + (1 : Int32)) ∧ inA M404 p0 12 (p3 + (2 : Int32)) ∧ inA M404 p0 12 (p3 + (3 : Int32)) ∧ inA M404 p0 12 (p3 + (4 : Int32)) ∧ inA M404 p0 12 (p3 + (5 : Int32)) ∧ isO M404 p2 11 ∧ w_X11_feed p2 (mI M404 p0 (ix (p3 + (1 : Int32)))) (mI M404 p0 (ix (p3 + (2 : Int32)))) (mI M404 p0 (ix (p3 + (3 : Int32)))) (mI M404 p0 (ix (p3 + (4 : Int32)))) (mI M404 p0 (ix (p3 + (5 : Int32)))) M404 fun x428 M424 => iF (x408 = x428) (nm (p3 + (7 : Int32)) fun x429 => K18 p0 p1 p2 x429 M424) (φ (0 : Int32) M424)) (iF (x240 = (7 : Int32)) (inA M p0 12 (p3 + (1 : Int32)) ∧ isO M p1 10 ∧ w_X10_end p1 (mI M p0 (ix (p3 + (1 : Int32)))) M fun x440 M436 => inA M436 p0 12 (p3 + (1 : Int32)) ∧ isO M436 p2 11 ∧ w_X11_end p2 (mI M436 p0 (ix (p3 + (1 : Int32)))) M436 fun x448 M444 => iF (x440 = x448) (nm (p3 + (7 : Int32)) fun x449 => K18 p0 p1 p2 x449 M444) (φ (0 : Int32) M444)) (iF (x240 = (8 : Int32)) (isO M p1 10 ∧ w_X10_text p1 M fun x457 M453 => isO M453 p2 11 ∧ w_X11_text p2 M453 fun x462 M458 => iF (x457 = x462) (nm (p3 + (7 : Int32)) fun x463 => K18 p0 p1 p2 x463 M458) (φ (0 : Int32) M458)) (iF (x240 = (9 : Int32)) (inA M p0 12 (p3 + (1 : Int32)) ∧ isO M p1 10 ∧ w_X10_fault p1 (mI M p0 (ix (p3 + (1 : Int32)))) M fun x474 M470 => inA M470 p0 12 (p3 + (1 : Int32)) ∧ isO M470 p2 11 ∧ w_X11_fault p2 (mI M470 p0 (ix (p3 + (1 : Int32)))) M470 fun x482 M478 => iF (x474 = x482) (nm (p3 + (7 : Int32)) fun x483 => K18 p0 p1 p2 x483 M478) (φ (0 : Int32) M478)) (iF (x240 = (10 : Int32)) (inA M p0 12 (p3 + (1 : Int32)) ∧ isO M p1 10 ∧ w_X10_by p1 (mI M p0 (ix (p3 + (1 : Int32)))) M fun x494 M490 => inA M490 p0 12 (p3 + (1 : Int32)) ∧ isO M490 p2 11 ∧ w_X11_by p2 (mI M490 p0 (ix (p3 + (1 : Int32)))) M490 fun x502 M498 => iF (x494 = x502) (nm (p3 + (7 : Int32)) fun x503 => K18 p0 p1 p2 x503 M498) (φ (0 : Int32) M498)) (iF (x240 = (11 : Int32)) (inA M p0 12 (p3 + (1 : Int32)) ∧ inA M p0 12 (p3 + (2 : Int32)) ∧ inA M p0 12 (p3 + (3 : Int32)) ∧ isO M p1 10 ∧ w_X10_begin p1 (mI M p0 (ix (p3 + (1 : Int32)))) (mI M p0 (ix (p3 + (2 : Int32)))) (mI M p0 (ix (p3 + (3 : Int32)))) M fun x520 M516 => inA M516 p0 12 (p3 + (1 : Int32)) ∧ inA M516 p0 12 (p3 + (2 : Int32)) ∧ inA M516 p0 12 (p3 + (3 : Int32)) ∧ isO M516 p2 11 ∧ w_X11_begin p2 (mI M516 p0 (ix (p3 + (1 : Int32)))) (mI M516 p0 (ix (p3 + (2 : Int32)))) (mI M516 p0 (ix (p3 + (3 : Int32)))) M516 fun x534 M530 => iF (x520 = x534) (nm (p3 + (7 : Int32)) fun x535 => K18 p0 p1 p2 x535 M530) (φ (0 : Int32) M530)) (iF (x240 = (12 : Int32)) (isO M p1 10 ∧ w_X10_step p1 M fun x543 M539 => isO M539 p2 11 ∧ w_X11_step p2 M539 fun x548 M544 => iF (x543 = x548) (nm (p3 + (7 : Int32)) fun x549 => K18 p0 p1 p2 x549 M544) (φ (0 : Int32) M544)) (iF (x240 = (13 : Int32)) (isO M p1 10 ∧ w_X10_toe p1 M fun x557 M553 => isO M553 p2 11 ∧ w_X11_toe p2 M553 fun x562 M558 => iF (x557 = x562) (nm (p3 + (7 : Int32)) fun x563 => K18 p0 p1 p2 x563 M558) (φ (0 : Int32) M558)) (iF (x240 = (14 : Int32)) (isO M p1 10 ∧ w_X10_stop p1 M fun x571 M567 => isO M567 p2 11 ∧ w_X11_stop p2 M567 fun x576 M572 => iF (x571 = x576) (nm (p3 + (7 : Int32)) fun x577 => K18 p0 p1 p2 x577 M572) (φ (0 : Int32) M572)) (iF (x240 = (15 : Int32)) (inA M p0 12 (p3 + (1 : Int32)) ∧ isO M p1 10 ∧ w_X10_night p1 (mI M p0 (ix (p3 + (1 : Int32)))) M fun x588 M584 => inA M584 p0 12 (p3 + (1 : Int32)) ∧ isO M584 p2 11 ∧ w_X11_night p2 (mI M584 p0 (ix (p3 + (1 : Int32)))) M584 fun x596 M592 => iF (x588 = x596) (nm (p3 + (7 : Int32)) fun x597 => K18 p0 p1 p2 x597 M592) (φ (0 : Int32) M592)) (iF (x240 = (16 : Int32)) (inA M p0 12 (p3 + (1 : Int32)) ∧ isO M p1 10 ∧ w_X10_played p1 (mI M p0 (ix (p3 + (1 : Int32)))) M fun x608 M604 => inA M604 p0 12 (p3 + (1 : Int32)) ∧ isO M604 p2 11 ∧ w_X11_played p2 (mI M604 p0 (ix (p3 + (1 : Int32)))) M604 fun x616 M612 => iF (x608 = x616) (nm (p3 + (7 : Int32)) fun x617 => K18 p0 p1 p2 x617 M612) (φ (0 : Int32) M612)) (iF (x240 = (17 : Int32)) (inA M p0 12 (p3 + (1 : Int32)) ∧ inA M p0 12 (p3 + (2 : Int32)) ∧ isO M p1 10 ∧ w_X10_week p1 (mI M p0 (ix (p3 + (1 : Int32)))) (mI M p0 (ix (p3 + (2 : Int32)))) M fun x631 M627 => inA M627 p0 12 (p3 + (1 : Int32)) ∧ inA M627 p0 12 (p3 + (2 : Int32)) ∧ isO M627 p2 11 ∧ w_X11_week p2 (mI M627 p0 (ix (p3 + (1 : Int32)))) (mI M627 p0 (ix (p3 + (2 : Int32)))) M627 fun x642 M638 => iF (x631 = x642) (nm (p3 + (7 : Int32)) fun x643 => K18 p0 p1 p2 x643 M638) (φ (0 : Int32) M638)) (iF (x240 = (18 : Int32)) (isO M p1 10 ∧ w_X10_undo p1 M fun x651 M647 => isO M647 p2 11 ∧ w_X11_undo p2 M647 fun x656 M652 => iF (x651 = x656) (nm (p3 + (7 : Int32)) fun x657 => K18 p0 p1 p2 x657 M652) (φ (0 : Int32) M652)) (iF (x240 = (19 : Int32)) (inA M p0 12 (p3 + (1 : Int32)) ∧ isO M p1 10 ∧ w_X10_way p1 (mI M p0 (ix (p3 + (1 : Int32)))) M fun x668 M664 => inA M664 p0 12 (p3 + (1 : Int32)) ∧ isO M664 p2 11 ∧ w_X11_way p2 (mI M664 p0 (ix (p3 + (1 : Int32)))) M664 fun x676 M672 => iF (x668 = x676) (nm (p3 + (7 : Int32)) fun x677 => K18 p0 p1 p2 x677 M672) (φ (0 : Int32) M672)) (iF (x240 = (20 : Int32)) (inA M p0 12 (p3 + (1 : Int32)) ∧ inA M p0 12 (p3 + (2 : Int32)) ∧ isO M p1 10 ∧ w_X10_house p1 (mI M p0 (ix (p3 + (1 : Int32)))) (mI M p0 (ix (p3 + (2 : Int32)))) M fun x691 M687 => inA M687 p0 12 (p3 + (1 : Int32)) ∧ inA M687 p0 12 (p3 + (2 : Int32)) ∧ isO M687 p2 11 ∧ w_X11_house p2 (mI M687 p0 (ix (p3 + (1 : Int32)))) (mI M687 p0 (ix (p3 + (2 : Int32)))) M687 fun x702 M698 => iF (x691 = x702) (nm (p3 + (7 : Int32)) fun x703 => K18 p0 p1 p2 x703 M698) (φ (0 : Int32) M698)) (iF (x240 = (21 : Int32)) (inA M p0 12 (p3 + (1 : Int32)) ∧ inA M p0 12 (p3 + (2 : Int32)) ∧ inA M p0 12 (p3 + (3 : Int32)) ∧ inA M p0 12 (p3 + (4 : Int32)) ∧ inA M p0 12 (p3 + (5 : Int32)) ∧ isO M p1 10 ∧ w_X10_says p1 (mI M p0 (ix (p3 + (1 : Int32)))) (mI M p0 (ix (p3 + (2 : Int32)))) (mI M p0 (ix (p3 + (3 : Int32)))) (mI M p0 (ix (p3 + (4 : Int32)))) (mI M p0 (ix (p3 + (5 : Int32)))) M fun x726 M722 => inA M722 p0 12 (p3 + (1 : Int32)) ∧ inA M722 p0 12 (p3 + (2 : Int32)) ∧ inA M722 p0 12 (p3 + (3 : Int32)) ∧ inA M722 p0 12 (p3 + (4 : Int32)) ∧ inA M722 p0 12 (p3 + (5 : Int32)) ∧ isO M722 p2 11 ∧ w_X11_says p2 (mI M722 p0 (ix (p3 + (1 : Int32)))) (mI M722 p0 (ix (p3 + (2 : Int32)))) (mI M722 p0 (ix (p3 + (3 : Int32)))) (mI M722 p0 (ix (p3 + (4 : Int32)))) (mI M722 p0 (ix (p3 + (5 : Int32)))) M722 fun x746 M742 => iF (x726 = x746) (nm (p3 + (7 : Int32)) fun x747 => K18 p0 p1 p2 x747 M742) (φ (0 : Int32) M742)) (iF (x240 = (22 : Int32)) (inA M p0 12 (p3 + (1 : Int32)) ∧ inA M p0 12 (p3 + (2 : Int32)) ∧ isO M p1 10 ∧ w_X10_book p1 (mI M p0 (ix (p3 + (1 : Int32)))) (mI M p0 (ix (p3 + (2 : Int32)))) M fun x761 M757 => inA M757 p0 12 (p3 + (1 : Int32)) ∧ inA M757 p0 12 (p3 + (2 : Int32)) ∧ isO M757 p2 11 ∧ w_X11_book p2 (mI M757 p0 (ix (p3 + (1 : Int32)))) (mI M757 p0 (ix (p3 + (2 : Int32)))) M757 fun x772 M768 => iF (x761 = x772) (nm (p3 + (7 : Int32)) fun x773 => K18 p0 p1 p2 x773 M768) (φ (0 : Int32) M768)) (iF (x240 = (23 : Int32)) (inA M p0 12 (p3 + (1 : Int32)) ∧ inA M p0 12 (p3 + (2 : Int32)) ∧ inA M p0 12 (p3 + (3 : Int32)) ∧ inA M p0 12 (p3 + (4 : Int32)) ∧ inA M p0 12 (p3 + (5 : Int32)) ∧ inA M p0 12 (p3 + (6 : Int32)) ∧ iF ((mI M p0 (ix (p3 + (6 : Int32)))) = 0) (j_L_law_961 K18 φ p0 p1 p2 p3 (0 : Int32) (mI M p0 (ix (p3 + (5 : Int32)))) (mI M p0 (ix (p3 + (4 : Int32)))) (mI M p0 (ix (p3 + (3 : Int32)))) (mI M p0 (ix (p3 + (2 : Int32)))) (mI M p0 (ix (p3 + (1 : Int32)))) p1 M) (j_L_law_961 K18 φ p0 p1 p2 p3 (1 : Int32) (mI M p0 (ix (p3 + (5 : Int32)))) (mI M p0 (ix (p3 + (4 : Int32)))) (mI M p0 (ix (p3 + (3 : Int32)))) (mI M p0 (ix (p3 + (2 : Int32)))) (mI M p0 (ix (p3 + (1 : Int32)))) p1 M)) (iF (x240 = (24 : Int32)) (inA M p0 12 (p3 + (1 : Int32)) ∧ inA M p0 12 (p3 + (2 : Int32)) ∧ inA M p0 12 (p3 + (3 : Int32)) ∧ inA M p0 12 (p3 + (4 : Int32)) ∧ inA M p0 12 (p3 + (5 : Int32)) ∧ iF ((mI M p0 (ix (p3 + (5 : Int32)))) = 0) (j_L_law_1047 K18 φ p0 p1 p2 p3 (0 : Int32) (mI M p0 (ix (p3 + (4 : Int32)))) (mI M p0 (ix (p3 + (3 : Int32)))) (mI M p0 (ix (p3 + (2 : Int32)))) (mI M p0 (ix (p3 + (1 : Int32)))) p1 M) (j_L_law_1047 K18 φ p0 p1 p2 p3 (1 : Int32) (mI M p0 (ix (p3 + (4 : Int32)))) (mI M p0 (ix (p3 + (3 : Int32)))) (mI M p0 (ix (p3 + (2 : Int32)))) (mI M p0 (ix (p3 + (1 : Int32)))) p1 M)) (iF (x240 = (25 : Int32)) (inA M p0 12 (p3 + (1 : Int32)) ∧ inA M p0 12 (p3 + (2 : Int32)) ∧ inA M p0 12 (p3 + (3 : Int32)) ∧ isO M p1 10 ∧ w_X10_from p1 (mI M p0 (ix (p3 + (1 : Int32)))) (mI M p0 (ix (p3 + (2 : Int32)))) (mI M p0 (ix (p3 + (3 : Int32)))) M fun x827 M823 => inA M823 p0 12 (p3 + (1 : Int32)) ∧ inA M823 p0 12 (p3 + (2 : Int32)) ∧ inA M823 p0 12 (p3 + (3 : Int32)) ∧ isO M823 p2 11 ∧ w_X11_from p2 (mI M823 p0 (ix (p3 + (1 : Int32)))) (mI M823 p0 (ix (p3 + (2 : Int32)))) (mI M823 p0 (ix (p3 + (3 : Int32)))) M823 fun x841 M837 => iF (x827 = x841) (nm (p3 + (7 : Int32)) fun x842 => K18 p0 p1 p2 x842 M837) (φ (0 : Int32) M837)) (iF (x240 = (26 : Int32)) (inA M p0 12 (p3 + (1 : Int32)) ∧ inA M p0 12 (p3 + (2 : Int32)) ∧ inA M p0 12 (p3 + (3 : Int32)) ∧ isO M p1 10 ∧ w_X10_worth p1 (mI M p0 (ix (p3 + (1 : Int32)))) (mI M p0 (ix (p3 + (2 : Int32)))) (mI M p0 (ix (p3 + (3 : Int32)))) M fun x859 M855 => inA M855 p0 12 (p3 + (1 : Int32)) ∧ inA M855 p0 12 (p3 + (2 : Int32)) ∧ inA M855 p0 12 (p3 + (3 : Int32)) ∧ isO M855 p2 11 ∧ w_X11_worth p2 (mI M855 p0 (ix (p3 + (1 : Int32)))) (mI M855 p0 (ix (p3 + (2 : Int32)))) (mI M855 p0 (ix (p3 + (3 : Int32)))) M855 fun x873 M869 => iF (x859 = x873) (nm (p3 + (7 : Int32)) fun x874 => K18 p0 p1 p2 x874 M869) (φ (0 : Int32) M869)) (iF (x240 = (27 : Int32)) (inA M p0 12 (p3 + (1 : Int32)) ∧ inA M p0 12 (p3 + (2 : Int32)) ∧ isO M p1 10 ∧ w_X10_goes p1 (mI M p0 (ix (p3 + (1 : Int32)))) (mI M p0 (ix (p3 + (2 : Int32)))) M fun x888 M884 => inA M884 p0 12 (p3 + (1 : Int32)) ∧ inA M884 p0 12 (p3 + (2 : Int32)) ∧ isO M884 p2 11 ∧ w_X11_goes p2 (mI M884 p0 (ix (p3 + (1 : Int32)))) (mI M884 p0 (ix (p3 + (2 : Int32)))) M884 fun x899 M895 => iF (x888 = x899) (nm (p3 + (7 : Int32)) fun x900 => K18 p0 p1 p2 x900 M895) (φ (0 : Int32) M895)) (iF (x240 = (28 : Int32)) (inA M p0 12 (p3 + (1 : Int32)) ∧ inA M p0 12 (p3 + (2 : Int32)) ∧ inA M p0 12 (p3 + (3 : Int32)) ∧ inA M p0 12 (p3 + (4 : Int32)) ∧ isO M p1 10 ∧ w_X10_lamp p1 (mI M p0 (ix (p3 + (1 : Int32)))) (mI M p0 (ix (p3 + (2 : Int32)))) (mI M p0 (ix (p3 + (3 : Int32)))) (mI M p0 (ix (p3 + (4 : Int32)))) M fun x920 M916 => inA M916 p0 12 (p3 + (1 : Int32)) ∧ inA M916 p0 12 (p3 + (2 : Int32)) ∧ inA M916 p0 12 (p3 + (3 : Int32)) ∧ inA M916 p0 12 (p3 + (4 : Int32)) ∧ isO M916 p2 11 ∧ w_X11_lamp p2 (mI M916 p0 (ix (p3 + (1 : Int32)))) (mI M916 p0 (ix (p3 + (2 : Int32)))) (mI M916 p0 (ix (p3 + (3 : Int32)))) (mI M916 p0 (ix (p3 + (4 : Int32)))) M916 fun x937 M933 => iF (x920 = x937) (nm (p3 + (7 : Int32)) fun x938 => K18 p0 p1 p2 x938 M933) (φ (0 : Int32) M933)) (iF (x240 = (29 : Int32)) (inA M p0 12 (p3 + (1 : Int32)) ∧ inA M p0 12 (p3 + (2 : Int32)) ∧ inA M p0 12 (p3 + (3 : Int32)) ∧ inA M p0 12 (p3 + (4 : Int32)) ∧ iF ((mI M p0 (ix (p3 + (4 : Int32)))) = 0) (j_L_law_1294 K18 φ p0 p1 p2 p3 (0 : Int32) (mI M p0 (ix (p3 + (3 : Int32)))) (mI M p0 (ix (p3 + (2 : Int32)))) (mI M p0 (ix (p3 + (1 : Int32)))) p1 M) (j_L_law_1294 K18 φ p0 p1 p2 p3 (1 : Int32) (mI M p0 (ix (p3 + (3 : Int32)))) (mI M p0 (ix (p3 + (2 : Int32)))) (mI M p0 (ix (p3 + (1 : Int32)))) p1 M)) (iF (x240 = (30 : Int32)) (inA M p0 12 (p3 + (1 : Int32)) ∧ inA M p0 12 (p3 + (2 : Int32)) ∧ inA M p0 12 (p3 + (3 : Int32)) ∧ inA M p0 12 (p3 + (4 : Int32)) ∧ iF ((mI M p0 (ix (p3 + (4 : Int32)))) = 0) (j_L_law_1364 K18 φ p0 p1 p2 p3 (0 : Int32) (mI M p0 (ix (p3 + (3 : Int32)))) (mI M p0 (ix (p3 + (2 : Int32)))) (mI M p0 (ix (p3 + (1 : Int32)))) p1 M) (j_L_law_1364 K18 φ p0 p1 p2 p3 (1 : Int32) (mI M p0 (ix (p3 + (3 : Int32)))) (mI M p0 (ix (p3 + (2 : Int32)))) (mI M p0 (ix (p3 + (1 : Int32)))) p1 M)) (iF (x240 = (31 : Int32)) (inA M p0 12 (p3 + (1 : Int32)) ∧ inA M p0 12 (p3 + (2 : Int32)) ∧ inA M p0 12 (p3 + (3 : Int32)) ∧ inA M p0 12 (p3 + (4 : Int32)) ∧ iF ((mI M p0 (ix (p3 + (4 : Int32)))) = 0) (j_L_law_1434 K18 φ p0 p1 p2 p3 (0 : Int32) (mI M p0 (ix (p3 + (3 : Int32)))) (mI M p0 (ix (p3 + (2 : Int32)))) (mI M p0 (ix (p3 + (1 : Int32)))) p1 M) (j_L_law_1434 K18 φ p0 p1 p2 p3 (1 : Int32) (mI M p0 (ix (p3 + (3 : Int32)))) (mI M p0 (ix (p3 + (2 : Int32)))) (mI M p0 (ix (p3 + (1 : Int32)))) p1 M)) (iF (x240 = (32 : Int32)) (inA M p0 12 (p3 + (1 : Int32)) ∧ inA M p0 12 (p3 + (2 : Int32)) ∧ inA M p0 12 (p3 + (3 : Int32)) ∧ iF ((mI M p0 (ix (p3 + (3 : Int32)))) = 0) (j_L_law_1499 K18 φ p0 p1 p2 p3 (0 : Int32) (mI M p0 (ix (p3 + (2 : Int32)))) (mI M p0 (ix (p3 + (1 : Int32)))) p1 M) (j_L_law_1499 K18 φ p0 p1 p2 p3 (1 : Int32) (mI M p0 (ix (p3 + (2 : Int32)))) (mI M p0 (ix (p3 + (1 : Int32)))) p1 M)) (iF (x240 = (33 : Int32)) (inA M p0 12 (p3 + (1 : Int32)) ∧ inA M p0 12 (p3 + (2 : Int32)) ∧ isO M p1 10 ∧ w_X10_tally p1 (mI M p0 (ix (p3 + (1 : Int32)))) (mI M p0 (ix (p3 + (2 : Int32)))) M fun x1005 M1001 => inA M1001 p0 12 (p3 + (1 : Int32)) ∧ inA M1001 p0 12 (p3 + (2 : Int32)) ∧ isO M1001 p2 11 ∧ w_X11_tally p2 (mI M1001 p0 (ix (p3 + (1 : Int32)))) (mI M1001 p0 (ix (p3 + (2 : Int32)))) M1001 fun x1016 M1012 => iF (x1005 = x1016) (nm (p3 + (7 : Int32)) fun x1017 => K18 p0 p1 p2 x1017 M1012) (φ (0 : Int32) M1012)) (iF (x240 = (34 : Int32)) (inA M p0 12 (p3 + (1 : Int32)) ∧ inA M p0 12 (p3 + (2 : Int32)) ∧ isO M p1 10 ∧ w_X10_legs p1 (mI M p0 (ix (p3 + (1 : Int32)))) (mI M p0 (ix (p3 + (2 : Int32)))) M fun x1031 M1027 => inA M1027 p0 12 (p3 + (1 : Int32)) ∧ inA M1027 p0 12 (p3 + (2 : Int32)) ∧ isO M1027 p2 11 ∧ w_X11_legs p2 (mI M1027 p0 (ix (p3 + (1 : Int32)))) (mI M1027 p0 (ix (p3 + (2 : Int32)))) M1027 fun x1042 M1038 => iF (x1031 = x1042) (nm (p3 + (7 : Int32)) fun x1043 => K18 p0 p1 p2 x1043 M1038) (φ (0 : Int32) M1038)) (iF (x240 = (35 : Int32)) (inA M p0 12 (p3 + (1 : Int32)) ∧ inA M p0 12 (p3 + (2 : Int32)) ∧ inA M p0 12 (p3 + (3 : Int32)) ∧ isO M p1 10 ∧ w_X10_trippers p1 (mI M p0 (ix (p3 + (1 : Int32)))) (mI M p0 (ix (p3 + (2 : Int32)))) (mI M p0 (ix (p3 + (3 : Int32)))) M fun x1060 M1056 => inA M1056 p0 12 (p3 + (1 : Int32)) ∧ inA M1056 p0 12 (p3 + (2 : Int32)) ∧ inA M1056 p0 12 (p3 + (3 : Int32)) ∧ isO M1056 p2 11 ∧ w_X11_trippers p2 (mI M1056 p0 (ix (p3 + (1 : Int32)))) (mI M1056 p0 (ix (p3 + (2 : Int32)))) (mI M1056 p0 (ix (p3 + (3 : Int32)))) M1056 fun x1074 M1070 => iF (x1060 = x1074) (nm (p3 + (7 : Int32)) fun x1075 => K18 p0 p1 p2 x1075 M1070) (φ (0 : Int32) M1070)) (iF (x240 = (36 : Int32)) (inA M p0 12 (p3 + (1 : Int32)) ∧ inA M p0 12 (p3 + (2 : Int32)) ∧ inA M p0 12 (p3 + (3 : Int32)) ∧ inA M p0 12 (p3 + (4 : Int32)) ∧ iF ((mI M p0 (ix (p3 + (4 : Int32)))) = 0) (j_L_law_1672 K18 φ p0 p1 p2 p3 (0 : Int32) (mI M p0 (ix (p3 + (3 : Int32)))) (mI M p0 (ix (p3 + (2 : Int32)))) (mI M p0 (ix (p3 + (1 : Int32)))) p1 M) (j_L_law_1672 K18 φ p0 p1 p2 p3 (1 : Int32) (mI M p0 (ix (p3 + (3 : Int32)))) (mI M p0 (ix (p3 + (2 : Int32)))) (mI M p0 (ix (p3 + (1 : Int32)))) p1 M)) (iF (x240 = (37 : Int32)) (isO M p1 10 ∧ w_X10_laws p1 M fun x1097 M1093 => isO M1093 p2 11 ∧ w_X11_laws p2 M1093 fun x1102 M1098 => iF (x1097 = x1102) (nm (p3 + (7 : Int32)) fun x1103 => K18 p0 p1 p2 x1103 M1098) (φ (0 : Int32) M1098)) (iF (x240 = (38 : Int32)) (inA M p0 12 (p3 + (1 : Int32)) ∧ inA M p0 12 (p3 + (2 : Int32)) ∧ inA M p0 12 (p3 + (3 : Int32)) ∧ iF ((mI M p0 (ix (p3 + (3 : Int32)))) = 0) (j_L_law_1749 K18 φ p0 p1 p2 p3 (0 : Int32) (mI M p0 (ix (p3 + (2 : Int32)))) (mI M p0 (ix (p3 + (1 : Int32)))) p1 M) (j_L_law_1749 K18 φ p0 p1 p2 p3 (1 : Int32) (mI M p0 (ix (p3 + (2 : Int32)))) (mI M p0 (ix (p3 + (1 : Int32)))) p1 M)) (iF (x240 = (39 : Int32)) (isO M p1 10 ∧ w_X10_image p1 M fun x1122 M1118 => isO M1118 p2 11 ∧ w_X11_image p2 M1118 fun x1127 M1123 => iF (x1122 = x1127) (nm (p3 + (7 : Int32)) fun x1128 => K18 p0 p1 p2 x1128 M1123) (φ (0 : Int32) M1123)) (iF (x240 = (40 : Int32)) (isO M p1 10 ∧ w_X10_back p1 M fun x1136 M1132 => isO M1132 p2 11 ∧ w_X11_back p2 M1132 fun x1141 M1137 => iF (x1136 = x1141) (nm (p3 + (7 : Int32)) fun x1142 => K18 p0 p1 p2 x1142 M1137) (φ (0 : Int32) M1137)) (iF (x240 = (41 : Int32)) (inA M p0 12 (p3 + (1 : Int32)) ∧ isO M p1 10 ∧ w_X10_about p1 (mI M p0 (ix (p3 + (1 : Int32)))) M fun x1153 M1149 => inA M1149 p0 12 (p3 + (1 : Int32)) ∧ isO M1149 p2 11 ∧ w_X11_about p2 (mI M1149 p0 (ix (p3 + (1 : Int32)))) M1149 fun x1161 M1157 => iF (x1153 = x1161) (nm (p3 + (7 : Int32)) fun x1162 => K18 p0 p1 p2 x1162 M1157) (φ (0 : Int32) M1157)) (nm (p3 + (7 : Int32)) fun x1166 => K18 p0 p1 p2 x1166 M)))))))))))))))))))))))))))))))))))))))))))
def l_L_law_18 (φ : Int32 → fM → Prop) : Nat → Nat → Nat → Nat → Int32 → fM → Prop
  | 0, _, _, _, _, _ => False
  | n + 1, p0, p1, p2, p3, M => b_L_law_18 (l_L_law_18 φ n) φ p0 p1 p2 p3 M
set_option maxRecDepth 100000 in
theorem sb_L_law_18 {g : GT} {d Bc Bs : Nat} (hd : 80 ≤ d + 1) {K18 : Nat → Nat → Nat → Int32 → fM → Prop} {φ : Int32 → fM → Prop} (hK18 : ∀ (p0 : Nat) (p1 : Nat) (p2 : Nat) (p3 : Int32) (M : fM), K18 p0 p1 p2 p3 M → FW g mtL_law (d + 1) 18 [(0, .ref p0), (1, .ref p1), (2, .ref p2), (3, .int p3)] [] M Bc Bs (rI φ)) {p0 : Nat} {p1 : Nat} {p2 : Nat} {p3 : Int32} {M : fM} (h : b_L_law_18 K18 φ p0 p1 p2 p3 M) : FW g mtL_law (d + 1) 18 [(0, .ref p0), (1, .ref p1), (2, .ref p2), (3, .int p3)] [] M (Bc + 11) (Bs + 3005) (rI φ) := by
  unfold b_L_law_18 at h
  refine fw_iload_n (i := 3) 3 rfl (show decode _ _ = .ok (.iload_n 3, 1) by decide +kernel) ?_
  refine fw_aload_n (i := 0) 0 rfl (show decode _ _ = .ok (.aload_n 0, 1) by decide +kernel) ?_
  obtain ⟨n235, hs236, h_1⟩ := h
  refine fw_alen (show decode _ _ = .ok (.arraylength, 1) by decide +kernel) hs236 (by decide) (by decide) (by decide) (fun h_1 => absurd h_1 (by decide)) ?_
  refine fw_bipush (v := (7 : Int32)) (show decode _ _ = .ok (.bipush 7, 2) by decide +kernel) (by decide) ?_
  refine fw_isub (show decode _ _ = .ok (.isub, 1) by decide +kernel) ?_
  refine fw_icmp_gt 1839 (show decode _ _ = .ok (.if_icmp .gt 1815, 3) by decide +kernel) (by decide) (fun hc1170 => ?_) (fun hc1170 => ?_)
  · have h_2 := ipos hc1170 h_1
    refine fw_iconst (v := (1 : Int32)) (show decode _ _ = .ok (.iconst 1, 1) by decide +kernel) (by decide) ?_
    exact fw_ret (v := some (.int (1 : Int32))) .ireturn (show decode _ _ = .ok (.ireturn, 1) by decide +kernel) ⟨rfl, Or.inr (Or.inl ⟨rfl, rfl⟩)⟩ ⟨_, rfl, h_2⟩
  · have h_3 := ineg hc1170 h_1
    refine fw_aload_n (i := 0) 0 rfl (show decode _ _ = .ok (.aload_n 0, 1) by decide +kernel) ?_
    refine fw_iload_n (i := 3) 3 rfl (show decode _ _ = .ok (.iload_n 3, 1) by decide +kernel) ?_
    obtain ⟨⟨n237, hs238, hi239⟩, h_4⟩ := h_3
    refine fw_iald (show decode _ _ = .ok (.iaload, 1) by decide +kernel) hs238 hi239 ?_
    refine fw_bipush (v := (63 : Int32)) (show decode _ _ = .ok (.bipush 63, 2) by decide +kernel) (by decide) ?_
    refine fw_iand (show decode _ _ = .ok (.iand, 1) by decide +kernel) ?_
    refine fw_nmI (fun x240 ex241 => ?_)
    have h_5 := h_4 x240 ex241
    by_cases hc267 : x240 = (0 : Int32)
    · have h_6 := ipos hc267 h_5
      refine fw_tin (off := 183) 216 (show decode _ _ = .ok (.tableswitch 1800 0 41 #[183, 216, 259, 318, 351, 394, 417, 480, 503, 516, 539, 562, 605, 618, 631, 644, 667, 690, 723, 736, 759, 792, 855, 888, 980, 1060, 1103, 1146, 1179, 1232, 1302, 1372, 1442, 1501, 1534, 1567, 1610, 1679, 1692, 1751, 1764, 1777], 183) by decide +kernel) (by rw [hc267]; decide) (by rw [hc267]; decide) (by rw [hc267]; rfl) (by decide) ?_
      refine fw_aload_n (i := 1) 1 rfl (show decode _ _ = .ok (.aload_n 1, 1) by decide +kernel) ?_
      refine fw_aload_n (i := 0) 0 rfl (show decode _ _ = .ok (.aload_n 0, 1) by decide +kernel) ?_
      refine fw_iload_n (i := 3) 3 rfl (show decode _ _ = .ok (.iload_n 3, 1) by decide +kernel) ?_
      refine fw_iconst (v := (1 : Int32)) (show decode _ _ = .ok (.iconst 1, 1) by decide +kernel) (by decide) ?_
      refine fw_iadd (show decode _ _ = .ok (.iadd, 1) by decide +kernel) ?_
      obtain ⟨⟨n242, hs243, hi244⟩, h_7⟩ := h_6
      refine fw_iald (show decode _ _ = .ok (.iaload, 1) by decide +kernel) hs243 hi244 ?_
      refine fw_aload_n (i := 0) 0 rfl (show decode _ _ = .ok (.aload_n 0, 1) by decide +kernel) ?_
      refine fw_iload_n (i := 3) 3 rfl (show decode _ _ = .ok (.iload_n 3, 1) by decide +kernel) ?_
      refine fw_iconst (v := (2 : Int32)) (show decode _ _ = .ok (.iconst 2, 1) by decide +kernel) (by decide) ?_
      refine fw_iadd (show decode _ _ = .ok (.iadd, 1) by decide +kernel) ?_
      obtain ⟨⟨n245, hs246, hi247⟩, h_8⟩ := h_7
      refine fw_iald (show decode _ _ = .ok (.iaload, 1) by decide +kernel) hs246 hi247 ?_
      obtain ⟨⟨hr250, n249, hs251⟩, h_9⟩ := h_8
      refine fw_callV (mt' := mtX10_stair) (mc := 0) (ms := 0) (As := [.int (mI M p0 (ix (p3 + (1 : Int32)))), .int (mI M p0 (ix (p3 + (2 : Int32))))]) (rest := []) 2 10 n249 (show decode _ _ = .ok (.invokevirtual 13, 3) by decide +kernel) cv_L_13 ⟨_, rfl, rfl⟩ hr250 hs251 rfl (Nat.le_of_ble_eq_true rfl) (s_X10_stair (d := d) (hd_le hd (by decide)) h_9) (by first | exact Nat.le_refl _ | exact Nat.le_add_right _ _ | exact Nat.zero_le _ | exact Nat.le_add_left _ _ | exact Nat.le_of_eq (Nat.add_sub_cancel).symm | decide) (by first | exact Nat.le_refl _ | exact Nat.le_add_right _ _ | exact Nat.zero_le _ | exact Nat.le_add_left _ _ | exact Nat.le_of_eq (Nat.add_sub_cancel).symm | decide) (kI (bc' := (Bc + 11)) (bs' := (Bs + 3005)) (by first | exact Nat.le_refl _ | exact Nat.le_add_right _ _ | exact Nat.zero_le _ | exact Nat.le_add_left _ _ | exact Nat.le_of_eq (Nat.add_sub_cancel).symm | decide) (by first | exact Nat.le_refl _ | exact Nat.le_add_right _ _ | exact Nat.zero_le _ | exact Nat.le_add_left _ _ | exact Nat.le_of_eq (Nat.add_sub_cancel).symm | decide) (fun x252 M248 h_10 => ?_))
      refine fw_aload_n (i := 2) 2 rfl (show decode _ _ = .ok (.aload_n 2, 1) by decide +kernel) ?_
      refine fw_aload_n (i := 0) 0 rfl (show decode _ _ = .ok (.aload_n 0, 1) by decide +kernel) ?_
      refine fw_iload_n (i := 3) 3 rfl (show decode _ _ = .ok (.iload_n 3, 1) by decide +kernel) ?_
      refine fw_iconst (v := (1 : Int32)) (show decode _ _ = .ok (.iconst 1, 1) by decide +kernel) (by decide) ?_
      refine fw_iadd (show decode _ _ = .ok (.iadd, 1) by decide +kernel) ?_
      obtain ⟨⟨n253, hs254, hi255⟩, h_11⟩ := h_10
      refine fw_iald (show decode _ _ = .ok (.iaload, 1) by decide +kernel) hs254 hi255 ?_
      refine fw_aload_n (i := 0) 0 rfl (show decode _ _ = .ok (.aload_n 0, 1) by decide +kernel) ?_
      refine fw_iload_n (i := 3) 3 rfl (show decode _ _ = .ok (.iload_n 3, 1) by decide +kernel) ?_
      refine fw_iconst (v := (2 : Int32)) (show decode _ _ = .ok (.iconst 2, 1) by decide +kernel) (by decide) ?_
      refine fw_iadd (show decode _ _ = .ok (.iadd, 1) by decide +kernel) ?_
      obtain ⟨⟨n256, hs257, hi258⟩, h_12⟩ := h_11
      refine fw_iald (show decode _ _ = .ok (.iaload, 1) by decide +kernel) hs257 hi258 ?_
      obtain ⟨⟨hr261, n260, hs262⟩, h_13⟩ := h_12
      refine fw_callV (mt' := mtX11_stair) (mc := 0) (ms := 0) (As := [.int (mI M248 p0 (ix (p3 + (1 : Int32)))), .int (mI M248 p0 (ix (p3 + (2 : Int32))))]) (rest := [.int x252]) 2 11 n260 (show decode _ _ = .ok (.invokevirtual 17, 3) by decide +kernel) cv_L_17 ⟨_, rfl, rfl⟩ hr261 hs262 rfl (Nat.le_of_ble_eq_true rfl) (s_X11_stair (d := d) (hd_le hd (by decide)) h_13) (by first | exact Nat.le_refl _ | exact Nat.le_add_right _ _ | exact Nat.zero_le _ | exact Nat.le_add_left _ _ | exact Nat.le_of_eq (Nat.add_sub_cancel).symm | decide) (by first | exact Nat.le_refl _ | exact Nat.le_add_right _ _ | exact Nat.zero_le _ | exact Nat.le_add_left _ _ | exact Nat.le_of_eq (Nat.add_sub_cancel).symm | decide) (kI (bc' := (Bc + 11)) (bs' := (Bs + 3005)) (by first | exact Nat.le_refl _ | exact Nat.le_add_right _ _ | exact Nat.zero_le _ | exact Nat.le_add_left _ _ | exact Nat.le_of_eq (Nat.add_sub_cancel).symm | decide) (by first | exact Nat.le_refl _ | exact Nat.le_add_right _ _ | exact Nat.zero_le _ | exact Nat.le_add_left _ _ | exact Nat.le_of_eq (Nat.add_sub_cancel).symm | decide) (fun x263 M259 h_14 => ?_))
      refine fw_icmp_eq 1833 (show decode _ _ = .ok (.if_icmp .eq 1589, 3) by decide +kernel) (by decide) (fun hc266 => ?_) (fun hc266 => ?_)
      · have h_15 := ipos hc266 h_14
        obtain ⟨x264, ex265⟩ : ∃ y : Int32, y = p3 + (7 : Int32) := ⟨_, rfl⟩
        have h_16 := h_15 x264 ex265
        refine fw_iinc (i := 3) (x := p3) (v := x264) (ls' := [(3, .int x264), (0, .ref p0), (1, .ref p1), (2, .ref p2)]) 3 rfl (show decode _ _ = .ok (.iinc 3 7, 3) by decide +kernel) (by rw [ex265]; rfl) (by decide) rfl ?_
        refine fw_goto 18 (show decode _ _ = .ok (.goto (-1818), 3) by decide +kernel) (by decide) ?_
        refine FW.sub [1, 2, 3, 0] (ls' := [(0, .ref p0), (1, .ref p1), (2, .ref p2), (3, .int x264)]) rfl ?_
        refine FW.room (bc' := Bc) (bs' := Bs) (by first | exact Nat.le_refl _ | exact Nat.le_add_right _ _ | exact Nat.zero_le _ | exact Nat.le_add_left _ _ | exact Nat.le_of_eq (Nat.add_sub_cancel).symm | decide) (by first | exact Nat.le_refl _ | exact Nat.le_add_right _ _ | exact Nat.zero_le _ | exact Nat.le_add_left _ _ | exact Nat.le_of_eq (Nat.add_sub_cancel).symm | decide) ?_
        exact hK18 _ _ _ _ _ h_16
      · have h_17 := ineg hc266 h_14
        refine fw_iconst (v := (0 : Int32)) (show decode _ _ = .ok (.iconst 0, 1) by decide +kernel) (by decide) ?_
        exact fw_ret (v := some (.int (0 : Int32))) .ireturn (show decode _ _ = .ok (.ireturn, 1) by decide +kernel) ⟨rfl, Or.inr (Or.inl ⟨rfl, rfl⟩)⟩ ⟨_, rfl, h_17⟩
    have h_18 := ineg hc267 h_5
    by_cases hc299 : x240 = (1 : Int32)
    · have h_19 := ipos hc299 h_18
      refine fw_tin (off := 216) 249 (show decode _ _ = .ok (.tableswitch 1800 0 41 #[183, 216, 259, 318, 351, 394, 417, 480, 503, 516, 539, 562, 605, 618, 631, 644, 667, 690, 723, 736, 759, 792, 855, 888, 980, 1060, 1103, 1146, 1179, 1232, 1302, 1372, 1442, 1501, 1534, 1567, 1610, 1679, 1692, 1751, 1764, 1777], 183) by decide +kernel) (by rw [hc299]; decide) (by rw [hc299]; decide) (by rw [hc299]; rfl) (by decide) ?_
      refine fw_aload_n (i := 1) 1 rfl (show decode _ _ = .ok (.aload_n 1, 1) by decide +kernel) ?_
      refine fw_aload_n (i := 0) 0 rfl (show decode _ _ = .ok (.aload_n 0, 1) by decide +kernel) ?_
      refine fw_iload_n (i := 3) 3 rfl (show decode _ _ = .ok (.iload_n 3, 1) by decide +kernel) ?_
      refine fw_iconst (v := (1 : Int32)) (show decode _ _ = .ok (.iconst 1, 1) by decide +kernel) (by decide) ?_
      refine fw_iadd (show decode _ _ = .ok (.iadd, 1) by decide +kernel) ?_
      obtain ⟨⟨n268, hs269, hi270⟩, h_20⟩ := h_19
      refine fw_iald (show decode _ _ = .ok (.iaload, 1) by decide +kernel) hs269 hi270 ?_
      refine fw_aload_n (i := 0) 0 rfl (show decode _ _ = .ok (.aload_n 0, 1) by decide +kernel) ?_
      refine fw_iload_n (i := 3) 3 rfl (show decode _ _ = .ok (.iload_n 3, 1) by decide +kernel) ?_
      refine fw_iconst (v := (2 : Int32)) (show decode _ _ = .ok (.iconst 2, 1) by decide +kernel) (by decide) ?_
      refine fw_iadd (show decode _ _ = .ok (.iadd, 1) by decide +kernel) ?_
      obtain ⟨⟨n271, hs272, hi273⟩, h_21⟩ := h_20
      refine fw_iald (show decode _ _ = .ok (.iaload, 1) by decide +kernel) hs272 hi273 ?_
      refine fw_aload_n (i := 0) 0 rfl (show decode _ _ = .ok (.aload_n 0, 1) by decide +kernel) ?_
      refine fw_iload_n (i := 3) 3 rfl (show decode _ _ = .ok (.iload_n 3, 1) by decide +kernel) ?_
      refine fw_iconst (v := (3 : Int32)) (show decode _ _ = .ok (.iconst 3, 1) by decide +kernel) (by decide) ?_
      refine fw_iadd (show decode _ _ = .ok (.iadd, 1) by decide +kernel) ?_
      obtain ⟨⟨n274, hs275, hi276⟩, h_22⟩ := h_21
      refine fw_iald (show decode _ _ = .ok (.iaload, 1) by decide +kernel) hs275 hi276 ?_
      obtain ⟨⟨hr279, n278, hs280⟩, h_23⟩ := h_22
      refine fw_callV (mt' := mtX10_height) (mc := 0) (ms := 0) (As := [.int (mI M p0 (ix (p3 + (1 : Int32)))), .int (mI M p0 (ix (p3 + (2 : Int32)))), .int (mI M p0 (ix (p3 + (3 : Int32))))]) (rest := []) 3 10 n278 (show decode _ _ = .ok (.invokevirtual 18, 3) by decide +kernel) cv_L_18 ⟨_, rfl, rfl⟩ hr279 hs280 rfl (Nat.le_of_ble_eq_true rfl) (s_X10_height (d := d) (hd_le hd (by decide)) h_23) (by first | exact Nat.le_refl _ | exact Nat.le_add_right _ _ | exact Nat.zero_le _ | exact Nat.le_add_left _ _ | exact Nat.le_of_eq (Nat.add_sub_cancel).symm | decide) (by first | exact Nat.le_refl _ | exact Nat.le_add_right _ _ | exact Nat.zero_le _ | exact Nat.le_add_left _ _ | exact Nat.le_of_eq (Nat.add_sub_cancel).symm | decide) (kI (bc' := (Bc + 11)) (bs' := (Bs + 3005)) (by first | exact Nat.le_refl _ | exact Nat.le_add_right _ _ | exact Nat.zero_le _ | exact Nat.le_add_left _ _ | exact Nat.le_of_eq (Nat.add_sub_cancel).symm | decide) (by first | exact Nat.le_refl _ | exact Nat.le_add_right _ _ | exact Nat.zero_le _ | exact Nat.le_add_left _ _ | exact Nat.le_of_eq (Nat.add_sub_cancel).symm | decide) (fun x281 M277 h_24 => ?_))
      refine fw_aload_n (i := 2) 2 rfl (show decode _ _ = .ok (.aload_n 2, 1) by decide +kernel) ?_
      refine fw_aload_n (i := 0) 0 rfl (show decode _ _ = .ok (.aload_n 0, 1) by decide +kernel) ?_
      refine fw_iload_n (i := 3) 3 rfl (show decode _ _ = .ok (.iload_n 3, 1) by decide +kernel) ?_
      refine fw_iconst (v := (1 : Int32)) (show decode _ _ = .ok (.iconst 1, 1) by decide +kernel) (by decide) ?_
      refine fw_iadd (show decode _ _ = .ok (.iadd, 1) by decide +kernel) ?_
      obtain ⟨⟨n282, hs283, hi284⟩, h_25⟩ := h_24
      refine fw_iald (show decode _ _ = .ok (.iaload, 1) by decide +kernel) hs283 hi284 ?_
      refine fw_aload_n (i := 0) 0 rfl (show decode _ _ = .ok (.aload_n 0, 1) by decide +kernel) ?_
      refine fw_iload_n (i := 3) 3 rfl (show decode _ _ = .ok (.iload_n 3, 1) by decide +kernel) ?_
      refine fw_iconst (v := (2 : Int32)) (show decode _ _ = .ok (.iconst 2, 1) by decide +kernel) (by decide) ?_
      refine fw_iadd (show decode _ _ = .ok (.iadd, 1) by decide +kernel) ?_
      obtain ⟨⟨n285, hs286, hi287⟩, h_26⟩ := h_25
      refine fw_iald (show decode _ _ = .ok (.iaload, 1) by decide +kernel) hs286 hi287 ?_
      refine fw_aload_n (i := 0) 0 rfl (show decode _ _ = .ok (.aload_n 0, 1) by decide +kernel) ?_
      refine fw_iload_n (i := 3) 3 rfl (show decode _ _ = .ok (.iload_n 3, 1) by decide +kernel) ?_
      refine fw_iconst (v := (3 : Int32)) (show decode _ _ = .ok (.iconst 3, 1) by decide +kernel) (by decide) ?_
      refine fw_iadd (show decode _ _ = .ok (.iadd, 1) by decide +kernel) ?_
      obtain ⟨⟨n288, hs289, hi290⟩, h_27⟩ := h_26
      refine fw_iald (show decode _ _ = .ok (.iaload, 1) by decide +kernel) hs289 hi290 ?_
      obtain ⟨⟨hr293, n292, hs294⟩, h_28⟩ := h_27
      refine fw_callV (mt' := mtX11_height) (mc := 0) (ms := 0) (As := [.int (mI M277 p0 (ix (p3 + (1 : Int32)))), .int (mI M277 p0 (ix (p3 + (2 : Int32)))), .int (mI M277 p0 (ix (p3 + (3 : Int32))))]) (rest := [.int x281]) 3 11 n292 (show decode _ _ = .ok (.invokevirtual 22, 3) by decide +kernel) cv_L_22 ⟨_, rfl, rfl⟩ hr293 hs294 rfl (Nat.le_of_ble_eq_true rfl) (s_X11_height (d := d) (hd_le hd (by decide)) h_28) (by first | exact Nat.le_refl _ | exact Nat.le_add_right _ _ | exact Nat.zero_le _ | exact Nat.le_add_left _ _ | exact Nat.le_of_eq (Nat.add_sub_cancel).symm | decide) (by first | exact Nat.le_refl _ | exact Nat.le_add_right _ _ | exact Nat.zero_le _ | exact Nat.le_add_left _ _ | exact Nat.le_of_eq (Nat.add_sub_cancel).symm | decide) (kI (bc' := (Bc + 11)) (bs' := (Bs + 3005)) (by first | exact Nat.le_refl _ | exact Nat.le_add_right _ _ | exact Nat.zero_le _ | exact Nat.le_add_left _ _ | exact Nat.le_of_eq (Nat.add_sub_cancel).symm | decide) (by first | exact Nat.le_refl _ | exact Nat.le_add_right _ _ | exact Nat.zero_le _ | exact Nat.le_add_left _ _ | exact Nat.le_of_eq (Nat.add_sub_cancel).symm | decide) (fun x295 M291 h_29 => ?_))
      refine fw_icmp_eq 1833 (show decode _ _ = .ok (.if_icmp .eq 1546, 3) by decide +kernel) (by decide) (fun hc298 => ?_) (fun hc298 => ?_)
      · have h_30 := ipos hc298 h_29
        obtain ⟨x296, ex297⟩ : ∃ y : Int32, y = p3 + (7 : Int32) := ⟨_, rfl⟩
        have h_31 := h_30 x296 ex297
        refine fw_iinc (i := 3) (x := p3) (v := x296) (ls' := [(3, .int x296), (0, .ref p0), (1, .ref p1), (2, .ref p2)]) 3 rfl (show decode _ _ = .ok (.iinc 3 7, 3) by decide +kernel) (by rw [ex297]; rfl) (by decide) rfl ?_
        refine fw_goto 18 (show decode _ _ = .ok (.goto (-1818), 3) by decide +kernel) (by decide) ?_
        refine FW.sub [1, 2, 3, 0] (ls' := [(0, .ref p0), (1, .ref p1), (2, .ref p2), (3, .int x296)]) rfl ?_
        refine FW.room (bc' := Bc) (bs' := Bs) (by first | exact Nat.le_refl _ | exact Nat.le_add_right _ _ | exact Nat.zero_le _ | exact Nat.le_add_left _ _ | exact Nat.le_of_eq (Nat.add_sub_cancel).symm | decide) (by first | exact Nat.le_refl _ | exact Nat.le_add_right _ _ | exact Nat.zero_le _ | exact Nat.le_add_left _ _ | exact Nat.le_of_eq (Nat.add_sub_cancel).symm | decide) ?_
        exact hK18 _ _ _ _ _ h_31
      · have h_32 := ineg hc298 h_29
        refine fw_iconst (v := (0 : Int32)) (show decode _ _ = .ok (.iconst 0, 1) by decide +kernel) (by decide) ?_
        exact fw_ret (v := some (.int (0 : Int32))) .ireturn (show decode _ _ = .ok (.ireturn, 1) by decide +kernel) ⟨rfl, Or.inr (Or.inl ⟨rfl, rfl⟩)⟩ ⟨_, rfl, h_32⟩
    have h_33 := ineg hc299 h_18
    by_cases hc310 : x240 = (2 : Int32)
    · have h_34 := ipos hc310 h_33
      refine fw_tin (off := 259) 292 (show decode _ _ = .ok (.tableswitch 1800 0 41 #[183, 216, 259, 318, 351, 394, 417, 480, 503, 516, 539, 562, 605, 618, 631, 644, 667, 690, 723, 736, 759, 792, 855, 888, 980, 1060, 1103, 1146, 1179, 1232, 1302, 1372, 1442, 1501, 1534, 1567, 1610, 1679, 1692, 1751, 1764, 1777], 183) by decide +kernel) (by rw [hc310]; decide) (by rw [hc310]; decide) (by rw [hc310]; rfl) (by decide) ?_
      refine fw_aload_n (i := 1) 1 rfl (show decode _ _ = .ok (.aload_n 1, 1) by decide +kernel) ?_
      refine fw_aload_n (i := 0) 0 rfl (show decode _ _ = .ok (.aload_n 0, 1) by decide +kernel) ?_
      refine fw_iload_n (i := 3) 3 rfl (show decode _ _ = .ok (.iload_n 3, 1) by decide +kernel) ?_
      refine fw_iconst (v := (1 : Int32)) (show decode _ _ = .ok (.iconst 1, 1) by decide +kernel) (by decide) ?_
      refine fw_iadd (show decode _ _ = .ok (.iadd, 1) by decide +kernel) ?_
      obtain ⟨⟨n300, hs301, hi302⟩, h_35⟩ := h_34
      refine fw_iald (show decode _ _ = .ok (.iaload, 1) by decide +kernel) hs301 hi302 ?_
      refine fw_aload_n (i := 0) 0 rfl (show decode _ _ = .ok (.aload_n 0, 1) by decide +kernel) ?_
      refine fw_iload_n (i := 3) 3 rfl (show decode _ _ = .ok (.iload_n 3, 1) by decide +kernel) ?_
      refine fw_iconst (v := (2 : Int32)) (show decode _ _ = .ok (.iconst 2, 1) by decide +kernel) (by decide) ?_
      refine fw_iadd (show decode _ _ = .ok (.iadd, 1) by decide +kernel) ?_
      obtain ⟨⟨n303, hs304, hi305⟩, h_36⟩ := h_35
      refine fw_iald (show decode _ _ = .ok (.iaload, 1) by decide +kernel) hs304 hi305 ?_
      refine fw_aload_n (i := 0) 0 rfl (show decode _ _ = .ok (.aload_n 0, 1) by decide +kernel) ?_
      refine fw_iload_n (i := 3) 3 rfl (show decode _ _ = .ok (.iload_n 3, 1) by decide +kernel) ?_
      refine fw_iconst (v := (3 : Int32)) (show decode _ _ = .ok (.iconst 3, 1) by decide +kernel) (by decide) ?_
      refine fw_iadd (show decode _ _ = .ok (.iadd, 1) by decide +kernel) ?_
      obtain ⟨⟨n306, hs307, hi308⟩, h_37⟩ := h_36
      refine fw_iald (show decode _ _ = .ok (.iaload, 1) by decide +kernel) hs307 hi308 ?_
      refine fw_if_eq 315 (show decode _ _ = .ok (.ifCond .eq 7, 3) by decide +kernel) (by decide) (fun hc309 => ?_) (fun hc309 => ?_)
      · have h_38 := ipos hc309 h_37
        refine fw_iconst (v := (0 : Int32)) (show decode _ _ = .ok (.iconst 0, 1) by decide +kernel) (by decide) ?_
        refine FW.sub [0, 1, 2, 3] (ls' := [(0, .ref p0), (1, .ref p1), (2, .ref p2), (3, .int p3)]) rfl ?_
        refine FW.room (bc' := Bc) (bs' := Bs) (by first | exact Nat.le_refl _ | exact Nat.le_add_right _ _ | exact Nat.zero_le _ | exact Nat.le_add_left _ _ | exact Nat.le_of_eq (Nat.add_sub_cancel).symm | decide) (by first | exact Nat.le_refl _ | exact Nat.le_add_right _ _ | exact Nat.zero_le _ | exact Nat.le_add_left _ _ | exact Nat.le_of_eq (Nat.add_sub_cancel).symm | decide) ?_
        exact sj_L_law_316 hd hK18 h_38
      · have h_39 := ineg hc309 h_37
        refine fw_iconst (v := (1 : Int32)) (show decode _ _ = .ok (.iconst 1, 1) by decide +kernel) (by decide) ?_
        refine fw_goto 316 (show decode _ _ = .ok (.goto 4, 3) by decide +kernel) (by decide) ?_
        refine FW.sub [0, 1, 2, 3] (ls' := [(0, .ref p0), (1, .ref p1), (2, .ref p2), (3, .int p3)]) rfl ?_
        refine FW.room (bc' := Bc) (bs' := Bs) (by first | exact Nat.le_refl _ | exact Nat.le_add_right _ _ | exact Nat.zero_le _ | exact Nat.le_add_left _ _ | exact Nat.le_of_eq (Nat.add_sub_cancel).symm | decide) (by first | exact Nat.le_refl _ | exact Nat.le_add_right _ _ | exact Nat.zero_le _ | exact Nat.le_add_left _ _ | exact Nat.le_of_eq (Nat.add_sub_cancel).symm | decide) ?_
        exact sj_L_law_316 hd hK18 h_39
    have h_40 := ineg hc310 h_33
    by_cases hc336 : x240 = (3 : Int32)
    · have h_41 := ipos hc336 h_40
      refine fw_tin (off := 318) 351 (show decode _ _ = .ok (.tableswitch 1800 0 41 #[183, 216, 259, 318, 351, 394, 417, 480, 503, 516, 539, 562, 605, 618, 631, 644, 667, 690, 723, 736, 759, 792, 855, 888, 980, 1060, 1103, 1146, 1179, 1232, 1302, 1372, 1442, 1501, 1534, 1567, 1610, 1679, 1692, 1751, 1764, 1777], 183) by decide +kernel) (by rw [hc336]; decide) (by rw [hc336]; decide) (by rw [hc336]; rfl) (by decide) ?_
      refine fw_aload_n (i := 1) 1 rfl (show decode _ _ = .ok (.aload_n 1, 1) by decide +kernel) ?_
      refine fw_aload_n (i := 0) 0 rfl (show decode _ _ = .ok (.aload_n 0, 1) by decide +kernel) ?_
      refine fw_iload_n (i := 3) 3 rfl (show decode _ _ = .ok (.iload_n 3, 1) by decide +kernel) ?_
      refine fw_iconst (v := (1 : Int32)) (show decode _ _ = .ok (.iconst 1, 1) by decide +kernel) (by decide) ?_
      refine fw_iadd (show decode _ _ = .ok (.iadd, 1) by decide +kernel) ?_
      obtain ⟨⟨n311, hs312, hi313⟩, h_42⟩ := h_41
      refine fw_iald (show decode _ _ = .ok (.iaload, 1) by decide +kernel) hs312 hi313 ?_
      refine fw_aload_n (i := 0) 0 rfl (show decode _ _ = .ok (.aload_n 0, 1) by decide +kernel) ?_
      refine fw_iload_n (i := 3) 3 rfl (show decode _ _ = .ok (.iload_n 3, 1) by decide +kernel) ?_
      refine fw_iconst (v := (2 : Int32)) (show decode _ _ = .ok (.iconst 2, 1) by decide +kernel) (by decide) ?_
      refine fw_iadd (show decode _ _ = .ok (.iadd, 1) by decide +kernel) ?_
      obtain ⟨⟨n314, hs315, hi316⟩, h_43⟩ := h_42
      refine fw_iald (show decode _ _ = .ok (.iaload, 1) by decide +kernel) hs315 hi316 ?_
      obtain ⟨⟨hr319, n318, hs320⟩, h_44⟩ := h_43
      refine fw_callV (mt' := mtX10_rail) (mc := 0) (ms := 0) (As := [.int (mI M p0 (ix (p3 + (1 : Int32)))), .int (mI M p0 (ix (p3 + (2 : Int32))))]) (rest := []) 2 10 n318 (show decode _ _ = .ok (.invokevirtual 28, 3) by decide +kernel) cv_L_28 ⟨_, rfl, rfl⟩ hr319 hs320 rfl (Nat.le_of_ble_eq_true rfl) (s_X10_rail (d := d) (hd_le hd (by decide)) h_44) (by first | exact Nat.le_refl _ | exact Nat.le_add_right _ _ | exact Nat.zero_le _ | exact Nat.le_add_left _ _ | exact Nat.le_of_eq (Nat.add_sub_cancel).symm | decide) (by first | exact Nat.le_refl _ | exact Nat.le_add_right _ _ | exact Nat.zero_le _ | exact Nat.le_add_left _ _ | exact Nat.le_of_eq (Nat.add_sub_cancel).symm | decide) (kI (bc' := (Bc + 11)) (bs' := (Bs + 3005)) (by first | exact Nat.le_refl _ | exact Nat.le_add_right _ _ | exact Nat.zero_le _ | exact Nat.le_add_left _ _ | exact Nat.le_of_eq (Nat.add_sub_cancel).symm | decide) (by first | exact Nat.le_refl _ | exact Nat.le_add_right _ _ | exact Nat.zero_le _ | exact Nat.le_add_left _ _ | exact Nat.le_of_eq (Nat.add_sub_cancel).symm | decide) (fun x321 M317 h_45 => ?_))
      refine fw_aload_n (i := 2) 2 rfl (show decode _ _ = .ok (.aload_n 2, 1) by decide +kernel) ?_
      refine fw_aload_n (i := 0) 0 rfl (show decode _ _ = .ok (.aload_n 0, 1) by decide +kernel) ?_
      refine fw_iload_n (i := 3) 3 rfl (show decode _ _ = .ok (.iload_n 3, 1) by decide +kernel) ?_
      refine fw_iconst (v := (1 : Int32)) (show decode _ _ = .ok (.iconst 1, 1) by decide +kernel) (by decide) ?_
      refine fw_iadd (show decode _ _ = .ok (.iadd, 1) by decide +kernel) ?_
      obtain ⟨⟨n322, hs323, hi324⟩, h_46⟩ := h_45
      refine fw_iald (show decode _ _ = .ok (.iaload, 1) by decide +kernel) hs323 hi324 ?_
      refine fw_aload_n (i := 0) 0 rfl (show decode _ _ = .ok (.aload_n 0, 1) by decide +kernel) ?_
      refine fw_iload_n (i := 3) 3 rfl (show decode _ _ = .ok (.iload_n 3, 1) by decide +kernel) ?_
      refine fw_iconst (v := (2 : Int32)) (show decode _ _ = .ok (.iconst 2, 1) by decide +kernel) (by decide) ?_
      refine fw_iadd (show decode _ _ = .ok (.iadd, 1) by decide +kernel) ?_
      obtain ⟨⟨n325, hs326, hi327⟩, h_47⟩ := h_46
      refine fw_iald (show decode _ _ = .ok (.iaload, 1) by decide +kernel) hs326 hi327 ?_
      obtain ⟨⟨hr330, n329, hs331⟩, h_48⟩ := h_47
      refine fw_callV (mt' := mtX11_rail) (mc := 0) (ms := 0) (As := [.int (mI M317 p0 (ix (p3 + (1 : Int32)))), .int (mI M317 p0 (ix (p3 + (2 : Int32))))]) (rest := [.int x321]) 2 11 n329 (show decode _ _ = .ok (.invokevirtual 31, 3) by decide +kernel) cv_L_31 ⟨_, rfl, rfl⟩ hr330 hs331 rfl (Nat.le_of_ble_eq_true rfl) (s_X11_rail (d := d) (hd_le hd (by decide)) h_48) (by first | exact Nat.le_refl _ | exact Nat.le_add_right _ _ | exact Nat.zero_le _ | exact Nat.le_add_left _ _ | exact Nat.le_of_eq (Nat.add_sub_cancel).symm | decide) (by first | exact Nat.le_refl _ | exact Nat.le_add_right _ _ | exact Nat.zero_le _ | exact Nat.le_add_left _ _ | exact Nat.le_of_eq (Nat.add_sub_cancel).symm | decide) (kI (bc' := (Bc + 11)) (bs' := (Bs + 3005)) (by first | exact Nat.le_refl _ | exact Nat.le_add_right _ _ | exact Nat.zero_le _ | exact Nat.le_add_left _ _ | exact Nat.le_of_eq (Nat.add_sub_cancel).symm | decide) (by first | exact Nat.le_refl _ | exact Nat.le_add_right _ _ | exact Nat.zero_le _ | exact Nat.le_add_left _ _ | exact Nat.le_of_eq (Nat.add_sub_cancel).symm | decide) (fun x332 M328 h_49 => ?_))
      refine fw_icmp_eq 1833 (show decode _ _ = .ok (.if_icmp .eq 1454, 3) by decide +kernel) (by decide) (fun hc335 => ?_) (fun hc335 => ?_)
      · have h_50 := ipos hc335 h_49
        obtain ⟨x333, ex334⟩ : ∃ y : Int32, y = p3 + (7 : Int32) := ⟨_, rfl⟩
        have h_51 := h_50 x333 ex334
        refine fw_iinc (i := 3) (x := p3) (v := x333) (ls' := [(3, .int x333), (0, .ref p0), (1, .ref p1), (2, .ref p2)]) 3 rfl (show decode _ _ = .ok (.iinc 3 7, 3) by decide +kernel) (by rw [ex334]; rfl) (by decide) rfl ?_
        refine fw_goto 18 (show decode _ _ = .ok (.goto (-1818), 3) by decide +kernel) (by decide) ?_
        refine FW.sub [1, 2, 3, 0] (ls' := [(0, .ref p0), (1, .ref p1), (2, .ref p2), (3, .int x333)]) rfl ?_
        refine FW.room (bc' := Bc) (bs' := Bs) (by first | exact Nat.le_refl _ | exact Nat.le_add_right _ _ | exact Nat.zero_le _ | exact Nat.le_add_left _ _ | exact Nat.le_of_eq (Nat.add_sub_cancel).symm | decide) (by first | exact Nat.le_refl _ | exact Nat.le_add_right _ _ | exact Nat.zero_le _ | exact Nat.le_add_left _ _ | exact Nat.le_of_eq (Nat.add_sub_cancel).symm | decide) ?_
        exact hK18 _ _ _ _ _ h_51
      · have h_52 := ineg hc335 h_49
        refine fw_iconst (v := (0 : Int32)) (show decode _ _ = .ok (.iconst 0, 1) by decide +kernel) (by decide) ?_
        exact fw_ret (v := some (.int (0 : Int32))) .ireturn (show decode _ _ = .ok (.ireturn, 1) by decide +kernel) ⟨rfl, Or.inr (Or.inl ⟨rfl, rfl⟩)⟩ ⟨_, rfl, h_52⟩
    have h_53 := ineg hc336 h_40
    by_cases hc368 : x240 = (4 : Int32)
    · have h_54 := ipos hc368 h_53
      refine fw_tin (off := 351) 384 (show decode _ _ = .ok (.tableswitch 1800 0 41 #[183, 216, 259, 318, 351, 394, 417, 480, 503, 516, 539, 562, 605, 618, 631, 644, 667, 690, 723, 736, 759, 792, 855, 888, 980, 1060, 1103, 1146, 1179, 1232, 1302, 1372, 1442, 1501, 1534, 1567, 1610, 1679, 1692, 1751, 1764, 1777], 183) by decide +kernel) (by rw [hc368]; decide) (by rw [hc368]; decide) (by rw [hc368]; rfl) (by decide) ?_
      refine fw_aload_n (i := 1) 1 rfl (show decode _ _ = .ok (.aload_n 1, 1) by decide +kernel) ?_
      refine fw_aload_n (i := 0) 0 rfl (show decode _ _ = .ok (.aload_n 0, 1) by decide +kernel) ?_
      refine fw_iload_n (i := 3) 3 rfl (show decode _ _ = .ok (.iload_n 3, 1) by decide +kernel) ?_
      refine fw_iconst (v := (1 : Int32)) (show decode _ _ = .ok (.iconst 1, 1) by decide +kernel) (by decide) ?_
      refine fw_iadd (show decode _ _ = .ok (.iadd, 1) by decide +kernel) ?_
      obtain ⟨⟨n337, hs338, hi339⟩, h_55⟩ := h_54
      refine fw_iald (show decode _ _ = .ok (.iaload, 1) by decide +kernel) hs338 hi339 ?_
      refine fw_aload_n (i := 0) 0 rfl (show decode _ _ = .ok (.aload_n 0, 1) by decide +kernel) ?_
      refine fw_iload_n (i := 3) 3 rfl (show decode _ _ = .ok (.iload_n 3, 1) by decide +kernel) ?_
      refine fw_iconst (v := (2 : Int32)) (show decode _ _ = .ok (.iconst 2, 1) by decide +kernel) (by decide) ?_
      refine fw_iadd (show decode _ _ = .ok (.iadd, 1) by decide +kernel) ?_
      obtain ⟨⟨n340, hs341, hi342⟩, h_56⟩ := h_55
      refine fw_iald (show decode _ _ = .ok (.iaload, 1) by decide +kernel) hs341 hi342 ?_
      refine fw_aload_n (i := 0) 0 rfl (show decode _ _ = .ok (.aload_n 0, 1) by decide +kernel) ?_
      refine fw_iload_n (i := 3) 3 rfl (show decode _ _ = .ok (.iload_n 3, 1) by decide +kernel) ?_
      refine fw_iconst (v := (3 : Int32)) (show decode _ _ = .ok (.iconst 3, 1) by decide +kernel) (by decide) ?_
      refine fw_iadd (show decode _ _ = .ok (.iadd, 1) by decide +kernel) ?_
      obtain ⟨⟨n343, hs344, hi345⟩, h_57⟩ := h_56
      refine fw_iald (show decode _ _ = .ok (.iaload, 1) by decide +kernel) hs344 hi345 ?_
      obtain ⟨⟨hr348, n347, hs349⟩, h_58⟩ := h_57
      refine fw_callV (mt' := mtX10_person) (mc := 0) (ms := 0) (As := [.int (mI M p0 (ix (p3 + (1 : Int32)))), .int (mI M p0 (ix (p3 + (2 : Int32)))), .int (mI M p0 (ix (p3 + (3 : Int32))))]) (rest := []) 3 10 n347 (show decode _ _ = .ok (.invokevirtual 32, 3) by decide +kernel) cv_L_32 ⟨_, rfl, rfl⟩ hr348 hs349 rfl (Nat.le_of_ble_eq_true rfl) (s_X10_person (d := d) (hd_le hd (by decide)) h_58) (by first | exact Nat.le_refl _ | exact Nat.le_add_right _ _ | exact Nat.zero_le _ | exact Nat.le_add_left _ _ | exact Nat.le_of_eq (Nat.add_sub_cancel).symm | decide) (by first | exact Nat.le_refl _ | exact Nat.le_add_right _ _ | exact Nat.zero_le _ | exact Nat.le_add_left _ _ | exact Nat.le_of_eq (Nat.add_sub_cancel).symm | decide) (kI (bc' := (Bc + 11)) (bs' := (Bs + 3005)) (by first | exact Nat.le_refl _ | exact Nat.le_add_right _ _ | exact Nat.zero_le _ | exact Nat.le_add_left _ _ | exact Nat.le_of_eq (Nat.add_sub_cancel).symm | decide) (by first | exact Nat.le_refl _ | exact Nat.le_add_right _ _ | exact Nat.zero_le _ | exact Nat.le_add_left _ _ | exact Nat.le_of_eq (Nat.add_sub_cancel).symm | decide) (fun x350 M346 h_59 => ?_))
      refine fw_aload_n (i := 2) 2 rfl (show decode _ _ = .ok (.aload_n 2, 1) by decide +kernel) ?_
      refine fw_aload_n (i := 0) 0 rfl (show decode _ _ = .ok (.aload_n 0, 1) by decide +kernel) ?_
      refine fw_iload_n (i := 3) 3 rfl (show decode _ _ = .ok (.iload_n 3, 1) by decide +kernel) ?_
      refine fw_iconst (v := (1 : Int32)) (show decode _ _ = .ok (.iconst 1, 1) by decide +kernel) (by decide) ?_
      refine fw_iadd (show decode _ _ = .ok (.iadd, 1) by decide +kernel) ?_
      obtain ⟨⟨n351, hs352, hi353⟩, h_60⟩ := h_59
      refine fw_iald (show decode _ _ = .ok (.iaload, 1) by decide +kernel) hs352 hi353 ?_
      refine fw_aload_n (i := 0) 0 rfl (show decode _ _ = .ok (.aload_n 0, 1) by decide +kernel) ?_
      refine fw_iload_n (i := 3) 3 rfl (show decode _ _ = .ok (.iload_n 3, 1) by decide +kernel) ?_
      refine fw_iconst (v := (2 : Int32)) (show decode _ _ = .ok (.iconst 2, 1) by decide +kernel) (by decide) ?_
      refine fw_iadd (show decode _ _ = .ok (.iadd, 1) by decide +kernel) ?_
      obtain ⟨⟨n354, hs355, hi356⟩, h_61⟩ := h_60
      refine fw_iald (show decode _ _ = .ok (.iaload, 1) by decide +kernel) hs355 hi356 ?_
      refine fw_aload_n (i := 0) 0 rfl (show decode _ _ = .ok (.aload_n 0, 1) by decide +kernel) ?_
      refine fw_iload_n (i := 3) 3 rfl (show decode _ _ = .ok (.iload_n 3, 1) by decide +kernel) ?_
      refine fw_iconst (v := (3 : Int32)) (show decode _ _ = .ok (.iconst 3, 1) by decide +kernel) (by decide) ?_
      refine fw_iadd (show decode _ _ = .ok (.iadd, 1) by decide +kernel) ?_
      obtain ⟨⟨n357, hs358, hi359⟩, h_62⟩ := h_61
      refine fw_iald (show decode _ _ = .ok (.iaload, 1) by decide +kernel) hs358 hi359 ?_
      obtain ⟨⟨hr362, n361, hs363⟩, h_63⟩ := h_62
      refine fw_callV (mt' := mtX11_person) (mc := 0) (ms := 0) (As := [.int (mI M346 p0 (ix (p3 + (1 : Int32)))), .int (mI M346 p0 (ix (p3 + (2 : Int32)))), .int (mI M346 p0 (ix (p3 + (3 : Int32))))]) (rest := [.int x350]) 3 11 n361 (show decode _ _ = .ok (.invokevirtual 36, 3) by decide +kernel) cv_L_36 ⟨_, rfl, rfl⟩ hr362 hs363 rfl (Nat.le_of_ble_eq_true rfl) (s_X11_person (d := d) (hd_le hd (by decide)) h_63) (by first | exact Nat.le_refl _ | exact Nat.le_add_right _ _ | exact Nat.zero_le _ | exact Nat.le_add_left _ _ | exact Nat.le_of_eq (Nat.add_sub_cancel).symm | decide) (by first | exact Nat.le_refl _ | exact Nat.le_add_right _ _ | exact Nat.zero_le _ | exact Nat.le_add_left _ _ | exact Nat.le_of_eq (Nat.add_sub_cancel).symm | decide) (kI (bc' := (Bc + 11)) (bs' := (Bs + 3005)) (by first | exact Nat.le_refl _ | exact Nat.le_add_right _ _ | exact Nat.zero_le _ | exact Nat.le_add_left _ _ | exact Nat.le_of_eq (Nat.add_sub_cancel).symm | decide) (by first | exact Nat.le_refl _ | exact Nat.le_add_right _ _ | exact Nat.zero_le _ | exact Nat.le_add_left _ _ | exact Nat.le_of_eq (Nat.add_sub_cancel).symm | decide) (fun x364 M360 h_64 => ?_))
      refine fw_icmp_eq 1833 (show decode _ _ = .ok (.if_icmp .eq 1411, 3) by decide +kernel) (by decide) (fun hc367 => ?_) (fun hc367 => ?_)
      · have h_65 := ipos hc367 h_64
        obtain ⟨x365, ex366⟩ : ∃ y : Int32, y = p3 + (7 : Int32) := ⟨_, rfl⟩
        have h_66 := h_65 x365 ex366
        refine fw_iinc (i := 3) (x := p3) (v := x365) (ls' := [(3, .int x365), (0, .ref p0), (1, .ref p1), (2, .ref p2)]) 3 rfl (show decode _ _ = .ok (.iinc 3 7, 3) by decide +kernel) (by rw [ex366]; rfl) (by decide) rfl ?_
        refine fw_goto 18 (show decode _ _ = .ok (.goto (-1818), 3) by decide +kernel) (by decide) ?_
        refine FW.sub [1, 2, 3, 0] (ls' := [(0, .ref p0), (1, .ref p1), (2, .ref p2), (3, .int x365)]) rfl ?_
        refine FW.room (bc' := Bc) (bs' := Bs) (by first | exact Nat.le_refl _ | exact Nat.le_add_right _ _ | exact Nat.zero_le _ | exact Nat.le_add_left _ _ | exact Nat.le_of_eq (Nat.add_sub_cancel).symm | decide) (by first | exact Nat.le_refl _ | exact Nat.le_add_right _ _ | exact Nat.zero_le _ | exact Nat.le_add_left _ _ | exact Nat.le_of_eq (Nat.add_sub_cancel).symm | decide) ?_
        exact hK18 _ _ _ _ _ h_66
      · have h_67 := ineg hc367 h_64
        refine fw_iconst (v := (0 : Int32)) (show decode _ _ = .ok (.iconst 0, 1) by decide +kernel) (by decide) ?_
        exact fw_ret (v := some (.int (0 : Int32))) .ireturn (show decode _ _ = .ok (.ireturn, 1) by decide +kernel) ⟨rfl, Or.inr (Or.inl ⟨rfl, rfl⟩)⟩ ⟨_, rfl, h_67⟩
    have h_68 := ineg hc368 h_53
    by_cases hc388 : x240 = (5 : Int32)
    · have h_69 := ipos hc388 h_68
      refine fw_tin (off := 394) 427 (show decode _ _ = .ok (.tableswitch 1800 0 41 #[183, 216, 259, 318, 351, 394, 417, 480, 503, 516, 539, 562, 605, 618, 631, 644, 667, 690, 723, 736, 759, 792, 855, 888, 980, 1060, 1103, 1146, 1179, 1232, 1302, 1372, 1442, 1501, 1534, 1567, 1610, 1679, 1692, 1751, 1764, 1777], 183) by decide +kernel) (by rw [hc388]; decide) (by rw [hc388]; decide) (by rw [hc388]; rfl) (by decide) ?_
      refine fw_aload_n (i := 1) 1 rfl (show decode _ _ = .ok (.aload_n 1, 1) by decide +kernel) ?_
      refine fw_aload_n (i := 0) 0 rfl (show decode _ _ = .ok (.aload_n 0, 1) by decide +kernel) ?_
      refine fw_iload_n (i := 3) 3 rfl (show decode _ _ = .ok (.iload_n 3, 1) by decide +kernel) ?_
      refine fw_iconst (v := (1 : Int32)) (show decode _ _ = .ok (.iconst 1, 1) by decide +kernel) (by decide) ?_
      refine fw_iadd (show decode _ _ = .ok (.iadd, 1) by decide +kernel) ?_
      obtain ⟨⟨n369, hs370, hi371⟩, h_70⟩ := h_69
      refine fw_iald (show decode _ _ = .ok (.iaload, 1) by decide +kernel) hs370 hi371 ?_
      obtain ⟨⟨hr374, n373, hs375⟩, h_71⟩ := h_70
      refine fw_callV (mt' := mtX10_seed) (mc := 0) (ms := 0) (As := [.int (mI M p0 (ix (p3 + (1 : Int32))))]) (rest := []) 1 10 n373 (show decode _ _ = .ok (.invokevirtual 37, 3) by decide +kernel) cv_L_37 ⟨_, rfl, rfl⟩ hr374 hs375 rfl (Nat.le_of_ble_eq_true rfl) (s_X10_seed (d := d) (hd_le hd (by decide)) h_71) (by first | exact Nat.le_refl _ | exact Nat.le_add_right _ _ | exact Nat.zero_le _ | exact Nat.le_add_left _ _ | exact Nat.le_of_eq (Nat.add_sub_cancel).symm | decide) (by first | exact Nat.le_refl _ | exact Nat.le_add_right _ _ | exact Nat.zero_le _ | exact Nat.le_add_left _ _ | exact Nat.le_of_eq (Nat.add_sub_cancel).symm | decide) (kI (bc' := (Bc + 11)) (bs' := (Bs + 3005)) (by first | exact Nat.le_refl _ | exact Nat.le_add_right _ _ | exact Nat.zero_le _ | exact Nat.le_add_left _ _ | exact Nat.le_of_eq (Nat.add_sub_cancel).symm | decide) (by first | exact Nat.le_refl _ | exact Nat.le_add_right _ _ | exact Nat.zero_le _ | exact Nat.le_add_left _ _ | exact Nat.le_of_eq (Nat.add_sub_cancel).symm | decide) (fun x376 M372 h_72 => ?_))
      refine fw_aload_n (i := 2) 2 rfl (show decode _ _ = .ok (.aload_n 2, 1) by decide +kernel) ?_
      refine fw_aload_n (i := 0) 0 rfl (show decode _ _ = .ok (.aload_n 0, 1) by decide +kernel) ?_
      refine fw_iload_n (i := 3) 3 rfl (show decode _ _ = .ok (.iload_n 3, 1) by decide +kernel) ?_
      refine fw_iconst (v := (1 : Int32)) (show decode _ _ = .ok (.iconst 1, 1) by decide +kernel) (by decide) ?_
      refine fw_iadd (show decode _ _ = .ok (.iadd, 1) by decide +kernel) ?_
      obtain ⟨⟨n377, hs378, hi379⟩, h_73⟩ := h_72
      refine fw_iald (show decode _ _ = .ok (.iaload, 1) by decide +kernel) hs378 hi379 ?_
      obtain ⟨⟨hr382, n381, hs383⟩, h_74⟩ := h_73
      refine fw_callV (mt' := mtX11_seed) (mc := 0) (ms := 0) (As := [.int (mI M372 p0 (ix (p3 + (1 : Int32))))]) (rest := [.int x376]) 1 11 n381 (show decode _ _ = .ok (.invokevirtual 41, 3) by decide +kernel) cv_L_41 ⟨_, rfl, rfl⟩ hr382 hs383 rfl (Nat.le_of_ble_eq_true rfl) (s_X11_seed (d := d) (hd_le hd (by decide)) h_74) (by first | exact Nat.le_refl _ | exact Nat.le_add_right _ _ | exact Nat.zero_le _ | exact Nat.le_add_left _ _ | exact Nat.le_of_eq (Nat.add_sub_cancel).symm | decide) (by first | exact Nat.le_refl _ | exact Nat.le_add_right _ _ | exact Nat.zero_le _ | exact Nat.le_add_left _ _ | exact Nat.le_of_eq (Nat.add_sub_cancel).symm | decide) (kI (bc' := (Bc + 11)) (bs' := (Bs + 3005)) (by first | exact Nat.le_refl _ | exact Nat.le_add_right _ _ | exact Nat.zero_le _ | exact Nat.le_add_left _ _ | exact Nat.le_of_eq (Nat.add_sub_cancel).symm | decide) (by first | exact Nat.le_refl _ | exact Nat.le_add_right _ _ | exact Nat.zero_le _ | exact Nat.le_add_left _ _ | exact Nat.le_of_eq (Nat.add_sub_cancel).symm | decide) (fun x384 M380 h_75 => ?_))
      refine fw_icmp_eq 1833 (show decode _ _ = .ok (.if_icmp .eq 1388, 3) by decide +kernel) (by decide) (fun hc387 => ?_) (fun hc387 => ?_)
      · have h_76 := ipos hc387 h_75
        obtain ⟨x385, ex386⟩ : ∃ y : Int32, y = p3 + (7 : Int32) := ⟨_, rfl⟩
        have h_77 := h_76 x385 ex386
        refine fw_iinc (i := 3) (x := p3) (v := x385) (ls' := [(3, .int x385), (0, .ref p0), (1, .ref p1), (2, .ref p2)]) 3 rfl (show decode _ _ = .ok (.iinc 3 7, 3) by decide +kernel) (by rw [ex386]; rfl) (by decide) rfl ?_
        refine fw_goto 18 (show decode _ _ = .ok (.goto (-1818), 3) by decide +kernel) (by decide) ?_
        refine FW.sub [1, 2, 3, 0] (ls' := [(0, .ref p0), (1, .ref p1), (2, .ref p2), (3, .int x385)]) rfl ?_
        refine FW.room (bc' := Bc) (bs' := Bs) (by first | exact Nat.le_refl _ | exact Nat.le_add_right _ _ | exact Nat.zero_le _ | exact Nat.le_add_left _ _ | exact Nat.le_of_eq (Nat.add_sub_cancel).symm | decide) (by first | exact Nat.le_refl _ | exact Nat.le_add_right _ _ | exact Nat.zero_le _ | exact Nat.le_add_left _ _ | exact Nat.le_of_eq (Nat.add_sub_cancel).symm | decide) ?_
        exact hK18 _ _ _ _ _ h_77
      · have h_78 := ineg hc387 h_75
        refine fw_iconst (v := (0 : Int32)) (show decode _ _ = .ok (.iconst 0, 1) by decide +kernel) (by decide) ?_
        exact fw_ret (v := some (.int (0 : Int32))) .ireturn (show decode _ _ = .ok (.ireturn, 1) by decide +kernel) ⟨rfl, Or.inr (Or.inl ⟨rfl, rfl⟩)⟩ ⟨_, rfl, h_78⟩
    have h_79 := ineg hc388 h_68
    by_cases hc432 : x240 = (6 : Int32)
    · have h_80 := ipos hc432 h_79
      refine fw_tin (off := 417) 450 (show decode _ _ = .ok (.tableswitch 1800 0 41 #[183, 216, 259, 318, 351, 394, 417, 480, 503, 516, 539, 562, 605, 618, 631, 644, 667, 690, 723, 736, 759, 792, 855, 888, 980, 1060, 1103, 1146, 1179, 1232, 1302, 1372, 1442, 1501, 1534, 1567, 1610, 1679, 1692, 1751, 1764, 1777], 183) by decide +kernel) (by rw [hc432]; decide) (by rw [hc432]; decide) (by rw [hc432]; rfl) (by decide) ?_
      refine fw_aload_n (i := 1) 1 rfl (show decode _ _ = .ok (.aload_n 1, 1) by decide +kernel) ?_
      refine fw_aload_n (i := 0) 0 rfl (show decode _ _ = .ok (.aload_n 0, 1) by decide +kernel) ?_
      refine fw_iload_n (i := 3) 3 rfl (show decode _ _ = .ok (.iload_n 3, 1) by decide +kernel) ?_
      refine fw_iconst (v := (1 : Int32)) (show decode _ _ = .ok (.iconst 1, 1) by decide +kernel) (by decide) ?_
      refine fw_iadd (show decode _ _ = .ok (.iadd, 1) by decide +kernel) ?_
      obtain ⟨⟨n389, hs390, hi391⟩, h_81⟩ := h_80
      refine fw_iald (show decode _ _ = .ok (.iaload, 1) by decide +kernel) hs390 hi391 ?_
      refine fw_aload_n (i := 0) 0 rfl (show decode _ _ = .ok (.aload_n 0, 1) by decide +kernel) ?_
      refine fw_iload_n (i := 3) 3 rfl (show decode _ _ = .ok (.iload_n 3, 1) by decide +kernel) ?_
      refine fw_iconst (v := (2 : Int32)) (show decode _ _ = .ok (.iconst 2, 1) by decide +kernel) (by decide) ?_
      refine fw_iadd (show decode _ _ = .ok (.iadd, 1) by decide +kernel) ?_
      obtain ⟨⟨n392, hs393, hi394⟩, h_82⟩ := h_81
      refine fw_iald (show decode _ _ = .ok (.iaload, 1) by decide +kernel) hs393 hi394 ?_
      refine fw_aload_n (i := 0) 0 rfl (show decode _ _ = .ok (.aload_n 0, 1) by decide +kernel) ?_
      refine fw_iload_n (i := 3) 3 rfl (show decode _ _ = .ok (.iload_n 3, 1) by decide +kernel) ?_
      refine fw_iconst (v := (3 : Int32)) (show decode _ _ = .ok (.iconst 3, 1) by decide +kernel) (by decide) ?_
      refine fw_iadd (show decode _ _ = .ok (.iadd, 1) by decide +kernel) ?_
      obtain ⟨⟨n395, hs396, hi397⟩, h_83⟩ := h_82
      refine fw_iald (show decode _ _ = .ok (.iaload, 1) by decide +kernel) hs396 hi397 ?_
      refine fw_aload_n (i := 0) 0 rfl (show decode _ _ = .ok (.aload_n 0, 1) by decide +kernel) ?_
      refine fw_iload_n (i := 3) 3 rfl (show decode _ _ = .ok (.iload_n 3, 1) by decide +kernel) ?_
      refine fw_iconst (v := (4 : Int32)) (show decode _ _ = .ok (.iconst 4, 1) by decide +kernel) (by decide) ?_
      refine fw_iadd (show decode _ _ = .ok (.iadd, 1) by decide +kernel) ?_
      obtain ⟨⟨n398, hs399, hi400⟩, h_84⟩ := h_83
      refine fw_iald (show decode _ _ = .ok (.iaload, 1) by decide +kernel) hs399 hi400 ?_
      refine fw_aload_n (i := 0) 0 rfl (show decode _ _ = .ok (.aload_n 0, 1) by decide +kernel) ?_
      refine fw_iload_n (i := 3) 3 rfl (show decode _ _ = .ok (.iload_n 3, 1) by decide +kernel) ?_
      refine fw_iconst (v := (5 : Int32)) (show decode _ _ = .ok (.iconst 5, 1) by decide +kernel) (by decide) ?_
      refine fw_iadd (show decode _ _ = .ok (.iadd, 1) by decide +kernel) ?_
      obtain ⟨⟨n401, hs402, hi403⟩, h_85⟩ := h_84
      refine fw_iald (show decode _ _ = .ok (.iaload, 1) by decide +kernel) hs402 hi403 ?_
      obtain ⟨⟨hr406, n405, hs407⟩, h_86⟩ := h_85
      refine fw_callV (mt' := mtX10_feed) (mc := 0) (ms := 0) (As := [.int (mI M p0 (ix (p3 + (1 : Int32)))), .int (mI M p0 (ix (p3 + (2 : Int32)))), .int (mI M p0 (ix (p3 + (3 : Int32)))), .int (mI M p0 (ix (p3 + (4 : Int32)))), .int (mI M p0 (ix (p3 + (5 : Int32))))]) (rest := []) 5 10 n405 (show decode _ _ = .ok (.invokevirtual 42, 3) by decide +kernel) cv_L_42 ⟨_, rfl, rfl⟩ hr406 hs407 rfl (Nat.le_of_ble_eq_true rfl) (s_X10_feed (d := d) (hd_le hd (by decide)) h_86) (by first | exact Nat.le_refl _ | exact Nat.le_add_right _ _ | exact Nat.zero_le _ | exact Nat.le_add_left _ _ | exact Nat.le_of_eq (Nat.add_sub_cancel).symm | decide) (by first | exact Nat.le_refl _ | exact Nat.le_add_right _ _ | exact Nat.zero_le _ | exact Nat.le_add_left _ _ | exact Nat.le_of_eq (Nat.add_sub_cancel).symm | decide) (kI (bc' := (Bc + 11)) (bs' := (Bs + 3005)) (by first | exact Nat.le_refl _ | exact Nat.le_add_right _ _ | exact Nat.zero_le _ | exact Nat.le_add_left _ _ | exact Nat.le_of_eq (Nat.add_sub_cancel).symm | decide) (by first | exact Nat.le_refl _ | exact Nat.le_add_right _ _ | exact Nat.zero_le _ | exact Nat.le_add_left _ _ | exact Nat.le_of_eq (Nat.add_sub_cancel).symm | decide) (fun x408 M404 h_87 => ?_))
      refine fw_aload_n (i := 2) 2 rfl (show decode _ _ = .ok (.aload_n 2, 1) by decide +kernel) ?_
      refine fw_aload_n (i := 0) 0 rfl (show decode _ _ = .ok (.aload_n 0, 1) by decide +kernel) ?_
      refine fw_iload_n (i := 3) 3 rfl (show decode _ _ = .ok (.iload_n 3, 1) by decide +kernel) ?_
      refine fw_iconst (v := (1 : Int32)) (show decode _ _ = .ok (.iconst 1, 1) by decide +kernel) (by decide) ?_
      refine fw_iadd (show decode _ _ = .ok (.iadd, 1) by decide +kernel) ?_
      obtain ⟨⟨n409, hs410, hi411⟩, h_88⟩ := h_87
      refine fw_iald (show decode _ _ = .ok (.iaload, 1) by decide +kernel) hs410 hi411 ?_
      refine fw_aload_n (i := 0) 0 rfl (show decode _ _ = .ok (.aload_n 0, 1) by decide +kernel) ?_
      refine fw_iload_n (i := 3) 3 rfl (show decode _ _ = .ok (.iload_n 3, 1) by decide +kernel) ?_
      refine fw_iconst (v := (2 : Int32)) (show decode _ _ = .ok (.iconst 2, 1) by decide +kernel) (by decide) ?_
      refine fw_iadd (show decode _ _ = .ok (.iadd, 1) by decide +kernel) ?_
      obtain ⟨⟨n412, hs413, hi414⟩, h_89⟩ := h_88
      refine fw_iald (show decode _ _ = .ok (.iaload, 1) by decide +kernel) hs413 hi414 ?_
      refine fw_aload_n (i := 0) 0 rfl (show decode _ _ = .ok (.aload_n 0, 1) by decide +kernel) ?_
      refine fw_iload_n (i := 3) 3 rfl (show decode _ _ = .ok (.iload_n 3, 1) by decide +kernel) ?_
      refine fw_iconst (v := (3 : Int32)) (show decode _ _ = .ok (.iconst 3, 1) by decide +kernel) (by decide) ?_
      refine fw_iadd (show decode _ _ = .ok (.iadd, 1) by decide +kernel) ?_
      obtain ⟨⟨n415, hs416, hi417⟩, h_90⟩ := h_89
      refine fw_iald (show decode _ _ = .ok (.iaload, 1) by decide +kernel) hs416 hi417 ?_
      refine fw_aload_n (i := 0) 0 rfl (show decode _ _ = .ok (.aload_n 0, 1) by decide +kernel) ?_
      refine fw_iload_n (i := 3) 3 rfl (show decode _ _ = .ok (.iload_n 3, 1) by decide +kernel) ?_
      refine fw_iconst (v := (4 : Int32)) (show decode _ _ = .ok (.iconst 4, 1) by decide +kernel) (by decide) ?_
      refine fw_iadd (show decode _ _ = .ok (.iadd, 1) by decide +kernel) ?_
      obtain ⟨⟨n418, hs419, hi420⟩, h_91⟩ := h_90
      refine fw_iald (show decode _ _ = .ok (.iaload, 1) by decide +kernel) hs419 hi420 ?_
      refine fw_aload_n (i := 0) 0 rfl (show decode _ _ = .ok (.aload_n 0, 1) by decide +kernel) ?_
      refine fw_iload_n (i := 3) 3 rfl (show decode _ _ = .ok (.iload_n 3, 1) by decide +kernel) ?_
      refine fw_iconst (v := (5 : Int32)) (show decode _ _ = .ok (.iconst 5, 1) by decide +kernel) (by decide) ?_
      refine fw_iadd (show decode _ _ = .ok (.iadd, 1) by decide +kernel) ?_
      obtain ⟨⟨n421, hs422, hi423⟩, h_92⟩ := h_91
      refine fw_iald (show decode _ _ = .ok (.iaload, 1) by decide +kernel) hs422 hi423 ?_
      obtain ⟨⟨hr426, n425, hs427⟩, h_93⟩ := h_92
      refine fw_callV (mt' := mtX11_feed) (mc := 0) (ms := 0) (As := [.int (mI M404 p0 (ix (p3 + (1 : Int32)))), .int (mI M404 p0 (ix (p3 + (2 : Int32)))), .int (mI M404 p0 (ix (p3 + (3 : Int32)))), .int (mI M404 p0 (ix (p3 + (4 : Int32)))), .int (mI M404 p0 (ix (p3 + (5 : Int32))))]) (rest := [.int x408]) 5 11 n425 (show decode _ _ = .ok (.invokevirtual 46, 3) by decide +kernel) cv_L_46 ⟨_, rfl, rfl⟩ hr426 hs427 rfl (Nat.le_of_ble_eq_true rfl) (s_X11_feed (d := d) (hd_le hd (by decide)) h_93) (by first | exact Nat.le_refl _ | exact Nat.le_add_right _ _ | exact Nat.zero_le _ | exact Nat.le_add_left _ _ | exact Nat.le_of_eq (Nat.add_sub_cancel).symm | decide) (by first | exact Nat.le_refl _ | exact Nat.le_add_right _ _ | exact Nat.zero_le _ | exact Nat.le_add_left _ _ | exact Nat.le_of_eq (Nat.add_sub_cancel).symm | decide) (kI (bc' := (Bc + 11)) (bs' := (Bs + 3005)) (by first | exact Nat.le_refl _ | exact Nat.le_add_right _ _ | exact Nat.zero_le _ | exact Nat.le_add_left _ _ | exact Nat.le_of_eq (Nat.add_sub_cancel).symm | decide) (by first | exact Nat.le_refl _ | exact Nat.le_add_right _ _ | exact Nat.zero_le _ | exact Nat.le_add_left _ _ | exact Nat.le_of_eq (Nat.add_sub_cancel).symm | decide) (fun x428 M424 h_94 => ?_))
      refine fw_icmp_eq 1833 (show decode _ _ = .ok (.if_icmp .eq 1325, 3) by decide +kernel) (by decide) (fun hc431 => ?_) (fun hc431 => ?_)
      · have h_95 := ipos hc431 h_94
        obtain ⟨x429, ex430⟩ : ∃ y : Int32, y = p3 + (7 : Int32) := ⟨_, rfl⟩
        have h_96 := h_95 x429 ex430
        refine fw_iinc (i := 3) (x := p3) (v := x429) (ls' := [(3, .int x429), (0, .ref p0), (1, .ref p1), (2, .ref p2)]) 3 rfl (show decode _ _ = .ok (.iinc 3 7, 3) by decide +kernel) (by rw [ex430]; rfl) (by decide) rfl ?_
        refine fw_goto 18 (show decode _ _ = .ok (.goto (-1818), 3) by decide +kernel) (by decide) ?_
        refine FW.sub [1, 2, 3, 0] (ls' := [(0, .ref p0), (1, .ref p1), (2, .ref p2), (3, .int x429)]) rfl ?_
        refine FW.room (bc' := Bc) (bs' := Bs) (by first | exact Nat.le_refl _ | exact Nat.le_add_right _ _ | exact Nat.zero_le _ | exact Nat.le_add_left _ _ | exact Nat.le_of_eq (Nat.add_sub_cancel).symm | decide) (by first | exact Nat.le_refl _ | exact Nat.le_add_right _ _ | exact Nat.zero_le _ | exact Nat.le_add_left _ _ | exact Nat.le_of_eq (Nat.add_sub_cancel).symm | decide) ?_
        exact hK18 _ _ _ _ _ h_96
      · have h_97 := ineg hc431 h_94
        refine fw_iconst (v := (0 : Int32)) (show decode _ _ = .ok (.iconst 0, 1) by decide +kernel) (by decide) ?_
        exact fw_ret (v := some (.int (0 : Int32))) .ireturn (show decode _ _ = .ok (.ireturn, 1) by decide +kernel) ⟨rfl, Or.inr (Or.inl ⟨rfl, rfl⟩)⟩ ⟨_, rfl, h_97⟩
    have h_98 := ineg hc432 h_79
    by_cases hc452 : x240 = (7 : Int32)
    · have h_99 := ipos hc452 h_98
      refine fw_tin (off := 480) 513 (show decode _ _ = .ok (.tableswitch 1800 0 41 #[183, 216, 259, 318, 351, 394, 417, 480, 503, 516, 539, 562, 605, 618, 631, 644, 667, 690, 723, 736, 759, 792, 855, 888, 980, 1060, 1103, 1146, 1179, 1232, 1302, 1372, 1442, 1501, 1534, 1567, 1610, 1679, 1692, 1751, 1764, 1777], 183) by decide +kernel) (by rw [hc452]; decide) (by rw [hc452]; decide) (by rw [hc452]; rfl) (by decide) ?_
      refine fw_aload_n (i := 1) 1 rfl (show decode _ _ = .ok (.aload_n 1, 1) by decide +kernel) ?_
      refine fw_aload_n (i := 0) 0 rfl (show decode _ _ = .ok (.aload_n 0, 1) by decide +kernel) ?_
      refine fw_iload_n (i := 3) 3 rfl (show decode _ _ = .ok (.iload_n 3, 1) by decide +kernel) ?_
      refine fw_iconst (v := (1 : Int32)) (show decode _ _ = .ok (.iconst 1, 1) by decide +kernel) (by decide) ?_
      refine fw_iadd (show decode _ _ = .ok (.iadd, 1) by decide +kernel) ?_
      obtain ⟨⟨n433, hs434, hi435⟩, h_100⟩ := h_99
      refine fw_iald (show decode _ _ = .ok (.iaload, 1) by decide +kernel) hs434 hi435 ?_
      obtain ⟨⟨hr438, n437, hs439⟩, h_101⟩ := h_100
      refine fw_callV (mt' := mtX10_end) (mc := 0) (ms := 0) (As := [.int (mI M p0 (ix (p3 + (1 : Int32))))]) (rest := []) 1 10 n437 (show decode _ _ = .ok (.invokevirtual 47, 3) by decide +kernel) cv_L_47 ⟨_, rfl, rfl⟩ hr438 hs439 rfl (Nat.le_of_ble_eq_true rfl) (s_X10_end (d := d) (hd_le hd (by decide)) h_101) (by first | exact Nat.le_refl _ | exact Nat.le_add_right _ _ | exact Nat.zero_le _ | exact Nat.le_add_left _ _ | exact Nat.le_of_eq (Nat.add_sub_cancel).symm | decide) (by first | exact Nat.le_refl _ | exact Nat.le_add_right _ _ | exact Nat.zero_le _ | exact Nat.le_add_left _ _ | exact Nat.le_of_eq (Nat.add_sub_cancel).symm | decide) (kI (bc' := (Bc + 11)) (bs' := (Bs + 3005)) (by first | exact Nat.le_refl _ | exact Nat.le_add_right _ _ | exact Nat.zero_le _ | exact Nat.le_add_left _ _ | exact Nat.le_of_eq (Nat.add_sub_cancel).symm | decide) (by first | exact Nat.le_refl _ | exact Nat.le_add_right _ _ | exact Nat.zero_le _ | exact Nat.le_add_left _ _ | exact Nat.le_of_eq (Nat.add_sub_cancel).symm | decide) (fun x440 M436 h_102 => ?_))
      refine fw_aload_n (i := 2) 2 rfl (show decode _ _ = .ok (.aload_n 2, 1) by decide +kernel) ?_
      refine fw_aload_n (i := 0) 0 rfl (show decode _ _ = .ok (.aload_n 0, 1) by decide +kernel) ?_
      refine fw_iload_n (i := 3) 3 rfl (show decode _ _ = .ok (.iload_n 3, 1) by decide +kernel) ?_
      refine fw_iconst (v := (1 : Int32)) (show decode _ _ = .ok (.iconst 1, 1) by decide +kernel) (by decide) ?_
      refine fw_iadd (show decode _ _ = .ok (.iadd, 1) by decide +kernel) ?_
      obtain ⟨⟨n441, hs442, hi443⟩, h_103⟩ := h_102
      refine fw_iald (show decode _ _ = .ok (.iaload, 1) by decide +kernel) hs442 hi443 ?_
      obtain ⟨⟨hr446, n445, hs447⟩, h_104⟩ := h_103
      refine fw_callV (mt' := mtX11_end) (mc := 0) (ms := 0) (As := [.int (mI M436 p0 (ix (p3 + (1 : Int32))))]) (rest := [.int x440]) 1 11 n445 (show decode _ _ = .ok (.invokevirtual 51, 3) by decide +kernel) cv_L_51 ⟨_, rfl, rfl⟩ hr446 hs447 rfl (Nat.le_of_ble_eq_true rfl) (s_X11_end (d := d) (hd_le hd (by decide)) h_104) (by first | exact Nat.le_refl _ | exact Nat.le_add_right _ _ | exact Nat.zero_le _ | exact Nat.le_add_left _ _ | exact Nat.le_of_eq (Nat.add_sub_cancel).symm | decide) (by first | exact Nat.le_refl _ | exact Nat.le_add_right _ _ | exact Nat.zero_le _ | exact Nat.le_add_left _ _ | exact Nat.le_of_eq (Nat.add_sub_cancel).symm | decide) (kI (bc' := (Bc + 11)) (bs' := (Bs + 3005)) (by first | exact Nat.le_refl _ | exact Nat.le_add_right _ _ | exact Nat.zero_le _ | exact Nat.le_add_left _ _ | exact Nat.le_of_eq (Nat.add_sub_cancel).symm | decide) (by first | exact Nat.le_refl _ | exact Nat.le_add_right _ _ | exact Nat.zero_le _ | exact Nat.le_add_left _ _ | exact Nat.le_of_eq (Nat.add_sub_cancel).symm | decide) (fun x448 M444 h_105 => ?_))
      refine fw_icmp_eq 1833 (show decode _ _ = .ok (.if_icmp .eq 1302, 3) by decide +kernel) (by decide) (fun hc451 => ?_) (fun hc451 => ?_)
      · have h_106 := ipos hc451 h_105
        obtain ⟨x449, ex450⟩ : ∃ y : Int32, y = p3 + (7 : Int32) := ⟨_, rfl⟩
        have h_107 := h_106 x449 ex450
        refine fw_iinc (i := 3) (x := p3) (v := x449) (ls' := [(3, .int x449), (0, .ref p0), (1, .ref p1), (2, .ref p2)]) 3 rfl (show decode _ _ = .ok (.iinc 3 7, 3) by decide +kernel) (by rw [ex450]; rfl) (by decide) rfl ?_
        refine fw_goto 18 (show decode _ _ = .ok (.goto (-1818), 3) by decide +kernel) (by decide) ?_
        refine FW.sub [1, 2, 3, 0] (ls' := [(0, .ref p0), (1, .ref p1), (2, .ref p2), (3, .int x449)]) rfl ?_
        refine FW.room (bc' := Bc) (bs' := Bs) (by first | exact Nat.le_refl _ | exact Nat.le_add_right _ _ | exact Nat.zero_le _ | exact Nat.le_add_left _ _ | exact Nat.le_of_eq (Nat.add_sub_cancel).symm | decide) (by first | exact Nat.le_refl _ | exact Nat.le_add_right _ _ | exact Nat.zero_le _ | exact Nat.le_add_left _ _ | exact Nat.le_of_eq (Nat.add_sub_cancel).symm | decide) ?_
        exact hK18 _ _ _ _ _ h_107
      · have h_108 := ineg hc451 h_105
        refine fw_iconst (v := (0 : Int32)) (show decode _ _ = .ok (.iconst 0, 1) by decide +kernel) (by decide) ?_
        exact fw_ret (v := some (.int (0 : Int32))) .ireturn (show decode _ _ = .ok (.ireturn, 1) by decide +kernel) ⟨rfl, Or.inr (Or.inl ⟨rfl, rfl⟩)⟩ ⟨_, rfl, h_108⟩
    have h_109 := ineg hc452 h_98
    by_cases hc466 : x240 = (8 : Int32)
    · have h_110 := ipos hc466 h_109
      refine fw_tin (off := 503) 536 (show decode _ _ = .ok (.tableswitch 1800 0 41 #[183, 216, 259, 318, 351, 394, 417, 480, 503, 516, 539, 562, 605, 618, 631, 644, 667, 690, 723, 736, 759, 792, 855, 888, 980, 1060, 1103, 1146, 1179, 1232, 1302, 1372, 1442, 1501, 1534, 1567, 1610, 1679, 1692, 1751, 1764, 1777], 183) by decide +kernel) (by rw [hc466]; decide) (by rw [hc466]; decide) (by rw [hc466]; rfl) (by decide) ?_
      refine fw_aload_n (i := 1) 1 rfl (show decode _ _ = .ok (.aload_n 1, 1) by decide +kernel) ?_
      obtain ⟨⟨hr455, n454, hs456⟩, h_111⟩ := h_110
      refine fw_callV (mt' := mtX10_text) (mc := 11) (ms := 3005) (As := []) (rest := []) 0 10 n454 (show decode _ _ = .ok (.invokevirtual 52, 3) by decide +kernel) cv_L_52 ⟨_, rfl, rfl⟩ hr455 hs456 rfl (Nat.le_of_ble_eq_true rfl) (s_X10_text (d := d) (hd_le hd (by decide)) h_111) (by first | exact Nat.le_refl _ | exact Nat.le_add_right _ _ | exact Nat.zero_le _ | exact Nat.le_add_left _ _ | exact Nat.le_of_eq (Nat.add_sub_cancel).symm | decide) (by first | exact Nat.le_refl _ | exact Nat.le_add_right _ _ | exact Nat.zero_le _ | exact Nat.le_add_left _ _ | exact Nat.le_of_eq (Nat.add_sub_cancel).symm | decide) (kI (bc' := Bc) (bs' := Bs) (by first | exact Nat.le_refl _ | exact Nat.le_add_right _ _ | exact Nat.zero_le _ | exact Nat.le_add_left _ _ | exact Nat.le_of_eq (Nat.add_sub_cancel).symm | decide) (by first | exact Nat.le_refl _ | exact Nat.le_add_right _ _ | exact Nat.zero_le _ | exact Nat.le_add_left _ _ | exact Nat.le_of_eq (Nat.add_sub_cancel).symm | decide) (fun x457 M453 h_112 => ?_))
      refine fw_aload_n (i := 2) 2 rfl (show decode _ _ = .ok (.aload_n 2, 1) by decide +kernel) ?_
      obtain ⟨⟨hr460, n459, hs461⟩, h_113⟩ := h_112
      refine fw_callV (mt' := mtX11_text) (mc := 0) (ms := 0) (As := []) (rest := [.int x457]) 0 11 n459 (show decode _ _ = .ok (.invokevirtual 56, 3) by decide +kernel) cv_L_56 ⟨_, rfl, rfl⟩ hr460 hs461 rfl (Nat.le_of_ble_eq_true rfl) (s_X11_text (d := d) (hd_le hd (by decide)) h_113) (by first | exact Nat.le_refl _ | exact Nat.le_add_right _ _ | exact Nat.zero_le _ | exact Nat.le_add_left _ _ | exact Nat.le_of_eq (Nat.add_sub_cancel).symm | decide) (by first | exact Nat.le_refl _ | exact Nat.le_add_right _ _ | exact Nat.zero_le _ | exact Nat.le_add_left _ _ | exact Nat.le_of_eq (Nat.add_sub_cancel).symm | decide) (kI (bc' := Bc) (bs' := Bs) (by first | exact Nat.le_refl _ | exact Nat.le_add_right _ _ | exact Nat.zero_le _ | exact Nat.le_add_left _ _ | exact Nat.le_of_eq (Nat.add_sub_cancel).symm | decide) (by first | exact Nat.le_refl _ | exact Nat.le_add_right _ _ | exact Nat.zero_le _ | exact Nat.le_add_left _ _ | exact Nat.le_of_eq (Nat.add_sub_cancel).symm | decide) (fun x462 M458 h_114 => ?_))
      refine fw_icmp_eq 1833 (show decode _ _ = .ok (.if_icmp .eq 1289, 3) by decide +kernel) (by decide) (fun hc465 => ?_) (fun hc465 => ?_)
      · have h_115 := ipos hc465 h_114
        obtain ⟨x463, ex464⟩ : ∃ y : Int32, y = p3 + (7 : Int32) := ⟨_, rfl⟩
        have h_116 := h_115 x463 ex464
        refine fw_iinc (i := 3) (x := p3) (v := x463) (ls' := [(3, .int x463), (0, .ref p0), (1, .ref p1), (2, .ref p2)]) 3 rfl (show decode _ _ = .ok (.iinc 3 7, 3) by decide +kernel) (by rw [ex464]; rfl) (by decide) rfl ?_
        refine fw_goto 18 (show decode _ _ = .ok (.goto (-1818), 3) by decide +kernel) (by decide) ?_
        refine FW.sub [1, 2, 3, 0] (ls' := [(0, .ref p0), (1, .ref p1), (2, .ref p2), (3, .int x463)]) rfl ?_
        exact hK18 _ _ _ _ _ h_116
      · have h_117 := ineg hc465 h_114
        refine fw_iconst (v := (0 : Int32)) (show decode _ _ = .ok (.iconst 0, 1) by decide +kernel) (by decide) ?_
        exact fw_ret (v := some (.int (0 : Int32))) .ireturn (show decode _ _ = .ok (.ireturn, 1) by decide +kernel) ⟨rfl, Or.inr (Or.inl ⟨rfl, rfl⟩)⟩ ⟨_, rfl, h_117⟩
    have h_118 := ineg hc466 h_109
    by_cases hc486 : x240 = (9 : Int32)
    · have h_119 := ipos hc486 h_118
      refine fw_tin (off := 516) 549 (show decode _ _ = .ok (.tableswitch 1800 0 41 #[183, 216, 259, 318, 351, 394, 417, 480, 503, 516, 539, 562, 605, 618, 631, 644, 667, 690, 723, 736, 759, 792, 855, 888, 980, 1060, 1103, 1146, 1179, 1232, 1302, 1372, 1442, 1501, 1534, 1567, 1610, 1679, 1692, 1751, 1764, 1777], 183) by decide +kernel) (by rw [hc486]; decide) (by rw [hc486]; decide) (by rw [hc486]; rfl) (by decide) ?_
      refine fw_aload_n (i := 1) 1 rfl (show decode _ _ = .ok (.aload_n 1, 1) by decide +kernel) ?_
      refine fw_aload_n (i := 0) 0 rfl (show decode _ _ = .ok (.aload_n 0, 1) by decide +kernel) ?_
      refine fw_iload_n (i := 3) 3 rfl (show decode _ _ = .ok (.iload_n 3, 1) by decide +kernel) ?_
      refine fw_iconst (v := (1 : Int32)) (show decode _ _ = .ok (.iconst 1, 1) by decide +kernel) (by decide) ?_
      refine fw_iadd (show decode _ _ = .ok (.iadd, 1) by decide +kernel) ?_
      obtain ⟨⟨n467, hs468, hi469⟩, h_120⟩ := h_119
      refine fw_iald (show decode _ _ = .ok (.iaload, 1) by decide +kernel) hs468 hi469 ?_
      obtain ⟨⟨hr472, n471, hs473⟩, h_121⟩ := h_120
      refine fw_callV (mt' := mtX10_fault) (mc := 0) (ms := 0) (As := [.int (mI M p0 (ix (p3 + (1 : Int32))))]) (rest := []) 1 10 n471 (show decode _ _ = .ok (.invokevirtual 57, 3) by decide +kernel) cv_L_57 ⟨_, rfl, rfl⟩ hr472 hs473 rfl (Nat.le_of_ble_eq_true rfl) (s_X10_fault (d := d) (hd_le hd (by decide)) h_121) (by first | exact Nat.le_refl _ | exact Nat.le_add_right _ _ | exact Nat.zero_le _ | exact Nat.le_add_left _ _ | exact Nat.le_of_eq (Nat.add_sub_cancel).symm | decide) (by first | exact Nat.le_refl _ | exact Nat.le_add_right _ _ | exact Nat.zero_le _ | exact Nat.le_add_left _ _ | exact Nat.le_of_eq (Nat.add_sub_cancel).symm | decide) (kI (bc' := (Bc + 11)) (bs' := (Bs + 3005)) (by first | exact Nat.le_refl _ | exact Nat.le_add_right _ _ | exact Nat.zero_le _ | exact Nat.le_add_left _ _ | exact Nat.le_of_eq (Nat.add_sub_cancel).symm | decide) (by first | exact Nat.le_refl _ | exact Nat.le_add_right _ _ | exact Nat.zero_le _ | exact Nat.le_add_left _ _ | exact Nat.le_of_eq (Nat.add_sub_cancel).symm | decide) (fun x474 M470 h_122 => ?_))
      refine fw_aload_n (i := 2) 2 rfl (show decode _ _ = .ok (.aload_n 2, 1) by decide +kernel) ?_
      refine fw_aload_n (i := 0) 0 rfl (show decode _ _ = .ok (.aload_n 0, 1) by decide +kernel) ?_
      refine fw_iload_n (i := 3) 3 rfl (show decode _ _ = .ok (.iload_n 3, 1) by decide +kernel) ?_
      refine fw_iconst (v := (1 : Int32)) (show decode _ _ = .ok (.iconst 1, 1) by decide +kernel) (by decide) ?_
      refine fw_iadd (show decode _ _ = .ok (.iadd, 1) by decide +kernel) ?_
      obtain ⟨⟨n475, hs476, hi477⟩, h_123⟩ := h_122
      refine fw_iald (show decode _ _ = .ok (.iaload, 1) by decide +kernel) hs476 hi477 ?_
      obtain ⟨⟨hr480, n479, hs481⟩, h_124⟩ := h_123
      refine fw_callV (mt' := mtX11_fault) (mc := 0) (ms := 0) (As := [.int (mI M470 p0 (ix (p3 + (1 : Int32))))]) (rest := [.int x474]) 1 11 n479 (show decode _ _ = .ok (.invokevirtual 60, 3) by decide +kernel) cv_L_60 ⟨_, rfl, rfl⟩ hr480 hs481 rfl (Nat.le_of_ble_eq_true rfl) (s_X11_fault (d := d) (hd_le hd (by decide)) h_124) (by first | exact Nat.le_refl _ | exact Nat.le_add_right _ _ | exact Nat.zero_le _ | exact Nat.le_add_left _ _ | exact Nat.le_of_eq (Nat.add_sub_cancel).symm | decide) (by first | exact Nat.le_refl _ | exact Nat.le_add_right _ _ | exact Nat.zero_le _ | exact Nat.le_add_left _ _ | exact Nat.le_of_eq (Nat.add_sub_cancel).symm | decide) (kI (bc' := (Bc + 11)) (bs' := (Bs + 3005)) (by first | exact Nat.le_refl _ | exact Nat.le_add_right _ _ | exact Nat.zero_le _ | exact Nat.le_add_left _ _ | exact Nat.le_of_eq (Nat.add_sub_cancel).symm | decide) (by first | exact Nat.le_refl _ | exact Nat.le_add_right _ _ | exact Nat.zero_le _ | exact Nat.le_add_left _ _ | exact Nat.le_of_eq (Nat.add_sub_cancel).symm | decide) (fun x482 M478 h_125 => ?_))
      refine fw_icmp_eq 1833 (show decode _ _ = .ok (.if_icmp .eq 1266, 3) by decide +kernel) (by decide) (fun hc485 => ?_) (fun hc485 => ?_)
      · have h_126 := ipos hc485 h_125
        obtain ⟨x483, ex484⟩ : ∃ y : Int32, y = p3 + (7 : Int32) := ⟨_, rfl⟩
        have h_127 := h_126 x483 ex484
        refine fw_iinc (i := 3) (x := p3) (v := x483) (ls' := [(3, .int x483), (0, .ref p0), (1, .ref p1), (2, .ref p2)]) 3 rfl (show decode _ _ = .ok (.iinc 3 7, 3) by decide +kernel) (by rw [ex484]; rfl) (by decide) rfl ?_
        refine fw_goto 18 (show decode _ _ = .ok (.goto (-1818), 3) by decide +kernel) (by decide) ?_
        refine FW.sub [1, 2, 3, 0] (ls' := [(0, .ref p0), (1, .ref p1), (2, .ref p2), (3, .int x483)]) rfl ?_
        refine FW.room (bc' := Bc) (bs' := Bs) (by first | exact Nat.le_refl _ | exact Nat.le_add_right _ _ | exact Nat.zero_le _ | exact Nat.le_add_left _ _ | exact Nat.le_of_eq (Nat.add_sub_cancel).symm | decide) (by first | exact Nat.le_refl _ | exact Nat.le_add_right _ _ | exact Nat.zero_le _ | exact Nat.le_add_left _ _ | exact Nat.le_of_eq (Nat.add_sub_cancel).symm | decide) ?_
        exact hK18 _ _ _ _ _ h_127
      · have h_128 := ineg hc485 h_125
        refine fw_iconst (v := (0 : Int32)) (show decode _ _ = .ok (.iconst 0, 1) by decide +kernel) (by decide) ?_
        exact fw_ret (v := some (.int (0 : Int32))) .ireturn (show decode _ _ = .ok (.ireturn, 1) by decide +kernel) ⟨rfl, Or.inr (Or.inl ⟨rfl, rfl⟩)⟩ ⟨_, rfl, h_128⟩
    have h_129 := ineg hc486 h_118
    by_cases hc506 : x240 = (10 : Int32)
    · have h_130 := ipos hc506 h_129
      refine fw_tin (off := 539) 572 (show decode _ _ = .ok (.tableswitch 1800 0 41 #[183, 216, 259, 318, 351, 394, 417, 480, 503, 516, 539, 562, 605, 618, 631, 644, 667, 690, 723, 736, 759, 792, 855, 888, 980, 1060, 1103, 1146, 1179, 1232, 1302, 1372, 1442, 1501, 1534, 1567, 1610, 1679, 1692, 1751, 1764, 1777], 183) by decide +kernel) (by rw [hc506]; decide) (by rw [hc506]; decide) (by rw [hc506]; rfl) (by decide) ?_
      refine fw_aload_n (i := 1) 1 rfl (show decode _ _ = .ok (.aload_n 1, 1) by decide +kernel) ?_
      refine fw_aload_n (i := 0) 0 rfl (show decode _ _ = .ok (.aload_n 0, 1) by decide +kernel) ?_
      refine fw_iload_n (i := 3) 3 rfl (show decode _ _ = .ok (.iload_n 3, 1) by decide +kernel) ?_
      refine fw_iconst (v := (1 : Int32)) (show decode _ _ = .ok (.iconst 1, 1) by decide +kernel) (by decide) ?_
      refine fw_iadd (show decode _ _ = .ok (.iadd, 1) by decide +kernel) ?_
      obtain ⟨⟨n487, hs488, hi489⟩, h_131⟩ := h_130
      refine fw_iald (show decode _ _ = .ok (.iaload, 1) by decide +kernel) hs488 hi489 ?_
      obtain ⟨⟨hr492, n491, hs493⟩, h_132⟩ := h_131
      refine fw_callV (mt' := mtX10_by) (mc := 0) (ms := 0) (As := [.int (mI M p0 (ix (p3 + (1 : Int32))))]) (rest := []) 1 10 n491 (show decode _ _ = .ok (.invokevirtual 61, 3) by decide +kernel) cv_L_61 ⟨_, rfl, rfl⟩ hr492 hs493 rfl (Nat.le_of_ble_eq_true rfl) (s_X10_by (d := d) (hd_le hd (by decide)) h_132) (by first | exact Nat.le_refl _ | exact Nat.le_add_right _ _ | exact Nat.zero_le _ | exact Nat.le_add_left _ _ | exact Nat.le_of_eq (Nat.add_sub_cancel).symm | decide) (by first | exact Nat.le_refl _ | exact Nat.le_add_right _ _ | exact Nat.zero_le _ | exact Nat.le_add_left _ _ | exact Nat.le_of_eq (Nat.add_sub_cancel).symm | decide) (kI (bc' := (Bc + 11)) (bs' := (Bs + 3005)) (by first | exact Nat.le_refl _ | exact Nat.le_add_right _ _ | exact Nat.zero_le _ | exact Nat.le_add_left _ _ | exact Nat.le_of_eq (Nat.add_sub_cancel).symm | decide) (by first | exact Nat.le_refl _ | exact Nat.le_add_right _ _ | exact Nat.zero_le _ | exact Nat.le_add_left _ _ | exact Nat.le_of_eq (Nat.add_sub_cancel).symm | decide) (fun x494 M490 h_133 => ?_))
      refine fw_aload_n (i := 2) 2 rfl (show decode _ _ = .ok (.aload_n 2, 1) by decide +kernel) ?_
      refine fw_aload_n (i := 0) 0 rfl (show decode _ _ = .ok (.aload_n 0, 1) by decide +kernel) ?_
      refine fw_iload_n (i := 3) 3 rfl (show decode _ _ = .ok (.iload_n 3, 1) by decide +kernel) ?_
      refine fw_iconst (v := (1 : Int32)) (show decode _ _ = .ok (.iconst 1, 1) by decide +kernel) (by decide) ?_
      refine fw_iadd (show decode _ _ = .ok (.iadd, 1) by decide +kernel) ?_
      obtain ⟨⟨n495, hs496, hi497⟩, h_134⟩ := h_133
      refine fw_iald (show decode _ _ = .ok (.iaload, 1) by decide +kernel) hs496 hi497 ?_
      obtain ⟨⟨hr500, n499, hs501⟩, h_135⟩ := h_134
      refine fw_callV (mt' := mtX11_by) (mc := 0) (ms := 0) (As := [.int (mI M490 p0 (ix (p3 + (1 : Int32))))]) (rest := [.int x494]) 1 11 n499 (show decode _ _ = .ok (.invokevirtual 64, 3) by decide +kernel) cv_L_64 ⟨_, rfl, rfl⟩ hr500 hs501 rfl (Nat.le_of_ble_eq_true rfl) (s_X11_by (d := d) (hd_le hd (by decide)) h_135) (by first | exact Nat.le_refl _ | exact Nat.le_add_right _ _ | exact Nat.zero_le _ | exact Nat.le_add_left _ _ | exact Nat.le_of_eq (Nat.add_sub_cancel).symm | decide) (by first | exact Nat.le_refl _ | exact Nat.le_add_right _ _ | exact Nat.zero_le _ | exact Nat.le_add_left _ _ | exact Nat.le_of_eq (Nat.add_sub_cancel).symm | decide) (kI (bc' := (Bc + 11)) (bs' := (Bs + 3005)) (by first | exact Nat.le_refl _ | exact Nat.le_add_right _ _ | exact Nat.zero_le _ | exact Nat.le_add_left _ _ | exact Nat.le_of_eq (Nat.add_sub_cancel).symm | decide) (by first | exact Nat.le_refl _ | exact Nat.le_add_right _ _ | exact Nat.zero_le _ | exact Nat.le_add_left _ _ | exact Nat.le_of_eq (Nat.add_sub_cancel).symm | decide) (fun x502 M498 h_136 => ?_))
      refine fw_icmp_eq 1833 (show decode _ _ = .ok (.if_icmp .eq 1243, 3) by decide +kernel) (by decide) (fun hc505 => ?_) (fun hc505 => ?_)
      · have h_137 := ipos hc505 h_136
        obtain ⟨x503, ex504⟩ : ∃ y : Int32, y = p3 + (7 : Int32) := ⟨_, rfl⟩
        have h_138 := h_137 x503 ex504
        refine fw_iinc (i := 3) (x := p3) (v := x503) (ls' := [(3, .int x503), (0, .ref p0), (1, .ref p1), (2, .ref p2)]) 3 rfl (show decode _ _ = .ok (.iinc 3 7, 3) by decide +kernel) (by rw [ex504]; rfl) (by decide) rfl ?_
        refine fw_goto 18 (show decode _ _ = .ok (.goto (-1818), 3) by decide +kernel) (by decide) ?_
        refine FW.sub [1, 2, 3, 0] (ls' := [(0, .ref p0), (1, .ref p1), (2, .ref p2), (3, .int x503)]) rfl ?_
        refine FW.room (bc' := Bc) (bs' := Bs) (by first | exact Nat.le_refl _ | exact Nat.le_add_right _ _ | exact Nat.zero_le _ | exact Nat.le_add_left _ _ | exact Nat.le_of_eq (Nat.add_sub_cancel).symm | decide) (by first | exact Nat.le_refl _ | exact Nat.le_add_right _ _ | exact Nat.zero_le _ | exact Nat.le_add_left _ _ | exact Nat.le_of_eq (Nat.add_sub_cancel).symm | decide) ?_
        exact hK18 _ _ _ _ _ h_138
      · have h_139 := ineg hc505 h_136
        refine fw_iconst (v := (0 : Int32)) (show decode _ _ = .ok (.iconst 0, 1) by decide +kernel) (by decide) ?_
        exact fw_ret (v := some (.int (0 : Int32))) .ireturn (show decode _ _ = .ok (.ireturn, 1) by decide +kernel) ⟨rfl, Or.inr (Or.inl ⟨rfl, rfl⟩)⟩ ⟨_, rfl, h_139⟩
    have h_140 := ineg hc506 h_129
    by_cases hc538 : x240 = (11 : Int32)
    · have h_141 := ipos hc538 h_140
      refine fw_tin (off := 562) 595 (show decode _ _ = .ok (.tableswitch 1800 0 41 #[183, 216, 259, 318, 351, 394, 417, 480, 503, 516, 539, 562, 605, 618, 631, 644, 667, 690, 723, 736, 759, 792, 855, 888, 980, 1060, 1103, 1146, 1179, 1232, 1302, 1372, 1442, 1501, 1534, 1567, 1610, 1679, 1692, 1751, 1764, 1777], 183) by decide +kernel) (by rw [hc538]; decide) (by rw [hc538]; decide) (by rw [hc538]; rfl) (by decide) ?_
      refine fw_aload_n (i := 1) 1 rfl (show decode _ _ = .ok (.aload_n 1, 1) by decide +kernel) ?_
      refine fw_aload_n (i := 0) 0 rfl (show decode _ _ = .ok (.aload_n 0, 1) by decide +kernel) ?_
      refine fw_iload_n (i := 3) 3 rfl (show decode _ _ = .ok (.iload_n 3, 1) by decide +kernel) ?_
      refine fw_iconst (v := (1 : Int32)) (show decode _ _ = .ok (.iconst 1, 1) by decide +kernel) (by decide) ?_
      refine fw_iadd (show decode _ _ = .ok (.iadd, 1) by decide +kernel) ?_
      obtain ⟨⟨n507, hs508, hi509⟩, h_142⟩ := h_141
      refine fw_iald (show decode _ _ = .ok (.iaload, 1) by decide +kernel) hs508 hi509 ?_
      refine fw_aload_n (i := 0) 0 rfl (show decode _ _ = .ok (.aload_n 0, 1) by decide +kernel) ?_
      refine fw_iload_n (i := 3) 3 rfl (show decode _ _ = .ok (.iload_n 3, 1) by decide +kernel) ?_
      refine fw_iconst (v := (2 : Int32)) (show decode _ _ = .ok (.iconst 2, 1) by decide +kernel) (by decide) ?_
      refine fw_iadd (show decode _ _ = .ok (.iadd, 1) by decide +kernel) ?_
      obtain ⟨⟨n510, hs511, hi512⟩, h_143⟩ := h_142
      refine fw_iald (show decode _ _ = .ok (.iaload, 1) by decide +kernel) hs511 hi512 ?_
      refine fw_aload_n (i := 0) 0 rfl (show decode _ _ = .ok (.aload_n 0, 1) by decide +kernel) ?_
      refine fw_iload_n (i := 3) 3 rfl (show decode _ _ = .ok (.iload_n 3, 1) by decide +kernel) ?_
      refine fw_iconst (v := (3 : Int32)) (show decode _ _ = .ok (.iconst 3, 1) by decide +kernel) (by decide) ?_
      refine fw_iadd (show decode _ _ = .ok (.iadd, 1) by decide +kernel) ?_
      obtain ⟨⟨n513, hs514, hi515⟩, h_144⟩ := h_143
      refine fw_iald (show decode _ _ = .ok (.iaload, 1) by decide +kernel) hs514 hi515 ?_
      obtain ⟨⟨hr518, n517, hs519⟩, h_145⟩ := h_144
      refine fw_callV (mt' := mtX10_begin) (mc := 0) (ms := 0) (As := [.int (mI M p0 (ix (p3 + (1 : Int32)))), .int (mI M p0 (ix (p3 + (2 : Int32)))), .int (mI M p0 (ix (p3 + (3 : Int32))))]) (rest := []) 3 10 n517 (show decode _ _ = .ok (.invokevirtual 65, 3) by decide +kernel) cv_L_65 ⟨_, rfl, rfl⟩ hr518 hs519 rfl (Nat.le_of_ble_eq_true rfl) (s_X10_begin (d := d) (hd_le hd (by decide)) h_145) (by first | exact Nat.le_refl _ | exact Nat.le_add_right _ _ | exact Nat.zero_le _ | exact Nat.le_add_left _ _ | exact Nat.le_of_eq (Nat.add_sub_cancel).symm | decide) (by first | exact Nat.le_refl _ | exact Nat.le_add_right _ _ | exact Nat.zero_le _ | exact Nat.le_add_left _ _ | exact Nat.le_of_eq (Nat.add_sub_cancel).symm | decide) (kI (bc' := (Bc + 11)) (bs' := (Bs + 3005)) (by first | exact Nat.le_refl _ | exact Nat.le_add_right _ _ | exact Nat.zero_le _ | exact Nat.le_add_left _ _ | exact Nat.le_of_eq (Nat.add_sub_cancel).symm | decide) (by first | exact Nat.le_refl _ | exact Nat.le_add_right _ _ | exact Nat.zero_le _ | exact Nat.le_add_left _ _ | exact Nat.le_of_eq (Nat.add_sub_cancel).symm | decide) (fun x520 M516 h_146 => ?_))
      refine fw_aload_n (i := 2) 2 rfl (show decode _ _ = .ok (.aload_n 2, 1) by decide +kernel) ?_
      refine fw_aload_n (i := 0) 0 rfl (show decode _ _ = .ok (.aload_n 0, 1) by decide +kernel) ?_
      refine fw_iload_n (i := 3) 3 rfl (show decode _ _ = .ok (.iload_n 3, 1) by decide +kernel) ?_
      refine fw_iconst (v := (1 : Int32)) (show decode _ _ = .ok (.iconst 1, 1) by decide +kernel) (by decide) ?_
      refine fw_iadd (show decode _ _ = .ok (.iadd, 1) by decide +kernel) ?_
      obtain ⟨⟨n521, hs522, hi523⟩, h_147⟩ := h_146
      refine fw_iald (show decode _ _ = .ok (.iaload, 1) by decide +kernel) hs522 hi523 ?_
      refine fw_aload_n (i := 0) 0 rfl (show decode _ _ = .ok (.aload_n 0, 1) by decide +kernel) ?_
      refine fw_iload_n (i := 3) 3 rfl (show decode _ _ = .ok (.iload_n 3, 1) by decide +kernel) ?_
      refine fw_iconst (v := (2 : Int32)) (show decode _ _ = .ok (.iconst 2, 1) by decide +kernel) (by decide) ?_
      refine fw_iadd (show decode _ _ = .ok (.iadd, 1) by decide +kernel) ?_
      obtain ⟨⟨n524, hs525, hi526⟩, h_148⟩ := h_147
      refine fw_iald (show decode _ _ = .ok (.iaload, 1) by decide +kernel) hs525 hi526 ?_
      refine fw_aload_n (i := 0) 0 rfl (show decode _ _ = .ok (.aload_n 0, 1) by decide +kernel) ?_
      refine fw_iload_n (i := 3) 3 rfl (show decode _ _ = .ok (.iload_n 3, 1) by decide +kernel) ?_
      refine fw_iconst (v := (3 : Int32)) (show decode _ _ = .ok (.iconst 3, 1) by decide +kernel) (by decide) ?_
      refine fw_iadd (show decode _ _ = .ok (.iadd, 1) by decide +kernel) ?_
      obtain ⟨⟨n527, hs528, hi529⟩, h_149⟩ := h_148
      refine fw_iald (show decode _ _ = .ok (.iaload, 1) by decide +kernel) hs528 hi529 ?_
      obtain ⟨⟨hr532, n531, hs533⟩, h_150⟩ := h_149
      refine fw_callV (mt' := mtX11_begin) (mc := 0) (ms := 0) (As := [.int (mI M516 p0 (ix (p3 + (1 : Int32)))), .int (mI M516 p0 (ix (p3 + (2 : Int32)))), .int (mI M516 p0 (ix (p3 + (3 : Int32))))]) (rest := [.int x520]) 3 11 n531 (show decode _ _ = .ok (.invokevirtual 68, 3) by decide +kernel) cv_L_68 ⟨_, rfl, rfl⟩ hr532 hs533 rfl (Nat.le_of_ble_eq_true rfl) (s_X11_begin (d := d) (hd_le hd (by decide)) h_150) (by first | exact Nat.le_refl _ | exact Nat.le_add_right _ _ | exact Nat.zero_le _ | exact Nat.le_add_left _ _ | exact Nat.le_of_eq (Nat.add_sub_cancel).symm | decide) (by first | exact Nat.le_refl _ | exact Nat.le_add_right _ _ | exact Nat.zero_le _ | exact Nat.le_add_left _ _ | exact Nat.le_of_eq (Nat.add_sub_cancel).symm | decide) (kI (bc' := (Bc + 11)) (bs' := (Bs + 3005)) (by first | exact Nat.le_refl _ | exact Nat.le_add_right _ _ | exact Nat.zero_le _ | exact Nat.le_add_left _ _ | exact Nat.le_of_eq (Nat.add_sub_cancel).symm | decide) (by first | exact Nat.le_refl _ | exact Nat.le_add_right _ _ | exact Nat.zero_le _ | exact Nat.le_add_left _ _ | exact Nat.le_of_eq (Nat.add_sub_cancel).symm | decide) (fun x534 M530 h_151 => ?_))
      refine fw_icmp_eq 1833 (show decode _ _ = .ok (.if_icmp .eq 1200, 3) by decide +kernel) (by decide) (fun hc537 => ?_) (fun hc537 => ?_)
      · have h_152 := ipos hc537 h_151
        obtain ⟨x535, ex536⟩ : ∃ y : Int32, y = p3 + (7 : Int32) := ⟨_, rfl⟩
        have h_153 := h_152 x535 ex536
        refine fw_iinc (i := 3) (x := p3) (v := x535) (ls' := [(3, .int x535), (0, .ref p0), (1, .ref p1), (2, .ref p2)]) 3 rfl (show decode _ _ = .ok (.iinc 3 7, 3) by decide +kernel) (by rw [ex536]; rfl) (by decide) rfl ?_
        refine fw_goto 18 (show decode _ _ = .ok (.goto (-1818), 3) by decide +kernel) (by decide) ?_
        refine FW.sub [1, 2, 3, 0] (ls' := [(0, .ref p0), (1, .ref p1), (2, .ref p2), (3, .int x535)]) rfl ?_
        refine FW.room (bc' := Bc) (bs' := Bs) (by first | exact Nat.le_refl _ | exact Nat.le_add_right _ _ | exact Nat.zero_le _ | exact Nat.le_add_left _ _ | exact Nat.le_of_eq (Nat.add_sub_cancel).symm | decide) (by first | exact Nat.le_refl _ | exact Nat.le_add_right _ _ | exact Nat.zero_le _ | exact Nat.le_add_left _ _ | exact Nat.le_of_eq (Nat.add_sub_cancel).symm | decide) ?_
        exact hK18 _ _ _ _ _ h_153
      · have h_154 := ineg hc537 h_151
        refine fw_iconst (v := (0 : Int32)) (show decode _ _ = .ok (.iconst 0, 1) by decide +kernel) (by decide) ?_
        exact fw_ret (v := some (.int (0 : Int32))) .ireturn (show decode _ _ = .ok (.ireturn, 1) by decide +kernel) ⟨rfl, Or.inr (Or.inl ⟨rfl, rfl⟩)⟩ ⟨_, rfl, h_154⟩
    have h_155 := ineg hc538 h_140
    by_cases hc552 : x240 = (12 : Int32)
    · have h_156 := ipos hc552 h_155
      refine fw_tin (off := 605) 638 (show decode _ _ = .ok (.tableswitch 1800 0 41 #[183, 216, 259, 318, 351, 394, 417, 480, 503, 516, 539, 562, 605, 618, 631, 644, 667, 690, 723, 736, 759, 792, 855, 888, 980, 1060, 1103, 1146, 1179, 1232, 1302, 1372, 1442, 1501, 1534, 1567, 1610, 1679, 1692, 1751, 1764, 1777], 183) by decide +kernel) (by rw [hc552]; decide) (by rw [hc552]; decide) (by rw [hc552]; rfl) (by decide) ?_
      refine fw_aload_n (i := 1) 1 rfl (show decode _ _ = .ok (.aload_n 1, 1) by decide +kernel) ?_
      obtain ⟨⟨hr541, n540, hs542⟩, h_157⟩ := h_156
      refine fw_callV (mt' := mtX10_step) (mc := 0) (ms := 0) (As := []) (rest := []) 0 10 n540 (show decode _ _ = .ok (.invokevirtual 69, 3) by decide +kernel) cv_L_69 ⟨_, rfl, rfl⟩ hr541 hs542 rfl (Nat.le_of_ble_eq_true rfl) (s_X10_step (d := d) (hd_le hd (by decide)) h_157) (by first | exact Nat.le_refl _ | exact Nat.le_add_right _ _ | exact Nat.zero_le _ | exact Nat.le_add_left _ _ | exact Nat.le_of_eq (Nat.add_sub_cancel).symm | decide) (by first | exact Nat.le_refl _ | exact Nat.le_add_right _ _ | exact Nat.zero_le _ | exact Nat.le_add_left _ _ | exact Nat.le_of_eq (Nat.add_sub_cancel).symm | decide) (kI (bc' := (Bc + 11)) (bs' := (Bs + 3005)) (by first | exact Nat.le_refl _ | exact Nat.le_add_right _ _ | exact Nat.zero_le _ | exact Nat.le_add_left _ _ | exact Nat.le_of_eq (Nat.add_sub_cancel).symm | decide) (by first | exact Nat.le_refl _ | exact Nat.le_add_right _ _ | exact Nat.zero_le _ | exact Nat.le_add_left _ _ | exact Nat.le_of_eq (Nat.add_sub_cancel).symm | decide) (fun x543 M539 h_158 => ?_))
      refine fw_aload_n (i := 2) 2 rfl (show decode _ _ = .ok (.aload_n 2, 1) by decide +kernel) ?_
      obtain ⟨⟨hr546, n545, hs547⟩, h_159⟩ := h_158
      refine fw_callV (mt' := mtX11_step) (mc := 0) (ms := 0) (As := []) (rest := [.int x543]) 0 11 n545 (show decode _ _ = .ok (.invokevirtual 72, 3) by decide +kernel) cv_L_72 ⟨_, rfl, rfl⟩ hr546 hs547 rfl (Nat.le_of_ble_eq_true rfl) (s_X11_step (d := d) (hd_le hd (by decide)) h_159) (by first | exact Nat.le_refl _ | exact Nat.le_add_right _ _ | exact Nat.zero_le _ | exact Nat.le_add_left _ _ | exact Nat.le_of_eq (Nat.add_sub_cancel).symm | decide) (by first | exact Nat.le_refl _ | exact Nat.le_add_right _ _ | exact Nat.zero_le _ | exact Nat.le_add_left _ _ | exact Nat.le_of_eq (Nat.add_sub_cancel).symm | decide) (kI (bc' := (Bc + 11)) (bs' := (Bs + 3005)) (by first | exact Nat.le_refl _ | exact Nat.le_add_right _ _ | exact Nat.zero_le _ | exact Nat.le_add_left _ _ | exact Nat.le_of_eq (Nat.add_sub_cancel).symm | decide) (by first | exact Nat.le_refl _ | exact Nat.le_add_right _ _ | exact Nat.zero_le _ | exact Nat.le_add_left _ _ | exact Nat.le_of_eq (Nat.add_sub_cancel).symm | decide) (fun x548 M544 h_160 => ?_))
      refine fw_icmp_eq 1833 (show decode _ _ = .ok (.if_icmp .eq 1187, 3) by decide +kernel) (by decide) (fun hc551 => ?_) (fun hc551 => ?_)
      · have h_161 := ipos hc551 h_160
        obtain ⟨x549, ex550⟩ : ∃ y : Int32, y = p3 + (7 : Int32) := ⟨_, rfl⟩
        have h_162 := h_161 x549 ex550
        refine fw_iinc (i := 3) (x := p3) (v := x549) (ls' := [(3, .int x549), (0, .ref p0), (1, .ref p1), (2, .ref p2)]) 3 rfl (show decode _ _ = .ok (.iinc 3 7, 3) by decide +kernel) (by rw [ex550]; rfl) (by decide) rfl ?_
        refine fw_goto 18 (show decode _ _ = .ok (.goto (-1818), 3) by decide +kernel) (by decide) ?_
        refine FW.sub [1, 2, 3, 0] (ls' := [(0, .ref p0), (1, .ref p1), (2, .ref p2), (3, .int x549)]) rfl ?_
        refine FW.room (bc' := Bc) (bs' := Bs) (by first | exact Nat.le_refl _ | exact Nat.le_add_right _ _ | exact Nat.zero_le _ | exact Nat.le_add_left _ _ | exact Nat.le_of_eq (Nat.add_sub_cancel).symm | decide) (by first | exact Nat.le_refl _ | exact Nat.le_add_right _ _ | exact Nat.zero_le _ | exact Nat.le_add_left _ _ | exact Nat.le_of_eq (Nat.add_sub_cancel).symm | decide) ?_
        exact hK18 _ _ _ _ _ h_162
      · have h_163 := ineg hc551 h_160
        refine fw_iconst (v := (0 : Int32)) (show decode _ _ = .ok (.iconst 0, 1) by decide +kernel) (by decide) ?_
        exact fw_ret (v := some (.int (0 : Int32))) .ireturn (show decode _ _ = .ok (.ireturn, 1) by decide +kernel) ⟨rfl, Or.inr (Or.inl ⟨rfl, rfl⟩)⟩ ⟨_, rfl, h_163⟩
    have h_164 := ineg hc552 h_155
    by_cases hc566 : x240 = (13 : Int32)
    · have h_165 := ipos hc566 h_164
      refine fw_tin (off := 618) 651 (show decode _ _ = .ok (.tableswitch 1800 0 41 #[183, 216, 259, 318, 351, 394, 417, 480, 503, 516, 539, 562, 605, 618, 631, 644, 667, 690, 723, 736, 759, 792, 855, 888, 980, 1060, 1103, 1146, 1179, 1232, 1302, 1372, 1442, 1501, 1534, 1567, 1610, 1679, 1692, 1751, 1764, 1777], 183) by decide +kernel) (by rw [hc566]; decide) (by rw [hc566]; decide) (by rw [hc566]; rfl) (by decide) ?_
      refine fw_aload_n (i := 1) 1 rfl (show decode _ _ = .ok (.aload_n 1, 1) by decide +kernel) ?_
      obtain ⟨⟨hr555, n554, hs556⟩, h_166⟩ := h_165
      refine fw_callV (mt' := mtX10_toe) (mc := 0) (ms := 0) (As := []) (rest := []) 0 10 n554 (show decode _ _ = .ok (.invokevirtual 73, 3) by decide +kernel) cv_L_73 ⟨_, rfl, rfl⟩ hr555 hs556 rfl (Nat.le_of_ble_eq_true rfl) (s_X10_toe (d := d) (hd_le hd (by decide)) h_166) (by first | exact Nat.le_refl _ | exact Nat.le_add_right _ _ | exact Nat.zero_le _ | exact Nat.le_add_left _ _ | exact Nat.le_of_eq (Nat.add_sub_cancel).symm | decide) (by first | exact Nat.le_refl _ | exact Nat.le_add_right _ _ | exact Nat.zero_le _ | exact Nat.le_add_left _ _ | exact Nat.le_of_eq (Nat.add_sub_cancel).symm | decide) (kI (bc' := (Bc + 11)) (bs' := (Bs + 3005)) (by first | exact Nat.le_refl _ | exact Nat.le_add_right _ _ | exact Nat.zero_le _ | exact Nat.le_add_left _ _ | exact Nat.le_of_eq (Nat.add_sub_cancel).symm | decide) (by first | exact Nat.le_refl _ | exact Nat.le_add_right _ _ | exact Nat.zero_le _ | exact Nat.le_add_left _ _ | exact Nat.le_of_eq (Nat.add_sub_cancel).symm | decide) (fun x557 M553 h_167 => ?_))
      refine fw_aload_n (i := 2) 2 rfl (show decode _ _ = .ok (.aload_n 2, 1) by decide +kernel) ?_
      obtain ⟨⟨hr560, n559, hs561⟩, h_168⟩ := h_167
      refine fw_callV (mt' := mtX11_toe) (mc := 0) (ms := 0) (As := []) (rest := [.int x557]) 0 11 n559 (show decode _ _ = .ok (.invokevirtual 76, 3) by decide +kernel) cv_L_76 ⟨_, rfl, rfl⟩ hr560 hs561 rfl (Nat.le_of_ble_eq_true rfl) (s_X11_toe (d := d) (hd_le hd (by decide)) h_168) (by first | exact Nat.le_refl _ | exact Nat.le_add_right _ _ | exact Nat.zero_le _ | exact Nat.le_add_left _ _ | exact Nat.le_of_eq (Nat.add_sub_cancel).symm | decide) (by first | exact Nat.le_refl _ | exact Nat.le_add_right _ _ | exact Nat.zero_le _ | exact Nat.le_add_left _ _ | exact Nat.le_of_eq (Nat.add_sub_cancel).symm | decide) (kI (bc' := (Bc + 11)) (bs' := (Bs + 3005)) (by first | exact Nat.le_refl _ | exact Nat.le_add_right _ _ | exact Nat.zero_le _ | exact Nat.le_add_left _ _ | exact Nat.le_of_eq (Nat.add_sub_cancel).symm | decide) (by first | exact Nat.le_refl _ | exact Nat.le_add_right _ _ | exact Nat.zero_le _ | exact Nat.le_add_left _ _ | exact Nat.le_of_eq (Nat.add_sub_cancel).symm | decide) (fun x562 M558 h_169 => ?_))
      refine fw_icmp_eq 1833 (show decode _ _ = .ok (.if_icmp .eq 1174, 3) by decide +kernel) (by decide) (fun hc565 => ?_) (fun hc565 => ?_)
      · have h_170 := ipos hc565 h_169
        obtain ⟨x563, ex564⟩ : ∃ y : Int32, y = p3 + (7 : Int32) := ⟨_, rfl⟩
        have h_171 := h_170 x563 ex564
        refine fw_iinc (i := 3) (x := p3) (v := x563) (ls' := [(3, .int x563), (0, .ref p0), (1, .ref p1), (2, .ref p2)]) 3 rfl (show decode _ _ = .ok (.iinc 3 7, 3) by decide +kernel) (by rw [ex564]; rfl) (by decide) rfl ?_
        refine fw_goto 18 (show decode _ _ = .ok (.goto (-1818), 3) by decide +kernel) (by decide) ?_
        refine FW.sub [1, 2, 3, 0] (ls' := [(0, .ref p0), (1, .ref p1), (2, .ref p2), (3, .int x563)]) rfl ?_
        refine FW.room (bc' := Bc) (bs' := Bs) (by first | exact Nat.le_refl _ | exact Nat.le_add_right _ _ | exact Nat.zero_le _ | exact Nat.le_add_left _ _ | exact Nat.le_of_eq (Nat.add_sub_cancel).symm | decide) (by first | exact Nat.le_refl _ | exact Nat.le_add_right _ _ | exact Nat.zero_le _ | exact Nat.le_add_left _ _ | exact Nat.le_of_eq (Nat.add_sub_cancel).symm | decide) ?_
        exact hK18 _ _ _ _ _ h_171
      · have h_172 := ineg hc565 h_169
        refine fw_iconst (v := (0 : Int32)) (show decode _ _ = .ok (.iconst 0, 1) by decide +kernel) (by decide) ?_
        exact fw_ret (v := some (.int (0 : Int32))) .ireturn (show decode _ _ = .ok (.ireturn, 1) by decide +kernel) ⟨rfl, Or.inr (Or.inl ⟨rfl, rfl⟩)⟩ ⟨_, rfl, h_172⟩
    have h_173 := ineg hc566 h_164
    by_cases hc580 : x240 = (14 : Int32)
    · have h_174 := ipos hc580 h_173
      refine fw_tin (off := 631) 664 (show decode _ _ = .ok (.tableswitch 1800 0 41 #[183, 216, 259, 318, 351, 394, 417, 480, 503, 516, 539, 562, 605, 618, 631, 644, 667, 690, 723, 736, 759, 792, 855, 888, 980, 1060, 1103, 1146, 1179, 1232, 1302, 1372, 1442, 1501, 1534, 1567, 1610, 1679, 1692, 1751, 1764, 1777], 183) by decide +kernel) (by rw [hc580]; decide) (by rw [hc580]; decide) (by rw [hc580]; rfl) (by decide) ?_
      refine fw_aload_n (i := 1) 1 rfl (show decode _ _ = .ok (.aload_n 1, 1) by decide +kernel) ?_
      obtain ⟨⟨hr569, n568, hs570⟩, h_175⟩ := h_174
      refine fw_callV (mt' := mtX10_stop) (mc := 0) (ms := 0) (As := []) (rest := []) 0 10 n568 (show decode _ _ = .ok (.invokevirtual 77, 3) by decide +kernel) cv_L_77 ⟨_, rfl, rfl⟩ hr569 hs570 rfl (Nat.le_of_ble_eq_true rfl) (s_X10_stop (d := d) (hd_le hd (by decide)) h_175) (by first | exact Nat.le_refl _ | exact Nat.le_add_right _ _ | exact Nat.zero_le _ | exact Nat.le_add_left _ _ | exact Nat.le_of_eq (Nat.add_sub_cancel).symm | decide) (by first | exact Nat.le_refl _ | exact Nat.le_add_right _ _ | exact Nat.zero_le _ | exact Nat.le_add_left _ _ | exact Nat.le_of_eq (Nat.add_sub_cancel).symm | decide) (kI (bc' := (Bc + 11)) (bs' := (Bs + 3005)) (by first | exact Nat.le_refl _ | exact Nat.le_add_right _ _ | exact Nat.zero_le _ | exact Nat.le_add_left _ _ | exact Nat.le_of_eq (Nat.add_sub_cancel).symm | decide) (by first | exact Nat.le_refl _ | exact Nat.le_add_right _ _ | exact Nat.zero_le _ | exact Nat.le_add_left _ _ | exact Nat.le_of_eq (Nat.add_sub_cancel).symm | decide) (fun x571 M567 h_176 => ?_))
      refine fw_aload_n (i := 2) 2 rfl (show decode _ _ = .ok (.aload_n 2, 1) by decide +kernel) ?_
      obtain ⟨⟨hr574, n573, hs575⟩, h_177⟩ := h_176
      refine fw_callV (mt' := mtX11_stop) (mc := 0) (ms := 0) (As := []) (rest := [.int x571]) 0 11 n573 (show decode _ _ = .ok (.invokevirtual 80, 3) by decide +kernel) cv_L_80 ⟨_, rfl, rfl⟩ hr574 hs575 rfl (Nat.le_of_ble_eq_true rfl) (s_X11_stop (d := d) (hd_le hd (by decide)) h_177) (by first | exact Nat.le_refl _ | exact Nat.le_add_right _ _ | exact Nat.zero_le _ | exact Nat.le_add_left _ _ | exact Nat.le_of_eq (Nat.add_sub_cancel).symm | decide) (by first | exact Nat.le_refl _ | exact Nat.le_add_right _ _ | exact Nat.zero_le _ | exact Nat.le_add_left _ _ | exact Nat.le_of_eq (Nat.add_sub_cancel).symm | decide) (kI (bc' := (Bc + 11)) (bs' := (Bs + 3005)) (by first | exact Nat.le_refl _ | exact Nat.le_add_right _ _ | exact Nat.zero_le _ | exact Nat.le_add_left _ _ | exact Nat.le_of_eq (Nat.add_sub_cancel).symm | decide) (by first | exact Nat.le_refl _ | exact Nat.le_add_right _ _ | exact Nat.zero_le _ | exact Nat.le_add_left _ _ | exact Nat.le_of_eq (Nat.add_sub_cancel).symm | decide) (fun x576 M572 h_178 => ?_))
      refine fw_icmp_eq 1833 (show decode _ _ = .ok (.if_icmp .eq 1161, 3) by decide +kernel) (by decide) (fun hc579 => ?_) (fun hc579 => ?_)
      · have h_179 := ipos hc579 h_178
        obtain ⟨x577, ex578⟩ : ∃ y : Int32, y = p3 + (7 : Int32) := ⟨_, rfl⟩
        have h_180 := h_179 x577 ex578
        refine fw_iinc (i := 3) (x := p3) (v := x577) (ls' := [(3, .int x577), (0, .ref p0), (1, .ref p1), (2, .ref p2)]) 3 rfl (show decode _ _ = .ok (.iinc 3 7, 3) by decide +kernel) (by rw [ex578]; rfl) (by decide) rfl ?_
        refine fw_goto 18 (show decode _ _ = .ok (.goto (-1818), 3) by decide +kernel) (by decide) ?_
        refine FW.sub [1, 2, 3, 0] (ls' := [(0, .ref p0), (1, .ref p1), (2, .ref p2), (3, .int x577)]) rfl ?_
        refine FW.room (bc' := Bc) (bs' := Bs) (by first | exact Nat.le_refl _ | exact Nat.le_add_right _ _ | exact Nat.zero_le _ | exact Nat.le_add_left _ _ | exact Nat.le_of_eq (Nat.add_sub_cancel).symm | decide) (by first | exact Nat.le_refl _ | exact Nat.le_add_right _ _ | exact Nat.zero_le _ | exact Nat.le_add_left _ _ | exact Nat.le_of_eq (Nat.add_sub_cancel).symm | decide) ?_
        exact hK18 _ _ _ _ _ h_180
      · have h_181 := ineg hc579 h_178
        refine fw_iconst (v := (0 : Int32)) (show decode _ _ = .ok (.iconst 0, 1) by decide +kernel) (by decide) ?_
        exact fw_ret (v := some (.int (0 : Int32))) .ireturn (show decode _ _ = .ok (.ireturn, 1) by decide +kernel) ⟨rfl, Or.inr (Or.inl ⟨rfl, rfl⟩)⟩ ⟨_, rfl, h_181⟩
    have h_182 := ineg hc580 h_173
    by_cases hc600 : x240 = (15 : Int32)
    · have h_183 := ipos hc600 h_182
      refine fw_tin (off := 644) 677 (show decode _ _ = .ok (.tableswitch 1800 0 41 #[183, 216, 259, 318, 351, 394, 417, 480, 503, 516, 539, 562, 605, 618, 631, 644, 667, 690, 723, 736, 759, 792, 855, 888, 980, 1060, 1103, 1146, 1179, 1232, 1302, 1372, 1442, 1501, 1534, 1567, 1610, 1679, 1692, 1751, 1764, 1777], 183) by decide +kernel) (by rw [hc600]; decide) (by rw [hc600]; decide) (by rw [hc600]; rfl) (by decide) ?_
      refine fw_aload_n (i := 1) 1 rfl (show decode _ _ = .ok (.aload_n 1, 1) by decide +kernel) ?_
      refine fw_aload_n (i := 0) 0 rfl (show decode _ _ = .ok (.aload_n 0, 1) by decide +kernel) ?_
      refine fw_iload_n (i := 3) 3 rfl (show decode _ _ = .ok (.iload_n 3, 1) by decide +kernel) ?_
      refine fw_iconst (v := (1 : Int32)) (show decode _ _ = .ok (.iconst 1, 1) by decide +kernel) (by decide) ?_
      refine fw_iadd (show decode _ _ = .ok (.iadd, 1) by decide +kernel) ?_
      obtain ⟨⟨n581, hs582, hi583⟩, h_184⟩ := h_183
      refine fw_iald (show decode _ _ = .ok (.iaload, 1) by decide +kernel) hs582 hi583 ?_
      obtain ⟨⟨hr586, n585, hs587⟩, h_185⟩ := h_184
      refine fw_callV (mt' := mtX10_night) (mc := 0) (ms := 0) (As := [.int (mI M p0 (ix (p3 + (1 : Int32))))]) (rest := []) 1 10 n585 (show decode _ _ = .ok (.invokevirtual 81, 3) by decide +kernel) cv_L_81 ⟨_, rfl, rfl⟩ hr586 hs587 rfl (Nat.le_of_ble_eq_true rfl) (s_X10_night (d := d) (hd_le hd (by decide)) h_185) (by first | exact Nat.le_refl _ | exact Nat.le_add_right _ _ | exact Nat.zero_le _ | exact Nat.le_add_left _ _ | exact Nat.le_of_eq (Nat.add_sub_cancel).symm | decide) (by first | exact Nat.le_refl _ | exact Nat.le_add_right _ _ | exact Nat.zero_le _ | exact Nat.le_add_left _ _ | exact Nat.le_of_eq (Nat.add_sub_cancel).symm | decide) (kI (bc' := (Bc + 11)) (bs' := (Bs + 3005)) (by first | exact Nat.le_refl _ | exact Nat.le_add_right _ _ | exact Nat.zero_le _ | exact Nat.le_add_left _ _ | exact Nat.le_of_eq (Nat.add_sub_cancel).symm | decide) (by first | exact Nat.le_refl _ | exact Nat.le_add_right _ _ | exact Nat.zero_le _ | exact Nat.le_add_left _ _ | exact Nat.le_of_eq (Nat.add_sub_cancel).symm | decide) (fun x588 M584 h_186 => ?_))
      refine fw_aload_n (i := 2) 2 rfl (show decode _ _ = .ok (.aload_n 2, 1) by decide +kernel) ?_
      refine fw_aload_n (i := 0) 0 rfl (show decode _ _ = .ok (.aload_n 0, 1) by decide +kernel) ?_
      refine fw_iload_n (i := 3) 3 rfl (show decode _ _ = .ok (.iload_n 3, 1) by decide +kernel) ?_
      refine fw_iconst (v := (1 : Int32)) (show decode _ _ = .ok (.iconst 1, 1) by decide +kernel) (by decide) ?_
      refine fw_iadd (show decode _ _ = .ok (.iadd, 1) by decide +kernel) ?_
      obtain ⟨⟨n589, hs590, hi591⟩, h_187⟩ := h_186
      refine fw_iald (show decode _ _ = .ok (.iaload, 1) by decide +kernel) hs590 hi591 ?_
      obtain ⟨⟨hr594, n593, hs595⟩, h_188⟩ := h_187
      refine fw_callV (mt' := mtX11_night) (mc := 0) (ms := 0) (As := [.int (mI M584 p0 (ix (p3 + (1 : Int32))))]) (rest := [.int x588]) 1 11 n593 (show decode _ _ = .ok (.invokevirtual 84, 3) by decide +kernel) cv_L_84 ⟨_, rfl, rfl⟩ hr594 hs595 rfl (Nat.le_of_ble_eq_true rfl) (s_X11_night (d := d) (hd_le hd (by decide)) h_188) (by first | exact Nat.le_refl _ | exact Nat.le_add_right _ _ | exact Nat.zero_le _ | exact Nat.le_add_left _ _ | exact Nat.le_of_eq (Nat.add_sub_cancel).symm | decide) (by first | exact Nat.le_refl _ | exact Nat.le_add_right _ _ | exact Nat.zero_le _ | exact Nat.le_add_left _ _ | exact Nat.le_of_eq (Nat.add_sub_cancel).symm | decide) (kI (bc' := (Bc + 11)) (bs' := (Bs + 3005)) (by first | exact Nat.le_refl _ | exact Nat.le_add_right _ _ | exact Nat.zero_le _ | exact Nat.le_add_left _ _ | exact Nat.le_of_eq (Nat.add_sub_cancel).symm | decide) (by first | exact Nat.le_refl _ | exact Nat.le_add_right _ _ | exact Nat.zero_le _ | exact Nat.le_add_left _ _ | exact Nat.le_of_eq (Nat.add_sub_cancel).symm | decide) (fun x596 M592 h_189 => ?_))
      refine fw_icmp_eq 1833 (show decode _ _ = .ok (.if_icmp .eq 1138, 3) by decide +kernel) (by decide) (fun hc599 => ?_) (fun hc599 => ?_)
      · have h_190 := ipos hc599 h_189
        obtain ⟨x597, ex598⟩ : ∃ y : Int32, y = p3 + (7 : Int32) := ⟨_, rfl⟩
        have h_191 := h_190 x597 ex598
        refine fw_iinc (i := 3) (x := p3) (v := x597) (ls' := [(3, .int x597), (0, .ref p0), (1, .ref p1), (2, .ref p2)]) 3 rfl (show decode _ _ = .ok (.iinc 3 7, 3) by decide +kernel) (by rw [ex598]; rfl) (by decide) rfl ?_
        refine fw_goto 18 (show decode _ _ = .ok (.goto (-1818), 3) by decide +kernel) (by decide) ?_
        refine FW.sub [1, 2, 3, 0] (ls' := [(0, .ref p0), (1, .ref p1), (2, .ref p2), (3, .int x597)]) rfl ?_
        refine FW.room (bc' := Bc) (bs' := Bs) (by first | exact Nat.le_refl _ | exact Nat.le_add_right _ _ | exact Nat.zero_le _ | exact Nat.le_add_left _ _ | exact Nat.le_of_eq (Nat.add_sub_cancel).symm | decide) (by first | exact Nat.le_refl _ | exact Nat.le_add_right _ _ | exact Nat.zero_le _ | exact Nat.le_add_left _ _ | exact Nat.le_of_eq (Nat.add_sub_cancel).symm | decide) ?_
        exact hK18 _ _ _ _ _ h_191
      · have h_192 := ineg hc599 h_189
        refine fw_iconst (v := (0 : Int32)) (show decode _ _ = .ok (.iconst 0, 1) by decide +kernel) (by decide) ?_
        exact fw_ret (v := some (.int (0 : Int32))) .ireturn (show decode _ _ = .ok (.ireturn, 1) by decide +kernel) ⟨rfl, Or.inr (Or.inl ⟨rfl, rfl⟩)⟩ ⟨_, rfl, h_192⟩
    have h_193 := ineg hc600 h_182
    by_cases hc620 : x240 = (16 : Int32)
    · have h_194 := ipos hc620 h_193
      refine fw_tin (off := 667) 700 (show decode _ _ = .ok (.tableswitch 1800 0 41 #[183, 216, 259, 318, 351, 394, 417, 480, 503, 516, 539, 562, 605, 618, 631, 644, 667, 690, 723, 736, 759, 792, 855, 888, 980, 1060, 1103, 1146, 1179, 1232, 1302, 1372, 1442, 1501, 1534, 1567, 1610, 1679, 1692, 1751, 1764, 1777], 183) by decide +kernel) (by rw [hc620]; decide) (by rw [hc620]; decide) (by rw [hc620]; rfl) (by decide) ?_
      refine fw_aload_n (i := 1) 1 rfl (show decode _ _ = .ok (.aload_n 1, 1) by decide +kernel) ?_
      refine fw_aload_n (i := 0) 0 rfl (show decode _ _ = .ok (.aload_n 0, 1) by decide +kernel) ?_
      refine fw_iload_n (i := 3) 3 rfl (show decode _ _ = .ok (.iload_n 3, 1) by decide +kernel) ?_
      refine fw_iconst (v := (1 : Int32)) (show decode _ _ = .ok (.iconst 1, 1) by decide +kernel) (by decide) ?_
      refine fw_iadd (show decode _ _ = .ok (.iadd, 1) by decide +kernel) ?_
      obtain ⟨⟨n601, hs602, hi603⟩, h_195⟩ := h_194
      refine fw_iald (show decode _ _ = .ok (.iaload, 1) by decide +kernel) hs602 hi603 ?_
      obtain ⟨⟨hr606, n605, hs607⟩, h_196⟩ := h_195
      refine fw_callV (mt' := mtX10_played) (mc := 0) (ms := 0) (As := [.int (mI M p0 (ix (p3 + (1 : Int32))))]) (rest := []) 1 10 n605 (show decode _ _ = .ok (.invokevirtual 85, 3) by decide +kernel) cv_L_85 ⟨_, rfl, rfl⟩ hr606 hs607 rfl (Nat.le_of_ble_eq_true rfl) (s_X10_played (d := d) (hd_le hd (by decide)) h_196) (by first | exact Nat.le_refl _ | exact Nat.le_add_right _ _ | exact Nat.zero_le _ | exact Nat.le_add_left _ _ | exact Nat.le_of_eq (Nat.add_sub_cancel).symm | decide) (by first | exact Nat.le_refl _ | exact Nat.le_add_right _ _ | exact Nat.zero_le _ | exact Nat.le_add_left _ _ | exact Nat.le_of_eq (Nat.add_sub_cancel).symm | decide) (kI (bc' := (Bc + 11)) (bs' := (Bs + 3005)) (by first | exact Nat.le_refl _ | exact Nat.le_add_right _ _ | exact Nat.zero_le _ | exact Nat.le_add_left _ _ | exact Nat.le_of_eq (Nat.add_sub_cancel).symm | decide) (by first | exact Nat.le_refl _ | exact Nat.le_add_right _ _ | exact Nat.zero_le _ | exact Nat.le_add_left _ _ | exact Nat.le_of_eq (Nat.add_sub_cancel).symm | decide) (fun x608 M604 h_197 => ?_))
      refine fw_aload_n (i := 2) 2 rfl (show decode _ _ = .ok (.aload_n 2, 1) by decide +kernel) ?_
      refine fw_aload_n (i := 0) 0 rfl (show decode _ _ = .ok (.aload_n 0, 1) by decide +kernel) ?_
      refine fw_iload_n (i := 3) 3 rfl (show decode _ _ = .ok (.iload_n 3, 1) by decide +kernel) ?_
      refine fw_iconst (v := (1 : Int32)) (show decode _ _ = .ok (.iconst 1, 1) by decide +kernel) (by decide) ?_
      refine fw_iadd (show decode _ _ = .ok (.iadd, 1) by decide +kernel) ?_
      obtain ⟨⟨n609, hs610, hi611⟩, h_198⟩ := h_197
      refine fw_iald (show decode _ _ = .ok (.iaload, 1) by decide +kernel) hs610 hi611 ?_
      obtain ⟨⟨hr614, n613, hs615⟩, h_199⟩ := h_198
      refine fw_callV (mt' := mtX11_played) (mc := 0) (ms := 0) (As := [.int (mI M604 p0 (ix (p3 + (1 : Int32))))]) (rest := [.int x608]) 1 11 n613 (show decode _ _ = .ok (.invokevirtual 88, 3) by decide +kernel) cv_L_88 ⟨_, rfl, rfl⟩ hr614 hs615 rfl (Nat.le_of_ble_eq_true rfl) (s_X11_played (d := d) (hd_le hd (by decide)) h_199) (by first | exact Nat.le_refl _ | exact Nat.le_add_right _ _ | exact Nat.zero_le _ | exact Nat.le_add_left _ _ | exact Nat.le_of_eq (Nat.add_sub_cancel).symm | decide) (by first | exact Nat.le_refl _ | exact Nat.le_add_right _ _ | exact Nat.zero_le _ | exact Nat.le_add_left _ _ | exact Nat.le_of_eq (Nat.add_sub_cancel).symm | decide) (kI (bc' := (Bc + 11)) (bs' := (Bs + 3005)) (by first | exact Nat.le_refl _ | exact Nat.le_add_right _ _ | exact Nat.zero_le _ | exact Nat.le_add_left _ _ | exact Nat.le_of_eq (Nat.add_sub_cancel).symm | decide) (by first | exact Nat.le_refl _ | exact Nat.le_add_right _ _ | exact Nat.zero_le _ | exact Nat.le_add_left _ _ | exact Nat.le_of_eq (Nat.add_sub_cancel).symm | decide) (fun x616 M612 h_200 => ?_))
      refine fw_icmp_eq 1833 (show decode _ _ = .ok (.if_icmp .eq 1115, 3) by decide +kernel) (by decide) (fun hc619 => ?_) (fun hc619 => ?_)
      · have h_201 := ipos hc619 h_200
        obtain ⟨x617, ex618⟩ : ∃ y : Int32, y = p3 + (7 : Int32) := ⟨_, rfl⟩
        have h_202 := h_201 x617 ex618
        refine fw_iinc (i := 3) (x := p3) (v := x617) (ls' := [(3, .int x617), (0, .ref p0), (1, .ref p1), (2, .ref p2)]) 3 rfl (show decode _ _ = .ok (.iinc 3 7, 3) by decide +kernel) (by rw [ex618]; rfl) (by decide) rfl ?_
        refine fw_goto 18 (show decode _ _ = .ok (.goto (-1818), 3) by decide +kernel) (by decide) ?_
        refine FW.sub [1, 2, 3, 0] (ls' := [(0, .ref p0), (1, .ref p1), (2, .ref p2), (3, .int x617)]) rfl ?_
        refine FW.room (bc' := Bc) (bs' := Bs) (by first | exact Nat.le_refl _ | exact Nat.le_add_right _ _ | exact Nat.zero_le _ | exact Nat.le_add_left _ _ | exact Nat.le_of_eq (Nat.add_sub_cancel).symm | decide) (by first | exact Nat.le_refl _ | exact Nat.le_add_right _ _ | exact Nat.zero_le _ | exact Nat.le_add_left _ _ | exact Nat.le_of_eq (Nat.add_sub_cancel).symm | decide) ?_
        exact hK18 _ _ _ _ _ h_202
      · have h_203 := ineg hc619 h_200
        refine fw_iconst (v := (0 : Int32)) (show decode _ _ = .ok (.iconst 0, 1) by decide +kernel) (by decide) ?_
        exact fw_ret (v := some (.int (0 : Int32))) .ireturn (show decode _ _ = .ok (.ireturn, 1) by decide +kernel) ⟨rfl, Or.inr (Or.inl ⟨rfl, rfl⟩)⟩ ⟨_, rfl, h_203⟩
    have h_204 := ineg hc620 h_193
    by_cases hc646 : x240 = (17 : Int32)
    · have h_205 := ipos hc646 h_204
      refine fw_tin (off := 690) 723 (show decode _ _ = .ok (.tableswitch 1800 0 41 #[183, 216, 259, 318, 351, 394, 417, 480, 503, 516, 539, 562, 605, 618, 631, 644, 667, 690, 723, 736, 759, 792, 855, 888, 980, 1060, 1103, 1146, 1179, 1232, 1302, 1372, 1442, 1501, 1534, 1567, 1610, 1679, 1692, 1751, 1764, 1777], 183) by decide +kernel) (by rw [hc646]; decide) (by rw [hc646]; decide) (by rw [hc646]; rfl) (by decide) ?_
      refine fw_aload_n (i := 1) 1 rfl (show decode _ _ = .ok (.aload_n 1, 1) by decide +kernel) ?_
      refine fw_aload_n (i := 0) 0 rfl (show decode _ _ = .ok (.aload_n 0, 1) by decide +kernel) ?_
      refine fw_iload_n (i := 3) 3 rfl (show decode _ _ = .ok (.iload_n 3, 1) by decide +kernel) ?_
      refine fw_iconst (v := (1 : Int32)) (show decode _ _ = .ok (.iconst 1, 1) by decide +kernel) (by decide) ?_
      refine fw_iadd (show decode _ _ = .ok (.iadd, 1) by decide +kernel) ?_
      obtain ⟨⟨n621, hs622, hi623⟩, h_206⟩ := h_205
      refine fw_iald (show decode _ _ = .ok (.iaload, 1) by decide +kernel) hs622 hi623 ?_
      refine fw_aload_n (i := 0) 0 rfl (show decode _ _ = .ok (.aload_n 0, 1) by decide +kernel) ?_
      refine fw_iload_n (i := 3) 3 rfl (show decode _ _ = .ok (.iload_n 3, 1) by decide +kernel) ?_
      refine fw_iconst (v := (2 : Int32)) (show decode _ _ = .ok (.iconst 2, 1) by decide +kernel) (by decide) ?_
      refine fw_iadd (show decode _ _ = .ok (.iadd, 1) by decide +kernel) ?_
      obtain ⟨⟨n624, hs625, hi626⟩, h_207⟩ := h_206
      refine fw_iald (show decode _ _ = .ok (.iaload, 1) by decide +kernel) hs625 hi626 ?_
      obtain ⟨⟨hr629, n628, hs630⟩, h_208⟩ := h_207
      refine fw_callV (mt' := mtX10_week) (mc := 0) (ms := 0) (As := [.int (mI M p0 (ix (p3 + (1 : Int32)))), .int (mI M p0 (ix (p3 + (2 : Int32))))]) (rest := []) 2 10 n628 (show decode _ _ = .ok (.invokevirtual 89, 3) by decide +kernel) cv_L_89 ⟨_, rfl, rfl⟩ hr629 hs630 rfl (Nat.le_of_ble_eq_true rfl) (s_X10_week (d := d) (hd_le hd (by decide)) h_208) (by first | exact Nat.le_refl _ | exact Nat.le_add_right _ _ | exact Nat.zero_le _ | exact Nat.le_add_left _ _ | exact Nat.le_of_eq (Nat.add_sub_cancel).symm | decide) (by first | exact Nat.le_refl _ | exact Nat.le_add_right _ _ | exact Nat.zero_le _ | exact Nat.le_add_left _ _ | exact Nat.le_of_eq (Nat.add_sub_cancel).symm | decide) (kI (bc' := (Bc + 11)) (bs' := (Bs + 3005)) (by first | exact Nat.le_refl _ | exact Nat.le_add_right _ _ | exact Nat.zero_le _ | exact Nat.le_add_left _ _ | exact Nat.le_of_eq (Nat.add_sub_cancel).symm | decide) (by first | exact Nat.le_refl _ | exact Nat.le_add_right _ _ | exact Nat.zero_le _ | exact Nat.le_add_left _ _ | exact Nat.le_of_eq (Nat.add_sub_cancel).symm | decide) (fun x631 M627 h_209 => ?_))
      refine fw_aload_n (i := 2) 2 rfl (show decode _ _ = .ok (.aload_n 2, 1) by decide +kernel) ?_
      refine fw_aload_n (i := 0) 0 rfl (show decode _ _ = .ok (.aload_n 0, 1) by decide +kernel) ?_
      refine fw_iload_n (i := 3) 3 rfl (show decode _ _ = .ok (.iload_n 3, 1) by decide +kernel) ?_
      refine fw_iconst (v := (1 : Int32)) (show decode _ _ = .ok (.iconst 1, 1) by decide +kernel) (by decide) ?_
      refine fw_iadd (show decode _ _ = .ok (.iadd, 1) by decide +kernel) ?_
      obtain ⟨⟨n632, hs633, hi634⟩, h_210⟩ := h_209
      refine fw_iald (show decode _ _ = .ok (.iaload, 1) by decide +kernel) hs633 hi634 ?_
      refine fw_aload_n (i := 0) 0 rfl (show decode _ _ = .ok (.aload_n 0, 1) by decide +kernel) ?_
      refine fw_iload_n (i := 3) 3 rfl (show decode _ _ = .ok (.iload_n 3, 1) by decide +kernel) ?_
      refine fw_iconst (v := (2 : Int32)) (show decode _ _ = .ok (.iconst 2, 1) by decide +kernel) (by decide) ?_
      refine fw_iadd (show decode _ _ = .ok (.iadd, 1) by decide +kernel) ?_
      obtain ⟨⟨n635, hs636, hi637⟩, h_211⟩ := h_210
      refine fw_iald (show decode _ _ = .ok (.iaload, 1) by decide +kernel) hs636 hi637 ?_
      obtain ⟨⟨hr640, n639, hs641⟩, h_212⟩ := h_211
      refine fw_callV (mt' := mtX11_week) (mc := 0) (ms := 0) (As := [.int (mI M627 p0 (ix (p3 + (1 : Int32)))), .int (mI M627 p0 (ix (p3 + (2 : Int32))))]) (rest := [.int x631]) 2 11 n639 (show decode _ _ = .ok (.invokevirtual 93, 3) by decide +kernel) cv_L_93 ⟨_, rfl, rfl⟩ hr640 hs641 rfl (Nat.le_of_ble_eq_true rfl) (s_X11_week (d := d) (hd_le hd (by decide)) h_212) (by first | exact Nat.le_refl _ | exact Nat.le_add_right _ _ | exact Nat.zero_le _ | exact Nat.le_add_left _ _ | exact Nat.le_of_eq (Nat.add_sub_cancel).symm | decide) (by first | exact Nat.le_refl _ | exact Nat.le_add_right _ _ | exact Nat.zero_le _ | exact Nat.le_add_left _ _ | exact Nat.le_of_eq (Nat.add_sub_cancel).symm | decide) (kI (bc' := (Bc + 11)) (bs' := (Bs + 3005)) (by first | exact Nat.le_refl _ | exact Nat.le_add_right _ _ | exact Nat.zero_le _ | exact Nat.le_add_left _ _ | exact Nat.le_of_eq (Nat.add_sub_cancel).symm | decide) (by first | exact Nat.le_refl _ | exact Nat.le_add_right _ _ | exact Nat.zero_le _ | exact Nat.le_add_left _ _ | exact Nat.le_of_eq (Nat.add_sub_cancel).symm | decide) (fun x642 M638 h_213 => ?_))
      refine fw_icmp_eq 1833 (show decode _ _ = .ok (.if_icmp .eq 1082, 3) by decide +kernel) (by decide) (fun hc645 => ?_) (fun hc645 => ?_)
      · have h_214 := ipos hc645 h_213
        obtain ⟨x643, ex644⟩ : ∃ y : Int32, y = p3 + (7 : Int32) := ⟨_, rfl⟩
        have h_215 := h_214 x643 ex644
        refine fw_iinc (i := 3) (x := p3) (v := x643) (ls' := [(3, .int x643), (0, .ref p0), (1, .ref p1), (2, .ref p2)]) 3 rfl (show decode _ _ = .ok (.iinc 3 7, 3) by decide +kernel) (by rw [ex644]; rfl) (by decide) rfl ?_
        refine fw_goto 18 (show decode _ _ = .ok (.goto (-1818), 3) by decide +kernel) (by decide) ?_
        refine FW.sub [1, 2, 3, 0] (ls' := [(0, .ref p0), (1, .ref p1), (2, .ref p2), (3, .int x643)]) rfl ?_
        refine FW.room (bc' := Bc) (bs' := Bs) (by first | exact Nat.le_refl _ | exact Nat.le_add_right _ _ | exact Nat.zero_le _ | exact Nat.le_add_left _ _ | exact Nat.le_of_eq (Nat.add_sub_cancel).symm | decide) (by first | exact Nat.le_refl _ | exact Nat.le_add_right _ _ | exact Nat.zero_le _ | exact Nat.le_add_left _ _ | exact Nat.le_of_eq (Nat.add_sub_cancel).symm | decide) ?_
        exact hK18 _ _ _ _ _ h_215
      · have h_216 := ineg hc645 h_213
        refine fw_iconst (v := (0 : Int32)) (show decode _ _ = .ok (.iconst 0, 1) by decide +kernel) (by decide) ?_
        exact fw_ret (v := some (.int (0 : Int32))) .ireturn (show decode _ _ = .ok (.ireturn, 1) by decide +kernel) ⟨rfl, Or.inr (Or.inl ⟨rfl, rfl⟩)⟩ ⟨_, rfl, h_216⟩
    have h_217 := ineg hc646 h_204
    by_cases hc660 : x240 = (18 : Int32)
    · have h_218 := ipos hc660 h_217
      refine fw_tin (off := 723) 756 (show decode _ _ = .ok (.tableswitch 1800 0 41 #[183, 216, 259, 318, 351, 394, 417, 480, 503, 516, 539, 562, 605, 618, 631, 644, 667, 690, 723, 736, 759, 792, 855, 888, 980, 1060, 1103, 1146, 1179, 1232, 1302, 1372, 1442, 1501, 1534, 1567, 1610, 1679, 1692, 1751, 1764, 1777], 183) by decide +kernel) (by rw [hc660]; decide) (by rw [hc660]; decide) (by rw [hc660]; rfl) (by decide) ?_
      refine fw_aload_n (i := 1) 1 rfl (show decode _ _ = .ok (.aload_n 1, 1) by decide +kernel) ?_
      obtain ⟨⟨hr649, n648, hs650⟩, h_219⟩ := h_218
      refine fw_callV (mt' := mtX10_undo) (mc := 0) (ms := 0) (As := []) (rest := []) 0 10 n648 (show decode _ _ = .ok (.invokevirtual 94, 3) by decide +kernel) cv_L_94 ⟨_, rfl, rfl⟩ hr649 hs650 rfl (Nat.le_of_ble_eq_true rfl) (s_X10_undo (d := d) (hd_le hd (by decide)) h_219) (by first | exact Nat.le_refl _ | exact Nat.le_add_right _ _ | exact Nat.zero_le _ | exact Nat.le_add_left _ _ | exact Nat.le_of_eq (Nat.add_sub_cancel).symm | decide) (by first | exact Nat.le_refl _ | exact Nat.le_add_right _ _ | exact Nat.zero_le _ | exact Nat.le_add_left _ _ | exact Nat.le_of_eq (Nat.add_sub_cancel).symm | decide) (kI (bc' := (Bc + 11)) (bs' := (Bs + 3005)) (by first | exact Nat.le_refl _ | exact Nat.le_add_right _ _ | exact Nat.zero_le _ | exact Nat.le_add_left _ _ | exact Nat.le_of_eq (Nat.add_sub_cancel).symm | decide) (by first | exact Nat.le_refl _ | exact Nat.le_add_right _ _ | exact Nat.zero_le _ | exact Nat.le_add_left _ _ | exact Nat.le_of_eq (Nat.add_sub_cancel).symm | decide) (fun x651 M647 h_220 => ?_))
      refine fw_aload_n (i := 2) 2 rfl (show decode _ _ = .ok (.aload_n 2, 1) by decide +kernel) ?_
      obtain ⟨⟨hr654, n653, hs655⟩, h_221⟩ := h_220
      refine fw_callV (mt' := mtX11_undo) (mc := 0) (ms := 0) (As := []) (rest := [.int x651]) 0 11 n653 (show decode _ _ = .ok (.invokevirtual 97, 3) by decide +kernel) cv_L_97 ⟨_, rfl, rfl⟩ hr654 hs655 rfl (Nat.le_of_ble_eq_true rfl) (s_X11_undo (d := d) (hd_le hd (by decide)) h_221) (by first | exact Nat.le_refl _ | exact Nat.le_add_right _ _ | exact Nat.zero_le _ | exact Nat.le_add_left _ _ | exact Nat.le_of_eq (Nat.add_sub_cancel).symm | decide) (by first | exact Nat.le_refl _ | exact Nat.le_add_right _ _ | exact Nat.zero_le _ | exact Nat.le_add_left _ _ | exact Nat.le_of_eq (Nat.add_sub_cancel).symm | decide) (kI (bc' := (Bc + 11)) (bs' := (Bs + 3005)) (by first | exact Nat.le_refl _ | exact Nat.le_add_right _ _ | exact Nat.zero_le _ | exact Nat.le_add_left _ _ | exact Nat.le_of_eq (Nat.add_sub_cancel).symm | decide) (by first | exact Nat.le_refl _ | exact Nat.le_add_right _ _ | exact Nat.zero_le _ | exact Nat.le_add_left _ _ | exact Nat.le_of_eq (Nat.add_sub_cancel).symm | decide) (fun x656 M652 h_222 => ?_))
      refine fw_icmp_eq 1833 (show decode _ _ = .ok (.if_icmp .eq 1069, 3) by decide +kernel) (by decide) (fun hc659 => ?_) (fun hc659 => ?_)
      · have h_223 := ipos hc659 h_222
        obtain ⟨x657, ex658⟩ : ∃ y : Int32, y = p3 + (7 : Int32) := ⟨_, rfl⟩
        have h_224 := h_223 x657 ex658
        refine fw_iinc (i := 3) (x := p3) (v := x657) (ls' := [(3, .int x657), (0, .ref p0), (1, .ref p1), (2, .ref p2)]) 3 rfl (show decode _ _ = .ok (.iinc 3 7, 3) by decide +kernel) (by rw [ex658]; rfl) (by decide) rfl ?_
        refine fw_goto 18 (show decode _ _ = .ok (.goto (-1818), 3) by decide +kernel) (by decide) ?_
        refine FW.sub [1, 2, 3, 0] (ls' := [(0, .ref p0), (1, .ref p1), (2, .ref p2), (3, .int x657)]) rfl ?_
        refine FW.room (bc' := Bc) (bs' := Bs) (by first | exact Nat.le_refl _ | exact Nat.le_add_right _ _ | exact Nat.zero_le _ | exact Nat.le_add_left _ _ | exact Nat.le_of_eq (Nat.add_sub_cancel).symm | decide) (by first | exact Nat.le_refl _ | exact Nat.le_add_right _ _ | exact Nat.zero_le _ | exact Nat.le_add_left _ _ | exact Nat.le_of_eq (Nat.add_sub_cancel).symm | decide) ?_
        exact hK18 _ _ _ _ _ h_224
      · have h_225 := ineg hc659 h_222
        refine fw_iconst (v := (0 : Int32)) (show decode _ _ = .ok (.iconst 0, 1) by decide +kernel) (by decide) ?_
        exact fw_ret (v := some (.int (0 : Int32))) .ireturn (show decode _ _ = .ok (.ireturn, 1) by decide +kernel) ⟨rfl, Or.inr (Or.inl ⟨rfl, rfl⟩)⟩ ⟨_, rfl, h_225⟩
    have h_226 := ineg hc660 h_217
    by_cases hc680 : x240 = (19 : Int32)
    · have h_227 := ipos hc680 h_226
      refine fw_tin (off := 736) 769 (show decode _ _ = .ok (.tableswitch 1800 0 41 #[183, 216, 259, 318, 351, 394, 417, 480, 503, 516, 539, 562, 605, 618, 631, 644, 667, 690, 723, 736, 759, 792, 855, 888, 980, 1060, 1103, 1146, 1179, 1232, 1302, 1372, 1442, 1501, 1534, 1567, 1610, 1679, 1692, 1751, 1764, 1777], 183) by decide +kernel) (by rw [hc680]; decide) (by rw [hc680]; decide) (by rw [hc680]; rfl) (by decide) ?_
      refine fw_aload_n (i := 1) 1 rfl (show decode _ _ = .ok (.aload_n 1, 1) by decide +kernel) ?_
      refine fw_aload_n (i := 0) 0 rfl (show decode _ _ = .ok (.aload_n 0, 1) by decide +kernel) ?_
      refine fw_iload_n (i := 3) 3 rfl (show decode _ _ = .ok (.iload_n 3, 1) by decide +kernel) ?_
      refine fw_iconst (v := (1 : Int32)) (show decode _ _ = .ok (.iconst 1, 1) by decide +kernel) (by decide) ?_
      refine fw_iadd (show decode _ _ = .ok (.iadd, 1) by decide +kernel) ?_
      obtain ⟨⟨n661, hs662, hi663⟩, h_228⟩ := h_227
      refine fw_iald (show decode _ _ = .ok (.iaload, 1) by decide +kernel) hs662 hi663 ?_
      obtain ⟨⟨hr666, n665, hs667⟩, h_229⟩ := h_228
      refine fw_callV (mt' := mtX10_way) (mc := 0) (ms := 0) (As := [.int (mI M p0 (ix (p3 + (1 : Int32))))]) (rest := []) 1 10 n665 (show decode _ _ = .ok (.invokevirtual 98, 3) by decide +kernel) cv_L_98 ⟨_, rfl, rfl⟩ hr666 hs667 rfl (Nat.le_of_ble_eq_true rfl) (s_X10_way (d := d) (hd_le hd (by decide)) h_229) (by first | exact Nat.le_refl _ | exact Nat.le_add_right _ _ | exact Nat.zero_le _ | exact Nat.le_add_left _ _ | exact Nat.le_of_eq (Nat.add_sub_cancel).symm | decide) (by first | exact Nat.le_refl _ | exact Nat.le_add_right _ _ | exact Nat.zero_le _ | exact Nat.le_add_left _ _ | exact Nat.le_of_eq (Nat.add_sub_cancel).symm | decide) (kI (bc' := (Bc + 11)) (bs' := (Bs + 3005)) (by first | exact Nat.le_refl _ | exact Nat.le_add_right _ _ | exact Nat.zero_le _ | exact Nat.le_add_left _ _ | exact Nat.le_of_eq (Nat.add_sub_cancel).symm | decide) (by first | exact Nat.le_refl _ | exact Nat.le_add_right _ _ | exact Nat.zero_le _ | exact Nat.le_add_left _ _ | exact Nat.le_of_eq (Nat.add_sub_cancel).symm | decide) (fun x668 M664 h_230 => ?_))
      refine fw_aload_n (i := 2) 2 rfl (show decode _ _ = .ok (.aload_n 2, 1) by decide +kernel) ?_
      refine fw_aload_n (i := 0) 0 rfl (show decode _ _ = .ok (.aload_n 0, 1) by decide +kernel) ?_
      refine fw_iload_n (i := 3) 3 rfl (show decode _ _ = .ok (.iload_n 3, 1) by decide +kernel) ?_
      refine fw_iconst (v := (1 : Int32)) (show decode _ _ = .ok (.iconst 1, 1) by decide +kernel) (by decide) ?_
      refine fw_iadd (show decode _ _ = .ok (.iadd, 1) by decide +kernel) ?_
      obtain ⟨⟨n669, hs670, hi671⟩, h_231⟩ := h_230
      refine fw_iald (show decode _ _ = .ok (.iaload, 1) by decide +kernel) hs670 hi671 ?_
      obtain ⟨⟨hr674, n673, hs675⟩, h_232⟩ := h_231
      refine fw_callV (mt' := mtX11_way) (mc := 0) (ms := 0) (As := [.int (mI M664 p0 (ix (p3 + (1 : Int32))))]) (rest := [.int x668]) 1 11 n673 (show decode _ _ = .ok (.invokevirtual 101, 3) by decide +kernel) cv_L_101 ⟨_, rfl, rfl⟩ hr674 hs675 rfl (Nat.le_of_ble_eq_true rfl) (s_X11_way (d := d) (hd_le hd (by decide)) h_232) (by first | exact Nat.le_refl _ | exact Nat.le_add_right _ _ | exact Nat.zero_le _ | exact Nat.le_add_left _ _ | exact Nat.le_of_eq (Nat.add_sub_cancel).symm | decide) (by first | exact Nat.le_refl _ | exact Nat.le_add_right _ _ | exact Nat.zero_le _ | exact Nat.le_add_left _ _ | exact Nat.le_of_eq (Nat.add_sub_cancel).symm | decide) (kI (bc' := (Bc + 11)) (bs' := (Bs + 3005)) (by first | exact Nat.le_refl _ | exact Nat.le_add_right _ _ | exact Nat.zero_le _ | exact Nat.le_add_left _ _ | exact Nat.le_of_eq (Nat.add_sub_cancel).symm | decide) (by first | exact Nat.le_refl _ | exact Nat.le_add_right _ _ | exact Nat.zero_le _ | exact Nat.le_add_left _ _ | exact Nat.le_of_eq (Nat.add_sub_cancel).symm | decide) (fun x676 M672 h_233 => ?_))
      refine fw_icmp_eq 1833 (show decode _ _ = .ok (.if_icmp .eq 1046, 3) by decide +kernel) (by decide) (fun hc679 => ?_) (fun hc679 => ?_)
      · have h_234 := ipos hc679 h_233
        obtain ⟨x677, ex678⟩ : ∃ y : Int32, y = p3 + (7 : Int32) := ⟨_, rfl⟩
        have h_235 := h_234 x677 ex678
        refine fw_iinc (i := 3) (x := p3) (v := x677) (ls' := [(3, .int x677), (0, .ref p0), (1, .ref p1), (2, .ref p2)]) 3 rfl (show decode _ _ = .ok (.iinc 3 7, 3) by decide +kernel) (by rw [ex678]; rfl) (by decide) rfl ?_
        refine fw_goto 18 (show decode _ _ = .ok (.goto (-1818), 3) by decide +kernel) (by decide) ?_
        refine FW.sub [1, 2, 3, 0] (ls' := [(0, .ref p0), (1, .ref p1), (2, .ref p2), (3, .int x677)]) rfl ?_
        refine FW.room (bc' := Bc) (bs' := Bs) (by first | exact Nat.le_refl _ | exact Nat.le_add_right _ _ | exact Nat.zero_le _ | exact Nat.le_add_left _ _ | exact Nat.le_of_eq (Nat.add_sub_cancel).symm | decide) (by first | exact Nat.le_refl _ | exact Nat.le_add_right _ _ | exact Nat.zero_le _ | exact Nat.le_add_left _ _ | exact Nat.le_of_eq (Nat.add_sub_cancel).symm | decide) ?_
        exact hK18 _ _ _ _ _ h_235
      · have h_236 := ineg hc679 h_233
        refine fw_iconst (v := (0 : Int32)) (show decode _ _ = .ok (.iconst 0, 1) by decide +kernel) (by decide) ?_
        exact fw_ret (v := some (.int (0 : Int32))) .ireturn (show decode _ _ = .ok (.ireturn, 1) by decide +kernel) ⟨rfl, Or.inr (Or.inl ⟨rfl, rfl⟩)⟩ ⟨_, rfl, h_236⟩
    have h_237 := ineg hc680 h_226
    by_cases hc706 : x240 = (20 : Int32)
    · have h_238 := ipos hc706 h_237
      refine fw_tin (off := 759) 792 (show decode _ _ = .ok (.tableswitch 1800 0 41 #[183, 216, 259, 318, 351, 394, 417, 480, 503, 516, 539, 562, 605, 618, 631, 644, 667, 690, 723, 736, 759, 792, 855, 888, 980, 1060, 1103, 1146, 1179, 1232, 1302, 1372, 1442, 1501, 1534, 1567, 1610, 1679, 1692, 1751, 1764, 1777], 183) by decide +kernel) (by rw [hc706]; decide) (by rw [hc706]; decide) (by rw [hc706]; rfl) (by decide) ?_
      refine fw_aload_n (i := 1) 1 rfl (show decode _ _ = .ok (.aload_n 1, 1) by decide +kernel) ?_
      refine fw_aload_n (i := 0) 0 rfl (show decode _ _ = .ok (.aload_n 0, 1) by decide +kernel) ?_
      refine fw_iload_n (i := 3) 3 rfl (show decode _ _ = .ok (.iload_n 3, 1) by decide +kernel) ?_
      refine fw_iconst (v := (1 : Int32)) (show decode _ _ = .ok (.iconst 1, 1) by decide +kernel) (by decide) ?_
      refine fw_iadd (show decode _ _ = .ok (.iadd, 1) by decide +kernel) ?_
      obtain ⟨⟨n681, hs682, hi683⟩, h_239⟩ := h_238
      refine fw_iald (show decode _ _ = .ok (.iaload, 1) by decide +kernel) hs682 hi683 ?_
      refine fw_aload_n (i := 0) 0 rfl (show decode _ _ = .ok (.aload_n 0, 1) by decide +kernel) ?_
      refine fw_iload_n (i := 3) 3 rfl (show decode _ _ = .ok (.iload_n 3, 1) by decide +kernel) ?_
      refine fw_iconst (v := (2 : Int32)) (show decode _ _ = .ok (.iconst 2, 1) by decide +kernel) (by decide) ?_
      refine fw_iadd (show decode _ _ = .ok (.iadd, 1) by decide +kernel) ?_
      obtain ⟨⟨n684, hs685, hi686⟩, h_240⟩ := h_239
      refine fw_iald (show decode _ _ = .ok (.iaload, 1) by decide +kernel) hs685 hi686 ?_
      obtain ⟨⟨hr689, n688, hs690⟩, h_241⟩ := h_240
      refine fw_callV (mt' := mtX10_house) (mc := 0) (ms := 0) (As := [.int (mI M p0 (ix (p3 + (1 : Int32)))), .int (mI M p0 (ix (p3 + (2 : Int32))))]) (rest := []) 2 10 n688 (show decode _ _ = .ok (.invokevirtual 102, 3) by decide +kernel) cv_L_102 ⟨_, rfl, rfl⟩ hr689 hs690 rfl (Nat.le_of_ble_eq_true rfl) (s_X10_house (d := d) (hd_le hd (by decide)) h_241) (by first | exact Nat.le_refl _ | exact Nat.le_add_right _ _ | exact Nat.zero_le _ | exact Nat.le_add_left _ _ | exact Nat.le_of_eq (Nat.add_sub_cancel).symm | decide) (by first | exact Nat.le_refl _ | exact Nat.le_add_right _ _ | exact Nat.zero_le _ | exact Nat.le_add_left _ _ | exact Nat.le_of_eq (Nat.add_sub_cancel).symm | decide) (kI (bc' := (Bc + 11)) (bs' := (Bs + 3005)) (by first | exact Nat.le_refl _ | exact Nat.le_add_right _ _ | exact Nat.zero_le _ | exact Nat.le_add_left _ _ | exact Nat.le_of_eq (Nat.add_sub_cancel).symm | decide) (by first | exact Nat.le_refl _ | exact Nat.le_add_right _ _ | exact Nat.zero_le _ | exact Nat.le_add_left _ _ | exact Nat.le_of_eq (Nat.add_sub_cancel).symm | decide) (fun x691 M687 h_242 => ?_))
      refine fw_aload_n (i := 2) 2 rfl (show decode _ _ = .ok (.aload_n 2, 1) by decide +kernel) ?_
      refine fw_aload_n (i := 0) 0 rfl (show decode _ _ = .ok (.aload_n 0, 1) by decide +kernel) ?_
      refine fw_iload_n (i := 3) 3 rfl (show decode _ _ = .ok (.iload_n 3, 1) by decide +kernel) ?_
      refine fw_iconst (v := (1 : Int32)) (show decode _ _ = .ok (.iconst 1, 1) by decide +kernel) (by decide) ?_
      refine fw_iadd (show decode _ _ = .ok (.iadd, 1) by decide +kernel) ?_
      obtain ⟨⟨n692, hs693, hi694⟩, h_243⟩ := h_242
      refine fw_iald (show decode _ _ = .ok (.iaload, 1) by decide +kernel) hs693 hi694 ?_
      refine fw_aload_n (i := 0) 0 rfl (show decode _ _ = .ok (.aload_n 0, 1) by decide +kernel) ?_
      refine fw_iload_n (i := 3) 3 rfl (show decode _ _ = .ok (.iload_n 3, 1) by decide +kernel) ?_
      refine fw_iconst (v := (2 : Int32)) (show decode _ _ = .ok (.iconst 2, 1) by decide +kernel) (by decide) ?_
      refine fw_iadd (show decode _ _ = .ok (.iadd, 1) by decide +kernel) ?_
      obtain ⟨⟨n695, hs696, hi697⟩, h_244⟩ := h_243
      refine fw_iald (show decode _ _ = .ok (.iaload, 1) by decide +kernel) hs696 hi697 ?_
      obtain ⟨⟨hr700, n699, hs701⟩, h_245⟩ := h_244
      refine fw_callV (mt' := mtX11_house) (mc := 0) (ms := 0) (As := [.int (mI M687 p0 (ix (p3 + (1 : Int32)))), .int (mI M687 p0 (ix (p3 + (2 : Int32))))]) (rest := [.int x691]) 2 11 n699 (show decode _ _ = .ok (.invokevirtual 105, 3) by decide +kernel) cv_L_105 ⟨_, rfl, rfl⟩ hr700 hs701 rfl (Nat.le_of_ble_eq_true rfl) (s_X11_house (d := d) (hd_le hd (by decide)) h_245) (by first | exact Nat.le_refl _ | exact Nat.le_add_right _ _ | exact Nat.zero_le _ | exact Nat.le_add_left _ _ | exact Nat.le_of_eq (Nat.add_sub_cancel).symm | decide) (by first | exact Nat.le_refl _ | exact Nat.le_add_right _ _ | exact Nat.zero_le _ | exact Nat.le_add_left _ _ | exact Nat.le_of_eq (Nat.add_sub_cancel).symm | decide) (kI (bc' := (Bc + 11)) (bs' := (Bs + 3005)) (by first | exact Nat.le_refl _ | exact Nat.le_add_right _ _ | exact Nat.zero_le _ | exact Nat.le_add_left _ _ | exact Nat.le_of_eq (Nat.add_sub_cancel).symm | decide) (by first | exact Nat.le_refl _ | exact Nat.le_add_right _ _ | exact Nat.zero_le _ | exact Nat.le_add_left _ _ | exact Nat.le_of_eq (Nat.add_sub_cancel).symm | decide) (fun x702 M698 h_246 => ?_))
      refine fw_icmp_eq 1833 (show decode _ _ = .ok (.if_icmp .eq 1013, 3) by decide +kernel) (by decide) (fun hc705 => ?_) (fun hc705 => ?_)
      · have h_247 := ipos hc705 h_246
        obtain ⟨x703, ex704⟩ : ∃ y : Int32, y = p3 + (7 : Int32) := ⟨_, rfl⟩
        have h_248 := h_247 x703 ex704
        refine fw_iinc (i := 3) (x := p3) (v := x703) (ls' := [(3, .int x703), (0, .ref p0), (1, .ref p1), (2, .ref p2)]) 3 rfl (show decode _ _ = .ok (.iinc 3 7, 3) by decide +kernel) (by rw [ex704]; rfl) (by decide) rfl ?_
        refine fw_goto 18 (show decode _ _ = .ok (.goto (-1818), 3) by decide +kernel) (by decide) ?_
        refine FW.sub [1, 2, 3, 0] (ls' := [(0, .ref p0), (1, .ref p1), (2, .ref p2), (3, .int x703)]) rfl ?_
        refine FW.room (bc' := Bc) (bs' := Bs) (by first | exact Nat.le_refl _ | exact Nat.le_add_right _ _ | exact Nat.zero_le _ | exact Nat.le_add_left _ _ | exact Nat.le_of_eq (Nat.add_sub_cancel).symm | decide) (by first | exact Nat.le_refl _ | exact Nat.le_add_right _ _ | exact Nat.zero_le _ | exact Nat.le_add_left _ _ | exact Nat.le_of_eq (Nat.add_sub_cancel).symm | decide) ?_
        exact hK18 _ _ _ _ _ h_248
      · have h_249 := ineg hc705 h_246
        refine fw_iconst (v := (0 : Int32)) (show decode _ _ = .ok (.iconst 0, 1) by decide +kernel) (by decide) ?_
        exact fw_ret (v := some (.int (0 : Int32))) .ireturn (show decode _ _ = .ok (.ireturn, 1) by decide +kernel) ⟨rfl, Or.inr (Or.inl ⟨rfl, rfl⟩)⟩ ⟨_, rfl, h_249⟩
    have h_250 := ineg hc706 h_237
    by_cases hc750 : x240 = (21 : Int32)
    · have h_251 := ipos hc750 h_250
      refine fw_tin (off := 792) 825 (show decode _ _ = .ok (.tableswitch 1800 0 41 #[183, 216, 259, 318, 351, 394, 417, 480, 503, 516, 539, 562, 605, 618, 631, 644, 667, 690, 723, 736, 759, 792, 855, 888, 980, 1060, 1103, 1146, 1179, 1232, 1302, 1372, 1442, 1501, 1534, 1567, 1610, 1679, 1692, 1751, 1764, 1777], 183) by decide +kernel) (by rw [hc750]; decide) (by rw [hc750]; decide) (by rw [hc750]; rfl) (by decide) ?_
      refine fw_aload_n (i := 1) 1 rfl (show decode _ _ = .ok (.aload_n 1, 1) by decide +kernel) ?_
      refine fw_aload_n (i := 0) 0 rfl (show decode _ _ = .ok (.aload_n 0, 1) by decide +kernel) ?_
      refine fw_iload_n (i := 3) 3 rfl (show decode _ _ = .ok (.iload_n 3, 1) by decide +kernel) ?_
      refine fw_iconst (v := (1 : Int32)) (show decode _ _ = .ok (.iconst 1, 1) by decide +kernel) (by decide) ?_
      refine fw_iadd (show decode _ _ = .ok (.iadd, 1) by decide +kernel) ?_
      obtain ⟨⟨n707, hs708, hi709⟩, h_252⟩ := h_251
      refine fw_iald (show decode _ _ = .ok (.iaload, 1) by decide +kernel) hs708 hi709 ?_
      refine fw_aload_n (i := 0) 0 rfl (show decode _ _ = .ok (.aload_n 0, 1) by decide +kernel) ?_
      refine fw_iload_n (i := 3) 3 rfl (show decode _ _ = .ok (.iload_n 3, 1) by decide +kernel) ?_
      refine fw_iconst (v := (2 : Int32)) (show decode _ _ = .ok (.iconst 2, 1) by decide +kernel) (by decide) ?_
      refine fw_iadd (show decode _ _ = .ok (.iadd, 1) by decide +kernel) ?_
      obtain ⟨⟨n710, hs711, hi712⟩, h_253⟩ := h_252
      refine fw_iald (show decode _ _ = .ok (.iaload, 1) by decide +kernel) hs711 hi712 ?_
      refine fw_aload_n (i := 0) 0 rfl (show decode _ _ = .ok (.aload_n 0, 1) by decide +kernel) ?_
      refine fw_iload_n (i := 3) 3 rfl (show decode _ _ = .ok (.iload_n 3, 1) by decide +kernel) ?_
      refine fw_iconst (v := (3 : Int32)) (show decode _ _ = .ok (.iconst 3, 1) by decide +kernel) (by decide) ?_
      refine fw_iadd (show decode _ _ = .ok (.iadd, 1) by decide +kernel) ?_
      obtain ⟨⟨n713, hs714, hi715⟩, h_254⟩ := h_253
      refine fw_iald (show decode _ _ = .ok (.iaload, 1) by decide +kernel) hs714 hi715 ?_
      refine fw_aload_n (i := 0) 0 rfl (show decode _ _ = .ok (.aload_n 0, 1) by decide +kernel) ?_
      refine fw_iload_n (i := 3) 3 rfl (show decode _ _ = .ok (.iload_n 3, 1) by decide +kernel) ?_
      refine fw_iconst (v := (4 : Int32)) (show decode _ _ = .ok (.iconst 4, 1) by decide +kernel) (by decide) ?_
      refine fw_iadd (show decode _ _ = .ok (.iadd, 1) by decide +kernel) ?_
      obtain ⟨⟨n716, hs717, hi718⟩, h_255⟩ := h_254
      refine fw_iald (show decode _ _ = .ok (.iaload, 1) by decide +kernel) hs717 hi718 ?_
      refine fw_aload_n (i := 0) 0 rfl (show decode _ _ = .ok (.aload_n 0, 1) by decide +kernel) ?_
      refine fw_iload_n (i := 3) 3 rfl (show decode _ _ = .ok (.iload_n 3, 1) by decide +kernel) ?_
      refine fw_iconst (v := (5 : Int32)) (show decode _ _ = .ok (.iconst 5, 1) by decide +kernel) (by decide) ?_
      refine fw_iadd (show decode _ _ = .ok (.iadd, 1) by decide +kernel) ?_
      obtain ⟨⟨n719, hs720, hi721⟩, h_256⟩ := h_255
      refine fw_iald (show decode _ _ = .ok (.iaload, 1) by decide +kernel) hs720 hi721 ?_
      obtain ⟨⟨hr724, n723, hs725⟩, h_257⟩ := h_256
      refine fw_callV (mt' := mtX10_says) (mc := 0) (ms := 0) (As := [.int (mI M p0 (ix (p3 + (1 : Int32)))), .int (mI M p0 (ix (p3 + (2 : Int32)))), .int (mI M p0 (ix (p3 + (3 : Int32)))), .int (mI M p0 (ix (p3 + (4 : Int32)))), .int (mI M p0 (ix (p3 + (5 : Int32))))]) (rest := []) 5 10 n723 (show decode _ _ = .ok (.invokevirtual 106, 3) by decide +kernel) cv_L_106 ⟨_, rfl, rfl⟩ hr724 hs725 rfl (Nat.le_of_ble_eq_true rfl) (s_X10_says (d := d) (hd_le hd (by decide)) h_257) (by first | exact Nat.le_refl _ | exact Nat.le_add_right _ _ | exact Nat.zero_le _ | exact Nat.le_add_left _ _ | exact Nat.le_of_eq (Nat.add_sub_cancel).symm | decide) (by first | exact Nat.le_refl _ | exact Nat.le_add_right _ _ | exact Nat.zero_le _ | exact Nat.le_add_left _ _ | exact Nat.le_of_eq (Nat.add_sub_cancel).symm | decide) (kI (bc' := (Bc + 11)) (bs' := (Bs + 3005)) (by first | exact Nat.le_refl _ | exact Nat.le_add_right _ _ | exact Nat.zero_le _ | exact Nat.le_add_left _ _ | exact Nat.le_of_eq (Nat.add_sub_cancel).symm | decide) (by first | exact Nat.le_refl _ | exact Nat.le_add_right _ _ | exact Nat.zero_le _ | exact Nat.le_add_left _ _ | exact Nat.le_of_eq (Nat.add_sub_cancel).symm | decide) (fun x726 M722 h_258 => ?_))
      refine fw_aload_n (i := 2) 2 rfl (show decode _ _ = .ok (.aload_n 2, 1) by decide +kernel) ?_
      refine fw_aload_n (i := 0) 0 rfl (show decode _ _ = .ok (.aload_n 0, 1) by decide +kernel) ?_
      refine fw_iload_n (i := 3) 3 rfl (show decode _ _ = .ok (.iload_n 3, 1) by decide +kernel) ?_
      refine fw_iconst (v := (1 : Int32)) (show decode _ _ = .ok (.iconst 1, 1) by decide +kernel) (by decide) ?_
      refine fw_iadd (show decode _ _ = .ok (.iadd, 1) by decide +kernel) ?_
      obtain ⟨⟨n727, hs728, hi729⟩, h_259⟩ := h_258
      refine fw_iald (show decode _ _ = .ok (.iaload, 1) by decide +kernel) hs728 hi729 ?_
      refine fw_aload_n (i := 0) 0 rfl (show decode _ _ = .ok (.aload_n 0, 1) by decide +kernel) ?_
      refine fw_iload_n (i := 3) 3 rfl (show decode _ _ = .ok (.iload_n 3, 1) by decide +kernel) ?_
      refine fw_iconst (v := (2 : Int32)) (show decode _ _ = .ok (.iconst 2, 1) by decide +kernel) (by decide) ?_
      refine fw_iadd (show decode _ _ = .ok (.iadd, 1) by decide +kernel) ?_
      obtain ⟨⟨n730, hs731, hi732⟩, h_260⟩ := h_259
      refine fw_iald (show decode _ _ = .ok (.iaload, 1) by decide +kernel) hs731 hi732 ?_
      refine fw_aload_n (i := 0) 0 rfl (show decode _ _ = .ok (.aload_n 0, 1) by decide +kernel) ?_
      refine fw_iload_n (i := 3) 3 rfl (show decode _ _ = .ok (.iload_n 3, 1) by decide +kernel) ?_
      refine fw_iconst (v := (3 : Int32)) (show decode _ _ = .ok (.iconst 3, 1) by decide +kernel) (by decide) ?_
      refine fw_iadd (show decode _ _ = .ok (.iadd, 1) by decide +kernel) ?_
      obtain ⟨⟨n733, hs734, hi735⟩, h_261⟩ := h_260
      refine fw_iald (show decode _ _ = .ok (.iaload, 1) by decide +kernel) hs734 hi735 ?_
      refine fw_aload_n (i := 0) 0 rfl (show decode _ _ = .ok (.aload_n 0, 1) by decide +kernel) ?_
      refine fw_iload_n (i := 3) 3 rfl (show decode _ _ = .ok (.iload_n 3, 1) by decide +kernel) ?_
      refine fw_iconst (v := (4 : Int32)) (show decode _ _ = .ok (.iconst 4, 1) by decide +kernel) (by decide) ?_
      refine fw_iadd (show decode _ _ = .ok (.iadd, 1) by decide +kernel) ?_
      obtain ⟨⟨n736, hs737, hi738⟩, h_262⟩ := h_261
      refine fw_iald (show decode _ _ = .ok (.iaload, 1) by decide +kernel) hs737 hi738 ?_
      refine fw_aload_n (i := 0) 0 rfl (show decode _ _ = .ok (.aload_n 0, 1) by decide +kernel) ?_
      refine fw_iload_n (i := 3) 3 rfl (show decode _ _ = .ok (.iload_n 3, 1) by decide +kernel) ?_
      refine fw_iconst (v := (5 : Int32)) (show decode _ _ = .ok (.iconst 5, 1) by decide +kernel) (by decide) ?_
      refine fw_iadd (show decode _ _ = .ok (.iadd, 1) by decide +kernel) ?_
      obtain ⟨⟨n739, hs740, hi741⟩, h_263⟩ := h_262
      refine fw_iald (show decode _ _ = .ok (.iaload, 1) by decide +kernel) hs740 hi741 ?_
      obtain ⟨⟨hr744, n743, hs745⟩, h_264⟩ := h_263
      refine fw_callV (mt' := mtX11_says) (mc := 0) (ms := 0) (As := [.int (mI M722 p0 (ix (p3 + (1 : Int32)))), .int (mI M722 p0 (ix (p3 + (2 : Int32)))), .int (mI M722 p0 (ix (p3 + (3 : Int32)))), .int (mI M722 p0 (ix (p3 + (4 : Int32)))), .int (mI M722 p0 (ix (p3 + (5 : Int32))))]) (rest := [.int x726]) 5 11 n743 (show decode _ _ = .ok (.invokevirtual 109, 3) by decide +kernel) cv_L_109 ⟨_, rfl, rfl⟩ hr744 hs745 rfl (Nat.le_of_ble_eq_true rfl) (s_X11_says (d := d) (hd_le hd (by decide)) h_264) (by first | exact Nat.le_refl _ | exact Nat.le_add_right _ _ | exact Nat.zero_le _ | exact Nat.le_add_left _ _ | exact Nat.le_of_eq (Nat.add_sub_cancel).symm | decide) (by first | exact Nat.le_refl _ | exact Nat.le_add_right _ _ | exact Nat.zero_le _ | exact Nat.le_add_left _ _ | exact Nat.le_of_eq (Nat.add_sub_cancel).symm | decide) (kI (bc' := (Bc + 11)) (bs' := (Bs + 3005)) (by first | exact Nat.le_refl _ | exact Nat.le_add_right _ _ | exact Nat.zero_le _ | exact Nat.le_add_left _ _ | exact Nat.le_of_eq (Nat.add_sub_cancel).symm | decide) (by first | exact Nat.le_refl _ | exact Nat.le_add_right _ _ | exact Nat.zero_le _ | exact Nat.le_add_left _ _ | exact Nat.le_of_eq (Nat.add_sub_cancel).symm | decide) (fun x746 M742 h_265 => ?_))
      refine fw_icmp_eq 1833 (show decode _ _ = .ok (.if_icmp .eq 950, 3) by decide +kernel) (by decide) (fun hc749 => ?_) (fun hc749 => ?_)
      · have h_266 := ipos hc749 h_265
        obtain ⟨x747, ex748⟩ : ∃ y : Int32, y = p3 + (7 : Int32) := ⟨_, rfl⟩
        have h_267 := h_266 x747 ex748
        refine fw_iinc (i := 3) (x := p3) (v := x747) (ls' := [(3, .int x747), (0, .ref p0), (1, .ref p1), (2, .ref p2)]) 3 rfl (show decode _ _ = .ok (.iinc 3 7, 3) by decide +kernel) (by rw [ex748]; rfl) (by decide) rfl ?_
        refine fw_goto 18 (show decode _ _ = .ok (.goto (-1818), 3) by decide +kernel) (by decide) ?_
        refine FW.sub [1, 2, 3, 0] (ls' := [(0, .ref p0), (1, .ref p1), (2, .ref p2), (3, .int x747)]) rfl ?_
        refine FW.room (bc' := Bc) (bs' := Bs) (by first | exact Nat.le_refl _ | exact Nat.le_add_right _ _ | exact Nat.zero_le _ | exact Nat.le_add_left _ _ | exact Nat.le_of_eq (Nat.add_sub_cancel).symm | decide) (by first | exact Nat.le_refl _ | exact Nat.le_add_right _ _ | exact Nat.zero_le _ | exact Nat.le_add_left _ _ | exact Nat.le_of_eq (Nat.add_sub_cancel).symm | decide) ?_
        exact hK18 _ _ _ _ _ h_267
      · have h_268 := ineg hc749 h_265
        refine fw_iconst (v := (0 : Int32)) (show decode _ _ = .ok (.iconst 0, 1) by decide +kernel) (by decide) ?_
        exact fw_ret (v := some (.int (0 : Int32))) .ireturn (show decode _ _ = .ok (.ireturn, 1) by decide +kernel) ⟨rfl, Or.inr (Or.inl ⟨rfl, rfl⟩)⟩ ⟨_, rfl, h_268⟩
    have h_269 := ineg hc750 h_250
    by_cases hc776 : x240 = (22 : Int32)
    · have h_270 := ipos hc776 h_269
      refine fw_tin (off := 855) 888 (show decode _ _ = .ok (.tableswitch 1800 0 41 #[183, 216, 259, 318, 351, 394, 417, 480, 503, 516, 539, 562, 605, 618, 631, 644, 667, 690, 723, 736, 759, 792, 855, 888, 980, 1060, 1103, 1146, 1179, 1232, 1302, 1372, 1442, 1501, 1534, 1567, 1610, 1679, 1692, 1751, 1764, 1777], 183) by decide +kernel) (by rw [hc776]; decide) (by rw [hc776]; decide) (by rw [hc776]; rfl) (by decide) ?_
      refine fw_aload_n (i := 1) 1 rfl (show decode _ _ = .ok (.aload_n 1, 1) by decide +kernel) ?_
      refine fw_aload_n (i := 0) 0 rfl (show decode _ _ = .ok (.aload_n 0, 1) by decide +kernel) ?_
      refine fw_iload_n (i := 3) 3 rfl (show decode _ _ = .ok (.iload_n 3, 1) by decide +kernel) ?_
      refine fw_iconst (v := (1 : Int32)) (show decode _ _ = .ok (.iconst 1, 1) by decide +kernel) (by decide) ?_
      refine fw_iadd (show decode _ _ = .ok (.iadd, 1) by decide +kernel) ?_
      obtain ⟨⟨n751, hs752, hi753⟩, h_271⟩ := h_270
      refine fw_iald (show decode _ _ = .ok (.iaload, 1) by decide +kernel) hs752 hi753 ?_
      refine fw_aload_n (i := 0) 0 rfl (show decode _ _ = .ok (.aload_n 0, 1) by decide +kernel) ?_
      refine fw_iload_n (i := 3) 3 rfl (show decode _ _ = .ok (.iload_n 3, 1) by decide +kernel) ?_
      refine fw_iconst (v := (2 : Int32)) (show decode _ _ = .ok (.iconst 2, 1) by decide +kernel) (by decide) ?_
      refine fw_iadd (show decode _ _ = .ok (.iadd, 1) by decide +kernel) ?_
      obtain ⟨⟨n754, hs755, hi756⟩, h_272⟩ := h_271
      refine fw_iald (show decode _ _ = .ok (.iaload, 1) by decide +kernel) hs755 hi756 ?_
      obtain ⟨⟨hr759, n758, hs760⟩, h_273⟩ := h_272
      refine fw_callV (mt' := mtX10_book) (mc := 0) (ms := 0) (As := [.int (mI M p0 (ix (p3 + (1 : Int32)))), .int (mI M p0 (ix (p3 + (2 : Int32))))]) (rest := []) 2 10 n758 (show decode _ _ = .ok (.invokevirtual 110, 3) by decide +kernel) cv_L_110 ⟨_, rfl, rfl⟩ hr759 hs760 rfl (Nat.le_of_ble_eq_true rfl) (s_X10_book (d := d) (hd_le hd (by decide)) h_273) (by first | exact Nat.le_refl _ | exact Nat.le_add_right _ _ | exact Nat.zero_le _ | exact Nat.le_add_left _ _ | exact Nat.le_of_eq (Nat.add_sub_cancel).symm | decide) (by first | exact Nat.le_refl _ | exact Nat.le_add_right _ _ | exact Nat.zero_le _ | exact Nat.le_add_left _ _ | exact Nat.le_of_eq (Nat.add_sub_cancel).symm | decide) (kI (bc' := (Bc + 11)) (bs' := (Bs + 3005)) (by first | exact Nat.le_refl _ | exact Nat.le_add_right _ _ | exact Nat.zero_le _ | exact Nat.le_add_left _ _ | exact Nat.le_of_eq (Nat.add_sub_cancel).symm | decide) (by first | exact Nat.le_refl _ | exact Nat.le_add_right _ _ | exact Nat.zero_le _ | exact Nat.le_add_left _ _ | exact Nat.le_of_eq (Nat.add_sub_cancel).symm | decide) (fun x761 M757 h_274 => ?_))
      refine fw_aload_n (i := 2) 2 rfl (show decode _ _ = .ok (.aload_n 2, 1) by decide +kernel) ?_
      refine fw_aload_n (i := 0) 0 rfl (show decode _ _ = .ok (.aload_n 0, 1) by decide +kernel) ?_
      refine fw_iload_n (i := 3) 3 rfl (show decode _ _ = .ok (.iload_n 3, 1) by decide +kernel) ?_
      refine fw_iconst (v := (1 : Int32)) (show decode _ _ = .ok (.iconst 1, 1) by decide +kernel) (by decide) ?_
      refine fw_iadd (show decode _ _ = .ok (.iadd, 1) by decide +kernel) ?_
      obtain ⟨⟨n762, hs763, hi764⟩, h_275⟩ := h_274
      refine fw_iald (show decode _ _ = .ok (.iaload, 1) by decide +kernel) hs763 hi764 ?_
      refine fw_aload_n (i := 0) 0 rfl (show decode _ _ = .ok (.aload_n 0, 1) by decide +kernel) ?_
      refine fw_iload_n (i := 3) 3 rfl (show decode _ _ = .ok (.iload_n 3, 1) by decide +kernel) ?_
      refine fw_iconst (v := (2 : Int32)) (show decode _ _ = .ok (.iconst 2, 1) by decide +kernel) (by decide) ?_
      refine fw_iadd (show decode _ _ = .ok (.iadd, 1) by decide +kernel) ?_
      obtain ⟨⟨n765, hs766, hi767⟩, h_276⟩ := h_275
      refine fw_iald (show decode _ _ = .ok (.iaload, 1) by decide +kernel) hs766 hi767 ?_
      obtain ⟨⟨hr770, n769, hs771⟩, h_277⟩ := h_276
      refine fw_callV (mt' := mtX11_book) (mc := 0) (ms := 0) (As := [.int (mI M757 p0 (ix (p3 + (1 : Int32)))), .int (mI M757 p0 (ix (p3 + (2 : Int32))))]) (rest := [.int x761]) 2 11 n769 (show decode _ _ = .ok (.invokevirtual 113, 3) by decide +kernel) cv_L_113 ⟨_, rfl, rfl⟩ hr770 hs771 rfl (Nat.le_of_ble_eq_true rfl) (s_X11_book (d := d) (hd_le hd (by decide)) h_277) (by first | exact Nat.le_refl _ | exact Nat.le_add_right _ _ | exact Nat.zero_le _ | exact Nat.le_add_left _ _ | exact Nat.le_of_eq (Nat.add_sub_cancel).symm | decide) (by first | exact Nat.le_refl _ | exact Nat.le_add_right _ _ | exact Nat.zero_le _ | exact Nat.le_add_left _ _ | exact Nat.le_of_eq (Nat.add_sub_cancel).symm | decide) (kI (bc' := (Bc + 11)) (bs' := (Bs + 3005)) (by first | exact Nat.le_refl _ | exact Nat.le_add_right _ _ | exact Nat.zero_le _ | exact Nat.le_add_left _ _ | exact Nat.le_of_eq (Nat.add_sub_cancel).symm | decide) (by first | exact Nat.le_refl _ | exact Nat.le_add_right _ _ | exact Nat.zero_le _ | exact Nat.le_add_left _ _ | exact Nat.le_of_eq (Nat.add_sub_cancel).symm | decide) (fun x772 M768 h_278 => ?_))
      refine fw_icmp_eq 1833 (show decode _ _ = .ok (.if_icmp .eq 917, 3) by decide +kernel) (by decide) (fun hc775 => ?_) (fun hc775 => ?_)
      · have h_279 := ipos hc775 h_278
        obtain ⟨x773, ex774⟩ : ∃ y : Int32, y = p3 + (7 : Int32) := ⟨_, rfl⟩
        have h_280 := h_279 x773 ex774
        refine fw_iinc (i := 3) (x := p3) (v := x773) (ls' := [(3, .int x773), (0, .ref p0), (1, .ref p1), (2, .ref p2)]) 3 rfl (show decode _ _ = .ok (.iinc 3 7, 3) by decide +kernel) (by rw [ex774]; rfl) (by decide) rfl ?_
        refine fw_goto 18 (show decode _ _ = .ok (.goto (-1818), 3) by decide +kernel) (by decide) ?_
        refine FW.sub [1, 2, 3, 0] (ls' := [(0, .ref p0), (1, .ref p1), (2, .ref p2), (3, .int x773)]) rfl ?_
        refine FW.room (bc' := Bc) (bs' := Bs) (by first | exact Nat.le_refl _ | exact Nat.le_add_right _ _ | exact Nat.zero_le _ | exact Nat.le_add_left _ _ | exact Nat.le_of_eq (Nat.add_sub_cancel).symm | decide) (by first | exact Nat.le_refl _ | exact Nat.le_add_right _ _ | exact Nat.zero_le _ | exact Nat.le_add_left _ _ | exact Nat.le_of_eq (Nat.add_sub_cancel).symm | decide) ?_
        exact hK18 _ _ _ _ _ h_280
      · have h_281 := ineg hc775 h_278
        refine fw_iconst (v := (0 : Int32)) (show decode _ _ = .ok (.iconst 0, 1) by decide +kernel) (by decide) ?_
        exact fw_ret (v := some (.int (0 : Int32))) .ireturn (show decode _ _ = .ok (.ireturn, 1) by decide +kernel) ⟨rfl, Or.inr (Or.inl ⟨rfl, rfl⟩)⟩ ⟨_, rfl, h_281⟩
    have h_282 := ineg hc776 h_269
    by_cases hc796 : x240 = (23 : Int32)
    · have h_283 := ipos hc796 h_282
      refine fw_tin (off := 888) 921 (show decode _ _ = .ok (.tableswitch 1800 0 41 #[183, 216, 259, 318, 351, 394, 417, 480, 503, 516, 539, 562, 605, 618, 631, 644, 667, 690, 723, 736, 759, 792, 855, 888, 980, 1060, 1103, 1146, 1179, 1232, 1302, 1372, 1442, 1501, 1534, 1567, 1610, 1679, 1692, 1751, 1764, 1777], 183) by decide +kernel) (by rw [hc796]; decide) (by rw [hc796]; decide) (by rw [hc796]; rfl) (by decide) ?_
      refine fw_aload_n (i := 1) 1 rfl (show decode _ _ = .ok (.aload_n 1, 1) by decide +kernel) ?_
      refine fw_aload_n (i := 0) 0 rfl (show decode _ _ = .ok (.aload_n 0, 1) by decide +kernel) ?_
      refine fw_iload_n (i := 3) 3 rfl (show decode _ _ = .ok (.iload_n 3, 1) by decide +kernel) ?_
      refine fw_iconst (v := (1 : Int32)) (show decode _ _ = .ok (.iconst 1, 1) by decide +kernel) (by decide) ?_
      refine fw_iadd (show decode _ _ = .ok (.iadd, 1) by decide +kernel) ?_
      obtain ⟨⟨n777, hs778, hi779⟩, h_284⟩ := h_283
      refine fw_iald (show decode _ _ = .ok (.iaload, 1) by decide +kernel) hs778 hi779 ?_
      refine fw_aload_n (i := 0) 0 rfl (show decode _ _ = .ok (.aload_n 0, 1) by decide +kernel) ?_
      refine fw_iload_n (i := 3) 3 rfl (show decode _ _ = .ok (.iload_n 3, 1) by decide +kernel) ?_
      refine fw_iconst (v := (2 : Int32)) (show decode _ _ = .ok (.iconst 2, 1) by decide +kernel) (by decide) ?_
      refine fw_iadd (show decode _ _ = .ok (.iadd, 1) by decide +kernel) ?_
      obtain ⟨⟨n780, hs781, hi782⟩, h_285⟩ := h_284
      refine fw_iald (show decode _ _ = .ok (.iaload, 1) by decide +kernel) hs781 hi782 ?_
      refine fw_aload_n (i := 0) 0 rfl (show decode _ _ = .ok (.aload_n 0, 1) by decide +kernel) ?_
      refine fw_iload_n (i := 3) 3 rfl (show decode _ _ = .ok (.iload_n 3, 1) by decide +kernel) ?_
      refine fw_iconst (v := (3 : Int32)) (show decode _ _ = .ok (.iconst 3, 1) by decide +kernel) (by decide) ?_
      refine fw_iadd (show decode _ _ = .ok (.iadd, 1) by decide +kernel) ?_
      obtain ⟨⟨n783, hs784, hi785⟩, h_286⟩ := h_285
      refine fw_iald (show decode _ _ = .ok (.iaload, 1) by decide +kernel) hs784 hi785 ?_
      refine fw_aload_n (i := 0) 0 rfl (show decode _ _ = .ok (.aload_n 0, 1) by decide +kernel) ?_
      refine fw_iload_n (i := 3) 3 rfl (show decode _ _ = .ok (.iload_n 3, 1) by decide +kernel) ?_
      refine fw_iconst (v := (4 : Int32)) (show decode _ _ = .ok (.iconst 4, 1) by decide +kernel) (by decide) ?_
      refine fw_iadd (show decode _ _ = .ok (.iadd, 1) by decide +kernel) ?_
      obtain ⟨⟨n786, hs787, hi788⟩, h_287⟩ := h_286
      refine fw_iald (show decode _ _ = .ok (.iaload, 1) by decide +kernel) hs787 hi788 ?_
      refine fw_aload_n (i := 0) 0 rfl (show decode _ _ = .ok (.aload_n 0, 1) by decide +kernel) ?_
      refine fw_iload_n (i := 3) 3 rfl (show decode _ _ = .ok (.iload_n 3, 1) by decide +kernel) ?_
      refine fw_iconst (v := (5 : Int32)) (show decode _ _ = .ok (.iconst 5, 1) by decide +kernel) (by decide) ?_
      refine fw_iadd (show decode _ _ = .ok (.iadd, 1) by decide +kernel) ?_
      obtain ⟨⟨n789, hs790, hi791⟩, h_288⟩ := h_287
      refine fw_iald (show decode _ _ = .ok (.iaload, 1) by decide +kernel) hs790 hi791 ?_
      refine fw_aload_n (i := 0) 0 rfl (show decode _ _ = .ok (.aload_n 0, 1) by decide +kernel) ?_
      refine fw_iload_n (i := 3) 3 rfl (show decode _ _ = .ok (.iload_n 3, 1) by decide +kernel) ?_
      refine fw_bipush (v := (6 : Int32)) (show decode _ _ = .ok (.bipush 6, 2) by decide +kernel) (by decide) ?_
      refine fw_iadd (show decode _ _ = .ok (.iadd, 1) by decide +kernel) ?_
      obtain ⟨⟨n792, hs793, hi794⟩, h_289⟩ := h_288
      refine fw_iald (show decode _ _ = .ok (.iaload, 1) by decide +kernel) hs793 hi794 ?_
      refine fw_if_eq 960 (show decode _ _ = .ok (.ifCond .eq 7, 3) by decide +kernel) (by decide) (fun hc795 => ?_) (fun hc795 => ?_)
      · have h_290 := ipos hc795 h_289
        refine fw_iconst (v := (0 : Int32)) (show decode _ _ = .ok (.iconst 0, 1) by decide +kernel) (by decide) ?_
        refine FW.sub [0, 1, 2, 3] (ls' := [(0, .ref p0), (1, .ref p1), (2, .ref p2), (3, .int p3)]) rfl ?_
        refine FW.room (bc' := Bc) (bs' := Bs) (by first | exact Nat.le_refl _ | exact Nat.le_add_right _ _ | exact Nat.zero_le _ | exact Nat.le_add_left _ _ | exact Nat.le_of_eq (Nat.add_sub_cancel).symm | decide) (by first | exact Nat.le_refl _ | exact Nat.le_add_right _ _ | exact Nat.zero_le _ | exact Nat.le_add_left _ _ | exact Nat.le_of_eq (Nat.add_sub_cancel).symm | decide) ?_
        exact sj_L_law_961 hd hK18 h_290
      · have h_291 := ineg hc795 h_289
        refine fw_iconst (v := (1 : Int32)) (show decode _ _ = .ok (.iconst 1, 1) by decide +kernel) (by decide) ?_
        refine fw_goto 961 (show decode _ _ = .ok (.goto 4, 3) by decide +kernel) (by decide) ?_
        refine FW.sub [0, 1, 2, 3] (ls' := [(0, .ref p0), (1, .ref p1), (2, .ref p2), (3, .int p3)]) rfl ?_
        refine FW.room (bc' := Bc) (bs' := Bs) (by first | exact Nat.le_refl _ | exact Nat.le_add_right _ _ | exact Nat.zero_le _ | exact Nat.le_add_left _ _ | exact Nat.le_of_eq (Nat.add_sub_cancel).symm | decide) (by first | exact Nat.le_refl _ | exact Nat.le_add_right _ _ | exact Nat.zero_le _ | exact Nat.le_add_left _ _ | exact Nat.le_of_eq (Nat.add_sub_cancel).symm | decide) ?_
        exact sj_L_law_961 hd hK18 h_291
    have h_292 := ineg hc796 h_282
    by_cases hc813 : x240 = (24 : Int32)
    · have h_293 := ipos hc813 h_292
      refine fw_tin (off := 980) 1013 (show decode _ _ = .ok (.tableswitch 1800 0 41 #[183, 216, 259, 318, 351, 394, 417, 480, 503, 516, 539, 562, 605, 618, 631, 644, 667, 690, 723, 736, 759, 792, 855, 888, 980, 1060, 1103, 1146, 1179, 1232, 1302, 1372, 1442, 1501, 1534, 1567, 1610, 1679, 1692, 1751, 1764, 1777], 183) by decide +kernel) (by rw [hc813]; decide) (by rw [hc813]; decide) (by rw [hc813]; rfl) (by decide) ?_
      refine fw_aload_n (i := 1) 1 rfl (show decode _ _ = .ok (.aload_n 1, 1) by decide +kernel) ?_
      refine fw_aload_n (i := 0) 0 rfl (show decode _ _ = .ok (.aload_n 0, 1) by decide +kernel) ?_
      refine fw_iload_n (i := 3) 3 rfl (show decode _ _ = .ok (.iload_n 3, 1) by decide +kernel) ?_
      refine fw_iconst (v := (1 : Int32)) (show decode _ _ = .ok (.iconst 1, 1) by decide +kernel) (by decide) ?_
      refine fw_iadd (show decode _ _ = .ok (.iadd, 1) by decide +kernel) ?_
      obtain ⟨⟨n797, hs798, hi799⟩, h_294⟩ := h_293
      refine fw_iald (show decode _ _ = .ok (.iaload, 1) by decide +kernel) hs798 hi799 ?_
      refine fw_aload_n (i := 0) 0 rfl (show decode _ _ = .ok (.aload_n 0, 1) by decide +kernel) ?_
      refine fw_iload_n (i := 3) 3 rfl (show decode _ _ = .ok (.iload_n 3, 1) by decide +kernel) ?_
      refine fw_iconst (v := (2 : Int32)) (show decode _ _ = .ok (.iconst 2, 1) by decide +kernel) (by decide) ?_
      refine fw_iadd (show decode _ _ = .ok (.iadd, 1) by decide +kernel) ?_
      obtain ⟨⟨n800, hs801, hi802⟩, h_295⟩ := h_294
      refine fw_iald (show decode _ _ = .ok (.iaload, 1) by decide +kernel) hs801 hi802 ?_
      refine fw_aload_n (i := 0) 0 rfl (show decode _ _ = .ok (.aload_n 0, 1) by decide +kernel) ?_
      refine fw_iload_n (i := 3) 3 rfl (show decode _ _ = .ok (.iload_n 3, 1) by decide +kernel) ?_
      refine fw_iconst (v := (3 : Int32)) (show decode _ _ = .ok (.iconst 3, 1) by decide +kernel) (by decide) ?_
      refine fw_iadd (show decode _ _ = .ok (.iadd, 1) by decide +kernel) ?_
      obtain ⟨⟨n803, hs804, hi805⟩, h_296⟩ := h_295
      refine fw_iald (show decode _ _ = .ok (.iaload, 1) by decide +kernel) hs804 hi805 ?_
      refine fw_aload_n (i := 0) 0 rfl (show decode _ _ = .ok (.aload_n 0, 1) by decide +kernel) ?_
      refine fw_iload_n (i := 3) 3 rfl (show decode _ _ = .ok (.iload_n 3, 1) by decide +kernel) ?_
      refine fw_iconst (v := (4 : Int32)) (show decode _ _ = .ok (.iconst 4, 1) by decide +kernel) (by decide) ?_
      refine fw_iadd (show decode _ _ = .ok (.iadd, 1) by decide +kernel) ?_
      obtain ⟨⟨n806, hs807, hi808⟩, h_297⟩ := h_296
      refine fw_iald (show decode _ _ = .ok (.iaload, 1) by decide +kernel) hs807 hi808 ?_
      refine fw_aload_n (i := 0) 0 rfl (show decode _ _ = .ok (.aload_n 0, 1) by decide +kernel) ?_
      refine fw_iload_n (i := 3) 3 rfl (show decode _ _ = .ok (.iload_n 3, 1) by decide +kernel) ?_
      refine fw_iconst (v := (5 : Int32)) (show decode _ _ = .ok (.iconst 5, 1) by decide +kernel) (by decide) ?_
      refine fw_iadd (show decode _ _ = .ok (.iadd, 1) by decide +kernel) ?_
      obtain ⟨⟨n809, hs810, hi811⟩, h_298⟩ := h_297
      refine fw_iald (show decode _ _ = .ok (.iaload, 1) by decide +kernel) hs810 hi811 ?_
      refine fw_if_eq 1046 (show decode _ _ = .ok (.ifCond .eq 7, 3) by decide +kernel) (by decide) (fun hc812 => ?_) (fun hc812 => ?_)
      · have h_299 := ipos hc812 h_298
        refine fw_iconst (v := (0 : Int32)) (show decode _ _ = .ok (.iconst 0, 1) by decide +kernel) (by decide) ?_
        refine FW.sub [0, 1, 2, 3] (ls' := [(0, .ref p0), (1, .ref p1), (2, .ref p2), (3, .int p3)]) rfl ?_
        refine FW.room (bc' := Bc) (bs' := Bs) (by first | exact Nat.le_refl _ | exact Nat.le_add_right _ _ | exact Nat.zero_le _ | exact Nat.le_add_left _ _ | exact Nat.le_of_eq (Nat.add_sub_cancel).symm | decide) (by first | exact Nat.le_refl _ | exact Nat.le_add_right _ _ | exact Nat.zero_le _ | exact Nat.le_add_left _ _ | exact Nat.le_of_eq (Nat.add_sub_cancel).symm | decide) ?_
        exact sj_L_law_1047 hd hK18 h_299
      · have h_300 := ineg hc812 h_298
        refine fw_iconst (v := (1 : Int32)) (show decode _ _ = .ok (.iconst 1, 1) by decide +kernel) (by decide) ?_
        refine fw_goto 1047 (show decode _ _ = .ok (.goto 4, 3) by decide +kernel) (by decide) ?_
        refine FW.sub [0, 1, 2, 3] (ls' := [(0, .ref p0), (1, .ref p1), (2, .ref p2), (3, .int p3)]) rfl ?_
        refine FW.room (bc' := Bc) (bs' := Bs) (by first | exact Nat.le_refl _ | exact Nat.le_add_right _ _ | exact Nat.zero_le _ | exact Nat.le_add_left _ _ | exact Nat.le_of_eq (Nat.add_sub_cancel).symm | decide) (by first | exact Nat.le_refl _ | exact Nat.le_add_right _ _ | exact Nat.zero_le _ | exact Nat.le_add_left _ _ | exact Nat.le_of_eq (Nat.add_sub_cancel).symm | decide) ?_
        exact sj_L_law_1047 hd hK18 h_300
    have h_301 := ineg hc813 h_292
    by_cases hc845 : x240 = (25 : Int32)
    · have h_302 := ipos hc845 h_301
      refine fw_tin (off := 1060) 1093 (show decode _ _ = .ok (.tableswitch 1800 0 41 #[183, 216, 259, 318, 351, 394, 417, 480, 503, 516, 539, 562, 605, 618, 631, 644, 667, 690, 723, 736, 759, 792, 855, 888, 980, 1060, 1103, 1146, 1179, 1232, 1302, 1372, 1442, 1501, 1534, 1567, 1610, 1679, 1692, 1751, 1764, 1777], 183) by decide +kernel) (by rw [hc845]; decide) (by rw [hc845]; decide) (by rw [hc845]; rfl) (by decide) ?_
      refine fw_aload_n (i := 1) 1 rfl (show decode _ _ = .ok (.aload_n 1, 1) by decide +kernel) ?_
      refine fw_aload_n (i := 0) 0 rfl (show decode _ _ = .ok (.aload_n 0, 1) by decide +kernel) ?_
      refine fw_iload_n (i := 3) 3 rfl (show decode _ _ = .ok (.iload_n 3, 1) by decide +kernel) ?_
      refine fw_iconst (v := (1 : Int32)) (show decode _ _ = .ok (.iconst 1, 1) by decide +kernel) (by decide) ?_
      refine fw_iadd (show decode _ _ = .ok (.iadd, 1) by decide +kernel) ?_
      obtain ⟨⟨n814, hs815, hi816⟩, h_303⟩ := h_302
      refine fw_iald (show decode _ _ = .ok (.iaload, 1) by decide +kernel) hs815 hi816 ?_
      refine fw_aload_n (i := 0) 0 rfl (show decode _ _ = .ok (.aload_n 0, 1) by decide +kernel) ?_
      refine fw_iload_n (i := 3) 3 rfl (show decode _ _ = .ok (.iload_n 3, 1) by decide +kernel) ?_
      refine fw_iconst (v := (2 : Int32)) (show decode _ _ = .ok (.iconst 2, 1) by decide +kernel) (by decide) ?_
      refine fw_iadd (show decode _ _ = .ok (.iadd, 1) by decide +kernel) ?_
      obtain ⟨⟨n817, hs818, hi819⟩, h_304⟩ := h_303
      refine fw_iald (show decode _ _ = .ok (.iaload, 1) by decide +kernel) hs818 hi819 ?_
      refine fw_aload_n (i := 0) 0 rfl (show decode _ _ = .ok (.aload_n 0, 1) by decide +kernel) ?_
      refine fw_iload_n (i := 3) 3 rfl (show decode _ _ = .ok (.iload_n 3, 1) by decide +kernel) ?_
      refine fw_iconst (v := (3 : Int32)) (show decode _ _ = .ok (.iconst 3, 1) by decide +kernel) (by decide) ?_
      refine fw_iadd (show decode _ _ = .ok (.iadd, 1) by decide +kernel) ?_
      obtain ⟨⟨n820, hs821, hi822⟩, h_305⟩ := h_304
      refine fw_iald (show decode _ _ = .ok (.iaload, 1) by decide +kernel) hs821 hi822 ?_
      obtain ⟨⟨hr825, n824, hs826⟩, h_306⟩ := h_305
      refine fw_callV (mt' := mtX10_from) (mc := 0) (ms := 0) (As := [.int (mI M p0 (ix (p3 + (1 : Int32)))), .int (mI M p0 (ix (p3 + (2 : Int32)))), .int (mI M p0 (ix (p3 + (3 : Int32))))]) (rest := []) 3 10 n824 (show decode _ _ = .ok (.invokevirtual 124, 3) by decide +kernel) cv_L_124 ⟨_, rfl, rfl⟩ hr825 hs826 rfl (Nat.le_of_ble_eq_true rfl) (s_X10_from (d := d) (hd_le hd (by decide)) h_306) (by first | exact Nat.le_refl _ | exact Nat.le_add_right _ _ | exact Nat.zero_le _ | exact Nat.le_add_left _ _ | exact Nat.le_of_eq (Nat.add_sub_cancel).symm | decide) (by first | exact Nat.le_refl _ | exact Nat.le_add_right _ _ | exact Nat.zero_le _ | exact Nat.le_add_left _ _ | exact Nat.le_of_eq (Nat.add_sub_cancel).symm | decide) (kI (bc' := (Bc + 11)) (bs' := (Bs + 3005)) (by first | exact Nat.le_refl _ | exact Nat.le_add_right _ _ | exact Nat.zero_le _ | exact Nat.le_add_left _ _ | exact Nat.le_of_eq (Nat.add_sub_cancel).symm | decide) (by first | exact Nat.le_refl _ | exact Nat.le_add_right _ _ | exact Nat.zero_le _ | exact Nat.le_add_left _ _ | exact Nat.le_of_eq (Nat.add_sub_cancel).symm | decide) (fun x827 M823 h_307 => ?_))
      refine fw_aload_n (i := 2) 2 rfl (show decode _ _ = .ok (.aload_n 2, 1) by decide +kernel) ?_
      refine fw_aload_n (i := 0) 0 rfl (show decode _ _ = .ok (.aload_n 0, 1) by decide +kernel) ?_
      refine fw_iload_n (i := 3) 3 rfl (show decode _ _ = .ok (.iload_n 3, 1) by decide +kernel) ?_
      refine fw_iconst (v := (1 : Int32)) (show decode _ _ = .ok (.iconst 1, 1) by decide +kernel) (by decide) ?_
      refine fw_iadd (show decode _ _ = .ok (.iadd, 1) by decide +kernel) ?_
      obtain ⟨⟨n828, hs829, hi830⟩, h_308⟩ := h_307
      refine fw_iald (show decode _ _ = .ok (.iaload, 1) by decide +kernel) hs829 hi830 ?_
      refine fw_aload_n (i := 0) 0 rfl (show decode _ _ = .ok (.aload_n 0, 1) by decide +kernel) ?_
      refine fw_iload_n (i := 3) 3 rfl (show decode _ _ = .ok (.iload_n 3, 1) by decide +kernel) ?_
      refine fw_iconst (v := (2 : Int32)) (show decode _ _ = .ok (.iconst 2, 1) by decide +kernel) (by decide) ?_
      refine fw_iadd (show decode _ _ = .ok (.iadd, 1) by decide +kernel) ?_
      obtain ⟨⟨n831, hs832, hi833⟩, h_309⟩ := h_308
      refine fw_iald (show decode _ _ = .ok (.iaload, 1) by decide +kernel) hs832 hi833 ?_
      refine fw_aload_n (i := 0) 0 rfl (show decode _ _ = .ok (.aload_n 0, 1) by decide +kernel) ?_
      refine fw_iload_n (i := 3) 3 rfl (show decode _ _ = .ok (.iload_n 3, 1) by decide +kernel) ?_
      refine fw_iconst (v := (3 : Int32)) (show decode _ _ = .ok (.iconst 3, 1) by decide +kernel) (by decide) ?_
      refine fw_iadd (show decode _ _ = .ok (.iadd, 1) by decide +kernel) ?_
      obtain ⟨⟨n834, hs835, hi836⟩, h_310⟩ := h_309
      refine fw_iald (show decode _ _ = .ok (.iaload, 1) by decide +kernel) hs835 hi836 ?_
      obtain ⟨⟨hr839, n838, hs840⟩, h_311⟩ := h_310
      refine fw_callV (mt' := mtX11_from) (mc := 0) (ms := 0) (As := [.int (mI M823 p0 (ix (p3 + (1 : Int32)))), .int (mI M823 p0 (ix (p3 + (2 : Int32)))), .int (mI M823 p0 (ix (p3 + (3 : Int32))))]) (rest := [.int x827]) 3 11 n838 (show decode _ _ = .ok (.invokevirtual 127, 3) by decide +kernel) cv_L_127 ⟨_, rfl, rfl⟩ hr839 hs840 rfl (Nat.le_of_ble_eq_true rfl) (s_X11_from (d := d) (hd_le hd (by decide)) h_311) (by first | exact Nat.le_refl _ | exact Nat.le_add_right _ _ | exact Nat.zero_le _ | exact Nat.le_add_left _ _ | exact Nat.le_of_eq (Nat.add_sub_cancel).symm | decide) (by first | exact Nat.le_refl _ | exact Nat.le_add_right _ _ | exact Nat.zero_le _ | exact Nat.le_add_left _ _ | exact Nat.le_of_eq (Nat.add_sub_cancel).symm | decide) (kI (bc' := (Bc + 11)) (bs' := (Bs + 3005)) (by first | exact Nat.le_refl _ | exact Nat.le_add_right _ _ | exact Nat.zero_le _ | exact Nat.le_add_left _ _ | exact Nat.le_of_eq (Nat.add_sub_cancel).symm | decide) (by first | exact Nat.le_refl _ | exact Nat.le_add_right _ _ | exact Nat.zero_le _ | exact Nat.le_add_left _ _ | exact Nat.le_of_eq (Nat.add_sub_cancel).symm | decide) (fun x841 M837 h_312 => ?_))
      refine fw_icmp_eq 1833 (show decode _ _ = .ok (.if_icmp .eq 702, 3) by decide +kernel) (by decide) (fun hc844 => ?_) (fun hc844 => ?_)
      · have h_313 := ipos hc844 h_312
        obtain ⟨x842, ex843⟩ : ∃ y : Int32, y = p3 + (7 : Int32) := ⟨_, rfl⟩
        have h_314 := h_313 x842 ex843
        refine fw_iinc (i := 3) (x := p3) (v := x842) (ls' := [(3, .int x842), (0, .ref p0), (1, .ref p1), (2, .ref p2)]) 3 rfl (show decode _ _ = .ok (.iinc 3 7, 3) by decide +kernel) (by rw [ex843]; rfl) (by decide) rfl ?_
        refine fw_goto 18 (show decode _ _ = .ok (.goto (-1818), 3) by decide +kernel) (by decide) ?_
        refine FW.sub [1, 2, 3, 0] (ls' := [(0, .ref p0), (1, .ref p1), (2, .ref p2), (3, .int x842)]) rfl ?_
        refine FW.room (bc' := Bc) (bs' := Bs) (by first | exact Nat.le_refl _ | exact Nat.le_add_right _ _ | exact Nat.zero_le _ | exact Nat.le_add_left _ _ | exact Nat.le_of_eq (Nat.add_sub_cancel).symm | decide) (by first | exact Nat.le_refl _ | exact Nat.le_add_right _ _ | exact Nat.zero_le _ | exact Nat.le_add_left _ _ | exact Nat.le_of_eq (Nat.add_sub_cancel).symm | decide) ?_
        exact hK18 _ _ _ _ _ h_314
      · have h_315 := ineg hc844 h_312
        refine fw_iconst (v := (0 : Int32)) (show decode _ _ = .ok (.iconst 0, 1) by decide +kernel) (by decide) ?_
        exact fw_ret (v := some (.int (0 : Int32))) .ireturn (show decode _ _ = .ok (.ireturn, 1) by decide +kernel) ⟨rfl, Or.inr (Or.inl ⟨rfl, rfl⟩)⟩ ⟨_, rfl, h_315⟩
    have h_316 := ineg hc845 h_301
    by_cases hc877 : x240 = (26 : Int32)
    · have h_317 := ipos hc877 h_316
      refine fw_tin (off := 1103) 1136 (show decode _ _ = .ok (.tableswitch 1800 0 41 #[183, 216, 259, 318, 351, 394, 417, 480, 503, 516, 539, 562, 605, 618, 631, 644, 667, 690, 723, 736, 759, 792, 855, 888, 980, 1060, 1103, 1146, 1179, 1232, 1302, 1372, 1442, 1501, 1534, 1567, 1610, 1679, 1692, 1751, 1764, 1777], 183) by decide +kernel) (by rw [hc877]; decide) (by rw [hc877]; decide) (by rw [hc877]; rfl) (by decide) ?_
      refine fw_aload_n (i := 1) 1 rfl (show decode _ _ = .ok (.aload_n 1, 1) by decide +kernel) ?_
      refine fw_aload_n (i := 0) 0 rfl (show decode _ _ = .ok (.aload_n 0, 1) by decide +kernel) ?_
      refine fw_iload_n (i := 3) 3 rfl (show decode _ _ = .ok (.iload_n 3, 1) by decide +kernel) ?_
      refine fw_iconst (v := (1 : Int32)) (show decode _ _ = .ok (.iconst 1, 1) by decide +kernel) (by decide) ?_
      refine fw_iadd (show decode _ _ = .ok (.iadd, 1) by decide +kernel) ?_
      obtain ⟨⟨n846, hs847, hi848⟩, h_318⟩ := h_317
      refine fw_iald (show decode _ _ = .ok (.iaload, 1) by decide +kernel) hs847 hi848 ?_
      refine fw_aload_n (i := 0) 0 rfl (show decode _ _ = .ok (.aload_n 0, 1) by decide +kernel) ?_
      refine fw_iload_n (i := 3) 3 rfl (show decode _ _ = .ok (.iload_n 3, 1) by decide +kernel) ?_
      refine fw_iconst (v := (2 : Int32)) (show decode _ _ = .ok (.iconst 2, 1) by decide +kernel) (by decide) ?_
      refine fw_iadd (show decode _ _ = .ok (.iadd, 1) by decide +kernel) ?_
      obtain ⟨⟨n849, hs850, hi851⟩, h_319⟩ := h_318
      refine fw_iald (show decode _ _ = .ok (.iaload, 1) by decide +kernel) hs850 hi851 ?_
      refine fw_aload_n (i := 0) 0 rfl (show decode _ _ = .ok (.aload_n 0, 1) by decide +kernel) ?_
      refine fw_iload_n (i := 3) 3 rfl (show decode _ _ = .ok (.iload_n 3, 1) by decide +kernel) ?_
      refine fw_iconst (v := (3 : Int32)) (show decode _ _ = .ok (.iconst 3, 1) by decide +kernel) (by decide) ?_
      refine fw_iadd (show decode _ _ = .ok (.iadd, 1) by decide +kernel) ?_
      obtain ⟨⟨n852, hs853, hi854⟩, h_320⟩ := h_319
      refine fw_iald (show decode _ _ = .ok (.iaload, 1) by decide +kernel) hs853 hi854 ?_
      obtain ⟨⟨hr857, n856, hs858⟩, h_321⟩ := h_320
      refine fw_callV (mt' := mtX10_worth) (mc := 0) (ms := 0) (As := [.int (mI M p0 (ix (p3 + (1 : Int32)))), .int (mI M p0 (ix (p3 + (2 : Int32)))), .int (mI M p0 (ix (p3 + (3 : Int32))))]) (rest := []) 3 10 n856 (show decode _ _ = .ok (.invokevirtual 128, 3) by decide +kernel) cv_L_128 ⟨_, rfl, rfl⟩ hr857 hs858 rfl (Nat.le_of_ble_eq_true rfl) (s_X10_worth (d := d) (hd_le hd (by decide)) h_321) (by first | exact Nat.le_refl _ | exact Nat.le_add_right _ _ | exact Nat.zero_le _ | exact Nat.le_add_left _ _ | exact Nat.le_of_eq (Nat.add_sub_cancel).symm | decide) (by first | exact Nat.le_refl _ | exact Nat.le_add_right _ _ | exact Nat.zero_le _ | exact Nat.le_add_left _ _ | exact Nat.le_of_eq (Nat.add_sub_cancel).symm | decide) (kI (bc' := (Bc + 11)) (bs' := (Bs + 3005)) (by first | exact Nat.le_refl _ | exact Nat.le_add_right _ _ | exact Nat.zero_le _ | exact Nat.le_add_left _ _ | exact Nat.le_of_eq (Nat.add_sub_cancel).symm | decide) (by first | exact Nat.le_refl _ | exact Nat.le_add_right _ _ | exact Nat.zero_le _ | exact Nat.le_add_left _ _ | exact Nat.le_of_eq (Nat.add_sub_cancel).symm | decide) (fun x859 M855 h_322 => ?_))
      refine fw_aload_n (i := 2) 2 rfl (show decode _ _ = .ok (.aload_n 2, 1) by decide +kernel) ?_
      refine fw_aload_n (i := 0) 0 rfl (show decode _ _ = .ok (.aload_n 0, 1) by decide +kernel) ?_
      refine fw_iload_n (i := 3) 3 rfl (show decode _ _ = .ok (.iload_n 3, 1) by decide +kernel) ?_
      refine fw_iconst (v := (1 : Int32)) (show decode _ _ = .ok (.iconst 1, 1) by decide +kernel) (by decide) ?_
      refine fw_iadd (show decode _ _ = .ok (.iadd, 1) by decide +kernel) ?_
      obtain ⟨⟨n860, hs861, hi862⟩, h_323⟩ := h_322
      refine fw_iald (show decode _ _ = .ok (.iaload, 1) by decide +kernel) hs861 hi862 ?_
      refine fw_aload_n (i := 0) 0 rfl (show decode _ _ = .ok (.aload_n 0, 1) by decide +kernel) ?_
      refine fw_iload_n (i := 3) 3 rfl (show decode _ _ = .ok (.iload_n 3, 1) by decide +kernel) ?_
      refine fw_iconst (v := (2 : Int32)) (show decode _ _ = .ok (.iconst 2, 1) by decide +kernel) (by decide) ?_
      refine fw_iadd (show decode _ _ = .ok (.iadd, 1) by decide +kernel) ?_
      obtain ⟨⟨n863, hs864, hi865⟩, h_324⟩ := h_323
      refine fw_iald (show decode _ _ = .ok (.iaload, 1) by decide +kernel) hs864 hi865 ?_
      refine fw_aload_n (i := 0) 0 rfl (show decode _ _ = .ok (.aload_n 0, 1) by decide +kernel) ?_
      refine fw_iload_n (i := 3) 3 rfl (show decode _ _ = .ok (.iload_n 3, 1) by decide +kernel) ?_
      refine fw_iconst (v := (3 : Int32)) (show decode _ _ = .ok (.iconst 3, 1) by decide +kernel) (by decide) ?_
      refine fw_iadd (show decode _ _ = .ok (.iadd, 1) by decide +kernel) ?_
      obtain ⟨⟨n866, hs867, hi868⟩, h_325⟩ := h_324
      refine fw_iald (show decode _ _ = .ok (.iaload, 1) by decide +kernel) hs867 hi868 ?_
      obtain ⟨⟨hr871, n870, hs872⟩, h_326⟩ := h_325
      refine fw_callV (mt' := mtX11_worth) (mc := 0) (ms := 0) (As := [.int (mI M855 p0 (ix (p3 + (1 : Int32)))), .int (mI M855 p0 (ix (p3 + (2 : Int32)))), .int (mI M855 p0 (ix (p3 + (3 : Int32))))]) (rest := [.int x859]) 3 11 n870 (show decode _ _ = .ok (.invokevirtual 131, 3) by decide +kernel) cv_L_131 ⟨_, rfl, rfl⟩ hr871 hs872 rfl (Nat.le_of_ble_eq_true rfl) (s_X11_worth (d := d) (hd_le hd (by decide)) h_326) (by first | exact Nat.le_refl _ | exact Nat.le_add_right _ _ | exact Nat.zero_le _ | exact Nat.le_add_left _ _ | exact Nat.le_of_eq (Nat.add_sub_cancel).symm | decide) (by first | exact Nat.le_refl _ | exact Nat.le_add_right _ _ | exact Nat.zero_le _ | exact Nat.le_add_left _ _ | exact Nat.le_of_eq (Nat.add_sub_cancel).symm | decide) (kI (bc' := (Bc + 11)) (bs' := (Bs + 3005)) (by first | exact Nat.le_refl _ | exact Nat.le_add_right _ _ | exact Nat.zero_le _ | exact Nat.le_add_left _ _ | exact Nat.le_of_eq (Nat.add_sub_cancel).symm | decide) (by first | exact Nat.le_refl _ | exact Nat.le_add_right _ _ | exact Nat.zero_le _ | exact Nat.le_add_left _ _ | exact Nat.le_of_eq (Nat.add_sub_cancel).symm | decide) (fun x873 M869 h_327 => ?_))
      refine fw_icmp_eq 1833 (show decode _ _ = .ok (.if_icmp .eq 659, 3) by decide +kernel) (by decide) (fun hc876 => ?_) (fun hc876 => ?_)
      · have h_328 := ipos hc876 h_327
        obtain ⟨x874, ex875⟩ : ∃ y : Int32, y = p3 + (7 : Int32) := ⟨_, rfl⟩
        have h_329 := h_328 x874 ex875
        refine fw_iinc (i := 3) (x := p3) (v := x874) (ls' := [(3, .int x874), (0, .ref p0), (1, .ref p1), (2, .ref p2)]) 3 rfl (show decode _ _ = .ok (.iinc 3 7, 3) by decide +kernel) (by rw [ex875]; rfl) (by decide) rfl ?_
        refine fw_goto 18 (show decode _ _ = .ok (.goto (-1818), 3) by decide +kernel) (by decide) ?_
        refine FW.sub [1, 2, 3, 0] (ls' := [(0, .ref p0), (1, .ref p1), (2, .ref p2), (3, .int x874)]) rfl ?_
        refine FW.room (bc' := Bc) (bs' := Bs) (by first | exact Nat.le_refl _ | exact Nat.le_add_right _ _ | exact Nat.zero_le _ | exact Nat.le_add_left _ _ | exact Nat.le_of_eq (Nat.add_sub_cancel).symm | decide) (by first | exact Nat.le_refl _ | exact Nat.le_add_right _ _ | exact Nat.zero_le _ | exact Nat.le_add_left _ _ | exact Nat.le_of_eq (Nat.add_sub_cancel).symm | decide) ?_
        exact hK18 _ _ _ _ _ h_329
      · have h_330 := ineg hc876 h_327
        refine fw_iconst (v := (0 : Int32)) (show decode _ _ = .ok (.iconst 0, 1) by decide +kernel) (by decide) ?_
        exact fw_ret (v := some (.int (0 : Int32))) .ireturn (show decode _ _ = .ok (.ireturn, 1) by decide +kernel) ⟨rfl, Or.inr (Or.inl ⟨rfl, rfl⟩)⟩ ⟨_, rfl, h_330⟩
    have h_331 := ineg hc877 h_316
    by_cases hc903 : x240 = (27 : Int32)
    · have h_332 := ipos hc903 h_331
      refine fw_tin (off := 1146) 1179 (show decode _ _ = .ok (.tableswitch 1800 0 41 #[183, 216, 259, 318, 351, 394, 417, 480, 503, 516, 539, 562, 605, 618, 631, 644, 667, 690, 723, 736, 759, 792, 855, 888, 980, 1060, 1103, 1146, 1179, 1232, 1302, 1372, 1442, 1501, 1534, 1567, 1610, 1679, 1692, 1751, 1764, 1777], 183) by decide +kernel) (by rw [hc903]; decide) (by rw [hc903]; decide) (by rw [hc903]; rfl) (by decide) ?_
      refine fw_aload_n (i := 1) 1 rfl (show decode _ _ = .ok (.aload_n 1, 1) by decide +kernel) ?_
      refine fw_aload_n (i := 0) 0 rfl (show decode _ _ = .ok (.aload_n 0, 1) by decide +kernel) ?_
      refine fw_iload_n (i := 3) 3 rfl (show decode _ _ = .ok (.iload_n 3, 1) by decide +kernel) ?_
      refine fw_iconst (v := (1 : Int32)) (show decode _ _ = .ok (.iconst 1, 1) by decide +kernel) (by decide) ?_
      refine fw_iadd (show decode _ _ = .ok (.iadd, 1) by decide +kernel) ?_
      obtain ⟨⟨n878, hs879, hi880⟩, h_333⟩ := h_332
      refine fw_iald (show decode _ _ = .ok (.iaload, 1) by decide +kernel) hs879 hi880 ?_
      refine fw_aload_n (i := 0) 0 rfl (show decode _ _ = .ok (.aload_n 0, 1) by decide +kernel) ?_
      refine fw_iload_n (i := 3) 3 rfl (show decode _ _ = .ok (.iload_n 3, 1) by decide +kernel) ?_
      refine fw_iconst (v := (2 : Int32)) (show decode _ _ = .ok (.iconst 2, 1) by decide +kernel) (by decide) ?_
      refine fw_iadd (show decode _ _ = .ok (.iadd, 1) by decide +kernel) ?_
      obtain ⟨⟨n881, hs882, hi883⟩, h_334⟩ := h_333
      refine fw_iald (show decode _ _ = .ok (.iaload, 1) by decide +kernel) hs882 hi883 ?_
      obtain ⟨⟨hr886, n885, hs887⟩, h_335⟩ := h_334
      refine fw_callV (mt' := mtX10_goes) (mc := 0) (ms := 0) (As := [.int (mI M p0 (ix (p3 + (1 : Int32)))), .int (mI M p0 (ix (p3 + (2 : Int32))))]) (rest := []) 2 10 n885 (show decode _ _ = .ok (.invokevirtual 132, 3) by decide +kernel) cv_L_132 ⟨_, rfl, rfl⟩ hr886 hs887 rfl (Nat.le_of_ble_eq_true rfl) (s_X10_goes (d := d) (hd_le hd (by decide)) h_335) (by first | exact Nat.le_refl _ | exact Nat.le_add_right _ _ | exact Nat.zero_le _ | exact Nat.le_add_left _ _ | exact Nat.le_of_eq (Nat.add_sub_cancel).symm | decide) (by first | exact Nat.le_refl _ | exact Nat.le_add_right _ _ | exact Nat.zero_le _ | exact Nat.le_add_left _ _ | exact Nat.le_of_eq (Nat.add_sub_cancel).symm | decide) (kI (bc' := (Bc + 11)) (bs' := (Bs + 3005)) (by first | exact Nat.le_refl _ | exact Nat.le_add_right _ _ | exact Nat.zero_le _ | exact Nat.le_add_left _ _ | exact Nat.le_of_eq (Nat.add_sub_cancel).symm | decide) (by first | exact Nat.le_refl _ | exact Nat.le_add_right _ _ | exact Nat.zero_le _ | exact Nat.le_add_left _ _ | exact Nat.le_of_eq (Nat.add_sub_cancel).symm | decide) (fun x888 M884 h_336 => ?_))
      refine fw_aload_n (i := 2) 2 rfl (show decode _ _ = .ok (.aload_n 2, 1) by decide +kernel) ?_
      refine fw_aload_n (i := 0) 0 rfl (show decode _ _ = .ok (.aload_n 0, 1) by decide +kernel) ?_
      refine fw_iload_n (i := 3) 3 rfl (show decode _ _ = .ok (.iload_n 3, 1) by decide +kernel) ?_
      refine fw_iconst (v := (1 : Int32)) (show decode _ _ = .ok (.iconst 1, 1) by decide +kernel) (by decide) ?_
      refine fw_iadd (show decode _ _ = .ok (.iadd, 1) by decide +kernel) ?_
      obtain ⟨⟨n889, hs890, hi891⟩, h_337⟩ := h_336
      refine fw_iald (show decode _ _ = .ok (.iaload, 1) by decide +kernel) hs890 hi891 ?_
      refine fw_aload_n (i := 0) 0 rfl (show decode _ _ = .ok (.aload_n 0, 1) by decide +kernel) ?_
      refine fw_iload_n (i := 3) 3 rfl (show decode _ _ = .ok (.iload_n 3, 1) by decide +kernel) ?_
      refine fw_iconst (v := (2 : Int32)) (show decode _ _ = .ok (.iconst 2, 1) by decide +kernel) (by decide) ?_
      refine fw_iadd (show decode _ _ = .ok (.iadd, 1) by decide +kernel) ?_
      obtain ⟨⟨n892, hs893, hi894⟩, h_338⟩ := h_337
      refine fw_iald (show decode _ _ = .ok (.iaload, 1) by decide +kernel) hs893 hi894 ?_
      obtain ⟨⟨hr897, n896, hs898⟩, h_339⟩ := h_338
      refine fw_callV (mt' := mtX11_goes) (mc := 0) (ms := 0) (As := [.int (mI M884 p0 (ix (p3 + (1 : Int32)))), .int (mI M884 p0 (ix (p3 + (2 : Int32))))]) (rest := [.int x888]) 2 11 n896 (show decode _ _ = .ok (.invokevirtual 135, 3) by decide +kernel) cv_L_135 ⟨_, rfl, rfl⟩ hr897 hs898 rfl (Nat.le_of_ble_eq_true rfl) (s_X11_goes (d := d) (hd_le hd (by decide)) h_339) (by first | exact Nat.le_refl _ | exact Nat.le_add_right _ _ | exact Nat.zero_le _ | exact Nat.le_add_left _ _ | exact Nat.le_of_eq (Nat.add_sub_cancel).symm | decide) (by first | exact Nat.le_refl _ | exact Nat.le_add_right _ _ | exact Nat.zero_le _ | exact Nat.le_add_left _ _ | exact Nat.le_of_eq (Nat.add_sub_cancel).symm | decide) (kI (bc' := (Bc + 11)) (bs' := (Bs + 3005)) (by first | exact Nat.le_refl _ | exact Nat.le_add_right _ _ | exact Nat.zero_le _ | exact Nat.le_add_left _ _ | exact Nat.le_of_eq (Nat.add_sub_cancel).symm | decide) (by first | exact Nat.le_refl _ | exact Nat.le_add_right _ _ | exact Nat.zero_le _ | exact Nat.le_add_left _ _ | exact Nat.le_of_eq (Nat.add_sub_cancel).symm | decide) (fun x899 M895 h_340 => ?_))
      refine fw_icmp_eq 1833 (show decode _ _ = .ok (.if_icmp .eq 626, 3) by decide +kernel) (by decide) (fun hc902 => ?_) (fun hc902 => ?_)
      · have h_341 := ipos hc902 h_340
        obtain ⟨x900, ex901⟩ : ∃ y : Int32, y = p3 + (7 : Int32) := ⟨_, rfl⟩
        have h_342 := h_341 x900 ex901
        refine fw_iinc (i := 3) (x := p3) (v := x900) (ls' := [(3, .int x900), (0, .ref p0), (1, .ref p1), (2, .ref p2)]) 3 rfl (show decode _ _ = .ok (.iinc 3 7, 3) by decide +kernel) (by rw [ex901]; rfl) (by decide) rfl ?_
        refine fw_goto 18 (show decode _ _ = .ok (.goto (-1818), 3) by decide +kernel) (by decide) ?_
        refine FW.sub [1, 2, 3, 0] (ls' := [(0, .ref p0), (1, .ref p1), (2, .ref p2), (3, .int x900)]) rfl ?_
        refine FW.room (bc' := Bc) (bs' := Bs) (by first | exact Nat.le_refl _ | exact Nat.le_add_right _ _ | exact Nat.zero_le _ | exact Nat.le_add_left _ _ | exact Nat.le_of_eq (Nat.add_sub_cancel).symm | decide) (by first | exact Nat.le_refl _ | exact Nat.le_add_right _ _ | exact Nat.zero_le _ | exact Nat.le_add_left _ _ | exact Nat.le_of_eq (Nat.add_sub_cancel).symm | decide) ?_
        exact hK18 _ _ _ _ _ h_342
      · have h_343 := ineg hc902 h_340
        refine fw_iconst (v := (0 : Int32)) (show decode _ _ = .ok (.iconst 0, 1) by decide +kernel) (by decide) ?_
        exact fw_ret (v := some (.int (0 : Int32))) .ireturn (show decode _ _ = .ok (.ireturn, 1) by decide +kernel) ⟨rfl, Or.inr (Or.inl ⟨rfl, rfl⟩)⟩ ⟨_, rfl, h_343⟩
    have h_344 := ineg hc903 h_331
    by_cases hc941 : x240 = (28 : Int32)
    · have h_345 := ipos hc941 h_344
      refine fw_tin (off := 1179) 1212 (show decode _ _ = .ok (.tableswitch 1800 0 41 #[183, 216, 259, 318, 351, 394, 417, 480, 503, 516, 539, 562, 605, 618, 631, 644, 667, 690, 723, 736, 759, 792, 855, 888, 980, 1060, 1103, 1146, 1179, 1232, 1302, 1372, 1442, 1501, 1534, 1567, 1610, 1679, 1692, 1751, 1764, 1777], 183) by decide +kernel) (by rw [hc941]; decide) (by rw [hc941]; decide) (by rw [hc941]; rfl) (by decide) ?_
      refine fw_aload_n (i := 1) 1 rfl (show decode _ _ = .ok (.aload_n 1, 1) by decide +kernel) ?_
      refine fw_aload_n (i := 0) 0 rfl (show decode _ _ = .ok (.aload_n 0, 1) by decide +kernel) ?_
      refine fw_iload_n (i := 3) 3 rfl (show decode _ _ = .ok (.iload_n 3, 1) by decide +kernel) ?_
      refine fw_iconst (v := (1 : Int32)) (show decode _ _ = .ok (.iconst 1, 1) by decide +kernel) (by decide) ?_
      refine fw_iadd (show decode _ _ = .ok (.iadd, 1) by decide +kernel) ?_
      obtain ⟨⟨n904, hs905, hi906⟩, h_346⟩ := h_345
      refine fw_iald (show decode _ _ = .ok (.iaload, 1) by decide +kernel) hs905 hi906 ?_
      refine fw_aload_n (i := 0) 0 rfl (show decode _ _ = .ok (.aload_n 0, 1) by decide +kernel) ?_
      refine fw_iload_n (i := 3) 3 rfl (show decode _ _ = .ok (.iload_n 3, 1) by decide +kernel) ?_
      refine fw_iconst (v := (2 : Int32)) (show decode _ _ = .ok (.iconst 2, 1) by decide +kernel) (by decide) ?_
      refine fw_iadd (show decode _ _ = .ok (.iadd, 1) by decide +kernel) ?_
      obtain ⟨⟨n907, hs908, hi909⟩, h_347⟩ := h_346
      refine fw_iald (show decode _ _ = .ok (.iaload, 1) by decide +kernel) hs908 hi909 ?_
      refine fw_aload_n (i := 0) 0 rfl (show decode _ _ = .ok (.aload_n 0, 1) by decide +kernel) ?_
      refine fw_iload_n (i := 3) 3 rfl (show decode _ _ = .ok (.iload_n 3, 1) by decide +kernel) ?_
      refine fw_iconst (v := (3 : Int32)) (show decode _ _ = .ok (.iconst 3, 1) by decide +kernel) (by decide) ?_
      refine fw_iadd (show decode _ _ = .ok (.iadd, 1) by decide +kernel) ?_
      obtain ⟨⟨n910, hs911, hi912⟩, h_348⟩ := h_347
      refine fw_iald (show decode _ _ = .ok (.iaload, 1) by decide +kernel) hs911 hi912 ?_
      refine fw_aload_n (i := 0) 0 rfl (show decode _ _ = .ok (.aload_n 0, 1) by decide +kernel) ?_
      refine fw_iload_n (i := 3) 3 rfl (show decode _ _ = .ok (.iload_n 3, 1) by decide +kernel) ?_
      refine fw_iconst (v := (4 : Int32)) (show decode _ _ = .ok (.iconst 4, 1) by decide +kernel) (by decide) ?_
      refine fw_iadd (show decode _ _ = .ok (.iadd, 1) by decide +kernel) ?_
      obtain ⟨⟨n913, hs914, hi915⟩, h_349⟩ := h_348
      refine fw_iald (show decode _ _ = .ok (.iaload, 1) by decide +kernel) hs914 hi915 ?_
      obtain ⟨⟨hr918, n917, hs919⟩, h_350⟩ := h_349
      refine fw_callV (mt' := mtX10_lamp) (mc := 0) (ms := 0) (As := [.int (mI M p0 (ix (p3 + (1 : Int32)))), .int (mI M p0 (ix (p3 + (2 : Int32)))), .int (mI M p0 (ix (p3 + (3 : Int32)))), .int (mI M p0 (ix (p3 + (4 : Int32))))]) (rest := []) 4 10 n917 (show decode _ _ = .ok (.invokevirtual 136, 3) by decide +kernel) cv_L_136 ⟨_, rfl, rfl⟩ hr918 hs919 rfl (Nat.le_of_ble_eq_true rfl) (s_X10_lamp (d := d) (hd_le hd (by decide)) h_350) (by first | exact Nat.le_refl _ | exact Nat.le_add_right _ _ | exact Nat.zero_le _ | exact Nat.le_add_left _ _ | exact Nat.le_of_eq (Nat.add_sub_cancel).symm | decide) (by first | exact Nat.le_refl _ | exact Nat.le_add_right _ _ | exact Nat.zero_le _ | exact Nat.le_add_left _ _ | exact Nat.le_of_eq (Nat.add_sub_cancel).symm | decide) (kI (bc' := (Bc + 11)) (bs' := (Bs + 3005)) (by first | exact Nat.le_refl _ | exact Nat.le_add_right _ _ | exact Nat.zero_le _ | exact Nat.le_add_left _ _ | exact Nat.le_of_eq (Nat.add_sub_cancel).symm | decide) (by first | exact Nat.le_refl _ | exact Nat.le_add_right _ _ | exact Nat.zero_le _ | exact Nat.le_add_left _ _ | exact Nat.le_of_eq (Nat.add_sub_cancel).symm | decide) (fun x920 M916 h_351 => ?_))
      refine fw_aload_n (i := 2) 2 rfl (show decode _ _ = .ok (.aload_n 2, 1) by decide +kernel) ?_
      refine fw_aload_n (i := 0) 0 rfl (show decode _ _ = .ok (.aload_n 0, 1) by decide +kernel) ?_
      refine fw_iload_n (i := 3) 3 rfl (show decode _ _ = .ok (.iload_n 3, 1) by decide +kernel) ?_
      refine fw_iconst (v := (1 : Int32)) (show decode _ _ = .ok (.iconst 1, 1) by decide +kernel) (by decide) ?_
      refine fw_iadd (show decode _ _ = .ok (.iadd, 1) by decide +kernel) ?_
      obtain ⟨⟨n921, hs922, hi923⟩, h_352⟩ := h_351
      refine fw_iald (show decode _ _ = .ok (.iaload, 1) by decide +kernel) hs922 hi923 ?_
      refine fw_aload_n (i := 0) 0 rfl (show decode _ _ = .ok (.aload_n 0, 1) by decide +kernel) ?_
      refine fw_iload_n (i := 3) 3 rfl (show decode _ _ = .ok (.iload_n 3, 1) by decide +kernel) ?_
      refine fw_iconst (v := (2 : Int32)) (show decode _ _ = .ok (.iconst 2, 1) by decide +kernel) (by decide) ?_
      refine fw_iadd (show decode _ _ = .ok (.iadd, 1) by decide +kernel) ?_
      obtain ⟨⟨n924, hs925, hi926⟩, h_353⟩ := h_352
      refine fw_iald (show decode _ _ = .ok (.iaload, 1) by decide +kernel) hs925 hi926 ?_
      refine fw_aload_n (i := 0) 0 rfl (show decode _ _ = .ok (.aload_n 0, 1) by decide +kernel) ?_
      refine fw_iload_n (i := 3) 3 rfl (show decode _ _ = .ok (.iload_n 3, 1) by decide +kernel) ?_
      refine fw_iconst (v := (3 : Int32)) (show decode _ _ = .ok (.iconst 3, 1) by decide +kernel) (by decide) ?_
      refine fw_iadd (show decode _ _ = .ok (.iadd, 1) by decide +kernel) ?_
      obtain ⟨⟨n927, hs928, hi929⟩, h_354⟩ := h_353
      refine fw_iald (show decode _ _ = .ok (.iaload, 1) by decide +kernel) hs928 hi929 ?_
      refine fw_aload_n (i := 0) 0 rfl (show decode _ _ = .ok (.aload_n 0, 1) by decide +kernel) ?_
      refine fw_iload_n (i := 3) 3 rfl (show decode _ _ = .ok (.iload_n 3, 1) by decide +kernel) ?_
      refine fw_iconst (v := (4 : Int32)) (show decode _ _ = .ok (.iconst 4, 1) by decide +kernel) (by decide) ?_
      refine fw_iadd (show decode _ _ = .ok (.iadd, 1) by decide +kernel) ?_
      obtain ⟨⟨n930, hs931, hi932⟩, h_355⟩ := h_354
      refine fw_iald (show decode _ _ = .ok (.iaload, 1) by decide +kernel) hs931 hi932 ?_
      obtain ⟨⟨hr935, n934, hs936⟩, h_356⟩ := h_355
      refine fw_callV (mt' := mtX11_lamp) (mc := 0) (ms := 0) (As := [.int (mI M916 p0 (ix (p3 + (1 : Int32)))), .int (mI M916 p0 (ix (p3 + (2 : Int32)))), .int (mI M916 p0 (ix (p3 + (3 : Int32)))), .int (mI M916 p0 (ix (p3 + (4 : Int32))))]) (rest := [.int x920]) 4 11 n934 (show decode _ _ = .ok (.invokevirtual 140, 3) by decide +kernel) cv_L_140 ⟨_, rfl, rfl⟩ hr935 hs936 rfl (Nat.le_of_ble_eq_true rfl) (s_X11_lamp (d := d) (hd_le hd (by decide)) h_356) (by first | exact Nat.le_refl _ | exact Nat.le_add_right _ _ | exact Nat.zero_le _ | exact Nat.le_add_left _ _ | exact Nat.le_of_eq (Nat.add_sub_cancel).symm | decide) (by first | exact Nat.le_refl _ | exact Nat.le_add_right _ _ | exact Nat.zero_le _ | exact Nat.le_add_left _ _ | exact Nat.le_of_eq (Nat.add_sub_cancel).symm | decide) (kI (bc' := (Bc + 11)) (bs' := (Bs + 3005)) (by first | exact Nat.le_refl _ | exact Nat.le_add_right _ _ | exact Nat.zero_le _ | exact Nat.le_add_left _ _ | exact Nat.le_of_eq (Nat.add_sub_cancel).symm | decide) (by first | exact Nat.le_refl _ | exact Nat.le_add_right _ _ | exact Nat.zero_le _ | exact Nat.le_add_left _ _ | exact Nat.le_of_eq (Nat.add_sub_cancel).symm | decide) (fun x937 M933 h_357 => ?_))
      refine fw_icmp_eq 1833 (show decode _ _ = .ok (.if_icmp .eq 573, 3) by decide +kernel) (by decide) (fun hc940 => ?_) (fun hc940 => ?_)
      · have h_358 := ipos hc940 h_357
        obtain ⟨x938, ex939⟩ : ∃ y : Int32, y = p3 + (7 : Int32) := ⟨_, rfl⟩
        have h_359 := h_358 x938 ex939
        refine fw_iinc (i := 3) (x := p3) (v := x938) (ls' := [(3, .int x938), (0, .ref p0), (1, .ref p1), (2, .ref p2)]) 3 rfl (show decode _ _ = .ok (.iinc 3 7, 3) by decide +kernel) (by rw [ex939]; rfl) (by decide) rfl ?_
        refine fw_goto 18 (show decode _ _ = .ok (.goto (-1818), 3) by decide +kernel) (by decide) ?_
        refine FW.sub [1, 2, 3, 0] (ls' := [(0, .ref p0), (1, .ref p1), (2, .ref p2), (3, .int x938)]) rfl ?_
        refine FW.room (bc' := Bc) (bs' := Bs) (by first | exact Nat.le_refl _ | exact Nat.le_add_right _ _ | exact Nat.zero_le _ | exact Nat.le_add_left _ _ | exact Nat.le_of_eq (Nat.add_sub_cancel).symm | decide) (by first | exact Nat.le_refl _ | exact Nat.le_add_right _ _ | exact Nat.zero_le _ | exact Nat.le_add_left _ _ | exact Nat.le_of_eq (Nat.add_sub_cancel).symm | decide) ?_
        exact hK18 _ _ _ _ _ h_359
      · have h_360 := ineg hc940 h_357
        refine fw_iconst (v := (0 : Int32)) (show decode _ _ = .ok (.iconst 0, 1) by decide +kernel) (by decide) ?_
        exact fw_ret (v := some (.int (0 : Int32))) .ireturn (show decode _ _ = .ok (.ireturn, 1) by decide +kernel) ⟨rfl, Or.inr (Or.inl ⟨rfl, rfl⟩)⟩ ⟨_, rfl, h_360⟩
    have h_361 := ineg hc941 h_344
    by_cases hc955 : x240 = (29 : Int32)
    · have h_362 := ipos hc955 h_361
      refine fw_tin (off := 1232) 1265 (show decode _ _ = .ok (.tableswitch 1800 0 41 #[183, 216, 259, 318, 351, 394, 417, 480, 503, 516, 539, 562, 605, 618, 631, 644, 667, 690, 723, 736, 759, 792, 855, 888, 980, 1060, 1103, 1146, 1179, 1232, 1302, 1372, 1442, 1501, 1534, 1567, 1610, 1679, 1692, 1751, 1764, 1777], 183) by decide +kernel) (by rw [hc955]; decide) (by rw [hc955]; decide) (by rw [hc955]; rfl) (by decide) ?_
      refine fw_aload_n (i := 1) 1 rfl (show decode _ _ = .ok (.aload_n 1, 1) by decide +kernel) ?_
      refine fw_aload_n (i := 0) 0 rfl (show decode _ _ = .ok (.aload_n 0, 1) by decide +kernel) ?_
      refine fw_iload_n (i := 3) 3 rfl (show decode _ _ = .ok (.iload_n 3, 1) by decide +kernel) ?_
      refine fw_iconst (v := (1 : Int32)) (show decode _ _ = .ok (.iconst 1, 1) by decide +kernel) (by decide) ?_
      refine fw_iadd (show decode _ _ = .ok (.iadd, 1) by decide +kernel) ?_
      obtain ⟨⟨n942, hs943, hi944⟩, h_363⟩ := h_362
      refine fw_iald (show decode _ _ = .ok (.iaload, 1) by decide +kernel) hs943 hi944 ?_
      refine fw_aload_n (i := 0) 0 rfl (show decode _ _ = .ok (.aload_n 0, 1) by decide +kernel) ?_
      refine fw_iload_n (i := 3) 3 rfl (show decode _ _ = .ok (.iload_n 3, 1) by decide +kernel) ?_
      refine fw_iconst (v := (2 : Int32)) (show decode _ _ = .ok (.iconst 2, 1) by decide +kernel) (by decide) ?_
      refine fw_iadd (show decode _ _ = .ok (.iadd, 1) by decide +kernel) ?_
      obtain ⟨⟨n945, hs946, hi947⟩, h_364⟩ := h_363
      refine fw_iald (show decode _ _ = .ok (.iaload, 1) by decide +kernel) hs946 hi947 ?_
      refine fw_aload_n (i := 0) 0 rfl (show decode _ _ = .ok (.aload_n 0, 1) by decide +kernel) ?_
      refine fw_iload_n (i := 3) 3 rfl (show decode _ _ = .ok (.iload_n 3, 1) by decide +kernel) ?_
      refine fw_iconst (v := (3 : Int32)) (show decode _ _ = .ok (.iconst 3, 1) by decide +kernel) (by decide) ?_
      refine fw_iadd (show decode _ _ = .ok (.iadd, 1) by decide +kernel) ?_
      obtain ⟨⟨n948, hs949, hi950⟩, h_365⟩ := h_364
      refine fw_iald (show decode _ _ = .ok (.iaload, 1) by decide +kernel) hs949 hi950 ?_
      refine fw_aload_n (i := 0) 0 rfl (show decode _ _ = .ok (.aload_n 0, 1) by decide +kernel) ?_
      refine fw_iload_n (i := 3) 3 rfl (show decode _ _ = .ok (.iload_n 3, 1) by decide +kernel) ?_
      refine fw_iconst (v := (4 : Int32)) (show decode _ _ = .ok (.iconst 4, 1) by decide +kernel) (by decide) ?_
      refine fw_iadd (show decode _ _ = .ok (.iadd, 1) by decide +kernel) ?_
      obtain ⟨⟨n951, hs952, hi953⟩, h_366⟩ := h_365
      refine fw_iald (show decode _ _ = .ok (.iaload, 1) by decide +kernel) hs952 hi953 ?_
      refine fw_if_eq 1293 (show decode _ _ = .ok (.ifCond .eq 7, 3) by decide +kernel) (by decide) (fun hc954 => ?_) (fun hc954 => ?_)
      · have h_367 := ipos hc954 h_366
        refine fw_iconst (v := (0 : Int32)) (show decode _ _ = .ok (.iconst 0, 1) by decide +kernel) (by decide) ?_
        refine FW.sub [0, 1, 2, 3] (ls' := [(0, .ref p0), (1, .ref p1), (2, .ref p2), (3, .int p3)]) rfl ?_
        refine FW.room (bc' := Bc) (bs' := Bs) (by first | exact Nat.le_refl _ | exact Nat.le_add_right _ _ | exact Nat.zero_le _ | exact Nat.le_add_left _ _ | exact Nat.le_of_eq (Nat.add_sub_cancel).symm | decide) (by first | exact Nat.le_refl _ | exact Nat.le_add_right _ _ | exact Nat.zero_le _ | exact Nat.le_add_left _ _ | exact Nat.le_of_eq (Nat.add_sub_cancel).symm | decide) ?_
        exact sj_L_law_1294 hd hK18 h_367
      · have h_368 := ineg hc954 h_366
        refine fw_iconst (v := (1 : Int32)) (show decode _ _ = .ok (.iconst 1, 1) by decide +kernel) (by decide) ?_
        refine fw_goto 1294 (show decode _ _ = .ok (.goto 4, 3) by decide +kernel) (by decide) ?_
        refine FW.sub [0, 1, 2, 3] (ls' := [(0, .ref p0), (1, .ref p1), (2, .ref p2), (3, .int p3)]) rfl ?_
        refine FW.room (bc' := Bc) (bs' := Bs) (by first | exact Nat.le_refl _ | exact Nat.le_add_right _ _ | exact Nat.zero_le _ | exact Nat.le_add_left _ _ | exact Nat.le_of_eq (Nat.add_sub_cancel).symm | decide) (by first | exact Nat.le_refl _ | exact Nat.le_add_right _ _ | exact Nat.zero_le _ | exact Nat.le_add_left _ _ | exact Nat.le_of_eq (Nat.add_sub_cancel).symm | decide) ?_
        exact sj_L_law_1294 hd hK18 h_368
    have h_369 := ineg hc955 h_361
    by_cases hc969 : x240 = (30 : Int32)
    · have h_370 := ipos hc969 h_369
      refine fw_tin (off := 1302) 1335 (show decode _ _ = .ok (.tableswitch 1800 0 41 #[183, 216, 259, 318, 351, 394, 417, 480, 503, 516, 539, 562, 605, 618, 631, 644, 667, 690, 723, 736, 759, 792, 855, 888, 980, 1060, 1103, 1146, 1179, 1232, 1302, 1372, 1442, 1501, 1534, 1567, 1610, 1679, 1692, 1751, 1764, 1777], 183) by decide +kernel) (by rw [hc969]; decide) (by rw [hc969]; decide) (by rw [hc969]; rfl) (by decide) ?_
      refine fw_aload_n (i := 1) 1 rfl (show decode _ _ = .ok (.aload_n 1, 1) by decide +kernel) ?_
      refine fw_aload_n (i := 0) 0 rfl (show decode _ _ = .ok (.aload_n 0, 1) by decide +kernel) ?_
      refine fw_iload_n (i := 3) 3 rfl (show decode _ _ = .ok (.iload_n 3, 1) by decide +kernel) ?_
      refine fw_iconst (v := (1 : Int32)) (show decode _ _ = .ok (.iconst 1, 1) by decide +kernel) (by decide) ?_
      refine fw_iadd (show decode _ _ = .ok (.iadd, 1) by decide +kernel) ?_
      obtain ⟨⟨n956, hs957, hi958⟩, h_371⟩ := h_370
      refine fw_iald (show decode _ _ = .ok (.iaload, 1) by decide +kernel) hs957 hi958 ?_
      refine fw_aload_n (i := 0) 0 rfl (show decode _ _ = .ok (.aload_n 0, 1) by decide +kernel) ?_
      refine fw_iload_n (i := 3) 3 rfl (show decode _ _ = .ok (.iload_n 3, 1) by decide +kernel) ?_
      refine fw_iconst (v := (2 : Int32)) (show decode _ _ = .ok (.iconst 2, 1) by decide +kernel) (by decide) ?_
      refine fw_iadd (show decode _ _ = .ok (.iadd, 1) by decide +kernel) ?_
      obtain ⟨⟨n959, hs960, hi961⟩, h_372⟩ := h_371
      refine fw_iald (show decode _ _ = .ok (.iaload, 1) by decide +kernel) hs960 hi961 ?_
      refine fw_aload_n (i := 0) 0 rfl (show decode _ _ = .ok (.aload_n 0, 1) by decide +kernel) ?_
      refine fw_iload_n (i := 3) 3 rfl (show decode _ _ = .ok (.iload_n 3, 1) by decide +kernel) ?_
      refine fw_iconst (v := (3 : Int32)) (show decode _ _ = .ok (.iconst 3, 1) by decide +kernel) (by decide) ?_
      refine fw_iadd (show decode _ _ = .ok (.iadd, 1) by decide +kernel) ?_
      obtain ⟨⟨n962, hs963, hi964⟩, h_373⟩ := h_372
      refine fw_iald (show decode _ _ = .ok (.iaload, 1) by decide +kernel) hs963 hi964 ?_
      refine fw_aload_n (i := 0) 0 rfl (show decode _ _ = .ok (.aload_n 0, 1) by decide +kernel) ?_
      refine fw_iload_n (i := 3) 3 rfl (show decode _ _ = .ok (.iload_n 3, 1) by decide +kernel) ?_
      refine fw_iconst (v := (4 : Int32)) (show decode _ _ = .ok (.iconst 4, 1) by decide +kernel) (by decide) ?_
      refine fw_iadd (show decode _ _ = .ok (.iadd, 1) by decide +kernel) ?_
      obtain ⟨⟨n965, hs966, hi967⟩, h_374⟩ := h_373
      refine fw_iald (show decode _ _ = .ok (.iaload, 1) by decide +kernel) hs966 hi967 ?_
      refine fw_if_eq 1363 (show decode _ _ = .ok (.ifCond .eq 7, 3) by decide +kernel) (by decide) (fun hc968 => ?_) (fun hc968 => ?_)
      · have h_375 := ipos hc968 h_374
        refine fw_iconst (v := (0 : Int32)) (show decode _ _ = .ok (.iconst 0, 1) by decide +kernel) (by decide) ?_
        refine FW.sub [0, 1, 2, 3] (ls' := [(0, .ref p0), (1, .ref p1), (2, .ref p2), (3, .int p3)]) rfl ?_
        refine FW.room (bc' := Bc) (bs' := Bs) (by first | exact Nat.le_refl _ | exact Nat.le_add_right _ _ | exact Nat.zero_le _ | exact Nat.le_add_left _ _ | exact Nat.le_of_eq (Nat.add_sub_cancel).symm | decide) (by first | exact Nat.le_refl _ | exact Nat.le_add_right _ _ | exact Nat.zero_le _ | exact Nat.le_add_left _ _ | exact Nat.le_of_eq (Nat.add_sub_cancel).symm | decide) ?_
        exact sj_L_law_1364 hd hK18 h_375
      · have h_376 := ineg hc968 h_374
        refine fw_iconst (v := (1 : Int32)) (show decode _ _ = .ok (.iconst 1, 1) by decide +kernel) (by decide) ?_
        refine fw_goto 1364 (show decode _ _ = .ok (.goto 4, 3) by decide +kernel) (by decide) ?_
        refine FW.sub [0, 1, 2, 3] (ls' := [(0, .ref p0), (1, .ref p1), (2, .ref p2), (3, .int p3)]) rfl ?_
        refine FW.room (bc' := Bc) (bs' := Bs) (by first | exact Nat.le_refl _ | exact Nat.le_add_right _ _ | exact Nat.zero_le _ | exact Nat.le_add_left _ _ | exact Nat.le_of_eq (Nat.add_sub_cancel).symm | decide) (by first | exact Nat.le_refl _ | exact Nat.le_add_right _ _ | exact Nat.zero_le _ | exact Nat.le_add_left _ _ | exact Nat.le_of_eq (Nat.add_sub_cancel).symm | decide) ?_
        exact sj_L_law_1364 hd hK18 h_376
    have h_377 := ineg hc969 h_369
    by_cases hc983 : x240 = (31 : Int32)
    · have h_378 := ipos hc983 h_377
      refine fw_tin (off := 1372) 1405 (show decode _ _ = .ok (.tableswitch 1800 0 41 #[183, 216, 259, 318, 351, 394, 417, 480, 503, 516, 539, 562, 605, 618, 631, 644, 667, 690, 723, 736, 759, 792, 855, 888, 980, 1060, 1103, 1146, 1179, 1232, 1302, 1372, 1442, 1501, 1534, 1567, 1610, 1679, 1692, 1751, 1764, 1777], 183) by decide +kernel) (by rw [hc983]; decide) (by rw [hc983]; decide) (by rw [hc983]; rfl) (by decide) ?_
      refine fw_aload_n (i := 1) 1 rfl (show decode _ _ = .ok (.aload_n 1, 1) by decide +kernel) ?_
      refine fw_aload_n (i := 0) 0 rfl (show decode _ _ = .ok (.aload_n 0, 1) by decide +kernel) ?_
      refine fw_iload_n (i := 3) 3 rfl (show decode _ _ = .ok (.iload_n 3, 1) by decide +kernel) ?_
      refine fw_iconst (v := (1 : Int32)) (show decode _ _ = .ok (.iconst 1, 1) by decide +kernel) (by decide) ?_
      refine fw_iadd (show decode _ _ = .ok (.iadd, 1) by decide +kernel) ?_
      obtain ⟨⟨n970, hs971, hi972⟩, h_379⟩ := h_378
      refine fw_iald (show decode _ _ = .ok (.iaload, 1) by decide +kernel) hs971 hi972 ?_
      refine fw_aload_n (i := 0) 0 rfl (show decode _ _ = .ok (.aload_n 0, 1) by decide +kernel) ?_
      refine fw_iload_n (i := 3) 3 rfl (show decode _ _ = .ok (.iload_n 3, 1) by decide +kernel) ?_
      refine fw_iconst (v := (2 : Int32)) (show decode _ _ = .ok (.iconst 2, 1) by decide +kernel) (by decide) ?_
      refine fw_iadd (show decode _ _ = .ok (.iadd, 1) by decide +kernel) ?_
      obtain ⟨⟨n973, hs974, hi975⟩, h_380⟩ := h_379
      refine fw_iald (show decode _ _ = .ok (.iaload, 1) by decide +kernel) hs974 hi975 ?_
      refine fw_aload_n (i := 0) 0 rfl (show decode _ _ = .ok (.aload_n 0, 1) by decide +kernel) ?_
      refine fw_iload_n (i := 3) 3 rfl (show decode _ _ = .ok (.iload_n 3, 1) by decide +kernel) ?_
      refine fw_iconst (v := (3 : Int32)) (show decode _ _ = .ok (.iconst 3, 1) by decide +kernel) (by decide) ?_
      refine fw_iadd (show decode _ _ = .ok (.iadd, 1) by decide +kernel) ?_
      obtain ⟨⟨n976, hs977, hi978⟩, h_381⟩ := h_380
      refine fw_iald (show decode _ _ = .ok (.iaload, 1) by decide +kernel) hs977 hi978 ?_
      refine fw_aload_n (i := 0) 0 rfl (show decode _ _ = .ok (.aload_n 0, 1) by decide +kernel) ?_
      refine fw_iload_n (i := 3) 3 rfl (show decode _ _ = .ok (.iload_n 3, 1) by decide +kernel) ?_
      refine fw_iconst (v := (4 : Int32)) (show decode _ _ = .ok (.iconst 4, 1) by decide +kernel) (by decide) ?_
      refine fw_iadd (show decode _ _ = .ok (.iadd, 1) by decide +kernel) ?_
      obtain ⟨⟨n979, hs980, hi981⟩, h_382⟩ := h_381
      refine fw_iald (show decode _ _ = .ok (.iaload, 1) by decide +kernel) hs980 hi981 ?_
      refine fw_if_eq 1433 (show decode _ _ = .ok (.ifCond .eq 7, 3) by decide +kernel) (by decide) (fun hc982 => ?_) (fun hc982 => ?_)
      · have h_383 := ipos hc982 h_382
        refine fw_iconst (v := (0 : Int32)) (show decode _ _ = .ok (.iconst 0, 1) by decide +kernel) (by decide) ?_
        refine FW.sub [0, 1, 2, 3] (ls' := [(0, .ref p0), (1, .ref p1), (2, .ref p2), (3, .int p3)]) rfl ?_
        refine FW.room (bc' := Bc) (bs' := Bs) (by first | exact Nat.le_refl _ | exact Nat.le_add_right _ _ | exact Nat.zero_le _ | exact Nat.le_add_left _ _ | exact Nat.le_of_eq (Nat.add_sub_cancel).symm | decide) (by first | exact Nat.le_refl _ | exact Nat.le_add_right _ _ | exact Nat.zero_le _ | exact Nat.le_add_left _ _ | exact Nat.le_of_eq (Nat.add_sub_cancel).symm | decide) ?_
        exact sj_L_law_1434 hd hK18 h_383
      · have h_384 := ineg hc982 h_382
        refine fw_iconst (v := (1 : Int32)) (show decode _ _ = .ok (.iconst 1, 1) by decide +kernel) (by decide) ?_
        refine fw_goto 1434 (show decode _ _ = .ok (.goto 4, 3) by decide +kernel) (by decide) ?_
        refine FW.sub [0, 1, 2, 3] (ls' := [(0, .ref p0), (1, .ref p1), (2, .ref p2), (3, .int p3)]) rfl ?_
        refine FW.room (bc' := Bc) (bs' := Bs) (by first | exact Nat.le_refl _ | exact Nat.le_add_right _ _ | exact Nat.zero_le _ | exact Nat.le_add_left _ _ | exact Nat.le_of_eq (Nat.add_sub_cancel).symm | decide) (by first | exact Nat.le_refl _ | exact Nat.le_add_right _ _ | exact Nat.zero_le _ | exact Nat.le_add_left _ _ | exact Nat.le_of_eq (Nat.add_sub_cancel).symm | decide) ?_
        exact sj_L_law_1434 hd hK18 h_384
    have h_385 := ineg hc983 h_377
    by_cases hc994 : x240 = (32 : Int32)
    · have h_386 := ipos hc994 h_385
      refine fw_tin (off := 1442) 1475 (show decode _ _ = .ok (.tableswitch 1800 0 41 #[183, 216, 259, 318, 351, 394, 417, 480, 503, 516, 539, 562, 605, 618, 631, 644, 667, 690, 723, 736, 759, 792, 855, 888, 980, 1060, 1103, 1146, 1179, 1232, 1302, 1372, 1442, 1501, 1534, 1567, 1610, 1679, 1692, 1751, 1764, 1777], 183) by decide +kernel) (by rw [hc994]; decide) (by rw [hc994]; decide) (by rw [hc994]; rfl) (by decide) ?_
      refine fw_aload_n (i := 1) 1 rfl (show decode _ _ = .ok (.aload_n 1, 1) by decide +kernel) ?_
      refine fw_aload_n (i := 0) 0 rfl (show decode _ _ = .ok (.aload_n 0, 1) by decide +kernel) ?_
      refine fw_iload_n (i := 3) 3 rfl (show decode _ _ = .ok (.iload_n 3, 1) by decide +kernel) ?_
      refine fw_iconst (v := (1 : Int32)) (show decode _ _ = .ok (.iconst 1, 1) by decide +kernel) (by decide) ?_
      refine fw_iadd (show decode _ _ = .ok (.iadd, 1) by decide +kernel) ?_
      obtain ⟨⟨n984, hs985, hi986⟩, h_387⟩ := h_386
      refine fw_iald (show decode _ _ = .ok (.iaload, 1) by decide +kernel) hs985 hi986 ?_
      refine fw_aload_n (i := 0) 0 rfl (show decode _ _ = .ok (.aload_n 0, 1) by decide +kernel) ?_
      refine fw_iload_n (i := 3) 3 rfl (show decode _ _ = .ok (.iload_n 3, 1) by decide +kernel) ?_
      refine fw_iconst (v := (2 : Int32)) (show decode _ _ = .ok (.iconst 2, 1) by decide +kernel) (by decide) ?_
      refine fw_iadd (show decode _ _ = .ok (.iadd, 1) by decide +kernel) ?_
      obtain ⟨⟨n987, hs988, hi989⟩, h_388⟩ := h_387
      refine fw_iald (show decode _ _ = .ok (.iaload, 1) by decide +kernel) hs988 hi989 ?_
      refine fw_aload_n (i := 0) 0 rfl (show decode _ _ = .ok (.aload_n 0, 1) by decide +kernel) ?_
      refine fw_iload_n (i := 3) 3 rfl (show decode _ _ = .ok (.iload_n 3, 1) by decide +kernel) ?_
      refine fw_iconst (v := (3 : Int32)) (show decode _ _ = .ok (.iconst 3, 1) by decide +kernel) (by decide) ?_
      refine fw_iadd (show decode _ _ = .ok (.iadd, 1) by decide +kernel) ?_
      obtain ⟨⟨n990, hs991, hi992⟩, h_389⟩ := h_388
      refine fw_iald (show decode _ _ = .ok (.iaload, 1) by decide +kernel) hs991 hi992 ?_
      refine fw_if_eq 1498 (show decode _ _ = .ok (.ifCond .eq 7, 3) by decide +kernel) (by decide) (fun hc993 => ?_) (fun hc993 => ?_)
      · have h_390 := ipos hc993 h_389
        refine fw_iconst (v := (0 : Int32)) (show decode _ _ = .ok (.iconst 0, 1) by decide +kernel) (by decide) ?_
        refine FW.sub [0, 1, 2, 3] (ls' := [(0, .ref p0), (1, .ref p1), (2, .ref p2), (3, .int p3)]) rfl ?_
        refine FW.room (bc' := Bc) (bs' := Bs) (by first | exact Nat.le_refl _ | exact Nat.le_add_right _ _ | exact Nat.zero_le _ | exact Nat.le_add_left _ _ | exact Nat.le_of_eq (Nat.add_sub_cancel).symm | decide) (by first | exact Nat.le_refl _ | exact Nat.le_add_right _ _ | exact Nat.zero_le _ | exact Nat.le_add_left _ _ | exact Nat.le_of_eq (Nat.add_sub_cancel).symm | decide) ?_
        exact sj_L_law_1499 hd hK18 h_390
      · have h_391 := ineg hc993 h_389
        refine fw_iconst (v := (1 : Int32)) (show decode _ _ = .ok (.iconst 1, 1) by decide +kernel) (by decide) ?_
        refine fw_goto 1499 (show decode _ _ = .ok (.goto 4, 3) by decide +kernel) (by decide) ?_
        refine FW.sub [0, 1, 2, 3] (ls' := [(0, .ref p0), (1, .ref p1), (2, .ref p2), (3, .int p3)]) rfl ?_
        refine FW.room (bc' := Bc) (bs' := Bs) (by first | exact Nat.le_refl _ | exact Nat.le_add_right _ _ | exact Nat.zero_le _ | exact Nat.le_add_left _ _ | exact Nat.le_of_eq (Nat.add_sub_cancel).symm | decide) (by first | exact Nat.le_refl _ | exact Nat.le_add_right _ _ | exact Nat.zero_le _ | exact Nat.le_add_left _ _ | exact Nat.le_of_eq (Nat.add_sub_cancel).symm | decide) ?_
        exact sj_L_law_1499 hd hK18 h_391
    have h_392 := ineg hc994 h_385
    by_cases hc1020 : x240 = (33 : Int32)
    · have h_393 := ipos hc1020 h_392
      refine fw_tin (off := 1501) 1534 (show decode _ _ = .ok (.tableswitch 1800 0 41 #[183, 216, 259, 318, 351, 394, 417, 480, 503, 516, 539, 562, 605, 618, 631, 644, 667, 690, 723, 736, 759, 792, 855, 888, 980, 1060, 1103, 1146, 1179, 1232, 1302, 1372, 1442, 1501, 1534, 1567, 1610, 1679, 1692, 1751, 1764, 1777], 183) by decide +kernel) (by rw [hc1020]; decide) (by rw [hc1020]; decide) (by rw [hc1020]; rfl) (by decide) ?_
      refine fw_aload_n (i := 1) 1 rfl (show decode _ _ = .ok (.aload_n 1, 1) by decide +kernel) ?_
      refine fw_aload_n (i := 0) 0 rfl (show decode _ _ = .ok (.aload_n 0, 1) by decide +kernel) ?_
      refine fw_iload_n (i := 3) 3 rfl (show decode _ _ = .ok (.iload_n 3, 1) by decide +kernel) ?_
      refine fw_iconst (v := (1 : Int32)) (show decode _ _ = .ok (.iconst 1, 1) by decide +kernel) (by decide) ?_
      refine fw_iadd (show decode _ _ = .ok (.iadd, 1) by decide +kernel) ?_
      obtain ⟨⟨n995, hs996, hi997⟩, h_394⟩ := h_393
      refine fw_iald (show decode _ _ = .ok (.iaload, 1) by decide +kernel) hs996 hi997 ?_
      refine fw_aload_n (i := 0) 0 rfl (show decode _ _ = .ok (.aload_n 0, 1) by decide +kernel) ?_
      refine fw_iload_n (i := 3) 3 rfl (show decode _ _ = .ok (.iload_n 3, 1) by decide +kernel) ?_
      refine fw_iconst (v := (2 : Int32)) (show decode _ _ = .ok (.iconst 2, 1) by decide +kernel) (by decide) ?_
      refine fw_iadd (show decode _ _ = .ok (.iadd, 1) by decide +kernel) ?_
      obtain ⟨⟨n998, hs999, hi1000⟩, h_395⟩ := h_394
      refine fw_iald (show decode _ _ = .ok (.iaload, 1) by decide +kernel) hs999 hi1000 ?_
      obtain ⟨⟨hr1003, n1002, hs1004⟩, h_396⟩ := h_395
      refine fw_callV (mt' := mtX10_tally) (mc := 0) (ms := 0) (As := [.int (mI M p0 (ix (p3 + (1 : Int32)))), .int (mI M p0 (ix (p3 + (2 : Int32))))]) (rest := []) 2 10 n1002 (show decode _ _ = .ok (.invokevirtual 159, 3) by decide +kernel) cv_L_159 ⟨_, rfl, rfl⟩ hr1003 hs1004 rfl (Nat.le_of_ble_eq_true rfl) (s_X10_tally (d := d) (hd_le hd (by decide)) h_396) (by first | exact Nat.le_refl _ | exact Nat.le_add_right _ _ | exact Nat.zero_le _ | exact Nat.le_add_left _ _ | exact Nat.le_of_eq (Nat.add_sub_cancel).symm | decide) (by first | exact Nat.le_refl _ | exact Nat.le_add_right _ _ | exact Nat.zero_le _ | exact Nat.le_add_left _ _ | exact Nat.le_of_eq (Nat.add_sub_cancel).symm | decide) (kI (bc' := (Bc + 11)) (bs' := (Bs + 3005)) (by first | exact Nat.le_refl _ | exact Nat.le_add_right _ _ | exact Nat.zero_le _ | exact Nat.le_add_left _ _ | exact Nat.le_of_eq (Nat.add_sub_cancel).symm | decide) (by first | exact Nat.le_refl _ | exact Nat.le_add_right _ _ | exact Nat.zero_le _ | exact Nat.le_add_left _ _ | exact Nat.le_of_eq (Nat.add_sub_cancel).symm | decide) (fun x1005 M1001 h_397 => ?_))
      refine fw_aload_n (i := 2) 2 rfl (show decode _ _ = .ok (.aload_n 2, 1) by decide +kernel) ?_
      refine fw_aload_n (i := 0) 0 rfl (show decode _ _ = .ok (.aload_n 0, 1) by decide +kernel) ?_
      refine fw_iload_n (i := 3) 3 rfl (show decode _ _ = .ok (.iload_n 3, 1) by decide +kernel) ?_
      refine fw_iconst (v := (1 : Int32)) (show decode _ _ = .ok (.iconst 1, 1) by decide +kernel) (by decide) ?_
      refine fw_iadd (show decode _ _ = .ok (.iadd, 1) by decide +kernel) ?_
      obtain ⟨⟨n1006, hs1007, hi1008⟩, h_398⟩ := h_397
      refine fw_iald (show decode _ _ = .ok (.iaload, 1) by decide +kernel) hs1007 hi1008 ?_
      refine fw_aload_n (i := 0) 0 rfl (show decode _ _ = .ok (.aload_n 0, 1) by decide +kernel) ?_
      refine fw_iload_n (i := 3) 3 rfl (show decode _ _ = .ok (.iload_n 3, 1) by decide +kernel) ?_
      refine fw_iconst (v := (2 : Int32)) (show decode _ _ = .ok (.iconst 2, 1) by decide +kernel) (by decide) ?_
      refine fw_iadd (show decode _ _ = .ok (.iadd, 1) by decide +kernel) ?_
      obtain ⟨⟨n1009, hs1010, hi1011⟩, h_399⟩ := h_398
      refine fw_iald (show decode _ _ = .ok (.iaload, 1) by decide +kernel) hs1010 hi1011 ?_
      obtain ⟨⟨hr1014, n1013, hs1015⟩, h_400⟩ := h_399
      refine fw_callV (mt' := mtX11_tally) (mc := 0) (ms := 0) (As := [.int (mI M1001 p0 (ix (p3 + (1 : Int32)))), .int (mI M1001 p0 (ix (p3 + (2 : Int32))))]) (rest := [.int x1005]) 2 11 n1013 (show decode _ _ = .ok (.invokevirtual 162, 3) by decide +kernel) cv_L_162 ⟨_, rfl, rfl⟩ hr1014 hs1015 rfl (Nat.le_of_ble_eq_true rfl) (s_X11_tally (d := d) (hd_le hd (by decide)) h_400) (by first | exact Nat.le_refl _ | exact Nat.le_add_right _ _ | exact Nat.zero_le _ | exact Nat.le_add_left _ _ | exact Nat.le_of_eq (Nat.add_sub_cancel).symm | decide) (by first | exact Nat.le_refl _ | exact Nat.le_add_right _ _ | exact Nat.zero_le _ | exact Nat.le_add_left _ _ | exact Nat.le_of_eq (Nat.add_sub_cancel).symm | decide) (kI (bc' := (Bc + 11)) (bs' := (Bs + 3005)) (by first | exact Nat.le_refl _ | exact Nat.le_add_right _ _ | exact Nat.zero_le _ | exact Nat.le_add_left _ _ | exact Nat.le_of_eq (Nat.add_sub_cancel).symm | decide) (by first | exact Nat.le_refl _ | exact Nat.le_add_right _ _ | exact Nat.zero_le _ | exact Nat.le_add_left _ _ | exact Nat.le_of_eq (Nat.add_sub_cancel).symm | decide) (fun x1016 M1012 h_401 => ?_))
      refine fw_icmp_eq 1833 (show decode _ _ = .ok (.if_icmp .eq 271, 3) by decide +kernel) (by decide) (fun hc1019 => ?_) (fun hc1019 => ?_)
      · have h_402 := ipos hc1019 h_401
        obtain ⟨x1017, ex1018⟩ : ∃ y : Int32, y = p3 + (7 : Int32) := ⟨_, rfl⟩
        have h_403 := h_402 x1017 ex1018
        refine fw_iinc (i := 3) (x := p3) (v := x1017) (ls' := [(3, .int x1017), (0, .ref p0), (1, .ref p1), (2, .ref p2)]) 3 rfl (show decode _ _ = .ok (.iinc 3 7, 3) by decide +kernel) (by rw [ex1018]; rfl) (by decide) rfl ?_
        refine fw_goto 18 (show decode _ _ = .ok (.goto (-1818), 3) by decide +kernel) (by decide) ?_
        refine FW.sub [1, 2, 3, 0] (ls' := [(0, .ref p0), (1, .ref p1), (2, .ref p2), (3, .int x1017)]) rfl ?_
        refine FW.room (bc' := Bc) (bs' := Bs) (by first | exact Nat.le_refl _ | exact Nat.le_add_right _ _ | exact Nat.zero_le _ | exact Nat.le_add_left _ _ | exact Nat.le_of_eq (Nat.add_sub_cancel).symm | decide) (by first | exact Nat.le_refl _ | exact Nat.le_add_right _ _ | exact Nat.zero_le _ | exact Nat.le_add_left _ _ | exact Nat.le_of_eq (Nat.add_sub_cancel).symm | decide) ?_
        exact hK18 _ _ _ _ _ h_403
      · have h_404 := ineg hc1019 h_401
        refine fw_iconst (v := (0 : Int32)) (show decode _ _ = .ok (.iconst 0, 1) by decide +kernel) (by decide) ?_
        exact fw_ret (v := some (.int (0 : Int32))) .ireturn (show decode _ _ = .ok (.ireturn, 1) by decide +kernel) ⟨rfl, Or.inr (Or.inl ⟨rfl, rfl⟩)⟩ ⟨_, rfl, h_404⟩
    have h_405 := ineg hc1020 h_392
    by_cases hc1046 : x240 = (34 : Int32)
    · have h_406 := ipos hc1046 h_405
      refine fw_tin (off := 1534) 1567 (show decode _ _ = .ok (.tableswitch 1800 0 41 #[183, 216, 259, 318, 351, 394, 417, 480, 503, 516, 539, 562, 605, 618, 631, 644, 667, 690, 723, 736, 759, 792, 855, 888, 980, 1060, 1103, 1146, 1179, 1232, 1302, 1372, 1442, 1501, 1534, 1567, 1610, 1679, 1692, 1751, 1764, 1777], 183) by decide +kernel) (by rw [hc1046]; decide) (by rw [hc1046]; decide) (by rw [hc1046]; rfl) (by decide) ?_
      refine fw_aload_n (i := 1) 1 rfl (show decode _ _ = .ok (.aload_n 1, 1) by decide +kernel) ?_
      refine fw_aload_n (i := 0) 0 rfl (show decode _ _ = .ok (.aload_n 0, 1) by decide +kernel) ?_
      refine fw_iload_n (i := 3) 3 rfl (show decode _ _ = .ok (.iload_n 3, 1) by decide +kernel) ?_
      refine fw_iconst (v := (1 : Int32)) (show decode _ _ = .ok (.iconst 1, 1) by decide +kernel) (by decide) ?_
      refine fw_iadd (show decode _ _ = .ok (.iadd, 1) by decide +kernel) ?_
      obtain ⟨⟨n1021, hs1022, hi1023⟩, h_407⟩ := h_406
      refine fw_iald (show decode _ _ = .ok (.iaload, 1) by decide +kernel) hs1022 hi1023 ?_
      refine fw_aload_n (i := 0) 0 rfl (show decode _ _ = .ok (.aload_n 0, 1) by decide +kernel) ?_
      refine fw_iload_n (i := 3) 3 rfl (show decode _ _ = .ok (.iload_n 3, 1) by decide +kernel) ?_
      refine fw_iconst (v := (2 : Int32)) (show decode _ _ = .ok (.iconst 2, 1) by decide +kernel) (by decide) ?_
      refine fw_iadd (show decode _ _ = .ok (.iadd, 1) by decide +kernel) ?_
      obtain ⟨⟨n1024, hs1025, hi1026⟩, h_408⟩ := h_407
      refine fw_iald (show decode _ _ = .ok (.iaload, 1) by decide +kernel) hs1025 hi1026 ?_
      obtain ⟨⟨hr1029, n1028, hs1030⟩, h_409⟩ := h_408
      refine fw_callV (mt' := mtX10_legs) (mc := 0) (ms := 0) (As := [.int (mI M p0 (ix (p3 + (1 : Int32)))), .int (mI M p0 (ix (p3 + (2 : Int32))))]) (rest := []) 2 10 n1028 (show decode _ _ = .ok (.invokevirtual 163, 3) by decide +kernel) cv_L_163 ⟨_, rfl, rfl⟩ hr1029 hs1030 rfl (Nat.le_of_ble_eq_true rfl) (s_X10_legs (d := d) (hd_le hd (by decide)) h_409) (by first | exact Nat.le_refl _ | exact Nat.le_add_right _ _ | exact Nat.zero_le _ | exact Nat.le_add_left _ _ | exact Nat.le_of_eq (Nat.add_sub_cancel).symm | decide) (by first | exact Nat.le_refl _ | exact Nat.le_add_right _ _ | exact Nat.zero_le _ | exact Nat.le_add_left _ _ | exact Nat.le_of_eq (Nat.add_sub_cancel).symm | decide) (kI (bc' := (Bc + 11)) (bs' := (Bs + 3005)) (by first | exact Nat.le_refl _ | exact Nat.le_add_right _ _ | exact Nat.zero_le _ | exact Nat.le_add_left _ _ | exact Nat.le_of_eq (Nat.add_sub_cancel).symm | decide) (by first | exact Nat.le_refl _ | exact Nat.le_add_right _ _ | exact Nat.zero_le _ | exact Nat.le_add_left _ _ | exact Nat.le_of_eq (Nat.add_sub_cancel).symm | decide) (fun x1031 M1027 h_410 => ?_))
      refine fw_aload_n (i := 2) 2 rfl (show decode _ _ = .ok (.aload_n 2, 1) by decide +kernel) ?_
      refine fw_aload_n (i := 0) 0 rfl (show decode _ _ = .ok (.aload_n 0, 1) by decide +kernel) ?_
      refine fw_iload_n (i := 3) 3 rfl (show decode _ _ = .ok (.iload_n 3, 1) by decide +kernel) ?_
      refine fw_iconst (v := (1 : Int32)) (show decode _ _ = .ok (.iconst 1, 1) by decide +kernel) (by decide) ?_
      refine fw_iadd (show decode _ _ = .ok (.iadd, 1) by decide +kernel) ?_
      obtain ⟨⟨n1032, hs1033, hi1034⟩, h_411⟩ := h_410
      refine fw_iald (show decode _ _ = .ok (.iaload, 1) by decide +kernel) hs1033 hi1034 ?_
      refine fw_aload_n (i := 0) 0 rfl (show decode _ _ = .ok (.aload_n 0, 1) by decide +kernel) ?_
      refine fw_iload_n (i := 3) 3 rfl (show decode _ _ = .ok (.iload_n 3, 1) by decide +kernel) ?_
      refine fw_iconst (v := (2 : Int32)) (show decode _ _ = .ok (.iconst 2, 1) by decide +kernel) (by decide) ?_
      refine fw_iadd (show decode _ _ = .ok (.iadd, 1) by decide +kernel) ?_
      obtain ⟨⟨n1035, hs1036, hi1037⟩, h_412⟩ := h_411
      refine fw_iald (show decode _ _ = .ok (.iaload, 1) by decide +kernel) hs1036 hi1037 ?_
      obtain ⟨⟨hr1040, n1039, hs1041⟩, h_413⟩ := h_412
      refine fw_callV (mt' := mtX11_legs) (mc := 0) (ms := 0) (As := [.int (mI M1027 p0 (ix (p3 + (1 : Int32)))), .int (mI M1027 p0 (ix (p3 + (2 : Int32))))]) (rest := [.int x1031]) 2 11 n1039 (show decode _ _ = .ok (.invokevirtual 166, 3) by decide +kernel) cv_L_166 ⟨_, rfl, rfl⟩ hr1040 hs1041 rfl (Nat.le_of_ble_eq_true rfl) (s_X11_legs (d := d) (hd_le hd (by decide)) h_413) (by first | exact Nat.le_refl _ | exact Nat.le_add_right _ _ | exact Nat.zero_le _ | exact Nat.le_add_left _ _ | exact Nat.le_of_eq (Nat.add_sub_cancel).symm | decide) (by first | exact Nat.le_refl _ | exact Nat.le_add_right _ _ | exact Nat.zero_le _ | exact Nat.le_add_left _ _ | exact Nat.le_of_eq (Nat.add_sub_cancel).symm | decide) (kI (bc' := (Bc + 11)) (bs' := (Bs + 3005)) (by first | exact Nat.le_refl _ | exact Nat.le_add_right _ _ | exact Nat.zero_le _ | exact Nat.le_add_left _ _ | exact Nat.le_of_eq (Nat.add_sub_cancel).symm | decide) (by first | exact Nat.le_refl _ | exact Nat.le_add_right _ _ | exact Nat.zero_le _ | exact Nat.le_add_left _ _ | exact Nat.le_of_eq (Nat.add_sub_cancel).symm | decide) (fun x1042 M1038 h_414 => ?_))
      refine fw_icmp_eq 1833 (show decode _ _ = .ok (.if_icmp .eq 238, 3) by decide +kernel) (by decide) (fun hc1045 => ?_) (fun hc1045 => ?_)
      · have h_415 := ipos hc1045 h_414
        obtain ⟨x1043, ex1044⟩ : ∃ y : Int32, y = p3 + (7 : Int32) := ⟨_, rfl⟩
        have h_416 := h_415 x1043 ex1044
        refine fw_iinc (i := 3) (x := p3) (v := x1043) (ls' := [(3, .int x1043), (0, .ref p0), (1, .ref p1), (2, .ref p2)]) 3 rfl (show decode _ _ = .ok (.iinc 3 7, 3) by decide +kernel) (by rw [ex1044]; rfl) (by decide) rfl ?_
        refine fw_goto 18 (show decode _ _ = .ok (.goto (-1818), 3) by decide +kernel) (by decide) ?_
        refine FW.sub [1, 2, 3, 0] (ls' := [(0, .ref p0), (1, .ref p1), (2, .ref p2), (3, .int x1043)]) rfl ?_
        refine FW.room (bc' := Bc) (bs' := Bs) (by first | exact Nat.le_refl _ | exact Nat.le_add_right _ _ | exact Nat.zero_le _ | exact Nat.le_add_left _ _ | exact Nat.le_of_eq (Nat.add_sub_cancel).symm | decide) (by first | exact Nat.le_refl _ | exact Nat.le_add_right _ _ | exact Nat.zero_le _ | exact Nat.le_add_left _ _ | exact Nat.le_of_eq (Nat.add_sub_cancel).symm | decide) ?_
        exact hK18 _ _ _ _ _ h_416
      · have h_417 := ineg hc1045 h_414
        refine fw_iconst (v := (0 : Int32)) (show decode _ _ = .ok (.iconst 0, 1) by decide +kernel) (by decide) ?_
        exact fw_ret (v := some (.int (0 : Int32))) .ireturn (show decode _ _ = .ok (.ireturn, 1) by decide +kernel) ⟨rfl, Or.inr (Or.inl ⟨rfl, rfl⟩)⟩ ⟨_, rfl, h_417⟩
    have h_418 := ineg hc1046 h_405
    by_cases hc1078 : x240 = (35 : Int32)
    · have h_419 := ipos hc1078 h_418
      refine fw_tin (off := 1567) 1600 (show decode _ _ = .ok (.tableswitch 1800 0 41 #[183, 216, 259, 318, 351, 394, 417, 480, 503, 516, 539, 562, 605, 618, 631, 644, 667, 690, 723, 736, 759, 792, 855, 888, 980, 1060, 1103, 1146, 1179, 1232, 1302, 1372, 1442, 1501, 1534, 1567, 1610, 1679, 1692, 1751, 1764, 1777], 183) by decide +kernel) (by rw [hc1078]; decide) (by rw [hc1078]; decide) (by rw [hc1078]; rfl) (by decide) ?_
      refine fw_aload_n (i := 1) 1 rfl (show decode _ _ = .ok (.aload_n 1, 1) by decide +kernel) ?_
      refine fw_aload_n (i := 0) 0 rfl (show decode _ _ = .ok (.aload_n 0, 1) by decide +kernel) ?_
      refine fw_iload_n (i := 3) 3 rfl (show decode _ _ = .ok (.iload_n 3, 1) by decide +kernel) ?_
      refine fw_iconst (v := (1 : Int32)) (show decode _ _ = .ok (.iconst 1, 1) by decide +kernel) (by decide) ?_
      refine fw_iadd (show decode _ _ = .ok (.iadd, 1) by decide +kernel) ?_
      obtain ⟨⟨n1047, hs1048, hi1049⟩, h_420⟩ := h_419
      refine fw_iald (show decode _ _ = .ok (.iaload, 1) by decide +kernel) hs1048 hi1049 ?_
      refine fw_aload_n (i := 0) 0 rfl (show decode _ _ = .ok (.aload_n 0, 1) by decide +kernel) ?_
      refine fw_iload_n (i := 3) 3 rfl (show decode _ _ = .ok (.iload_n 3, 1) by decide +kernel) ?_
      refine fw_iconst (v := (2 : Int32)) (show decode _ _ = .ok (.iconst 2, 1) by decide +kernel) (by decide) ?_
      refine fw_iadd (show decode _ _ = .ok (.iadd, 1) by decide +kernel) ?_
      obtain ⟨⟨n1050, hs1051, hi1052⟩, h_421⟩ := h_420
      refine fw_iald (show decode _ _ = .ok (.iaload, 1) by decide +kernel) hs1051 hi1052 ?_
      refine fw_aload_n (i := 0) 0 rfl (show decode _ _ = .ok (.aload_n 0, 1) by decide +kernel) ?_
      refine fw_iload_n (i := 3) 3 rfl (show decode _ _ = .ok (.iload_n 3, 1) by decide +kernel) ?_
      refine fw_iconst (v := (3 : Int32)) (show decode _ _ = .ok (.iconst 3, 1) by decide +kernel) (by decide) ?_
      refine fw_iadd (show decode _ _ = .ok (.iadd, 1) by decide +kernel) ?_
      obtain ⟨⟨n1053, hs1054, hi1055⟩, h_422⟩ := h_421
      refine fw_iald (show decode _ _ = .ok (.iaload, 1) by decide +kernel) hs1054 hi1055 ?_
      obtain ⟨⟨hr1058, n1057, hs1059⟩, h_423⟩ := h_422
      refine fw_callV (mt' := mtX10_trippers) (mc := 0) (ms := 0) (As := [.int (mI M p0 (ix (p3 + (1 : Int32)))), .int (mI M p0 (ix (p3 + (2 : Int32)))), .int (mI M p0 (ix (p3 + (3 : Int32))))]) (rest := []) 3 10 n1057 (show decode _ _ = .ok (.invokevirtual 167, 3) by decide +kernel) cv_L_167 ⟨_, rfl, rfl⟩ hr1058 hs1059 rfl (Nat.le_of_ble_eq_true rfl) (s_X10_trippers (d := d) (hd_le hd (by decide)) h_423) (by first | exact Nat.le_refl _ | exact Nat.le_add_right _ _ | exact Nat.zero_le _ | exact Nat.le_add_left _ _ | exact Nat.le_of_eq (Nat.add_sub_cancel).symm | decide) (by first | exact Nat.le_refl _ | exact Nat.le_add_right _ _ | exact Nat.zero_le _ | exact Nat.le_add_left _ _ | exact Nat.le_of_eq (Nat.add_sub_cancel).symm | decide) (kI (bc' := (Bc + 11)) (bs' := (Bs + 3005)) (by first | exact Nat.le_refl _ | exact Nat.le_add_right _ _ | exact Nat.zero_le _ | exact Nat.le_add_left _ _ | exact Nat.le_of_eq (Nat.add_sub_cancel).symm | decide) (by first | exact Nat.le_refl _ | exact Nat.le_add_right _ _ | exact Nat.zero_le _ | exact Nat.le_add_left _ _ | exact Nat.le_of_eq (Nat.add_sub_cancel).symm | decide) (fun x1060 M1056 h_424 => ?_))
      refine fw_aload_n (i := 2) 2 rfl (show decode _ _ = .ok (.aload_n 2, 1) by decide +kernel) ?_
      refine fw_aload_n (i := 0) 0 rfl (show decode _ _ = .ok (.aload_n 0, 1) by decide +kernel) ?_
      refine fw_iload_n (i := 3) 3 rfl (show decode _ _ = .ok (.iload_n 3, 1) by decide +kernel) ?_
      refine fw_iconst (v := (1 : Int32)) (show decode _ _ = .ok (.iconst 1, 1) by decide +kernel) (by decide) ?_
      refine fw_iadd (show decode _ _ = .ok (.iadd, 1) by decide +kernel) ?_
      obtain ⟨⟨n1061, hs1062, hi1063⟩, h_425⟩ := h_424
      refine fw_iald (show decode _ _ = .ok (.iaload, 1) by decide +kernel) hs1062 hi1063 ?_
      refine fw_aload_n (i := 0) 0 rfl (show decode _ _ = .ok (.aload_n 0, 1) by decide +kernel) ?_
      refine fw_iload_n (i := 3) 3 rfl (show decode _ _ = .ok (.iload_n 3, 1) by decide +kernel) ?_
      refine fw_iconst (v := (2 : Int32)) (show decode _ _ = .ok (.iconst 2, 1) by decide +kernel) (by decide) ?_
      refine fw_iadd (show decode _ _ = .ok (.iadd, 1) by decide +kernel) ?_
      obtain ⟨⟨n1064, hs1065, hi1066⟩, h_426⟩ := h_425
      refine fw_iald (show decode _ _ = .ok (.iaload, 1) by decide +kernel) hs1065 hi1066 ?_
      refine fw_aload_n (i := 0) 0 rfl (show decode _ _ = .ok (.aload_n 0, 1) by decide +kernel) ?_
      refine fw_iload_n (i := 3) 3 rfl (show decode _ _ = .ok (.iload_n 3, 1) by decide +kernel) ?_
      refine fw_iconst (v := (3 : Int32)) (show decode _ _ = .ok (.iconst 3, 1) by decide +kernel) (by decide) ?_
      refine fw_iadd (show decode _ _ = .ok (.iadd, 1) by decide +kernel) ?_
      obtain ⟨⟨n1067, hs1068, hi1069⟩, h_427⟩ := h_426
      refine fw_iald (show decode _ _ = .ok (.iaload, 1) by decide +kernel) hs1068 hi1069 ?_
      obtain ⟨⟨hr1072, n1071, hs1073⟩, h_428⟩ := h_427
      refine fw_callV (mt' := mtX11_trippers) (mc := 0) (ms := 0) (As := [.int (mI M1056 p0 (ix (p3 + (1 : Int32)))), .int (mI M1056 p0 (ix (p3 + (2 : Int32)))), .int (mI M1056 p0 (ix (p3 + (3 : Int32))))]) (rest := [.int x1060]) 3 11 n1071 (show decode _ _ = .ok (.invokevirtual 170, 3) by decide +kernel) cv_L_170 ⟨_, rfl, rfl⟩ hr1072 hs1073 rfl (Nat.le_of_ble_eq_true rfl) (s_X11_trippers (d := d) (hd_le hd (by decide)) h_428) (by first | exact Nat.le_refl _ | exact Nat.le_add_right _ _ | exact Nat.zero_le _ | exact Nat.le_add_left _ _ | exact Nat.le_of_eq (Nat.add_sub_cancel).symm | decide) (by first | exact Nat.le_refl _ | exact Nat.le_add_right _ _ | exact Nat.zero_le _ | exact Nat.le_add_left _ _ | exact Nat.le_of_eq (Nat.add_sub_cancel).symm | decide) (kI (bc' := (Bc + 11)) (bs' := (Bs + 3005)) (by first | exact Nat.le_refl _ | exact Nat.le_add_right _ _ | exact Nat.zero_le _ | exact Nat.le_add_left _ _ | exact Nat.le_of_eq (Nat.add_sub_cancel).symm | decide) (by first | exact Nat.le_refl _ | exact Nat.le_add_right _ _ | exact Nat.zero_le _ | exact Nat.le_add_left _ _ | exact Nat.le_of_eq (Nat.add_sub_cancel).symm | decide) (fun x1074 M1070 h_429 => ?_))
      refine fw_icmp_eq 1833 (show decode _ _ = .ok (.if_icmp .eq 195, 3) by decide +kernel) (by decide) (fun hc1077 => ?_) (fun hc1077 => ?_)
      · have h_430 := ipos hc1077 h_429
        obtain ⟨x1075, ex1076⟩ : ∃ y : Int32, y = p3 + (7 : Int32) := ⟨_, rfl⟩
        have h_431 := h_430 x1075 ex1076
        refine fw_iinc (i := 3) (x := p3) (v := x1075) (ls' := [(3, .int x1075), (0, .ref p0), (1, .ref p1), (2, .ref p2)]) 3 rfl (show decode _ _ = .ok (.iinc 3 7, 3) by decide +kernel) (by rw [ex1076]; rfl) (by decide) rfl ?_
        refine fw_goto 18 (show decode _ _ = .ok (.goto (-1818), 3) by decide +kernel) (by decide) ?_
        refine FW.sub [1, 2, 3, 0] (ls' := [(0, .ref p0), (1, .ref p1), (2, .ref p2), (3, .int x1075)]) rfl ?_
        refine FW.room (bc' := Bc) (bs' := Bs) (by first | exact Nat.le_refl _ | exact Nat.le_add_right _ _ | exact Nat.zero_le _ | exact Nat.le_add_left _ _ | exact Nat.le_of_eq (Nat.add_sub_cancel).symm | decide) (by first | exact Nat.le_refl _ | exact Nat.le_add_right _ _ | exact Nat.zero_le _ | exact Nat.le_add_left _ _ | exact Nat.le_of_eq (Nat.add_sub_cancel).symm | decide) ?_
        exact hK18 _ _ _ _ _ h_431
      · have h_432 := ineg hc1077 h_429
        refine fw_iconst (v := (0 : Int32)) (show decode _ _ = .ok (.iconst 0, 1) by decide +kernel) (by decide) ?_
        exact fw_ret (v := some (.int (0 : Int32))) .ireturn (show decode _ _ = .ok (.ireturn, 1) by decide +kernel) ⟨rfl, Or.inr (Or.inl ⟨rfl, rfl⟩)⟩ ⟨_, rfl, h_432⟩
    have h_433 := ineg hc1078 h_418
    by_cases hc1092 : x240 = (36 : Int32)
    · have h_434 := ipos hc1092 h_433
      refine fw_tin (off := 1610) 1643 (show decode _ _ = .ok (.tableswitch 1800 0 41 #[183, 216, 259, 318, 351, 394, 417, 480, 503, 516, 539, 562, 605, 618, 631, 644, 667, 690, 723, 736, 759, 792, 855, 888, 980, 1060, 1103, 1146, 1179, 1232, 1302, 1372, 1442, 1501, 1534, 1567, 1610, 1679, 1692, 1751, 1764, 1777], 183) by decide +kernel) (by rw [hc1092]; decide) (by rw [hc1092]; decide) (by rw [hc1092]; rfl) (by decide) ?_
      refine fw_aload_n (i := 1) 1 rfl (show decode _ _ = .ok (.aload_n 1, 1) by decide +kernel) ?_
      refine fw_aload_n (i := 0) 0 rfl (show decode _ _ = .ok (.aload_n 0, 1) by decide +kernel) ?_
      refine fw_iload_n (i := 3) 3 rfl (show decode _ _ = .ok (.iload_n 3, 1) by decide +kernel) ?_
      refine fw_iconst (v := (1 : Int32)) (show decode _ _ = .ok (.iconst 1, 1) by decide +kernel) (by decide) ?_
      refine fw_iadd (show decode _ _ = .ok (.iadd, 1) by decide +kernel) ?_
      obtain ⟨⟨n1079, hs1080, hi1081⟩, h_435⟩ := h_434
      refine fw_iald (show decode _ _ = .ok (.iaload, 1) by decide +kernel) hs1080 hi1081 ?_
      refine fw_aload_n (i := 0) 0 rfl (show decode _ _ = .ok (.aload_n 0, 1) by decide +kernel) ?_
      refine fw_iload_n (i := 3) 3 rfl (show decode _ _ = .ok (.iload_n 3, 1) by decide +kernel) ?_
      refine fw_iconst (v := (2 : Int32)) (show decode _ _ = .ok (.iconst 2, 1) by decide +kernel) (by decide) ?_
      refine fw_iadd (show decode _ _ = .ok (.iadd, 1) by decide +kernel) ?_
      obtain ⟨⟨n1082, hs1083, hi1084⟩, h_436⟩ := h_435
      refine fw_iald (show decode _ _ = .ok (.iaload, 1) by decide +kernel) hs1083 hi1084 ?_
      refine fw_aload_n (i := 0) 0 rfl (show decode _ _ = .ok (.aload_n 0, 1) by decide +kernel) ?_
      refine fw_iload_n (i := 3) 3 rfl (show decode _ _ = .ok (.iload_n 3, 1) by decide +kernel) ?_
      refine fw_iconst (v := (3 : Int32)) (show decode _ _ = .ok (.iconst 3, 1) by decide +kernel) (by decide) ?_
      refine fw_iadd (show decode _ _ = .ok (.iadd, 1) by decide +kernel) ?_
      obtain ⟨⟨n1085, hs1086, hi1087⟩, h_437⟩ := h_436
      refine fw_iald (show decode _ _ = .ok (.iaload, 1) by decide +kernel) hs1086 hi1087 ?_
      refine fw_aload_n (i := 0) 0 rfl (show decode _ _ = .ok (.aload_n 0, 1) by decide +kernel) ?_
      refine fw_iload_n (i := 3) 3 rfl (show decode _ _ = .ok (.iload_n 3, 1) by decide +kernel) ?_
      refine fw_iconst (v := (4 : Int32)) (show decode _ _ = .ok (.iconst 4, 1) by decide +kernel) (by decide) ?_
      refine fw_iadd (show decode _ _ = .ok (.iadd, 1) by decide +kernel) ?_
      obtain ⟨⟨n1088, hs1089, hi1090⟩, h_438⟩ := h_437
      refine fw_iald (show decode _ _ = .ok (.iaload, 1) by decide +kernel) hs1089 hi1090 ?_
      refine fw_if_eq 1671 (show decode _ _ = .ok (.ifCond .eq 7, 3) by decide +kernel) (by decide) (fun hc1091 => ?_) (fun hc1091 => ?_)
      · have h_439 := ipos hc1091 h_438
        refine fw_iconst (v := (0 : Int32)) (show decode _ _ = .ok (.iconst 0, 1) by decide +kernel) (by decide) ?_
        refine FW.sub [0, 1, 2, 3] (ls' := [(0, .ref p0), (1, .ref p1), (2, .ref p2), (3, .int p3)]) rfl ?_
        refine FW.room (bc' := Bc) (bs' := Bs) (by first | exact Nat.le_refl _ | exact Nat.le_add_right _ _ | exact Nat.zero_le _ | exact Nat.le_add_left _ _ | exact Nat.le_of_eq (Nat.add_sub_cancel).symm | decide) (by first | exact Nat.le_refl _ | exact Nat.le_add_right _ _ | exact Nat.zero_le _ | exact Nat.le_add_left _ _ | exact Nat.le_of_eq (Nat.add_sub_cancel).symm | decide) ?_
        exact sj_L_law_1672 hd hK18 h_439
      · have h_440 := ineg hc1091 h_438
        refine fw_iconst (v := (1 : Int32)) (show decode _ _ = .ok (.iconst 1, 1) by decide +kernel) (by decide) ?_
        refine fw_goto 1672 (show decode _ _ = .ok (.goto 4, 3) by decide +kernel) (by decide) ?_
        refine FW.sub [0, 1, 2, 3] (ls' := [(0, .ref p0), (1, .ref p1), (2, .ref p2), (3, .int p3)]) rfl ?_
        refine FW.room (bc' := Bc) (bs' := Bs) (by first | exact Nat.le_refl _ | exact Nat.le_add_right _ _ | exact Nat.zero_le _ | exact Nat.le_add_left _ _ | exact Nat.le_of_eq (Nat.add_sub_cancel).symm | decide) (by first | exact Nat.le_refl _ | exact Nat.le_add_right _ _ | exact Nat.zero_le _ | exact Nat.le_add_left _ _ | exact Nat.le_of_eq (Nat.add_sub_cancel).symm | decide) ?_
        exact sj_L_law_1672 hd hK18 h_440
    have h_441 := ineg hc1092 h_433
    by_cases hc1106 : x240 = (37 : Int32)
    · have h_442 := ipos hc1106 h_441
      refine fw_tin (off := 1679) 1712 (show decode _ _ = .ok (.tableswitch 1800 0 41 #[183, 216, 259, 318, 351, 394, 417, 480, 503, 516, 539, 562, 605, 618, 631, 644, 667, 690, 723, 736, 759, 792, 855, 888, 980, 1060, 1103, 1146, 1179, 1232, 1302, 1372, 1442, 1501, 1534, 1567, 1610, 1679, 1692, 1751, 1764, 1777], 183) by decide +kernel) (by rw [hc1106]; decide) (by rw [hc1106]; decide) (by rw [hc1106]; rfl) (by decide) ?_
      refine fw_aload_n (i := 1) 1 rfl (show decode _ _ = .ok (.aload_n 1, 1) by decide +kernel) ?_
      obtain ⟨⟨hr1095, n1094, hs1096⟩, h_443⟩ := h_442
      refine fw_callV (mt' := mtX10_laws) (mc := 0) (ms := 0) (As := []) (rest := []) 0 10 n1094 (show decode _ _ = .ok (.invokevirtual 176, 3) by decide +kernel) cv_L_176 ⟨_, rfl, rfl⟩ hr1095 hs1096 rfl (Nat.le_of_ble_eq_true rfl) (s_X10_laws (d := d) (hd_le hd (by decide)) h_443) (by first | exact Nat.le_refl _ | exact Nat.le_add_right _ _ | exact Nat.zero_le _ | exact Nat.le_add_left _ _ | exact Nat.le_of_eq (Nat.add_sub_cancel).symm | decide) (by first | exact Nat.le_refl _ | exact Nat.le_add_right _ _ | exact Nat.zero_le _ | exact Nat.le_add_left _ _ | exact Nat.le_of_eq (Nat.add_sub_cancel).symm | decide) (kI (bc' := (Bc + 11)) (bs' := (Bs + 3005)) (by first | exact Nat.le_refl _ | exact Nat.le_add_right _ _ | exact Nat.zero_le _ | exact Nat.le_add_left _ _ | exact Nat.le_of_eq (Nat.add_sub_cancel).symm | decide) (by first | exact Nat.le_refl _ | exact Nat.le_add_right _ _ | exact Nat.zero_le _ | exact Nat.le_add_left _ _ | exact Nat.le_of_eq (Nat.add_sub_cancel).symm | decide) (fun x1097 M1093 h_444 => ?_))
      refine fw_aload_n (i := 2) 2 rfl (show decode _ _ = .ok (.aload_n 2, 1) by decide +kernel) ?_
      obtain ⟨⟨hr1100, n1099, hs1101⟩, h_445⟩ := h_444
      refine fw_callV (mt' := mtX11_laws) (mc := 0) (ms := 0) (As := []) (rest := [.int x1097]) 0 11 n1099 (show decode _ _ = .ok (.invokevirtual 179, 3) by decide +kernel) cv_L_179 ⟨_, rfl, rfl⟩ hr1100 hs1101 rfl (Nat.le_of_ble_eq_true rfl) (s_X11_laws (d := d) (hd_le hd (by decide)) h_445) (by first | exact Nat.le_refl _ | exact Nat.le_add_right _ _ | exact Nat.zero_le _ | exact Nat.le_add_left _ _ | exact Nat.le_of_eq (Nat.add_sub_cancel).symm | decide) (by first | exact Nat.le_refl _ | exact Nat.le_add_right _ _ | exact Nat.zero_le _ | exact Nat.le_add_left _ _ | exact Nat.le_of_eq (Nat.add_sub_cancel).symm | decide) (kI (bc' := (Bc + 11)) (bs' := (Bs + 3005)) (by first | exact Nat.le_refl _ | exact Nat.le_add_right _ _ | exact Nat.zero_le _ | exact Nat.le_add_left _ _ | exact Nat.le_of_eq (Nat.add_sub_cancel).symm | decide) (by first | exact Nat.le_refl _ | exact Nat.le_add_right _ _ | exact Nat.zero_le _ | exact Nat.le_add_left _ _ | exact Nat.le_of_eq (Nat.add_sub_cancel).symm | decide) (fun x1102 M1098 h_446 => ?_))
      refine fw_icmp_eq 1833 (show decode _ _ = .ok (.if_icmp .eq 113, 3) by decide +kernel) (by decide) (fun hc1105 => ?_) (fun hc1105 => ?_)
      · have h_447 := ipos hc1105 h_446
        obtain ⟨x1103, ex1104⟩ : ∃ y : Int32, y = p3 + (7 : Int32) := ⟨_, rfl⟩
        have h_448 := h_447 x1103 ex1104
        refine fw_iinc (i := 3) (x := p3) (v := x1103) (ls' := [(3, .int x1103), (0, .ref p0), (1, .ref p1), (2, .ref p2)]) 3 rfl (show decode _ _ = .ok (.iinc 3 7, 3) by decide +kernel) (by rw [ex1104]; rfl) (by decide) rfl ?_
        refine fw_goto 18 (show decode _ _ = .ok (.goto (-1818), 3) by decide +kernel) (by decide) ?_
        refine FW.sub [1, 2, 3, 0] (ls' := [(0, .ref p0), (1, .ref p1), (2, .ref p2), (3, .int x1103)]) rfl ?_
        refine FW.room (bc' := Bc) (bs' := Bs) (by first | exact Nat.le_refl _ | exact Nat.le_add_right _ _ | exact Nat.zero_le _ | exact Nat.le_add_left _ _ | exact Nat.le_of_eq (Nat.add_sub_cancel).symm | decide) (by first | exact Nat.le_refl _ | exact Nat.le_add_right _ _ | exact Nat.zero_le _ | exact Nat.le_add_left _ _ | exact Nat.le_of_eq (Nat.add_sub_cancel).symm | decide) ?_
        exact hK18 _ _ _ _ _ h_448
      · have h_449 := ineg hc1105 h_446
        refine fw_iconst (v := (0 : Int32)) (show decode _ _ = .ok (.iconst 0, 1) by decide +kernel) (by decide) ?_
        exact fw_ret (v := some (.int (0 : Int32))) .ireturn (show decode _ _ = .ok (.ireturn, 1) by decide +kernel) ⟨rfl, Or.inr (Or.inl ⟨rfl, rfl⟩)⟩ ⟨_, rfl, h_449⟩
    have h_450 := ineg hc1106 h_441
    by_cases hc1117 : x240 = (38 : Int32)
    · have h_451 := ipos hc1117 h_450
      refine fw_tin (off := 1692) 1725 (show decode _ _ = .ok (.tableswitch 1800 0 41 #[183, 216, 259, 318, 351, 394, 417, 480, 503, 516, 539, 562, 605, 618, 631, 644, 667, 690, 723, 736, 759, 792, 855, 888, 980, 1060, 1103, 1146, 1179, 1232, 1302, 1372, 1442, 1501, 1534, 1567, 1610, 1679, 1692, 1751, 1764, 1777], 183) by decide +kernel) (by rw [hc1117]; decide) (by rw [hc1117]; decide) (by rw [hc1117]; rfl) (by decide) ?_
      refine fw_aload_n (i := 1) 1 rfl (show decode _ _ = .ok (.aload_n 1, 1) by decide +kernel) ?_
      refine fw_aload_n (i := 0) 0 rfl (show decode _ _ = .ok (.aload_n 0, 1) by decide +kernel) ?_
      refine fw_iload_n (i := 3) 3 rfl (show decode _ _ = .ok (.iload_n 3, 1) by decide +kernel) ?_
      refine fw_iconst (v := (1 : Int32)) (show decode _ _ = .ok (.iconst 1, 1) by decide +kernel) (by decide) ?_
      refine fw_iadd (show decode _ _ = .ok (.iadd, 1) by decide +kernel) ?_
      obtain ⟨⟨n1107, hs1108, hi1109⟩, h_452⟩ := h_451
      refine fw_iald (show decode _ _ = .ok (.iaload, 1) by decide +kernel) hs1108 hi1109 ?_
      refine fw_aload_n (i := 0) 0 rfl (show decode _ _ = .ok (.aload_n 0, 1) by decide +kernel) ?_
      refine fw_iload_n (i := 3) 3 rfl (show decode _ _ = .ok (.iload_n 3, 1) by decide +kernel) ?_
      refine fw_iconst (v := (2 : Int32)) (show decode _ _ = .ok (.iconst 2, 1) by decide +kernel) (by decide) ?_
      refine fw_iadd (show decode _ _ = .ok (.iadd, 1) by decide +kernel) ?_
      obtain ⟨⟨n1110, hs1111, hi1112⟩, h_453⟩ := h_452
      refine fw_iald (show decode _ _ = .ok (.iaload, 1) by decide +kernel) hs1111 hi1112 ?_
      refine fw_aload_n (i := 0) 0 rfl (show decode _ _ = .ok (.aload_n 0, 1) by decide +kernel) ?_
      refine fw_iload_n (i := 3) 3 rfl (show decode _ _ = .ok (.iload_n 3, 1) by decide +kernel) ?_
      refine fw_iconst (v := (3 : Int32)) (show decode _ _ = .ok (.iconst 3, 1) by decide +kernel) (by decide) ?_
      refine fw_iadd (show decode _ _ = .ok (.iadd, 1) by decide +kernel) ?_
      obtain ⟨⟨n1113, hs1114, hi1115⟩, h_454⟩ := h_453
      refine fw_iald (show decode _ _ = .ok (.iaload, 1) by decide +kernel) hs1114 hi1115 ?_
      refine fw_if_eq 1748 (show decode _ _ = .ok (.ifCond .eq 7, 3) by decide +kernel) (by decide) (fun hc1116 => ?_) (fun hc1116 => ?_)
      · have h_455 := ipos hc1116 h_454
        refine fw_iconst (v := (0 : Int32)) (show decode _ _ = .ok (.iconst 0, 1) by decide +kernel) (by decide) ?_
        refine FW.sub [0, 1, 2, 3] (ls' := [(0, .ref p0), (1, .ref p1), (2, .ref p2), (3, .int p3)]) rfl ?_
        refine FW.room (bc' := Bc) (bs' := Bs) (by first | exact Nat.le_refl _ | exact Nat.le_add_right _ _ | exact Nat.zero_le _ | exact Nat.le_add_left _ _ | exact Nat.le_of_eq (Nat.add_sub_cancel).symm | decide) (by first | exact Nat.le_refl _ | exact Nat.le_add_right _ _ | exact Nat.zero_le _ | exact Nat.le_add_left _ _ | exact Nat.le_of_eq (Nat.add_sub_cancel).symm | decide) ?_
        exact sj_L_law_1749 hd hK18 h_455
      · have h_456 := ineg hc1116 h_454
        refine fw_iconst (v := (1 : Int32)) (show decode _ _ = .ok (.iconst 1, 1) by decide +kernel) (by decide) ?_
        refine fw_goto 1749 (show decode _ _ = .ok (.goto 4, 3) by decide +kernel) (by decide) ?_
        refine FW.sub [0, 1, 2, 3] (ls' := [(0, .ref p0), (1, .ref p1), (2, .ref p2), (3, .int p3)]) rfl ?_
        refine FW.room (bc' := Bc) (bs' := Bs) (by first | exact Nat.le_refl _ | exact Nat.le_add_right _ _ | exact Nat.zero_le _ | exact Nat.le_add_left _ _ | exact Nat.le_of_eq (Nat.add_sub_cancel).symm | decide) (by first | exact Nat.le_refl _ | exact Nat.le_add_right _ _ | exact Nat.zero_le _ | exact Nat.le_add_left _ _ | exact Nat.le_of_eq (Nat.add_sub_cancel).symm | decide) ?_
        exact sj_L_law_1749 hd hK18 h_456
    have h_457 := ineg hc1117 h_450
    by_cases hc1131 : x240 = (39 : Int32)
    · have h_458 := ipos hc1131 h_457
      refine fw_tin (off := 1751) 1784 (show decode _ _ = .ok (.tableswitch 1800 0 41 #[183, 216, 259, 318, 351, 394, 417, 480, 503, 516, 539, 562, 605, 618, 631, 644, 667, 690, 723, 736, 759, 792, 855, 888, 980, 1060, 1103, 1146, 1179, 1232, 1302, 1372, 1442, 1501, 1534, 1567, 1610, 1679, 1692, 1751, 1764, 1777], 183) by decide +kernel) (by rw [hc1131]; decide) (by rw [hc1131]; decide) (by rw [hc1131]; rfl) (by decide) ?_
      refine fw_aload_n (i := 1) 1 rfl (show decode _ _ = .ok (.aload_n 1, 1) by decide +kernel) ?_
      obtain ⟨⟨hr1120, n1119, hs1121⟩, h_459⟩ := h_458
      refine fw_callV (mt' := mtX10_image) (mc := 0) (ms := 0) (As := []) (rest := []) 0 10 n1119 (show decode _ _ = .ok (.invokevirtual 184, 3) by decide +kernel) cv_L_184 ⟨_, rfl, rfl⟩ hr1120 hs1121 rfl (Nat.le_of_ble_eq_true rfl) (s_X10_image (d := d) (hd_le hd (by decide)) h_459) (by first | exact Nat.le_refl _ | exact Nat.le_add_right _ _ | exact Nat.zero_le _ | exact Nat.le_add_left _ _ | exact Nat.le_of_eq (Nat.add_sub_cancel).symm | decide) (by first | exact Nat.le_refl _ | exact Nat.le_add_right _ _ | exact Nat.zero_le _ | exact Nat.le_add_left _ _ | exact Nat.le_of_eq (Nat.add_sub_cancel).symm | decide) (kI (bc' := (Bc + 11)) (bs' := (Bs + 3005)) (by first | exact Nat.le_refl _ | exact Nat.le_add_right _ _ | exact Nat.zero_le _ | exact Nat.le_add_left _ _ | exact Nat.le_of_eq (Nat.add_sub_cancel).symm | decide) (by first | exact Nat.le_refl _ | exact Nat.le_add_right _ _ | exact Nat.zero_le _ | exact Nat.le_add_left _ _ | exact Nat.le_of_eq (Nat.add_sub_cancel).symm | decide) (fun x1122 M1118 h_460 => ?_))
      refine fw_aload_n (i := 2) 2 rfl (show decode _ _ = .ok (.aload_n 2, 1) by decide +kernel) ?_
      obtain ⟨⟨hr1125, n1124, hs1126⟩, h_461⟩ := h_460
      refine fw_callV (mt' := mtX11_image) (mc := 0) (ms := 0) (As := []) (rest := [.int x1122]) 0 11 n1124 (show decode _ _ = .ok (.invokevirtual 187, 3) by decide +kernel) cv_L_187 ⟨_, rfl, rfl⟩ hr1125 hs1126 rfl (Nat.le_of_ble_eq_true rfl) (s_X11_image (d := d) (hd_le hd (by decide)) h_461) (by first | exact Nat.le_refl _ | exact Nat.le_add_right _ _ | exact Nat.zero_le _ | exact Nat.le_add_left _ _ | exact Nat.le_of_eq (Nat.add_sub_cancel).symm | decide) (by first | exact Nat.le_refl _ | exact Nat.le_add_right _ _ | exact Nat.zero_le _ | exact Nat.le_add_left _ _ | exact Nat.le_of_eq (Nat.add_sub_cancel).symm | decide) (kI (bc' := (Bc + 11)) (bs' := (Bs + 3005)) (by first | exact Nat.le_refl _ | exact Nat.le_add_right _ _ | exact Nat.zero_le _ | exact Nat.le_add_left _ _ | exact Nat.le_of_eq (Nat.add_sub_cancel).symm | decide) (by first | exact Nat.le_refl _ | exact Nat.le_add_right _ _ | exact Nat.zero_le _ | exact Nat.le_add_left _ _ | exact Nat.le_of_eq (Nat.add_sub_cancel).symm | decide) (fun x1127 M1123 h_462 => ?_))
      refine fw_icmp_eq 1833 (show decode _ _ = .ok (.if_icmp .eq 41, 3) by decide +kernel) (by decide) (fun hc1130 => ?_) (fun hc1130 => ?_)
      · have h_463 := ipos hc1130 h_462
        obtain ⟨x1128, ex1129⟩ : ∃ y : Int32, y = p3 + (7 : Int32) := ⟨_, rfl⟩
        have h_464 := h_463 x1128 ex1129
        refine fw_iinc (i := 3) (x := p3) (v := x1128) (ls' := [(3, .int x1128), (0, .ref p0), (1, .ref p1), (2, .ref p2)]) 3 rfl (show decode _ _ = .ok (.iinc 3 7, 3) by decide +kernel) (by rw [ex1129]; rfl) (by decide) rfl ?_
        refine fw_goto 18 (show decode _ _ = .ok (.goto (-1818), 3) by decide +kernel) (by decide) ?_
        refine FW.sub [1, 2, 3, 0] (ls' := [(0, .ref p0), (1, .ref p1), (2, .ref p2), (3, .int x1128)]) rfl ?_
        refine FW.room (bc' := Bc) (bs' := Bs) (by first | exact Nat.le_refl _ | exact Nat.le_add_right _ _ | exact Nat.zero_le _ | exact Nat.le_add_left _ _ | exact Nat.le_of_eq (Nat.add_sub_cancel).symm | decide) (by first | exact Nat.le_refl _ | exact Nat.le_add_right _ _ | exact Nat.zero_le _ | exact Nat.le_add_left _ _ | exact Nat.le_of_eq (Nat.add_sub_cancel).symm | decide) ?_
        exact hK18 _ _ _ _ _ h_464
      · have h_465 := ineg hc1130 h_462
        refine fw_iconst (v := (0 : Int32)) (show decode _ _ = .ok (.iconst 0, 1) by decide +kernel) (by decide) ?_
        exact fw_ret (v := some (.int (0 : Int32))) .ireturn (show decode _ _ = .ok (.ireturn, 1) by decide +kernel) ⟨rfl, Or.inr (Or.inl ⟨rfl, rfl⟩)⟩ ⟨_, rfl, h_465⟩
    have h_466 := ineg hc1131 h_457
    by_cases hc1145 : x240 = (40 : Int32)
    · have h_467 := ipos hc1145 h_466
      refine fw_tin (off := 1764) 1797 (show decode _ _ = .ok (.tableswitch 1800 0 41 #[183, 216, 259, 318, 351, 394, 417, 480, 503, 516, 539, 562, 605, 618, 631, 644, 667, 690, 723, 736, 759, 792, 855, 888, 980, 1060, 1103, 1146, 1179, 1232, 1302, 1372, 1442, 1501, 1534, 1567, 1610, 1679, 1692, 1751, 1764, 1777], 183) by decide +kernel) (by rw [hc1145]; decide) (by rw [hc1145]; decide) (by rw [hc1145]; rfl) (by decide) ?_
      refine fw_aload_n (i := 1) 1 rfl (show decode _ _ = .ok (.aload_n 1, 1) by decide +kernel) ?_
      obtain ⟨⟨hr1134, n1133, hs1135⟩, h_468⟩ := h_467
      refine fw_callV (mt' := mtX10_back) (mc := 0) (ms := 0) (As := []) (rest := []) 0 10 n1133 (show decode _ _ = .ok (.invokevirtual 188, 3) by decide +kernel) cv_L_188 ⟨_, rfl, rfl⟩ hr1134 hs1135 rfl (Nat.le_of_ble_eq_true rfl) (s_X10_back (d := d) (hd_le hd (by decide)) h_468) (by first | exact Nat.le_refl _ | exact Nat.le_add_right _ _ | exact Nat.zero_le _ | exact Nat.le_add_left _ _ | exact Nat.le_of_eq (Nat.add_sub_cancel).symm | decide) (by first | exact Nat.le_refl _ | exact Nat.le_add_right _ _ | exact Nat.zero_le _ | exact Nat.le_add_left _ _ | exact Nat.le_of_eq (Nat.add_sub_cancel).symm | decide) (kI (bc' := (Bc + 11)) (bs' := (Bs + 3005)) (by first | exact Nat.le_refl _ | exact Nat.le_add_right _ _ | exact Nat.zero_le _ | exact Nat.le_add_left _ _ | exact Nat.le_of_eq (Nat.add_sub_cancel).symm | decide) (by first | exact Nat.le_refl _ | exact Nat.le_add_right _ _ | exact Nat.zero_le _ | exact Nat.le_add_left _ _ | exact Nat.le_of_eq (Nat.add_sub_cancel).symm | decide) (fun x1136 M1132 h_469 => ?_))
      refine fw_aload_n (i := 2) 2 rfl (show decode _ _ = .ok (.aload_n 2, 1) by decide +kernel) ?_
      obtain ⟨⟨hr1139, n1138, hs1140⟩, h_470⟩ := h_469
      refine fw_callV (mt' := mtX11_back) (mc := 0) (ms := 0) (As := []) (rest := [.int x1136]) 0 11 n1138 (show decode _ _ = .ok (.invokevirtual 191, 3) by decide +kernel) cv_L_191 ⟨_, rfl, rfl⟩ hr1139 hs1140 rfl (Nat.le_of_ble_eq_true rfl) (s_X11_back (d := d) (hd_le hd (by decide)) h_470) (by first | exact Nat.le_refl _ | exact Nat.le_add_right _ _ | exact Nat.zero_le _ | exact Nat.le_add_left _ _ | exact Nat.le_of_eq (Nat.add_sub_cancel).symm | decide) (by first | exact Nat.le_refl _ | exact Nat.le_add_right _ _ | exact Nat.zero_le _ | exact Nat.le_add_left _ _ | exact Nat.le_of_eq (Nat.add_sub_cancel).symm | decide) (kI (bc' := (Bc + 11)) (bs' := (Bs + 3005)) (by first | exact Nat.le_refl _ | exact Nat.le_add_right _ _ | exact Nat.zero_le _ | exact Nat.le_add_left _ _ | exact Nat.le_of_eq (Nat.add_sub_cancel).symm | decide) (by first | exact Nat.le_refl _ | exact Nat.le_add_right _ _ | exact Nat.zero_le _ | exact Nat.le_add_left _ _ | exact Nat.le_of_eq (Nat.add_sub_cancel).symm | decide) (fun x1141 M1137 h_471 => ?_))
      refine fw_icmp_eq 1833 (show decode _ _ = .ok (.if_icmp .eq 28, 3) by decide +kernel) (by decide) (fun hc1144 => ?_) (fun hc1144 => ?_)
      · have h_472 := ipos hc1144 h_471
        obtain ⟨x1142, ex1143⟩ : ∃ y : Int32, y = p3 + (7 : Int32) := ⟨_, rfl⟩
        have h_473 := h_472 x1142 ex1143
        refine fw_iinc (i := 3) (x := p3) (v := x1142) (ls' := [(3, .int x1142), (0, .ref p0), (1, .ref p1), (2, .ref p2)]) 3 rfl (show decode _ _ = .ok (.iinc 3 7, 3) by decide +kernel) (by rw [ex1143]; rfl) (by decide) rfl ?_
        refine fw_goto 18 (show decode _ _ = .ok (.goto (-1818), 3) by decide +kernel) (by decide) ?_
        refine FW.sub [1, 2, 3, 0] (ls' := [(0, .ref p0), (1, .ref p1), (2, .ref p2), (3, .int x1142)]) rfl ?_
        refine FW.room (bc' := Bc) (bs' := Bs) (by first | exact Nat.le_refl _ | exact Nat.le_add_right _ _ | exact Nat.zero_le _ | exact Nat.le_add_left _ _ | exact Nat.le_of_eq (Nat.add_sub_cancel).symm | decide) (by first | exact Nat.le_refl _ | exact Nat.le_add_right _ _ | exact Nat.zero_le _ | exact Nat.le_add_left _ _ | exact Nat.le_of_eq (Nat.add_sub_cancel).symm | decide) ?_
        exact hK18 _ _ _ _ _ h_473
      · have h_474 := ineg hc1144 h_471
        refine fw_iconst (v := (0 : Int32)) (show decode _ _ = .ok (.iconst 0, 1) by decide +kernel) (by decide) ?_
        exact fw_ret (v := some (.int (0 : Int32))) .ireturn (show decode _ _ = .ok (.ireturn, 1) by decide +kernel) ⟨rfl, Or.inr (Or.inl ⟨rfl, rfl⟩)⟩ ⟨_, rfl, h_474⟩
    have h_475 := ineg hc1145 h_466
    by_cases hc1165 : x240 = (41 : Int32)
    · have h_476 := ipos hc1165 h_475
      refine fw_tin (off := 1777) 1810 (show decode _ _ = .ok (.tableswitch 1800 0 41 #[183, 216, 259, 318, 351, 394, 417, 480, 503, 516, 539, 562, 605, 618, 631, 644, 667, 690, 723, 736, 759, 792, 855, 888, 980, 1060, 1103, 1146, 1179, 1232, 1302, 1372, 1442, 1501, 1534, 1567, 1610, 1679, 1692, 1751, 1764, 1777], 183) by decide +kernel) (by rw [hc1165]; decide) (by rw [hc1165]; decide) (by rw [hc1165]; rfl) (by decide) ?_
      refine fw_aload_n (i := 1) 1 rfl (show decode _ _ = .ok (.aload_n 1, 1) by decide +kernel) ?_
      refine fw_aload_n (i := 0) 0 rfl (show decode _ _ = .ok (.aload_n 0, 1) by decide +kernel) ?_
      refine fw_iload_n (i := 3) 3 rfl (show decode _ _ = .ok (.iload_n 3, 1) by decide +kernel) ?_
      refine fw_iconst (v := (1 : Int32)) (show decode _ _ = .ok (.iconst 1, 1) by decide +kernel) (by decide) ?_
      refine fw_iadd (show decode _ _ = .ok (.iadd, 1) by decide +kernel) ?_
      obtain ⟨⟨n1146, hs1147, hi1148⟩, h_477⟩ := h_476
      refine fw_iald (show decode _ _ = .ok (.iaload, 1) by decide +kernel) hs1147 hi1148 ?_
      obtain ⟨⟨hr1151, n1150, hs1152⟩, h_478⟩ := h_477
      refine fw_callV (mt' := mtX10_about) (mc := 0) (ms := 0) (As := [.int (mI M p0 (ix (p3 + (1 : Int32))))]) (rest := []) 1 10 n1150 (show decode _ _ = .ok (.invokevirtual 192, 3) by decide +kernel) cv_L_192 ⟨_, rfl, rfl⟩ hr1151 hs1152 rfl (Nat.le_of_ble_eq_true rfl) (s_X10_about (d := d) (hd_le hd (by decide)) h_478) (by first | exact Nat.le_refl _ | exact Nat.le_add_right _ _ | exact Nat.zero_le _ | exact Nat.le_add_left _ _ | exact Nat.le_of_eq (Nat.add_sub_cancel).symm | decide) (by first | exact Nat.le_refl _ | exact Nat.le_add_right _ _ | exact Nat.zero_le _ | exact Nat.le_add_left _ _ | exact Nat.le_of_eq (Nat.add_sub_cancel).symm | decide) (kI (bc' := (Bc + 11)) (bs' := (Bs + 3005)) (by first | exact Nat.le_refl _ | exact Nat.le_add_right _ _ | exact Nat.zero_le _ | exact Nat.le_add_left _ _ | exact Nat.le_of_eq (Nat.add_sub_cancel).symm | decide) (by first | exact Nat.le_refl _ | exact Nat.le_add_right _ _ | exact Nat.zero_le _ | exact Nat.le_add_left _ _ | exact Nat.le_of_eq (Nat.add_sub_cancel).symm | decide) (fun x1153 M1149 h_479 => ?_))
      refine fw_aload_n (i := 2) 2 rfl (show decode _ _ = .ok (.aload_n 2, 1) by decide +kernel) ?_
      refine fw_aload_n (i := 0) 0 rfl (show decode _ _ = .ok (.aload_n 0, 1) by decide +kernel) ?_
      refine fw_iload_n (i := 3) 3 rfl (show decode _ _ = .ok (.iload_n 3, 1) by decide +kernel) ?_
      refine fw_iconst (v := (1 : Int32)) (show decode _ _ = .ok (.iconst 1, 1) by decide +kernel) (by decide) ?_
      refine fw_iadd (show decode _ _ = .ok (.iadd, 1) by decide +kernel) ?_
      obtain ⟨⟨n1154, hs1155, hi1156⟩, h_480⟩ := h_479
      refine fw_iald (show decode _ _ = .ok (.iaload, 1) by decide +kernel) hs1155 hi1156 ?_
      obtain ⟨⟨hr1159, n1158, hs1160⟩, h_481⟩ := h_480
      refine fw_callV (mt' := mtX11_about) (mc := 0) (ms := 0) (As := [.int (mI M1149 p0 (ix (p3 + (1 : Int32))))]) (rest := [.int x1153]) 1 11 n1158 (show decode _ _ = .ok (.invokevirtual 195, 3) by decide +kernel) cv_L_195 ⟨_, rfl, rfl⟩ hr1159 hs1160 rfl (Nat.le_of_ble_eq_true rfl) (s_X11_about (d := d) (hd_le hd (by decide)) h_481) (by first | exact Nat.le_refl _ | exact Nat.le_add_right _ _ | exact Nat.zero_le _ | exact Nat.le_add_left _ _ | exact Nat.le_of_eq (Nat.add_sub_cancel).symm | decide) (by first | exact Nat.le_refl _ | exact Nat.le_add_right _ _ | exact Nat.zero_le _ | exact Nat.le_add_left _ _ | exact Nat.le_of_eq (Nat.add_sub_cancel).symm | decide) (kI (bc' := (Bc + 11)) (bs' := (Bs + 3005)) (by first | exact Nat.le_refl _ | exact Nat.le_add_right _ _ | exact Nat.zero_le _ | exact Nat.le_add_left _ _ | exact Nat.le_of_eq (Nat.add_sub_cancel).symm | decide) (by first | exact Nat.le_refl _ | exact Nat.le_add_right _ _ | exact Nat.zero_le _ | exact Nat.le_add_left _ _ | exact Nat.le_of_eq (Nat.add_sub_cancel).symm | decide) (fun x1161 M1157 h_482 => ?_))
      refine fw_icmp_eq 1833 (show decode _ _ = .ok (.if_icmp .eq 5, 3) by decide +kernel) (by decide) (fun hc1164 => ?_) (fun hc1164 => ?_)
      · have h_483 := ipos hc1164 h_482
        obtain ⟨x1162, ex1163⟩ : ∃ y : Int32, y = p3 + (7 : Int32) := ⟨_, rfl⟩
        have h_484 := h_483 x1162 ex1163
        refine fw_iinc (i := 3) (x := p3) (v := x1162) (ls' := [(3, .int x1162), (0, .ref p0), (1, .ref p1), (2, .ref p2)]) 3 rfl (show decode _ _ = .ok (.iinc 3 7, 3) by decide +kernel) (by rw [ex1163]; rfl) (by decide) rfl ?_
        refine fw_goto 18 (show decode _ _ = .ok (.goto (-1818), 3) by decide +kernel) (by decide) ?_
        refine FW.sub [1, 2, 3, 0] (ls' := [(0, .ref p0), (1, .ref p1), (2, .ref p2), (3, .int x1162)]) rfl ?_
        refine FW.room (bc' := Bc) (bs' := Bs) (by first | exact Nat.le_refl _ | exact Nat.le_add_right _ _ | exact Nat.zero_le _ | exact Nat.le_add_left _ _ | exact Nat.le_of_eq (Nat.add_sub_cancel).symm | decide) (by first | exact Nat.le_refl _ | exact Nat.le_add_right _ _ | exact Nat.zero_le _ | exact Nat.le_add_left _ _ | exact Nat.le_of_eq (Nat.add_sub_cancel).symm | decide) ?_
        exact hK18 _ _ _ _ _ h_484
      · have h_485 := ineg hc1164 h_482
        refine fw_iconst (v := (0 : Int32)) (show decode _ _ = .ok (.iconst 0, 1) by decide +kernel) (by decide) ?_
        exact fw_ret (v := some (.int (0 : Int32))) .ireturn (show decode _ _ = .ok (.ireturn, 1) by decide +kernel) ⟨rfl, Or.inr (Or.inl ⟨rfl, rfl⟩)⟩ ⟨_, rfl, h_485⟩
    have h_486 := ineg hc1165 h_475
    by_cases ho1168 : Int32.toInt x240 < 0 ∨ 41 < Int32.toInt x240
    · refine fw_tout 1833 (show decode _ _ = .ok (.tableswitch 1800 0 41 #[183, 216, 259, 318, 351, 394, 417, 480, 503, 516, 539, 562, 605, 618, 631, 644, 667, 690, 723, 736, 759, 792, 855, 888, 980, 1060, 1103, 1146, 1179, 1232, 1302, 1372, 1442, 1501, 1534, 1567, 1610, 1679, 1692, 1751, 1764, 1777], 183) by decide +kernel) ho1168 (by decide) ?_
      obtain ⟨x1166, ex1167⟩ : ∃ y : Int32, y = p3 + (7 : Int32) := ⟨_, rfl⟩
      have h_487 := h_486 x1166 ex1167
      refine fw_iinc (i := 3) (x := p3) (v := x1166) (ls' := [(3, .int x1166), (0, .ref p0), (1, .ref p1), (2, .ref p2)]) 3 rfl (show decode _ _ = .ok (.iinc 3 7, 3) by decide +kernel) (by rw [ex1167]; rfl) (by decide) rfl ?_
      refine fw_goto 18 (show decode _ _ = .ok (.goto (-1818), 3) by decide +kernel) (by decide) ?_
      refine FW.sub [1, 2, 3, 0] (ls' := [(0, .ref p0), (1, .ref p1), (2, .ref p2), (3, .int x1166)]) rfl ?_
      refine FW.room (bc' := Bc) (bs' := Bs) (by first | exact Nat.le_refl _ | exact Nat.le_add_right _ _ | exact Nat.zero_le _ | exact Nat.le_add_left _ _ | exact Nat.le_of_eq (Nat.add_sub_cancel).symm | decide) (by first | exact Nat.le_refl _ | exact Nat.le_add_right _ _ | exact Nat.zero_le _ | exact Nat.le_add_left _ _ | exact Nat.le_of_eq (Nat.add_sub_cancel).symm | decide) ?_
      exact hK18 _ _ _ _ _ h_487
    have e1169 := tsx_0_41 (Int32.toInt x240) ho1168
    rcases e1169 with e1169 | e1169 | e1169 | e1169 | e1169 | e1169 | e1169 | e1169 | e1169 | e1169 | e1169 | e1169 | e1169 | e1169 | e1169 | e1169 | e1169 | e1169 | e1169 | e1169 | e1169 | e1169 | e1169 | e1169 | e1169 | e1169 | e1169 | e1169 | e1169 | e1169 | e1169 | e1169 | e1169 | e1169 | e1169 | e1169 | e1169 | e1169 | e1169 | e1169 | e1169 | e1169
    · exact absurd (Int32.toInt_inj.mp (Eq.trans e1169 rfl)) hc267
    · exact absurd (Int32.toInt_inj.mp (Eq.trans e1169 rfl)) hc299
    · exact absurd (Int32.toInt_inj.mp (Eq.trans e1169 rfl)) hc310
    · exact absurd (Int32.toInt_inj.mp (Eq.trans e1169 rfl)) hc336
    · exact absurd (Int32.toInt_inj.mp (Eq.trans e1169 rfl)) hc368
    · exact absurd (Int32.toInt_inj.mp (Eq.trans e1169 rfl)) hc388
    · exact absurd (Int32.toInt_inj.mp (Eq.trans e1169 rfl)) hc432
    · exact absurd (Int32.toInt_inj.mp (Eq.trans e1169 rfl)) hc452
    · exact absurd (Int32.toInt_inj.mp (Eq.trans e1169 rfl)) hc466
    · exact absurd (Int32.toInt_inj.mp (Eq.trans e1169 rfl)) hc486
    · exact absurd (Int32.toInt_inj.mp (Eq.trans e1169 rfl)) hc506
    · exact absurd (Int32.toInt_inj.mp (Eq.trans e1169 rfl)) hc538
    · exact absurd (Int32.toInt_inj.mp (Eq.trans e1169 rfl)) hc552
    · exact absurd (Int32.toInt_inj.mp (Eq.trans e1169 rfl)) hc566
    · exact absurd (Int32.toInt_inj.mp (Eq.trans e1169 rfl)) hc580
    · exact absurd (Int32.toInt_inj.mp (Eq.trans e1169 rfl)) hc600
    · exact absurd (Int32.toInt_inj.mp (Eq.trans e1169 rfl)) hc620
    · exact absurd (Int32.toInt_inj.mp (Eq.trans e1169 rfl)) hc646
    · exact absurd (Int32.toInt_inj.mp (Eq.trans e1169 rfl)) hc660
    · exact absurd (Int32.toInt_inj.mp (Eq.trans e1169 rfl)) hc680
    · exact absurd (Int32.toInt_inj.mp (Eq.trans e1169 rfl)) hc706
    · exact absurd (Int32.toInt_inj.mp (Eq.trans e1169 rfl)) hc750
    · exact absurd (Int32.toInt_inj.mp (Eq.trans e1169 rfl)) hc776
    · exact absurd (Int32.toInt_inj.mp (Eq.trans e1169 rfl)) hc796
    · exact absurd (Int32.toInt_inj.mp (Eq.trans e1169 rfl)) hc813
    · exact absurd (Int32.toInt_inj.mp (Eq.trans e1169 rfl)) hc845
    · exact absurd (Int32.toInt_inj.mp (Eq.trans e1169 rfl)) hc877
    · exact absurd (Int32.toInt_inj.mp (Eq.trans e1169 rfl)) hc903
    · exact absurd (Int32.toInt_inj.mp (Eq.trans e1169 rfl)) hc941
    · exact absurd (Int32.toInt_inj.mp (Eq.trans e1169 rfl)) hc955
    · exact absurd (Int32.toInt_inj.mp (Eq.trans e1169 rfl)) hc969
    · exact absurd (Int32.toInt_inj.mp (Eq.trans e1169 rfl)) hc983
    · exact absurd (Int32.toInt_inj.mp (Eq.trans e1169 rfl)) hc994
    · exact absurd (Int32.toInt_inj.mp (Eq.trans e1169 rfl)) hc1020
    · exact absurd (Int32.toInt_inj.mp (Eq.trans e1169 rfl)) hc1046
    · exact absurd (Int32.toInt_inj.mp (Eq.trans e1169 rfl)) hc1078
    · exact absurd (Int32.toInt_inj.mp (Eq.trans e1169 rfl)) hc1092
    · exact absurd (Int32.toInt_inj.mp (Eq.trans e1169 rfl)) hc1106
    · exact absurd (Int32.toInt_inj.mp (Eq.trans e1169 rfl)) hc1117
    · exact absurd (Int32.toInt_inj.mp (Eq.trans e1169 rfl)) hc1131
    · exact absurd (Int32.toInt_inj.mp (Eq.trans e1169 rfl)) hc1145
    · exact absurd (Int32.toInt_inj.mp (Eq.trans e1169 rfl)) hc1165
theorem sl_L_law_18 {g : GT} {d : Nat} (hd : 80 ≤ d + 1) {φ : Int32 → fM → Prop} : ∀ (n : Nat) {p0 : Nat} {p1 : Nat} {p2 : Nat} {p3 : Int32} {M : fM}, l_L_law_18 φ n p0 p1 p2 p3 M → FW g mtL_law (d + 1) 18 [(0, .ref p0), (1, .ref p1), (2, .ref p2), (3, .int p3)] [] M (n * 11) (n * 3005) (rI φ)
  | 0 => fun h => h.elim
  | n + 1 => fun h => FW.room (Nat.le_of_eq (Nat.succ_mul n 11).symm) (Nat.le_of_eq (Nat.succ_mul n 3005).symm) (sb_L_law_18 (Bc := n * 11) (Bs := n * 3005) hd (fun _ _ _ _ _ h => sl_L_law_18 hd n h) h)
def w_L_law (p0 : Nat) (M : fM) (φ : Int32 → fM → Prop) : Prop := nw M 10 8 fun q1171 M1173 => w_X10_init q1171 M1173 fun M1175 => nw M1175 11 32 fun q1176 M1178 => w_X11_init q1176 M1178 fun M1180 => ∃ n, n ≤ 513 ∧ l_L_law_18 φ n p0 q1171 q1176 (0 : Int32) M1180
set_option maxRecDepth 100000 in
theorem s_L_law {g : GT} {d : Nat} (hd : 80 ≤ d + 1) {p0 : Nat} {M : fM} {φ : Int32 → fM → Prop} (h : w_L_law p0 M φ) : FW g mtL_law (d + 1) 0 [(0, .ref p0)] [] M 5719 1559294 (rI φ) := by
  unfold w_L_law at h
  refine fw_new (kd := 10) (len := 8) (show decode _ _ = .ok (.new 7, 3) by decide +kernel) cl_L_7 (by decide) (by decide) ?_
  refine FW.room (bc' := 5718) (bs' := 1559286) (by decide) (by decide) ?_
  refine FW.nmN (fun q1171 eq1172 => ?_)
  refine FW.nmM (fun M1173 eM1174 => ?_)
  have h_1 := h q1171 M1173 eq1172 eM1174
  refine fw_dup (show decode _ _ = .ok (.dup, 1) by decide +kernel) rfl ?_
  refine fw_callI (mt' := mtX10_init) (mc := 63) (ms := 7952) (As := []) (rest := [.ref q1171]) 0 (show decode _ _ = .ok (.invokespecial 9, 3) by decide +kernel) ci_L_9 rfl (Nat.le_of_ble_eq_true rfl) (s_X10_init (d := d) (hd_le hd (by decide)) h_1) (by first | exact Nat.le_refl _ | exact Nat.le_add_right _ _ | exact Nat.zero_le _ | exact Nat.le_add_left _ _ | exact Nat.le_of_eq (Nat.add_sub_cancel).symm | decide) (by first | exact Nat.le_refl _ | exact Nat.le_add_right _ _ | exact Nat.zero_le _ | exact Nat.le_add_left _ _ | exact Nat.le_of_eq (Nat.add_sub_cancel).symm | decide) (kV (bc' := 5655) (bs' := 1551334) (by first | exact Nat.le_refl _ | exact Nat.le_add_right _ _ | exact Nat.zero_le _ | exact Nat.le_add_left _ _ | exact Nat.le_of_eq (Nat.add_sub_cancel).symm | decide) (by first | exact Nat.le_refl _ | exact Nat.le_add_right _ _ | exact Nat.zero_le _ | exact Nat.le_add_left _ _ | exact Nat.le_of_eq (Nat.add_sub_cancel).symm | decide) (fun M1175 h_2 => ?_))
  refine fw_astore_n (i := 1) (ls' := [(1, .ref q1171), (0, .ref p0)]) (show decode _ _ = .ok (.astore_n 1, 1) by decide +kernel) (by decide) rfl ?_
  refine fw_new (kd := 11) (len := 32) (show decode _ _ = .ok (.new 10, 3) by decide +kernel) cl_L_10 (by decide) (by decide) ?_
  refine FW.room (bc' := 5654) (bs' := 1551302) (by decide) (by decide) ?_
  refine FW.nmN (fun q1176 eq1177 => ?_)
  refine FW.nmM (fun M1178 eM1179 => ?_)
  have h_3 := h_2 q1176 M1178 eq1177 eM1179
  refine fw_dup (show decode _ _ = .ok (.dup, 1) by decide +kernel) rfl ?_
  refine fw_callI (mt' := mtX11_init) (mc := 11) (ms := 9737) (As := []) (rest := [.ref q1176]) 0 (show decode _ _ = .ok (.invokespecial 12, 3) by decide +kernel) ci_L_12 rfl (Nat.le_of_ble_eq_true rfl) (s_X11_init (d := d) (hd_le hd (by decide)) h_3) (by first | exact Nat.le_refl _ | exact Nat.le_add_right _ _ | exact Nat.zero_le _ | exact Nat.le_add_left _ _ | exact Nat.le_of_eq (Nat.add_sub_cancel).symm | decide) (by first | exact Nat.le_refl _ | exact Nat.le_add_right _ _ | exact Nat.zero_le _ | exact Nat.le_add_left _ _ | exact Nat.le_of_eq (Nat.add_sub_cancel).symm | decide) (kV (bc' := 5643) (bs' := 1541565) (by first | exact Nat.le_refl _ | exact Nat.le_add_right _ _ | exact Nat.zero_le _ | exact Nat.le_add_left _ _ | exact Nat.le_of_eq (Nat.add_sub_cancel).symm | decide) (by first | exact Nat.le_refl _ | exact Nat.le_add_right _ _ | exact Nat.zero_le _ | exact Nat.le_add_left _ _ | exact Nat.le_of_eq (Nat.add_sub_cancel).symm | decide) (fun M1180 h_4 => ?_))
  refine fw_astore_n (i := 2) (ls' := [(2, .ref q1176), (1, .ref q1171), (0, .ref p0)]) (show decode _ _ = .ok (.astore_n 2, 1) by decide +kernel) (by decide) rfl ?_
  refine fw_iconst (v := (0 : Int32)) (show decode _ _ = .ok (.iconst 0, 1) by decide +kernel) (by decide) ?_
  refine fw_istore_n (i := 3) (ls' := [(3, .int (0 : Int32)), (2, .ref q1176), (1, .ref q1171), (0, .ref p0)]) (show decode _ _ = .ok (.istore_n 3, 1) by decide +kernel) (by decide) rfl ?_
  refine FW.sub [3, 2, 1, 0] (ls' := [(0, .ref p0), (1, .ref q1171), (2, .ref q1176), (3, .int (0 : Int32))]) rfl ?_
  obtain ⟨nn, hn, h_5⟩ := h_4
  refine FW.room (bc' := nn * 11) (bs' := nn * 3005) (Nat.mul_le_mul_right 11 hn) (Nat.mul_le_mul_right 3005 hn) ?_
  exact sl_L_law_18 hd nn h_5
