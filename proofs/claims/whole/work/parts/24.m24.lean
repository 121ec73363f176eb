def w_X11_tripsBy (p0 : Nat) (p1 : Int32) (p2 : Int32) (p3 : Int32) (p4 : Int32) (p5 : Int32) (p6 : Int32) (p7 : Int32) (M : fM) (φ : Int32 → fM → Prop) : Prop := isO M p0 11 ∧ w_X11_clauseOf p0 p1 (2 : Int32) M fun x5 M1 => iF (0 ≤ x5) (isO M1 p0 11 ∧ w_X11_name p0 p2 p3 p4 M1 fun M6 => isO M6 p0 11 ∧ w_X11_nameStep p0 p3 p4 p5 p6 p7 M6 fun M10 => isO M10 p0 11 ∧ w_X11_work p0 p1 x5 M10 fun M14 => isO M14 p0 11 ∧ dR (mP M14 p0 23) fun y21 => inA M14 y21 14 (0 : Int32) ∧ isB (mI M14 y21 (ix (0 : Int32))) ∧ φ (mI M14 y21 (ix (0 : Int32))) M14) (iF ((3 : Int32) ≤ (p6 - p7)) (φ (1 : Int32) M1) (iF ((p7 - p6) < (3 : Int32)) (φ (0 : Int32) M1) (φ (1 : Int32) M1)))
set_option maxRecDepth 100000 in
theorem s_X11_tripsBy {g : GT} {d : Nat} (hd : 4 ≤ d) {p0 : Nat} {p1 : Int32} {p2 : Int32} {p3 : Int32} {p4 : Int32} {p5 : Int32} {p6 : Int32} {p7 : Int32} {M : fM} {φ : Int32 → fM → Prop} (h : w_X11_tripsBy p0 p1 p2 p3 p4 p5 p6 p7 M φ) : FC g mtX11_tripsBy d [.ref p0, .int p1, .int p2, .int p3, .int p4, .int p5, .int p6, .int p7] M 0 0 (rI φ) := by
  obtain ⟨d, rfl⟩ : ∃ e, d = e + 1 := ⟨d - 1, by omega⟩
  unfold w_X11_tripsBy at h
  refine FC.intro (nL := 9) (by decide) rfl (Nat.le_of_ble_eq_true rfl) ?_
  show FW g mtX11_tripsBy (d + 1) 0 [(0, .ref p0), (1, .int p1), (2, .int p2), (3, .int p3), (4, .int p4), (5, .int p5), (6, .int p6), (7, .int p7)] [] M 0 0 (rI φ)
  refine fw_aload_n (i := 0) 0 rfl (show decode _ _ = .ok (.aload_n 0, 1) by decide +kernel) ?_
  refine fw_iload_n (i := 1) 1 rfl (show decode _ _ = .ok (.iload_n 1, 1) by decide +kernel) ?_
  refine fw_iconst (v := (2 : Int32)) (show decode _ _ = .ok (.iconst 2, 1) by decide +kernel) (by decide) ?_
  obtain ⟨⟨hr3, n2, hs4⟩, h_1⟩ := h
  refine fw_callV (mt' := mtX11_clauseOf) (mc := 0) (ms := 0) (As := [.int p1, .int (2 : Int32)]) (rest := []) 2 11 n2 (show decode _ _ = .ok (.invokevirtual 290, 3) by decide +kernel) cv_X11_290 ⟨_, rfl, rfl⟩ hr3 hs4 rfl (Nat.le_of_ble_eq_true rfl) (s_X11_clauseOf (d := d) (hd_le hd (by decide)) h_1) (by decide) (by decide) (kI (bc' := 0) (bs' := 0) (by decide) (by decide) (fun x5 M1 h_2 => ?_))
  refine fw_istore (i := 8) (ls' := [(8, .int x5), (0, .ref p0), (1, .int p1), (2, .int p2), (3, .int p3), (4, .int p4), (5, .int p5), (6, .int p6), (7, .int p7)]) (show decode _ _ = .ok (.istore 8, 2) by decide +kernel) (by decide) rfl ?_
  refine fw_iload (i := 8) 0 rfl (show decode _ _ = .ok (.iload 8, 2) by decide +kernel) ?_
  refine fw_if_ge 37 (show decode _ _ = .ok (.ifCond .ge 27, 3) by decide +kernel) (by decide) (fun hc28 => ?_) (fun hc28 => ?_)
  · have h_3 := ipos hc28 h_2
    refine fw_aload_n (i := 0) 1 rfl (show decode _ _ = .ok (.aload_n 0, 1) by decide +kernel) ?_
    refine fw_iload_n (i := 2) 3 rfl (show decode _ _ = .ok (.iload_n 2, 1) by decide +kernel) ?_
    refine fw_iload_n (i := 3) 4 rfl (show decode _ _ = .ok (.iload_n 3, 1) by decide +kernel) ?_
    refine fw_iload (i := 4) 5 rfl (show decode _ _ = .ok (.iload 4, 2) by decide +kernel) ?_
    obtain ⟨⟨hr8, n7, hs9⟩, h_4⟩ := h_3
    refine fw_callV (mt' := mtX11_name) (mc := 0) (ms := 0) (As := [.int p2, .int p3, .int p4]) (rest := []) 3 11 n7 (show decode _ _ = .ok (.invokevirtual 296, 3) by decide +kernel) cv_X11_296 ⟨_, rfl, rfl⟩ hr8 hs9 rfl (Nat.le_of_ble_eq_true rfl) (s_X11_name (d := d) (hd_le hd (by decide)) h_4) (by decide) (by decide) (kV (bc' := 0) (bs' := 0) (by decide) (by decide) (fun M6 h_5 => ?_))
    refine fw_aload_n (i := 0) 1 rfl (show decode _ _ = .ok (.aload_n 0, 1) by decide +kernel) ?_
    refine fw_iload_n (i := 3) 4 rfl (show decode _ _ = .ok (.iload_n 3, 1) by decide +kernel) ?_
    refine fw_iload (i := 4) 5 rfl (show decode _ _ = .ok (.iload 4, 2) by decide +kernel) ?_
    refine fw_iload (i := 5) 6 rfl (show decode _ _ = .ok (.iload 5, 2) by decide +kernel) ?_
    refine fw_iload (i := 6) 7 rfl (show decode _ _ = .ok (.iload 6, 2) by decide +kernel) ?_
    refine fw_iload (i := 7) 8 rfl (show decode _ _ = .ok (.iload 7, 2) by decide +kernel) ?_
    obtain ⟨⟨hr12, n11, hs13⟩, h_6⟩ := h_5
    refine fw_callV (mt' := mtX11_nameStep) (mc := 0) (ms := 0) (As := [.int p3, .int p4, .int p5, .int p6, .int p7]) (rest := []) 5 11 n11 (show decode _ _ = .ok (.invokevirtual 303, 3) by decide +kernel) cv_X11_303 ⟨_, rfl, rfl⟩ hr12 hs13 rfl (Nat.le_of_ble_eq_true rfl) (s_X11_nameStep (d := d) (hd_le hd (by decide)) h_6) (by decide) (by decide) (kV (bc' := 0) (bs' := 0) (by decide) (by decide) (fun M10 h_7 => ?_))
    refine fw_aload_n (i := 0) 1 rfl (show decode _ _ = .ok (.aload_n 0, 1) by decide +kernel) ?_
    refine fw_iload_n (i := 1) 2 rfl (show decode _ _ = .ok (.iload_n 1, 1) by decide +kernel) ?_
    refine fw_iload (i := 8) 0 rfl (show decode _ _ = .ok (.iload 8, 2) by decide +kernel) ?_
    obtain ⟨⟨hr16, n15, hs17⟩, h_8⟩ := h_7
    refine fw_callV (mt' := mtX11_work) (mc := 0) (ms := 0) (As := [.int p1, .int x5]) (rest := []) 2 11 n15 (show decode _ _ = .ok (.invokevirtual 293, 3) by decide +kernel) cv_X11_293 ⟨_, rfl, rfl⟩ hr16 hs17 rfl (Nat.le_of_ble_eq_true rfl) (s_X11_work (d := d) (hd_le hd (by decide)) h_8) (by decide) (by decide) (kV (bc' := 0) (bs' := 0) (by decide) (by decide) (fun M14 h_9 => ?_))
    refine fw_aload_n (i := 0) 1 rfl (show decode _ _ = .ok (.aload_n 0, 1) by decide +kernel) ?_
    obtain ⟨⟨hr19, n18, hs20⟩, h_10⟩ := h_9
    refine fw_getP (kd := 11) (k := 23) (show decode _ _ = .ok (.getfield 39, 3) by decide +kernel) gf_X11_39 hr19 hs20 rfl ?_
    have h_11 := dR_e h_10
    obtain ⟨y21, hy22, h_12⟩ := h_11
    refine fw_deref hy22 ?_
    refine fw_iconst (v := (0 : Int32)) (show decode _ _ = .ok (.iconst 0, 1) by decide +kernel) (by decide) ?_
    obtain ⟨⟨n23, hs24, hi25⟩, h_13⟩ := h_12
    refine fw_zald (show decode _ _ = .ok (.baload, 1) by decide +kernel) hs24 hi25 ?_
    obtain ⟨hbb, h_14⟩ := h_13
    exact fw_ret (v := some (.int (mI M14 y21 (ix (0 : Int32))))) .ireturn (show decode _ _ = .ok (.ireturn, 1) by decide +kernel) ⟨rfl, Or.inr (Or.inl ⟨rfl, hbb⟩)⟩ ⟨_, rfl, h_14⟩
  · have h_15 := ineg hc28 h_2
    refine fw_iload (i := 6) 7 rfl (show decode _ _ = .ok (.iload 6, 2) by decide +kernel) ?_
    refine fw_iload (i := 7) 8 rfl (show decode _ _ = .ok (.iload 7, 2) by decide +kernel) ?_
    refine fw_isub (show decode _ _ = .ok (.isub, 1) by decide +kernel) ?_
    refine fw_iconst (v := (3 : Int32)) (show decode _ _ = .ok (.iconst 3, 1) by decide +kernel) (by decide) ?_
    refine fw_icmp_ge 31 (show decode _ _ = .ok (.if_icmp .ge 12, 3) by decide +kernel) (by decide) (fun hc27 => ?_) (fun hc27 => ?_)
    · have h_16 := ipos hc27 h_15
      refine fw_iconst (v := (1 : Int32)) (show decode _ _ = .ok (.iconst 1, 1) by decide +kernel) (by decide) ?_
      refine fw_goto 36 (show decode _ _ = .ok (.goto 4, 3) by decide +kernel) (by decide) ?_
      exact fw_ret (v := some (.int (1 : Int32))) .ireturn (show decode _ _ = .ok (.ireturn, 1) by decide +kernel) ⟨rfl, Or.inr (Or.inl ⟨rfl, rfl⟩)⟩ ⟨_, rfl, h_16⟩
    · have h_17 := ineg hc27 h_15
      refine fw_iload (i := 7) 8 rfl (show decode _ _ = .ok (.iload 7, 2) by decide +kernel) ?_
      refine fw_iload (i := 6) 7 rfl (show decode _ _ = .ok (.iload 6, 2) by decide +kernel) ?_
      refine fw_isub (show decode _ _ = .ok (.isub, 1) by decide +kernel) ?_
      refine fw_iconst (v := (3 : Int32)) (show decode _ _ = .ok (.iconst 3, 1) by decide +kernel) (by decide) ?_
      refine fw_icmp_lt 35 (show decode _ _ = .ok (.if_icmp .lt 7, 3) by decide +kernel) (by decide) (fun hc26 => ?_) (fun hc26 => ?_)
      · have h_18 := ipos hc26 h_17
        refine fw_iconst (v := (0 : Int32)) (show decode _ _ = .ok (.iconst 0, 1) by decide +kernel) (by decide) ?_
        exact fw_ret (v := some (.int (0 : Int32))) .ireturn (show decode _ _ = .ok (.ireturn, 1) by decide +kernel) ⟨rfl, Or.inr (Or.inl ⟨rfl, rfl⟩)⟩ ⟨_, rfl, h_18⟩
      · have h_19 := ineg hc26 h_17
        refine fw_iconst (v := (1 : Int32)) (show decode _ _ = .ok (.iconst 1, 1) by decide +kernel) (by decide) ?_
        refine fw_goto 36 (show decode _ _ = .ok (.goto 4, 3) by decide +kernel) (by decide) ?_
        exact fw_ret (v := some (.int (1 : Int32))) .ireturn (show decode _ _ = .ok (.ireturn, 1) by decide +kernel) ⟨rfl, Or.inr (Or.inl ⟨rfl, rfl⟩)⟩ ⟨_, rfl, h_19⟩
def b_X11_isSmooth_3 (K3 : Nat → Int32 → Int32 → Int32 → Int32 → Int32 → fM → Prop) (φ : Int32 → fM → Prop) (p0 : Nat) (p1 : Int32) (p2 : Int32) (p3 : Int32) (p4 : Int32) (p5 : Int32) (M : fM) : Prop := isO M p0 11 ∧ dR (mP M p0 0) fun y4 => inA M y4 12 (0 : Int32) ∧ iF ((mI M y4 (ix (0 : Int32))) ≤ p5) (φ (1 : Int32) M) (dR (mP M p0 0) fun y9 => inA M y9 12 (4 : Int32) ∧ w_X11_tripsBy p0 (mI M y9 (ix (4 : Int32))) p5 p1 (0 : Int32) p2 p3 p4 M fun x15 M14 => iF (x15 = 0) (nm (p5 + (1 : Int32)) fun x16 => K3 p0 p1 p2 p3 p4 x16 M14) (φ (0 : Int32) M14))
def l_X11_isSmooth_3 (φ : Int32 → fM → Prop) : Nat → Nat → Int32 → Int32 → Int32 → Int32 → Int32 → fM → Prop
  | 0, _, _, _, _, _, _, _ => False
  | n + 1, p0, p1, p2, p3, p4, p5, M => b_X11_isSmooth_3 (l_X11_isSmooth_3 φ n) φ p0 p1 p2 p3 p4 p5 M
set_option maxRecDepth 100000 in
theorem sb_X11_isSmooth_3 {g : GT} {d : Nat} (hd : 5 ≤ d + 1) {K3 : Nat → Int32 → Int32 → Int32 → Int32 → Int32 → fM → Prop} {φ : Int32 → fM → Prop} (hK3 : ∀ (p0 : Nat) (p1 : Int32) (p2 : Int32) (p3 : Int32) (p4 : Int32) (p5 : Int32) (M : fM), K3 p0 p1 p2 p3 p4 p5 M → FW g mtX11_isSmooth (d + 1) 3 [(0, .ref p0), (1, .int p1), (2, .int p2), (3, .int p3), (4, .int p4), (5, .int p5)] [] M 0 0 (rI φ)) {p0 : Nat} {p1 : Int32} {p2 : Int32} {p3 : Int32} {p4 : Int32} {p5 : Int32} {M : fM} (h : b_X11_isSmooth_3 K3 φ p0 p1 p2 p3 p4 p5 M) : FW g mtX11_isSmooth (d + 1) 3 [(0, .ref p0), (1, .int p1), (2, .int p2), (3, .int p3), (4, .int p4), (5, .int p5)] [] M 0 0 (rI φ) := by
  unfold b_X11_isSmooth_3 at h
  refine fw_iload (i := 5) 5 rfl (show decode _ _ = .ok (.iload 5, 2) by decide +kernel) ?_
  refine fw_aload_n (i := 0) 0 rfl (show decode _ _ = .ok (.aload_n 0, 1) by decide +kernel) ?_
  obtain ⟨⟨hr2, n1, hs3⟩, h_1⟩ := h
  refine fw_getP (kd := 11) (k := 0) (show decode _ _ = .ok (.getfield 7, 3) by decide +kernel) gf_X11_7 hr2 hs3 rfl ?_
  have h_2 := dR_e h_1
  obtain ⟨y4, hy5, h_3⟩ := h_2
  refine fw_deref hy5 ?_
  refine fw_iconst (v := (0 : Int32)) (show decode _ _ = .ok (.iconst 0, 1) by decide +kernel) (by decide) ?_
  obtain ⟨⟨n6, hs7, hi8⟩, h_4⟩ := h_3
  refine fw_iald (show decode _ _ = .ok (.iaload, 1) by decide +kernel) hs7 hi8 ?_
  refine fw_icmp_ge 43 (show decode _ _ = .ok (.if_icmp .ge 32, 3) by decide +kernel) (by decide) (fun hc19 => ?_) (fun hc19 => ?_)
  · have h_5 := ipos hc19 h_4
    refine fw_iconst (v := (1 : Int32)) (show decode _ _ = .ok (.iconst 1, 1) by decide +kernel) (by decide) ?_
    exact fw_ret (v := some (.int (1 : Int32))) .ireturn (show decode _ _ = .ok (.ireturn, 1) by decide +kernel) ⟨rfl, Or.inr (Or.inl ⟨rfl, rfl⟩)⟩ ⟨_, rfl, h_5⟩
  · have h_6 := ineg hc19 h_4
    refine fw_aload_n (i := 0) 0 rfl (show decode _ _ = .ok (.aload_n 0, 1) by decide +kernel) ?_
    refine fw_aload_n (i := 0) 0 rfl (show decode _ _ = .ok (.aload_n 0, 1) by decide +kernel) ?_
    refine fw_getP (kd := 11) (k := 0) (show decode _ _ = .ok (.getfield 7, 3) by decide +kernel) gf_X11_7 hr2 hs3 rfl ?_
    have h_7 := dR_e h_6
    obtain ⟨y9, hy10, h_8⟩ := h_7
    refine fw_deref hy10 ?_
    refine fw_iconst (v := (4 : Int32)) (show decode _ _ = .ok (.iconst 4, 1) by decide +kernel) (by decide) ?_
    obtain ⟨⟨n11, hs12, hi13⟩, h_9⟩ := h_8
    refine fw_iald (show decode _ _ = .ok (.iaload, 1) by decide +kernel) hs12 hi13 ?_
    refine fw_iload (i := 5) 5 rfl (show decode _ _ = .ok (.iload 5, 2) by decide +kernel) ?_
    refine fw_iload_n (i := 1) 1 rfl (show decode _ _ = .ok (.iload_n 1, 1) by decide +kernel) ?_
    refine fw_iconst (v := (0 : Int32)) (show decode _ _ = .ok (.iconst 0, 1) by decide +kernel) (by decide) ?_
    refine fw_iload_n (i := 2) 2 rfl (show decode _ _ = .ok (.iload_n 2, 1) by decide +kernel) ?_
    refine fw_iload_n (i := 3) 3 rfl (show decode _ _ = .ok (.iload_n 3, 1) by decide +kernel) ?_
    refine fw_iload (i := 4) 4 rfl (show decode _ _ = .ok (.iload 4, 2) by decide +kernel) ?_
    refine fw_callV (mt' := mtX11_tripsBy) (mc := 0) (ms := 0) (As := [.int (mI M y9 (ix (4 : Int32))), .int p5, .int p1, .int (0 : Int32), .int p2, .int p3, .int p4]) (rest := []) 7 11 n1 (show decode _ _ = .ok (.invokevirtual 318, 3) by decide +kernel) cv_X11_318 ⟨_, rfl, rfl⟩ hr2 hs3 rfl (Nat.le_of_ble_eq_true rfl) (s_X11_tripsBy (d := d) (hd_le hd (by decide)) h_9) (by decide) (by decide) (kI (bc' := 0) (bs' := 0) (by decide) (by decide) (fun x15 M14 h_10 => ?_))
    refine fw_if_eq 37 (show decode _ _ = .ok (.ifCond .eq 5, 3) by decide +kernel) (by decide) (fun hc18 => ?_) (fun hc18 => ?_)
    · have h_11 := ipos hc18 h_10
      obtain ⟨x16, ex17⟩ : ∃ y : Int32, y = p5 + (1 : Int32) := ⟨_, rfl⟩
      have h_12 := h_11 x16 ex17
      refine fw_iinc (i := 5) (x := p5) (v := x16) (ls' := [(5, .int x16), (0, .ref p0), (1, .int p1), (2, .int p2), (3, .int p3), (4, .int p4)]) 5 rfl (show decode _ _ = .ok (.iinc 5 1, 3) by decide +kernel) (by rw [ex17]; rfl) (by decide) rfl ?_
      refine fw_goto 3 (show decode _ _ = .ok (.goto (-37), 3) by decide +kernel) (by decide) ?_
      refine FW.sub [1, 2, 3, 4, 5, 0] (ls' := [(0, .ref p0), (1, .int p1), (2, .int p2), (3, .int p3), (4, .int p4), (5, .int x16)]) rfl ?_
      exact hK3 _ _ _ _ _ _ _ h_12
    · have h_13 := ineg hc18 h_10
      refine fw_iconst (v := (0 : Int32)) (show decode _ _ = .ok (.iconst 0, 1) by decide +kernel) (by decide) ?_
      exact fw_ret (v := some (.int (0 : Int32))) .ireturn (show decode _ _ = .ok (.ireturn, 1) by decide +kernel) ⟨rfl, Or.inr (Or.inl ⟨rfl, rfl⟩)⟩ ⟨_, rfl, h_13⟩
theorem sl_X11_isSmooth_3 {g : GT} {d : Nat} (hd : 5 ≤ d + 1) {φ : Int32 → fM → Prop} : ∀ (n : Nat) {p0 : Nat} {p1 : Int32} {p2 : Int32} {p3 : Int32} {p4 : Int32} {p5 : Int32} {M : fM}, l_X11_isSmooth_3 φ n p0 p1 p2 p3 p4 p5 M → FW g mtX11_isSmooth (d + 1) 3 [(0, .ref p0), (1, .int p1), (2, .int p2), (3, .int p3), (4, .int p4), (5, .int p5)] [] M 0 0 (rI φ)
  | 0 => fun h => h.elim
  | n + 1 => fun h => sb_X11_isSmooth_3 hd (fun _ _ _ _ _ _ _ h => sl_X11_isSmooth_3 hd n h) h
def w_X11_isSmooth (p0 : Nat) (p1 : Int32) (p2 : Int32) (p3 : Int32) (p4 : Int32) (M : fM) (φ : Int32 → fM → Prop) : Prop := ∃ n, l_X11_isSmooth_3 φ n p0 p1 p2 p3 p4 (0 : Int32) M
set_option maxRecDepth 100000 in
theorem s_X11_isSmooth {g : GT} {d : Nat} (hd : 5 ≤ d) {p0 : Nat} {p1 : Int32} {p2 : Int32} {p3 : Int32} {p4 : Int32} {M : fM} {φ : Int32 → fM → Prop} (h : w_X11_isSmooth p0 p1 p2 p3 p4 M φ) : FC g mtX11_isSmooth d [.ref p0, .int p1, .int p2, .int p3, .int p4] M 0 0 (rI φ) := by
  obtain ⟨d, rfl⟩ : ∃ e, d = e + 1 := ⟨d - 1, by omega⟩
  unfold w_X11_isSmooth at h
  refine FC.intro (nL := 6) (by decide) rfl (Nat.le_of_ble_eq_true rfl) ?_
  show FW g mtX11_isSmooth (d + 1) 0 [(0, .ref p0), (1, .int p1), (2, .int p2), (3, .int p3), (4, .int p4)] [] M 0 0 (rI φ)
  refine fw_iconst (v := (0 : Int32)) (show decode _ _ = .ok (.iconst 0, 1) by decide +kernel) (by decide) ?_
  refine fw_istore (i := 5) (ls' := [(5, .int (0 : Int32)), (0, .ref p0), (1, .int p1), (2, .int p2), (3, .int p3), (4, .int p4)]) (show decode _ _ = .ok (.istore 5, 2) by decide +kernel) (by decide) rfl ?_
  refine FW.sub [1, 2, 3, 4, 5, 0] (ls' := [(0, .ref p0), (1, .int p1), (2, .int p2), (3, .int p3), (4, .int p4), (5, .int (0 : Int32))]) rfl ?_
  obtain ⟨nn, h_1⟩ := h
  exact sl_X11_isSmooth_3 hd nn h_1
def w_X11_heightOf (p0 : Nat) (p1 : Int32) (p2 : Int32) (M : fM) (φ : Int32 → fM → Prop) : Prop := iF (p2 = 0) (φ (5 : Int32) M) (isO M p0 11 ∧ dR (mP M p0 0) fun y4 => inA M y4 12 ((((10 : Int32) + ((18 : Int32) * p1)) + (3 : Int32)) + p2) ∧ φ (mI M y4 (ix ((((10 : Int32) + ((18 : Int32) * p1)) + (3 : Int32)) + p2))) M)
set_option maxRecDepth 100000 in
theorem s_X11_heightOf {g : GT} {d : Nat} (hd : 1 ≤ d) {p0 : Nat} {p1 : Int32} {p2 : Int32} {M : fM} {φ : Int32 → fM → Prop} (h : w_X11_heightOf p0 p1 p2 M φ) : FC g mtX11_heightOf d [.ref p0, .int p1, .int p2] M 0 0 (rI φ) := by
  obtain ⟨d, rfl⟩ : ∃ e, d = e + 1 := ⟨d - 1, by omega⟩
  unfold w_X11_heightOf at h
  refine FC.intro (nL := 3) (by decide) rfl (Nat.le_of_ble_eq_true rfl) ?_
  show FW g mtX11_heightOf (d + 1) 0 [(0, .ref p0), (1, .int p1), (2, .int p2)] [] M 0 0 (rI φ)
  refine fw_iload_n (i := 2) 2 rfl (show decode _ _ = .ok (.iload_n 2, 1) by decide +kernel) ?_
  refine fw_if_ne 8 (show decode _ _ = .ok (.ifCond .ne 7, 3) by decide +kernel) (by decide) (fun hc9 => ?_) (fun hc9 => ?_)
  · have h_1 := ineg hc9 h
    refine fw_aload_n (i := 0) 0 rfl (show decode _ _ = .ok (.aload_n 0, 1) by decide +kernel) ?_
    obtain ⟨⟨hr2, n1, hs3⟩, h_2⟩ := h_1
    refine fw_getP (kd := 11) (k := 0) (show decode _ _ = .ok (.getfield 7, 3) by decide +kernel) gf_X11_7 hr2 hs3 rfl ?_
    have h_3 := dR_e h_2
    obtain ⟨y4, hy5, h_4⟩ := h_3
    refine fw_deref hy5 ?_
    refine fw_bipush (v := (10 : Int32)) (show decode _ _ = .ok (.bipush 10, 2) by decide +kernel) (by decide) ?_
    refine fw_bipush (v := (18 : Int32)) (show decode _ _ = .ok (.bipush 18, 2) by decide +kernel) (by decide) ?_
    refine fw_iload_n (i := 1) 1 rfl (show decode _ _ = .ok (.iload_n 1, 1) by decide +kernel) ?_
    refine fw_imul (show decode _ _ = .ok (.imul, 1) by decide +kernel) ?_
    refine fw_iadd (show decode _ _ = .ok (.iadd, 1) by decide +kernel) ?_
    refine fw_iconst (v := (3 : Int32)) (show decode _ _ = .ok (.iconst 3, 1) by decide +kernel) (by decide) ?_
    refine fw_iadd (show decode _ _ = .ok (.iadd, 1) by decide +kernel) ?_
    refine fw_iload_n (i := 2) 2 rfl (show decode _ _ = .ok (.iload_n 2, 1) by decide +kernel) ?_
    refine fw_iadd (show decode _ _ = .ok (.iadd, 1) by decide +kernel) ?_
    obtain ⟨⟨n6, hs7, hi8⟩, h_5⟩ := h_4
    refine fw_iald (show decode _ _ = .ok (.iaload, 1) by decide +kernel) hs7 hi8 ?_
    exact fw_ret (v := some (.int (mI M y4 (ix ((((10 : Int32) + ((18 : Int32) * p1)) + (3 : Int32)) + p2))))) .ireturn (show decode _ _ = .ok (.ireturn, 1) by decide +kernel) ⟨rfl, Or.inl rfl⟩ ⟨_, rfl, h_5⟩
  · have h_6 := ipos hc9 h
    refine fw_iconst (v := (5 : Int32)) (show decode _ _ = .ok (.iconst 5, 1) by decide +kernel) (by decide) ?_
    refine fw_goto 24 (show decode _ _ = .ok (.goto 19, 3) by decide +kernel) (by decide) ?_
    exact fw_ret (v := some (.int (5 : Int32))) .ireturn (show decode _ _ = .ok (.ireturn, 1) by decide +kernel) ⟨rfl, Or.inl rfl⟩ ⟨_, rfl, h_6⟩
def w_X11_workOf (p0 : Nat) (p1 : Int32) (p2 : Int32) (p3 : Int32) (p4 : Int32) (M : fM) (φ : Int32 → fM → Prop) : Prop := isO M p0 11 ∧ w_X11_heightOf p0 p1 p2 M fun x5 M1 => nm (p3 - x5) fun x6 => iF (0 ≤ x6) (iF (p4 = 0) (φ x6 M1) (iF (x6 ≤ 0) (φ x6 M1) (φ (1 : Int32) M1))) (iF (p4 = 0) (φ (-x6) M1) (φ (1 : Int32) M1))
set_option maxRecDepth 100000 in
theorem s_X11_workOf {g : GT} {d : Nat} (hd : 2 ≤ d) {p0 : Nat} {p1 : Int32} {p2 : Int32} {p3 : Int32} {p4 : Int32} {M : fM} {φ : Int32 → fM → Prop} (h : w_X11_workOf p0 p1 p2 p3 p4 M φ) : FC g mtX11_workOf d [.ref p0, .int p1, .int p2, .int p3, .int p4] M 0 0 (rI φ) := by
  obtain ⟨d, rfl⟩ : ∃ e, d = e + 1 := ⟨d - 1, by omega⟩
  unfold w_X11_workOf at h
  refine FC.intro (nL := 6) (by decide) rfl (Nat.le_of_ble_eq_true rfl) ?_
  show FW g mtX11_workOf (d + 1) 0 [(0, .ref p0), (1, .int p1), (2, .int p2), (3, .int p3), (4, .int p4)] [] M 0 0 (rI φ)
  refine fw_iload_n (i := 3) 3 rfl (show decode _ _ = .ok (.iload_n 3, 1) by decide +kernel) ?_
  refine fw_aload_n (i := 0) 0 rfl (show decode _ _ = .ok (.aload_n 0, 1) by decide +kernel) ?_
  refine fw_iload_n (i := 1) 1 rfl (show decode _ _ = .ok (.iload_n 1, 1) by decide +kernel) ?_
  refine fw_iload_n (i := 2) 2 rfl (show decode _ _ = .ok (.iload_n 2, 1) by decide +kernel) ?_
  obtain ⟨⟨hr3, n2, hs4⟩, h_1⟩ := h
  refine fw_callV (mt' := mtX11_heightOf) (mc := 0) (ms := 0) (As := [.int p1, .int p2]) (rest := [.int p3]) 2 11 n2 (show decode _ _ = .ok (.invokevirtual 300, 3) by decide +kernel) cv_X11_300 ⟨_, rfl, rfl⟩ hr3 hs4 rfl (Nat.le_of_ble_eq_true rfl) (s_X11_heightOf (d := d) (hd_le hd (by decide)) h_1) (by decide) (by decide) (kI (bc' := 0) (bs' := 0) (by decide) (by decide) (fun x5 M1 h_2 => ?_))
  refine fw_isub (show decode _ _ = .ok (.isub, 1) by decide +kernel) ?_
  refine fw_nmI (fun x6 ex7 => ?_)
  have h_3 := h_2 x6 ex7
  refine fw_istore (i := 5) (ls' := [(5, .int x6), (0, .ref p0), (1, .int p1), (2, .int p2), (3, .int p3), (4, .int p4)]) (show decode _ _ = .ok (.istore 5, 2) by decide +kernel) (by decide) rfl ?_
  refine fw_iload (i := 5) 0 rfl (show decode _ _ = .ok (.iload 5, 2) by decide +kernel) ?_
  refine fw_if_ge 30 (show decode _ _ = .ok (.ifCond .ge 18, 3) by decide +kernel) (by decide) (fun hc11 => ?_) (fun hc11 => ?_)
  · have h_4 := ipos hc11 h_3
    refine fw_iload (i := 4) 5 rfl (show decode _ _ = .ok (.iload 4, 2) by decide +kernel) ?_
    refine fw_if_eq 44 (show decode _ _ = .ok (.ifCond .eq 12, 3) by decide +kernel) (by decide) (fun hc9 => ?_) (fun hc9 => ?_)
    · have h_5 := ipos hc9 h_4
      refine fw_iload (i := 5) 0 rfl (show decode _ _ = .ok (.iload 5, 2) by decide +kernel) ?_
      exact fw_ret (v := some (.int x6)) .ireturn (show decode _ _ = .ok (.ireturn, 1) by decide +kernel) ⟨rfl, Or.inl rfl⟩ ⟨_, rfl, h_5⟩
    · have h_6 := ineg hc9 h_4
      refine fw_iload (i := 5) 0 rfl (show decode _ _ = .ok (.iload 5, 2) by decide +kernel) ?_
      refine fw_if_le 44 (show decode _ _ = .ok (.ifCond .le 7, 3) by decide +kernel) (by decide) (fun hc8 => ?_) (fun hc8 => ?_)
      · have h_7 := ipos hc8 h_6
        refine fw_iload (i := 5) 0 rfl (show decode _ _ = .ok (.iload 5, 2) by decide +kernel) ?_
        exact fw_ret (v := some (.int x6)) .ireturn (show decode _ _ = .ok (.ireturn, 1) by decide +kernel) ⟨rfl, Or.inl rfl⟩ ⟨_, rfl, h_7⟩
      · have h_8 := ineg hc8 h_6
        refine fw_iconst (v := (1 : Int32)) (show decode _ _ = .ok (.iconst 1, 1) by decide +kernel) (by decide) ?_
        refine fw_goto 46 (show decode _ _ = .ok (.goto 5, 3) by decide +kernel) (by decide) ?_
        exact fw_ret (v := some (.int (1 : Int32))) .ireturn (show decode _ _ = .ok (.ireturn, 1) by decide +kernel) ⟨rfl, Or.inl rfl⟩ ⟨_, rfl, h_8⟩
  · have h_9 := ineg hc11 h_3
    refine fw_iload (i := 4) 5 rfl (show decode _ _ = .ok (.iload 4, 2) by decide +kernel) ?_
    refine fw_if_eq 24 (show decode _ _ = .ok (.ifCond .eq 7, 3) by decide +kernel) (by decide) (fun hc10 => ?_) (fun hc10 => ?_)
    · have h_10 := ipos hc10 h_9
      refine fw_iload (i := 5) 0 rfl (show decode _ _ = .ok (.iload 5, 2) by decide +kernel) ?_
      refine fw_ineg (show decode _ _ = .ok (.ineg, 1) by decide +kernel) ?_
      refine fw_goto 46 (show decode _ _ = .ok (.goto 19, 3) by decide +kernel) (by decide) ?_
      exact fw_ret (v := some (.int (-x6))) .ireturn (show decode _ _ = .ok (.ireturn, 1) by decide +kernel) ⟨rfl, Or.inl rfl⟩ ⟨_, rfl, h_10⟩
    · have h_11 := ineg hc10 h_9
      refine fw_iconst (v := (1 : Int32)) (show decode _ _ = .ok (.iconst 1, 1) by decide +kernel) (by decide) ?_
      refine fw_goto 46 (show decode _ _ = .ok (.goto 25, 3) by decide +kernel) (by decide) ?_
      exact fw_ret (v := some (.int (1 : Int32))) .ireturn (show decode _ _ = .ok (.ireturn, 1) by decide +kernel) ⟨rfl, Or.inl rfl⟩ ⟨_, rfl, h_11⟩
def j_X11_workBy_26 (φ : Int32 → fM → Prop) (p0 : Nat) (p1 : Int32) (p2 : Int32) (p3 : Int32) (p4 : Int32) (p5 : Int32) (s0 : Int32) (M : fM) : Prop := iF ((1000000 : Int32) ≤ s0) (φ (1000000 : Int32) M) (isO M p0 11 ∧ w_X11_isSmooth p0 p1 p2 p3 p4 M fun x5 M1 => iF (x5 = 0) (φ (1000000 : Int32) M1) (isO M1 p0 11 ∧ w_X11_workOf p0 p1 p2 p3 p5 M1 fun x10 M6 => φ (s0 + x10) M6))
set_option maxRecDepth 100000 in
theorem sj_X11_workBy_26 {g : GT} {d : Nat} (hd : 6 ≤ d + 1) {φ : Int32 → fM → Prop} {p0 : Nat} {p1 : Int32} {p2 : Int32} {p3 : Int32} {p4 : Int32} {p5 : Int32} {s0 : Int32} {M : fM} (h : j_X11_workBy_26 φ p0 p1 p2 p3 p4 p5 s0 M) : FW g mtX11_workBy (d + 1) 26 [(0, .ref p0), (1, .int p1), (2, .int p2), (3, .int p3), (4, .int p4), (5, .int p5)] [.int s0] M 0 0 (rI φ) := by
  unfold j_X11_workBy_26 at h
  refine fw_istore (i := 6) (ls' := [(6, .int s0), (0, .ref p0), (1, .int p1), (2, .int p2), (3, .int p3), (4, .int p4), (5, .int p5)]) (show decode _ _ = .ok (.istore 6, 2) by decide +kernel) (by decide) rfl ?_
  refine fw_iload (i := 6) 0 rfl (show decode _ _ = .ok (.iload 6, 2) by decide +kernel) ?_
  refine fw_ldcw (idx := 469) (v := (1000000 : Int32)) (show decode _ _ = .ok (.ldc_w 469, 3) by decide +kernel) wd2011 ?_
  refine fw_icmp_ge 48 (show decode _ _ = .ok (.if_icmp .ge 15, 3) by decide +kernel) (by decide) (fun hc12 => ?_) (fun hc12 => ?_)
  · have h_1 := ipos hc12 h
    refine fw_ldcw (idx := 469) (v := (1000000 : Int32)) (show decode _ _ = .ok (.ldc_w 469, 3) by decide +kernel) wd2011 ?_
    refine fw_goto 66 (show decode _ _ = .ok (.goto 15, 3) by decide +kernel) (by decide) ?_
    exact fw_ret (v := some (.int (1000000 : Int32))) .ireturn (show decode _ _ = .ok (.ireturn, 1) by decide +kernel) ⟨rfl, Or.inl rfl⟩ ⟨_, rfl, h_1⟩
  · have h_2 := ineg hc12 h
    refine fw_aload_n (i := 0) 1 rfl (show decode _ _ = .ok (.aload_n 0, 1) by decide +kernel) ?_
    refine fw_iload_n (i := 1) 2 rfl (show decode _ _ = .ok (.iload_n 1, 1) by decide +kernel) ?_
    refine fw_iload_n (i := 2) 3 rfl (show decode _ _ = .ok (.iload_n 2, 1) by decide +kernel) ?_
    refine fw_iload_n (i := 3) 4 rfl (show decode _ _ = .ok (.iload_n 3, 1) by decide +kernel) ?_
    refine fw_iload (i := 4) 5 rfl (show decode _ _ = .ok (.iload 4, 2) by decide +kernel) ?_
    obtain ⟨⟨hr3, n2, hs4⟩, h_3⟩ := h_2
    refine fw_callV (mt' := mtX11_isSmooth) (mc := 0) (ms := 0) (As := [.int p1, .int p2, .int p3, .int p4]) (rest := []) 4 11 n2 (show decode _ _ = .ok (.invokevirtual 470, 3) by decide +kernel) cv_X11_470 ⟨_, rfl, rfl⟩ hr3 hs4 rfl (Nat.le_of_ble_eq_true rfl) (s_X11_isSmooth (d := d) (hd_le hd (by decide)) h_3) (by decide) (by decide) (kI (bc' := 0) (bs' := 0) (by decide) (by decide) (fun x5 M1 h_4 => ?_))
    refine fw_if_ne 54 (show decode _ _ = .ok (.ifCond .ne 9, 3) by decide +kernel) (by decide) (fun hc11 => ?_) (fun hc11 => ?_)
    · have h_5 := ineg hc11 h_4
      refine fw_iload (i := 6) 0 rfl (show decode _ _ = .ok (.iload 6, 2) by decide +kernel) ?_
      refine fw_aload_n (i := 0) 1 rfl (show decode _ _ = .ok (.aload_n 0, 1) by decide +kernel) ?_
      refine fw_iload_n (i := 1) 2 rfl (show decode _ _ = .ok (.iload_n 1, 1) by decide +kernel) ?_
      refine fw_iload_n (i := 2) 3 rfl (show decode _ _ = .ok (.iload_n 2, 1) by decide +kernel) ?_
      refine fw_iload_n (i := 3) 4 rfl (show decode _ _ = .ok (.iload_n 3, 1) by decide +kernel) ?_
      refine fw_iload (i := 5) 6 rfl (show decode _ _ = .ok (.iload 5, 2) by decide +kernel) ?_
      obtain ⟨⟨hr8, n7, hs9⟩, h_6⟩ := h_5
      refine fw_callV (mt' := mtX11_workOf) (mc := 0) (ms := 0) (As := [.int p1, .int p2, .int p3, .int p5]) (rest := [.int s0]) 4 11 n7 (show decode _ _ = .ok (.invokevirtual 473, 3) by decide +kernel) cv_X11_473 ⟨_, rfl, rfl⟩ hr8 hs9 rfl (Nat.le_of_ble_eq_true rfl) (s_X11_workOf (d := d) (hd_le hd (by decide)) h_6) (by decide) (by decide) (kI (bc' := 0) (bs' := 0) (by decide) (by decide) (fun x10 M6 h_7 => ?_))
      refine fw_iadd (show decode _ _ = .ok (.iadd, 1) by decide +kernel) ?_
      exact fw_ret (v := some (.int (s0 + x10))) .ireturn (show decode _ _ = .ok (.ireturn, 1) by decide +kernel) ⟨rfl, Or.inl rfl⟩ ⟨_, rfl, h_7⟩
    · have h_8 := ipos hc11 h_4
      refine fw_ldcw (idx := 469) (v := (1000000 : Int32)) (show decode _ _ = .ok (.ldc_w 469, 3) by decide +kernel) wd2011 ?_
      refine fw_goto 66 (show decode _ _ = .ok (.goto 15, 3) by decide +kernel) (by decide) ?_
      exact fw_ret (v := some (.int (1000000 : Int32))) .ireturn (show decode _ _ = .ok (.ireturn, 1) by decide +kernel) ⟨rfl, Or.inl rfl⟩ ⟨_, rfl, h_8⟩
def w_X11_workBy (p0 : Nat) (p1 : Int32) (p2 : Int32) (p3 : Int32) (p4 : Int32) (p5 : Int32) (M : fM) (φ : Int32 → fM → Prop) : Prop := isO M p0 11 ∧ w_X11_stepsOf p0 p1 M fun x17 M13 => iF (p2 = x17) (j_X11_workBy_26 φ p0 p1 p2 p3 p4 p5 (0 : Int32) M13) (isO M13 p0 11 ∧ dR (mP M13 p0 31) fun y21 => inA M13 y21 12 (((10 : Int32) * (p2 + (1 : Int32))) + p3) ∧ j_X11_workBy_26 φ p0 p1 p2 p3 p4 p5 (mI M13 y21 (ix (((10 : Int32) * (p2 + (1 : Int32))) + p3))) M13)
set_option maxRecDepth 100000 in
theorem s_X11_workBy {g : GT} {d : Nat} (hd : 6 ≤ d) {p0 : Nat} {p1 : Int32} {p2 : Int32} {p3 : Int32} {p4 : Int32} {p5 : Int32} {M : fM} {φ : Int32 → fM → Prop} (h : w_X11_workBy p0 p1 p2 p3 p4 p5 M φ) : FC g mtX11_workBy d [.ref p0, .int p1, .int p2, .int p3, .int p4, .int p5] M 0 0 (rI φ) := by
  obtain ⟨d, rfl⟩ : ∃ e, d = e + 1 := ⟨d - 1, by omega⟩
  unfold w_X11_workBy at h
  refine FC.intro (nL := 7) (by decide) rfl (Nat.le_of_ble_eq_true rfl) ?_
  show FW g mtX11_workBy (d + 1) 0 [(0, .ref p0), (1, .int p1), (2, .int p2), (3, .int p3), (4, .int p4), (5, .int p5)] [] M 0 0 (rI φ)
  refine fw_iload_n (i := 2) 2 rfl (show decode _ _ = .ok (.iload_n 2, 1) by decide +kernel) ?_
  refine fw_aload_n (i := 0) 0 rfl (show decode _ _ = .ok (.aload_n 0, 1) by decide +kernel) ?_
  refine fw_iload_n (i := 1) 1 rfl (show decode _ _ = .ok (.iload_n 1, 1) by decide +kernel) ?_
  obtain ⟨⟨hr15, n14, hs16⟩, h_1⟩ := h
  refine fw_callV (mt' := mtX11_stepsOf) (mc := 0) (ms := 0) (As := [.int p1]) (rest := [.int p2]) 1 11 n14 (show decode _ _ = .ok (.invokevirtual 74, 3) by decide +kernel) cv_X11_74 ⟨_, rfl, rfl⟩ hr15 hs16 rfl (Nat.le_of_ble_eq_true rfl) (s_X11_stepsOf (d := d) (hd_le hd (by decide)) h_1) (by decide) (by decide) (kI (bc' := 0) (bs' := 0) (by decide) (by decide) (fun x17 M13 h_2 => ?_))
  refine fw_icmp_ne 13 (show decode _ _ = .ok (.if_icmp .ne 7, 3) by decide +kernel) (by decide) (fun hc26 => ?_) (fun hc26 => ?_)
  · have h_3 := ineg hc26 h_2
    refine fw_aload_n (i := 0) 0 rfl (show decode _ _ = .ok (.aload_n 0, 1) by decide +kernel) ?_
    obtain ⟨⟨hr19, n18, hs20⟩, h_4⟩ := h_3
    refine fw_getP (kd := 11) (k := 31) (show decode _ _ = .ok (.getfield 49, 3) by decide +kernel) gf_X11_49 hr19 hs20 rfl ?_
    have h_5 := dR_e h_4
    obtain ⟨y21, hy22, h_6⟩ := h_5
    refine fw_deref hy22 ?_
    refine fw_bipush (v := (10 : Int32)) (show decode _ _ = .ok (.bipush 10, 2) by decide +kernel) (by decide) ?_
    refine fw_iload_n (i := 2) 2 rfl (show decode _ _ = .ok (.iload_n 2, 1) by decide +kernel) ?_
    refine fw_iconst (v := (1 : Int32)) (show decode _ _ = .ok (.iconst 1, 1) by decide +kernel) (by decide) ?_
    refine fw_iadd (show decode _ _ = .ok (.iadd, 1) by decide +kernel) ?_
    refine fw_imul (show decode _ _ = .ok (.imul, 1) by decide +kernel) ?_
    refine fw_iload_n (i := 3) 3 rfl (show decode _ _ = .ok (.iload_n 3, 1) by decide +kernel) ?_
    refine fw_iadd (show decode _ _ = .ok (.iadd, 1) by decide +kernel) ?_
    obtain ⟨⟨n23, hs24, hi25⟩, h_7⟩ := h_6
    refine fw_iald (show decode _ _ = .ok (.iaload, 1) by decide +kernel) hs24 hi25 ?_
    refine FW.sub [0, 1, 2, 3, 4, 5] (ls' := [(0, .ref p0), (1, .int p1), (2, .int p2), (3, .int p3), (4, .int p4), (5, .int p5)]) rfl ?_
    exact sj_X11_workBy_26 hd h_7
  · have h_8 := ipos hc26 h_2
    refine fw_iconst (v := (0 : Int32)) (show decode _ _ = .ok (.iconst 0, 1) by decide +kernel) (by decide) ?_
    refine fw_goto 26 (show decode _ _ = .ok (.goto 16, 3) by decide +kernel) (by decide) ?_
    refine FW.sub [0, 1, 2, 3, 4, 5] (ls' := [(0, .ref p0), (1, .int p1), (2, .int p2), (3, .int p3), (4, .int p4), (5, .int p5)]) rfl ?_
    exact sj_X11_workBy_26 hd h_8
def b_X11_findWork_28 (K6 : Nat → Int32 → Int32 → Int32 → fM → Prop) (K13 : Nat → Int32 → Int32 → Int32 → Int32 → fM → Prop) (K28 : Nat → Int32 → Int32 → Int32 → Int32 → Int32 → Int32 → fM → Prop) (φ : fM → Prop) (p0 : Nat) (p1 : Int32) (p2 : Int32) (p3 : Int32) (p4 : Int32) (p5 : Int32) (p6 : Int32) (M : fM) : Prop := iF ((10 : Int32) ≤ p6) (isO M p0 11 ∧ dR (mP M p0 31) fun y4 => 6 ≤ y4 ∧ inA M y4 12 (((10 : Int32) * p3) + p4) ∧ st (wI M y4 (ix (((10 : Int32) * p3) + p4)) p5) fun M10 => nm (p4 + (1 : Int32)) fun x12 => K13 p0 p1 p2 p3 x12 M10) (isO M p0 11 ∧ w_X11_workBy p0 p1 p3 p6 p4 p2 M fun x18 M14 => iF (p5 ≤ x18) (nm (p6 + (1 : Int32)) fun x19 => K28 p0 p1 p2 p3 p4 p5 x19 M14) (nm (p6 + (1 : Int32)) fun x21 => K28 p0 p1 p2 p3 p4 x18 x21 M14))
def l_X11_findWork_28 (K6 : Nat → Int32 → Int32 → Int32 → fM → Prop) (K13 : Nat → Int32 → Int32 → Int32 → Int32 → fM → Prop) (φ : fM → Prop) : Nat → Nat → Int32 → Int32 → Int32 → Int32 → Int32 → Int32 → fM → Prop
  | 0, _, _, _, _, _, _, _, _ => False
  | n + 1, p0, p1, p2, p3, p4, p5, p6, M => b_X11_findWork_28 K6 K13 (l_X11_findWork_28 K6 K13 φ n) φ p0 p1 p2 p3 p4 p5 p6 M
set_option maxRecDepth 100000 in
theorem sb_X11_findWork_28 {g : GT} {d : Nat} (hd : 7 ≤ d + 1) {K6 : Nat → Int32 → Int32 → Int32 → fM → Prop} {K13 : Nat → Int32 → Int32 → Int32 → Int32 → fM → Prop} {K28 : Nat → Int32 → Int32 → Int32 → Int32 → Int32 → Int32 → fM → Prop} {φ : fM → Prop} (hK6 : ∀ (p0 : Nat) (p1 : Int32) (p2 : Int32) (p3 : Int32) (M : fM), K6 p0 p1 p2 p3 M → FW g mtX11_findWork (d + 1) 6 [(0, .ref p0), (1, .int p1), (2, .int p2), (3, .int p3)] [] M 0 0 (rV φ)) (hK13 : ∀ (p0 : Nat) (p1 : Int32) (p2 : Int32) (p3 : Int32) (p4 : Int32) (M : fM), K13 p0 p1 p2 p3 p4 M → FW g mtX11_findWork (d + 1) 13 [(0, .ref p0), (1, .int p1), (2, .int p2), (3, .int p3), (4, .int p4)] [] M 0 0 (rV φ)) (hK28 : ∀ (p0 : Nat) (p1 : Int32) (p2 : Int32) (p3 : Int32) (p4 : Int32) (p5 : Int32) (p6 : Int32) (M : fM), K28 p0 p1 p2 p3 p4 p5 p6 M → FW g mtX11_findWork (d + 1) 28 [(0, .ref p0), (1, .int p1), (2, .int p2), (3, .int p3), (4, .int p4), (5, .int p5), (6, .int p6)] [] M 0 0 (rV φ)) {p0 : Nat} {p1 : Int32} {p2 : Int32} {p3 : Int32} {p4 : Int32} {p5 : Int32} {p6 : Int32} {M : fM} (h : b_X11_findWork_28 K6 K13 K28 φ p0 p1 p2 p3 p4 p5 p6 M) : FW g mtX11_findWork (d + 1) 28 [(0, .ref p0), (1, .int p1), (2, .int p2), (3, .int p3), (4, .int p4), (5, .int p5), (6, .int p6)] [] M 0 0 (rV φ) := by
  unfold b_X11_findWork_28 at h
  refine fw_iload (i := 6) 6 rfl (show decode _ _ = .ok (.iload 6, 2) by decide +kernel) ?_
  refine fw_bipush (v := (10 : Int32)) (show decode _ _ = .ok (.bipush 10, 2) by decide +kernel) (by decide) ?_
  refine fw_icmp_ge 70 (show decode _ _ = .ok (.if_icmp .ge 38, 3) by decide +kernel) (by decide) (fun hc24 => ?_) (fun hc24 => ?_)
  · have h_1 := ipos hc24 h
    refine fw_aload_n (i := 0) 0 rfl (show decode _ _ = .ok (.aload_n 0, 1) by decide +kernel) ?_
    obtain ⟨⟨hr2, n1, hs3⟩, h_2⟩ := h_1
    refine fw_getP (kd := 11) (k := 31) (show decode _ _ = .ok (.getfield 49, 3) by decide +kernel) gf_X11_49 hr2 hs3 rfl ?_
    have h_3 := dR_e h_2
    obtain ⟨y4, hy5, h_4⟩ := h_3
    refine fw_deref hy5 ?_
    refine fw_bipush (v := (10 : Int32)) (show decode _ _ = .ok (.bipush 10, 2) by decide +kernel) (by decide) ?_
    refine fw_iload_n (i := 3) 3 rfl (show decode _ _ = .ok (.iload_n 3, 1) by decide +kernel) ?_
    refine fw_imul (show decode _ _ = .ok (.imul, 1) by decide +kernel) ?_
    refine fw_iload (i := 4) 4 rfl (show decode _ _ = .ok (.iload 4, 2) by decide +kernel) ?_
    refine fw_iadd (show decode _ _ = .ok (.iadd, 1) by decide +kernel) ?_
    refine fw_iload (i := 5) 5 rfl (show decode _ _ = .ok (.iload 5, 2) by decide +kernel) ?_
    obtain ⟨hr9, ⟨n6, hs7, hi8⟩, h_5⟩ := h_4
    refine fw_iast (show decode _ _ = .ok (.iastore, 1) by decide +kernel) hr9 hs7 hi8 ?_
    refine FW.nmM (fun M10 eM11 => ?_)
    have h_6 := h_5 M10 eM11
    obtain ⟨x12, ex13⟩ : ∃ y : Int32, y = p4 + (1 : Int32) := ⟨_, rfl⟩
    have h_7 := h_6 x12 ex13
    refine fw_iinc (i := 4) (x := p4) (v := x12) (ls' := [(4, .int x12), (0, .ref p0), (1, .int p1), (2, .int p2), (3, .int p3), (5, .int p5), (6, .int p6)]) 4 rfl (show decode _ _ = .ok (.iinc 4 1, 3) by decide +kernel) (by rw [ex13]; rfl) (by decide) rfl ?_
    refine fw_goto 13 (show decode _ _ = .ok (.goto (-74), 3) by decide +kernel) (by decide) ?_
    refine FW.sub [1, 2, 3, 4, 0] (ls' := [(0, .ref p0), (1, .int p1), (2, .int p2), (3, .int p3), (4, .int x12)]) rfl ?_
    exact hK13 _ _ _ _ _ _ h_7
  · have h_8 := ineg hc24 h
    refine fw_aload_n (i := 0) 0 rfl (show decode _ _ = .ok (.aload_n 0, 1) by decide +kernel) ?_
    refine fw_iload_n (i := 1) 1 rfl (show decode _ _ = .ok (.iload_n 1, 1) by decide +kernel) ?_
    refine fw_iload_n (i := 3) 3 rfl (show decode _ _ = .ok (.iload_n 3, 1) by decide +kernel) ?_
    refine fw_iload (i := 6) 6 rfl (show decode _ _ = .ok (.iload 6, 2) by decide +kernel) ?_
    refine fw_iload (i := 4) 4 rfl (show decode _ _ = .ok (.iload 4, 2) by decide +kernel) ?_
    refine fw_iload_n (i := 2) 2 rfl (show decode _ _ = .ok (.iload_n 2, 1) by decide +kernel) ?_
    obtain ⟨⟨hr16, n15, hs17⟩, h_9⟩ := h_8
    refine fw_callV (mt' := mtX11_workBy) (mc := 0) (ms := 0) (As := [.int p1, .int p3, .int p6, .int p4, .int p2]) (rest := []) 5 11 n15 (show decode _ _ = .ok (.invokevirtual 477, 3) by decide +kernel) cv_X11_477 ⟨_, rfl, rfl⟩ hr16 hs17 rfl (Nat.le_of_ble_eq_true rfl) (s_X11_workBy (d := d) (hd_le hd (by decide)) h_9) (by decide) (by decide) (kI (bc' := 0) (bs' := 0) (by decide) (by decide) (fun x18 M14 h_10 => ?_))
    refine fw_istore (i := 7) (ls' := [(7, .int x18), (0, .ref p0), (1, .int p1), (2, .int p2), (3, .int p3), (4, .int p4), (5, .int p5), (6, .int p6)]) (show decode _ _ = .ok (.istore 7, 2) by decide +kernel) (by decide) rfl ?_
    refine fw_iload (i := 7) 0 rfl (show decode _ _ = .ok (.iload 7, 2) by decide +kernel) ?_
    refine fw_iload (i := 5) 6 rfl (show decode _ _ = .ok (.iload 5, 2) by decide +kernel) ?_
    refine fw_icmp_ge 60 (show decode _ _ = .ok (.if_icmp .ge 8, 3) by decide +kernel) (by decide) (fun hc23 => ?_) (fun hc23 => ?_)
    · have h_11 := ipos hc23 h_10
      refine fw_iload (i := 5) 6 rfl (show decode _ _ = .ok (.iload 5, 2) by decide +kernel) ?_
      refine fw_istore (i := 5) (ls' := [(5, .int p5), (7, .int x18), (0, .ref p0), (1, .int p1), (2, .int p2), (3, .int p3), (4, .int p4), (6, .int p6)]) (show decode _ _ = .ok (.istore 5, 2) by decide +kernel) (by decide) rfl ?_
      obtain ⟨x19, ex20⟩ : ∃ y : Int32, y = p6 + (1 : Int32) := ⟨_, rfl⟩
      have h_12 := h_11 x19 ex20
      refine fw_iinc (i := 6) (x := p6) (v := x19) (ls' := [(6, .int x19), (5, .int p5), (7, .int x18), (0, .ref p0), (1, .int p1), (2, .int p2), (3, .int p3), (4, .int p4)]) 7 rfl (show decode _ _ = .ok (.iinc 6 1, 3) by decide +kernel) (by rw [ex20]; rfl) (by decide) rfl ?_
      refine fw_goto 28 (show decode _ _ = .ok (.goto (-39), 3) by decide +kernel) (by decide) ?_
      refine FW.sub [3, 4, 5, 6, 7, 1, 0] (ls' := [(0, .ref p0), (1, .int p1), (2, .int p2), (3, .int p3), (4, .int p4), (5, .int p5), (6, .int x19)]) rfl ?_
      exact hK28 _ _ _ _ _ _ _ _ h_12
    · have h_13 := ineg hc23 h_10
      refine fw_iload (i := 7) 0 rfl (show decode _ _ = .ok (.iload 7, 2) by decide +kernel) ?_
      refine fw_goto 62 (show decode _ _ = .ok (.goto 5, 3) by decide +kernel) (by decide) ?_
      refine fw_istore (i := 5) (ls' := [(5, .int x18), (7, .int x18), (0, .ref p0), (1, .int p1), (2, .int p2), (3, .int p3), (4, .int p4), (6, .int p6)]) (show decode _ _ = .ok (.istore 5, 2) by decide +kernel) (by decide) rfl ?_
      obtain ⟨x21, ex22⟩ : ∃ y : Int32, y = p6 + (1 : Int32) := ⟨_, rfl⟩
      have h_14 := h_13 x21 ex22
      refine fw_iinc (i := 6) (x := p6) (v := x21) (ls' := [(6, .int x21), (5, .int x18), (7, .int x18), (0, .ref p0), (1, .int p1), (2, .int p2), (3, .int p3), (4, .int p4)]) 7 rfl (show decode _ _ = .ok (.iinc 6 1, 3) by decide +kernel) (by rw [ex22]; rfl) (by decide) rfl ?_
      refine fw_goto 28 (show decode _ _ = .ok (.goto (-39), 3) by decide +kernel) (by decide) ?_
      refine FW.sub [3, 4, 5, 6, 7, 1, 0] (ls' := [(0, .ref p0), (1, .int p1), (2, .int p2), (3, .int p3), (4, .int p4), (5, .int x18), (6, .int x21)]) rfl ?_
      exact hK28 _ _ _ _ _ _ _ _ h_14
theorem sl_X11_findWork_28 {g : GT} {d : Nat} (hd : 7 ≤ d + 1) {K6 : Nat → Int32 → Int32 → Int32 → fM → Prop} {K13 : Nat → Int32 → Int32 → Int32 → Int32 → fM → Prop} {φ : fM → Prop} (hK6 : ∀ (p0 : Nat) (p1 : Int32) (p2 : Int32) (p3 : Int32) (M : fM), K6 p0 p1 p2 p3 M → FW g mtX11_findWork (d + 1) 6 [(0, .ref p0), (1, .int p1), (2, .int p2), (3, .int p3)] [] M 0 0 (rV φ)) (hK13 : ∀ (p0 : Nat) (p1 : Int32) (p2 : Int32) (p3 : Int32) (p4 : Int32) (M : fM), K13 p0 p1 p2 p3 p4 M → FW g mtX11_findWork (d + 1) 13 [(0, .ref p0), (1, .int p1), (2, .int p2), (3, .int p3), (4, .int p4)] [] M 0 0 (rV φ)) : ∀ (n : Nat) {p0 : Nat} {p1 : Int32} {p2 : Int32} {p3 : Int32} {p4 : Int32} {p5 : Int32} {p6 : Int32} {M : fM}, l_X11_findWork_28 K6 K13 φ n p0 p1 p2 p3 p4 p5 p6 M → FW g mtX11_findWork (d + 1) 28 [(0, .ref p0), (1, .int p1), (2, .int p2), (3, .int p3), (4, .int p4), (5, .int p5), (6, .int p6)] [] M 0 0 (rV φ)
  | 0 => fun h => h.elim
  | n + 1 => fun h => sb_X11_findWork_28 hd hK6 hK13 (fun _ _ _ _ _ _ _ _ h => sl_X11_findWork_28 hd hK6 hK13 n h) h
def b_X11_findWork_13 (K6 : Nat → Int32 → Int32 → Int32 → fM → Prop) (K13 : Nat → Int32 → Int32 → Int32 → Int32 → fM → Prop) (φ : fM → Prop) (p0 : Nat) (p1 : Int32) (p2 : Int32) (p3 : Int32) (p4 : Int32) (M : fM) : Prop := iF ((10 : Int32) ≤ p4) (nm (p3 + (-1 : Int32)) fun x25 => K6 p0 p1 p2 x25 M) (∃ n, l_X11_findWork_28 K6 K13 φ n p0 p1 p2 p3 p4 (1000000 : Int32) (1 : Int32) M)
def l_X11_findWork_13 (K6 : Nat → Int32 → Int32 → Int32 → fM → Prop) (φ : fM → Prop) : Nat → Nat → Int32 → Int32 → Int32 → Int32 → fM → Prop
  | 0, _, _, _, _, _, _ => False
  | n + 1, p0, p1, p2, p3, p4, M => b_X11_findWork_13 K6 (l_X11_findWork_13 K6 φ n) φ p0 p1 p2 p3 p4 M
set_option maxRecDepth 100000 in
theorem sb_X11_findWork_13 {g : GT} {d : Nat} (hd : 7 ≤ d + 1) {K6 : Nat → Int32 → Int32 → Int32 → fM → Prop} {K13 : Nat → Int32 → Int32 → Int32 → Int32 → fM → Prop} {φ : fM → Prop} (hK6 : ∀ (p0 : Nat) (p1 : Int32) (p2 : Int32) (p3 : Int32) (M : fM), K6 p0 p1 p2 p3 M → FW g mtX11_findWork (d + 1) 6 [(0, .ref p0), (1, .int p1), (2, .int p2), (3, .int p3)] [] M 0 0 (rV φ)) (hK13 : ∀ (p0 : Nat) (p1 : Int32) (p2 : Int32) (p3 : Int32) (p4 : Int32) (M : fM), K13 p0 p1 p2 p3 p4 M → FW g mtX11_findWork (d + 1) 13 [(0, .ref p0), (1, .int p1), (2, .int p2), (3, .int p3), (4, .int p4)] [] M 0 0 (rV φ)) {p0 : Nat} {p1 : Int32} {p2 : Int32} {p3 : Int32} {p4 : Int32} {M : fM} (h : b_X11_findWork_13 K6 K13 φ p0 p1 p2 p3 p4 M) : FW g mtX11_findWork (d + 1) 13 [(0, .ref p0), (1, .int p1), (2, .int p2), (3, .int p3), (4, .int p4)] [] M 0 0 (rV φ) := by
  unfold b_X11_findWork_13 at h
  refine fw_iload (i := 4) 4 rfl (show decode _ _ = .ok (.iload 4, 2) by decide +kernel) ?_
  refine fw_bipush (v := (10 : Int32)) (show decode _ _ = .ok (.bipush 10, 2) by decide +kernel) (by decide) ?_
  refine fw_icmp_ge 90 (show decode _ _ = .ok (.if_icmp .ge 73, 3) by decide +kernel) (by decide) (fun hc27 => ?_) (fun hc27 => ?_)
  · have h_1 := ipos hc27 h
    obtain ⟨x25, ex26⟩ : ∃ y : Int32, y = p3 + (-1 : Int32) := ⟨_, rfl⟩
    have h_2 := h_1 x25 ex26
    refine fw_iinc (i := 3) (x := p3) (v := x25) (ls' := [(3, .int x25), (0, .ref p0), (1, .int p1), (2, .int p2), (4, .int p4)]) 3 rfl (show decode _ _ = .ok (.iinc 3 (-1), 3) by decide +kernel) (by rw [ex26]; rfl) (by decide) rfl ?_
    refine fw_goto 6 (show decode _ _ = .ok (.goto (-87), 3) by decide +kernel) (by decide) ?_
    refine FW.sub [1, 2, 3, 0] (ls' := [(0, .ref p0), (1, .int p1), (2, .int p2), (3, .int x25)]) rfl ?_
    exact hK6 _ _ _ _ _ h_2
  · have h_3 := ineg hc27 h
    refine fw_ldcw (idx := 469) (v := (1000000 : Int32)) (show decode _ _ = .ok (.ldc_w 469, 3) by decide +kernel) wd2011 ?_
    refine fw_istore (i := 5) (ls' := [(5, .int (1000000 : Int32)), (0, .ref p0), (1, .int p1), (2, .int p2), (3, .int p3), (4, .int p4)]) (show decode _ _ = .ok (.istore 5, 2) by decide +kernel) (by decide) rfl ?_
    refine fw_iconst (v := (1 : Int32)) (show decode _ _ = .ok (.iconst 1, 1) by decide +kernel) (by decide) ?_
    refine fw_istore (i := 6) (ls' := [(6, .int (1 : Int32)), (5, .int (1000000 : Int32)), (0, .ref p0), (1, .int p1), (2, .int p2), (3, .int p3), (4, .int p4)]) (show decode _ _ = .ok (.istore 6, 2) by decide +kernel) (by decide) rfl ?_
    refine FW.sub [2, 3, 4, 5, 6, 1, 0] (ls' := [(0, .ref p0), (1, .int p1), (2, .int p2), (3, .int p3), (4, .int p4), (5, .int (1000000 : Int32)), (6, .int (1 : Int32))]) rfl ?_
    obtain ⟨nn, h_4⟩ := h_3
    exact sl_X11_findWork_28 hd hK6 hK13 nn h_4
theorem sl_X11_findWork_13 {g : GT} {d : Nat} (hd : 7 ≤ d + 1) {K6 : Nat → Int32 → Int32 → Int32 → fM → Prop} {φ : fM → Prop} (hK6 : ∀ (p0 : Nat) (p1 : Int32) (p2 : Int32) (p3 : Int32) (M : fM), K6 p0 p1 p2 p3 M → FW g mtX11_findWork (d + 1) 6 [(0, .ref p0), (1, .int p1), (2, .int p2), (3, .int p3)] [] M 0 0 (rV φ)) : ∀ (n : Nat) {p0 : Nat} {p1 : Int32} {p2 : Int32} {p3 : Int32} {p4 : Int32} {M : fM}, l_X11_findWork_13 K6 φ n p0 p1 p2 p3 p4 M → FW g mtX11_findWork (d + 1) 13 [(0, .ref p0), (1, .int p1), (2, .int p2), (3, .int p3), (4, .int p4)] [] M 0 0 (rV φ)
  | 0 => fun h => h.elim
  | n + 1 => fun h => sb_X11_findWork_13 hd hK6 (fun _ _ _ _ _ _ h => sl_X11_findWork_13 hd hK6 n h) h
def b_X11_findWork_6 (K6 : Nat → Int32 → Int32 → Int32 → fM → Prop) (φ : fM → Prop) (p0 : Nat) (p1 : Int32) (p2 : Int32) (p3 : Int32) (M : fM) : Prop := iF (p3 ≤ 0) (φ M) (∃ n, l_X11_findWork_13 K6 φ n p0 p1 p2 p3 (1 : Int32) M)
def l_X11_findWork_6 (φ : fM → Prop) : Nat → Nat → Int32 → Int32 → Int32 → fM → Prop
  | 0, _, _, _, _, _ => False
  | n + 1, p0, p1, p2, p3, M => b_X11_findWork_6 (l_X11_findWork_6 φ n) φ p0 p1 p2 p3 M
set_option maxRecDepth 100000 in
theorem sb_X11_findWork_6 {g : GT} {d : Nat} (hd : 7 ≤ d + 1) {K6 : Nat → Int32 → Int32 → Int32 → fM → Prop} {φ : fM → Prop} (hK6 : ∀ (p0 : Nat) (p1 : Int32) (p2 : Int32) (p3 : Int32) (M : fM), K6 p0 p1 p2 p3 M → FW g mtX11_findWork (d + 1) 6 [(0, .ref p0), (1, .int p1), (2, .int p2), (3, .int p3)] [] M 0 0 (rV φ)) {p0 : Nat} {p1 : Int32} {p2 : Int32} {p3 : Int32} {M : fM} (h : b_X11_findWork_6 K6 φ p0 p1 p2 p3 M) : FW g mtX11_findWork (d + 1) 6 [(0, .ref p0), (1, .int p1), (2, .int p2), (3, .int p3)] [] M 0 0 (rV φ) := by
  unfold b_X11_findWork_6 at h
  refine fw_iload_n (i := 3) 3 rfl (show decode _ _ = .ok (.iload_n 3, 1) by decide +kernel) ?_
  refine fw_if_le 96 (show decode _ _ = .ok (.ifCond .le 89, 3) by decide +kernel) (by decide) (fun hc28 => ?_) (fun hc28 => ?_)
  · have h_1 := ipos hc28 h
    exact fw_ret (v := none) .return_ (show decode _ _ = .ok (.return_, 1) by decide +kernel) ⟨rfl, rfl⟩ ⟨rfl, h_1⟩
  · have h_2 := ineg hc28 h
    refine fw_iconst (v := (1 : Int32)) (show decode _ _ = .ok (.iconst 1, 1) by decide +kernel) (by decide) ?_
    refine fw_istore (i := 4) (ls' := [(4, .int (1 : Int32)), (0, .ref p0), (1, .int p1), (2, .int p2), (3, .int p3)]) (show decode _ _ = .ok (.istore 4, 2) by decide +kernel) (by decide) rfl ?_
    refine FW.sub [1, 2, 3, 4, 0] (ls' := [(0, .ref p0), (1, .int p1), (2, .int p2), (3, .int p3), (4, .int (1 : Int32))]) rfl ?_
    obtain ⟨nn, h_3⟩ := h_2
    exact sl_X11_findWork_13 hd hK6 nn h_3
theorem sl_X11_findWork_6 {g : GT} {d : Nat} (hd : 7 ≤ d + 1) {φ : fM → Prop} : ∀ (n : Nat) {p0 : Nat} {p1 : Int32} {p2 : Int32} {p3 : Int32} {M : fM}, l_X11_findWork_6 φ n p0 p1 p2 p3 M → FW g mtX11_findWork (d + 1) 6 [(0, .ref p0), (1, .int p1), (2, .int p2), (3, .int p3)] [] M 0 0 (rV φ)
  | 0 => fun h => h.elim
  | n + 1 => fun h => sb_X11_findWork_6 hd (fun _ _ _ _ _ h => sl_X11_findWork_6 hd n h) h
def w_X11_findWork (p0 : Nat) (p1 : Int32) (p2 : Int32) (M : fM) (φ : fM → Prop) : Prop := isO M p0 11 ∧ w_X11_stepsOf p0 p1 M fun x33 M29 => ∃ n, l_X11_findWork_6 φ n p0 p1 p2 x33 M29
set_option maxRecDepth 100000 in
theorem s_X11_findWork {g : GT} {d : Nat} (hd : 7 ≤ d) {p0 : Nat} {p1 : Int32} {p2 : Int32} {M : fM} {φ : fM → Prop} (h : w_X11_findWork p0 p1 p2 M φ) : FC g mtX11_findWork d [.ref p0, .int p1, .int p2] M 0 0 (rV φ) := by
  obtain ⟨d, rfl⟩ : ∃ e, d = e + 1 := ⟨d - 1, by omega⟩
  unfold w_X11_findWork at h
  refine FC.intro (nL := 8) (by decide) rfl (Nat.le_of_ble_eq_true rfl) ?_
  show FW g mtX11_findWork (d + 1) 0 [(0, .ref p0), (1, .int p1), (2, .int p2)] [] M 0 0 (rV φ)
  refine fw_aload_n (i := 0) 0 rfl (show decode _ _ = .ok (.aload_n 0, 1) by decide +kernel) ?_
  refine fw_iload_n (i := 1) 1 rfl (show decode _ _ = .ok (.iload_n 1, 1) by decide +kernel) ?_
  obtain ⟨⟨hr31, n30, hs32⟩, h_1⟩ := h
  refine fw_callV (mt' := mtX11_stepsOf) (mc := 0) (ms := 0) (As := [.int p1]) (rest := []) 1 11 n30 (show decode _ _ = .ok (.invokevirtual 74, 3) by decide +kernel) cv_X11_74 ⟨_, rfl, rfl⟩ hr31 hs32 rfl (Nat.le_of_ble_eq_true rfl) (s_X11_stepsOf (d := d) (hd_le hd (by decide)) h_1) (by decide) (by decide) (kI (bc' := 0) (bs' := 0) (by decide) (by decide) (fun x33 M29 h_2 => ?_))
  refine fw_istore_n (i := 3) (ls' := [(3, .int x33), (0, .ref p0), (1, .int p1), (2, .int p2)]) (show decode _ _ = .ok (.istore_n 3, 1) by decide +kernel) (by decide) rfl ?_
  refine FW.sub [1, 2, 3, 0] (ls' := [(0, .ref p0), (1, .int p1), (2, .int p2), (3, .int x33)]) rfl ?_
  obtain ⟨nn, h_3⟩ := h_2
  exact sl_X11_findWork_6 hd nn h_3
def b_X11_alike_78 (K69 : Nat → Int32 → Int32 → Int32 → Int32 → Int32 → fM → Prop) (K78 : Nat → Int32 → Int32 → Int32 → Int32 → Int32 → Int32 → fM → Prop) (φ : Int32 → fM → Prop) (p0 : Nat) (p1 : Int32) (p2 : Int32) (p3 : Int32) (p4 : Int32) (p5 : Int32) (p6 : Int32) (M : fM) : Prop := isO M p0 11 ∧ w_X11_workBy p0 p1 p5 p6 p4 p3 M fun x5 M1 => isO M1 p0 11 ∧ dR (mP M1 p0 31) fun y9 => inA M1 y9 12 (((10 : Int32) * p5) + p4) ∧ iF (x5 = (mI M1 y9 (ix (((10 : Int32) * p5) + p4)))) (nm (p5 + (1 : Int32)) fun x14 => K69 p0 p1 p2 p3 p6 x14 M1) (nm (p6 + (1 : Int32)) fun x16 => K78 p0 p1 p2 p3 p4 p5 x16 M1)
def l_X11_alike_78 (K69 : Nat → Int32 → Int32 → Int32 → Int32 → Int32 → fM → Prop) (φ : Int32 → fM → Prop) : Nat → Nat → Int32 → Int32 → Int32 → Int32 → Int32 → Int32 → fM → Prop
  | 0, _, _, _, _, _, _, _, _ => False
  | n + 1, p0, p1, p2, p3, p4, p5, p6, M => b_X11_alike_78 K69 (l_X11_alike_78 K69 φ n) φ p0 p1 p2 p3 p4 p5 p6 M
set_option maxRecDepth 100000 in
theorem sb_X11_alike_78 {g : GT} {d : Nat} (hd : 8 ≤ d + 1) {K69 : Nat → Int32 → Int32 → Int32 → Int32 → Int32 → fM → Prop} {K78 : Nat → Int32 → Int32 → Int32 → Int32 → Int32 → Int32 → fM → Prop} {φ : Int32 → fM → Prop} (hK69 : ∀ (p0 : Nat) (p1 : Int32) (p2 : Int32) (p3 : Int32) (p4 : Int32) (p5 : Int32) (M : fM), K69 p0 p1 p2 p3 p4 p5 M → FW g mtX11_alike (d + 1) 69 [(0, .ref p0), (1, .int p1), (2, .int p2), (3, .int p3), (4, .int p4), (5, .int p5)] [] M 0 0 (rI φ)) (hK78 : ∀ (p0 : Nat) (p1 : Int32) (p2 : Int32) (p3 : Int32) (p4 : Int32) (p5 : Int32) (p6 : Int32) (M : fM), K78 p0 p1 p2 p3 p4 p5 p6 M → FW g mtX11_alike (d + 1) 78 [(0, .ref p0), (1, .int p1), (2, .int p2), (3, .int p3), (4, .int p4), (5, .int p5), (6, .int p6)] [] M 0 0 (rI φ)) {p0 : Nat} {p1 : Int32} {p2 : Int32} {p3 : Int32} {p4 : Int32} {p5 : Int32} {p6 : Int32} {M : fM} (h : b_X11_alike_78 K69 K78 φ p0 p1 p2 p3 p4 p5 p6 M) : FW g mtX11_alike (d + 1) 78 [(0, .ref p0), (1, .int p1), (2, .int p2), (3, .int p3), (4, .int p4), (5, .int p5), (6, .int p6)] [] M 0 0 (rI φ) := by
  unfold b_X11_alike_78 at h
  refine fw_aload_n (i := 0) 0 rfl (show decode _ _ = .ok (.aload_n 0, 1) by decide +kernel) ?_
  refine fw_iload_n (i := 1) 1 rfl (show decode _ _ = .ok (.iload_n 1, 1) by decide +kernel) ?_
  refine fw_iload (i := 5) 5 rfl (show decode _ _ = .ok (.iload 5, 2) by decide +kernel) ?_
  refine fw_iload (i := 6) 6 rfl (show decode _ _ = .ok (.iload 6, 2) by decide +kernel) ?_
  refine fw_iload (i := 4) 4 rfl (show decode _ _ = .ok (.iload 4, 2) by decide +kernel) ?_
  refine fw_iload_n (i := 3) 3 rfl (show decode _ _ = .ok (.iload_n 3, 1) by decide +kernel) ?_
  obtain ⟨⟨hr3, n2, hs4⟩, h_1⟩ := h
  refine fw_callV (mt' := mtX11_workBy) (mc := 0) (ms := 0) (As := [.int p1, .int p5, .int p6, .int p4, .int p3]) (rest := []) 5 11 n2 (show decode _ _ = .ok (.invokevirtual 477, 3) by decide +kernel) cv_X11_477 ⟨_, rfl, rfl⟩ hr3 hs4 rfl (Nat.le_of_ble_eq_true rfl) (s_X11_workBy (d := d) (hd_le hd (by decide)) h_1) (by decide) (by decide) (kI (bc' := 0) (bs' := 0) (by decide) (by decide) (fun x5 M1 h_2 => ?_))
  refine fw_aload_n (i := 0) 0 rfl (show decode _ _ = .ok (.aload_n 0, 1) by decide +kernel) ?_
  obtain ⟨⟨hr7, n6, hs8⟩, h_3⟩ := h_2
  refine fw_getP (kd := 11) (k := 31) (show decode _ _ = .ok (.getfield 49, 3) by decide +kernel) gf_X11_49 hr7 hs8 rfl ?_
  have h_4 := dR_e h_3
  obtain ⟨y9, hy10, h_5⟩ := h_4
  refine fw_deref hy10 ?_
  refine fw_bipush (v := (10 : Int32)) (show decode _ _ = .ok (.bipush 10, 2) by decide +kernel) (by decide) ?_
  refine fw_iload (i := 5) 5 rfl (show decode _ _ = .ok (.iload 5, 2) by decide +kernel) ?_
  refine fw_imul (show decode _ _ = .ok (.imul, 1) by decide +kernel) ?_
  refine fw_iload (i := 4) 4 rfl (show decode _ _ = .ok (.iload 4, 2) by decide +kernel) ?_
  refine fw_iadd (show decode _ _ = .ok (.iadd, 1) by decide +kernel) ?_
  obtain ⟨⟨n11, hs12, hi13⟩, h_6⟩ := h_5
  refine fw_iald (show decode _ _ = .ok (.iaload, 1) by decide +kernel) hs12 hi13 ?_
  refine fw_icmp_eq 112 (show decode _ _ = .ok (.if_icmp .eq 9, 3) by decide +kernel) (by decide) (fun hc18 => ?_) (fun hc18 => ?_)
  · have h_7 := ipos hc18 h_6
    refine fw_iload (i := 6) 6 rfl (show decode _ _ = .ok (.iload 6, 2) by decide +kernel) ?_
    refine fw_istore (i := 4) (ls' := [(4, .int p6), (0, .ref p0), (1, .int p1), (2, .int p2), (3, .int p3), (5, .int p5), (6, .int p6)]) (show decode _ _ = .ok (.istore 4, 2) by decide +kernel) (by decide) rfl ?_
    obtain ⟨x14, ex15⟩ : ∃ y : Int32, y = p5 + (1 : Int32) := ⟨_, rfl⟩
    have h_8 := h_7 x14 ex15
    refine fw_iinc (i := 5) (x := p5) (v := x14) (ls' := [(5, .int x14), (4, .int p6), (0, .ref p0), (1, .int p1), (2, .int p2), (3, .int p3), (6, .int p6)]) 5 rfl (show decode _ _ = .ok (.iinc 5 1, 3) by decide +kernel) (by rw [ex15]; rfl) (by decide) rfl ?_
    refine fw_goto 69 (show decode _ _ = .ok (.goto (-50), 3) by decide +kernel) (by decide) ?_
    refine FW.sub [2, 3, 4, 5, 1, 0] (ls' := [(0, .ref p0), (1, .int p1), (2, .int p2), (3, .int p3), (4, .int p6), (5, .int x14)]) rfl ?_
    exact hK69 _ _ _ _ _ _ _ h_8
  · have h_9 := ineg hc18 h_6
    obtain ⟨x16, ex17⟩ : ∃ y : Int32, y = p6 + (1 : Int32) := ⟨_, rfl⟩
    have h_10 := h_9 x16 ex17
    refine fw_iinc (i := 6) (x := p6) (v := x16) (ls' := [(6, .int x16), (0, .ref p0), (1, .int p1), (2, .int p2), (3, .int p3), (4, .int p4), (5, .int p5)]) 6 rfl (show decode _ _ = .ok (.iinc 6 1, 3) by decide +kernel) (by rw [ex17]; rfl) (by decide) rfl ?_
    refine fw_goto 78 (show decode _ _ = .ok (.goto (-31), 3) by decide +kernel) (by decide) ?_
    refine FW.sub [1, 2, 3, 4, 5, 6, 0] (ls' := [(0, .ref p0), (1, .int p1), (2, .int p2), (3, .int p3), (4, .int p4), (5, .int p5), (6, .int x16)]) rfl ?_
    exact hK78 _ _ _ _ _ _ _ _ h_10
theorem sl_X11_alike_78 {g : GT} {d : Nat} (hd : 8 ≤ d + 1) {K69 : Nat → Int32 → Int32 → Int32 → Int32 → Int32 → fM → Prop} {φ : Int32 → fM → Prop} (hK69 : ∀ (p0 : Nat) (p1 : Int32) (p2 : Int32) (p3 : Int32) (p4 : Int32) (p5 : Int32) (M : fM), K69 p0 p1 p2 p3 p4 p5 M → FW g mtX11_alike (d + 1) 69 [(0, .ref p0), (1, .int p1), (2, .int p2), (3, .int p3), (4, .int p4), (5, .int p5)] [] M 0 0 (rI φ)) : ∀ (n : Nat) {p0 : Nat} {p1 : Int32} {p2 : Int32} {p3 : Int32} {p4 : Int32} {p5 : Int32} {p6 : Int32} {M : fM}, l_X11_alike_78 K69 φ n p0 p1 p2 p3 p4 p5 p6 M → FW g mtX11_alike (d + 1) 78 [(0, .ref p0), (1, .int p1), (2, .int p2), (3, .int p3), (4, .int p4), (5, .int p5), (6, .int p6)] [] M 0 0 (rI φ)
  | 0 => fun h => h.elim
  | n + 1 => fun h => sb_X11_alike_78 hd hK69 (fun _ _ _ _ _ _ _ _ h => sl_X11_alike_78 hd hK69 n h) h
def b_X11_alike_69 (K69 : Nat → Int32 → Int32 → Int32 → Int32 → Int32 → fM → Prop) (φ : Int32 → fM → Prop) (p0 : Nat) (p1 : Int32) (p2 : Int32) (p3 : Int32) (p4 : Int32) (p5 : Int32) (M : fM) : Prop := iF (p2 < p5) (φ p4 M) (∃ n, l_X11_alike_78 K69 φ n p0 p1 p2 p3 p4 p5 (1 : Int32) M)
def l_X11_alike_69 (φ : Int32 → fM → Prop) : Nat → Nat → Int32 → Int32 → Int32 → Int32 → Int32 → fM → Prop
  | 0, _, _, _, _, _, _, _ => False
  | n + 1, p0, p1, p2, p3, p4, p5, M => b_X11_alike_69 (l_X11_alike_69 φ n) φ p0 p1 p2 p3 p4 p5 M
set_option maxRecDepth 100000 in
theorem sb_X11_alike_69 {g : GT} {d : Nat} (hd : 8 ≤ d + 1) {K69 : Nat → Int32 → Int32 → Int32 → Int32 → Int32 → fM → Prop} {φ : Int32 → fM → Prop} (hK69 : ∀ (p0 : Nat) (p1 : Int32) (p2 : Int32) (p3 : Int32) (p4 : Int32) (p5 : Int32) (M : fM), K69 p0 p1 p2 p3 p4 p5 M → FW g mtX11_alike (d + 1) 69 [(0, .ref p0), (1, .int p1), (2, .int p2), (3, .int p3), (4, .int p4), (5, .int p5)] [] M 0 0 (rI φ)) {p0 : Nat} {p1 : Int32} {p2 : Int32} {p3 : Int32} {p4 : Int32} {p5 : Int32} {M : fM} (h : b_X11_alike_69 K69 φ p0 p1 p2 p3 p4 p5 M) : FW g mtX11_alike (d + 1) 69 [(0, .ref p0), (1, .int p1), (2, .int p2), (3, .int p3), (4, .int p4), (5, .int p5)] [] M 0 0 (rI φ) := by
  unfold b_X11_alike_69 at h
  refine fw_iload (i := 5) 5 rfl (show decode _ _ = .ok (.iload 5, 2) by decide +kernel) ?_
  refine fw_iload_n (i := 2) 2 rfl (show decode _ _ = .ok (.iload_n 2, 1) by decide +kernel) ?_
  refine fw_icmp_gt 122 (show decode _ _ = .ok (.if_icmp .gt 50, 3) by decide +kernel) (by decide) (fun hc19 => ?_) (fun hc19 => ?_)
  · have h_1 := ipos hc19 h
    refine fw_iload (i := 4) 4 rfl (show decode _ _ = .ok (.iload 4, 2) by decide +kernel) ?_
    exact fw_ret (v := some (.int p4)) .ireturn (show decode _ _ = .ok (.ireturn, 1) by decide +kernel) ⟨rfl, Or.inl rfl⟩ ⟨_, rfl, h_1⟩
  · have h_2 := ineg hc19 h
    refine fw_iconst (v := (1 : Int32)) (show decode _ _ = .ok (.iconst 1, 1) by decide +kernel) (by decide) ?_
    refine fw_istore (i := 6) (ls' := [(6, .int (1 : Int32)), (0, .ref p0), (1, .int p1), (2, .int p2), (3, .int p3), (4, .int p4), (5, .int p5)]) (show decode _ _ = .ok (.istore 6, 2) by decide +kernel) (by decide) rfl ?_
    refine FW.sub [1, 2, 3, 4, 5, 6, 0] (ls' := [(0, .ref p0), (1, .int p1), (2, .int p2), (3, .int p3), (4, .int p4), (5, .int p5), (6, .int (1 : Int32))]) rfl ?_
    obtain ⟨nn, h_3⟩ := h_2
    exact sl_X11_alike_78 hd hK69 nn h_3
theorem sl_X11_alike_69 {g : GT} {d : Nat} (hd : 8 ≤ d + 1) {φ : Int32 → fM → Prop} : ∀ (n : Nat) {p0 : Nat} {p1 : Int32} {p2 : Int32} {p3 : Int32} {p4 : Int32} {p5 : Int32} {M : fM}, l_X11_alike_69 φ n p0 p1 p2 p3 p4 p5 M → FW g mtX11_alike (d + 1) 69 [(0, .ref p0), (1, .int p1), (2, .int p2), (3, .int p3), (4, .int p4), (5, .int p5)] [] M 0 0 (rI φ)
  | 0 => fun h => h.elim
  | n + 1 => fun h => sb_X11_alike_69 hd (fun _ _ _ _ _ _ _ h => sl_X11_alike_69 hd n h) h
def j_X11_alike_23 (φ : Int32 → fM → Prop) (p0 : Nat) (p1 : Int32) (p2 : Int32) (p3 : Int32) (M : fM) : Prop := isO M p0 11 ∧ w_X11_findWork p0 p1 p3 M fun M20 => isO M20 p0 11 ∧ dR (mP M20 p0 31) fun y27 => inA M20 y27 12 ((10 : Int32) + (5 : Int32)) ∧ iF ((mI M20 y27 (ix ((10 : Int32) + (5 : Int32)))) < (1000000 : Int32)) (iF (p2 = (-1 : Int32)) (dR (mP M20 p0 31) fun y32 => inA M20 y32 12 ((10 : Int32) + (5 : Int32)) ∧ φ (mI M20 y32 (ix ((10 : Int32) + (5 : Int32)))) M20) (∃ n, l_X11_alike_69 φ n p0 p1 p2 p3 (5 : Int32) (1 : Int32) M20)) (φ (-1 : Int32) M20)
set_option maxRecDepth 100000 in
theorem sj_X11_alike_23 {g : GT} {d : Nat} (hd : 8 ≤ d + 1) {φ : Int32 → fM → Prop} {p0 : Nat} {p1 : Int32} {p2 : Int32} {p3 : Int32} {M : fM} (h : j_X11_alike_23 φ p0 p1 p2 p3 M) : FW g mtX11_alike (d + 1) 23 [(0, .ref p0), (1, .int p1), (2, .int p2), (3, .int p3)] [] M 0 0 (rI φ) := by
  unfold j_X11_alike_23 at h
  refine fw_aload_n (i := 0) 0 rfl (show decode _ _ = .ok (.aload_n 0, 1) by decide +kernel) ?_
  refine fw_iload_n (i := 1) 1 rfl (show decode _ _ = .ok (.iload_n 1, 1) by decide +kernel) ?_
  refine fw_iload_n (i := 3) 3 rfl (show decode _ _ = .ok (.iload_n 3, 1) by decide +kernel) ?_
  obtain ⟨⟨hr22, n21, hs23⟩, h_1⟩ := h
  refine fw_callV (mt' := mtX11_findWork) (mc := 0) (ms := 0) (As := [.int p1, .int p3]) (rest := []) 2 11 n21 (show decode _ _ = .ok (.invokevirtual 481, 3) by decide +kernel) cv_X11_481 ⟨_, rfl, rfl⟩ hr22 hs23 rfl (Nat.le_of_ble_eq_true rfl) (s_X11_findWork (d := d) (hd_le hd (by decide)) h_1) (by decide) (by decide) (kV (bc' := 0) (bs' := 0) (by decide) (by decide) (fun M20 h_2 => ?_))
  refine fw_iconst (v := (5 : Int32)) (show decode _ _ = .ok (.iconst 5, 1) by decide +kernel) (by decide) ?_
  refine fw_istore (i := 4) (ls' := [(4, .int (5 : Int32)), (0, .ref p0), (1, .int p1), (2, .int p2), (3, .int p3)]) (show decode _ _ = .ok (.istore 4, 2) by decide +kernel) (by decide) rfl ?_
  refine fw_aload_n (i := 0) 1 rfl (show decode _ _ = .ok (.aload_n 0, 1) by decide +kernel) ?_
  obtain ⟨⟨hr25, n24, hs26⟩, h_3⟩ := h_2
  refine fw_getP (kd := 11) (k := 31) (show decode _ _ = .ok (.getfield 49, 3) by decide +kernel) gf_X11_49 hr25 hs26 rfl ?_
  have h_4 := dR_e h_3
  obtain ⟨y27, hy28, h_5⟩ := h_4
  refine fw_deref hy28 ?_
  refine fw_bipush (v := (10 : Int32)) (show decode _ _ = .ok (.bipush 10, 2) by decide +kernel) (by decide) ?_
  refine fw_iload (i := 4) 0 rfl (show decode _ _ = .ok (.iload 4, 2) by decide +kernel) ?_
  refine fw_iadd (show decode _ _ = .ok (.iadd, 1) by decide +kernel) ?_
  obtain ⟨⟨n29, hs30, hi31⟩, h_6⟩ := h_5
  refine fw_iald (show decode _ _ = .ok (.iaload, 1) by decide +kernel) hs30 hi31 ?_
  refine fw_ldcw (idx := 469) (v := (1000000 : Int32)) (show decode _ _ = .ok (.ldc_w 469, 3) by decide +kernel) wd2011 ?_
  refine fw_icmp_lt 50 (show decode _ _ = .ok (.if_icmp .lt 5, 3) by decide +kernel) (by decide) (fun hc38 => ?_) (fun hc38 => ?_)
  · have h_7 := ipos hc38 h_6
    refine fw_iload_n (i := 2) 3 rfl (show decode _ _ = .ok (.iload_n 2, 1) by decide +kernel) ?_
    refine fw_iconst (v := (-1 : Int32)) (show decode _ _ = .ok (.iconst (-1), 1) by decide +kernel) (by decide) ?_
    refine fw_icmp_ne 66 (show decode _ _ = .ok (.if_icmp .ne 14, 3) by decide +kernel) (by decide) (fun hc37 => ?_) (fun hc37 => ?_)
    · have h_8 := ineg hc37 h_7
      refine fw_iconst (v := (1 : Int32)) (show decode _ _ = .ok (.iconst 1, 1) by decide +kernel) (by decide) ?_
      refine fw_istore (i := 5) (ls' := [(5, .int (1 : Int32)), (4, .int (5 : Int32)), (0, .ref p0), (1, .int p1), (2, .int p2), (3, .int p3)]) (show decode _ _ = .ok (.istore 5, 2) by decide +kernel) (by decide) rfl ?_
      refine FW.sub [2, 3, 4, 5, 1, 0] (ls' := [(0, .ref p0), (1, .int p1), (2, .int p2), (3, .int p3), (4, .int (5 : Int32)), (5, .int (1 : Int32))]) rfl ?_
      obtain ⟨nn, h_9⟩ := h_8
      exact sl_X11_alike_69 hd nn h_9
    · have h_10 := ipos hc37 h_7
      refine fw_aload_n (i := 0) 1 rfl (show decode _ _ = .ok (.aload_n 0, 1) by decide +kernel) ?_
      refine fw_getP (kd := 11) (k := 31) (show decode _ _ = .ok (.getfield 49, 3) by decide +kernel) gf_X11_49 hr25 hs26 rfl ?_
      have h_11 := dR_e h_10
      obtain ⟨y32, hy33, h_12⟩ := h_11
      refine fw_deref hy33 ?_
      refine fw_bipush (v := (10 : Int32)) (show decode _ _ = .ok (.bipush 10, 2) by decide +kernel) (by decide) ?_
      refine fw_iload (i := 4) 0 rfl (show decode _ _ = .ok (.iload 4, 2) by decide +kernel) ?_
      refine fw_iadd (show decode _ _ = .ok (.iadd, 1) by decide +kernel) ?_
      obtain ⟨⟨n34, hs35, hi36⟩, h_13⟩ := h_12
      refine fw_iald (show decode _ _ = .ok (.iaload, 1) by decide +kernel) hs35 hi36 ?_
      exact fw_ret (v := some (.int (mI M20 y32 (ix ((10 : Int32) + (5 : Int32)))))) .ireturn (show decode _ _ = .ok (.ireturn, 1) by decide +kernel) ⟨rfl, Or.inl rfl⟩ ⟨_, rfl, h_13⟩
  · have h_14 := ineg hc38 h_6
    refine fw_iconst (v := (-1 : Int32)) (show decode _ _ = .ok (.iconst (-1), 1) by decide +kernel) (by decide) ?_
    exact fw_ret (v := some (.int (-1 : Int32))) .ireturn (show decode _ _ = .ok (.ireturn, 1) by decide +kernel) ⟨rfl, Or.inl rfl⟩ ⟨_, rfl, h_14⟩
def w_X11_alike (p0 : Nat) (p1 : Int32) (p2 : Int32) (p3 : Int32) (M : fM) (φ : Int32 → fM → Prop) : Prop := w_X11_isHouse p1 M fun x40 M39 => iF (x40 = 0) (φ (-1 : Int32) M39) (iF (p2 = (-1 : Int32)) (j_X11_alike_23 φ p0 p1 p2 p3 M39) (isO M39 p0 11 ∧ w_X11_isStep p0 p1 p2 M39 fun x45 M41 => iF (x45 = 0) (φ (-1 : Int32) M41) (j_X11_alike_23 φ p0 p1 p2 p3 M41)))
set_option maxRecDepth 100000 in
theorem s_X11_alike {g : GT} {d : Nat} (hd : 8 ≤ d) {p0 : Nat} {p1 : Int32} {p2 : Int32} {p3 : Int32} {M : fM} {φ : Int32 → fM → Prop} (h : w_X11_alike p0 p1 p2 p3 M φ) : FC g mtX11_alike d [.ref p0, .int p1, .int p2, .int p3] M 0 0 (rI φ) := by
  obtain ⟨d, rfl⟩ : ∃ e, d = e + 1 := ⟨d - 1, by omega⟩
  unfold w_X11_alike at h
  refine FC.intro (nL := 7) (by decide) rfl (Nat.le_of_ble_eq_true rfl) ?_
  show FW g mtX11_alike (d + 1) 0 [(0, .ref p0), (1, .int p1), (2, .int p2), (3, .int p3)] [] M 0 0 (rI φ)
  refine fw_iload_n (i := 1) 1 rfl (show decode _ _ = .ok (.iload_n 1, 1) by decide +kernel) ?_
  refine fw_callS (mt' := mtX11_isHouse) (mc := 0) (ms := 0) (As := [.int p1]) (rest := []) 1 (show decode _ _ = .ok (.invokestatic 70, 3) by decide +kernel) cs_X11_70 rfl (Nat.le_of_ble_eq_true rfl) (s_X11_isHouse (d := d) (hd_le hd (by decide)) h) (by decide) (by decide) (kI (bc' := 0) (bs' := 0) (by decide) (by decide) (fun x40 M39 h_1 => ?_))
  refine fw_if_eq 21 (show decode _ _ = .ok (.ifCond .eq 17, 3) by decide +kernel) (by decide) (fun hc48 => ?_) (fun hc48 => ?_)
  · have h_2 := ipos hc48 h_1
    refine fw_iconst (v := (-1 : Int32)) (show decode _ _ = .ok (.iconst (-1), 1) by decide +kernel) (by decide) ?_
    exact fw_ret (v := some (.int (-1 : Int32))) .ireturn (show decode _ _ = .ok (.ireturn, 1) by decide +kernel) ⟨rfl, Or.inl rfl⟩ ⟨_, rfl, h_2⟩
  · have h_3 := ineg hc48 h_1
    refine fw_iload_n (i := 2) 2 rfl (show decode _ _ = .ok (.iload_n 2, 1) by decide +kernel) ?_
    refine fw_iconst (v := (-1 : Int32)) (show decode _ _ = .ok (.iconst (-1), 1) by decide +kernel) (by decide) ?_
    refine fw_icmp_eq 23 (show decode _ _ = .ok (.if_icmp .eq 14, 3) by decide +kernel) (by decide) (fun hc47 => ?_) (fun hc47 => ?_)
    · have h_4 := ipos hc47 h_3
      refine FW.sub [0, 1, 2, 3] (ls' := [(0, .ref p0), (1, .int p1), (2, .int p2), (3, .int p3)]) rfl ?_
      exact sj_X11_alike_23 hd h_4
    · have h_5 := ineg hc47 h_3
      refine fw_aload_n (i := 0) 0 rfl (show decode _ _ = .ok (.aload_n 0, 1) by decide +kernel) ?_
      refine fw_iload_n (i := 1) 1 rfl (show decode _ _ = .ok (.iload_n 1, 1) by decide +kernel) ?_
      refine fw_iload_n (i := 2) 2 rfl (show decode _ _ = .ok (.iload_n 2, 1) by decide +kernel) ?_
      obtain ⟨⟨hr43, n42, hs44⟩, h_6⟩ := h_5
      refine fw_callV (mt' := mtX11_isStep) (mc := 0) (ms := 0) (As := [.int p1, .int p2]) (rest := []) 2 11 n42 (show decode _ _ = .ok (.invokevirtual 81, 3) by decide +kernel) cv_X11_81 ⟨_, rfl, rfl⟩ hr43 hs44 rfl (Nat.le_of_ble_eq_true rfl) (s_X11_isStep (d := d) (hd_le hd (by decide)) h_6) (by decide) (by decide) (kI (bc' := 0) (bs' := 0) (by decide) (by decide) (fun x45 M41 h_7 => ?_))
      refine fw_if_ne 23 (show decode _ _ = .ok (.ifCond .ne 5, 3) by decide +kernel) (by decide) (fun hc46 => ?_) (fun hc46 => ?_)
      · have h_8 := ineg hc46 h_7
        refine FW.sub [0, 1, 2, 3] (ls' := [(0, .ref p0), (1, .int p1), (2, .int p2), (3, .int p3)]) rfl ?_
        exact sj_X11_alike_23 hd h_8
      · have h_9 := ipos hc46 h_7
        refine fw_iconst (v := (-1 : Int32)) (show decode _ _ = .ok (.iconst (-1), 1) by decide +kernel) (by decide) ?_
        exact fw_ret (v := some (.int (-1 : Int32))) .ireturn (show decode _ _ = .ok (.ireturn, 1) by decide +kernel) ⟨rfl, Or.inl rfl⟩ ⟨_, rfl, h_9⟩
def w_X11_anew (p0 : Nat) (M : fM) (φ : fM → Prop) : Prop := isO M p0 11 ∧ dR (mP M p0 0) fun y4 => dR (mP M p0 0) fun y6 => inA M y6 12 (2 : Int32) ∧ nm ((((mI M y6 (ix (2 : Int32))) * (173 : Int32)) + (89 : Int32)) % (30071 : Int32)) fun x11 => 6 ≤ y4 ∧ inA M y4 12 (2 : Int32) ∧ st (wI M y4 (ix (2 : Int32)) x11) fun M17 => φ M17
set_option maxRecDepth 100000 in
theorem s_X11_anew {g : GT} {d : Nat} (hd : 1 ≤ d) {p0 : Nat} {M : fM} {φ : fM → Prop} (h : w_X11_anew p0 M φ) : FC g mtX11_anew d [.ref p0] M 0 0 (rV φ) := by
  obtain ⟨d, rfl⟩ : ∃ e, d = e + 1 := ⟨d - 1, by omega⟩
  unfold w_X11_anew at h
  refine FC.intro (nL := 1) (by decide) rfl (Nat.le_of_ble_eq_true rfl) ?_
  show FW g mtX11_anew (d + 1) 0 [(0, .ref p0)] [] M 0 0 (rV φ)
  refine fw_aload_n (i := 0) 0 rfl (show decode _ _ = .ok (.aload_n 0, 1) by decide +kernel) ?_
  obtain ⟨⟨hr2, n1, hs3⟩, h_1⟩ := h
  refine fw_getP (kd := 11) (k := 0) (show decode _ _ = .ok (.getfield 7, 3) by decide +kernel) gf_X11_7 hr2 hs3 rfl ?_
  have h_2 := dR_e h_1
  obtain ⟨y4, hy5, h_3⟩ := h_2
  refine fw_deref hy5 ?_
  refine fw_iconst (v := (2 : Int32)) (show decode _ _ = .ok (.iconst 2, 1) by decide +kernel) (by decide) ?_
  refine fw_aload_n (i := 0) 0 rfl (show decode _ _ = .ok (.aload_n 0, 1) by decide +kernel) ?_
  refine fw_getP (kd := 11) (k := 0) (show decode _ _ = .ok (.getfield 7, 3) by decide +kernel) gf_X11_7 hr2 hs3 rfl ?_
  have h_4 := dR_e h_3
  obtain ⟨y6, hy7, h_5⟩ := h_4
  refine fw_deref hy7 ?_
  refine fw_iconst (v := (2 : Int32)) (show decode _ _ = .ok (.iconst 2, 1) by decide +kernel) (by decide) ?_
  obtain ⟨⟨n8, hs9, hi10⟩, h_6⟩ := h_5
  refine fw_iald (show decode _ _ = .ok (.iaload, 1) by decide +kernel) hs9 hi10 ?_
  refine fw_sipush (v := (173 : Int32)) (show decode _ _ = .ok (.sipush 173, 3) by decide +kernel) (by decide) ?_
  refine fw_imul (show decode _ _ = .ok (.imul, 1) by decide +kernel) ?_
  refine fw_bipush (v := (89 : Int32)) (show decode _ _ = .ok (.bipush 89, 2) by decide +kernel) (by decide) ?_
  refine fw_iadd (show decode _ _ = .ok (.iadd, 1) by decide +kernel) ?_
  refine fw_sipush (v := (30071 : Int32)) (show decode _ _ = .ok (.sipush 30071, 3) by decide +kernel) (by decide) ?_
  refine fw_irem (show decode _ _ = .ok (.irem, 1) by decide +kernel) (by decide) ?_
  refine fw_nmI (fun x11 ex12 => ?_)
  have h_7 := h_6 x11 ex12
  obtain ⟨hr16, ⟨n13, hs14, hi15⟩, h_8⟩ := h_7
  refine fw_iast (show decode _ _ = .ok (.iastore, 1) by decide +kernel) hr16 hs14 hi15 ?_
  refine FW.nmM (fun M17 eM18 => ?_)
  have h_9 := h_8 M17 eM18
  exact fw_ret (v := none) .return_ (show decode _ _ = .ok (.return_, 1) by decide +kernel) ⟨rfl, rfl⟩ ⟨rfl, h_9⟩
def b_X11_keep_72 (K72 : Nat → Int32 → Int32 → fM → Prop) (φ : fM → Prop) (p0 : Nat) (p1 : Int32) (p2 : Int32) (M : fM) : Prop := iF ((9 : Int32) ≤ p2) (isO M p0 11 ∧ dR (mP M p0 0) fun y4 => dR (mP M p0 0) fun y6 => inA M y6 12 (8 : Int32) ∧ nm (mI M y6 (ix (8 : Int32))) fun x11 => 6 ≤ y4 ∧ inA M y4 12 (p1 + (9 : Int32)) ∧ st (wI M y4 (ix (p1 + (9 : Int32))) x11) fun M17 => dR (mP M17 p0 0) fun y19 => dR (mP M17 p0 0) fun y21 => inA M17 y21 12 (1 : Int32) ∧ nm (mI M17 y21 (ix (1 : Int32))) fun x26 => 6 ≤ y19 ∧ inA M17 y19 12 (p1 + (10 : Int32)) ∧ st (wI M17 y19 (ix (p1 + (10 : Int32))) x26) fun M32 => dR (mP M32 p0 0) fun y34 => dR (mP M32 p0 0) fun y36 => inA M32 y36 12 (2 : Int32) ∧ nm (mI M32 y36 (ix (2 : Int32))) fun x41 => 6 ≤ y34 ∧ inA M32 y34 12 (p1 + (11 : Int32)) ∧ st (wI M32 y34 (ix (p1 + (11 : Int32))) x41) fun M47 => dR (mP M47 p0 0) fun y49 => inA M47 y49 12 (5 : Int32) ∧ nm ((mI M47 y49 (ix (5 : Int32))) + (1 : Int32)) fun x54 => 6 ≤ y49 ∧ inA M47 y49 12 (5 : Int32) ∧ st (wI M47 y49 (ix (5 : Int32)) x54) fun M60 => φ M60) (isO M p0 11 ∧ dR (mP M p0 0) fun y65 => dR (mP M p0 0) fun y67 => inA M y67 12 ((100 : Int32) + p2) ∧ nm (mI M y67 (ix ((100 : Int32) + p2))) fun x72 => 6 ≤ y65 ∧ inA M y65 12 (p1 + p2) ∧ st (wI M y65 (ix (p1 + p2)) x72) fun M78 => nm (p2 + (1 : Int32)) fun x80 => K72 p0 p1 x80 M78)
def l_X11_keep_72 (φ : fM → Prop) : Nat → Nat → Int32 → Int32 → fM → Prop
  | 0, _, _, _, _ => False
  | n + 1, p0, p1, p2, M => b_X11_keep_72 (l_X11_keep_72 φ n) φ p0 p1 p2 M
set_option maxRecDepth 100000 in
theorem sb_X11_keep_72 {g : GT} {d : Nat} (hd : 1 ≤ d + 1) {K72 : Nat → Int32 → Int32 → fM → Prop} {φ : fM → Prop} (hK72 : ∀ (p0 : Nat) (p1 : Int32) (p2 : Int32) (M : fM), K72 p0 p1 p2 M → FW g mtX11_keep (d + 1) 72 [(0, .ref p0), (1, .int p1), (2, .int p2)] [] M 0 0 (rV φ)) {p0 : Nat} {p1 : Int32} {p2 : Int32} {M : fM} (h : b_X11_keep_72 K72 φ p0 p1 p2 M) : FW g mtX11_keep (d + 1) 72 [(0, .ref p0), (1, .int p1), (2, .int p2)] [] M 0 0 (rV φ) := by
  unfold b_X11_keep_72 at h
  refine fw_iload_n (i := 2) 2 rfl (show decode _ _ = .ok (.iload_n 2, 1) by decide +kernel) ?_
  refine fw_bipush (v := (9 : Int32)) (show decode _ _ = .ok (.bipush 9, 2) by decide +kernel) (by decide) ?_
  refine fw_icmp_ge 101 (show decode _ _ = .ok (.if_icmp .ge 26, 3) by decide +kernel) (by decide) (fun hc82 => ?_) (fun hc82 => ?_)
  · have h_1 := ipos hc82 h
    refine fw_aload_n (i := 0) 0 rfl (show decode _ _ = .ok (.aload_n 0, 1) by decide +kernel) ?_
    obtain ⟨⟨hr2, n1, hs3⟩, h_2⟩ := h_1
    refine fw_getP (kd := 11) (k := 0) (show decode _ _ = .ok (.getfield 7, 3) by decide +kernel) gf_X11_7 hr2 hs3 rfl ?_
    have h_3 := dR_e h_2
    obtain ⟨y4, hy5, h_4⟩ := h_3
    refine fw_deref hy5 ?_
    refine fw_iload_n (i := 1) 1 rfl (show decode _ _ = .ok (.iload_n 1, 1) by decide +kernel) ?_
    refine fw_bipush (v := (9 : Int32)) (show decode _ _ = .ok (.bipush 9, 2) by decide +kernel) (by decide) ?_
    refine fw_iadd (show decode _ _ = .ok (.iadd, 1) by decide +kernel) ?_
    refine fw_aload_n (i := 0) 0 rfl (show decode _ _ = .ok (.aload_n 0, 1) by decide +kernel) ?_
    refine fw_getP (kd := 11) (k := 0) (show decode _ _ = .ok (.getfield 7, 3) by decide +kernel) gf_X11_7 hr2 hs3 rfl ?_
    have h_5 := dR_e h_4
    obtain ⟨y6, hy7, h_6⟩ := h_5
    refine fw_deref hy7 ?_
    refine fw_bipush (v := (8 : Int32)) (show decode _ _ = .ok (.bipush 8, 2) by decide +kernel) (by decide) ?_
    obtain ⟨⟨n8, hs9, hi10⟩, h_7⟩ := h_6
    refine fw_iald (show decode _ _ = .ok (.iaload, 1) by decide +kernel) hs9 hi10 ?_
    refine fw_nmI (fun x11 ex12 => ?_)
    have h_8 := h_7 x11 ex12
    obtain ⟨hr16, ⟨n13, hs14, hi15⟩, h_9⟩ := h_8
    refine fw_iast (show decode _ _ = .ok (.iastore, 1) by decide +kernel) hr16 hs14 hi15 ?_
    refine FW.nmM (fun M17 eM18 => ?_)
    have h_10 := h_9 M17 eM18
    refine fw_aload_n (i := 0) 0 rfl (show decode _ _ = .ok (.aload_n 0, 1) by decide +kernel) ?_
    refine fw_getP (kd := 11) (k := 0) (show decode _ _ = .ok (.getfield 7, 3) by decide +kernel) gf_X11_7 hr2 (mSw_I eM18 hs3) rfl ?_
    have h_11 := dR_e h_10
    obtain ⟨y19, hy20, h_12⟩ := h_11
    refine fw_deref hy20 ?_
    refine fw_iload_n (i := 1) 1 rfl (show decode _ _ = .ok (.iload_n 1, 1) by decide +kernel) ?_
    refine fw_bipush (v := (10 : Int32)) (show decode _ _ = .ok (.bipush 10, 2) by decide +kernel) (by decide) ?_
    refine fw_iadd (show decode _ _ = .ok (.iadd, 1) by decide +kernel) ?_
    refine fw_aload_n (i := 0) 0 rfl (show decode _ _ = .ok (.aload_n 0, 1) by decide +kernel) ?_
    refine fw_getP (kd := 11) (k := 0) (show decode _ _ = .ok (.getfield 7, 3) by decide +kernel) gf_X11_7 hr2 (mSw_I eM18 hs3) rfl ?_
    have h_13 := dR_e h_12
    obtain ⟨y21, hy22, h_14⟩ := h_13
    refine fw_deref hy22 ?_
    refine fw_iconst (v := (1 : Int32)) (show decode _ _ = .ok (.iconst 1, 1) by decide +kernel) (by decide) ?_
    obtain ⟨⟨n23, hs24, hi25⟩, h_15⟩ := h_14
    refine fw_iald (show decode _ _ = .ok (.iaload, 1) by decide +kernel) hs24 hi25 ?_
    refine fw_nmI (fun x26 ex27 => ?_)
    have h_16 := h_15 x26 ex27
    obtain ⟨hr31, ⟨n28, hs29, hi30⟩, h_17⟩ := h_16
    refine fw_iast (show decode _ _ = .ok (.iastore, 1) by decide +kernel) hr31 hs29 hi30 ?_
    refine FW.nmM (fun M32 eM33 => ?_)
    have h_18 := h_17 M32 eM33
    refine fw_aload_n (i := 0) 0 rfl (show decode _ _ = .ok (.aload_n 0, 1) by decide +kernel) ?_
    refine fw_getP (kd := 11) (k := 0) (show decode _ _ = .ok (.getfield 7, 3) by decide +kernel) gf_X11_7 hr2 (mSw_I eM33 (mSw_I eM18 hs3)) rfl ?_
    have h_19 := dR_e h_18
    obtain ⟨y34, hy35, h_20⟩ := h_19
    refine fw_deref hy35 ?_
    refine fw_iload_n (i := 1) 1 rfl (show decode _ _ = .ok (.iload_n 1, 1) by decide +kernel) ?_
    refine fw_bipush (v := (11 : Int32)) (show decode _ _ = .ok (.bipush 11, 2) by decide +kernel) (by decide) ?_
    refine fw_iadd (show decode _ _ = .ok (.iadd, 1) by decide +kernel) ?_
    refine fw_aload_n (i := 0) 0 rfl (show decode _ _ = .ok (.aload_n 0, 1) by decide +kernel) ?_
    refine fw_getP (kd := 11) (k := 0) (show decode _ _ = .ok (.getfield 7, 3) by decide +kernel) gf_X11_7 hr2 (mSw_I eM33 (mSw_I eM18 hs3)) rfl ?_
    have h_21 := dR_e h_20
    obtain ⟨y36, hy37, h_22⟩ := h_21
    refine fw_deref hy37 ?_
    refine fw_iconst (v := (2 : Int32)) (show decode _ _ = .ok (.iconst 2, 1) by decide +kernel) (by decide) ?_
    obtain ⟨⟨n38, hs39, hi40⟩, h_23⟩ := h_22
    refine fw_iald (show decode _ _ = .ok (.iaload, 1) by decide +kernel) hs39 hi40 ?_
    refine fw_nmI (fun x41 ex42 => ?_)
    have h_24 := h_23 x41 ex42
    obtain ⟨hr46, ⟨n43, hs44, hi45⟩, h_25⟩ := h_24
    refine fw_iast (show decode _ _ = .ok (.iastore, 1) by decide +kernel) hr46 hs44 hi45 ?_
    refine FW.nmM (fun M47 eM48 => ?_)
    have h_26 := h_25 M47 eM48
    refine fw_aload_n (i := 0) 0 rfl (show decode _ _ = .ok (.aload_n 0, 1) by decide +kernel) ?_
    refine fw_getP (kd := 11) (k := 0) (show decode _ _ = .ok (.getfield 7, 3) by decide +kernel) gf_X11_7 hr2 (mSw_I eM48 (mSw_I eM33 (mSw_I eM18 hs3))) rfl ?_
    have h_27 := dR_e h_26
    obtain ⟨y49, hy50, h_28⟩ := h_27
    refine fw_deref hy50 ?_
    refine fw_iconst (v := (5 : Int32)) (show decode _ _ = .ok (.iconst 5, 1) by decide +kernel) (by decide) ?_
    refine fw_dup2_11 (show decode _ _ = .ok (.dup2, 1) by decide +kernel) rfl rfl ?_
    obtain ⟨⟨n51, hs52, hi53⟩, h_29⟩ := h_28
    refine fw_iald (show decode _ _ = .ok (.iaload, 1) by decide +kernel) hs52 hi53 ?_
    refine fw_iconst (v := (1 : Int32)) (show decode _ _ = .ok (.iconst 1, 1) by decide +kernel) (by decide) ?_
    refine fw_iadd (show decode _ _ = .ok (.iadd, 1) by decide +kernel) ?_
    refine fw_nmI (fun x54 ex55 => ?_)
    have h_30 := h_29 x54 ex55
    obtain ⟨hr59, ⟨n56, hs57, hi58⟩, h_31⟩ := h_30
    refine fw_iast (show decode _ _ = .ok (.iastore, 1) by decide +kernel) hr59 hs57 hi58 ?_
    refine FW.nmM (fun M60 eM61 => ?_)
    have h_32 := h_31 M60 eM61
    exact fw_ret (v := none) .return_ (show decode _ _ = .ok (.return_, 1) by decide +kernel) ⟨rfl, rfl⟩ ⟨rfl, h_32⟩
  · have h_33 := ineg hc82 h
    refine fw_aload_n (i := 0) 0 rfl (show decode _ _ = .ok (.aload_n 0, 1) by decide +kernel) ?_
    obtain ⟨⟨hr63, n62, hs64⟩, h_34⟩ := h_33
    refine fw_getP (kd := 11) (k := 0) (show decode _ _ = .ok (.getfield 7, 3) by decide +kernel) gf_X11_7 hr63 hs64 rfl ?_
    have h_35 := dR_e h_34
    obtain ⟨y65, hy66, h_36⟩ := h_35
    refine fw_deref hy66 ?_
    refine fw_iload_n (i := 1) 1 rfl (show decode _ _ = .ok (.iload_n 1, 1) by decide +kernel) ?_
    refine fw_iload_n (i := 2) 2 rfl (show decode _ _ = .ok (.iload_n 2, 1) by decide +kernel) ?_
    refine fw_iadd (show decode _ _ = .ok (.iadd, 1) by decide +kernel) ?_
    refine fw_aload_n (i := 0) 0 rfl (show decode _ _ = .ok (.aload_n 0, 1) by decide +kernel) ?_
    refine fw_getP (kd := 11) (k := 0) (show decode _ _ = .ok (.getfield 7, 3) by decide +kernel) gf_X11_7 hr63 hs64 rfl ?_
    have h_37 := dR_e h_36
    obtain ⟨y67, hy68, h_38⟩ := h_37
    refine fw_deref hy68 ?_
    refine fw_bipush (v := (100 : Int32)) (show decode _ _ = .ok (.bipush 100, 2) by decide +kernel) (by decide) ?_
    refine fw_iload_n (i := 2) 2 rfl (show decode _ _ = .ok (.iload_n 2, 1) by decide +kernel) ?_
    refine fw_iadd (show decode _ _ = .ok (.iadd, 1) by decide +kernel) ?_
    obtain ⟨⟨n69, hs70, hi71⟩, h_39⟩ := h_38
    refine fw_iald (show decode _ _ = .ok (.iaload, 1) by decide +kernel) hs70 hi71 ?_
    refine fw_nmI (fun x72 ex73 => ?_)
    have h_40 := h_39 x72 ex73
    obtain ⟨hr77, ⟨n74, hs75, hi76⟩, h_41⟩ := h_40
    refine fw_iast (show decode _ _ = .ok (.iastore, 1) by decide +kernel) hr77 hs75 hi76 ?_
    refine FW.nmM (fun M78 eM79 => ?_)
    have h_42 := h_41 M78 eM79
    obtain ⟨x80, ex81⟩ : ∃ y : Int32, y = p2 + (1 : Int32) := ⟨_, rfl⟩
    have h_43 := h_42 x80 ex81
    refine fw_iinc (i := 2) (x := p2) (v := x80) (ls' := [(2, .int x80), (0, .ref p0), (1, .int p1)]) 2 rfl (show decode _ _ = .ok (.iinc 2 1, 3) by decide +kernel) (by rw [ex81]; rfl) (by decide) rfl ?_
    refine fw_goto 72 (show decode _ _ = .ok (.goto (-26), 3) by decide +kernel) (by decide) ?_
    refine FW.sub [1, 2, 0] (ls' := [(0, .ref p0), (1, .int p1), (2, .int x80)]) rfl ?_
    exact hK72 _ _ _ _ h_43
theorem sl_X11_keep_72 {g : GT} {d : Nat} (hd : 1 ≤ d + 1) {φ : fM → Prop} : ∀ (n : Nat) {p0 : Nat} {p1 : Int32} {p2 : Int32} {M : fM}, l_X11_keep_72 φ n p0 p1 p2 M → FW g mtX11_keep (d + 1) 72 [(0, .ref p0), (1, .int p1), (2, .int p2)] [] M 0 0 (rV φ)
  | 0 => fun h => h.elim
  | n + 1 => fun h => sb_X11_keep_72 hd (fun _ _ _ _ h => sl_X11_keep_72 hd n h) h
def j_X11_keep_56 (φ : fM → Prop) (p0 : Nat) (M : fM) : Prop := isO M p0 11 ∧ dR (mP M p0 0) fun y86 => inA M y86 12 (5 : Int32) ∧ nm ((157 : Int32) + ((12 : Int32) * (mI M y86 (ix (5 : Int32))))) fun x91 => ∃ n, l_X11_keep_72 φ n p0 x91 (0 : Int32) M
set_option maxRecDepth 100000 in
theorem sj_X11_keep_56 {g : GT} {d : Nat} (hd : 1 ≤ d + 1) {φ : fM → Prop} {p0 : Nat} {M : fM} (h : j_X11_keep_56 φ p0 M) : FW g mtX11_keep (d + 1) 56 [(0, .ref p0)] [] M 0 0 (rV φ) := by
  unfold j_X11_keep_56 at h
  refine fw_sipush (v := (157 : Int32)) (show decode _ _ = .ok (.sipush 157, 3) by decide +kernel) (by decide) ?_
  refine fw_bipush (v := (12 : Int32)) (show decode _ _ = .ok (.bipush 12, 2) by decide +kernel) (by decide) ?_
  refine fw_aload_n (i := 0) 0 rfl (show decode _ _ = .ok (.aload_n 0, 1) by decide +kernel) ?_
  obtain ⟨⟨hr84, n83, hs85⟩, h_1⟩ := h
  refine fw_getP (kd := 11) (k := 0) (show decode _ _ = .ok (.getfield 7, 3) by decide +kernel) gf_X11_7 hr84 hs85 rfl ?_
  have h_2 := dR_e h_1
  obtain ⟨y86, hy87, h_3⟩ := h_2
  refine fw_deref hy87 ?_
  refine fw_iconst (v := (5 : Int32)) (show decode _ _ = .ok (.iconst 5, 1) by decide +kernel) (by decide) ?_
  obtain ⟨⟨n88, hs89, hi90⟩, h_4⟩ := h_3
  refine fw_iald (show decode _ _ = .ok (.iaload, 1) by decide +kernel) hs89 hi90 ?_
  refine fw_imul (show decode _ _ = .ok (.imul, 1) by decide +kernel) ?_
  refine fw_iadd (show decode _ _ = .ok (.iadd, 1) by decide +kernel) ?_
  refine fw_nmI (fun x91 ex92 => ?_)
  have h_5 := h_4 x91 ex92
  refine fw_istore_n (i := 1) (ls' := [(1, .int x91), (0, .ref p0)]) (show decode _ _ = .ok (.istore_n 1, 1) by decide +kernel) (by decide) rfl ?_
  refine fw_iconst (v := (0 : Int32)) (show decode _ _ = .ok (.iconst 0, 1) by decide +kernel) (by decide) ?_
  refine fw_istore_n (i := 2) (ls' := [(2, .int (0 : Int32)), (1, .int x91), (0, .ref p0)]) (show decode _ _ = .ok (.istore_n 2, 1) by decide +kernel) (by decide) rfl ?_
  refine FW.sub [2, 1, 0] (ls' := [(0, .ref p0), (1, .int x91), (2, .int (0 : Int32))]) rfl ?_
  obtain ⟨nn, h_6⟩ := h_5
  exact sl_X11_keep_72 hd nn h_6
def b_X11_keep_13 (K13 : Nat → Int32 → fM → Prop) (φ : fM → Prop) (p0 : Nat) (p1 : Int32) (M : fM) : Prop := iF ((348 : Int32) ≤ p1) (isO M p0 11 ∧ dR (mP M p0 0) fun y96 => inA M y96 12 (5 : Int32) ∧ nm ((mI M y96 (ix (5 : Int32))) - (1 : Int32)) fun x101 => 6 ≤ y96 ∧ inA M y96 12 (5 : Int32) ∧ st (wI M y96 (ix (5 : Int32)) x101) fun M107 => j_X11_keep_56 φ p0 M107) (isO M p0 11 ∧ dR (mP M p0 0) fun y112 => dR (mP M p0 0) fun y114 => inA M y114 12 ((169 : Int32) + p1) ∧ nm (mI M y114 (ix ((169 : Int32) + p1))) fun x119 => 6 ≤ y112 ∧ inA M y112 12 ((157 : Int32) + p1) ∧ st (wI M y112 (ix ((157 : Int32) + p1)) x119) fun M125 => nm (p1 + (1 : Int32)) fun x127 => K13 p0 x127 M125)
def l_X11_keep_13 (φ : fM → Prop) : Nat → Nat → Int32 → fM → Prop
  | 0, _, _, _ => False
  | n + 1, p0, p1, M => b_X11_keep_13 (l_X11_keep_13 φ n) φ p0 p1 M
set_option maxRecDepth 100000 in
theorem sb_X11_keep_13 {g : GT} {d : Nat} (hd : 1 ≤ d + 1) {K13 : Nat → Int32 → fM → Prop} {φ : fM → Prop} (hK13 : ∀ (p0 : Nat) (p1 : Int32) (M : fM), K13 p0 p1 M → FW g mtX11_keep (d + 1) 13 [(0, .ref p0), (1, .int p1)] [] M 0 0 (rV φ)) {p0 : Nat} {p1 : Int32} {M : fM} (h : b_X11_keep_13 K13 φ p0 p1 M) : FW g mtX11_keep (d + 1) 13 [(0, .ref p0), (1, .int p1)] [] M 0 0 (rV φ) := by
  unfold b_X11_keep_13 at h
  refine fw_iload_n (i := 1) 1 rfl (show decode _ _ = .ok (.iload_n 1, 1) by decide +kernel) ?_
  refine fw_sipush (v := (348 : Int32)) (show decode _ _ = .ok (.sipush 348, 3) by decide +kernel) (by decide) ?_
  refine fw_icmp_ge 46 (show decode _ _ = .ok (.if_icmp .ge 29, 3) by decide +kernel) (by decide) (fun hc129 => ?_) (fun hc129 => ?_)
  · have h_1 := ipos hc129 h
    refine fw_aload_n (i := 0) 0 rfl (show decode _ _ = .ok (.aload_n 0, 1) by decide +kernel) ?_
    obtain ⟨⟨hr94, n93, hs95⟩, h_2⟩ := h_1
    refine fw_getP (kd := 11) (k := 0) (show decode _ _ = .ok (.getfield 7, 3) by decide +kernel) gf_X11_7 hr94 hs95 rfl ?_
    have h_3 := dR_e h_2
    obtain ⟨y96, hy97, h_4⟩ := h_3
    refine fw_deref hy97 ?_
    refine fw_iconst (v := (5 : Int32)) (show decode _ _ = .ok (.iconst 5, 1) by decide +kernel) (by decide) ?_
    refine fw_dup2_11 (show decode _ _ = .ok (.dup2, 1) by decide +kernel) rfl rfl ?_
    obtain ⟨⟨n98, hs99, hi100⟩, h_5⟩ := h_4
    refine fw_iald (show decode _ _ = .ok (.iaload, 1) by decide +kernel) hs99 hi100 ?_
    refine fw_iconst (v := (1 : Int32)) (show decode _ _ = .ok (.iconst 1, 1) by decide +kernel) (by decide) ?_
    refine fw_isub (show decode _ _ = .ok (.isub, 1) by decide +kernel) ?_
    refine fw_nmI (fun x101 ex102 => ?_)
    have h_6 := h_5 x101 ex102
    obtain ⟨hr106, ⟨n103, hs104, hi105⟩, h_7⟩ := h_6
    refine fw_iast (show decode _ _ = .ok (.iastore, 1) by decide +kernel) hr106 hs104 hi105 ?_
    refine FW.nmM (fun M107 eM108 => ?_)
    have h_8 := h_7 M107 eM108
    refine FW.sub [0] (ls' := [(0, .ref p0)]) rfl ?_
    exact sj_X11_keep_56 hd h_8
  · have h_9 := ineg hc129 h
    refine fw_aload_n (i := 0) 0 rfl (show decode _ _ = .ok (.aload_n 0, 1) by decide +kernel) ?_
    obtain ⟨⟨hr110, n109, hs111⟩, h_10⟩ := h_9
    refine fw_getP (kd := 11) (k := 0) (show decode _ _ = .ok (.getfield 7, 3) by decide +kernel) gf_X11_7 hr110 hs111 rfl ?_
    have h_11 := dR_e h_10
    obtain ⟨y112, hy113, h_12⟩ := h_11
    refine fw_deref hy113 ?_
    refine fw_sipush (v := (157 : Int32)) (show decode _ _ = .ok (.sipush 157, 3) by decide +kernel) (by decide) ?_
    refine fw_iload_n (i := 1) 1 rfl (show decode _ _ = .ok (.iload_n 1, 1) by decide +kernel) ?_
    refine fw_iadd (show decode _ _ = .ok (.iadd, 1) by decide +kernel) ?_
    refine fw_aload_n (i := 0) 0 rfl (show decode _ _ = .ok (.aload_n 0, 1) by decide +kernel) ?_
    refine fw_getP (kd := 11) (k := 0) (show decode _ _ = .ok (.getfield 7, 3) by decide +kernel) gf_X11_7 hr110 hs111 rfl ?_
    have h_13 := dR_e h_12
    obtain ⟨y114, hy115, h_14⟩ := h_13
    refine fw_deref hy115 ?_
    refine fw_sipush (v := (169 : Int32)) (show decode _ _ = .ok (.sipush 169, 3) by decide +kernel) (by decide) ?_
    refine fw_iload_n (i := 1) 1 rfl (show decode _ _ = .ok (.iload_n 1, 1) by decide +kernel) ?_
    refine fw_iadd (show decode _ _ = .ok (.iadd, 1) by decide +kernel) ?_
    obtain ⟨⟨n116, hs117, hi118⟩, h_15⟩ := h_14
    refine fw_iald (show decode _ _ = .ok (.iaload, 1) by decide +kernel) hs117 hi118 ?_
    refine fw_nmI (fun x119 ex120 => ?_)
    have h_16 := h_15 x119 ex120
    obtain ⟨hr124, ⟨n121, hs122, hi123⟩, h_17⟩ := h_16
    refine fw_iast (show decode _ _ = .ok (.iastore, 1) by decide +kernel) hr124 hs122 hi123 ?_
    refine FW.nmM (fun M125 eM126 => ?_)
    have h_18 := h_17 M125 eM126
    obtain ⟨x127, ex128⟩ : ∃ y : Int32, y = p1 + (1 : Int32) := ⟨_, rfl⟩
    have h_19 := h_18 x127 ex128
    refine fw_iinc (i := 1) (x := p1) (v := x127) (ls' := [(1, .int x127), (0, .ref p0)]) 1 rfl (show decode _ _ = .ok (.iinc 1 1, 3) by decide +kernel) (by rw [ex128]; rfl) (by decide) rfl ?_
    refine fw_goto 13 (show decode _ _ = .ok (.goto (-30), 3) by decide +kernel) (by decide) ?_
    refine FW.sub [1, 0] (ls' := [(0, .ref p0), (1, .int x127)]) rfl ?_
    exact hK13 _ _ _ h_19
theorem sl_X11_keep_13 {g : GT} {d : Nat} (hd : 1 ≤ d + 1) {φ : fM → Prop} : ∀ (n : Nat) {p0 : Nat} {p1 : Int32} {M : fM}, l_X11_keep_13 φ n p0 p1 M → FW g mtX11_keep (d + 1) 13 [(0, .ref p0), (1, .int p1)] [] M 0 0 (rV φ)
  | 0 => fun h => h.elim
  | n + 1 => fun h => sb_X11_keep_13 hd (fun _ _ _ h => sl_X11_keep_13 hd n h) h
def w_X11_keep (p0 : Nat) (M : fM) (φ : fM → Prop) : Prop := isO M p0 11 ∧ dR (mP M p0 0) fun y133 => inA M y133 12 (5 : Int32) ∧ iF ((mI M y133 (ix (5 : Int32))) = (30 : Int32)) (∃ n, l_X11_keep_13 φ n p0 (0 : Int32) M) (j_X11_keep_56 φ p0 M)
set_option maxRecDepth 100000 in
theorem s_X11_keep {g : GT} {d : Nat} (hd : 1 ≤ d) {p0 : Nat} {M : fM} {φ : fM → Prop} (h : w_X11_keep p0 M φ) : FC g mtX11_keep d [.ref p0] M 0 0 (rV φ) := by
  obtain ⟨d, rfl⟩ : ∃ e, d = e + 1 := ⟨d - 1, by omega⟩
  unfold w_X11_keep at h
  refine FC.intro (nL := 3) (by decide) rfl (Nat.le_of_ble_eq_true rfl) ?_
  show FW g mtX11_keep (d + 1) 0 [(0, .ref p0)] [] M 0 0 (rV φ)
  refine fw_aload_n (i := 0) 0 rfl (show decode _ _ = .ok (.aload_n 0, 1) by decide +kernel) ?_
  obtain ⟨⟨hr131, n130, hs132⟩, h_1⟩ := h
  refine fw_getP (kd := 11) (k := 0) (show decode _ _ = .ok (.getfield 7, 3) by decide +kernel) gf_X11_7 hr131 hs132 rfl ?_
  have h_2 := dR_e h_1
  obtain ⟨y133, hy134, h_3⟩ := h_2
  refine fw_deref hy134 ?_
  refine fw_iconst (v := (5 : Int32)) (show decode _ _ = .ok (.iconst 5, 1) by decide +kernel) (by decide) ?_
  obtain ⟨⟨n135, hs136, hi137⟩, h_4⟩ := h_3
  refine fw_iald (show decode _ _ = .ok (.iaload, 1) by decide +kernel) hs136 hi137 ?_
  refine fw_bipush (v := (30 : Int32)) (show decode _ _ = .ok (.bipush 30, 2) by decide +kernel) (by decide) ?_
  refine fw_icmp_ne 56 (show decode _ _ = .ok (.if_icmp .ne 48, 3) by decide +kernel) (by decide) (fun hc138 => ?_) (fun hc138 => ?_)
  · have h_5 := ineg hc138 h_4
    refine FW.sub [0] (ls' := [(0, .ref p0)]) rfl ?_
    exact sj_X11_keep_56 hd h_5
  · have h_6 := ipos hc138 h_4
    refine fw_iconst (v := (0 : Int32)) (show decode _ _ = .ok (.iconst 0, 1) by decide +kernel) (by decide) ?_
    refine fw_istore_n (i := 1) (ls' := [(1, .int (0 : Int32)), (0, .ref p0)]) (show decode _ _ = .ok (.istore_n 1, 1) by decide +kernel) (by decide) rfl ?_
    refine FW.sub [1, 0] (ls' := [(0, .ref p0), (1, .int (0 : Int32))]) rfl ?_
    obtain ⟨nn, h_7⟩ := h_6
    exact sl_X11_keep_13 hd nn h_7
def w_X11_sumBy (p0 : Nat) (p1 : Int32) (p2 : Int32) (p3 : Int32) (M : fM) (φ : Int32 → fM → Prop) : Prop := isO M p0 11 ∧ dR (mP M p0 0) fun y4 => inA M y4 12 (4 : Int32) ∧ w_X11_clauseOf p0 (mI M y4 (ix (4 : Int32))) p1 M fun x10 M9 => iF (0 ≤ x10) (isO M9 p0 11 ∧ dR (mP M9 p0 0) fun y14 => inA M9 y14 12 (4 : Int32) ∧ w_X11_work p0 (mI M9 y14 (ix (4 : Int32))) x10 M9 fun M19 => isO M19 p0 11 ∧ dR (mP M19 p0 22) fun y23 => inA M19 y23 13 (0 : Int32) ∧ iF (0 ≤ (lg_cmp (mJ M19 y23 (ix (0 : Int32))) (0 : Int64))) (dR (mP M19 p0 22) fun y28 => inA M19 y28 13 (0 : Int32) ∧ iF ((lg_cmp (mJ M19 y28 (ix (0 : Int32))) (Int32.toInt64 p3)) ≤ 0) (dR (mP M19 p0 22) fun y33 => inA M19 y33 13 (0 : Int32) ∧ φ (Int64.toInt32 (mJ M19 y33 (ix (0 : Int32)))) M19) (φ p3 M19)) (φ (0 : Int32) M19)) (iF (p2 ≤ p3) (φ p2 M9) (φ p3 M9))
set_option maxRecDepth 100000 in
theorem s_X11_sumBy {g : GT} {d : Nat} (hd : 4 ≤ d) {p0 : Nat} {p1 : Int32} {p2 : Int32} {p3 : Int32} {M : fM} {φ : Int32 → fM → Prop} (h : w_X11_sumBy p0 p1 p2 p3 M φ) : FC g mtX11_sumBy d [.ref p0, .int p1, .int p2, .int p3] M 0 0 (rI φ) := by
  obtain ⟨d, rfl⟩ : ∃ e, d = e + 1 := ⟨d - 1, by omega⟩
  unfold w_X11_sumBy at h
  refine FC.intro (nL := 5) (by decide) rfl (Nat.le_of_ble_eq_true rfl) ?_
  show FW g mtX11_sumBy (d + 1) 0 [(0, .ref p0), (1, .int p1), (2, .int p2), (3, .int p3)] [] M 0 0 (rI φ)
  refine fw_aload_n (i := 0) 0 rfl (show decode _ _ = .ok (.aload_n 0, 1) by decide +kernel) ?_
  refine fw_aload_n (i := 0) 0 rfl (show decode _ _ = .ok (.aload_n 0, 1) by decide +kernel) ?_
  obtain ⟨⟨hr2, n1, hs3⟩, h_1⟩ := h
  refine fw_getP (kd := 11) (k := 0) (show decode _ _ = .ok (.getfield 7, 3) by decide +kernel) gf_X11_7 hr2 hs3 rfl ?_
  have h_2 := dR_e h_1
  obtain ⟨y4, hy5, h_3⟩ := h_2
  refine fw_deref hy5 ?_
  refine fw_iconst (v := (4 : Int32)) (show decode _ _ = .ok (.iconst 4, 1) by decide +kernel) (by decide) ?_
  obtain ⟨⟨n6, hs7, hi8⟩, h_4⟩ := h_3
  refine fw_iald (show decode _ _ = .ok (.iaload, 1) by decide +kernel) hs7 hi8 ?_
  refine fw_iload_n (i := 1) 1 rfl (show decode _ _ = .ok (.iload_n 1, 1) by decide +kernel) ?_
  refine fw_callV (mt' := mtX11_clauseOf) (mc := 0) (ms := 0) (As := [.int (mI M y4 (ix (4 : Int32))), .int p1]) (rest := []) 2 11 n1 (show decode _ _ = .ok (.invokevirtual 290, 3) by decide +kernel) cv_X11_290 ⟨_, rfl, rfl⟩ hr2 hs3 rfl (Nat.le_of_ble_eq_true rfl) (s_X11_clauseOf (d := d) (hd_le hd (by decide)) h_4) (by decide) (by decide) (kI (bc' := 0) (bs' := 0) (by decide) (by decide) (fun x10 M9 h_5 => ?_))
  refine fw_istore (i := 4) (ls' := [(4, .int x10), (0, .ref p0), (1, .int p1), (2, .int p2), (3, .int p3)]) (show decode _ _ = .ok (.istore 4, 2) by decide +kernel) (by decide) rfl ?_
  refine fw_iload (i := 4) 0 rfl (show decode _ _ = .ok (.iload 4, 2) by decide +kernel) ?_
  refine fw_if_ge 29 (show decode _ _ = .ok (.ifCond .ge 14, 3) by decide +kernel) (by decide) (fun hc41 => ?_) (fun hc41 => ?_)
  · have h_6 := ipos hc41 h_5
    refine fw_aload_n (i := 0) 1 rfl (show decode _ _ = .ok (.aload_n 0, 1) by decide +kernel) ?_
    refine fw_aload_n (i := 0) 1 rfl (show decode _ _ = .ok (.aload_n 0, 1) by decide +kernel) ?_
    obtain ⟨⟨hr12, n11, hs13⟩, h_7⟩ := h_6
    refine fw_getP (kd := 11) (k := 0) (show decode _ _ = .ok (.getfield 7, 3) by decide +kernel) gf_X11_7 hr12 hs13 rfl ?_
    have h_8 := dR_e h_7
    obtain ⟨y14, hy15, h_9⟩ := h_8
    refine fw_deref hy15 ?_
    refine fw_iconst (v := (4 : Int32)) (show decode _ _ = .ok (.iconst 4, 1) by decide +kernel) (by decide) ?_
    obtain ⟨⟨n16, hs17, hi18⟩, h_10⟩ := h_9
    refine fw_iald (show decode _ _ = .ok (.iaload, 1) by decide +kernel) hs17 hi18 ?_
    refine fw_iload (i := 4) 0 rfl (show decode _ _ = .ok (.iload 4, 2) by decide +kernel) ?_
    refine fw_callV (mt' := mtX11_work) (mc := 0) (ms := 0) (As := [.int (mI M9 y14 (ix (4 : Int32))), .int x10]) (rest := []) 2 11 n11 (show decode _ _ = .ok (.invokevirtual 293, 3) by decide +kernel) cv_X11_293 ⟨_, rfl, rfl⟩ hr12 hs13 rfl (Nat.le_of_ble_eq_true rfl) (s_X11_work (d := d) (hd_le hd (by decide)) h_10) (by decide) (by decide) (kV (bc' := 0) (bs' := 0) (by decide) (by decide) (fun M19 h_11 => ?_))
    refine fw_aload_n (i := 0) 1 rfl (show decode _ _ = .ok (.aload_n 0, 1) by decide +kernel) ?_
    obtain ⟨⟨hr21, n20, hs22⟩, h_12⟩ := h_11
    refine fw_getP (kd := 11) (k := 22) (show decode _ _ = .ok (.getfield 35, 3) by decide +kernel) gf_X11_35 hr21 hs22 rfl ?_
    have h_13 := dR_e h_12
    obtain ⟨y23, hy24, h_14⟩ := h_13
    refine fw_deref hy24 ?_
    refine fw_iconst (v := (0 : Int32)) (show decode _ _ = .ok (.iconst 0, 1) by decide +kernel) (by decide) ?_
    obtain ⟨⟨n25, hs26, hi27⟩, h_15⟩ := h_14
    refine fw_lald (show decode _ _ = .ok (.laload, 1) by decide +kernel) hs26 hi27 ?_
    refine fw_lconst (v := (0 : Int64)) (show decode _ _ = .ok (.lconst 0, 1) by decide +kernel) (by decide) ?_
    refine fw_lcmp (show decode _ _ = .ok (.lcmp, 1) by decide +kernel) ?_
    refine fw_if_ge 56 (show decode _ _ = .ok (.ifCond .ge 7, 3) by decide +kernel) (by decide) (fun hc39 => ?_) (fun hc39 => ?_)
    · have h_16 := ipos hc39 h_15
      refine fw_aload_n (i := 0) 1 rfl (show decode _ _ = .ok (.aload_n 0, 1) by decide +kernel) ?_
      refine fw_getP (kd := 11) (k := 22) (show decode _ _ = .ok (.getfield 35, 3) by decide +kernel) gf_X11_35 hr21 hs22 rfl ?_
      have h_17 := dR_e h_16
      obtain ⟨y28, hy29, h_18⟩ := h_17
      refine fw_deref hy29 ?_
      refine fw_iconst (v := (0 : Int32)) (show decode _ _ = .ok (.iconst 0, 1) by decide +kernel) (by decide) ?_
      obtain ⟨⟨n30, hs31, hi32⟩, h_19⟩ := h_18
      refine fw_lald (show decode _ _ = .ok (.laload, 1) by decide +kernel) hs31 hi32 ?_
      refine fw_iload_n (i := 3) 4 rfl (show decode _ _ = .ok (.iload_n 3, 1) by decide +kernel) ?_
      refine fw_i2l (show decode _ _ = .ok (.i2l, 1) by decide +kernel) ?_
      refine fw_lcmp (show decode _ _ = .ok (.lcmp, 1) by decide +kernel) ?_
      refine fw_if_le 72 (show decode _ _ = .ok (.ifCond .le 7, 3) by decide +kernel) (by decide) (fun hc38 => ?_) (fun hc38 => ?_)
      · have h_20 := ipos hc38 h_19
        refine fw_aload_n (i := 0) 1 rfl (show decode _ _ = .ok (.aload_n 0, 1) by decide +kernel) ?_
        refine fw_getP (kd := 11) (k := 22) (show decode _ _ = .ok (.getfield 35, 3) by decide +kernel) gf_X11_35 hr21 hs22 rfl ?_
        have h_21 := dR_e h_20
        obtain ⟨y33, hy34, h_22⟩ := h_21
        refine fw_deref hy34 ?_
        refine fw_iconst (v := (0 : Int32)) (show decode _ _ = .ok (.iconst 0, 1) by decide +kernel) (by decide) ?_
        obtain ⟨⟨n35, hs36, hi37⟩, h_23⟩ := h_22
        refine fw_lald (show decode _ _ = .ok (.laload, 1) by decide +kernel) hs36 hi37 ?_
        refine fw_l2i (show decode _ _ = .ok (.l2i, 1) by decide +kernel) ?_
        exact fw_ret (v := some (.int (Int64.toInt32 (mJ M19 y33 (ix (0 : Int32)))))) .ireturn (show decode _ _ = .ok (.ireturn, 1) by decide +kernel) ⟨rfl, Or.inl rfl⟩ ⟨_, rfl, h_23⟩
      · have h_24 := ineg hc38 h_19
        refine fw_iload_n (i := 3) 4 rfl (show decode _ _ = .ok (.iload_n 3, 1) by decide +kernel) ?_
        refine fw_goto 79 (show decode _ _ = .ok (.goto 10, 3) by decide +kernel) (by decide) ?_
        exact fw_ret (v := some (.int p3)) .ireturn (show decode _ _ = .ok (.ireturn, 1) by decide +kernel) ⟨rfl, Or.inl rfl⟩ ⟨_, rfl, h_24⟩
    · have h_25 := ineg hc39 h_15
      refine fw_iconst (v := (0 : Int32)) (show decode _ _ = .ok (.iconst 0, 1) by decide +kernel) (by decide) ?_
      refine fw_goto 79 (show decode _ _ = .ok (.goto 26, 3) by decide +kernel) (by decide) ?_
      exact fw_ret (v := some (.int (0 : Int32))) .ireturn (show decode _ _ = .ok (.ireturn, 1) by decide +kernel) ⟨rfl, Or.inl rfl⟩ ⟨_, rfl, h_25⟩
  · have h_26 := ineg hc41 h_5
    refine fw_iload_n (i := 2) 3 rfl (show decode _ _ = .ok (.iload_n 2, 1) by decide +kernel) ?_
    refine fw_iload_n (i := 3) 4 rfl (show decode _ _ = .ok (.iload_n 3, 1) by decide +kernel) ?_
    refine fw_icmp_le 27 (show decode _ _ = .ok (.if_icmp .le 7, 3) by decide +kernel) (by decide) (fun hc40 => ?_) (fun hc40 => ?_)
    · have h_27 := ipos hc40 h_26
      refine fw_iload_n (i := 2) 3 rfl (show decode _ _ = .ok (.iload_n 2, 1) by decide +kernel) ?_
      exact fw_ret (v := some (.int p2)) .ireturn (show decode _ _ = .ok (.ireturn, 1) by decide +kernel) ⟨rfl, Or.inl rfl⟩ ⟨_, rfl, h_27⟩
    · have h_28 := ineg hc40 h_26
      refine fw_iload_n (i := 3) 4 rfl (show decode _ _ = .ok (.iload_n 3, 1) by decide +kernel) ?_
      refine fw_goto 28 (show decode _ _ = .ok (.goto 4, 3) by decide +kernel) (by decide) ?_
      exact fw_ret (v := some (.int p3)) .ireturn (show decode _ _ = .ok (.ireturn, 1) by decide +kernel) ⟨rfl, Or.inl rfl⟩ ⟨_, rfl, h_28⟩
def w_X11_jarOf (p0 : Nat) (p1 : Int32) (p2 : Int32) (p3 : Int32) (M : fM) (φ : Int32 → fM → Prop) : Prop := isO M p0 11 ∧ w_X11_name p0 p1 p2 p3 M fun M1 => isO M1 p0 11 ∧ w_X11_sumBy p0 (3 : Int32) (5 : Int32) (99 : Int32) M1 fun x9 M5 => φ x9 M5
set_option maxRecDepth 100000 in
theorem s_X11_jarOf {g : GT} {d : Nat} (hd : 5 ≤ d) {p0 : Nat} {p1 : Int32} {p2 : Int32} {p3 : Int32} {M : fM} {φ : Int32 → fM → Prop} (h : w_X11_jarOf p0 p1 p2 p3 M φ) : FC g mtX11_jarOf d [.ref p0, .int p1, .int p2, .int p3] M 0 0 (rI φ) := by
  obtain ⟨d, rfl⟩ : ∃ e, d = e + 1 := ⟨d - 1, by omega⟩
  unfold w_X11_jarOf at h
  refine FC.intro (nL := 4) (by decide) rfl (Nat.le_of_ble_eq_true rfl) ?_
  show FW g mtX11_jarOf (d + 1) 0 [(0, .ref p0), (1, .int p1), (2, .int p2), (3, .int p3)] [] M 0 0 (rI φ)
  refine fw_aload_n (i := 0) 0 rfl (show decode _ _ = .ok (.aload_n 0, 1) by decide +kernel) ?_
  refine fw_iload_n (i := 1) 1 rfl (show decode _ _ = .ok (.iload_n 1, 1) by decide +kernel) ?_
  refine fw_iload_n (i := 2) 2 rfl (show decode _ _ = .ok (.iload_n 2, 1) by decide +kernel) ?_
  refine fw_iload_n (i := 3) 3 rfl (show decode _ _ = .ok (.iload_n 3, 1) by decide +kernel) ?_
  obtain ⟨⟨hr3, n2, hs4⟩, h_1⟩ := h
  refine fw_callV (mt' := mtX11_name) (mc := 0) (ms := 0) (As := [.int p1, .int p2, .int p3]) (rest := []) 3 11 n2 (show decode _ _ = .ok (.invokevirtual 296, 3) by decide +kernel) cv_X11_296 ⟨_, rfl, rfl⟩ hr3 hs4 rfl (Nat.le_of_ble_eq_true rfl) (s_X11_name (d := d) (hd_le hd (by decide)) h_1) (by decide) (by decide) (kV (bc' := 0) (bs' := 0) (by decide) (by decide) (fun M1 h_2 => ?_))
  refine fw_aload_n (i := 0) 0 rfl (show decode _ _ = .ok (.aload_n 0, 1) by decide +kernel) ?_
  refine fw_iconst (v := (3 : Int32)) (show decode _ _ = .ok (.iconst 3, 1) by decide +kernel) (by decide) ?_
  refine fw_iconst (v := (5 : Int32)) (show decode _ _ = .ok (.iconst 5, 1) by decide +kernel) (by decide) ?_
  refine fw_bipush (v := (99 : Int32)) (show decode _ _ = .ok (.bipush 99, 2) by decide +kernel) (by decide) ?_
  obtain ⟨⟨hr7, n6, hs8⟩, h_3⟩ := h_2
  refine fw_callV (mt' := mtX11_sumBy) (mc := 0) (ms := 0) (As := [.int (3 : Int32), .int (5 : Int32), .int (99 : Int32)]) (rest := []) 3 11 n6 (show decode _ _ = .ok (.invokevirtual 311, 3) by decide +kernel) cv_X11_311 ⟨_, rfl, rfl⟩ hr7 hs8 rfl (Nat.le_of_ble_eq_true rfl) (s_X11_sumBy (d := d) (hd_le hd (by decide)) h_3) (by decide) (by decide) (kI (bc' := 0) (bs' := 0) (by decide) (by decide) (fun x9 M5 h_4 => ?_))
  exact fw_ret (v := some (.int x9)) .ireturn (show decode _ _ = .ok (.ireturn, 1) by decide +kernel) ⟨rfl, Or.inl rfl⟩ ⟨_, rfl, h_4⟩
def w_X11_down (p0 : Nat) (p1 : Int32) (M : fM) (φ : fM → Prop) : Prop := isO M p0 11 ∧ dR (mP M p0 0) fun y4 => inA M y4 12 (8 : Int32) ∧ nm ((517 : Int32) + ((8 : Int32) * ((mI M y4 (ix (8 : Int32))) % (256 : Int32)))) fun x9 => dR (mP M p0 0) fun y11 => dR (mP M p0 0) fun y13 => inA M y13 12 (100 : Int32) ∧ nm (mI M y13 (ix (100 : Int32))) fun x18 => 6 ≤ y11 ∧ inA M y11 12 x9 ∧ st (wI M y11 (ix x9) x18) fun M24 => dR (mP M24 p0 0) fun y26 => dR (mP M24 p0 0) fun y28 => inA M24 y28 12 (101 : Int32) ∧ nm (mI M24 y28 (ix (101 : Int32))) fun x33 => 6 ≤ y26 ∧ inA M24 y26 12 (x9 + (1 : Int32)) ∧ st (wI M24 y26 (ix (x9 + (1 : Int32))) x33) fun M39 => dR (mP M39 p0 0) fun y41 => dR (mP M39 p0 0) fun y43 => inA M39 y43 12 (1 : Int32) ∧ nm (mI M39 y43 (ix (1 : Int32))) fun x48 => 6 ≤ y41 ∧ inA M39 y41 12 (x9 + (2 : Int32)) ∧ st (wI M39 y41 (ix (x9 + (2 : Int32))) x48) fun M54 => dR (mP M54 p0 0) fun y56 => dR (mP M54 p0 0) fun y58 => inA M54 y58 12 (104 : Int32) ∧ nm (mI M54 y58 (ix (104 : Int32))) fun x63 => 6 ≤ y56 ∧ inA M54 y56 12 (x9 + (3 : Int32)) ∧ st (wI M54 y56 (ix (x9 + (3 : Int32))) x63) fun M69 => dR (mP M69 p0 0) fun y71 => dR (mP M69 p0 0) fun y73 => inA M69 y73 12 (105 : Int32) ∧ nm (mI M69 y73 (ix (105 : Int32))) fun x78 => 6 ≤ y71 ∧ inA M69 y71 12 (x9 + (4 : Int32)) ∧ st (wI M69 y71 (ix (x9 + (4 : Int32))) x78) fun M84 => dR (mP M84 p0 0) fun y86 => dR (mP M84 p0 0) fun y88 => inA M84 y88 12 (106 : Int32) ∧ nm (mI M84 y88 (ix (106 : Int32))) fun x93 => 6 ≤ y86 ∧ inA M84 y86 12 (x9 + (5 : Int32)) ∧ st (wI M84 y86 (ix (x9 + (5 : Int32))) x93) fun M99 => dR (mP M99 p0 0) fun y101 => 6 ≤ y101 ∧ inA M99 y101 12 (x9 + (6 : Int32)) ∧ st (wI M99 y101 (ix (x9 + (6 : Int32))) p1) fun M107 => dR (mP M107 p0 0) fun y109 => dR (mP M107 p0 0) fun y111 => inA M107 y111 12 (107 : Int32) ∧ nm (mI M107 y111 (ix (107 : Int32))) fun x116 => 6 ≤ y109 ∧ inA M107 y109 12 (x9 + (7 : Int32)) ∧ st (wI M107 y109 (ix (x9 + (7 : Int32))) x116) fun M122 => dR (mP M122 p0 0) fun y124 => inA M122 y124 12 (8 : Int32) ∧ nm ((mI M122 y124 (ix (8 : Int32))) + (1 : Int32)) fun x129 => 6 ≤ y124 ∧ inA M122 y124 12 (8 : Int32) ∧ st (wI M122 y124 (ix (8 : Int32)) x129) fun M135 => dR (mP M135 p0 0) fun y137 => 6 ≤ y137 ∧ inA M135 y137 12 (108 : Int32) ∧ st (wI M135 y137 (ix (108 : Int32)) (0 : Int32)) fun M143 => φ M143
set_option maxRecDepth 100000 in
theorem s_X11_down {g : GT} {d : Nat} (hd : 1 ≤ d) {p0 : Nat} {p1 : Int32} {M : fM} {φ : fM → Prop} (h : w_X11_down p0 p1 M φ) : FC g mtX11_down d [.ref p0, .int p1] M 0 0 (rV φ) := by
  obtain ⟨d, rfl⟩ : ∃ e, d = e + 1 := ⟨d - 1, by omega⟩
  unfold w_X11_down at h
  refine FC.intro (nL := 3) (by decide) rfl (Nat.le_of_ble_eq_true rfl) ?_
  show FW g mtX11_down (d + 1) 0 [(0, .ref p0), (1, .int p1)] [] M 0 0 (rV φ)
  refine fw_sipush (v := (517 : Int32)) (show decode _ _ = .ok (.sipush 517, 3) by decide +kernel) (by decide) ?_
  refine fw_bipush (v := (8 : Int32)) (show decode _ _ = .ok (.bipush 8, 2) by decide +kernel) (by decide) ?_
  refine fw_aload_n (i := 0) 0 rfl (show decode _ _ = .ok (.aload_n 0, 1) by decide +kernel) ?_
  obtain ⟨⟨hr2, n1, hs3⟩, h_1⟩ := h
  refine fw_getP (kd := 11) (k := 0) (show decode _ _ = .ok (.getfield 7, 3) by decide +kernel) gf_X11_7 hr2 hs3 rfl ?_
  have h_2 := dR_e h_1
  obtain ⟨y4, hy5, h_3⟩ := h_2
  refine fw_deref hy5 ?_
  refine fw_bipush (v := (8 : Int32)) (show decode _ _ = .ok (.bipush 8, 2) by decide +kernel) (by decide) ?_
  obtain ⟨⟨n6, hs7, hi8⟩, h_4⟩ := h_3
  refine fw_iald (show decode _ _ = .ok (.iaload, 1) by decide +kernel) hs7 hi8 ?_
  refine fw_sipush (v := (256 : Int32)) (show decode _ _ = .ok (.sipush 256, 3) by decide +kernel) (by decide) ?_
  refine fw_irem (show decode _ _ = .ok (.irem, 1) by decide +kernel) (by decide) ?_
  refine fw_imul (show decode _ _ = .ok (.imul, 1) by decide +kernel) ?_
  refine fw_iadd (show decode _ _ = .ok (.iadd, 1) by decide +kernel) ?_
  refine fw_nmI (fun x9 ex10 => ?_)
  have h_5 := h_4 x9 ex10
  refine fw_istore_n (i := 2) (ls' := [(2, .int x9), (0, .ref p0), (1, .int p1)]) (show decode _ _ = .ok (.istore_n 2, 1) by decide +kernel) (by decide) rfl ?_
  refine fw_aload_n (i := 0) 1 rfl (show decode _ _ = .ok (.aload_n 0, 1) by decide +kernel) ?_
  refine fw_getP (kd := 11) (k := 0) (show decode _ _ = .ok (.getfield 7, 3) by decide +kernel) gf_X11_7 hr2 hs3 rfl ?_
  have h_6 := dR_e h_5
  obtain ⟨y11, hy12, h_7⟩ := h_6
  refine fw_deref hy12 ?_
  refine fw_iload_n (i := 2) 0 rfl (show decode _ _ = .ok (.iload_n 2, 1) by decide +kernel) ?_
  refine fw_aload_n (i := 0) 1 rfl (show decode _ _ = .ok (.aload_n 0, 1) by decide +kernel) ?_
  refine fw_getP (kd := 11) (k := 0) (show decode _ _ = .ok (.getfield 7, 3) by decide +kernel) gf_X11_7 hr2 hs3 rfl ?_
  have h_8 := dR_e h_7
  obtain ⟨y13, hy14, h_9⟩ := h_8
  refine fw_deref hy14 ?_
  refine fw_bipush (v := (100 : Int32)) (show decode _ _ = .ok (.bipush 100, 2) by decide +kernel) (by decide) ?_
  obtain ⟨⟨n15, hs16, hi17⟩, h_10⟩ := h_9
  refine fw_iald (show decode _ _ = .ok (.iaload, 1) by decide +kernel) hs16 hi17 ?_
  refine fw_nmI (fun x18 ex19 => ?_)
  have h_11 := h_10 x18 ex19
  obtain ⟨hr23, ⟨n20, hs21, hi22⟩, h_12⟩ := h_11
  refine fw_iast (show decode _ _ = .ok (.iastore, 1) by decide +kernel) hr23 hs21 hi22 ?_
  refine FW.nmM (fun M24 eM25 => ?_)
  have h_13 := h_12 M24 eM25
  refine fw_aload_n (i := 0) 1 rfl (show decode _ _ = .ok (.aload_n 0, 1) by decide +kernel) ?_
  refine fw_getP (kd := 11) (k := 0) (show decode _ _ = .ok (.getfield 7, 3) by decide +kernel) gf_X11_7 hr2 (mSw_I eM25 hs3) rfl ?_
  have h_14 := dR_e h_13
  obtain ⟨y26, hy27, h_15⟩ := h_14
  refine fw_deref hy27 ?_
  refine fw_iload_n (i := 2) 0 rfl (show decode _ _ = .ok (.iload_n 2, 1) by decide +kernel) ?_
  refine fw_iconst (v := (1 : Int32)) (show decode _ _ = .ok (.iconst 1, 1) by decide +kernel) (by decide) ?_
  refine fw_iadd (show decode _ _ = .ok (.iadd, 1) by decide +kernel) ?_
  refine fw_aload_n (i := 0) 1 rfl (show decode _ _ = .ok (.aload_n 0, 1) by decide +kernel) ?_
  refine fw_getP (kd := 11) (k := 0) (show decode _ _ = .ok (.getfield 7, 3) by decide +kernel) gf_X11_7 hr2 (mSw_I eM25 hs3) rfl ?_
  have h_16 := dR_e h_15
  obtain ⟨y28, hy29, h_17⟩ := h_16
  refine fw_deref hy29 ?_
  refine fw_bipush (v := (101 : Int32)) (show decode _ _ = .ok (.bipush 101, 2) by decide +kernel) (by decide) ?_
  obtain ⟨⟨n30, hs31, hi32⟩, h_18⟩ := h_17
  refine fw_iald (show decode _ _ = .ok (.iaload, 1) by decide +kernel) hs31 hi32 ?_
  refine fw_nmI (fun x33 ex34 => ?_)
  have h_19 := h_18 x33 ex34
  obtain ⟨hr38, ⟨n35, hs36, hi37⟩, h_20⟩ := h_19
  refine fw_iast (show decode _ _ = .ok (.iastore, 1) by decide +kernel) hr38 hs36 hi37 ?_
  refine FW.nmM (fun M39 eM40 => ?_)
  have h_21 := h_20 M39 eM40
  refine fw_aload_n (i := 0) 1 rfl (show decode _ _ = .ok (.aload_n 0, 1) by decide +kernel) ?_
  refine fw_getP (kd := 11) (k := 0) (show decode _ _ = .ok (.getfield 7, 3) by decide +kernel) gf_X11_7 hr2 (mSw_I eM40 (mSw_I eM25 hs3)) rfl ?_
  have h_22 := dR_e h_21
  obtain ⟨y41, hy42, h_23⟩ := h_22
  refine fw_deref hy42 ?_
  refine fw_iload_n (i := 2) 0 rfl (show decode _ _ = .ok (.iload_n 2, 1) by decide +kernel) ?_
  refine fw_iconst (v := (2 : Int32)) (show decode _ _ = .ok (.iconst 2, 1) by decide +kernel) (by decide) ?_
  refine fw_iadd (show decode _ _ = .ok (.iadd, 1) by decide +kernel) ?_
  refine fw_aload_n (i := 0) 1 rfl (show decode _ _ = .ok (.aload_n 0, 1) by decide +kernel) ?_
  refine fw_getP (kd := 11) (k := 0) (show decode _ _ = .ok (.getfield 7, 3) by decide +kernel) gf_X11_7 hr2 (mSw_I eM40 (mSw_I eM25 hs3)) rfl ?_
  have h_24 := dR_e h_23
  obtain ⟨y43, hy44, h_25⟩ := h_24
  refine fw_deref hy44 ?_
  refine fw_iconst (v := (1 : Int32)) (show decode _ _ = .ok (.iconst 1, 1) by decide +kernel) (by decide) ?_
  obtain ⟨⟨n45, hs46, hi47⟩, h_26⟩ := h_25
  refine fw_iald (show decode _ _ = .ok (.iaload, 1) by decide +kernel) hs46 hi47 ?_
  refine fw_nmI (fun x48 ex49 => ?_)
  have h_27 := h_26 x48 ex49
  obtain ⟨hr53, ⟨n50, hs51, hi52⟩, h_28⟩ := h_27
  refine fw_iast (show decode _ _ = .ok (.iastore, 1) by decide +kernel) hr53 hs51 hi52 ?_
  refine FW.nmM (fun M54 eM55 => ?_)
  have h_29 := h_28 M54 eM55
  refine fw_aload_n (i := 0) 1 rfl (show decode _ _ = .ok (.aload_n 0, 1) by decide +kernel) ?_
  refine fw_getP (kd := 11) (k := 0) (show decode _ _ = .ok (.getfield 7, 3) by decide +kernel) gf_X11_7 hr2 (mSw_I eM55 (mSw_I eM40 (mSw_I eM25 hs3))) rfl ?_
  have h_30 := dR_e h_29
  obtain ⟨y56, hy57, h_31⟩ := h_30
  refine fw_deref hy57 ?_
  refine fw_iload_n (i := 2) 0 rfl (show decode _ _ = .ok (.iload_n 2, 1) by decide +kernel) ?_
  refine fw_iconst (v := (3 : Int32)) (show decode _ _ = .ok (.iconst 3, 1) by decide +kernel) (by decide) ?_
  refine fw_iadd (show decode _ _ = .ok (.iadd, 1) by decide +kernel) ?_
  refine fw_aload_n (i := 0) 1 rfl (show decode _ _ = .ok (.aload_n 0, 1) by decide +kernel) ?_
  refine fw_getP (kd := 11) (k := 0) (show decode _ _ = .ok (.getfield 7, 3) by decide +kernel) gf_X11_7 hr2 (mSw_I eM55 (mSw_I eM40 (mSw_I eM25 hs3))) rfl ?_
  have h_32 := dR_e h_31
  obtain ⟨y58, hy59, h_33⟩ := h_32
  refine fw_deref hy59 ?_
  refine fw_bipush (v := (104 : Int32)) (show decode _ _ = .ok (.bipush 104, 2) by decide +kernel) (by decide) ?_
  obtain ⟨⟨n60, hs61, hi62⟩, h_34⟩ := h_33
  refine fw_iald (show decode _ _ = .ok (.iaload, 1) by decide +kernel) hs61 hi62 ?_
  refine fw_nmI (fun x63 ex64 => ?_)
  have h_35 := h_34 x63 ex64
  obtain ⟨hr68, ⟨n65, hs66, hi67⟩, h_36⟩ := h_35
  refine fw_iast (show decode _ _ = .ok (.iastore, 1) by decide +kernel) hr68 hs66 hi67 ?_
  refine FW.nmM (fun M69 eM70 => ?_)
  have h_37 := h_36 M69 eM70
  refine fw_aload_n (i := 0) 1 rfl (show decode _ _ = .ok (.aload_n 0, 1) by decide +kernel) ?_
  refine fw_getP (kd := 11) (k := 0) (show decode _ _ = .ok (.getfield 7, 3) by decide +kernel) gf_X11_7 hr2 (mSw_I eM70 (mSw_I eM55 (mSw_I eM40 (mSw_I eM25 hs3)))) rfl ?_
  have h_38 := dR_e h_37
  obtain ⟨y71, hy72, h_39⟩ := h_38
  refine fw_deref hy72 ?_
  refine fw_iload_n (i := 2) 0 rfl (show decode _ _ = .ok (.iload_n 2, 1) by decide +kernel) ?_
  refine fw_iconst (v := (4 : Int32)) (show decode _ _ = .ok (.iconst 4, 1) by decide +kernel) (by decide) ?_
  refine fw_iadd (show decode _ _ = .ok (.iadd, 1) by decide +kernel) ?_
  refine fw_aload_n (i := 0) 1 rfl (show decode _ _ = .ok (.aload_n 0, 1) by decide +kernel) ?_
  refine fw_getP (kd := 11) (k := 0) (show decode _ _ = .ok (.getfield 7, 3) by decide +kernel) gf_X11_7 hr2 (mSw_I eM70 (mSw_I eM55 (mSw_I eM40 (mSw_I eM25 hs3)))) rfl ?_
  have h_40 := dR_e h_39
  obtain ⟨y73, hy74, h_41⟩ := h_40
  refine fw_deref hy74 ?_
  refine fw_bipush (v := (105 : Int32)) (show decode _ _ = .ok (.bipush 105, 2) by decide +kernel) (by decide) ?_
  obtain ⟨⟨n75, hs76, hi77⟩, h_42⟩ := h_41
  refine fw_iald (show decode _ _ = .ok (.iaload, 1) by decide +kernel) hs76 hi77 ?_
  refine fw_nmI (fun x78 ex79 => ?_)
  have h_43 := h_42 x78 ex79
  obtain ⟨hr83, ⟨n80, hs81, hi82⟩, h_44⟩ := h_43
  refine fw_iast (show decode _ _ = .ok (.iastore, 1) by decide +kernel) hr83 hs81 hi82 ?_
  refine FW.nmM (fun M84 eM85 => ?_)
  have h_45 := h_44 M84 eM85
  refine fw_aload_n (i := 0) 1 rfl (show decode _ _ = .ok (.aload_n 0, 1) by decide +kernel) ?_
  refine fw_getP (kd := 11) (k := 0) (show decode _ _ = .ok (.getfield 7, 3) by decide +kernel) gf_X11_7 hr2 (mSw_I eM85 (mSw_I eM70 (mSw_I eM55 (mSw_I eM40 (mSw_I eM25 hs3))))) rfl ?_
  have h_46 := dR_e h_45
  obtain ⟨y86, hy87, h_47⟩ := h_46
  refine fw_deref hy87 ?_
  refine fw_iload_n (i := 2) 0 rfl (show decode _ _ = .ok (.iload_n 2, 1) by decide +kernel) ?_
  refine fw_iconst (v := (5 : Int32)) (show decode _ _ = .ok (.iconst 5, 1) by decide +kernel) (by decide) ?_
  refine fw_iadd (show decode _ _ = .ok (.iadd, 1) by decide +kernel) ?_
  refine fw_aload_n (i := 0) 1 rfl (show decode _ _ = .ok (.aload_n 0, 1) by decide +kernel) ?_
  refine fw_getP (kd := 11) (k := 0) (show decode _ _ = .ok (.getfield 7, 3) by decide +kernel) gf_X11_7 hr2 (mSw_I eM85 (mSw_I eM70 (mSw_I eM55 (mSw_I eM40 (mSw_I eM25 hs3))))) rfl ?_
  have h_48 := dR_e h_47
  obtain ⟨y88, hy89, h_49⟩ := h_48
  refine fw_deref hy89 ?_
  refine fw_bipush (v := (106 : Int32)) (show decode _ _ = .ok (.bipush 106, 2) by decide +kernel) (by decide) ?_
  obtain ⟨⟨n90, hs91, hi92⟩, h_50⟩ := h_49
  refine fw_iald (show decode _ _ = .ok (.iaload, 1) by decide +kernel) hs91 hi92 ?_
  refine fw_nmI (fun x93 ex94 => ?_)
  have h_51 := h_50 x93 ex94
  obtain ⟨hr98, ⟨n95, hs96, hi97⟩, h_52⟩ := h_51
  refine fw_iast (show decode _ _ = .ok (.iastore, 1) by decide +kernel) hr98 hs96 hi97 ?_
  refine FW.nmM (fun M99 eM100 => ?_)
  have h_53 := h_52 M99 eM100
  refine fw_aload_n (i := 0) 1 rfl (show decode _ _ = .ok (.aload_n 0, 1) by decide +kernel) ?_
  refine fw_getP (kd := 11) (k := 0) (show decode _ _ = .ok (.getfield 7, 3) by decide +kernel) gf_X11_7 hr2 (mSw_I eM100 (mSw_I eM85 (mSw_I eM70 (mSw_I eM55 (mSw_I eM40 (mSw_I eM25 hs3)))))) rfl ?_
  have h_54 := dR_e h_53
  obtain ⟨y101, hy102, h_55⟩ := h_54
  refine fw_deref hy102 ?_
  refine fw_iload_n (i := 2) 0 rfl (show decode _ _ = .ok (.iload_n 2, 1) by decide +kernel) ?_
  refine fw_bipush (v := (6 : Int32)) (show decode _ _ = .ok (.bipush 6, 2) by decide +kernel) (by decide) ?_
  refine fw_iadd (show decode _ _ = .ok (.iadd, 1) by decide +kernel) ?_
  refine fw_iload_n (i := 1) 2 rfl (show decode _ _ = .ok (.iload_n 1, 1) by decide +kernel) ?_
  obtain ⟨hr106, ⟨n103, hs104, hi105⟩, h_56⟩ := h_55
  refine fw_iast (show decode _ _ = .ok (.iastore, 1) by decide +kernel) hr106 hs104 hi105 ?_
  refine FW.nmM (fun M107 eM108 => ?_)
  have h_57 := h_56 M107 eM108
  refine fw_aload_n (i := 0) 1 rfl (show decode _ _ = .ok (.aload_n 0, 1) by decide +kernel) ?_
  refine fw_getP (kd := 11) (k := 0) (show decode _ _ = .ok (.getfield 7, 3) by decide +kernel) gf_X11_7 hr2 (mSw_I eM108 (mSw_I eM100 (mSw_I eM85 (mSw_I eM70 (mSw_I eM55 (mSw_I eM40 (mSw_I eM25 hs3))))))) rfl ?_
  have h_58 := dR_e h_57
  obtain ⟨y109, hy110, h_59⟩ := h_58
  refine fw_deref hy110 ?_
  refine fw_iload_n (i := 2) 0 rfl (show decode _ _ = .ok (.iload_n 2, 1) by decide +kernel) ?_
  refine fw_bipush (v := (7 : Int32)) (show decode _ _ = .ok (.bipush 7, 2) by decide +kernel) (by decide) ?_
  refine fw_iadd (show decode _ _ = .ok (.iadd, 1) by decide +kernel) ?_
  refine fw_aload_n (i := 0) 1 rfl (show decode _ _ = .ok (.aload_n 0, 1) by decide +kernel) ?_
  refine fw_getP (kd := 11) (k := 0) (show decode _ _ = .ok (.getfield 7, 3) by decide +kernel) gf_X11_7 hr2 (mSw_I eM108 (mSw_I eM100 (mSw_I eM85 (mSw_I eM70 (mSw_I eM55 (mSw_I eM40 (mSw_I eM25 hs3))))))) rfl ?_
  have h_60 := dR_e h_59
  obtain ⟨y111, hy112, h_61⟩ := h_60
  refine fw_deref hy112 ?_
  refine fw_bipush (v := (107 : Int32)) (show decode _ _ = .ok (.bipush 107, 2) by decide +kernel) (by decide) ?_
  obtain ⟨⟨n113, hs114, hi115⟩, h_62⟩ := h_61
  refine fw_iald (show decode _ _ = .ok (.iaload, 1) by decide +kernel) hs114 hi115 ?_
  refine fw_nmI (fun x116 ex117 => ?_)
  have h_63 := h_62 x116 ex117
  obtain ⟨hr121, ⟨n118, hs119, hi120⟩, h_64⟩ := h_63
  refine fw_iast (show decode _ _ = .ok (.iastore, 1) by decide +kernel) hr121 hs119 hi120 ?_
  refine FW.nmM (fun M122 eM123 => ?_)
  have h_65 := h_64 M122 eM123
  refine fw_aload_n (i := 0) 1 rfl (show decode _ _ = .ok (.aload_n 0, 1) by decide +kernel) ?_
  refine fw_getP (kd := 11) (k := 0) (show decode _ _ = .ok (.getfield 7, 3) by decide +kernel) gf_X11_7 hr2 (mSw_I eM123 (mSw_I eM108 (mSw_I eM100 (mSw_I eM85 (mSw_I eM70 (mSw_I eM55 (mSw_I eM40 (mSw_I eM25 hs3)))))))) rfl ?_
  have h_66 := dR_e h_65
  obtain ⟨y124, hy125, h_67⟩ := h_66
  refine fw_deref hy125 ?_
  refine fw_bipush (v := (8 : Int32)) (show decode _ _ = .ok (.bipush 8, 2) by decide +kernel) (by decide) ?_
  refine fw_dup2_11 (show decode _ _ = .ok (.dup2, 1) by decide +kernel) rfl rfl ?_
  obtain ⟨⟨n126, hs127, hi128⟩, h_68⟩ := h_67
  refine fw_iald (show decode _ _ = .ok (.iaload, 1) by decide +kernel) hs127 hi128 ?_
  refine fw_iconst (v := (1 : Int32)) (show decode _ _ = .ok (.iconst 1, 1) by decide +kernel) (by decide) ?_
  refine fw_iadd (show decode _ _ = .ok (.iadd, 1) by decide +kernel) ?_
  refine fw_nmI (fun x129 ex130 => ?_)
  have h_69 := h_68 x129 ex130
  obtain ⟨hr134, ⟨n131, hs132, hi133⟩, h_70⟩ := h_69
  refine fw_iast (show decode _ _ = .ok (.iastore, 1) by decide +kernel) hr134 hs132 hi133 ?_
  refine FW.nmM (fun M135 eM136 => ?_)
  have h_71 := h_70 M135 eM136
  refine fw_aload_n (i := 0) 1 rfl (show decode _ _ = .ok (.aload_n 0, 1) by decide +kernel) ?_
  refine fw_getP (kd := 11) (k := 0) (show decode _ _ = .ok (.getfield 7, 3) by decide +kernel) gf_X11_7 hr2 (mSw_I eM136 (mSw_I eM123 (mSw_I eM108 (mSw_I eM100 (mSw_I eM85 (mSw_I eM70 (mSw_I eM55 (mSw_I eM40 (mSw_I eM25 hs3))))))))) rfl ?_
  have h_72 := dR_e h_71
  obtain ⟨y137, hy138, h_73⟩ := h_72
  refine fw_deref hy138 ?_
  refine fw_bipush (v := (108 : Int32)) (show decode _ _ = .ok (.bipush 108, 2) by decide +kernel) (by decide) ?_
  refine fw_iconst (v := (0 : Int32)) (show decode _ _ = .ok (.iconst 0, 1) by decide +kernel) (by decide) ?_
  obtain ⟨hr142, ⟨n139, hs140, hi141⟩, h_74⟩ := h_73
  refine fw_iast (show decode _ _ = .ok (.iastore, 1) by decide +kernel) hr142 hs140 hi141 ?_
  refine FW.nmM (fun M143 eM144 => ?_)
  have h_75 := h_74 M143 eM144
  exact fw_ret (v := none) .return_ (show decode _ _ = .ok (.return_, 1) by decide +kernel) ⟨rfl, rfl⟩ ⟨rfl, h_75⟩
