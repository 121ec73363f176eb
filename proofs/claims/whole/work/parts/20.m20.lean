def b_X4_readEither_12 (rcl : Nat → Nat → Int32 → fM → (Int32 → fM → Prop) → Prop) (K12 : Nat → Int32 → Int32 → fM → Prop) (φ : Int32 → fM → Prop) (p0 : Nat) (p1 : Int32) (p2 : Int32) (M : fM) : Prop := iF ((300 : Int32) ≤ p2) (φ (1 : Int32) M) (isO M p0 4 ∧ iF ((mI M p0 12) = (24 : Int32)) (w_X4_advance p0 M fun M4 => isO M4 p0 4 ∧ rcl 1 p0 p1 M4 fun x9 M5 => iF (x9 = 0) (φ (0 : Int32) M5) (isO M5 p0 4 ∧ w_X4_emit p0 (-24 : Int32) M5 fun M10 => nm (p2 + (1 : Int32)) fun x14 => K12 p0 p1 x14 M10)) (φ (1 : Int32) M))
def l_X4_readEither_12 (rcl : Nat → Nat → Int32 → fM → (Int32 → fM → Prop) → Prop) (φ : Int32 → fM → Prop) : Nat → Nat → Int32 → Int32 → fM → Prop
  | 0, _, _, _, _ => False
  | n + 1, p0, p1, p2, M => b_X4_readEither_12 rcl (l_X4_readEither_12 rcl φ n) φ p0 p1 p2 M
set_option maxRecDepth 100000 in
theorem sb_X4_readEither_12 {g : GT} {d : Nat} {rcl : Nat → Nat → Int32 → fM → (Int32 → fM → Prop) → Prop} (hrec : ∀ (i p0 : Nat) (p1 : Int32) (M : fM) (ψ : Int32 → fM → Prop), rcl i p0 p1 M ψ → FC g (mtG i) d [.ref p0, .int p1] M 0 0 (rI ψ)) (hd : 5 ≤ d + 1) {K12 : Nat → Int32 → Int32 → fM → Prop} {φ : Int32 → fM → Prop} (hK12 : ∀ (p0 : Nat) (p1 : Int32) (p2 : Int32) (M : fM), K12 p0 p1 p2 M → FW g mtX4_readEither (d + 1) 12 [(0, .ref p0), (1, .int p1), (2, .int p2)] [] M 0 0 (rI φ)) {p0 : Nat} {p1 : Int32} {p2 : Int32} {M : fM} (h : b_X4_readEither_12 rcl K12 φ p0 p1 p2 M) : FW g mtX4_readEither (d + 1) 12 [(0, .ref p0), (1, .int p1), (2, .int p2)] [] M 0 0 (rI φ) := by
  unfold b_X4_readEither_12 at h
  refine fw_iload_n (i := 2) 2 rfl (show decode _ _ = .ok (.iload_n 2, 1) by decide +kernel) ?_
  refine fw_sipush (v := (300 : Int32)) (show decode _ _ = .ok (.sipush 300, 3) by decide +kernel) (by decide) ?_
  refine fw_icmp_ge 54 (show decode _ _ = .ok (.if_icmp .ge 38, 3) by decide +kernel) (by decide) (fun hc18 => ?_) (fun hc18 => ?_)
  · have h_1 := ipos hc18 h
    refine fw_iconst (v := (1 : Int32)) (show decode _ _ = .ok (.iconst 1, 1) by decide +kernel) (by decide) ?_
    exact fw_ret (v := some (.int (1 : Int32))) .ireturn (show decode _ _ = .ok (.ireturn, 1) by decide +kernel) ⟨rfl, Or.inr (Or.inl ⟨rfl, rfl⟩)⟩ ⟨_, rfl, h_1⟩
  · have h_2 := ineg hc18 h
    refine fw_aload_n (i := 0) 0 rfl (show decode _ _ = .ok (.aload_n 0, 1) by decide +kernel) ?_
    obtain ⟨⟨hr2, n1, hs3⟩, h_3⟩ := h_2
    refine fw_getI (kd := 4) (k := 12) (show decode _ _ = .ok (.getfield 61, 3) by decide +kernel) gf_X4_61 hr2 hs3 (Or.inl rfl) ?_
    refine fw_bipush (v := (24 : Int32)) (show decode _ _ = .ok (.bipush 24, 2) by decide +kernel) (by decide) ?_
    refine fw_icmp_ne 54 (show decode _ _ = .ok (.if_icmp .ne 29, 3) by decide +kernel) (by decide) (fun hc17 => ?_) (fun hc17 => ?_)
    · have h_4 := ineg hc17 h_3
      refine fw_iconst (v := (1 : Int32)) (show decode _ _ = .ok (.iconst 1, 1) by decide +kernel) (by decide) ?_
      exact fw_ret (v := some (.int (1 : Int32))) .ireturn (show decode _ _ = .ok (.ireturn, 1) by decide +kernel) ⟨rfl, Or.inr (Or.inl ⟨rfl, rfl⟩)⟩ ⟨_, rfl, h_4⟩
    · have h_5 := ipos hc17 h_3
      refine fw_aload_n (i := 0) 0 rfl (show decode _ _ = .ok (.aload_n 0, 1) by decide +kernel) ?_
      refine fw_callV (mt' := mtX4_advance) (mc := 0) (ms := 0) (As := []) (rest := []) 0 4 n1 (show decode _ _ = .ok (.invokevirtual 58, 3) by decide +kernel) cv_X4_58 ⟨_, rfl, rfl⟩ hr2 hs3 rfl (Nat.le_of_ble_eq_true rfl) (s_X4_advance (d := d) (hd_le hd (by decide)) h_5) (by decide) (by decide) (kV (bc' := 0) (bs' := 0) (by decide) (by decide) (fun M4 h_6 => ?_))
      refine fw_aload_n (i := 0) 0 rfl (show decode _ _ = .ok (.aload_n 0, 1) by decide +kernel) ?_
      refine fw_iload_n (i := 1) 1 rfl (show decode _ _ = .ok (.iload_n 1, 1) by decide +kernel) ?_
      obtain ⟨⟨hr7, n6, hs8⟩, h_7⟩ := h_6
      refine fw_callV (mt' := mtX4_readBoth) (mc := 0) (ms := 0) (As := [.int p1]) (rest := []) 1 4 n6 (show decode _ _ = .ok (.invokevirtual 120, 3) by decide +kernel) cv_X4_120 ⟨_, rfl, rfl⟩ hr7 hs8 rfl (Nat.le_of_ble_eq_true rfl) (hrec 1 _ _ _ _ h_7) (by decide) (by decide) (kI (bc' := 0) (bs' := 0) (by decide) (by decide) (fun x9 M5 h_8 => ?_))
      refine fw_if_ne 42 (show decode _ _ = .ok (.ifCond .ne 5, 3) by decide +kernel) (by decide) (fun hc16 => ?_) (fun hc16 => ?_)
      · have h_9 := ineg hc16 h_8
        refine fw_aload_n (i := 0) 0 rfl (show decode _ _ = .ok (.aload_n 0, 1) by decide +kernel) ?_
        refine fw_bipush (v := (-24 : Int32)) (show decode _ _ = .ok (.bipush (-24), 2) by decide +kernel) (by decide) ?_
        obtain ⟨⟨hr12, n11, hs13⟩, h_10⟩ := h_9
        refine fw_callV (mt' := mtX4_emit) (mc := 0) (ms := 0) (As := [.int (-24 : Int32)]) (rest := []) 1 4 n11 (show decode _ _ = .ok (.invokevirtual 123, 3) by decide +kernel) cv_X4_123 ⟨_, rfl, rfl⟩ hr12 hs13 rfl (Nat.le_of_ble_eq_true rfl) (s_X4_emit (d := d) (hd_le hd (by decide)) h_10) (by decide) (by decide) (kV (bc' := 0) (bs' := 0) (by decide) (by decide) (fun M10 h_11 => ?_))
        obtain ⟨x14, ex15⟩ : ∃ y : Int32, y = p2 + (1 : Int32) := ⟨_, rfl⟩
        have h_12 := h_11 x14 ex15
        refine fw_iinc (i := 2) (x := p2) (v := x14) (ls' := [(2, .int x14), (0, .ref p0), (1, .int p1)]) 2 rfl (show decode _ _ = .ok (.iinc 2 1, 3) by decide +kernel) (by rw [ex15]; rfl) (by decide) rfl ?_
        refine fw_goto 12 (show decode _ _ = .ok (.goto (-39), 3) by decide +kernel) (by decide) ?_
        refine FW.sub [1, 2, 0] (ls' := [(0, .ref p0), (1, .int p1), (2, .int x14)]) rfl ?_
        exact hK12 _ _ _ _ h_12
      · have h_13 := ipos hc16 h_8
        refine fw_iconst (v := (0 : Int32)) (show decode _ _ = .ok (.iconst 0, 1) by decide +kernel) (by decide) ?_
        exact fw_ret (v := some (.int (0 : Int32))) .ireturn (show decode _ _ = .ok (.ireturn, 1) by decide +kernel) ⟨rfl, Or.inr (Or.inl ⟨rfl, rfl⟩)⟩ ⟨_, rfl, h_13⟩
theorem sl_X4_readEither_12 {g : GT} {d : Nat} {rcl : Nat → Nat → Int32 → fM → (Int32 → fM → Prop) → Prop} (hrec : ∀ (i p0 : Nat) (p1 : Int32) (M : fM) (ψ : Int32 → fM → Prop), rcl i p0 p1 M ψ → FC g (mtG i) d [.ref p0, .int p1] M 0 0 (rI ψ)) (hd : 5 ≤ d + 1) {φ : Int32 → fM → Prop} : ∀ (n : Nat) {p0 : Nat} {p1 : Int32} {p2 : Int32} {M : fM}, l_X4_readEither_12 rcl φ n p0 p1 p2 M → FW g mtX4_readEither (d + 1) 12 [(0, .ref p0), (1, .int p1), (2, .int p2)] [] M 0 0 (rI φ)
  | 0 => fun h => h.elim
  | n + 1 => fun h => sb_X4_readEither_12 hrec hd (fun _ _ _ _ h => sl_X4_readEither_12 hrec hd n h) h
def bd_X4_readEither (rcl : Nat → Nat → Int32 → fM → (Int32 → fM → Prop) → Prop) (p0 : Nat) (p1 : Int32) (M : fM) (φ : Int32 → fM → Prop) : Prop := isO M p0 4 ∧ rcl 1 p0 p1 M fun x23 M19 => iF (x23 = 0) (φ (0 : Int32) M19) (∃ n, l_X4_readEither_12 rcl φ n p0 p1 (0 : Int32) M19)
set_option maxRecDepth 100000 in
theorem sd_X4_readEither {g : GT} {d : Nat} {rcl : Nat → Nat → Int32 → fM → (Int32 → fM → Prop) → Prop} (hrec : ∀ (i p0 : Nat) (p1 : Int32) (M : fM) (ψ : Int32 → fM → Prop), rcl i p0 p1 M ψ → FC g (mtG i) d [.ref p0, .int p1] M 0 0 (rI ψ)) (hd : 5 ≤ d + 1) {p0 : Nat} {p1 : Int32} {M : fM} {φ : Int32 → fM → Prop} (h : bd_X4_readEither rcl p0 p1 M φ) : FC g mtX4_readEither (d + 1) [.ref p0, .int p1] M 0 0 (rI φ) := by
  unfold bd_X4_readEither at h
  refine FC.intro (nL := 3) (by decide) rfl (Nat.le_of_ble_eq_true rfl) ?_
  show FW g mtX4_readEither (d + 1) 0 [(0, .ref p0), (1, .int p1)] [] M 0 0 (rI φ)
  refine fw_aload_n (i := 0) 0 rfl (show decode _ _ = .ok (.aload_n 0, 1) by decide +kernel) ?_
  refine fw_iload_n (i := 1) 1 rfl (show decode _ _ = .ok (.iload_n 1, 1) by decide +kernel) ?_
  obtain ⟨⟨hr21, n20, hs22⟩, h_1⟩ := h
  refine fw_callV (mt' := mtX4_readBoth) (mc := 0) (ms := 0) (As := [.int p1]) (rest := []) 1 4 n20 (show decode _ _ = .ok (.invokevirtual 120, 3) by decide +kernel) cv_X4_120 ⟨_, rfl, rfl⟩ hr21 hs22 rfl (Nat.le_of_ble_eq_true rfl) (hrec 1 _ _ _ _ h_1) (by decide) (by decide) (kI (bc' := 0) (bs' := 0) (by decide) (by decide) (fun x23 M19 h_2 => ?_))
  refine fw_if_ne 10 (show decode _ _ = .ok (.ifCond .ne 5, 3) by decide +kernel) (by decide) (fun hc24 => ?_) (fun hc24 => ?_)
  · have h_3 := ineg hc24 h_2
    refine fw_iconst (v := (0 : Int32)) (show decode _ _ = .ok (.iconst 0, 1) by decide +kernel) (by decide) ?_
    refine fw_istore_n (i := 2) (ls' := [(2, .int (0 : Int32)), (0, .ref p0), (1, .int p1)]) (show decode _ _ = .ok (.istore_n 2, 1) by decide +kernel) (by decide) rfl ?_
    refine FW.sub [1, 2, 0] (ls' := [(0, .ref p0), (1, .int p1), (2, .int (0 : Int32))]) rfl ?_
    obtain ⟨nn, h_4⟩ := h_3
    exact sl_X4_readEither_12 hrec hd nn h_4
  · have h_5 := ipos hc24 h_2
    refine fw_iconst (v := (0 : Int32)) (show decode _ _ = .ok (.iconst 0, 1) by decide +kernel) (by decide) ?_
    exact fw_ret (v := some (.int (0 : Int32))) .ireturn (show decode _ _ = .ok (.ireturn, 1) by decide +kernel) ⟨rfl, Or.inr (Or.inl ⟨rfl, rfl⟩)⟩ ⟨_, rfl, h_5⟩
def b_X4_readBoth_12 (rcl : Nat → Nat → Int32 → fM → (Int32 → fM → Prop) → Prop) (K12 : Nat → Int32 → Int32 → fM → Prop) (φ : Int32 → fM → Prop) (p0 : Nat) (p1 : Int32) (p2 : Int32) (M : fM) : Prop := iF ((300 : Int32) ≤ p2) (φ (1 : Int32) M) (isO M p0 4 ∧ iF ((mI M p0 12) = (25 : Int32)) (w_X4_advance p0 M fun M4 => isO M4 p0 4 ∧ rcl 2 p0 p1 M4 fun x9 M5 => iF (x9 = 0) (φ (0 : Int32) M5) (isO M5 p0 4 ∧ w_X4_emit p0 (-25 : Int32) M5 fun M10 => nm (p2 + (1 : Int32)) fun x14 => K12 p0 p1 x14 M10)) (φ (1 : Int32) M))
def l_X4_readBoth_12 (rcl : Nat → Nat → Int32 → fM → (Int32 → fM → Prop) → Prop) (φ : Int32 → fM → Prop) : Nat → Nat → Int32 → Int32 → fM → Prop
  | 0, _, _, _, _ => False
  | n + 1, p0, p1, p2, M => b_X4_readBoth_12 rcl (l_X4_readBoth_12 rcl φ n) φ p0 p1 p2 M
set_option maxRecDepth 100000 in
theorem sb_X4_readBoth_12 {g : GT} {d : Nat} {rcl : Nat → Nat → Int32 → fM → (Int32 → fM → Prop) → Prop} (hrec : ∀ (i p0 : Nat) (p1 : Int32) (M : fM) (ψ : Int32 → fM → Prop), rcl i p0 p1 M ψ → FC g (mtG i) d [.ref p0, .int p1] M 0 0 (rI ψ)) (hd : 5 ≤ d + 1) {K12 : Nat → Int32 → Int32 → fM → Prop} {φ : Int32 → fM → Prop} (hK12 : ∀ (p0 : Nat) (p1 : Int32) (p2 : Int32) (M : fM), K12 p0 p1 p2 M → FW g mtX4_readBoth (d + 1) 12 [(0, .ref p0), (1, .int p1), (2, .int p2)] [] M 0 0 (rI φ)) {p0 : Nat} {p1 : Int32} {p2 : Int32} {M : fM} (h : b_X4_readBoth_12 rcl K12 φ p0 p1 p2 M) : FW g mtX4_readBoth (d + 1) 12 [(0, .ref p0), (1, .int p1), (2, .int p2)] [] M 0 0 (rI φ) := by
  unfold b_X4_readBoth_12 at h
  refine fw_iload_n (i := 2) 2 rfl (show decode _ _ = .ok (.iload_n 2, 1) by decide +kernel) ?_
  refine fw_sipush (v := (300 : Int32)) (show decode _ _ = .ok (.sipush 300, 3) by decide +kernel) (by decide) ?_
  refine fw_icmp_ge 54 (show decode _ _ = .ok (.if_icmp .ge 38, 3) by decide +kernel) (by decide) (fun hc18 => ?_) (fun hc18 => ?_)
  · have h_1 := ipos hc18 h
    refine fw_iconst (v := (1 : Int32)) (show decode _ _ = .ok (.iconst 1, 1) by decide +kernel) (by decide) ?_
    exact fw_ret (v := some (.int (1 : Int32))) .ireturn (show decode _ _ = .ok (.ireturn, 1) by decide +kernel) ⟨rfl, Or.inr (Or.inl ⟨rfl, rfl⟩)⟩ ⟨_, rfl, h_1⟩
  · have h_2 := ineg hc18 h
    refine fw_aload_n (i := 0) 0 rfl (show decode _ _ = .ok (.aload_n 0, 1) by decide +kernel) ?_
    obtain ⟨⟨hr2, n1, hs3⟩, h_3⟩ := h_2
    refine fw_getI (kd := 4) (k := 12) (show decode _ _ = .ok (.getfield 61, 3) by decide +kernel) gf_X4_61 hr2 hs3 (Or.inl rfl) ?_
    refine fw_bipush (v := (25 : Int32)) (show decode _ _ = .ok (.bipush 25, 2) by decide +kernel) (by decide) ?_
    refine fw_icmp_ne 54 (show decode _ _ = .ok (.if_icmp .ne 29, 3) by decide +kernel) (by decide) (fun hc17 => ?_) (fun hc17 => ?_)
    · have h_4 := ineg hc17 h_3
      refine fw_iconst (v := (1 : Int32)) (show decode _ _ = .ok (.iconst 1, 1) by decide +kernel) (by decide) ?_
      exact fw_ret (v := some (.int (1 : Int32))) .ireturn (show decode _ _ = .ok (.ireturn, 1) by decide +kernel) ⟨rfl, Or.inr (Or.inl ⟨rfl, rfl⟩)⟩ ⟨_, rfl, h_4⟩
    · have h_5 := ipos hc17 h_3
      refine fw_aload_n (i := 0) 0 rfl (show decode _ _ = .ok (.aload_n 0, 1) by decide +kernel) ?_
      refine fw_callV (mt' := mtX4_advance) (mc := 0) (ms := 0) (As := []) (rest := []) 0 4 n1 (show decode _ _ = .ok (.invokevirtual 58, 3) by decide +kernel) cv_X4_58 ⟨_, rfl, rfl⟩ hr2 hs3 rfl (Nat.le_of_ble_eq_true rfl) (s_X4_advance (d := d) (hd_le hd (by decide)) h_5) (by decide) (by decide) (kV (bc' := 0) (bs' := 0) (by decide) (by decide) (fun M4 h_6 => ?_))
      refine fw_aload_n (i := 0) 0 rfl (show decode _ _ = .ok (.aload_n 0, 1) by decide +kernel) ?_
      refine fw_iload_n (i := 1) 1 rfl (show decode _ _ = .ok (.iload_n 1, 1) by decide +kernel) ?_
      obtain ⟨⟨hr7, n6, hs8⟩, h_7⟩ := h_6
      refine fw_callV (mt' := mtX4_readAsk) (mc := 0) (ms := 0) (As := [.int p1]) (rest := []) 1 4 n6 (show decode _ _ = .ok (.invokevirtual 127, 3) by decide +kernel) cv_X4_127 ⟨_, rfl, rfl⟩ hr7 hs8 rfl (Nat.le_of_ble_eq_true rfl) (hrec 2 _ _ _ _ h_7) (by decide) (by decide) (kI (bc' := 0) (bs' := 0) (by decide) (by decide) (fun x9 M5 h_8 => ?_))
      refine fw_if_ne 42 (show decode _ _ = .ok (.ifCond .ne 5, 3) by decide +kernel) (by decide) (fun hc16 => ?_) (fun hc16 => ?_)
      · have h_9 := ineg hc16 h_8
        refine fw_aload_n (i := 0) 0 rfl (show decode _ _ = .ok (.aload_n 0, 1) by decide +kernel) ?_
        refine fw_bipush (v := (-25 : Int32)) (show decode _ _ = .ok (.bipush (-25), 2) by decide +kernel) (by decide) ?_
        obtain ⟨⟨hr12, n11, hs13⟩, h_10⟩ := h_9
        refine fw_callV (mt' := mtX4_emit) (mc := 0) (ms := 0) (As := [.int (-25 : Int32)]) (rest := []) 1 4 n11 (show decode _ _ = .ok (.invokevirtual 123, 3) by decide +kernel) cv_X4_123 ⟨_, rfl, rfl⟩ hr12 hs13 rfl (Nat.le_of_ble_eq_true rfl) (s_X4_emit (d := d) (hd_le hd (by decide)) h_10) (by decide) (by decide) (kV (bc' := 0) (bs' := 0) (by decide) (by decide) (fun M10 h_11 => ?_))
        obtain ⟨x14, ex15⟩ : ∃ y : Int32, y = p2 + (1 : Int32) := ⟨_, rfl⟩
        have h_12 := h_11 x14 ex15
        refine fw_iinc (i := 2) (x := p2) (v := x14) (ls' := [(2, .int x14), (0, .ref p0), (1, .int p1)]) 2 rfl (show decode _ _ = .ok (.iinc 2 1, 3) by decide +kernel) (by rw [ex15]; rfl) (by decide) rfl ?_
        refine fw_goto 12 (show decode _ _ = .ok (.goto (-39), 3) by decide +kernel) (by decide) ?_
        refine FW.sub [1, 2, 0] (ls' := [(0, .ref p0), (1, .int p1), (2, .int x14)]) rfl ?_
        exact hK12 _ _ _ _ h_12
      · have h_13 := ipos hc16 h_8
        refine fw_iconst (v := (0 : Int32)) (show decode _ _ = .ok (.iconst 0, 1) by decide +kernel) (by decide) ?_
        exact fw_ret (v := some (.int (0 : Int32))) .ireturn (show decode _ _ = .ok (.ireturn, 1) by decide +kernel) ⟨rfl, Or.inr (Or.inl ⟨rfl, rfl⟩)⟩ ⟨_, rfl, h_13⟩
theorem sl_X4_readBoth_12 {g : GT} {d : Nat} {rcl : Nat → Nat → Int32 → fM → (Int32 → fM → Prop) → Prop} (hrec : ∀ (i p0 : Nat) (p1 : Int32) (M : fM) (ψ : Int32 → fM → Prop), rcl i p0 p1 M ψ → FC g (mtG i) d [.ref p0, .int p1] M 0 0 (rI ψ)) (hd : 5 ≤ d + 1) {φ : Int32 → fM → Prop} : ∀ (n : Nat) {p0 : Nat} {p1 : Int32} {p2 : Int32} {M : fM}, l_X4_readBoth_12 rcl φ n p0 p1 p2 M → FW g mtX4_readBoth (d + 1) 12 [(0, .ref p0), (1, .int p1), (2, .int p2)] [] M 0 0 (rI φ)
  | 0 => fun h => h.elim
  | n + 1 => fun h => sb_X4_readBoth_12 hrec hd (fun _ _ _ _ h => sl_X4_readBoth_12 hrec hd n h) h
def bd_X4_readBoth (rcl : Nat → Nat → Int32 → fM → (Int32 → fM → Prop) → Prop) (p0 : Nat) (p1 : Int32) (M : fM) (φ : Int32 → fM → Prop) : Prop := isO M p0 4 ∧ rcl 2 p0 p1 M fun x23 M19 => iF (x23 = 0) (φ (0 : Int32) M19) (∃ n, l_X4_readBoth_12 rcl φ n p0 p1 (0 : Int32) M19)
set_option maxRecDepth 100000 in
theorem sd_X4_readBoth {g : GT} {d : Nat} {rcl : Nat → Nat → Int32 → fM → (Int32 → fM → Prop) → Prop} (hrec : ∀ (i p0 : Nat) (p1 : Int32) (M : fM) (ψ : Int32 → fM → Prop), rcl i p0 p1 M ψ → FC g (mtG i) d [.ref p0, .int p1] M 0 0 (rI ψ)) (hd : 5 ≤ d + 1) {p0 : Nat} {p1 : Int32} {M : fM} {φ : Int32 → fM → Prop} (h : bd_X4_readBoth rcl p0 p1 M φ) : FC g mtX4_readBoth (d + 1) [.ref p0, .int p1] M 0 0 (rI φ) := by
  unfold bd_X4_readBoth at h
  refine FC.intro (nL := 3) (by decide) rfl (Nat.le_of_ble_eq_true rfl) ?_
  show FW g mtX4_readBoth (d + 1) 0 [(0, .ref p0), (1, .int p1)] [] M 0 0 (rI φ)
  refine fw_aload_n (i := 0) 0 rfl (show decode _ _ = .ok (.aload_n 0, 1) by decide +kernel) ?_
  refine fw_iload_n (i := 1) 1 rfl (show decode _ _ = .ok (.iload_n 1, 1) by decide +kernel) ?_
  obtain ⟨⟨hr21, n20, hs22⟩, h_1⟩ := h
  refine fw_callV (mt' := mtX4_readAsk) (mc := 0) (ms := 0) (As := [.int p1]) (rest := []) 1 4 n20 (show decode _ _ = .ok (.invokevirtual 127, 3) by decide +kernel) cv_X4_127 ⟨_, rfl, rfl⟩ hr21 hs22 rfl (Nat.le_of_ble_eq_true rfl) (hrec 2 _ _ _ _ h_1) (by decide) (by decide) (kI (bc' := 0) (bs' := 0) (by decide) (by decide) (fun x23 M19 h_2 => ?_))
  refine fw_if_ne 10 (show decode _ _ = .ok (.ifCond .ne 5, 3) by decide +kernel) (by decide) (fun hc24 => ?_) (fun hc24 => ?_)
  · have h_3 := ineg hc24 h_2
    refine fw_iconst (v := (0 : Int32)) (show decode _ _ = .ok (.iconst 0, 1) by decide +kernel) (by decide) ?_
    refine fw_istore_n (i := 2) (ls' := [(2, .int (0 : Int32)), (0, .ref p0), (1, .int p1)]) (show decode _ _ = .ok (.istore_n 2, 1) by decide +kernel) (by decide) rfl ?_
    refine FW.sub [1, 2, 0] (ls' := [(0, .ref p0), (1, .int p1), (2, .int (0 : Int32))]) rfl ?_
    obtain ⟨nn, h_4⟩ := h_3
    exact sl_X4_readBoth_12 hrec hd nn h_4
  · have h_5 := ipos hc24 h_2
    refine fw_iconst (v := (0 : Int32)) (show decode _ _ = .ok (.iconst 0, 1) by decide +kernel) (by decide) ?_
    exact fw_ret (v := some (.int (0 : Int32))) .ireturn (show decode _ _ = .ok (.ireturn, 1) by decide +kernel) ⟨rfl, Or.inr (Or.inl ⟨rfl, rfl⟩)⟩ ⟨_, rfl, h_5⟩
def j_X4_readAsk_64 (rcl : Nat → Nat → Int32 → fM → (Int32 → fM → Prop) → Prop) (φ : Int32 → fM → Prop) (p0 : Nat) (M : fM) : Prop := isO M p0 4 ∧ w_X4_faulty p0 (1 : Int32) M fun x5 M1 => isB x5 ∧ φ x5 M1
set_option maxRecDepth 100000 in
theorem sj_X4_readAsk_64 {g : GT} {d : Nat} {rcl : Nat → Nat → Int32 → fM → (Int32 → fM → Prop) → Prop} (hrec : ∀ (i p0 : Nat) (p1 : Int32) (M : fM) (ψ : Int32 → fM → Prop), rcl i p0 p1 M ψ → FC g (mtG i) d [.ref p0, .int p1] M 0 0 (rI ψ)) (hd : 5 ≤ d + 1) {φ : Int32 → fM → Prop} {p0 : Nat} {M : fM} (h : j_X4_readAsk_64 rcl φ p0 M) : FW g mtX4_readAsk (d + 1) 64 [(0, .ref p0)] [] M 0 0 (rI φ) := by
  unfold j_X4_readAsk_64 at h
  refine fw_aload_n (i := 0) 0 rfl (show decode _ _ = .ok (.aload_n 0, 1) by decide +kernel) ?_
  refine fw_iconst (v := (1 : Int32)) (show decode _ _ = .ok (.iconst 1, 1) by decide +kernel) (by decide) ?_
  obtain ⟨⟨hr3, n2, hs4⟩, h_1⟩ := h
  refine fw_callV (mt' := mtX4_faulty) (mc := 0) (ms := 0) (As := [.int (1 : Int32)]) (rest := []) 1 4 n2 (show decode _ _ = .ok (.invokevirtual 84, 3) by decide +kernel) cv_X4_84 ⟨_, rfl, rfl⟩ hr3 hs4 rfl (Nat.le_of_ble_eq_true rfl) (s_X4_faulty (d := d) (hd_le hd (by decide)) h_1) (by decide) (by decide) (kI (bc' := 0) (bs' := 0) (by decide) (by decide) (fun x5 M1 h_2 => ?_))
  obtain ⟨hbb, h_3⟩ := h_2
  exact fw_ret (v := some (.int x5)) .ireturn (show decode _ _ = .ok (.ireturn, 1) by decide +kernel) ⟨rfl, Or.inr (Or.inl ⟨rfl, hbb⟩)⟩ ⟨_, rfl, h_3⟩
def bd_X4_readAsk (rcl : Nat → Nat → Int32 → fM → (Int32 → fM → Prop) → Prop) (p0 : Nat) (p1 : Int32) (M : fM) (φ : Int32 → fM → Prop) : Prop := isO M p0 4 ∧ iF ((mI M p0 12) = (23 : Int32)) (w_X4_opens p0 p1 M fun x31 M30 => iF (x31 = 0) (φ (0 : Int32) M30) (isO M30 p0 4 ∧ rcl 2 p0 (p1 + (1 : Int32)) M30 fun x36 M32 => iF (x36 = 0) (φ (0 : Int32) M32) (isO M32 p0 4 ∧ w_X4_emit p0 (-23 : Int32) M32 fun M37 => φ (1 : Int32) M37))) (rcl 3 p0 p1 M fun x10 M9 => iF (x10 = 0) (φ (0 : Int32) M9) (isO M9 p0 4 ∧ nm (mI M9 p0 12) fun x14 => iF (x14 < (44 : Int32)) (j_X4_readAsk_64 rcl φ p0 M9) (iF (x14 ≤ (49 : Int32)) (w_X4_advance p0 M9 fun M16 => isO M16 p0 4 ∧ rcl 3 p0 p1 M16 fun x21 M17 => iF (x21 = 0) (φ (0 : Int32) M17) (isO M17 p0 4 ∧ w_X4_emit p0 (-x14) M17 fun M22 => φ (1 : Int32) M22)) (j_X4_readAsk_64 rcl φ p0 M9))))
set_option maxRecDepth 100000 in
theorem sd_X4_readAsk {g : GT} {d : Nat} {rcl : Nat → Nat → Int32 → fM → (Int32 → fM → Prop) → Prop} (hrec : ∀ (i p0 : Nat) (p1 : Int32) (M : fM) (ψ : Int32 → fM → Prop), rcl i p0 p1 M ψ → FC g (mtG i) d [.ref p0, .int p1] M 0 0 (rI ψ)) (hd : 5 ≤ d + 1) {p0 : Nat} {p1 : Int32} {M : fM} {φ : Int32 → fM → Prop} (h : bd_X4_readAsk rcl p0 p1 M φ) : FC g mtX4_readAsk (d + 1) [.ref p0, .int p1] M 0 0 (rI φ) := by
  unfold bd_X4_readAsk at h
  refine FC.intro (nL := 3) (by decide) rfl (Nat.le_of_ble_eq_true rfl) ?_
  show FW g mtX4_readAsk (d + 1) 0 [(0, .ref p0), (1, .int p1)] [] M 0 0 (rI φ)
  refine fw_aload_n (i := 0) 0 rfl (show decode _ _ = .ok (.aload_n 0, 1) by decide +kernel) ?_
  obtain ⟨⟨hr7, n6, hs8⟩, h_1⟩ := h
  refine fw_getI (kd := 4) (k := 12) (show decode _ _ = .ok (.getfield 61, 3) by decide +kernel) gf_X4_61 hr7 hs8 (Or.inl rfl) ?_
  refine fw_bipush (v := (23 : Int32)) (show decode _ _ = .ok (.bipush 23, 2) by decide +kernel) (by decide) ?_
  refine fw_icmp_ne 37 (show decode _ _ = .ok (.if_icmp .ne 31, 3) by decide +kernel) (by decide) (fun hc43 => ?_) (fun hc43 => ?_)
  · have h_2 := ineg hc43 h_1
    refine fw_aload_n (i := 0) 0 rfl (show decode _ _ = .ok (.aload_n 0, 1) by decide +kernel) ?_
    refine fw_iload_n (i := 1) 1 rfl (show decode _ _ = .ok (.iload_n 1, 1) by decide +kernel) ?_
    refine fw_callV (mt' := mtX4_readSum) (mc := 0) (ms := 0) (As := [.int p1]) (rest := []) 1 4 n6 (show decode _ _ = .ok (.invokevirtual 107, 3) by decide +kernel) cv_X4_107 ⟨_, rfl, rfl⟩ hr7 hs8 rfl (Nat.le_of_ble_eq_true rfl) (hrec 3 _ _ _ _ h_2) (by decide) (by decide) (kI (bc' := 0) (bs' := 0) (by decide) (by decide) (fun x10 M9 h_3 => ?_))
    refine fw_if_ne 47 (show decode _ _ = .ok (.ifCond .ne 5, 3) by decide +kernel) (by decide) (fun hc29 => ?_) (fun hc29 => ?_)
    · have h_4 := ineg hc29 h_3
      refine fw_aload_n (i := 0) 0 rfl (show decode _ _ = .ok (.aload_n 0, 1) by decide +kernel) ?_
      obtain ⟨⟨hr12, n11, hs13⟩, h_5⟩ := h_4
      refine fw_getI (kd := 4) (k := 12) (show decode _ _ = .ok (.getfield 61, 3) by decide +kernel) gf_X4_61 hr12 hs13 (Or.inl rfl) ?_
      refine fw_nmI (fun x14 ex15 => ?_)
      have h_6 := h_5 x14 ex15
      refine fw_istore_n (i := 2) (ls' := [(2, .int x14), (0, .ref p0), (1, .int p1)]) (show decode _ _ = .ok (.istore_n 2, 1) by decide +kernel) (by decide) rfl ?_
      refine fw_iload_n (i := 2) 0 rfl (show decode _ _ = .ok (.iload_n 2, 1) by decide +kernel) ?_
      refine fw_bipush (v := (44 : Int32)) (show decode _ _ = .ok (.bipush 44, 2) by decide +kernel) (by decide) ?_
      refine fw_icmp_lt 64 (show decode _ _ = .ok (.if_icmp .lt 9, 3) by decide +kernel) (by decide) (fun hc28 => ?_) (fun hc28 => ?_)
      · have h_7 := ipos hc28 h_6
        refine FW.sub [1] (ls' := [(0, .ref p0)]) rfl ?_
        exact sj_X4_readAsk_64 hrec hd h_7
      · have h_8 := ineg hc28 h_6
        refine fw_iload_n (i := 2) 0 rfl (show decode _ _ = .ok (.iload_n 2, 1) by decide +kernel) ?_
        refine fw_bipush (v := (49 : Int32)) (show decode _ _ = .ok (.bipush 49, 2) by decide +kernel) (by decide) ?_
        refine fw_icmp_le 70 (show decode _ _ = .ok (.if_icmp .le 9, 3) by decide +kernel) (by decide) (fun hc27 => ?_) (fun hc27 => ?_)
        · have h_9 := ipos hc27 h_8
          refine fw_aload_n (i := 0) 1 rfl (show decode _ _ = .ok (.aload_n 0, 1) by decide +kernel) ?_
          refine fw_callV (mt' := mtX4_advance) (mc := 0) (ms := 0) (As := []) (rest := []) 0 4 n11 (show decode _ _ = .ok (.invokevirtual 58, 3) by decide +kernel) cv_X4_58 ⟨_, rfl, rfl⟩ hr12 hs13 rfl (Nat.le_of_ble_eq_true rfl) (s_X4_advance (d := d) (hd_le hd (by decide)) h_9) (by decide) (by decide) (kV (bc' := 0) (bs' := 0) (by decide) (by decide) (fun M16 h_10 => ?_))
          refine fw_aload_n (i := 0) 1 rfl (show decode _ _ = .ok (.aload_n 0, 1) by decide +kernel) ?_
          refine fw_iload_n (i := 1) 2 rfl (show decode _ _ = .ok (.iload_n 1, 1) by decide +kernel) ?_
          obtain ⟨⟨hr19, n18, hs20⟩, h_11⟩ := h_10
          refine fw_callV (mt' := mtX4_readSum) (mc := 0) (ms := 0) (As := [.int p1]) (rest := []) 1 4 n18 (show decode _ _ = .ok (.invokevirtual 107, 3) by decide +kernel) cv_X4_107 ⟨_, rfl, rfl⟩ hr19 hs20 rfl (Nat.le_of_ble_eq_true rfl) (hrec 3 _ _ _ _ h_11) (by decide) (by decide) (kI (bc' := 0) (bs' := 0) (by decide) (by decide) (fun x21 M17 h_12 => ?_))
          refine fw_if_ne 84 (show decode _ _ = .ok (.ifCond .ne 5, 3) by decide +kernel) (by decide) (fun hc26 => ?_) (fun hc26 => ?_)
          · have h_13 := ineg hc26 h_12
            refine fw_aload_n (i := 0) 1 rfl (show decode _ _ = .ok (.aload_n 0, 1) by decide +kernel) ?_
            refine fw_iload_n (i := 2) 0 rfl (show decode _ _ = .ok (.iload_n 2, 1) by decide +kernel) ?_
            refine fw_ineg (show decode _ _ = .ok (.ineg, 1) by decide +kernel) ?_
            obtain ⟨⟨hr24, n23, hs25⟩, h_14⟩ := h_13
            refine fw_callV (mt' := mtX4_emit) (mc := 0) (ms := 0) (As := [.int (-x14)]) (rest := []) 1 4 n23 (show decode _ _ = .ok (.invokevirtual 123, 3) by decide +kernel) cv_X4_123 ⟨_, rfl, rfl⟩ hr24 hs25 rfl (Nat.le_of_ble_eq_true rfl) (s_X4_emit (d := d) (hd_le hd (by decide)) h_14) (by decide) (by decide) (kV (bc' := 0) (bs' := 0) (by decide) (by decide) (fun M22 h_15 => ?_))
            refine fw_iconst (v := (1 : Int32)) (show decode _ _ = .ok (.iconst 1, 1) by decide +kernel) (by decide) ?_
            exact fw_ret (v := some (.int (1 : Int32))) .ireturn (show decode _ _ = .ok (.ireturn, 1) by decide +kernel) ⟨rfl, Or.inr (Or.inl ⟨rfl, rfl⟩)⟩ ⟨_, rfl, h_15⟩
          · have h_16 := ipos hc26 h_12
            refine fw_iconst (v := (0 : Int32)) (show decode _ _ = .ok (.iconst 0, 1) by decide +kernel) (by decide) ?_
            exact fw_ret (v := some (.int (0 : Int32))) .ireturn (show decode _ _ = .ok (.ireturn, 1) by decide +kernel) ⟨rfl, Or.inr (Or.inl ⟨rfl, rfl⟩)⟩ ⟨_, rfl, h_16⟩
        · have h_17 := ineg hc27 h_8
          refine FW.sub [1] (ls' := [(0, .ref p0)]) rfl ?_
          exact sj_X4_readAsk_64 hrec hd h_17
    · have h_18 := ipos hc29 h_3
      refine fw_iconst (v := (0 : Int32)) (show decode _ _ = .ok (.iconst 0, 1) by decide +kernel) (by decide) ?_
      exact fw_ret (v := some (.int (0 : Int32))) .ireturn (show decode _ _ = .ok (.ireturn, 1) by decide +kernel) ⟨rfl, Or.inr (Or.inl ⟨rfl, rfl⟩)⟩ ⟨_, rfl, h_18⟩
  · have h_19 := ipos hc43 h_1
    refine fw_aload_n (i := 0) 0 rfl (show decode _ _ = .ok (.aload_n 0, 1) by decide +kernel) ?_
    refine fw_iload_n (i := 1) 1 rfl (show decode _ _ = .ok (.iload_n 1, 1) by decide +kernel) ?_
    refine fw_callV (mt' := mtX4_opens) (mc := 0) (ms := 0) (As := [.int p1]) (rest := []) 1 4 n6 (show decode _ _ = .ok (.invokevirtual 130, 3) by decide +kernel) cv_X4_130 ⟨_, rfl, rfl⟩ hr7 hs8 rfl (Nat.le_of_ble_eq_true rfl) (s_X4_opens (d := d) (hd_le hd (by decide)) h_19) (by decide) (by decide) (kI (bc' := 0) (bs' := 0) (by decide) (by decide) (fun x31 M30 h_20 => ?_))
    refine fw_if_eq 27 (show decode _ _ = .ok (.ifCond .eq 13, 3) by decide +kernel) (by decide) (fun hc42 => ?_) (fun hc42 => ?_)
    · have h_21 := ipos hc42 h_20
      refine fw_iconst (v := (0 : Int32)) (show decode _ _ = .ok (.iconst 0, 1) by decide +kernel) (by decide) ?_
      exact fw_ret (v := some (.int (0 : Int32))) .ireturn (show decode _ _ = .ok (.ireturn, 1) by decide +kernel) ⟨rfl, Or.inr (Or.inl ⟨rfl, rfl⟩)⟩ ⟨_, rfl, h_21⟩
    · have h_22 := ineg hc42 h_20
      refine fw_aload_n (i := 0) 0 rfl (show decode _ _ = .ok (.aload_n 0, 1) by decide +kernel) ?_
      refine fw_iload_n (i := 1) 1 rfl (show decode _ _ = .ok (.iload_n 1, 1) by decide +kernel) ?_
      refine fw_iconst (v := (1 : Int32)) (show decode _ _ = .ok (.iconst 1, 1) by decide +kernel) (by decide) ?_
      refine fw_iadd (show decode _ _ = .ok (.iadd, 1) by decide +kernel) ?_
      obtain ⟨⟨hr34, n33, hs35⟩, h_23⟩ := h_22
      refine fw_callV (mt' := mtX4_readAsk) (mc := 0) (ms := 0) (As := [.int (p1 + (1 : Int32))]) (rest := []) 1 4 n33 (show decode _ _ = .ok (.invokevirtual 127, 3) by decide +kernel) cv_X4_127 ⟨_, rfl, rfl⟩ hr34 hs35 rfl (Nat.le_of_ble_eq_true rfl) (hrec 2 _ _ _ _ h_23) (by decide) (by decide) (kI (bc' := 0) (bs' := 0) (by decide) (by decide) (fun x36 M32 h_24 => ?_))
      refine fw_if_ne 29 (show decode _ _ = .ok (.ifCond .ne 5, 3) by decide +kernel) (by decide) (fun hc41 => ?_) (fun hc41 => ?_)
      · have h_25 := ineg hc41 h_24
        refine fw_aload_n (i := 0) 0 rfl (show decode _ _ = .ok (.aload_n 0, 1) by decide +kernel) ?_
        refine fw_bipush (v := (-23 : Int32)) (show decode _ _ = .ok (.bipush (-23), 2) by decide +kernel) (by decide) ?_
        obtain ⟨⟨hr39, n38, hs40⟩, h_26⟩ := h_25
        refine fw_callV (mt' := mtX4_emit) (mc := 0) (ms := 0) (As := [.int (-23 : Int32)]) (rest := []) 1 4 n38 (show decode _ _ = .ok (.invokevirtual 123, 3) by decide +kernel) cv_X4_123 ⟨_, rfl, rfl⟩ hr39 hs40 rfl (Nat.le_of_ble_eq_true rfl) (s_X4_emit (d := d) (hd_le hd (by decide)) h_26) (by decide) (by decide) (kV (bc' := 0) (bs' := 0) (by decide) (by decide) (fun M37 h_27 => ?_))
        refine fw_iconst (v := (1 : Int32)) (show decode _ _ = .ok (.iconst 1, 1) by decide +kernel) (by decide) ?_
        exact fw_ret (v := some (.int (1 : Int32))) .ireturn (show decode _ _ = .ok (.ireturn, 1) by decide +kernel) ⟨rfl, Or.inr (Or.inl ⟨rfl, rfl⟩)⟩ ⟨_, rfl, h_27⟩
      · have h_28 := ipos hc41 h_24
        refine fw_iconst (v := (0 : Int32)) (show decode _ _ = .ok (.iconst 0, 1) by decide +kernel) (by decide) ?_
        exact fw_ret (v := some (.int (0 : Int32))) .ireturn (show decode _ _ = .ok (.ireturn, 1) by decide +kernel) ⟨rfl, Or.inr (Or.inl ⟨rfl, rfl⟩)⟩ ⟨_, rfl, h_28⟩
def j_X4_readSum_37 (rcl : Nat → Nat → Int32 → fM → (Int32 → fM → Prop) → Prop) (K12 : Nat → Int32 → Int32 → fM → Prop) (φ : Int32 → fM → Prop) (p0 : Nat) (p1 : Int32) (p2 : Int32) (M : fM) : Prop := isO M p0 4 ∧ nm (mI M p0 12) fun x4 => w_X4_advance p0 M fun M6 => isO M6 p0 4 ∧ rcl 4 p0 p1 M6 fun x11 M7 => iF (x11 = 0) (φ (0 : Int32) M7) (isO M7 p0 4 ∧ w_X4_emit p0 (-x4) M7 fun M12 => nm (p2 + (1 : Int32)) fun x16 => K12 p0 p1 x16 M12)
set_option maxRecDepth 100000 in
theorem sj_X4_readSum_37 {g : GT} {d : Nat} {rcl : Nat → Nat → Int32 → fM → (Int32 → fM → Prop) → Prop} (hrec : ∀ (i p0 : Nat) (p1 : Int32) (M : fM) (ψ : Int32 → fM → Prop), rcl i p0 p1 M ψ → FC g (mtG i) d [.ref p0, .int p1] M 0 0 (rI ψ)) (hd : 5 ≤ d + 1) {K12 : Nat → Int32 → Int32 → fM → Prop} {φ : Int32 → fM → Prop} (hK12 : ∀ (p0 : Nat) (p1 : Int32) (p2 : Int32) (M : fM), K12 p0 p1 p2 M → FW g mtX4_readSum (d + 1) 12 [(0, .ref p0), (1, .int p1), (2, .int p2)] [] M 0 0 (rI φ)) {p0 : Nat} {p1 : Int32} {p2 : Int32} {M : fM} (h : j_X4_readSum_37 rcl K12 φ p0 p1 p2 M) : FW g mtX4_readSum (d + 1) 37 [(0, .ref p0), (1, .int p1), (2, .int p2)] [] M 0 0 (rI φ) := by
  unfold j_X4_readSum_37 at h
  refine fw_aload_n (i := 0) 0 rfl (show decode _ _ = .ok (.aload_n 0, 1) by decide +kernel) ?_
  obtain ⟨⟨hr2, n1, hs3⟩, h_1⟩ := h
  refine fw_getI (kd := 4) (k := 12) (show decode _ _ = .ok (.getfield 61, 3) by decide +kernel) gf_X4_61 hr2 hs3 (Or.inl rfl) ?_
  refine fw_nmI (fun x4 ex5 => ?_)
  have h_2 := h_1 x4 ex5
  refine fw_istore_n (i := 3) (ls' := [(3, .int x4), (0, .ref p0), (1, .int p1), (2, .int p2)]) (show decode _ _ = .ok (.istore_n 3, 1) by decide +kernel) (by decide) rfl ?_
  refine fw_aload_n (i := 0) 1 rfl (show decode _ _ = .ok (.aload_n 0, 1) by decide +kernel) ?_
  refine fw_callV (mt' := mtX4_advance) (mc := 0) (ms := 0) (As := []) (rest := []) 0 4 n1 (show decode _ _ = .ok (.invokevirtual 58, 3) by decide +kernel) cv_X4_58 ⟨_, rfl, rfl⟩ hr2 hs3 rfl (Nat.le_of_ble_eq_true rfl) (s_X4_advance (d := d) (hd_le hd (by decide)) h_2) (by decide) (by decide) (kV (bc' := 0) (bs' := 0) (by decide) (by decide) (fun M6 h_3 => ?_))
  refine fw_aload_n (i := 0) 1 rfl (show decode _ _ = .ok (.aload_n 0, 1) by decide +kernel) ?_
  refine fw_iload_n (i := 1) 2 rfl (show decode _ _ = .ok (.iload_n 1, 1) by decide +kernel) ?_
  obtain ⟨⟨hr9, n8, hs10⟩, h_4⟩ := h_3
  refine fw_callV (mt' := mtX4_readProduct) (mc := 0) (ms := 0) (As := [.int p1]) (rest := []) 1 4 n8 (show decode _ _ = .ok (.invokevirtual 133, 3) by decide +kernel) cv_X4_133 ⟨_, rfl, rfl⟩ hr9 hs10 rfl (Nat.le_of_ble_eq_true rfl) (hrec 4 _ _ _ _ h_4) (by decide) (by decide) (kI (bc' := 0) (bs' := 0) (by decide) (by decide) (fun x11 M7 h_5 => ?_))
  refine fw_if_ne 56 (show decode _ _ = .ok (.ifCond .ne 5, 3) by decide +kernel) (by decide) (fun hc18 => ?_) (fun hc18 => ?_)
  · have h_6 := ineg hc18 h_5
    refine fw_aload_n (i := 0) 1 rfl (show decode _ _ = .ok (.aload_n 0, 1) by decide +kernel) ?_
    refine fw_iload_n (i := 3) 0 rfl (show decode _ _ = .ok (.iload_n 3, 1) by decide +kernel) ?_
    refine fw_ineg (show decode _ _ = .ok (.ineg, 1) by decide +kernel) ?_
    obtain ⟨⟨hr14, n13, hs15⟩, h_7⟩ := h_6
    refine fw_callV (mt' := mtX4_emit) (mc := 0) (ms := 0) (As := [.int (-x4)]) (rest := []) 1 4 n13 (show decode _ _ = .ok (.invokevirtual 123, 3) by decide +kernel) cv_X4_123 ⟨_, rfl, rfl⟩ hr14 hs15 rfl (Nat.le_of_ble_eq_true rfl) (s_X4_emit (d := d) (hd_le hd (by decide)) h_7) (by decide) (by decide) (kV (bc' := 0) (bs' := 0) (by decide) (by decide) (fun M12 h_8 => ?_))
    obtain ⟨x16, ex17⟩ : ∃ y : Int32, y = p2 + (1 : Int32) := ⟨_, rfl⟩
    have h_9 := h_8 x16 ex17
    refine fw_iinc (i := 2) (x := p2) (v := x16) (ls' := [(2, .int x16), (3, .int x4), (0, .ref p0), (1, .int p1)]) 3 rfl (show decode _ _ = .ok (.iinc 2 1, 3) by decide +kernel) (by rw [ex17]; rfl) (by decide) rfl ?_
    refine fw_goto 12 (show decode _ _ = .ok (.goto (-53), 3) by decide +kernel) (by decide) ?_
    refine FW.sub [2, 3, 0] (ls' := [(0, .ref p0), (1, .int p1), (2, .int x16)]) rfl ?_
    exact hK12 _ _ _ _ h_9
  · have h_10 := ipos hc18 h_5
    refine fw_iconst (v := (0 : Int32)) (show decode _ _ = .ok (.iconst 0, 1) by decide +kernel) (by decide) ?_
    exact fw_ret (v := some (.int (0 : Int32))) .ireturn (show decode _ _ = .ok (.ireturn, 1) by decide +kernel) ⟨rfl, Or.inr (Or.inl ⟨rfl, rfl⟩)⟩ ⟨_, rfl, h_10⟩
def b_X4_readSum_12 (rcl : Nat → Nat → Int32 → fM → (Int32 → fM → Prop) → Prop) (K12 : Nat → Int32 → Int32 → fM → Prop) (φ : Int32 → fM → Prop) (p0 : Nat) (p1 : Int32) (p2 : Int32) (M : fM) : Prop := iF ((300 : Int32) ≤ p2) (φ (1 : Int32) M) (isO M p0 4 ∧ iF ((mI M p0 12) = (40 : Int32)) (j_X4_readSum_37 rcl K12 φ p0 p1 p2 M) (iF ((mI M p0 12) = (41 : Int32)) (j_X4_readSum_37 rcl K12 φ p0 p1 p2 M) (φ (1 : Int32) M)))
def l_X4_readSum_12 (rcl : Nat → Nat → Int32 → fM → (Int32 → fM → Prop) → Prop) (φ : Int32 → fM → Prop) : Nat → Nat → Int32 → Int32 → fM → Prop
  | 0, _, _, _, _ => False
  | n + 1, p0, p1, p2, M => b_X4_readSum_12 rcl (l_X4_readSum_12 rcl φ n) φ p0 p1 p2 M
set_option maxRecDepth 100000 in
theorem sb_X4_readSum_12 {g : GT} {d : Nat} {rcl : Nat → Nat → Int32 → fM → (Int32 → fM → Prop) → Prop} (hrec : ∀ (i p0 : Nat) (p1 : Int32) (M : fM) (ψ : Int32 → fM → Prop), rcl i p0 p1 M ψ → FC g (mtG i) d [.ref p0, .int p1] M 0 0 (rI ψ)) (hd : 5 ≤ d + 1) {K12 : Nat → Int32 → Int32 → fM → Prop} {φ : Int32 → fM → Prop} (hK12 : ∀ (p0 : Nat) (p1 : Int32) (p2 : Int32) (M : fM), K12 p0 p1 p2 M → FW g mtX4_readSum (d + 1) 12 [(0, .ref p0), (1, .int p1), (2, .int p2)] [] M 0 0 (rI φ)) {p0 : Nat} {p1 : Int32} {p2 : Int32} {M : fM} (h : b_X4_readSum_12 rcl K12 φ p0 p1 p2 M) : FW g mtX4_readSum (d + 1) 12 [(0, .ref p0), (1, .int p1), (2, .int p2)] [] M 0 0 (rI φ) := by
  unfold b_X4_readSum_12 at h
  refine fw_iload_n (i := 2) 2 rfl (show decode _ _ = .ok (.iload_n 2, 1) by decide +kernel) ?_
  refine fw_sipush (v := (300 : Int32)) (show decode _ _ = .ok (.sipush 300, 3) by decide +kernel) (by decide) ?_
  refine fw_icmp_ge 68 (show decode _ _ = .ok (.if_icmp .ge 52, 3) by decide +kernel) (by decide) (fun hc24 => ?_) (fun hc24 => ?_)
  · have h_1 := ipos hc24 h
    refine fw_iconst (v := (1 : Int32)) (show decode _ _ = .ok (.iconst 1, 1) by decide +kernel) (by decide) ?_
    exact fw_ret (v := some (.int (1 : Int32))) .ireturn (show decode _ _ = .ok (.ireturn, 1) by decide +kernel) ⟨rfl, Or.inr (Or.inl ⟨rfl, rfl⟩)⟩ ⟨_, rfl, h_1⟩
  · have h_2 := ineg hc24 h
    refine fw_aload_n (i := 0) 0 rfl (show decode _ _ = .ok (.aload_n 0, 1) by decide +kernel) ?_
    obtain ⟨⟨hr20, n19, hs21⟩, h_3⟩ := h_2
    refine fw_getI (kd := 4) (k := 12) (show decode _ _ = .ok (.getfield 61, 3) by decide +kernel) gf_X4_61 hr20 hs21 (Or.inl rfl) ?_
    refine fw_bipush (v := (40 : Int32)) (show decode _ _ = .ok (.bipush 40, 2) by decide +kernel) (by decide) ?_
    refine fw_icmp_eq 37 (show decode _ _ = .ok (.if_icmp .eq 12, 3) by decide +kernel) (by decide) (fun hc23 => ?_) (fun hc23 => ?_)
    · have h_4 := ipos hc23 h_3
      refine FW.sub [0, 1, 2] (ls' := [(0, .ref p0), (1, .int p1), (2, .int p2)]) rfl ?_
      exact sj_X4_readSum_37 hrec hd hK12 h_4
    · have h_5 := ineg hc23 h_3
      refine fw_aload_n (i := 0) 0 rfl (show decode _ _ = .ok (.aload_n 0, 1) by decide +kernel) ?_
      refine fw_getI (kd := 4) (k := 12) (show decode _ _ = .ok (.getfield 61, 3) by decide +kernel) gf_X4_61 hr20 hs21 (Or.inl rfl) ?_
      refine fw_bipush (v := (41 : Int32)) (show decode _ _ = .ok (.bipush 41, 2) by decide +kernel) (by decide) ?_
      refine fw_icmp_ne 68 (show decode _ _ = .ok (.if_icmp .ne 34, 3) by decide +kernel) (by decide) (fun hc22 => ?_) (fun hc22 => ?_)
      · have h_6 := ineg hc22 h_5
        refine fw_iconst (v := (1 : Int32)) (show decode _ _ = .ok (.iconst 1, 1) by decide +kernel) (by decide) ?_
        exact fw_ret (v := some (.int (1 : Int32))) .ireturn (show decode _ _ = .ok (.ireturn, 1) by decide +kernel) ⟨rfl, Or.inr (Or.inl ⟨rfl, rfl⟩)⟩ ⟨_, rfl, h_6⟩
      · have h_7 := ipos hc22 h_5
        refine FW.sub [0, 1, 2] (ls' := [(0, .ref p0), (1, .int p1), (2, .int p2)]) rfl ?_
        exact sj_X4_readSum_37 hrec hd hK12 h_7
theorem sl_X4_readSum_12 {g : GT} {d : Nat} {rcl : Nat → Nat → Int32 → fM → (Int32 → fM → Prop) → Prop} (hrec : ∀ (i p0 : Nat) (p1 : Int32) (M : fM) (ψ : Int32 → fM → Prop), rcl i p0 p1 M ψ → FC g (mtG i) d [.ref p0, .int p1] M 0 0 (rI ψ)) (hd : 5 ≤ d + 1) {φ : Int32 → fM → Prop} : ∀ (n : Nat) {p0 : Nat} {p1 : Int32} {p2 : Int32} {M : fM}, l_X4_readSum_12 rcl φ n p0 p1 p2 M → FW g mtX4_readSum (d + 1) 12 [(0, .ref p0), (1, .int p1), (2, .int p2)] [] M 0 0 (rI φ)
  | 0 => fun h => h.elim
  | n + 1 => fun h => sb_X4_readSum_12 hrec hd (fun _ _ _ _ h => sl_X4_readSum_12 hrec hd n h) h
def bd_X4_readSum (rcl : Nat → Nat → Int32 → fM → (Int32 → fM → Prop) → Prop) (p0 : Nat) (p1 : Int32) (M : fM) (φ : Int32 → fM → Prop) : Prop := isO M p0 4 ∧ rcl 4 p0 p1 M fun x29 M25 => iF (x29 = 0) (φ (0 : Int32) M25) (∃ n, l_X4_readSum_12 rcl φ n p0 p1 (0 : Int32) M25)
set_option maxRecDepth 100000 in
theorem sd_X4_readSum {g : GT} {d : Nat} {rcl : Nat → Nat → Int32 → fM → (Int32 → fM → Prop) → Prop} (hrec : ∀ (i p0 : Nat) (p1 : Int32) (M : fM) (ψ : Int32 → fM → Prop), rcl i p0 p1 M ψ → FC g (mtG i) d [.ref p0, .int p1] M 0 0 (rI ψ)) (hd : 5 ≤ d + 1) {p0 : Nat} {p1 : Int32} {M : fM} {φ : Int32 → fM → Prop} (h : bd_X4_readSum rcl p0 p1 M φ) : FC g mtX4_readSum (d + 1) [.ref p0, .int p1] M 0 0 (rI φ) := by
  unfold bd_X4_readSum at h
  refine FC.intro (nL := 4) (by decide) rfl (Nat.le_of_ble_eq_true rfl) ?_
  show FW g mtX4_readSum (d + 1) 0 [(0, .ref p0), (1, .int p1)] [] M 0 0 (rI φ)
  refine fw_aload_n (i := 0) 0 rfl (show decode _ _ = .ok (.aload_n 0, 1) by decide +kernel) ?_
  refine fw_iload_n (i := 1) 1 rfl (show decode _ _ = .ok (.iload_n 1, 1) by decide +kernel) ?_
  obtain ⟨⟨hr27, n26, hs28⟩, h_1⟩ := h
  refine fw_callV (mt' := mtX4_readProduct) (mc := 0) (ms := 0) (As := [.int p1]) (rest := []) 1 4 n26 (show decode _ _ = .ok (.invokevirtual 133, 3) by decide +kernel) cv_X4_133 ⟨_, rfl, rfl⟩ hr27 hs28 rfl (Nat.le_of_ble_eq_true rfl) (hrec 4 _ _ _ _ h_1) (by decide) (by decide) (kI (bc' := 0) (bs' := 0) (by decide) (by decide) (fun x29 M25 h_2 => ?_))
  refine fw_if_ne 10 (show decode _ _ = .ok (.ifCond .ne 5, 3) by decide +kernel) (by decide) (fun hc30 => ?_) (fun hc30 => ?_)
  · have h_3 := ineg hc30 h_2
    refine fw_iconst (v := (0 : Int32)) (show decode _ _ = .ok (.iconst 0, 1) by decide +kernel) (by decide) ?_
    refine fw_istore_n (i := 2) (ls' := [(2, .int (0 : Int32)), (0, .ref p0), (1, .int p1)]) (show decode _ _ = .ok (.istore_n 2, 1) by decide +kernel) (by decide) rfl ?_
    refine FW.sub [1, 2, 0] (ls' := [(0, .ref p0), (1, .int p1), (2, .int (0 : Int32))]) rfl ?_
    obtain ⟨nn, h_4⟩ := h_3
    exact sl_X4_readSum_12 hrec hd nn h_4
  · have h_5 := ipos hc30 h_2
    refine fw_iconst (v := (0 : Int32)) (show decode _ _ = .ok (.iconst 0, 1) by decide +kernel) (by decide) ?_
    exact fw_ret (v := some (.int (0 : Int32))) .ireturn (show decode _ _ = .ok (.ireturn, 1) by decide +kernel) ⟨rfl, Or.inr (Or.inl ⟨rfl, rfl⟩)⟩ ⟨_, rfl, h_5⟩
def j_X4_readProduct_37 (rcl : Nat → Nat → Int32 → fM → (Int32 → fM → Prop) → Prop) (K12 : Nat → Int32 → Int32 → fM → Prop) (φ : Int32 → fM → Prop) (p0 : Nat) (p1 : Int32) (p2 : Int32) (M : fM) : Prop := isO M p0 4 ∧ nm (mI M p0 12) fun x4 => w_X4_advance p0 M fun M6 => isO M6 p0 4 ∧ rcl 5 p0 p1 M6 fun x11 M7 => iF (x11 = 0) (φ (0 : Int32) M7) (isO M7 p0 4 ∧ w_X4_emit p0 (-x4) M7 fun M12 => nm (p2 + (1 : Int32)) fun x16 => K12 p0 p1 x16 M12)
set_option maxRecDepth 100000 in
theorem sj_X4_readProduct_37 {g : GT} {d : Nat} {rcl : Nat → Nat → Int32 → fM → (Int32 → fM → Prop) → Prop} (hrec : ∀ (i p0 : Nat) (p1 : Int32) (M : fM) (ψ : Int32 → fM → Prop), rcl i p0 p1 M ψ → FC g (mtG i) d [.ref p0, .int p1] M 0 0 (rI ψ)) (hd : 5 ≤ d + 1) {K12 : Nat → Int32 → Int32 → fM → Prop} {φ : Int32 → fM → Prop} (hK12 : ∀ (p0 : Nat) (p1 : Int32) (p2 : Int32) (M : fM), K12 p0 p1 p2 M → FW g mtX4_readProduct (d + 1) 12 [(0, .ref p0), (1, .int p1), (2, .int p2)] [] M 0 0 (rI φ)) {p0 : Nat} {p1 : Int32} {p2 : Int32} {M : fM} (h : j_X4_readProduct_37 rcl K12 φ p0 p1 p2 M) : FW g mtX4_readProduct (d + 1) 37 [(0, .ref p0), (1, .int p1), (2, .int p2)] [] M 0 0 (rI φ) := by
  unfold j_X4_readProduct_37 at h
  refine fw_aload_n (i := 0) 0 rfl (show decode _ _ = .ok (.aload_n 0, 1) by decide +kernel) ?_
  obtain ⟨⟨hr2, n1, hs3⟩, h_1⟩ := h
  refine fw_getI (kd := 4) (k := 12) (show decode _ _ = .ok (.getfield 61, 3) by decide +kernel) gf_X4_61 hr2 hs3 (Or.inl rfl) ?_
  refine fw_nmI (fun x4 ex5 => ?_)
  have h_2 := h_1 x4 ex5
  refine fw_istore_n (i := 3) (ls' := [(3, .int x4), (0, .ref p0), (1, .int p1), (2, .int p2)]) (show decode _ _ = .ok (.istore_n 3, 1) by decide +kernel) (by decide) rfl ?_
  refine fw_aload_n (i := 0) 1 rfl (show decode _ _ = .ok (.aload_n 0, 1) by decide +kernel) ?_
  refine fw_callV (mt' := mtX4_advance) (mc := 0) (ms := 0) (As := []) (rest := []) 0 4 n1 (show decode _ _ = .ok (.invokevirtual 58, 3) by decide +kernel) cv_X4_58 ⟨_, rfl, rfl⟩ hr2 hs3 rfl (Nat.le_of_ble_eq_true rfl) (s_X4_advance (d := d) (hd_le hd (by decide)) h_2) (by decide) (by decide) (kV (bc' := 0) (bs' := 0) (by decide) (by decide) (fun M6 h_3 => ?_))
  refine fw_aload_n (i := 0) 1 rfl (show decode _ _ = .ok (.aload_n 0, 1) by decide +kernel) ?_
  refine fw_iload_n (i := 1) 2 rfl (show decode _ _ = .ok (.iload_n 1, 1) by decide +kernel) ?_
  obtain ⟨⟨hr9, n8, hs10⟩, h_4⟩ := h_3
  refine fw_callV (mt' := mtX4_readOne) (mc := 0) (ms := 0) (As := [.int p1]) (rest := []) 1 4 n8 (show decode _ _ = .ok (.invokevirtual 136, 3) by decide +kernel) cv_X4_136 ⟨_, rfl, rfl⟩ hr9 hs10 rfl (Nat.le_of_ble_eq_true rfl) (hrec 5 _ _ _ _ h_4) (by decide) (by decide) (kI (bc' := 0) (bs' := 0) (by decide) (by decide) (fun x11 M7 h_5 => ?_))
  refine fw_if_ne 56 (show decode _ _ = .ok (.ifCond .ne 5, 3) by decide +kernel) (by decide) (fun hc18 => ?_) (fun hc18 => ?_)
  · have h_6 := ineg hc18 h_5
    refine fw_aload_n (i := 0) 1 rfl (show decode _ _ = .ok (.aload_n 0, 1) by decide +kernel) ?_
    refine fw_iload_n (i := 3) 0 rfl (show decode _ _ = .ok (.iload_n 3, 1) by decide +kernel) ?_
    refine fw_ineg (show decode _ _ = .ok (.ineg, 1) by decide +kernel) ?_
    obtain ⟨⟨hr14, n13, hs15⟩, h_7⟩ := h_6
    refine fw_callV (mt' := mtX4_emit) (mc := 0) (ms := 0) (As := [.int (-x4)]) (rest := []) 1 4 n13 (show decode _ _ = .ok (.invokevirtual 123, 3) by decide +kernel) cv_X4_123 ⟨_, rfl, rfl⟩ hr14 hs15 rfl (Nat.le_of_ble_eq_true rfl) (s_X4_emit (d := d) (hd_le hd (by decide)) h_7) (by decide) (by decide) (kV (bc' := 0) (bs' := 0) (by decide) (by decide) (fun M12 h_8 => ?_))
    obtain ⟨x16, ex17⟩ : ∃ y : Int32, y = p2 + (1 : Int32) := ⟨_, rfl⟩
    have h_9 := h_8 x16 ex17
    refine fw_iinc (i := 2) (x := p2) (v := x16) (ls' := [(2, .int x16), (3, .int x4), (0, .ref p0), (1, .int p1)]) 3 rfl (show decode _ _ = .ok (.iinc 2 1, 3) by decide +kernel) (by rw [ex17]; rfl) (by decide) rfl ?_
    refine fw_goto 12 (show decode _ _ = .ok (.goto (-53), 3) by decide +kernel) (by decide) ?_
    refine FW.sub [2, 3, 0] (ls' := [(0, .ref p0), (1, .int p1), (2, .int x16)]) rfl ?_
    exact hK12 _ _ _ _ h_9
  · have h_10 := ipos hc18 h_5
    refine fw_iconst (v := (0 : Int32)) (show decode _ _ = .ok (.iconst 0, 1) by decide +kernel) (by decide) ?_
    exact fw_ret (v := some (.int (0 : Int32))) .ireturn (show decode _ _ = .ok (.ireturn, 1) by decide +kernel) ⟨rfl, Or.inr (Or.inl ⟨rfl, rfl⟩)⟩ ⟨_, rfl, h_10⟩
def b_X4_readProduct_12 (rcl : Nat → Nat → Int32 → fM → (Int32 → fM → Prop) → Prop) (K12 : Nat → Int32 → Int32 → fM → Prop) (φ : Int32 → fM → Prop) (p0 : Nat) (p1 : Int32) (p2 : Int32) (M : fM) : Prop := iF ((300 : Int32) ≤ p2) (φ (1 : Int32) M) (isO M p0 4 ∧ iF ((mI M p0 12) = (42 : Int32)) (j_X4_readProduct_37 rcl K12 φ p0 p1 p2 M) (iF ((mI M p0 12) = (43 : Int32)) (j_X4_readProduct_37 rcl K12 φ p0 p1 p2 M) (φ (1 : Int32) M)))
def l_X4_readProduct_12 (rcl : Nat → Nat → Int32 → fM → (Int32 → fM → Prop) → Prop) (φ : Int32 → fM → Prop) : Nat → Nat → Int32 → Int32 → fM → Prop
  | 0, _, _, _, _ => False
  | n + 1, p0, p1, p2, M => b_X4_readProduct_12 rcl (l_X4_readProduct_12 rcl φ n) φ p0 p1 p2 M
set_option maxRecDepth 100000 in
theorem sb_X4_readProduct_12 {g : GT} {d : Nat} {rcl : Nat → Nat → Int32 → fM → (Int32 → fM → Prop) → Prop} (hrec : ∀ (i p0 : Nat) (p1 : Int32) (M : fM) (ψ : Int32 → fM → Prop), rcl i p0 p1 M ψ → FC g (mtG i) d [.ref p0, .int p1] M 0 0 (rI ψ)) (hd : 5 ≤ d + 1) {K12 : Nat → Int32 → Int32 → fM → Prop} {φ : Int32 → fM → Prop} (hK12 : ∀ (p0 : Nat) (p1 : Int32) (p2 : Int32) (M : fM), K12 p0 p1 p2 M → FW g mtX4_readProduct (d + 1) 12 [(0, .ref p0), (1, .int p1), (2, .int p2)] [] M 0 0 (rI φ)) {p0 : Nat} {p1 : Int32} {p2 : Int32} {M : fM} (h : b_X4_readProduct_12 rcl K12 φ p0 p1 p2 M) : FW g mtX4_readProduct (d + 1) 12 [(0, .ref p0), (1, .int p1), (2, .int p2)] [] M 0 0 (rI φ) := by
  unfold b_X4_readProduct_12 at h
  refine fw_iload_n (i := 2) 2 rfl (show decode _ _ = .ok (.iload_n 2, 1) by decide +kernel) ?_
  refine fw_sipush (v := (300 : Int32)) (show decode _ _ = .ok (.sipush 300, 3) by decide +kernel) (by decide) ?_
  refine fw_icmp_ge 68 (show decode _ _ = .ok (.if_icmp .ge 52, 3) by decide +kernel) (by decide) (fun hc24 => ?_) (fun hc24 => ?_)
  · have h_1 := ipos hc24 h
    refine fw_iconst (v := (1 : Int32)) (show decode _ _ = .ok (.iconst 1, 1) by decide +kernel) (by decide) ?_
    exact fw_ret (v := some (.int (1 : Int32))) .ireturn (show decode _ _ = .ok (.ireturn, 1) by decide +kernel) ⟨rfl, Or.inr (Or.inl ⟨rfl, rfl⟩)⟩ ⟨_, rfl, h_1⟩
  · have h_2 := ineg hc24 h
    refine fw_aload_n (i := 0) 0 rfl (show decode _ _ = .ok (.aload_n 0, 1) by decide +kernel) ?_
    obtain ⟨⟨hr20, n19, hs21⟩, h_3⟩ := h_2
    refine fw_getI (kd := 4) (k := 12) (show decode _ _ = .ok (.getfield 61, 3) by decide +kernel) gf_X4_61 hr20 hs21 (Or.inl rfl) ?_
    refine fw_bipush (v := (42 : Int32)) (show decode _ _ = .ok (.bipush 42, 2) by decide +kernel) (by decide) ?_
    refine fw_icmp_eq 37 (show decode _ _ = .ok (.if_icmp .eq 12, 3) by decide +kernel) (by decide) (fun hc23 => ?_) (fun hc23 => ?_)
    · have h_4 := ipos hc23 h_3
      refine FW.sub [0, 1, 2] (ls' := [(0, .ref p0), (1, .int p1), (2, .int p2)]) rfl ?_
      exact sj_X4_readProduct_37 hrec hd hK12 h_4
    · have h_5 := ineg hc23 h_3
      refine fw_aload_n (i := 0) 0 rfl (show decode _ _ = .ok (.aload_n 0, 1) by decide +kernel) ?_
      refine fw_getI (kd := 4) (k := 12) (show decode _ _ = .ok (.getfield 61, 3) by decide +kernel) gf_X4_61 hr20 hs21 (Or.inl rfl) ?_
      refine fw_bipush (v := (43 : Int32)) (show decode _ _ = .ok (.bipush 43, 2) by decide +kernel) (by decide) ?_
      refine fw_icmp_ne 68 (show decode _ _ = .ok (.if_icmp .ne 34, 3) by decide +kernel) (by decide) (fun hc22 => ?_) (fun hc22 => ?_)
      · have h_6 := ineg hc22 h_5
        refine fw_iconst (v := (1 : Int32)) (show decode _ _ = .ok (.iconst 1, 1) by decide +kernel) (by decide) ?_
        exact fw_ret (v := some (.int (1 : Int32))) .ireturn (show decode _ _ = .ok (.ireturn, 1) by decide +kernel) ⟨rfl, Or.inr (Or.inl ⟨rfl, rfl⟩)⟩ ⟨_, rfl, h_6⟩
      · have h_7 := ipos hc22 h_5
        refine FW.sub [0, 1, 2] (ls' := [(0, .ref p0), (1, .int p1), (2, .int p2)]) rfl ?_
        exact sj_X4_readProduct_37 hrec hd hK12 h_7
theorem sl_X4_readProduct_12 {g : GT} {d : Nat} {rcl : Nat → Nat → Int32 → fM → (Int32 → fM → Prop) → Prop} (hrec : ∀ (i p0 : Nat) (p1 : Int32) (M : fM) (ψ : Int32 → fM → Prop), rcl i p0 p1 M ψ → FC g (mtG i) d [.ref p0, .int p1] M 0 0 (rI ψ)) (hd : 5 ≤ d + 1) {φ : Int32 → fM → Prop} : ∀ (n : Nat) {p0 : Nat} {p1 : Int32} {p2 : Int32} {M : fM}, l_X4_readProduct_12 rcl φ n p0 p1 p2 M → FW g mtX4_readProduct (d + 1) 12 [(0, .ref p0), (1, .int p1), (2, .int p2)] [] M 0 0 (rI φ)
  | 0 => fun h => h.elim
  | n + 1 => fun h => sb_X4_readProduct_12 hrec hd (fun _ _ _ _ h => sl_X4_readProduct_12 hrec hd n h) h
def bd_X4_readProduct (rcl : Nat → Nat → Int32 → fM → (Int32 → fM → Prop) → Prop) (p0 : Nat) (p1 : Int32) (M : fM) (φ : Int32 → fM → Prop) : Prop := isO M p0 4 ∧ rcl 5 p0 p1 M fun x29 M25 => iF (x29 = 0) (φ (0 : Int32) M25) (∃ n, l_X4_readProduct_12 rcl φ n p0 p1 (0 : Int32) M25)
set_option maxRecDepth 100000 in
theorem sd_X4_readProduct {g : GT} {d : Nat} {rcl : Nat → Nat → Int32 → fM → (Int32 → fM → Prop) → Prop} (hrec : ∀ (i p0 : Nat) (p1 : Int32) (M : fM) (ψ : Int32 → fM → Prop), rcl i p0 p1 M ψ → FC g (mtG i) d [.ref p0, .int p1] M 0 0 (rI ψ)) (hd : 5 ≤ d + 1) {p0 : Nat} {p1 : Int32} {M : fM} {φ : Int32 → fM → Prop} (h : bd_X4_readProduct rcl p0 p1 M φ) : FC g mtX4_readProduct (d + 1) [.ref p0, .int p1] M 0 0 (rI φ) := by
  unfold bd_X4_readProduct at h
  refine FC.intro (nL := 4) (by decide) rfl (Nat.le_of_ble_eq_true rfl) ?_
  show FW g mtX4_readProduct (d + 1) 0 [(0, .ref p0), (1, .int p1)] [] M 0 0 (rI φ)
  refine fw_aload_n (i := 0) 0 rfl (show decode _ _ = .ok (.aload_n 0, 1) by decide +kernel) ?_
  refine fw_iload_n (i := 1) 1 rfl (show decode _ _ = .ok (.iload_n 1, 1) by decide +kernel) ?_
  obtain ⟨⟨hr27, n26, hs28⟩, h_1⟩ := h
  refine fw_callV (mt' := mtX4_readOne) (mc := 0) (ms := 0) (As := [.int p1]) (rest := []) 1 4 n26 (show decode _ _ = .ok (.invokevirtual 136, 3) by decide +kernel) cv_X4_136 ⟨_, rfl, rfl⟩ hr27 hs28 rfl (Nat.le_of_ble_eq_true rfl) (hrec 5 _ _ _ _ h_1) (by decide) (by decide) (kI (bc' := 0) (bs' := 0) (by decide) (by decide) (fun x29 M25 h_2 => ?_))
  refine fw_if_ne 10 (show decode _ _ = .ok (.ifCond .ne 5, 3) by decide +kernel) (by decide) (fun hc30 => ?_) (fun hc30 => ?_)
  · have h_3 := ineg hc30 h_2
    refine fw_iconst (v := (0 : Int32)) (show decode _ _ = .ok (.iconst 0, 1) by decide +kernel) (by decide) ?_
    refine fw_istore_n (i := 2) (ls' := [(2, .int (0 : Int32)), (0, .ref p0), (1, .int p1)]) (show decode _ _ = .ok (.istore_n 2, 1) by decide +kernel) (by decide) rfl ?_
    refine FW.sub [1, 2, 0] (ls' := [(0, .ref p0), (1, .int p1), (2, .int (0 : Int32))]) rfl ?_
    obtain ⟨nn, h_4⟩ := h_3
    exact sl_X4_readProduct_12 hrec hd nn h_4
  · have h_5 := ipos hc30 h_2
    refine fw_iconst (v := (0 : Int32)) (show decode _ _ = .ok (.iconst 0, 1) by decide +kernel) (by decide) ?_
    exact fw_ret (v := some (.int (0 : Int32))) .ireturn (show decode _ _ = .ok (.ireturn, 1) by decide +kernel) ⟨rfl, Or.inr (Or.inl ⟨rfl, rfl⟩)⟩ ⟨_, rfl, h_5⟩
def bd_X4_readOne (rcl : Nat → Nat → Int32 → fM → (Int32 → fM → Prop) → Prop) (p0 : Nat) (p1 : Int32) (M : fM) (φ : Int32 → fM → Prop) : Prop := isO M p0 4 ∧ nm (mI M p0 12) fun x4 => iF (x4 = (21 : Int32)) (w_X4_opens p0 p1 M fun x7 M6 => iF (x7 = 0) (φ (0 : Int32) M6) (isO M6 p0 4 ∧ rcl 6 p0 (p1 + (1 : Int32)) M6 fun x12 M8 => iF (x12 = 0) (φ (0 : Int32) M8) (φ (1 : Int32) M8))) (iF (x4 = (41 : Int32)) (w_X4_opens p0 p1 M fun x17 M16 => iF (x17 = 0) (φ (0 : Int32) M16) (isO M16 p0 4 ∧ rcl 5 p0 (p1 + (1 : Int32)) M16 fun x22 M18 => iF (x22 = 0) (φ (0 : Int32) M18) (isO M18 p0 4 ∧ w_X4_emit p0 (-70 : Int32) M18 fun M23 => φ (1 : Int32) M23))) (iF (x4 = (50 : Int32)) (w_X4_opens p0 p1 M fun x31 M30 => iF (x31 = 0) (φ (0 : Int32) M30) (isO M30 p0 4 ∧ rcl 3 p0 (p1 + (1 : Int32)) M30 fun x36 M32 => iF (x36 = 0) (φ (0 : Int32) M32) (isO M32 p0 4 ∧ w_X4_passes p0 (51 : Int32) M32 fun x41 M37 => iF (x41 = 0) (φ (0 : Int32) M37) (φ (1 : Int32) M37)))) (iF (x4 = (60 : Int32)) (w_X4_readValue p0 M fun x47 M46 => isB x47 ∧ φ x47 M46) (w_X4_readName p0 M fun x50 M49 => isB x50 ∧ φ x50 M49))))
set_option maxRecDepth 100000 in
theorem sd_X4_readOne {g : GT} {d : Nat} {rcl : Nat → Nat → Int32 → fM → (Int32 → fM → Prop) → Prop} (hrec : ∀ (i p0 : Nat) (p1 : Int32) (M : fM) (ψ : Int32 → fM → Prop), rcl i p0 p1 M ψ → FC g (mtG i) d [.ref p0, .int p1] M 0 0 (rI ψ)) (hd : 5 ≤ d + 1) {p0 : Nat} {p1 : Int32} {M : fM} {φ : Int32 → fM → Prop} (h : bd_X4_readOne rcl p0 p1 M φ) : FC g mtX4_readOne (d + 1) [.ref p0, .int p1] M 0 0 (rI φ) := by
  unfold bd_X4_readOne at h
  refine FC.intro (nL := 2) (by decide) rfl (Nat.le_of_ble_eq_true rfl) ?_
  show FW g mtX4_readOne (d + 1) 0 [(0, .ref p0), (1, .int p1)] [] M 0 0 (rI φ)
  refine fw_aload_n (i := 0) 0 rfl (show decode _ _ = .ok (.aload_n 0, 1) by decide +kernel) ?_
  obtain ⟨⟨hr2, n1, hs3⟩, h_1⟩ := h
  refine fw_getI (kd := 4) (k := 12) (show decode _ _ = .ok (.getfield 61, 3) by decide +kernel) gf_X4_61 hr2 hs3 (Or.inl rfl) ?_
  refine fw_nmI (fun x4 ex5 => ?_)
  have h_2 := h_1 x4 ex5
  by_cases hc15 : x4 = (21 : Int32)
  · have h_3 := ipos hc15 h_2
    refine fw_lookup (off := 110) 114 (show decode _ _ = .ok (.lookupswitch 134 #[(21, 110), (41, 82), (50, 49), (60, 44)], 44) by decide +kernel) (by decide) (by rw [hc15]; rfl) (by decide) ?_
    refine fw_aload_n (i := 0) 0 rfl (show decode _ _ = .ok (.aload_n 0, 1) by decide +kernel) ?_
    refine fw_iload_n (i := 1) 1 rfl (show decode _ _ = .ok (.iload_n 1, 1) by decide +kernel) ?_
    refine fw_callV (mt' := mtX4_opens) (mc := 0) (ms := 0) (As := [.int p1]) (rest := []) 1 4 n1 (show decode _ _ = .ok (.invokevirtual 130, 3) by decide +kernel) cv_X4_130 ⟨_, rfl, rfl⟩ hr2 hs3 rfl (Nat.le_of_ble_eq_true rfl) (s_X4_opens (d := d) (hd_le hd (by decide)) h_3) (by decide) (by decide) (kI (bc' := 0) (bs' := 0) (by decide) (by decide) (fun x7 M6 h_4 => ?_))
    refine fw_if_eq 136 (show decode _ _ = .ok (.ifCond .eq 17, 3) by decide +kernel) (by decide) (fun hc14 => ?_) (fun hc14 => ?_)
    · have h_5 := ipos hc14 h_4
      refine fw_iconst (v := (0 : Int32)) (show decode _ _ = .ok (.iconst 0, 1) by decide +kernel) (by decide) ?_
      exact fw_ret (v := some (.int (0 : Int32))) .ireturn (show decode _ _ = .ok (.ireturn, 1) by decide +kernel) ⟨rfl, Or.inr (Or.inl ⟨rfl, rfl⟩)⟩ ⟨_, rfl, h_5⟩
    · have h_6 := ineg hc14 h_4
      refine fw_aload_n (i := 0) 0 rfl (show decode _ _ = .ok (.aload_n 0, 1) by decide +kernel) ?_
      refine fw_iload_n (i := 1) 1 rfl (show decode _ _ = .ok (.iload_n 1, 1) by decide +kernel) ?_
      refine fw_iconst (v := (1 : Int32)) (show decode _ _ = .ok (.iconst 1, 1) by decide +kernel) (by decide) ?_
      refine fw_iadd (show decode _ _ = .ok (.iadd, 1) by decide +kernel) ?_
      obtain ⟨⟨hr10, n9, hs11⟩, h_7⟩ := h_6
      refine fw_callV (mt' := mtX4_readChoice) (mc := 0) (ms := 0) (As := [.int (p1 + (1 : Int32))]) (rest := []) 1 4 n9 (show decode _ _ = .ok (.invokevirtual 142, 3) by decide +kernel) cv_X4_142 ⟨_, rfl, rfl⟩ hr10 hs11 rfl (Nat.le_of_ble_eq_true rfl) (hrec 6 _ _ _ _ h_7) (by decide) (by decide) (kI (bc' := 0) (bs' := 0) (by decide) (by decide) (fun x12 M8 h_8 => ?_))
      refine fw_if_eq 136 (show decode _ _ = .ok (.ifCond .eq 7, 3) by decide +kernel) (by decide) (fun hc13 => ?_) (fun hc13 => ?_)
      · have h_9 := ipos hc13 h_8
        refine fw_iconst (v := (0 : Int32)) (show decode _ _ = .ok (.iconst 0, 1) by decide +kernel) (by decide) ?_
        exact fw_ret (v := some (.int (0 : Int32))) .ireturn (show decode _ _ = .ok (.ireturn, 1) by decide +kernel) ⟨rfl, Or.inr (Or.inl ⟨rfl, rfl⟩)⟩ ⟨_, rfl, h_9⟩
      · have h_10 := ineg hc13 h_8
        refine fw_iconst (v := (1 : Int32)) (show decode _ _ = .ok (.iconst 1, 1) by decide +kernel) (by decide) ?_
        refine fw_goto 137 (show decode _ _ = .ok (.goto 4, 3) by decide +kernel) (by decide) ?_
        exact fw_ret (v := some (.int (1 : Int32))) .ireturn (show decode _ _ = .ok (.ireturn, 1) by decide +kernel) ⟨rfl, Or.inr (Or.inl ⟨rfl, rfl⟩)⟩ ⟨_, rfl, h_10⟩
  have h_11 := ineg hc15 h_2
  by_cases hc29 : x4 = (41 : Int32)
  · have h_12 := ipos hc29 h_11
    refine fw_lookup (off := 82) 86 (show decode _ _ = .ok (.lookupswitch 134 #[(21, 110), (41, 82), (50, 49), (60, 44)], 44) by decide +kernel) (by decide) (by rw [hc29]; rfl) (by decide) ?_
    refine fw_aload_n (i := 0) 0 rfl (show decode _ _ = .ok (.aload_n 0, 1) by decide +kernel) ?_
    refine fw_iload_n (i := 1) 1 rfl (show decode _ _ = .ok (.iload_n 1, 1) by decide +kernel) ?_
    refine fw_callV (mt' := mtX4_opens) (mc := 0) (ms := 0) (As := [.int p1]) (rest := []) 1 4 n1 (show decode _ _ = .ok (.invokevirtual 130, 3) by decide +kernel) cv_X4_130 ⟨_, rfl, rfl⟩ hr2 hs3 rfl (Nat.le_of_ble_eq_true rfl) (s_X4_opens (d := d) (hd_le hd (by decide)) h_12) (by decide) (by decide) (kI (bc' := 0) (bs' := 0) (by decide) (by decide) (fun x17 M16 h_13 => ?_))
    refine fw_if_eq 104 (show decode _ _ = .ok (.ifCond .eq 13, 3) by decide +kernel) (by decide) (fun hc28 => ?_) (fun hc28 => ?_)
    · have h_14 := ipos hc28 h_13
      refine fw_iconst (v := (0 : Int32)) (show decode _ _ = .ok (.iconst 0, 1) by decide +kernel) (by decide) ?_
      exact fw_ret (v := some (.int (0 : Int32))) .ireturn (show decode _ _ = .ok (.ireturn, 1) by decide +kernel) ⟨rfl, Or.inr (Or.inl ⟨rfl, rfl⟩)⟩ ⟨_, rfl, h_14⟩
    · have h_15 := ineg hc28 h_13
      refine fw_aload_n (i := 0) 0 rfl (show decode _ _ = .ok (.aload_n 0, 1) by decide +kernel) ?_
      refine fw_iload_n (i := 1) 1 rfl (show decode _ _ = .ok (.iload_n 1, 1) by decide +kernel) ?_
      refine fw_iconst (v := (1 : Int32)) (show decode _ _ = .ok (.iconst 1, 1) by decide +kernel) (by decide) ?_
      refine fw_iadd (show decode _ _ = .ok (.iadd, 1) by decide +kernel) ?_
      obtain ⟨⟨hr20, n19, hs21⟩, h_16⟩ := h_15
      refine fw_callV (mt' := mtX4_readOne) (mc := 0) (ms := 0) (As := [.int (p1 + (1 : Int32))]) (rest := []) 1 4 n19 (show decode _ _ = .ok (.invokevirtual 136, 3) by decide +kernel) cv_X4_136 ⟨_, rfl, rfl⟩ hr20 hs21 rfl (Nat.le_of_ble_eq_true rfl) (hrec 5 _ _ _ _ h_16) (by decide) (by decide) (kI (bc' := 0) (bs' := 0) (by decide) (by decide) (fun x22 M18 h_17 => ?_))
      refine fw_if_ne 106 (show decode _ _ = .ok (.ifCond .ne 5, 3) by decide +kernel) (by decide) (fun hc27 => ?_) (fun hc27 => ?_)
      · have h_18 := ineg hc27 h_17
        refine fw_aload_n (i := 0) 0 rfl (show decode _ _ = .ok (.aload_n 0, 1) by decide +kernel) ?_
        refine fw_bipush (v := (-70 : Int32)) (show decode _ _ = .ok (.bipush (-70), 2) by decide +kernel) (by decide) ?_
        obtain ⟨⟨hr25, n24, hs26⟩, h_19⟩ := h_18
        refine fw_callV (mt' := mtX4_emit) (mc := 0) (ms := 0) (As := [.int (-70 : Int32)]) (rest := []) 1 4 n24 (show decode _ _ = .ok (.invokevirtual 123, 3) by decide +kernel) cv_X4_123 ⟨_, rfl, rfl⟩ hr25 hs26 rfl (Nat.le_of_ble_eq_true rfl) (s_X4_emit (d := d) (hd_le hd (by decide)) h_19) (by decide) (by decide) (kV (bc' := 0) (bs' := 0) (by decide) (by decide) (fun M23 h_20 => ?_))
        refine fw_iconst (v := (1 : Int32)) (show decode _ _ = .ok (.iconst 1, 1) by decide +kernel) (by decide) ?_
        exact fw_ret (v := some (.int (1 : Int32))) .ireturn (show decode _ _ = .ok (.ireturn, 1) by decide +kernel) ⟨rfl, Or.inr (Or.inl ⟨rfl, rfl⟩)⟩ ⟨_, rfl, h_20⟩
      · have h_21 := ipos hc27 h_17
        refine fw_iconst (v := (0 : Int32)) (show decode _ _ = .ok (.iconst 0, 1) by decide +kernel) (by decide) ?_
        exact fw_ret (v := some (.int (0 : Int32))) .ireturn (show decode _ _ = .ok (.ireturn, 1) by decide +kernel) ⟨rfl, Or.inr (Or.inl ⟨rfl, rfl⟩)⟩ ⟨_, rfl, h_21⟩
  have h_22 := ineg hc29 h_11
  by_cases hc45 : x4 = (50 : Int32)
  · have h_23 := ipos hc45 h_22
    refine fw_lookup (off := 49) 53 (show decode _ _ = .ok (.lookupswitch 134 #[(21, 110), (41, 82), (50, 49), (60, 44)], 44) by decide +kernel) (by decide) (by rw [hc45]; rfl) (by decide) ?_
    refine fw_aload_n (i := 0) 0 rfl (show decode _ _ = .ok (.aload_n 0, 1) by decide +kernel) ?_
    refine fw_iload_n (i := 1) 1 rfl (show decode _ _ = .ok (.iload_n 1, 1) by decide +kernel) ?_
    refine fw_callV (mt' := mtX4_opens) (mc := 0) (ms := 0) (As := [.int p1]) (rest := []) 1 4 n1 (show decode _ _ = .ok (.invokevirtual 130, 3) by decide +kernel) cv_X4_130 ⟨_, rfl, rfl⟩ hr2 hs3 rfl (Nat.le_of_ble_eq_true rfl) (s_X4_opens (d := d) (hd_le hd (by decide)) h_23) (by decide) (by decide) (kI (bc' := 0) (bs' := 0) (by decide) (by decide) (fun x31 M30 h_24 => ?_))
    refine fw_if_eq 84 (show decode _ _ = .ok (.ifCond .eq 26, 3) by decide +kernel) (by decide) (fun hc44 => ?_) (fun hc44 => ?_)
    · have h_25 := ipos hc44 h_24
      refine fw_iconst (v := (0 : Int32)) (show decode _ _ = .ok (.iconst 0, 1) by decide +kernel) (by decide) ?_
      exact fw_ret (v := some (.int (0 : Int32))) .ireturn (show decode _ _ = .ok (.ireturn, 1) by decide +kernel) ⟨rfl, Or.inr (Or.inl ⟨rfl, rfl⟩)⟩ ⟨_, rfl, h_25⟩
    · have h_26 := ineg hc44 h_24
      refine fw_aload_n (i := 0) 0 rfl (show decode _ _ = .ok (.aload_n 0, 1) by decide +kernel) ?_
      refine fw_iload_n (i := 1) 1 rfl (show decode _ _ = .ok (.iload_n 1, 1) by decide +kernel) ?_
      refine fw_iconst (v := (1 : Int32)) (show decode _ _ = .ok (.iconst 1, 1) by decide +kernel) (by decide) ?_
      refine fw_iadd (show decode _ _ = .ok (.iadd, 1) by decide +kernel) ?_
      obtain ⟨⟨hr34, n33, hs35⟩, h_27⟩ := h_26
      refine fw_callV (mt' := mtX4_readSum) (mc := 0) (ms := 0) (As := [.int (p1 + (1 : Int32))]) (rest := []) 1 4 n33 (show decode _ _ = .ok (.invokevirtual 107, 3) by decide +kernel) cv_X4_107 ⟨_, rfl, rfl⟩ hr34 hs35 rfl (Nat.le_of_ble_eq_true rfl) (hrec 3 _ _ _ _ h_27) (by decide) (by decide) (kI (bc' := 0) (bs' := 0) (by decide) (by decide) (fun x36 M32 h_28 => ?_))
      refine fw_if_eq 84 (show decode _ _ = .ok (.ifCond .eq 16, 3) by decide +kernel) (by decide) (fun hc43 => ?_) (fun hc43 => ?_)
      · have h_29 := ipos hc43 h_28
        refine fw_iconst (v := (0 : Int32)) (show decode _ _ = .ok (.iconst 0, 1) by decide +kernel) (by decide) ?_
        exact fw_ret (v := some (.int (0 : Int32))) .ireturn (show decode _ _ = .ok (.ireturn, 1) by decide +kernel) ⟨rfl, Or.inr (Or.inl ⟨rfl, rfl⟩)⟩ ⟨_, rfl, h_29⟩
      · have h_30 := ineg hc43 h_28
        refine fw_aload_n (i := 0) 0 rfl (show decode _ _ = .ok (.aload_n 0, 1) by decide +kernel) ?_
        refine fw_bipush (v := (51 : Int32)) (show decode _ _ = .ok (.bipush 51, 2) by decide +kernel) (by decide) ?_
        obtain ⟨⟨hr39, n38, hs40⟩, h_31⟩ := h_30
        refine fw_callV (mt' := mtX4_passes) (mc := 0) (ms := 0) (As := [.int (51 : Int32)]) (rest := []) 1 4 n38 (show decode _ _ = .ok (.invokevirtual 94, 3) by decide +kernel) cv_X4_94 ⟨_, rfl, rfl⟩ hr39 hs40 rfl (Nat.le_of_ble_eq_true rfl) (s_X4_passes (d := d) (hd_le hd (by decide)) h_31) (by decide) (by decide) (kI (bc' := 0) (bs' := 0) (by decide) (by decide) (fun x41 M37 h_32 => ?_))
        refine fw_if_eq 84 (show decode _ _ = .ok (.ifCond .eq 7, 3) by decide +kernel) (by decide) (fun hc42 => ?_) (fun hc42 => ?_)
        · have h_33 := ipos hc42 h_32
          refine fw_iconst (v := (0 : Int32)) (show decode _ _ = .ok (.iconst 0, 1) by decide +kernel) (by decide) ?_
          exact fw_ret (v := some (.int (0 : Int32))) .ireturn (show decode _ _ = .ok (.ireturn, 1) by decide +kernel) ⟨rfl, Or.inr (Or.inl ⟨rfl, rfl⟩)⟩ ⟨_, rfl, h_33⟩
        · have h_34 := ineg hc42 h_32
          refine fw_iconst (v := (1 : Int32)) (show decode _ _ = .ok (.iconst 1, 1) by decide +kernel) (by decide) ?_
          refine fw_goto 85 (show decode _ _ = .ok (.goto 4, 3) by decide +kernel) (by decide) ?_
          exact fw_ret (v := some (.int (1 : Int32))) .ireturn (show decode _ _ = .ok (.ireturn, 1) by decide +kernel) ⟨rfl, Or.inr (Or.inl ⟨rfl, rfl⟩)⟩ ⟨_, rfl, h_34⟩
  have h_35 := ineg hc45 h_22
  by_cases hc48 : x4 = (60 : Int32)
  · have h_36 := ipos hc48 h_35
    refine fw_lookup (off := 44) 48 (show decode _ _ = .ok (.lookupswitch 134 #[(21, 110), (41, 82), (50, 49), (60, 44)], 44) by decide +kernel) (by decide) (by rw [hc48]; rfl) (by decide) ?_
    refine fw_aload_n (i := 0) 0 rfl (show decode _ _ = .ok (.aload_n 0, 1) by decide +kernel) ?_
    refine fw_callV (mt' := mtX4_readValue) (mc := 0) (ms := 0) (As := []) (rest := []) 0 4 n1 (show decode _ _ = .ok (.invokevirtual 139, 3) by decide +kernel) cv_X4_139 ⟨_, rfl, rfl⟩ hr2 hs3 rfl (Nat.le_of_ble_eq_true rfl) (s_X4_readValue (d := d) (hd_le hd (by decide)) h_36) (by decide) (by decide) (kI (bc' := 0) (bs' := 0) (by decide) (by decide) (fun x47 M46 h_37 => ?_))
    obtain ⟨hbb, h_38⟩ := h_37
    exact fw_ret (v := some (.int x47)) .ireturn (show decode _ _ = .ok (.ireturn, 1) by decide +kernel) ⟨rfl, Or.inr (Or.inl ⟨rfl, hbb⟩)⟩ ⟨_, rfl, h_38⟩
  have h_39 := ineg hc48 h_35
  refine fw_lookup (off := 134) 138 (show decode _ _ = .ok (.lookupswitch 134 #[(21, 110), (41, 82), (50, 49), (60, 44)], 44) by decide +kernel) (by decide) (by show Op.lookupswitch.offset [(21, 110), (41, 82), (50, 49), (60, 44)] _ _ = _; rw [lv_osw (a := 21) hc15 rfl, lv_osw (a := 41) hc29 rfl, lv_osw (a := 50) hc45 rfl, lv_osw (a := 60) hc48 rfl]; rfl) (by decide) ?_
  refine fw_aload_n (i := 0) 0 rfl (show decode _ _ = .ok (.aload_n 0, 1) by decide +kernel) ?_
  refine fw_callV (mt' := mtX4_readName) (mc := 0) (ms := 0) (As := []) (rest := []) 0 4 n1 (show decode _ _ = .ok (.invokevirtual 145, 3) by decide +kernel) cv_X4_145 ⟨_, rfl, rfl⟩ hr2 hs3 rfl (Nat.le_of_ble_eq_true rfl) (s_X4_readName (d := d) (hd_le hd (by decide)) h_39) (by decide) (by decide) (kI (bc' := 0) (bs' := 0) (by decide) (by decide) (fun x50 M49 h_40 => ?_))
  obtain ⟨hbb, h_41⟩ := h_40
  exact fw_ret (v := some (.int x50)) .ireturn (show decode _ _ = .ok (.ireturn, 1) by decide +kernel) ⟨rfl, Or.inr (Or.inl ⟨rfl, hbb⟩)⟩ ⟨_, rfl, h_41⟩
def bd_X4_readChoice (rcl : Nat → Nat → Int32 → fM → (Int32 → fM → Prop) → Prop) (p0 : Nat) (p1 : Int32) (M : fM) (φ : Int32 → fM → Prop) : Prop := isO M p0 4 ∧ rcl 0 p0 p1 M fun x5 M1 => iF (x5 = 0) (φ (0 : Int32) M1) (isO M1 p0 4 ∧ w_X4_passes p0 (53 : Int32) M1 fun x10 M6 => iF (x10 = 0) (φ (0 : Int32) M6) (isO M6 p0 4 ∧ rcl 3 p0 p1 M6 fun x15 M11 => iF (x15 = 0) (φ (0 : Int32) M11) (isO M11 p0 4 ∧ w_X4_passes p0 (54 : Int32) M11 fun x20 M16 => iF (x20 = 0) (φ (0 : Int32) M16) (isO M16 p0 4 ∧ rcl 3 p0 p1 M16 fun x25 M21 => iF (x25 = 0) (φ (0 : Int32) M21) (isO M21 p0 4 ∧ w_X4_passes p0 (22 : Int32) M21 fun x30 M26 => iF (x30 = 0) (φ (0 : Int32) M26) (isO M26 p0 4 ∧ w_X4_emit p0 (-21 : Int32) M26 fun M31 => φ (1 : Int32) M31))))))
set_option maxRecDepth 100000 in
theorem sd_X4_readChoice {g : GT} {d : Nat} {rcl : Nat → Nat → Int32 → fM → (Int32 → fM → Prop) → Prop} (hrec : ∀ (i p0 : Nat) (p1 : Int32) (M : fM) (ψ : Int32 → fM → Prop), rcl i p0 p1 M ψ → FC g (mtG i) d [.ref p0, .int p1] M 0 0 (rI ψ)) (hd : 5 ≤ d + 1) {p0 : Nat} {p1 : Int32} {M : fM} {φ : Int32 → fM → Prop} (h : bd_X4_readChoice rcl p0 p1 M φ) : FC g mtX4_readChoice (d + 1) [.ref p0, .int p1] M 0 0 (rI φ) := by
  unfold bd_X4_readChoice at h
  refine FC.intro (nL := 2) (by decide) rfl (Nat.le_of_ble_eq_true rfl) ?_
  show FW g mtX4_readChoice (d + 1) 0 [(0, .ref p0), (1, .int p1)] [] M 0 0 (rI φ)
  refine fw_aload_n (i := 0) 0 rfl (show decode _ _ = .ok (.aload_n 0, 1) by decide +kernel) ?_
  refine fw_iload_n (i := 1) 1 rfl (show decode _ _ = .ok (.iload_n 1, 1) by decide +kernel) ?_
  obtain ⟨⟨hr3, n2, hs4⟩, h_1⟩ := h
  refine fw_callV (mt' := mtX4_readEither) (mc := 0) (ms := 0) (As := [.int p1]) (rest := []) 1 4 n2 (show decode _ _ = .ok (.invokevirtual 104, 3) by decide +kernel) cv_X4_104 ⟨_, rfl, rfl⟩ hr3 hs4 rfl (Nat.le_of_ble_eq_true rfl) (hrec 0 _ _ _ _ h_1) (by decide) (by decide) (kI (bc' := 0) (bs' := 0) (by decide) (by decide) (fun x5 M1 h_2 => ?_))
  refine fw_if_eq 34 (show decode _ _ = .ok (.ifCond .eq 29, 3) by decide +kernel) (by decide) (fun hc40 => ?_) (fun hc40 => ?_)
  · have h_3 := ipos hc40 h_2
    refine fw_iconst (v := (0 : Int32)) (show decode _ _ = .ok (.iconst 0, 1) by decide +kernel) (by decide) ?_
    exact fw_ret (v := some (.int (0 : Int32))) .ireturn (show decode _ _ = .ok (.ireturn, 1) by decide +kernel) ⟨rfl, Or.inr (Or.inl ⟨rfl, rfl⟩)⟩ ⟨_, rfl, h_3⟩
  · have h_4 := ineg hc40 h_2
    refine fw_aload_n (i := 0) 0 rfl (show decode _ _ = .ok (.aload_n 0, 1) by decide +kernel) ?_
    refine fw_bipush (v := (53 : Int32)) (show decode _ _ = .ok (.bipush 53, 2) by decide +kernel) (by decide) ?_
    obtain ⟨⟨hr8, n7, hs9⟩, h_5⟩ := h_4
    refine fw_callV (mt' := mtX4_passes) (mc := 0) (ms := 0) (As := [.int (53 : Int32)]) (rest := []) 1 4 n7 (show decode _ _ = .ok (.invokevirtual 94, 3) by decide +kernel) cv_X4_94 ⟨_, rfl, rfl⟩ hr8 hs9 rfl (Nat.le_of_ble_eq_true rfl) (s_X4_passes (d := d) (hd_le hd (by decide)) h_5) (by decide) (by decide) (kI (bc' := 0) (bs' := 0) (by decide) (by decide) (fun x10 M6 h_6 => ?_))
    refine fw_if_eq 34 (show decode _ _ = .ok (.ifCond .eq 20, 3) by decide +kernel) (by decide) (fun hc39 => ?_) (fun hc39 => ?_)
    · have h_7 := ipos hc39 h_6
      refine fw_iconst (v := (0 : Int32)) (show decode _ _ = .ok (.iconst 0, 1) by decide +kernel) (by decide) ?_
      exact fw_ret (v := some (.int (0 : Int32))) .ireturn (show decode _ _ = .ok (.ireturn, 1) by decide +kernel) ⟨rfl, Or.inr (Or.inl ⟨rfl, rfl⟩)⟩ ⟨_, rfl, h_7⟩
    · have h_8 := ineg hc39 h_6
      refine fw_aload_n (i := 0) 0 rfl (show decode _ _ = .ok (.aload_n 0, 1) by decide +kernel) ?_
      refine fw_iload_n (i := 1) 1 rfl (show decode _ _ = .ok (.iload_n 1, 1) by decide +kernel) ?_
      obtain ⟨⟨hr13, n12, hs14⟩, h_9⟩ := h_8
      refine fw_callV (mt' := mtX4_readSum) (mc := 0) (ms := 0) (As := [.int p1]) (rest := []) 1 4 n12 (show decode _ _ = .ok (.invokevirtual 107, 3) by decide +kernel) cv_X4_107 ⟨_, rfl, rfl⟩ hr13 hs14 rfl (Nat.le_of_ble_eq_true rfl) (hrec 3 _ _ _ _ h_9) (by decide) (by decide) (kI (bc' := 0) (bs' := 0) (by decide) (by decide) (fun x15 M11 h_10 => ?_))
      refine fw_if_eq 34 (show decode _ _ = .ok (.ifCond .eq 12, 3) by decide +kernel) (by decide) (fun hc38 => ?_) (fun hc38 => ?_)
      · have h_11 := ipos hc38 h_10
        refine fw_iconst (v := (0 : Int32)) (show decode _ _ = .ok (.iconst 0, 1) by decide +kernel) (by decide) ?_
        exact fw_ret (v := some (.int (0 : Int32))) .ireturn (show decode _ _ = .ok (.ireturn, 1) by decide +kernel) ⟨rfl, Or.inr (Or.inl ⟨rfl, rfl⟩)⟩ ⟨_, rfl, h_11⟩
      · have h_12 := ineg hc38 h_10
        refine fw_aload_n (i := 0) 0 rfl (show decode _ _ = .ok (.aload_n 0, 1) by decide +kernel) ?_
        refine fw_bipush (v := (54 : Int32)) (show decode _ _ = .ok (.bipush 54, 2) by decide +kernel) (by decide) ?_
        obtain ⟨⟨hr18, n17, hs19⟩, h_13⟩ := h_12
        refine fw_callV (mt' := mtX4_passes) (mc := 0) (ms := 0) (As := [.int (54 : Int32)]) (rest := []) 1 4 n17 (show decode _ _ = .ok (.invokevirtual 94, 3) by decide +kernel) cv_X4_94 ⟨_, rfl, rfl⟩ hr18 hs19 rfl (Nat.le_of_ble_eq_true rfl) (s_X4_passes (d := d) (hd_le hd (by decide)) h_13) (by decide) (by decide) (kI (bc' := 0) (bs' := 0) (by decide) (by decide) (fun x20 M16 h_14 => ?_))
        refine fw_if_ne 36 (show decode _ _ = .ok (.ifCond .ne 5, 3) by decide +kernel) (by decide) (fun hc37 => ?_) (fun hc37 => ?_)
        · have h_15 := ineg hc37 h_14
          refine fw_aload_n (i := 0) 0 rfl (show decode _ _ = .ok (.aload_n 0, 1) by decide +kernel) ?_
          refine fw_iload_n (i := 1) 1 rfl (show decode _ _ = .ok (.iload_n 1, 1) by decide +kernel) ?_
          obtain ⟨⟨hr23, n22, hs24⟩, h_16⟩ := h_15
          refine fw_callV (mt' := mtX4_readSum) (mc := 0) (ms := 0) (As := [.int p1]) (rest := []) 1 4 n22 (show decode _ _ = .ok (.invokevirtual 107, 3) by decide +kernel) cv_X4_107 ⟨_, rfl, rfl⟩ hr23 hs24 rfl (Nat.le_of_ble_eq_true rfl) (hrec 3 _ _ _ _ h_16) (by decide) (by decide) (kI (bc' := 0) (bs' := 0) (by decide) (by decide) (fun x25 M21 h_17 => ?_))
          refine fw_if_eq 53 (show decode _ _ = .ok (.ifCond .eq 12, 3) by decide +kernel) (by decide) (fun hc36 => ?_) (fun hc36 => ?_)
          · have h_18 := ipos hc36 h_17
            refine fw_iconst (v := (0 : Int32)) (show decode _ _ = .ok (.iconst 0, 1) by decide +kernel) (by decide) ?_
            exact fw_ret (v := some (.int (0 : Int32))) .ireturn (show decode _ _ = .ok (.ireturn, 1) by decide +kernel) ⟨rfl, Or.inr (Or.inl ⟨rfl, rfl⟩)⟩ ⟨_, rfl, h_18⟩
          · have h_19 := ineg hc36 h_17
            refine fw_aload_n (i := 0) 0 rfl (show decode _ _ = .ok (.aload_n 0, 1) by decide +kernel) ?_
            refine fw_bipush (v := (22 : Int32)) (show decode _ _ = .ok (.bipush 22, 2) by decide +kernel) (by decide) ?_
            obtain ⟨⟨hr28, n27, hs29⟩, h_20⟩ := h_19
            refine fw_callV (mt' := mtX4_passes) (mc := 0) (ms := 0) (As := [.int (22 : Int32)]) (rest := []) 1 4 n27 (show decode _ _ = .ok (.invokevirtual 94, 3) by decide +kernel) cv_X4_94 ⟨_, rfl, rfl⟩ hr28 hs29 rfl (Nat.le_of_ble_eq_true rfl) (s_X4_passes (d := d) (hd_le hd (by decide)) h_20) (by decide) (by decide) (kI (bc' := 0) (bs' := 0) (by decide) (by decide) (fun x30 M26 h_21 => ?_))
            refine fw_if_ne 55 (show decode _ _ = .ok (.ifCond .ne 5, 3) by decide +kernel) (by decide) (fun hc35 => ?_) (fun hc35 => ?_)
            · have h_22 := ineg hc35 h_21
              refine fw_aload_n (i := 0) 0 rfl (show decode _ _ = .ok (.aload_n 0, 1) by decide +kernel) ?_
              refine fw_bipush (v := (-21 : Int32)) (show decode _ _ = .ok (.bipush (-21), 2) by decide +kernel) (by decide) ?_
              obtain ⟨⟨hr33, n32, hs34⟩, h_23⟩ := h_22
              refine fw_callV (mt' := mtX4_emit) (mc := 0) (ms := 0) (As := [.int (-21 : Int32)]) (rest := []) 1 4 n32 (show decode _ _ = .ok (.invokevirtual 123, 3) by decide +kernel) cv_X4_123 ⟨_, rfl, rfl⟩ hr33 hs34 rfl (Nat.le_of_ble_eq_true rfl) (s_X4_emit (d := d) (hd_le hd (by decide)) h_23) (by decide) (by decide) (kV (bc' := 0) (bs' := 0) (by decide) (by decide) (fun M31 h_24 => ?_))
              refine fw_iconst (v := (1 : Int32)) (show decode _ _ = .ok (.iconst 1, 1) by decide +kernel) (by decide) ?_
              exact fw_ret (v := some (.int (1 : Int32))) .ireturn (show decode _ _ = .ok (.ireturn, 1) by decide +kernel) ⟨rfl, Or.inr (Or.inl ⟨rfl, rfl⟩)⟩ ⟨_, rfl, h_24⟩
            · have h_25 := ipos hc35 h_21
              refine fw_iconst (v := (0 : Int32)) (show decode _ _ = .ok (.iconst 0, 1) by decide +kernel) (by decide) ?_
              exact fw_ret (v := some (.int (0 : Int32))) .ireturn (show decode _ _ = .ok (.ireturn, 1) by decide +kernel) ⟨rfl, Or.inr (Or.inl ⟨rfl, rfl⟩)⟩ ⟨_, rfl, h_25⟩
        · have h_26 := ipos hc37 h_14
          refine fw_iconst (v := (0 : Int32)) (show decode _ _ = .ok (.iconst 0, 1) by decide +kernel) (by decide) ?_
          exact fw_ret (v := some (.int (0 : Int32))) .ireturn (show decode _ _ = .ok (.ireturn, 1) by decide +kernel) ⟨rfl, Or.inr (Or.inl ⟨rfl, rfl⟩)⟩ ⟨_, rfl, h_26⟩
def prs : Nat → Nat → Nat → Int32 → fM → (Int32 → fM → Prop) → Prop
  | 0, _, _, _, _, _ => False
  | n + 1, 0, p0, p1, M, φ => bd_X4_readEither (prs n) p0 p1 M φ
  | n + 1, 1, p0, p1, M, φ => bd_X4_readBoth (prs n) p0 p1 M φ
  | n + 1, 2, p0, p1, M, φ => bd_X4_readAsk (prs n) p0 p1 M φ
  | n + 1, 3, p0, p1, M, φ => bd_X4_readSum (prs n) p0 p1 M φ
  | n + 1, 4, p0, p1, M, φ => bd_X4_readProduct (prs n) p0 p1 M φ
  | n + 1, 5, p0, p1, M, φ => bd_X4_readOne (prs n) p0 p1 M φ
  | n + 1, _, p0, p1, M, φ => bd_X4_readChoice (prs n) p0 p1 M φ
theorem s_prs {g : GT} : ∀ (n d : Nat) (hd : 4 + n ≤ d) (i p0 : Nat) (p1 : Int32) (M : fM) (ψ : Int32 → fM → Prop), prs n i p0 p1 M ψ → FC g (mtG i) d [.ref p0, .int p1] M 0 0 (rI ψ)
  | 0 => by intro d hd i p0 p1 M ψ h; unfold prs at h; exact h.elim
  | n + 1 => by
    intro d hd i p0 p1 M ψ h
    obtain ⟨d, rfl⟩ : ∃ e, d = e + 1 := ⟨d - 1, by omega⟩
    have hrec := s_prs (g := g) n d (by omega)
    by_cases h0 : i = 0
    · subst h0; exact sd_X4_readEither hrec (by omega) h
    by_cases h1 : i = 1
    · subst h1; exact sd_X4_readBoth hrec (by omega) h
    by_cases h2 : i = 2
    · subst h2; exact sd_X4_readAsk hrec (by omega) h
    by_cases h3 : i = 3
    · subst h3; exact sd_X4_readSum hrec (by omega) h
    by_cases h4 : i = 4
    · subst h4; exact sd_X4_readProduct hrec (by omega) h
    by_cases h5 : i = 5
    · subst h5; exact sd_X4_readOne hrec (by omega) h
    have e1 : prs (n + 1) i p0 p1 M ψ = bd_X4_readChoice (prs n) p0 p1 M ψ := by
      match i, h0, h1, h2, h3, h4, h5 with
      | 0, h0, _, _, _, _, _ => exact absurd rfl h0
      | 1, _, h1, _, _, _, _ => exact absurd rfl h1
      | 2, _, _, h2, _, _, _ => exact absurd rfl h2
      | 3, _, _, _, h3, _, _ => exact absurd rfl h3
      | 4, _, _, _, _, h4, _ => exact absurd rfl h4
      | 5, _, _, _, _, _, h5 => exact absurd rfl h5
      | (k + 6), _, _, _, _, _, _ => rfl
    have e2 : mtG i = mtX4_readChoice := by
      match i, h0, h1, h2, h3, h4, h5 with
      | 0, h0, _, _, _, _, _ => exact absurd rfl h0
      | 1, _, h1, _, _, _, _ => exact absurd rfl h1
      | 2, _, _, h2, _, _, _ => exact absurd rfl h2
      | 3, _, _, _, h3, _, _ => exact absurd rfl h3
      | 4, _, _, _, _, h4, _ => exact absurd rfl h4
      | 5, _, _, _, _, _, h5 => exact absurd rfl h5
      | (k + 6), _, _, _, _, _, _ => rfl
    rw [e1] at h; rw [e2]; exact sd_X4_readChoice hrec (by omega) h
def w_X4_readEither (p0 : Nat) (p1 : Int32) (M : fM) (φ : Int32 → fM → Prop) : Prop := ∃ n, n ≤ 70 ∧ prs n 0 p0 p1 M φ
theorem s_X4_readEither {g : GT} {d : Nat} (hd : 75 ≤ d) {p0 : Nat} {p1 : Int32} {M : fM} {φ : Int32 → fM → Prop} (h : w_X4_readEither p0 p1 M φ) : FC g mtX4_readEither d [.ref p0, .int p1] M 0 0 (rI φ) := by
  obtain ⟨n, hn, h⟩ := h
  exact s_prs n d (by omega) 0 _ _ _ _ h
def w_X4_readBoth (p0 : Nat) (p1 : Int32) (M : fM) (φ : Int32 → fM → Prop) : Prop := ∃ n, n ≤ 70 ∧ prs n 1 p0 p1 M φ
theorem s_X4_readBoth {g : GT} {d : Nat} (hd : 75 ≤ d) {p0 : Nat} {p1 : Int32} {M : fM} {φ : Int32 → fM → Prop} (h : w_X4_readBoth p0 p1 M φ) : FC g mtX4_readBoth d [.ref p0, .int p1] M 0 0 (rI φ) := by
  obtain ⟨n, hn, h⟩ := h
  exact s_prs n d (by omega) 1 _ _ _ _ h
def w_X4_readAsk (p0 : Nat) (p1 : Int32) (M : fM) (φ : Int32 → fM → Prop) : Prop := ∃ n, n ≤ 70 ∧ prs n 2 p0 p1 M φ
theorem s_X4_readAsk {g : GT} {d : Nat} (hd : 75 ≤ d) {p0 : Nat} {p1 : Int32} {M : fM} {φ : Int32 → fM → Prop} (h : w_X4_readAsk p0 p1 M φ) : FC g mtX4_readAsk d [.ref p0, .int p1] M 0 0 (rI φ) := by
  obtain ⟨n, hn, h⟩ := h
  exact s_prs n d (by omega) 2 _ _ _ _ h
def w_X4_readSum (p0 : Nat) (p1 : Int32) (M : fM) (φ : Int32 → fM → Prop) : Prop := ∃ n, n ≤ 70 ∧ prs n 3 p0 p1 M φ
theorem s_X4_readSum {g : GT} {d : Nat} (hd : 75 ≤ d) {p0 : Nat} {p1 : Int32} {M : fM} {φ : Int32 → fM → Prop} (h : w_X4_readSum p0 p1 M φ) : FC g mtX4_readSum d [.ref p0, .int p1] M 0 0 (rI φ) := by
  obtain ⟨n, hn, h⟩ := h
  exact s_prs n d (by omega) 3 _ _ _ _ h
def w_X4_readProduct (p0 : Nat) (p1 : Int32) (M : fM) (φ : Int32 → fM → Prop) : Prop := ∃ n, n ≤ 70 ∧ prs n 4 p0 p1 M φ
theorem s_X4_readProduct {g : GT} {d : Nat} (hd : 75 ≤ d) {p0 : Nat} {p1 : Int32} {M : fM} {φ : Int32 → fM → Prop} (h : w_X4_readProduct p0 p1 M φ) : FC g mtX4_readProduct d [.ref p0, .int p1] M 0 0 (rI φ) := by
  obtain ⟨n, hn, h⟩ := h
  exact s_prs n d (by omega) 4 _ _ _ _ h
def w_X4_readOne (p0 : Nat) (p1 : Int32) (M : fM) (φ : Int32 → fM → Prop) : Prop := ∃ n, n ≤ 70 ∧ prs n 5 p0 p1 M φ
theorem s_X4_readOne {g : GT} {d : Nat} (hd : 75 ≤ d) {p0 : Nat} {p1 : Int32} {M : fM} {φ : Int32 → fM → Prop} (h : w_X4_readOne p0 p1 M φ) : FC g mtX4_readOne d [.ref p0, .int p1] M 0 0 (rI φ) := by
  obtain ⟨n, hn, h⟩ := h
  exact s_prs n d (by omega) 5 _ _ _ _ h
def w_X4_readChoice (p0 : Nat) (p1 : Int32) (M : fM) (φ : Int32 → fM → Prop) : Prop := ∃ n, n ≤ 70 ∧ prs n 6 p0 p1 M φ
theorem s_X4_readChoice {g : GT} {d : Nat} (hd : 75 ≤ d) {p0 : Nat} {p1 : Int32} {M : fM} {φ : Int32 → fM → Prop} (h : w_X4_readChoice p0 p1 M φ) : FC g mtX4_readChoice d [.ref p0, .int p1] M 0 0 (rI φ) := by
  obtain ⟨n, hn, h⟩ := h
  exact s_prs n d (by omega) 6 _ _ _ _ h
def j_X4_readLaw_35 (φ : Int32 → fM → Prop) (p0 : Nat) (p1 : Int32) (s0 : Int32) (M : fM) : Prop := isO M p0 4 ∧ dR (mP M p0 5) fun y4 => w_X10_put y4 p1 (mI M p0 8) M fun M6 => isB s0 ∧ φ s0 M6
set_option maxRecDepth 100000 in
theorem sj_X4_readLaw_35 {g : GT} {d : Nat} (hd : 76 ≤ d + 1) {φ : Int32 → fM → Prop} {p0 : Nat} {p1 : Int32} {s0 : Int32} {M : fM} (h : j_X4_readLaw_35 φ p0 p1 s0 M) : FW g mtX4_readLaw (d + 1) 35 [(0, .ref p0), (1, .int p1)] [.int s0] M 0 0 (rI φ) := by
  unfold j_X4_readLaw_35 at h
  refine fw_istore_n (i := 2) (ls' := [(2, .int s0), (0, .ref p0), (1, .int p1)]) (show decode _ _ = .ok (.istore_n 2, 1) by decide +kernel) (by decide) rfl ?_
  refine fw_aload_n (i := 0) 1 rfl (show decode _ _ = .ok (.aload_n 0, 1) by decide +kernel) ?_
  obtain ⟨⟨hr2, n1, hs3⟩, h_1⟩ := h
  refine fw_getP (kd := 4) (k := 5) (show decode _ _ = .ok (.getfield 25, 3) by decide +kernel) gf_X4_25 hr2 hs3 rfl ?_
  have h_2 := dR_e h_1
  obtain ⟨y4, hy5, h_3⟩ := h_2
  refine fw_deref hy5 ?_
  refine fw_iload_n (i := 1) 2 rfl (show decode _ _ = .ok (.iload_n 1, 1) by decide +kernel) ?_
  refine fw_aload_n (i := 0) 1 rfl (show decode _ _ = .ok (.aload_n 0, 1) by decide +kernel) ?_
  refine fw_getI (kd := 4) (k := 8) (show decode _ _ = .ok (.getfield 38, 3) by decide +kernel) gf_X4_38 hr2 hs3 (Or.inl rfl) ?_
  refine fw_callSN (mt' := mtX10_put) (mc := 0) (ms := 0) (As := [.ref y4, .int p1, .int (mI M p0 8)]) (rest := []) 3 "OneStepMore" (show decode _ _ = .ok (.invokestatic 97, 3) by decide +kernel) ns_X4_97 rfl (Nat.le_of_ble_eq_true rfl) (s_X10_put (d := d) (hd_le hd (by decide)) h_3) (by decide) (by decide) (kV (bc' := 0) (bs' := 0) (by decide) (by decide) (fun M6 h_4 => ?_))
  refine fw_iload_n (i := 2) 0 rfl (show decode _ _ = .ok (.iload_n 2, 1) by decide +kernel) ?_
  obtain ⟨hbb, h_5⟩ := h_4
  exact fw_ret (v := some (.int s0)) .ireturn (show decode _ _ = .ok (.ireturn, 1) by decide +kernel) ⟨rfl, Or.inr (Or.inl ⟨rfl, hbb⟩)⟩ ⟨_, rfl, h_5⟩
def w_X4_readLaw (p0 : Nat) (p1 : Int32) (M : fM) (φ : Int32 → fM → Prop) : Prop := isO M p0 4 ∧ st (wI M p0 10 p1) fun M10 => dR (mP M10 p0 4) fun y12 => w_X10_put y12 p1 (mI M10 p0 8) M10 fun M14 => iF (p1 = (2 : Int32)) (isO M14 p0 4 ∧ w_X4_readEither p0 (0 : Int32) M14 fun x24 M20 => j_X4_readLaw_35 φ p0 p1 x24 M20) (isO M14 p0 4 ∧ w_X4_readSum p0 (0 : Int32) M14 fun x19 M15 => j_X4_readLaw_35 φ p0 p1 x19 M15)
set_option maxRecDepth 100000 in
theorem s_X4_readLaw {g : GT} {d : Nat} (hd : 76 ≤ d) {p0 : Nat} {p1 : Int32} {M : fM} {φ : Int32 → fM → Prop} (h : w_X4_readLaw p0 p1 M φ) : FC g mtX4_readLaw d [.ref p0, .int p1] M 0 0 (rI φ) := by
  obtain ⟨d, rfl⟩ : ∃ e, d = e + 1 := ⟨d - 1, by omega⟩
  unfold w_X4_readLaw at h
  refine FC.intro (nL := 3) (by decide) rfl (Nat.le_of_ble_eq_true rfl) ?_
  show FW g mtX4_readLaw (d + 1) 0 [(0, .ref p0), (1, .int p1)] [] M 0 0 (rI φ)
  refine fw_aload_n (i := 0) 0 rfl (show decode _ _ = .ok (.aload_n 0, 1) by decide +kernel) ?_
  refine fw_iload_n (i := 1) 1 rfl (show decode _ _ = .ok (.iload_n 1, 1) by decide +kernel) ?_
  obtain ⟨⟨hr8, n7, hs9⟩, h_1⟩ := h
  refine fw_putI (kd := 4) (k := 10) (show decode _ _ = .ok (.putfield 101, 3) by decide +kernel) ⟨gf_X4_101, _, rfl, Or.inl rfl⟩ hr8 hs9 rfl ?_
  refine FW.nmM (fun M10 eM11 => ?_)
  have h_2 := h_1 M10 eM11
  refine fw_aload_n (i := 0) 0 rfl (show decode _ _ = .ok (.aload_n 0, 1) by decide +kernel) ?_
  refine fw_getP (kd := 4) (k := 4) (show decode _ _ = .ok (.getfield 22, 3) by decide +kernel) gf_X4_22 hr8 (mSw_I eM11 hs9) rfl ?_
  have h_3 := dR_e h_2
  obtain ⟨y12, hy13, h_4⟩ := h_3
  refine fw_deref hy13 ?_
  refine fw_iload_n (i := 1) 1 rfl (show decode _ _ = .ok (.iload_n 1, 1) by decide +kernel) ?_
  refine fw_aload_n (i := 0) 0 rfl (show decode _ _ = .ok (.aload_n 0, 1) by decide +kernel) ?_
  refine fw_getI (kd := 4) (k := 8) (show decode _ _ = .ok (.getfield 38, 3) by decide +kernel) gf_X4_38 hr8 (mSw_I eM11 hs9) (Or.inl rfl) ?_
  refine fw_callSN (mt' := mtX10_put) (mc := 0) (ms := 0) (As := [.ref y12, .int p1, .int (mI M10 p0 8)]) (rest := []) 3 "OneStepMore" (show decode _ _ = .ok (.invokestatic 97, 3) by decide +kernel) ns_X4_97 rfl (Nat.le_of_ble_eq_true rfl) (s_X10_put (d := d) (hd_le hd (by decide)) h_4) (by decide) (by decide) (kV (bc' := 0) (bs' := 0) (by decide) (by decide) (fun M14 h_5 => ?_))
  refine fw_iload_n (i := 1) 1 rfl (show decode _ _ = .ok (.iload_n 1, 1) by decide +kernel) ?_
  refine fw_iconst (v := (2 : Int32)) (show decode _ _ = .ok (.iconst 2, 1) by decide +kernel) (by decide) ?_
  refine fw_icmp_ne 30 (show decode _ _ = .ok (.if_icmp .ne 11, 3) by decide +kernel) (by decide) (fun hc25 => ?_) (fun hc25 => ?_)
  · have h_6 := ineg hc25 h_5
    refine fw_aload_n (i := 0) 0 rfl (show decode _ _ = .ok (.aload_n 0, 1) by decide +kernel) ?_
    refine fw_iconst (v := (0 : Int32)) (show decode _ _ = .ok (.iconst 0, 1) by decide +kernel) (by decide) ?_
    obtain ⟨⟨hr17, n16, hs18⟩, h_7⟩ := h_6
    refine fw_callV (mt' := mtX4_readSum) (mc := 0) (ms := 0) (As := [.int (0 : Int32)]) (rest := []) 1 4 n16 (show decode _ _ = .ok (.invokevirtual 107, 3) by decide +kernel) cv_X4_107 ⟨_, rfl, rfl⟩ hr17 hs18 rfl (Nat.le_of_ble_eq_true rfl) (s_X4_readSum (d := d) (hd_le hd (by decide)) h_7) (by decide) (by decide) (kI (bc' := 0) (bs' := 0) (by decide) (by decide) (fun x19 M15 h_8 => ?_))
    refine FW.sub [0, 1] (ls' := [(0, .ref p0), (1, .int p1)]) rfl ?_
    exact sj_X4_readLaw_35 hd h_8
  · have h_9 := ipos hc25 h_5
    refine fw_aload_n (i := 0) 0 rfl (show decode _ _ = .ok (.aload_n 0, 1) by decide +kernel) ?_
    refine fw_iconst (v := (0 : Int32)) (show decode _ _ = .ok (.iconst 0, 1) by decide +kernel) (by decide) ?_
    obtain ⟨⟨hr22, n21, hs23⟩, h_10⟩ := h_9
    refine fw_callV (mt' := mtX4_readEither) (mc := 0) (ms := 0) (As := [.int (0 : Int32)]) (rest := []) 1 4 n21 (show decode _ _ = .ok (.invokevirtual 104, 3) by decide +kernel) cv_X4_104 ⟨_, rfl, rfl⟩ hr22 hs23 rfl (Nat.le_of_ble_eq_true rfl) (s_X4_readEither (d := d) (hd_le hd (by decide)) h_10) (by decide) (by decide) (kI (bc' := 0) (bs' := 0) (by decide) (by decide) (fun x24 M20 h_11 => ?_))
    refine fw_goto 35 (show decode _ _ = .ok (.goto 8, 3) by decide +kernel) (by decide) ?_
    refine FW.sub [0, 1] (ls' := [(0, .ref p0), (1, .int p1)]) rfl ?_
    exact sj_X4_readLaw_35 hd h_11
def j_X4_readNumber_31 (φ : Int32 → fM → Prop) (p0 : Nat) (M : fM) : Prop := isO M p0 4 ∧ w_X4_faulty p0 (2 : Int32) M fun x5 M1 => isB x5 ∧ φ x5 M1
set_option maxRecDepth 100000 in
theorem sj_X4_readNumber_31 {g : GT} {d : Nat} (hd : 3 ≤ d + 1) {φ : Int32 → fM → Prop} {p0 : Nat} {M : fM} (h : j_X4_readNumber_31 φ p0 M) : FW g mtX4_readNumber (d + 1) 31 [(0, .ref p0)] [] M 0 0 (rI φ) := by
  unfold j_X4_readNumber_31 at h
  refine fw_aload_n (i := 0) 0 rfl (show decode _ _ = .ok (.aload_n 0, 1) by decide +kernel) ?_
  refine fw_iconst (v := (2 : Int32)) (show decode _ _ = .ok (.iconst 2, 1) by decide +kernel) (by decide) ?_
  obtain ⟨⟨hr3, n2, hs4⟩, h_1⟩ := h
  refine fw_callV (mt' := mtX4_faulty) (mc := 0) (ms := 0) (As := [.int (2 : Int32)]) (rest := []) 1 4 n2 (show decode _ _ = .ok (.invokevirtual 84, 3) by decide +kernel) cv_X4_84 ⟨_, rfl, rfl⟩ hr3 hs4 rfl (Nat.le_of_ble_eq_true rfl) (s_X4_faulty (d := d) (hd_le hd (by decide)) h_1) (by decide) (by decide) (kI (bc' := 0) (bs' := 0) (by decide) (by decide) (fun x5 M1 h_2 => ?_))
  obtain ⟨hbb, h_3⟩ := h_2
  exact fw_ret (v := some (.int x5)) .ireturn (show decode _ _ = .ok (.ireturn, 1) by decide +kernel) ⟨rfl, Or.inr (Or.inl ⟨rfl, hbb⟩)⟩ ⟨_, rfl, h_3⟩
def w_X4_readNumber (p0 : Nat) (p1 : Int32) (p2 : Int32) (p3 : Int32) (M : fM) (φ : Int32 → fM → Prop) : Prop := isO M p0 4 ∧ iF ((mI M p0 12) = (60 : Int32)) (iF ((mI M p0 13) < p1) (j_X4_readNumber_31 φ p0 M) (iF ((mI M p0 13) ≤ p2) (dR (mP M p0 7) fun y9 => w_X10_put y9 (((mI M p0 9) * (3 : Int32)) + p3) (mI M p0 13) M fun M11 => isO M11 p0 4 ∧ w_X4_advance p0 M11 fun M12 => φ (1 : Int32) M12) (j_X4_readNumber_31 φ p0 M))) (w_X4_faulty p0 (1 : Int32) M fun x19 M18 => isB x19 ∧ φ x19 M18)
set_option maxRecDepth 100000 in
theorem s_X4_readNumber {g : GT} {d : Nat} (hd : 3 ≤ d) {p0 : Nat} {p1 : Int32} {p2 : Int32} {p3 : Int32} {M : fM} {φ : Int32 → fM → Prop} (h : w_X4_readNumber p0 p1 p2 p3 M φ) : FC g mtX4_readNumber d [.ref p0, .int p1, .int p2, .int p3] M 0 0 (rI φ) := by
  obtain ⟨d, rfl⟩ : ∃ e, d = e + 1 := ⟨d - 1, by omega⟩
  unfold w_X4_readNumber at h
  refine FC.intro (nL := 4) (by decide) rfl (Nat.le_of_ble_eq_true rfl) ?_
  show FW g mtX4_readNumber (d + 1) 0 [(0, .ref p0), (1, .int p1), (2, .int p2), (3, .int p3)] [] M 0 0 (rI φ)
  refine fw_aload_n (i := 0) 0 rfl (show decode _ _ = .ok (.aload_n 0, 1) by decide +kernel) ?_
  obtain ⟨⟨hr7, n6, hs8⟩, h_1⟩ := h
  refine fw_getI (kd := 4) (k := 12) (show decode _ _ = .ok (.getfield 61, 3) by decide +kernel) gf_X4_61 hr7 hs8 (Or.inl rfl) ?_
  refine fw_bipush (v := (60 : Int32)) (show decode _ _ = .ok (.bipush 60, 2) by decide +kernel) (by decide) ?_
  refine fw_icmp_eq 15 (show decode _ _ = .ok (.if_icmp .eq 9, 3) by decide +kernel) (by decide) (fun hc20 => ?_) (fun hc20 => ?_)
  · have h_2 := ipos hc20 h_1
    refine fw_aload_n (i := 0) 0 rfl (show decode _ _ = .ok (.aload_n 0, 1) by decide +kernel) ?_
    refine fw_getI (kd := 4) (k := 13) (show decode _ _ = .ok (.getfield 117, 3) by decide +kernel) gf_X4_117 hr7 hs8 (Or.inl rfl) ?_
    refine fw_iload_n (i := 1) 1 rfl (show decode _ _ = .ok (.iload_n 1, 1) by decide +kernel) ?_
    refine fw_icmp_lt 31 (show decode _ _ = .ok (.if_icmp .lt 11, 3) by decide +kernel) (by decide) (fun hc17 => ?_) (fun hc17 => ?_)
    · have h_3 := ipos hc17 h_2
      refine FW.sub [0] (ls' := [(0, .ref p0)]) rfl ?_
      exact sj_X4_readNumber_31 hd h_3
    · have h_4 := ineg hc17 h_2
      refine fw_aload_n (i := 0) 0 rfl (show decode _ _ = .ok (.aload_n 0, 1) by decide +kernel) ?_
      refine fw_getI (kd := 4) (k := 13) (show decode _ _ = .ok (.getfield 117, 3) by decide +kernel) gf_X4_117 hr7 hs8 (Or.inl rfl) ?_
      refine fw_iload_n (i := 2) 2 rfl (show decode _ _ = .ok (.iload_n 2, 1) by decide +kernel) ?_
      refine fw_icmp_le 37 (show decode _ _ = .ok (.if_icmp .le 9, 3) by decide +kernel) (by decide) (fun hc16 => ?_) (fun hc16 => ?_)
      · have h_5 := ipos hc16 h_4
        refine fw_aload_n (i := 0) 0 rfl (show decode _ _ = .ok (.aload_n 0, 1) by decide +kernel) ?_
        refine fw_getP (kd := 4) (k := 7) (show decode _ _ = .ok (.getfield 31, 3) by decide +kernel) gf_X4_31 hr7 hs8 rfl ?_
        have h_6 := dR_e h_5
        obtain ⟨y9, hy10, h_7⟩ := h_6
        refine fw_deref hy10 ?_
        refine fw_aload_n (i := 0) 0 rfl (show decode _ _ = .ok (.aload_n 0, 1) by decide +kernel) ?_
        refine fw_getI (kd := 4) (k := 9) (show decode _ _ = .ok (.getfield 41, 3) by decide +kernel) gf_X4_41 hr7 hs8 (Or.inl rfl) ?_
        refine fw_iconst (v := (3 : Int32)) (show decode _ _ = .ok (.iconst 3, 1) by decide +kernel) (by decide) ?_
        refine fw_imul (show decode _ _ = .ok (.imul, 1) by decide +kernel) ?_
        refine fw_iload_n (i := 3) 3 rfl (show decode _ _ = .ok (.iload_n 3, 1) by decide +kernel) ?_
        refine fw_iadd (show decode _ _ = .ok (.iadd, 1) by decide +kernel) ?_
        refine fw_aload_n (i := 0) 0 rfl (show decode _ _ = .ok (.aload_n 0, 1) by decide +kernel) ?_
        refine fw_getI (kd := 4) (k := 13) (show decode _ _ = .ok (.getfield 117, 3) by decide +kernel) gf_X4_117 hr7 hs8 (Or.inl rfl) ?_
        refine fw_callSN (mt' := mtX10_put) (mc := 0) (ms := 0) (As := [.ref y9, .int (((mI M p0 9) * (3 : Int32)) + p3), .int (mI M p0 13)]) (rest := []) 3 "OneStepMore" (show decode _ _ = .ok (.invokestatic 97, 3) by decide +kernel) ns_X4_97 rfl (Nat.le_of_ble_eq_true rfl) (s_X10_put (d := d) (hd_le hd (by decide)) h_7) (by decide) (by decide) (kV (bc' := 0) (bs' := 0) (by decide) (by decide) (fun M11 h_8 => ?_))
        refine fw_aload_n (i := 0) 0 rfl (show decode _ _ = .ok (.aload_n 0, 1) by decide +kernel) ?_
        obtain ⟨⟨hr14, n13, hs15⟩, h_9⟩ := h_8
        refine fw_callV (mt' := mtX4_advance) (mc := 0) (ms := 0) (As := []) (rest := []) 0 4 n13 (show decode _ _ = .ok (.invokevirtual 58, 3) by decide +kernel) cv_X4_58 ⟨_, rfl, rfl⟩ hr14 hs15 rfl (Nat.le_of_ble_eq_true rfl) (s_X4_advance (d := d) (hd_le hd (by decide)) h_9) (by decide) (by decide) (kV (bc' := 0) (bs' := 0) (by decide) (by decide) (fun M12 h_10 => ?_))
        refine fw_iconst (v := (1 : Int32)) (show decode _ _ = .ok (.iconst 1, 1) by decide +kernel) (by decide) ?_
        exact fw_ret (v := some (.int (1 : Int32))) .ireturn (show decode _ _ = .ok (.ireturn, 1) by decide +kernel) ⟨rfl, Or.inr (Or.inl ⟨rfl, rfl⟩)⟩ ⟨_, rfl, h_10⟩
      · have h_11 := ineg hc16 h_4
        refine FW.sub [0] (ls' := [(0, .ref p0)]) rfl ?_
        exact sj_X4_readNumber_31 hd h_11
  · have h_12 := ineg hc20 h_1
    refine fw_aload_n (i := 0) 0 rfl (show decode _ _ = .ok (.aload_n 0, 1) by decide +kernel) ?_
    refine fw_iconst (v := (1 : Int32)) (show decode _ _ = .ok (.iconst 1, 1) by decide +kernel) (by decide) ?_
    refine fw_callV (mt' := mtX4_faulty) (mc := 0) (ms := 0) (As := [.int (1 : Int32)]) (rest := []) 1 4 n6 (show decode _ _ = .ok (.invokevirtual 84, 3) by decide +kernel) cv_X4_84 ⟨_, rfl, rfl⟩ hr7 hs8 rfl (Nat.le_of_ble_eq_true rfl) (s_X4_faulty (d := d) (hd_le hd (by decide)) h_12) (by decide) (by decide) (kI (bc' := 0) (bs' := 0) (by decide) (by decide) (fun x19 M18 h_13 => ?_))
    obtain ⟨hbb, h_14⟩ := h_13
    exact fw_ret (v := some (.int x19)) .ireturn (show decode _ _ = .ok (.ireturn, 1) by decide +kernel) ⟨rfl, Or.inr (Or.inl ⟨rfl, hbb⟩)⟩ ⟨_, rfl, h_14⟩
def b_X4_readDeed_2 (K2 : Nat → Int32 → Int32 → fM → Prop) (φ : Int32 → fM → Prop) (p0 : Nat) (p1 : Int32) (p2 : Int32) (M : fM) : Prop := iF ((3 : Int32) ≤ p2) (φ (1 : Int32) M) (nm ((((p1 - (5 : Int32)) * (3 : Int32)) + p2) * (3 : Int32)) fun x1 => w_X10_cell 1 x1 M fun x4 M3 => w_X10_cell 1 (x1 + (1 : Int32)) M3 fun x6 M5 => w_X10_cell 1 (x1 + (2 : Int32)) M5 fun x8 M7 => iF (x4 ≤ x6) (isO M7 p0 4 ∧ w_X4_readNumber p0 x4 x6 p2 M7 fun x13 M9 => iF (x13 = 0) (φ (0 : Int32) M9) (iF (x8 = (-1 : Int32)) (nm (p2 + (1 : Int32)) fun x14 => K2 p0 p1 x14 M9) (isO M9 p0 4 ∧ w_X4_passes p0 x8 M9 fun x20 M16 => iF (x20 = 0) (φ (0 : Int32) M16) (nm (p2 + (1 : Int32)) fun x21 => K2 p0 p1 x21 M16)))) (φ (1 : Int32) M7))
def l_X4_readDeed_2 (φ : Int32 → fM → Prop) : Nat → Nat → Int32 → Int32 → fM → Prop
  | 0, _, _, _, _ => False
  | n + 1, p0, p1, p2, M => b_X4_readDeed_2 (l_X4_readDeed_2 φ n) φ p0 p1 p2 M
set_option maxRecDepth 100000 in
theorem sb_X4_readDeed_2 {g : GT} {d : Nat} (hd : 4 ≤ d + 1) {K2 : Nat → Int32 → Int32 → fM → Prop} {φ : Int32 → fM → Prop} (hK2 : ∀ (p0 : Nat) (p1 : Int32) (p2 : Int32) (M : fM), K2 p0 p1 p2 M → FW g mtX4_readDeed (d + 1) 2 [(0, .ref p0), (1, .int p1), (2, .int p2)] [] M 0 0 (rI φ)) {p0 : Nat} {p1 : Int32} {p2 : Int32} {M : fM} (h : b_X4_readDeed_2 K2 φ p0 p1 p2 M) : FW g mtX4_readDeed (d + 1) 2 [(0, .ref p0), (1, .int p1), (2, .int p2)] [] M 0 0 (rI φ) := by
  unfold b_X4_readDeed_2 at h
  refine fw_iload_n (i := 2) 2 rfl (show decode _ _ = .ok (.iload_n 2, 1) by decide +kernel) ?_
  refine fw_iconst (v := (3 : Int32)) (show decode _ _ = .ok (.iconst 3, 1) by decide +kernel) (by decide) ?_
  refine fw_icmp_ge 94 (show decode _ _ = .ok (.if_icmp .ge 90, 3) by decide +kernel) (by decide) (fun hc27 => ?_) (fun hc27 => ?_)
  · have h_1 := ipos hc27 h
    refine fw_iconst (v := (1 : Int32)) (show decode _ _ = .ok (.iconst 1, 1) by decide +kernel) (by decide) ?_
    exact fw_ret (v := some (.int (1 : Int32))) .ireturn (show decode _ _ = .ok (.ireturn, 1) by decide +kernel) ⟨rfl, Or.inr (Or.inl ⟨rfl, rfl⟩)⟩ ⟨_, rfl, h_1⟩
  · have h_2 := ineg hc27 h
    refine fw_iload_n (i := 1) 1 rfl (show decode _ _ = .ok (.iload_n 1, 1) by decide +kernel) ?_
    refine fw_iconst (v := (5 : Int32)) (show decode _ _ = .ok (.iconst 5, 1) by decide +kernel) (by decide) ?_
    refine fw_isub (show decode _ _ = .ok (.isub, 1) by decide +kernel) ?_
    refine fw_iconst (v := (3 : Int32)) (show decode _ _ = .ok (.iconst 3, 1) by decide +kernel) (by decide) ?_
    refine fw_imul (show decode _ _ = .ok (.imul, 1) by decide +kernel) ?_
    refine fw_iload_n (i := 2) 2 rfl (show decode _ _ = .ok (.iload_n 2, 1) by decide +kernel) ?_
    refine fw_iadd (show decode _ _ = .ok (.iadd, 1) by decide +kernel) ?_
    refine fw_iconst (v := (3 : Int32)) (show decode _ _ = .ok (.iconst 3, 1) by decide +kernel) (by decide) ?_
    refine fw_imul (show decode _ _ = .ok (.imul, 1) by decide +kernel) ?_
    refine fw_nmI (fun x1 ex2 => ?_)
    have h_3 := h_2 x1 ex2
    refine fw_istore_n (i := 3) (ls' := [(3, .int x1), (0, .ref p0), (1, .int p1), (2, .int p2)]) (show decode _ _ = .ok (.istore_n 3, 1) by decide +kernel) (by decide) rfl ?_
    refine fw_getsN "OneStepMore" (idx := 110) (r := 1) (show decode _ _ = .ok (.getstatic 110, 3) by decide +kernel) (by decide) nd782 ?_
    refine fw_iload_n (i := 3) 0 rfl (show decode _ _ = .ok (.iload_n 3, 1) by decide +kernel) ?_
    refine fw_callSN (mt' := mtX10_cell) (mc := 0) (ms := 0) (As := [.ref 1, .int x1]) (rest := []) 2 "OneStepMore" (show decode _ _ = .ok (.invokestatic 80, 3) by decide +kernel) ns_X4_80 rfl (Nat.le_of_ble_eq_true rfl) (s_X10_cell (d := d) (hd_le hd (by decide)) h_3) (by decide) (by decide) (kI (bc' := 0) (bs' := 0) (by decide) (by decide) (fun x4 M3 h_4 => ?_))
    refine fw_istore (i := 4) (ls' := [(4, .int x4), (3, .int x1), (0, .ref p0), (1, .int p1), (2, .int p2)]) (show decode _ _ = .ok (.istore 4, 2) by decide +kernel) (by decide) rfl ?_
    refine fw_getsN "OneStepMore" (idx := 110) (r := 1) (show decode _ _ = .ok (.getstatic 110, 3) by decide +kernel) (by decide) nd782 ?_
    refine fw_iload_n (i := 3) 1 rfl (show decode _ _ = .ok (.iload_n 3, 1) by decide +kernel) ?_
    refine fw_iconst (v := (1 : Int32)) (show decode _ _ = .ok (.iconst 1, 1) by decide +kernel) (by decide) ?_
    refine fw_iadd (show decode _ _ = .ok (.iadd, 1) by decide +kernel) ?_
    refine fw_callSN (mt' := mtX10_cell) (mc := 0) (ms := 0) (As := [.ref 1, .int (x1 + (1 : Int32))]) (rest := []) 2 "OneStepMore" (show decode _ _ = .ok (.invokestatic 80, 3) by decide +kernel) ns_X4_80 rfl (Nat.le_of_ble_eq_true rfl) (s_X10_cell (d := d) (hd_le hd (by decide)) h_4) (by decide) (by decide) (kI (bc' := 0) (bs' := 0) (by decide) (by decide) (fun x6 M5 h_5 => ?_))
    refine fw_istore (i := 5) (ls' := [(5, .int x6), (4, .int x4), (3, .int x1), (0, .ref p0), (1, .int p1), (2, .int p2)]) (show decode _ _ = .ok (.istore 5, 2) by decide +kernel) (by decide) rfl ?_
    refine fw_getsN "OneStepMore" (idx := 110) (r := 1) (show decode _ _ = .ok (.getstatic 110, 3) by decide +kernel) (by decide) nd782 ?_
    refine fw_iload_n (i := 3) 2 rfl (show decode _ _ = .ok (.iload_n 3, 1) by decide +kernel) ?_
    refine fw_iconst (v := (2 : Int32)) (show decode _ _ = .ok (.iconst 2, 1) by decide +kernel) (by decide) ?_
    refine fw_iadd (show decode _ _ = .ok (.iadd, 1) by decide +kernel) ?_
    refine fw_callSN (mt' := mtX10_cell) (mc := 0) (ms := 0) (As := [.ref 1, .int (x1 + (2 : Int32))]) (rest := []) 2 "OneStepMore" (show decode _ _ = .ok (.invokestatic 80, 3) by decide +kernel) ns_X4_80 rfl (Nat.le_of_ble_eq_true rfl) (s_X10_cell (d := d) (hd_le hd (by decide)) h_5) (by decide) (by decide) (kI (bc' := 0) (bs' := 0) (by decide) (by decide) (fun x8 M7 h_6 => ?_))
    refine fw_istore (i := 6) (ls' := [(6, .int x8), (5, .int x6), (4, .int x4), (3, .int x1), (0, .ref p0), (1, .int p1), (2, .int p2)]) (show decode _ _ = .ok (.istore 6, 2) by decide +kernel) (by decide) rfl ?_
    refine fw_iload (i := 4) 2 rfl (show decode _ _ = .ok (.iload 4, 2) by decide +kernel) ?_
    refine fw_iload (i := 5) 1 rfl (show decode _ _ = .ok (.iload 5, 2) by decide +kernel) ?_
    refine fw_icmp_le 57 (show decode _ _ = .ok (.if_icmp .le 5, 3) by decide +kernel) (by decide) (fun hc26 => ?_) (fun hc26 => ?_)
    · have h_7 := ipos hc26 h_6
      refine fw_aload_n (i := 0) 4 rfl (show decode _ _ = .ok (.aload_n 0, 1) by decide +kernel) ?_
      refine fw_iload (i := 4) 2 rfl (show decode _ _ = .ok (.iload 4, 2) by decide +kernel) ?_
      refine fw_iload (i := 5) 1 rfl (show decode _ _ = .ok (.iload 5, 2) by decide +kernel) ?_
      refine fw_iload_n (i := 2) 6 rfl (show decode _ _ = .ok (.iload_n 2, 1) by decide +kernel) ?_
      obtain ⟨⟨hr11, n10, hs12⟩, h_8⟩ := h_7
      refine fw_callV (mt' := mtX4_readNumber) (mc := 0) (ms := 0) (As := [.int x4, .int x6, .int p2]) (rest := []) 3 4 n10 (show decode _ _ = .ok (.invokevirtual 113, 3) by decide +kernel) cv_X4_113 ⟨_, rfl, rfl⟩ hr11 hs12 rfl (Nat.le_of_ble_eq_true rfl) (s_X4_readNumber (d := d) (hd_le hd (by decide)) h_8) (by decide) (by decide) (kI (bc' := 0) (bs' := 0) (by decide) (by decide) (fun x13 M9 h_9 => ?_))
      refine fw_if_ne 71 (show decode _ _ = .ok (.ifCond .ne 5, 3) by decide +kernel) (by decide) (fun hc25 => ?_) (fun hc25 => ?_)
      · have h_10 := ineg hc25 h_9
        refine fw_iload (i := 6) 0 rfl (show decode _ _ = .ok (.iload 6, 2) by decide +kernel) ?_
        refine fw_iconst (v := (-1 : Int32)) (show decode _ _ = .ok (.iconst (-1), 1) by decide +kernel) (by decide) ?_
        refine fw_icmp_eq 88 (show decode _ _ = .ok (.if_icmp .eq 14, 3) by decide +kernel) (by decide) (fun hc24 => ?_) (fun hc24 => ?_)
        · have h_11 := ipos hc24 h_10
          obtain ⟨x14, ex15⟩ : ∃ y : Int32, y = p2 + (1 : Int32) := ⟨_, rfl⟩
          have h_12 := h_11 x14 ex15
          refine fw_iinc (i := 2) (x := p2) (v := x14) (ls' := [(2, .int x14), (6, .int x8), (5, .int x6), (4, .int x4), (3, .int x1), (0, .ref p0), (1, .int p1)]) 6 rfl (show decode _ _ = .ok (.iinc 2 1, 3) by decide +kernel) (by rw [ex15]; rfl) (by decide) rfl ?_
          refine fw_goto 2 (show decode _ _ = .ok (.goto (-89), 3) by decide +kernel) (by decide) ?_
          refine FW.sub [5, 6, 0] (ls' := [(0, .ref p0), (1, .int p1), (2, .int x14)]) rfl ?_
          exact hK2 _ _ _ _ h_12
        · have h_13 := ineg hc24 h_10
          refine fw_aload_n (i := 0) 4 rfl (show decode _ _ = .ok (.aload_n 0, 1) by decide +kernel) ?_
          refine fw_iload (i := 6) 0 rfl (show decode _ _ = .ok (.iload 6, 2) by decide +kernel) ?_
          obtain ⟨⟨hr18, n17, hs19⟩, h_14⟩ := h_13
          refine fw_callV (mt' := mtX4_passes) (mc := 0) (ms := 0) (As := [.int x8]) (rest := []) 1 4 n17 (show decode _ _ = .ok (.invokevirtual 94, 3) by decide +kernel) cv_X4_94 ⟨_, rfl, rfl⟩ hr18 hs19 rfl (Nat.le_of_ble_eq_true rfl) (s_X4_passes (d := d) (hd_le hd (by decide)) h_14) (by decide) (by decide) (kI (bc' := 0) (bs' := 0) (by decide) (by decide) (fun x20 M16 h_15 => ?_))
          refine fw_if_ne 88 (show decode _ _ = .ok (.ifCond .ne 5, 3) by decide +kernel) (by decide) (fun hc23 => ?_) (fun hc23 => ?_)
          · have h_16 := ineg hc23 h_15
            obtain ⟨x21, ex22⟩ : ∃ y : Int32, y = p2 + (1 : Int32) := ⟨_, rfl⟩
            have h_17 := h_16 x21 ex22
            refine fw_iinc (i := 2) (x := p2) (v := x21) (ls' := [(2, .int x21), (6, .int x8), (5, .int x6), (4, .int x4), (3, .int x1), (0, .ref p0), (1, .int p1)]) 6 rfl (show decode _ _ = .ok (.iinc 2 1, 3) by decide +kernel) (by rw [ex22]; rfl) (by decide) rfl ?_
            refine fw_goto 2 (show decode _ _ = .ok (.goto (-89), 3) by decide +kernel) (by decide) ?_
            refine FW.sub [5, 6, 0] (ls' := [(0, .ref p0), (1, .int p1), (2, .int x21)]) rfl ?_
            exact hK2 _ _ _ _ h_17
          · have h_18 := ipos hc23 h_15
            refine fw_iconst (v := (0 : Int32)) (show decode _ _ = .ok (.iconst 0, 1) by decide +kernel) (by decide) ?_
            exact fw_ret (v := some (.int (0 : Int32))) .ireturn (show decode _ _ = .ok (.ireturn, 1) by decide +kernel) ⟨rfl, Or.inr (Or.inl ⟨rfl, rfl⟩)⟩ ⟨_, rfl, h_18⟩
      · have h_19 := ipos hc25 h_9
        refine fw_iconst (v := (0 : Int32)) (show decode _ _ = .ok (.iconst 0, 1) by decide +kernel) (by decide) ?_
        exact fw_ret (v := some (.int (0 : Int32))) .ireturn (show decode _ _ = .ok (.ireturn, 1) by decide +kernel) ⟨rfl, Or.inr (Or.inl ⟨rfl, rfl⟩)⟩ ⟨_, rfl, h_19⟩
    · have h_20 := ineg hc26 h_6
      refine fw_iconst (v := (1 : Int32)) (show decode _ _ = .ok (.iconst 1, 1) by decide +kernel) (by decide) ?_
      exact fw_ret (v := some (.int (1 : Int32))) .ireturn (show decode _ _ = .ok (.ireturn, 1) by decide +kernel) ⟨rfl, Or.inr (Or.inl ⟨rfl, rfl⟩)⟩ ⟨_, rfl, h_20⟩
theorem sl_X4_readDeed_2 {g : GT} {d : Nat} (hd : 4 ≤ d + 1) {φ : Int32 → fM → Prop} : ∀ (n : Nat) {p0 : Nat} {p1 : Int32} {p2 : Int32} {M : fM}, l_X4_readDeed_2 φ n p0 p1 p2 M → FW g mtX4_readDeed (d + 1) 2 [(0, .ref p0), (1, .int p1), (2, .int p2)] [] M 0 0 (rI φ)
  | 0 => fun h => h.elim
  | n + 1 => fun h => sb_X4_readDeed_2 hd (fun _ _ _ _ h => sl_X4_readDeed_2 hd n h) h
def w_X4_readDeed (p0 : Nat) (p1 : Int32) (M : fM) (φ : Int32 → fM → Prop) : Prop := ∃ n, l_X4_readDeed_2 φ n p0 p1 (0 : Int32) M
set_option maxRecDepth 100000 in
theorem s_X4_readDeed {g : GT} {d : Nat} (hd : 4 ≤ d) {p0 : Nat} {p1 : Int32} {M : fM} {φ : Int32 → fM → Prop} (h : w_X4_readDeed p0 p1 M φ) : FC g mtX4_readDeed d [.ref p0, .int p1] M 0 0 (rI φ) := by
  obtain ⟨d, rfl⟩ : ∃ e, d = e + 1 := ⟨d - 1, by omega⟩
  unfold w_X4_readDeed at h
  refine FC.intro (nL := 7) (by decide) rfl (Nat.le_of_ble_eq_true rfl) ?_
  show FW g mtX4_readDeed (d + 1) 0 [(0, .ref p0), (1, .int p1)] [] M 0 0 (rI φ)
  refine fw_iconst (v := (0 : Int32)) (show decode _ _ = .ok (.iconst 0, 1) by decide +kernel) (by decide) ?_
  refine fw_istore_n (i := 2) (ls' := [(2, .int (0 : Int32)), (0, .ref p0), (1, .int p1)]) (show decode _ _ = .ok (.istore_n 2, 1) by decide +kernel) (by decide) rfl ?_
  refine FW.sub [1, 2, 0] (ls' := [(0, .ref p0), (1, .int p1), (2, .int (0 : Int32))]) rfl ?_
  obtain ⟨nn, h_1⟩ := h
  exact sl_X4_readDeed_2 hd nn h_1
