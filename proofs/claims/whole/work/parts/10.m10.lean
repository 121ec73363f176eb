def w_J0_isLatin1_aae02  (M : fM) (φ : Int32 → fM → Prop) : Prop := φ (1 : Int32) M
theorem s_J0_isLatin1_aae02 {g : GT} {d : Nat} (hd : 1 ≤ d)  {M : fM} {φ : Int32 → fM → Prop} (h : w_J0_isLatin1_aae02 M φ) : FC g mtJ0_isLatin1_aae02 d [.ref 3] M 0 0 (rI φ) := by
  obtain ⟨d, rfl⟩ : ∃ e, d = e + 1 := ⟨d - 1, by omega⟩
  unfold w_J0_isLatin1_aae02 at h
  refine FC.intro (nL := 1) (by decide) rfl (by decide) ?_
  show FW g mtJ0_isLatin1_aae02 (d + 1) 0 [(0, .ref 3)] [] M 0 0 (rI φ)
  refine fw_getsC (idx := 38) (by decide +kernel) wd659 ?_
  refine fw_if_eq 17 (by decide +kernel) (by decide) (fun hc => absurd hc (by decide)) (fun _ => ?_)
  refine fw_aload_n (i := 0) 0 rfl (by decide +kernel) ?_
  refine fw_strC (idx := 15) (by decide +kernel) wd2037 ?_
  refine fw_if_ne 17 (by decide +kernel) (by decide) (fun hc => absurd hc (by decide)) (fun _ => ?_)
  refine fw_iconst (v := (1 : Int32)) (by decide +kernel) (by decide) ?_
  refine fw_goto 18 (by decide +kernel) (by decide) ?_
  exact fw_ret (v := some (.int (1 : Int32))) .ireturn (by decide +kernel) ⟨rfl, Or.inr (Or.inl ⟨rfl, rfl⟩)⟩ ⟨_, rfl, h⟩
def j_J3_checkIndex_8e157_9 (φ : Int32 → fM → Prop) (p0 : Int32) (p1 : Int32) (M : fM) : Prop := False
theorem sj_J3_checkIndex_8e157_9 {g : GT} {d : Nat} (hd : 1 ≤ d + 1) {φ : Int32 → fM → Prop} {p0 : Int32} {p1 : Int32} {M : fM} (h : j_J3_checkIndex_8e157_9 φ p0 p1 M) : FW g mtJ3_checkIndex_8e157 (d + 1) 9 [(0, .int p0), (1, .int p1), (2, fV g)] [] M 0 0 (rI φ) := by
  unfold j_J3_checkIndex_8e157_9 at h
  exact h.elim
def w_J3_checkIndex_8e157 (p0 : Int32) (p1 : Int32) (M : fM) (φ : Int32 → fM → Prop) : Prop := if p0 < 0 then (j_J3_checkIndex_8e157_9 φ p0 p1 M) else (if p0 < p1 then (φ p0 M) else (j_J3_checkIndex_8e157_9 φ p0 p1 M))
theorem s_J3_checkIndex_8e157 {g : GT} {d : Nat} (hd : 1 ≤ d) {p0 : Int32} {p1 : Int32} {M : fM} {φ : Int32 → fM → Prop} (h : w_J3_checkIndex_8e157 p0 p1 M φ) : FC g mtJ3_checkIndex_8e157 d [.int p0, .int p1, fV g] M 0 0 (rI φ) := by
  obtain ⟨d, rfl⟩ : ∃ e, d = e + 1 := ⟨d - 1, by omega⟩
  unfold w_J3_checkIndex_8e157 at h
  refine FC.intro (nL := 3) (by decide) rfl (by unfold fV; split <;> decide) ?_
  show FW g mtJ3_checkIndex_8e157 (d + 1) 0 [(0, .int p0), (1, .int p1), (2, fV g)] [] M 0 0 (rI φ)
  refine fw_iload_n (i := 0) 0 rfl (by decide +kernel) ?_
  refine fw_if_lt 9 (by decide +kernel) (by decide) (fun hc2 => ?_) (fun hc2 => ?_)
  · replace h := ipos hc2 h
    refine FW.sub [0, 1, 2] (ls' := [(0, .int p0), (1, .int p1), (2, fV g)]) rfl ?_
    exact sj_J3_checkIndex_8e157_9 hd h
  · replace h := ineg hc2 h
    refine fw_iload_n (i := 0) 0 rfl (by decide +kernel) ?_
    refine fw_iload_n (i := 1) 1 rfl (by decide +kernel) ?_
    refine fw_icmp_lt 16 (by decide +kernel) (by decide) (fun hc1 => ?_) (fun hc1 => ?_)
    · replace h := ipos hc1 h
      refine fw_iload_n (i := 0) 0 rfl (by decide +kernel) ?_
      exact fw_ret (v := some (.int p0)) .ireturn (by decide +kernel) ⟨rfl, Or.inl rfl⟩ ⟨_, rfl, h⟩
    · replace h := ineg hc1 h
      refine FW.sub [0, 1, 2] (ls' := [(0, .int p0), (1, .int p1), (2, fV g)]) rfl ?_
      exact sj_J3_checkIndex_8e157_9 hd h
def w_J0_checkIndex_df160 (p0 : Int32) (p1 : Int32) (M : fM) (φ : fM → Prop) : Prop := w_J3_checkIndex_8e157 p0 p1 M fun x2 M1 => φ M1
theorem s_J0_checkIndex_df160 {g : GT} {d : Nat} (hd : 2 ≤ d) {p0 : Int32} {p1 : Int32} {M : fM} {φ : fM → Prop} (h : w_J0_checkIndex_df160 p0 p1 M φ) : FC g mtJ0_checkIndex_df160 d [.int p0, .int p1] M 0 0 (rV φ) := by
  obtain ⟨d, rfl⟩ : ∃ e, d = e + 1 := ⟨d - 1, by omega⟩
  unfold w_J0_checkIndex_df160 at h
  refine FC.intro (nL := 2) (by decide) rfl (by decide) ?_
  show FW g mtJ0_checkIndex_df160 (d + 1) 0 [(0, .int p0), (1, .int p1)] [] M 0 0 (rV φ)
  refine fw_iload_n (i := 0) 0 rfl (by decide +kernel) ?_
  refine fw_iload_n (i := 1) 1 rfl (by decide +kernel) ?_
  refine fw_getsF (idx := 1053) (by decide +kernel) wd675 ?_
  refine fw_callS (mt' := mtJ3_checkIndex_8e157) (mc := 0) (ms := 0) (As := [.int p0, .int p1, fV g]) (rest := []) 3 (by decide +kernel) cs_J0_1059 rfl (by decide) (s_J3_checkIndex_8e157 (d := d) (by omega) h) (by decide) (by decide) (kI (bc' := 0) (bs' := 0) (by decide) (by decide) (fun x2 M1 h => ?_))
  refine fw_pop (by decide +kernel) rfl ?_
  exact fw_ret (v := none) .return_ (by decide +kernel) ⟨rfl, rfl⟩ ⟨rfl, h⟩
def w_J1_charAt_3b067 (p1 : Int32) (M : fM) (φ : Int32 → fM → Prop) : Prop := lenA M 4 18 fun n1 => w_J0_checkIndex_df160 p1 (nI n1) M fun M3 => inA M3 4 18 p1 ∧ isC (UInt32.toInt32 (Int32.toUInt32 ((mI M3 4 (ix p1)) &&& (255 : Int32)) % 65536)) ∧ φ (UInt32.toInt32 (Int32.toUInt32 ((mI M3 4 (ix p1)) &&& (255 : Int32)) % 65536)) M3
theorem s_J1_charAt_3b067 {g : GT} {d : Nat} (hd : 3 ≤ d) {p1 : Int32} {M : fM} {φ : Int32 → fM → Prop} (h : w_J1_charAt_3b067 p1 M φ) : FC g mtJ1_charAt_3b067 d [.ref 4, .int p1] M 0 0 (rI φ) := by
  obtain ⟨d, rfl⟩ : ∃ e, d = e + 1 := ⟨d - 1, by omega⟩
  unfold w_J1_charAt_3b067 at h
  refine FC.intro (nL := 2) (by decide) rfl (by decide) ?_
  show FW g mtJ1_charAt_3b067 (d + 1) 0 [(0, .ref 4), (1, .int p1)] [] M 0 0 (rI φ)
  refine fw_iload_n (i := 1) 1 rfl (by decide +kernel) ?_
  refine fw_aload_n (i := 0) 0 rfl (by decide +kernel) ?_
  obtain ⟨n1, hs2, h⟩ := h
  refine fw_alen (by decide +kernel) hs2 (by decide) (by decide) (by decide) (by decide) ?_
  refine fw_callS (mt' := mtJ0_checkIndex_df160) (mc := 0) (ms := 0) (As := [.int p1, .int (nI n1)]) (rest := []) 2 (by decide +kernel) cs_J1_9 rfl (by decide) (s_J0_checkIndex_df160 (d := d) (by omega) h) (by decide) (by decide) (kV (bc' := 0) (bs' := 0) (by decide) (by decide) (fun M3 h => ?_))
  refine fw_aload_n (i := 0) 0 rfl (by decide +kernel) ?_
  refine fw_iload_n (i := 1) 1 rfl (by decide +kernel) ?_
  obtain ⟨⟨n4, hs5, hi6⟩, h⟩ := h
  refine fw_bald (by decide +kernel) hs5 hi6 ?_
  refine fw_sipush (v := (255 : Int32)) (by decide +kernel) (by decide) ?_
  refine fw_iand (by decide +kernel) ?_
  refine fw_i2c (by decide +kernel) ?_
  obtain ⟨hbb, h⟩ := h
  exact fw_ret (v := some (.int (UInt32.toInt32 (Int32.toUInt32 ((mI M3 4 (ix p1)) &&& (255 : Int32)) % 65536)))) .ireturn (by decide +kernel) ⟨rfl, Or.inr (Or.inr (Or.inl ⟨rfl, hbb⟩))⟩ ⟨_, rfl, h⟩
def w_J0_charAt_5068e (p1 : Int32) (M : fM) (φ : Int32 → fM → Prop) : Prop := w_J0_isLatin1_aae02  M fun x2 M1 => if x2 = 0 then (False) else (w_J1_charAt_3b067 p1 M1 fun x4 M3 => isC x4 ∧ φ x4 M3)
theorem s_J0_charAt_5068e {g : GT} {d : Nat} (hd : 4 ≤ d) {p1 : Int32} {M : fM} {φ : Int32 → fM → Prop} (h : w_J0_charAt_5068e p1 M φ) : FC g mtJ0_charAt_5068e d [.ref 3, .int p1] M 0 0 (rI φ) := by
  obtain ⟨d, rfl⟩ : ∃ e, d = e + 1 := ⟨d - 1, by omega⟩
  unfold w_J0_charAt_5068e at h
  refine FC.intro (nL := 2) (by decide) rfl (by decide) ?_
  show FW g mtJ0_charAt_5068e (d + 1) 0 [(0, .ref 3), (1, .int p1)] [] M 0 0 (rI φ)
  refine fw_aload_n (i := 0) 0 rfl (by decide +kernel) ?_
  refine fw_callT (mt' := mtJ0_isLatin1_aae02) (mc := 0) (ms := 0) (As := []) (rest := []) 0 (by decide +kernel) cv_J0_492 rfl rfl (by decide) (s_J0_isLatin1_aae02 (d := d) (by omega) h) (by decide) (by decide) (kI (bc' := 0) (bs' := 0) (by decide) (by decide) (fun x2 M1 h => ?_))
  refine fw_if_eq 16 (by decide +kernel) (by decide) (fun hc5 => ?_) (fun hc5 => ?_)
  · replace h := ipos hc5 h
    refine fw_aload_n (i := 0) 0 rfl (by decide +kernel) ?_
    refine fw_strV (idx := 9) (by decide +kernel) wd2036 ?_
    refine fw_iload_n (i := 1) 1 rfl (by decide +kernel) ?_
    exact h.elim
  · replace h := ineg hc5 h
    refine fw_aload_n (i := 0) 0 rfl (by decide +kernel) ?_
    refine fw_strV (idx := 9) (by decide +kernel) wd2036 ?_
    refine fw_iload_n (i := 1) 1 rfl (by decide +kernel) ?_
    refine fw_callS (mt' := mtJ1_charAt_3b067) (mc := 0) (ms := 0) (As := [.ref 4, .int p1]) (rest := []) 2 (by decide +kernel) cs_J0_495 rfl (by decide) (s_J1_charAt_3b067 (d := d) (by omega) h) (by decide) (by decide) (kI (bc' := 0) (bs' := 0) (by decide) (by decide) (fun x4 M3 h => ?_))
    obtain ⟨hbb, h⟩ := h
    exact fw_ret (v := some (.int x4)) .ireturn (by decide +kernel) ⟨rfl, Or.inr (Or.inr (Or.inl ⟨rfl, hbb⟩))⟩ ⟨_, rfl, h⟩
def w_J0_coder_7d493  (M : fM) (φ : Int32 → fM → Prop) : Prop := φ (0 : Int32) M
theorem s_J0_coder_7d493 {g : GT} {d : Nat} (hd : 1 ≤ d)  {M : fM} {φ : Int32 → fM → Prop} (h : w_J0_coder_7d493 M φ) : FC g mtJ0_coder_7d493 d [.ref 3] M 0 0 (rI φ) := by
  obtain ⟨d, rfl⟩ : ∃ e, d = e + 1 := ⟨d - 1, by omega⟩
  unfold w_J0_coder_7d493 at h
  refine FC.intro (nL := 1) (by decide) rfl (by decide) ?_
  show FW g mtJ0_coder_7d493 (d + 1) 0 [(0, .ref 3)] [] M 0 0 (rI φ)
  refine fw_getsC (idx := 38) (by decide +kernel) wd659 ?_
  refine fw_if_eq 13 (by decide +kernel) (by decide) (fun hc => absurd hc (by decide)) (fun _ => ?_)
  refine fw_aload_n (i := 0) 0 rfl (by decide +kernel) ?_
  refine fw_strC (idx := 15) (by decide +kernel) wd2037 ?_
  refine fw_goto 14 (by decide +kernel) (by decide) ?_
  exact fw_ret (v := some (.int (0 : Int32))) .ireturn (by decide +kernel) ⟨rfl, Or.inr (Or.inr (Or.inr ⟨rfl, rfl⟩))⟩ ⟨_, rfl, h⟩
def w_J0_length_8abf5  (M : fM) (φ : Int32 → fM → Prop) : Prop := lenA M 4 18 fun n1 => w_J0_coder_7d493  M fun x4 M3 => φ ((nI n1) >>> (x4 &&& 31)) M3
theorem s_J0_length_8abf5 {g : GT} {d : Nat} (hd : 2 ≤ d)  {M : fM} {φ : Int32 → fM → Prop} (h : w_J0_length_8abf5 M φ) : FC g mtJ0_length_8abf5 d [.ref 3] M 0 0 (rI φ) := by
  obtain ⟨d, rfl⟩ : ∃ e, d = e + 1 := ⟨d - 1, by omega⟩
  unfold w_J0_length_8abf5 at h
  refine FC.intro (nL := 1) (by decide) rfl (by decide) ?_
  show FW g mtJ0_length_8abf5 (d + 1) 0 [(0, .ref 3)] [] M 0 0 (rI φ)
  refine fw_aload_n (i := 0) 0 rfl (by decide +kernel) ?_
  refine fw_strV (idx := 9) (by decide +kernel) wd2036 ?_
  obtain ⟨n1, hs2, h⟩ := h
  refine fw_alen (by decide +kernel) hs2 (by decide) (by decide) (by decide) (by decide) ?_
  refine fw_aload_n (i := 0) 0 rfl (by decide +kernel) ?_
  refine fw_callT (mt' := mtJ0_coder_7d493) (mc := 0) (ms := 0) (As := []) (rest := [.int (nI n1)]) 0 (by decide +kernel) cv_J0_335 rfl rfl (by decide) (s_J0_coder_7d493 (d := d) (by omega) h) (by decide) (by decide) (kI (bc' := 0) (bs' := 0) (by decide) (by decide) (fun x4 M3 h => ?_))
  refine fw_ishr (by decide +kernel) ?_
  exact fw_ret (v := some (.int ((nI n1) >>> (x4 &&& 31)))) .ireturn (by decide +kernel) ⟨rfl, Or.inl rfl⟩ ⟨_, rfl, h⟩
def w_J9_min_7cf53 (p0 : Int32) (p1 : Int32) (M : fM) (φ : Int32 → fM → Prop) : Prop := if p1 < p0 then (φ p1 M) else (φ p0 M)
theorem s_J9_min_7cf53 {g : GT} {d : Nat} (hd : 1 ≤ d) {p0 : Int32} {p1 : Int32} {M : fM} {φ : Int32 → fM → Prop} (h : w_J9_min_7cf53 p0 p1 M φ) : FC g mtJ9_min_7cf53 d [.int p0, .int p1] M 0 0 (rI φ) := by
  obtain ⟨d, rfl⟩ : ∃ e, d = e + 1 := ⟨d - 1, by omega⟩
  unfold w_J9_min_7cf53 at h
  refine FC.intro (nL := 2) (by decide) rfl (by decide) ?_
  show FW g mtJ9_min_7cf53 (d + 1) 0 [(0, .int p0), (1, .int p1)] [] M 0 0 (rI φ)
  refine fw_iload_n (i := 0) 0 rfl (by decide +kernel) ?_
  refine fw_iload_n (i := 1) 1 rfl (by decide +kernel) ?_
  refine fw_icmp_gt 9 (by decide +kernel) (by decide) (fun hc1 => ?_) (fun hc1 => ?_)
  · replace h := ipos hc1 h
    refine fw_iload_n (i := 1) 1 rfl (by decide +kernel) ?_
    exact fw_ret (v := some (.int p1)) .ireturn (by decide +kernel) ⟨rfl, Or.inl rfl⟩ ⟨_, rfl, h⟩
  · replace h := ineg hc1 h
    refine fw_iload_n (i := 0) 0 rfl (by decide +kernel) ?_
    refine fw_goto 10 (by decide +kernel) (by decide) ?_
    exact fw_ret (v := some (.int p0)) .ireturn (by decide +kernel) ⟨rfl, Or.inl rfl⟩ ⟨_, rfl, h⟩
def w_J7_copyOf_59c91 (p0 : Nat) (p1 : Int32) (M : fM) (φ : Option Nat → fM → Prop) : Prop := lenA M p0 12 fun n1 => if p1 = (nI n1) then (6 ≤ p0 ∧ lenA M p0 12 fun n31 => n31 ≤ 300 ∧ cl M p0 n31 fun q26 M28 => 6 ≤ q26 ∧ lenA M28 q26 12 fun n34 => φ (some q26) M28) else (¬ p1 < 0 ∧ ix p1 ≤ 300 ∧ nw M 12 (ix p1) fun q3 M5 => lenA M5 p0 12 fun n9 => w_J9_min_7cf53 (nI n9) p1 M5 fun x12 M11 => 6 ≤ p0 ∧ 6 ≤ q3 ∧ ¬ (0 : Int32) < 0 ∧ ¬ (0 : Int32) < 0 ∧ ¬ x12 < 0 ∧ lenA M11 p0 12 fun n22 => lenA M11 q3 12 fun n23 => ix (0 : Int32) + ix x12 ≤ n22 ∧ ix (0 : Int32) + ix x12 ≤ n23 ∧ st (cpI M11 p0 q3 (ix (0 : Int32)) (ix (0 : Int32)) (ix x12)) fun M24 => φ (some q3) M24)
theorem s_J7_copyOf_59c91 {g : GT} {d : Nat} (hd : 2 ≤ d) {p0 : Nat} {p1 : Int32} {M : fM} {φ : Option Nat → fM → Prop} (h : w_J7_copyOf_59c91 p0 p1 M φ) : FC g mtJ7_copyOf_59c91 d [.ref p0, .int p1] M 2 600 (rP φ) := by
  obtain ⟨d, rfl⟩ : ∃ e, d = e + 1 := ⟨d - 1, by omega⟩
  unfold w_J7_copyOf_59c91 at h
  refine FC.intro (nL := 3) (by decide) rfl (by decide) ?_
  show FW g mtJ7_copyOf_59c91 (d + 1) 0 [(0, .ref p0), (1, .int p1)] [] M 2 600 (rP φ)
  refine fw_iload_n (i := 1) 1 rfl (by decide +kernel) ?_
  refine fw_aload_n (i := 0) 0 rfl (by decide +kernel) ?_
  obtain ⟨n1, hs2, h⟩ := h
  refine fw_alen (by decide +kernel) hs2 (by decide) (by decide) (by decide) (by decide) ?_
  refine fw_icmp_ne 14 (by decide +kernel) (by decide) (fun hc37 => ?_) (fun hc37 => ?_)
  · replace h := ineg hc37 h
    refine fw_iload_n (i := 1) 1 rfl (by decide +kernel) ?_
    obtain ⟨hn7, hN8, h⟩ := h
    refine fw_newa 12 (by decide +kernel) (by decide) hn7 (by omega) (by decide) (by omega) wd179 ?_
    refine FW.room (bc' := 1) (bs' := 300) (by decide) (by omega) ?_
    refine FW.nmN (fun q3 eq4 => ?_)
    refine FW.nmM (fun M5 eM6 => ?_)
    replace h := h q3 M5 eq4 eM6
    refine fw_astore_n (i := 2) (ls' := [(2, .ref q3), (0, .ref p0), (1, .int p1)]) (by decide +kernel) (by decide) rfl ?_
    refine fw_aload_n (i := 0) 1 rfl (by decide +kernel) ?_
    refine fw_iconst (v := (0 : Int32)) (by decide +kernel) (by decide) ?_
    refine fw_aload_n (i := 2) 0 rfl (by decide +kernel) ?_
    refine fw_iconst (v := (0 : Int32)) (by decide +kernel) (by decide) ?_
    refine fw_aload_n (i := 0) 1 rfl (by decide +kernel) ?_
    obtain ⟨n9, hs10, h⟩ := h
    refine fw_alen (by decide +kernel) hs10 (by decide) (by decide) (by decide) (by decide) ?_
    refine fw_iload_n (i := 1) 2 rfl (by decide +kernel) ?_
    refine fw_callS (mt' := mtJ9_min_7cf53) (mc := 0) (ms := 0) (As := [.int (nI n9), .int p1]) (rest := [.int (0 : Int32), .ref q3, .int (0 : Int32), .ref p0]) 2 (by decide +kernel) cs_J7_304 rfl (by decide) (s_J9_min_7cf53 (d := d) (by omega) h) (by decide) (by decide) (kI (bc' := 1) (bs' := 300) (by decide) (by decide) (fun x12 M11 h => ?_))
    obtain ⟨hc13, hc14, hc15, hc16, hc17, n22, hc18, n23, hc19, hc20, hc21, h⟩ := h
    refine fw_copy (idx := 150) (rest := []) (by decide +kernel) ⟨wd801, wd803, wd802, wd148⟩ hc13 hc18 hc14 hc19 hc15 hc16 hc17 hc20 hc21 (by decide) ?_
    refine FW.nmM (fun M24 eM25 => ?_)
    replace h := h M24 eM25
    refine fw_aload_n (i := 2) 0 rfl (by decide +kernel) ?_
    exact fw_retq (x := (some q3)) (by decide +kernel) ⟨_, rfl, Or.inr ⟨_, rfl⟩⟩ ⟨_, rfl, h⟩
  · replace h := ipos hc37 h
    refine fw_aload_n (i := 0) 0 rfl (by decide +kernel) ?_
    obtain ⟨hr30, n31, hs32, hn33, h⟩ := h
    refine fw_clone (idx := 316) (rest := []) (by decide +kernel) cloneW_316 hr30 hs32 (by decide) (by omega) (by decide) ?_
    refine FW.room (bc' := 1) (bs' := 300) (by decide) (by omega) ?_
    refine FW.nmN (fun q26 eq27 => ?_)
    refine FW.nmM (fun M28 eM29 => ?_)
    replace h := h q26 M28 eq27 eM29
    obtain ⟨hr36, n34, hs35, h⟩ := h
    refine fw_castA (by decide +kernel) wd799 hr36 hs35 ?_
    exact fw_retq (x := (some q26)) (by decide +kernel) ⟨_, rfl, Or.inr ⟨_, rfl⟩⟩ ⟨_, rfl, h⟩
def b_J7_fill_53178_5 (K5 : Nat → Int32 → Int32 → Int32 → fM → Prop) (φ : fM → Prop) (p0 : Nat) (p1 : Int32) (p2 : Int32) (p3 : Int32) (M : fM) : Prop := if p3 ≤ p2 then (φ M) else (6 ≤ p0 ∧ inA M p0 12 p2 ∧ st (wI M p0 (ix p2) p1) fun M5 => nm (p2 + (1 : Int32)) fun x7 => K5 p0 p1 x7 p3 M5)
def l_J7_fill_53178_5 (φ : fM → Prop) : Nat → Nat → Int32 → Int32 → Int32 → fM → Prop
  | 0, _, _, _, _, _ => False
  | n + 1, p0, p1, p2, p3, M => b_J7_fill_53178_5 (l_J7_fill_53178_5 φ n) φ p0 p1 p2 p3 M
theorem sb_J7_fill_53178_5 {g : GT} {d : Nat} (hd : 1 ≤ d + 1) {K5 : Nat → Int32 → Int32 → Int32 → fM → Prop} {φ : fM → Prop} (hK5 : ∀ (p0 : Nat) (p1 : Int32) (p2 : Int32) (p3 : Int32) (M : fM), K5 p0 p1 p2 p3 M → FW g mtJ7_fill_53178 (d + 1) 5 [(0, .ref p0), (1, .int p1), (2, .int p2), (3, .int p3)] [] M 0 0 (rV φ)) {p0 : Nat} {p1 : Int32} {p2 : Int32} {p3 : Int32} {M : fM} (h : b_J7_fill_53178_5 K5 φ p0 p1 p2 p3 M) : FW g mtJ7_fill_53178 (d + 1) 5 [(0, .ref p0), (1, .int p1), (2, .int p2), (3, .int p3)] [] M 0 0 (rV φ) := by
  unfold b_J7_fill_53178_5 at h
  refine fw_iload_n (i := 2) 2 rfl (by decide +kernel) ?_
  refine fw_iload_n (i := 3) 3 rfl (by decide +kernel) ?_
  refine fw_icmp_ge 20 (by decide +kernel) (by decide) (fun hc9 => ?_) (fun hc9 => ?_)
  · replace h := ipos hc9 h
    exact fw_ret (v := none) .return_ (by decide +kernel) ⟨rfl, rfl⟩ ⟨rfl, h⟩
  · replace h := ineg hc9 h
    refine fw_aload_n (i := 0) 0 rfl (by decide +kernel) ?_
    refine fw_iload_n (i := 2) 2 rfl (by decide +kernel) ?_
    refine fw_iload_n (i := 1) 1 rfl (by decide +kernel) ?_
    obtain ⟨hr4, ⟨n1, hs2, hi3⟩, h⟩ := h
    refine fw_iast (by decide +kernel) hr4 hs2 hi3 ?_
    refine FW.nmM (fun M5 eM6 => ?_)
    replace h := h M5 eM6
    obtain ⟨x7, ex8⟩ : ∃ y : Int32, y = p2 + (1 : Int32) := ⟨_, rfl⟩
    replace h := h x7 ex8
    refine fw_iinc (i := 2) (x := p2) (v := x7) (ls' := [(2, .int x7), (0, .ref p0), (1, .int p1), (3, .int p3)]) 2 rfl (by decide +kernel) (by rw [ex8]; rfl) (by decide) rfl ?_
    refine fw_goto 5 (by decide +kernel) (by decide) ?_
    refine FW.sub [1, 2, 0, 3] (ls' := [(0, .ref p0), (1, .int p1), (2, .int x7), (3, .int p3)]) rfl ?_
    exact hK5 _ _ _ _ _ h
theorem sl_J7_fill_53178_5 {g : GT} {d : Nat} (hd : 1 ≤ d + 1) {φ : fM → Prop} : ∀ (n : Nat) {p0 : Nat} {p1 : Int32} {p2 : Int32} {p3 : Int32} {M : fM}, l_J7_fill_53178_5 φ n p0 p1 p2 p3 M → FW g mtJ7_fill_53178 (d + 1) 5 [(0, .ref p0), (1, .int p1), (2, .int p2), (3, .int p3)] [] M 0 0 (rV φ)
  | 0 => fun h => h.elim
  | n + 1 => fun h => sb_J7_fill_53178_5 hd (fun _ _ _ _ _ h => sl_J7_fill_53178_5 hd n h) h
def w_J7_fill_53178 (p0 : Nat) (p1 : Int32) (M : fM) (φ : fM → Prop) : Prop := lenA M p0 12 fun n10 => nm (nI n10) fun x12 => ∃ n, l_J7_fill_53178_5 φ n p0 p1 (0 : Int32) x12 M
theorem s_J7_fill_53178 {g : GT} {d : Nat} (hd : 1 ≤ d) {p0 : Nat} {p1 : Int32} {M : fM} {φ : fM → Prop} (h : w_J7_fill_53178 p0 p1 M φ) : FC g mtJ7_fill_53178 d [.ref p0, .int p1] M 0 0 (rV φ) := by
  obtain ⟨d, rfl⟩ : ∃ e, d = e + 1 := ⟨d - 1, by omega⟩
  unfold w_J7_fill_53178 at h
  refine FC.intro (nL := 4) (by decide) rfl (by decide) ?_
  show FW g mtJ7_fill_53178 (d + 1) 0 [(0, .ref p0), (1, .int p1)] [] M 0 0 (rV φ)
  refine fw_iconst (v := (0 : Int32)) (by decide +kernel) (by decide) ?_
  refine fw_istore_n (i := 2) (ls' := [(2, .int (0 : Int32)), (0, .ref p0), (1, .int p1)]) (by decide +kernel) (by decide) rfl ?_
  refine fw_aload_n (i := 0) 1 rfl (by decide +kernel) ?_
  obtain ⟨n10, hs11, h⟩ := h
  refine fw_alen (by decide +kernel) hs11 (by decide) (by decide) (by decide) (by decide) ?_
  refine fw_nmI (fun x12 ex13 => ?_)
  replace h := h x12 ex13
  refine fw_istore_n (i := 3) (ls' := [(3, .int x12), (2, .int (0 : Int32)), (0, .ref p0), (1, .int p1)]) (by decide +kernel) (by decide) rfl ?_
  refine FW.sub [2, 3, 1, 0] (ls' := [(0, .ref p0), (1, .int p1), (2, .int (0 : Int32)), (3, .int x12)]) rfl ?_
  obtain ⟨nn, h⟩ := h
  exact sl_J7_fill_53178_5 hd nn h
def b_J7_fill_d0a16_6 (K6 : Nat → Int64 → Int32 → Int32 → fM → Prop) (φ : fM → Prop) (p0 : Nat) (p1 : Int64) (p3 : Int32) (p4 : Int32) (M : fM) : Prop := if p4 ≤ p3 then (φ M) else (6 ≤ p0 ∧ inA M p0 13 p3 ∧ st (wJ M p0 (ix p3) p1) fun M5 => nm (p3 + (1 : Int32)) fun x7 => K6 p0 p1 x7 p4 M5)
def l_J7_fill_d0a16_6 (φ : fM → Prop) : Nat → Nat → Int64 → Int32 → Int32 → fM → Prop
  | 0, _, _, _, _, _ => False
  | n + 1, p0, p1, p3, p4, M => b_J7_fill_d0a16_6 (l_J7_fill_d0a16_6 φ n) φ p0 p1 p3 p4 M
theorem sb_J7_fill_d0a16_6 {g : GT} {d : Nat} (hd : 1 ≤ d + 1) {K6 : Nat → Int64 → Int32 → Int32 → fM → Prop} {φ : fM → Prop} (hK6 : ∀ (p0 : Nat) (p1 : Int64) (p3 : Int32) (p4 : Int32) (M : fM), K6 p0 p1 p3 p4 M → FW g mtJ7_fill_d0a16 (d + 1) 6 [(0, .ref p0), (1, .long p1), (3, .int p3), (4, .int p4)] [] M 0 0 (rV φ)) {p0 : Nat} {p1 : Int64} {p3 : Int32} {p4 : Int32} {M : fM} (h : b_J7_fill_d0a16_6 K6 φ p0 p1 p3 p4 M) : FW g mtJ7_fill_d0a16 (d + 1) 6 [(0, .ref p0), (1, .long p1), (3, .int p3), (4, .int p4)] [] M 0 0 (rV φ) := by
  unfold b_J7_fill_d0a16_6 at h
  refine fw_iload_n (i := 3) 2 rfl (by decide +kernel) ?_
  refine fw_iload (i := 4) 3 rfl (by decide +kernel) ?_
  refine fw_icmp_ge 22 (by decide +kernel) (by decide) (fun hc9 => ?_) (fun hc9 => ?_)
  · replace h := ipos hc9 h
    exact fw_ret (v := none) .return_ (by decide +kernel) ⟨rfl, rfl⟩ ⟨rfl, h⟩
  · replace h := ineg hc9 h
    refine fw_aload_n (i := 0) 0 rfl (by decide +kernel) ?_
    refine fw_iload_n (i := 3) 2 rfl (by decide +kernel) ?_
    refine fw_lload_n (i := 1) 1 rfl (by decide +kernel) ?_
    obtain ⟨hr4, ⟨n1, hs2, hi3⟩, h⟩ := h
    refine fw_last (by decide +kernel) hr4 hs2 hi3 ?_
    refine FW.nmM (fun M5 eM6 => ?_)
    replace h := h M5 eM6
    obtain ⟨x7, ex8⟩ : ∃ y : Int32, y = p3 + (1 : Int32) := ⟨_, rfl⟩
    replace h := h x7 ex8
    refine fw_iinc (i := 3) (x := p3) (v := x7) (ls' := [(3, .int x7), (0, .ref p0), (1, .long p1), (4, .int p4)]) 2 rfl (by decide +kernel) (by rw [ex8]; rfl) (by decide) rfl ?_
    refine fw_goto 6 (by decide +kernel) (by decide) ?_
    refine FW.sub [1, 2, 0, 3] (ls' := [(0, .ref p0), (1, .long p1), (3, .int x7), (4, .int p4)]) rfl ?_
    exact hK6 _ _ _ _ _ h
theorem sl_J7_fill_d0a16_6 {g : GT} {d : Nat} (hd : 1 ≤ d + 1) {φ : fM → Prop} : ∀ (n : Nat) {p0 : Nat} {p1 : Int64} {p3 : Int32} {p4 : Int32} {M : fM}, l_J7_fill_d0a16_6 φ n p0 p1 p3 p4 M → FW g mtJ7_fill_d0a16 (d + 1) 6 [(0, .ref p0), (1, .long p1), (3, .int p3), (4, .int p4)] [] M 0 0 (rV φ)
  | 0 => fun h => h.elim
  | n + 1 => fun h => sb_J7_fill_d0a16_6 hd (fun _ _ _ _ _ h => sl_J7_fill_d0a16_6 hd n h) h
def w_J7_fill_d0a16 (p0 : Nat) (p1 : Int64) (M : fM) (φ : fM → Prop) : Prop := lenA M p0 13 fun n10 => nm (nI n10) fun x12 => ∃ n, l_J7_fill_d0a16_6 φ n p0 p1 (0 : Int32) x12 M
theorem s_J7_fill_d0a16 {g : GT} {d : Nat} (hd : 1 ≤ d) {p0 : Nat} {p1 : Int64} {M : fM} {φ : fM → Prop} (h : w_J7_fill_d0a16 p0 p1 M φ) : FC g mtJ7_fill_d0a16 d [.ref p0, .long p1] M 0 0 (rV φ) := by
  obtain ⟨d, rfl⟩ : ∃ e, d = e + 1 := ⟨d - 1, by omega⟩
  unfold w_J7_fill_d0a16 at h
  refine FC.intro (nL := 5) (by decide) rfl (by decide) ?_
  show FW g mtJ7_fill_d0a16 (d + 1) 0 [(0, .ref p0), (1, .long p1)] [] M 0 0 (rV φ)
  refine fw_iconst (v := (0 : Int32)) (by decide +kernel) (by decide) ?_
  refine fw_istore_n (i := 3) (ls' := [(3, .int (0 : Int32)), (0, .ref p0), (1, .long p1)]) (by decide +kernel) (by decide) rfl ?_
  refine fw_aload_n (i := 0) 1 rfl (by decide +kernel) ?_
  obtain ⟨n10, hs11, h⟩ := h
  refine fw_alen (by decide +kernel) hs11 (by decide) (by decide) (by decide) (by decide) ?_
  refine fw_nmI (fun x12 ex13 => ?_)
  replace h := h x12 ex13
  refine fw_istore (i := 4) (ls' := [(4, .int x12), (3, .int (0 : Int32)), (0, .ref p0), (1, .long p1)]) (by decide +kernel) (by decide) rfl ?_
  refine FW.sub [2, 3, 1, 0] (ls' := [(0, .ref p0), (1, .long p1), (3, .int (0 : Int32)), (4, .int x12)]) rfl ?_
  obtain ⟨nn, h⟩ := h
  exact sl_J7_fill_d0a16_6 hd nn h
def w_J9_abs_0f7a4 (p0 : Int32) (M : fM) (φ : Int32 → fM → Prop) : Prop := if 0 ≤ p0 then (φ p0 M) else (φ (-p0) M)
theorem s_J9_abs_0f7a4 {g : GT} {d : Nat} (hd : 1 ≤ d) {p0 : Int32} {M : fM} {φ : Int32 → fM → Prop} (h : w_J9_abs_0f7a4 p0 M φ) : FC g mtJ9_abs_0f7a4 d [.int p0] M 0 0 (rI φ) := by
  obtain ⟨d, rfl⟩ : ∃ e, d = e + 1 := ⟨d - 1, by omega⟩
  unfold w_J9_abs_0f7a4 at h
  refine FC.intro (nL := 1) (by decide) rfl (by decide) ?_
  show FW g mtJ9_abs_0f7a4 (d + 1) 0 [(0, .int p0)] [] M 0 0 (rI φ)
  refine fw_iload_n (i := 0) 0 rfl (by decide +kernel) ?_
  refine fw_if_ge 9 (by decide +kernel) (by decide) (fun hc1 => ?_) (fun hc1 => ?_)
  · replace h := ipos hc1 h
    refine fw_iload_n (i := 0) 0 rfl (by decide +kernel) ?_
    exact fw_ret (v := some (.int p0)) .ireturn (by decide +kernel) ⟨rfl, Or.inl rfl⟩ ⟨_, rfl, h⟩
  · replace h := ineg hc1 h
    refine fw_iload_n (i := 0) 0 rfl (by decide +kernel) ?_
    refine fw_ineg (by decide +kernel) ?_
    refine fw_goto 10 (by decide +kernel) (by decide) ?_
    exact fw_ret (v := some (.int (-p0))) .ireturn (by decide +kernel) ⟨rfl, Or.inl rfl⟩ ⟨_, rfl, h⟩
def w_J9_max_7cf53 (p0 : Int32) (p1 : Int32) (M : fM) (φ : Int32 → fM → Prop) : Prop := if p0 < p1 then (φ p1 M) else (φ p0 M)
theorem s_J9_max_7cf53 {g : GT} {d : Nat} (hd : 1 ≤ d) {p0 : Int32} {p1 : Int32} {M : fM} {φ : Int32 → fM → Prop} (h : w_J9_max_7cf53 p0 p1 M φ) : FC g mtJ9_max_7cf53 d [.int p0, .int p1] M 0 0 (rI φ) := by
  obtain ⟨d, rfl⟩ : ∃ e, d = e + 1 := ⟨d - 1, by omega⟩
  unfold w_J9_max_7cf53 at h
  refine FC.intro (nL := 2) (by decide) rfl (by decide) ?_
  show FW g mtJ9_max_7cf53 (d + 1) 0 [(0, .int p0), (1, .int p1)] [] M 0 0 (rI φ)
  refine fw_iload_n (i := 0) 0 rfl (by decide +kernel) ?_
  refine fw_iload_n (i := 1) 1 rfl (by decide +kernel) ?_
  refine fw_icmp_lt 9 (by decide +kernel) (by decide) (fun hc1 => ?_) (fun hc1 => ?_)
  · replace h := ipos hc1 h
    refine fw_iload_n (i := 1) 1 rfl (by decide +kernel) ?_
    exact fw_ret (v := some (.int p1)) .ireturn (by decide +kernel) ⟨rfl, Or.inl rfl⟩ ⟨_, rfl, h⟩
  · replace h := ineg hc1 h
    refine fw_iload_n (i := 0) 0 rfl (by decide +kernel) ?_
    refine fw_goto 10 (by decide +kernel) (by decide) ?_
    exact fw_ret (v := some (.int p0)) .ireturn (by decide +kernel) ⟨rfl, Or.inl rfl⟩ ⟨_, rfl, h⟩
def w_X10_copy (p0 : Nat) (p1 : Nat) (M : fM) (φ : fM → Prop) : Prop := lenA M p0 12 fun n1 => lenA M p1 12 fun n3 => w_J9_min_7cf53 (nI n1) (nI n3) M fun x6 M5 => 6 ≤ p0 ∧ 6 ≤ p1 ∧ ¬ (0 : Int32) < 0 ∧ ¬ (0 : Int32) < 0 ∧ ¬ x6 < 0 ∧ lenA M5 p0 12 fun n16 => lenA M5 p1 12 fun n17 => ix (0 : Int32) + ix x6 ≤ n16 ∧ ix (0 : Int32) + ix x6 ≤ n17 ∧ st (cpI M5 p0 p1 (ix (0 : Int32)) (ix (0 : Int32)) (ix x6)) fun M18 => φ M18
theorem s_X10_copy {g : GT} {d : Nat} (hd : 2 ≤ d) {p0 : Nat} {p1 : Nat} {M : fM} {φ : fM → Prop} (h : w_X10_copy p0 p1 M φ) : FC g mtX10_copy d [.ref p0, .ref p1] M 0 0 (rV φ) := by
  obtain ⟨d, rfl⟩ : ∃ e, d = e + 1 := ⟨d - 1, by omega⟩
  unfold w_X10_copy at h
  refine FC.intro (nL := 2) (by decide) rfl (by decide) ?_
  show FW g mtX10_copy (d + 1) 0 [(0, .ref p0), (1, .ref p1)] [] M 0 0 (rV φ)
  refine fw_aload_n (i := 0) 0 rfl (by decide +kernel) ?_
  refine fw_iconst (v := (0 : Int32)) (by decide +kernel) (by decide) ?_
  refine fw_aload_n (i := 1) 1 rfl (by decide +kernel) ?_
  refine fw_iconst (v := (0 : Int32)) (by decide +kernel) (by decide) ?_
  refine fw_aload_n (i := 0) 0 rfl (by decide +kernel) ?_
  obtain ⟨n1, hs2, h⟩ := h
  refine fw_alen (by decide +kernel) hs2 (by decide) (by decide) (by decide) (by decide) ?_
  refine fw_aload_n (i := 1) 1 rfl (by decide +kernel) ?_
  obtain ⟨n3, hs4, h⟩ := h
  refine fw_alen (by decide +kernel) hs4 (by decide) (by decide) (by decide) (by decide) ?_
  refine fw_callS (mt' := mtJ9_min_7cf53) (mc := 0) (ms := 0) (As := [.int (nI n1), .int (nI n3)]) (rest := [.int (0 : Int32), .ref p1, .int (0 : Int32), .ref p0]) 2 (by decide +kernel) cs_X10_288 rfl (by decide) (s_J9_min_7cf53 (d := d) (by omega) h) (by decide) (by decide) (kI (bc' := 0) (bs' := 0) (by decide) (by decide) (fun x6 M5 h => ?_))
  obtain ⟨hc7, hc8, hc9, hc10, hc11, n16, hc12, n17, hc13, hc14, hc15, h⟩ := h
  refine fw_copy (idx := 293) (rest := []) (by decide +kernel) ⟨wd1360, wd803, wd802, wd148⟩ hc7 hc12 hc8 hc13 hc9 hc10 hc11 hc14 hc15 (by decide) ?_
  refine FW.nmM (fun M18 eM19 => ?_)
  replace h := h M18 eM19
  exact fw_ret (v := none) .return_ (by decide +kernel) ⟨rfl, rfl⟩ ⟨rfl, h⟩
def w_X0_become (p0 : Nat) (p1 : Nat) (M : fM) (φ : fM → Prop) : Prop := isO M p1 0 ∧ nm (mI M p1 0) fun x4 => isO M p0 0 ∧ st (wI M p0 0 x4) fun M9 => dR (mP M9 p1 1) fun y11 => dR (mP M9 p0 1) fun y13 => w_X10_copy y11 y13 M9 fun M15 => isO M15 p1 0 ∧ nm (mI M15 p1 2) fun x19 => isO M15 p0 0 ∧ st (wI M15 p0 2 x19) fun M24 => nm (mI M24 p1 3) fun x26 => st (wI M24 p0 3 x26) fun M28 => nm (mI M28 p1 4) fun x30 => isB x30 ∧ st (wI M28 p0 4 x30) fun M32 => φ M32
theorem s_X0_become {g : GT} {d : Nat} (hd : 3 ≤ d) {p0 : Nat} {p1 : Nat} {M : fM} {φ : fM → Prop} (h : w_X0_become p0 p1 M φ) : FC g mtX0_become d [.ref p0, .ref p1] M 0 0 (rV φ) := by
  obtain ⟨d, rfl⟩ : ∃ e, d = e + 1 := ⟨d - 1, by omega⟩
  unfold w_X0_become at h
  refine FC.intro (nL := 2) (by decide) rfl (by decide) ?_
  show FW g mtX0_become (d + 1) 0 [(0, .ref p0), (1, .ref p1)] [] M 0 0 (rV φ)
  refine fw_aload_n (i := 0) 0 rfl (by decide +kernel) ?_
  refine fw_aload_n (i := 1) 1 rfl (by decide +kernel) ?_
  obtain ⟨⟨hr2, n1, hs3⟩, h⟩ := h
  refine fw_getI (kd := 0) (k := 0) (by decide +kernel) gf_X0_9 hr2 hs3 (Or.inl rfl) ?_
  refine fw_nmI (fun x4 ex5 => ?_)
  replace h := h x4 ex5
  obtain ⟨⟨hr7, n6, hs8⟩, h⟩ := h
  refine fw_putI (kd := 0) (k := 0) (by decide +kernel) ⟨gf_X0_9, _, rfl, Or.inl rfl⟩ hr7 hs8 rfl ?_
  refine FW.nmM (fun M9 eM10 => ?_)
  replace h := h M9 eM10
  refine fw_aload_n (i := 1) 1 rfl (by decide +kernel) ?_
  refine fw_getP (kd := 0) (k := 1) (by decide +kernel) gf_X0_15 hr2 (mSw_I eM10 hs3) rfl ?_
  obtain ⟨y11, hy12, h⟩ := dR_e h
  refine fw_deref hy12 ?_
  refine fw_aload_n (i := 0) 0 rfl (by decide +kernel) ?_
  refine fw_getP (kd := 0) (k := 1) (by decide +kernel) gf_X0_15 hr7 (mSw_I eM10 hs8) rfl ?_
  obtain ⟨y13, hy14, h⟩ := dR_e h
  refine fw_deref hy14 ?_
  refine fw_callSN (mt' := mtX10_copy) (mc := 0) (ms := 0) (As := [.ref y11, .ref y13]) (rest := []) 2 "OneStepMore" (by decide +kernel) ns_X0_39 rfl (by decide) (s_X10_copy (d := d) (by omega) h) (by decide) (by decide) (kV (bc' := 0) (bs' := 0) (by decide) (by decide) (fun M15 h => ?_))
  refine fw_aload_n (i := 0) 0 rfl (by decide +kernel) ?_
  refine fw_aload_n (i := 1) 1 rfl (by decide +kernel) ?_
  obtain ⟨⟨hr17, n16, hs18⟩, h⟩ := h
  refine fw_getI (kd := 0) (k := 2) (by decide +kernel) gf_X0_25 hr17 hs18 (Or.inl rfl) ?_
  refine fw_nmI (fun x19 ex20 => ?_)
  replace h := h x19 ex20
  obtain ⟨⟨hr22, n21, hs23⟩, h⟩ := h
  refine fw_putI (kd := 0) (k := 2) (by decide +kernel) ⟨gf_X0_25, _, rfl, Or.inl rfl⟩ hr22 hs23 rfl ?_
  refine FW.nmM (fun M24 eM25 => ?_)
  replace h := h M24 eM25
  refine fw_aload_n (i := 0) 0 rfl (by decide +kernel) ?_
  refine fw_aload_n (i := 1) 1 rfl (by decide +kernel) ?_
  refine fw_getI (kd := 0) (k := 3) (by decide +kernel) gf_X0_28 hr17 (mSw_I eM25 hs18) (Or.inl rfl) ?_
  refine fw_nmI (fun x26 ex27 => ?_)
  replace h := h x26 ex27
  refine fw_putI (kd := 0) (k := 3) (by decide +kernel) ⟨gf_X0_28, _, rfl, Or.inl rfl⟩ hr22 (mSw_I eM25 hs23) rfl ?_
  refine FW.nmM (fun M28 eM29 => ?_)
  replace h := h M28 eM29
  refine fw_aload_n (i := 0) 0 rfl (by decide +kernel) ?_
  refine fw_aload_n (i := 1) 1 rfl (by decide +kernel) ?_
  refine fw_getI (kd := 0) (k := 4) (by decide +kernel) gf_X0_43 hr17 (mSw_I eM29 (mSw_I eM25 hs18)) (Or.inr rfl) ?_
  refine fw_nmI (fun x30 ex31 => ?_)
  replace h := h x30 ex31
  obtain ⟨hb34, h⟩ := h
  refine fw_putZ (kd := 0) (k := 4) (by decide +kernel) ⟨gf_X0_43, _, rfl, Or.inl rfl⟩ hr22 (mSw_I eM29 (mSw_I eM25 hs23)) rfl hb34 ?_
  refine FW.nmM (fun M32 eM33 => ?_)
  replace h := h M32 eM33
  exact fw_ret (v := none) .return_ (by decide +kernel) ⟨rfl, rfl⟩ ⟨rfl, h⟩
def w_X0_build (p0 : Nat) (p1 : Int32) (M : fM) (φ : fM → Prop) : Prop := isO M p0 0 ∧ st (wI M p0 0 p1) fun M4 => dR (mP M4 p0 1) fun y6 => w_J7_fill_53178 y6 (5 : Int32) M4 fun M8 => isO M8 p0 0 ∧ st (wI M8 p0 2 (0 : Int32)) fun M12 => st (wI M12 p0 3 (0 : Int32)) fun M14 => φ M14
theorem s_X0_build {g : GT} {d : Nat} (hd : 2 ≤ d) {p0 : Nat} {p1 : Int32} {M : fM} {φ : fM → Prop} (h : w_X0_build p0 p1 M φ) : FC g mtX0_build d [.ref p0, .int p1] M 0 0 (rV φ) := by
  obtain ⟨d, rfl⟩ : ∃ e, d = e + 1 := ⟨d - 1, by omega⟩
  unfold w_X0_build at h
  refine FC.intro (nL := 2) (by decide) rfl (by decide) ?_
  show FW g mtX0_build (d + 1) 0 [(0, .ref p0), (1, .int p1)] [] M 0 0 (rV φ)
  refine fw_aload_n (i := 0) 0 rfl (by decide +kernel) ?_
  refine fw_iload_n (i := 1) 1 rfl (by decide +kernel) ?_
  obtain ⟨⟨hr2, n1, hs3⟩, h⟩ := h
  refine fw_putI (kd := 0) (k := 0) (by decide +kernel) ⟨gf_X0_9, _, rfl, Or.inl rfl⟩ hr2 hs3 rfl ?_
  refine FW.nmM (fun M4 eM5 => ?_)
  replace h := h M4 eM5
  refine fw_aload_n (i := 0) 0 rfl (by decide +kernel) ?_
  refine fw_getP (kd := 0) (k := 1) (by decide +kernel) gf_X0_15 hr2 (mSw_I eM5 hs3) rfl ?_
  obtain ⟨y6, hy7, h⟩ := dR_e h
  refine fw_deref hy7 ?_
  refine fw_iconst (v := (5 : Int32)) (by decide +kernel) (by decide) ?_
  refine fw_callS (mt' := mtJ7_fill_53178) (mc := 0) (ms := 0) (As := [.ref y6, .int (5 : Int32)]) (rest := []) 2 (by decide +kernel) cs_X0_19 rfl (by decide) (s_J7_fill_53178 (d := d) (by omega) h) (by decide) (by decide) (kV (bc' := 0) (bs' := 0) (by decide) (by decide) (fun M8 h => ?_))
  refine fw_aload_n (i := 0) 0 rfl (by decide +kernel) ?_
  refine fw_iconst (v := (0 : Int32)) (by decide +kernel) (by decide) ?_
  obtain ⟨⟨hr10, n9, hs11⟩, h⟩ := h
  refine fw_putI (kd := 0) (k := 2) (by decide +kernel) ⟨gf_X0_25, _, rfl, Or.inl rfl⟩ hr10 hs11 rfl ?_
  refine FW.nmM (fun M12 eM13 => ?_)
  replace h := h M12 eM13
  refine fw_aload_n (i := 0) 0 rfl (by decide +kernel) ?_
  refine fw_iconst (v := (0 : Int32)) (by decide +kernel) (by decide) ?_
  refine fw_putI (kd := 0) (k := 3) (by decide +kernel) ⟨gf_X0_28, _, rfl, Or.inl rfl⟩ hr10 (mSw_I eM13 hs11) rfl ?_
  refine FW.nmM (fun M14 eM15 => ?_)
  replace h := h M14 eM15
  exact fw_ret (v := none) .return_ (by decide +kernel) ⟨rfl, rfl⟩ ⟨rfl, h⟩
def w_X0_hasStep (p0 : Nat) (p1 : Int32) (M : fM) (φ : Int32 → fM → Prop) : Prop := if p1 < (1 : Int32) then (φ (0 : Int32) M) else (isO M p0 0 ∧ if (mI M p0 0) < p1 then (φ (0 : Int32) M) else (φ (1 : Int32) M))
theorem s_X0_hasStep {g : GT} {d : Nat} (hd : 1 ≤ d) {p0 : Nat} {p1 : Int32} {M : fM} {φ : Int32 → fM → Prop} (h : w_X0_hasStep p0 p1 M φ) : FC g mtX0_hasStep d [.ref p0, .int p1] M 0 0 (rI φ) := by
  obtain ⟨d, rfl⟩ : ∃ e, d = e + 1 := ⟨d - 1, by omega⟩
  unfold w_X0_hasStep at h
  refine FC.intro (nL := 2) (by decide) rfl (by decide) ?_
  show FW g mtX0_hasStep (d + 1) 0 [(0, .ref p0), (1, .int p1)] [] M 0 0 (rI φ)
  refine fw_iload_n (i := 1) 1 rfl (by decide +kernel) ?_
  refine fw_iconst (v := (1 : Int32)) (by decide +kernel) (by decide) ?_
  refine fw_icmp_lt 17 (by decide +kernel) (by decide) (fun hc5 => ?_) (fun hc5 => ?_)
  · replace h := ipos hc5 h
    refine fw_iconst (v := (0 : Int32)) (by decide +kernel) (by decide) ?_
    exact fw_ret (v := some (.int (0 : Int32))) .ireturn (by decide +kernel) ⟨rfl, Or.inr (Or.inl ⟨rfl, rfl⟩)⟩ ⟨_, rfl, h⟩
  · replace h := ineg hc5 h
    refine fw_iload_n (i := 1) 1 rfl (by decide +kernel) ?_
    refine fw_aload_n (i := 0) 0 rfl (by decide +kernel) ?_
    obtain ⟨⟨hr2, n1, hs3⟩, h⟩ := h
    refine fw_getI (kd := 0) (k := 0) (by decide +kernel) gf_X0_9 hr2 hs3 (Or.inl rfl) ?_
    refine fw_icmp_gt 17 (by decide +kernel) (by decide) (fun hc4 => ?_) (fun hc4 => ?_)
    · replace h := ipos hc4 h
      refine fw_iconst (v := (0 : Int32)) (by decide +kernel) (by decide) ?_
      exact fw_ret (v := some (.int (0 : Int32))) .ireturn (by decide +kernel) ⟨rfl, Or.inr (Or.inl ⟨rfl, rfl⟩)⟩ ⟨_, rfl, h⟩
    · replace h := ineg hc4 h
      refine fw_iconst (v := (1 : Int32)) (by decide +kernel) (by decide) ?_
      refine fw_goto 18 (by decide +kernel) (by decide) ?_
      exact fw_ret (v := some (.int (1 : Int32))) .ireturn (by decide +kernel) ⟨rfl, Or.inr (Or.inl ⟨rfl, rfl⟩)⟩ ⟨_, rfl, h⟩
def w_X0_hasMark (p0 : Nat) (p1 : Int32) (M : fM) (φ : Int32 → fM → Prop) : Prop := isO M p0 0 ∧ w_X0_hasStep p0 p1 M fun x5 M1 => if x5 = 0 then (φ (0 : Int32) M1) else (isO M1 p0 0 ∧ if (((mI M1 p0 2) >>> (p1 &&& 31)) &&& (1 : Int32)) = (1 : Int32) then (φ (1 : Int32) M1) else (φ (0 : Int32) M1))
theorem s_X0_hasMark {g : GT} {d : Nat} (hd : 2 ≤ d) {p0 : Nat} {p1 : Int32} {M : fM} {φ : Int32 → fM → Prop} (h : w_X0_hasMark p0 p1 M φ) : FC g mtX0_hasMark d [.ref p0, .int p1] M 0 0 (rI φ) := by
  obtain ⟨d, rfl⟩ : ∃ e, d = e + 1 := ⟨d - 1, by omega⟩
  unfold w_X0_hasMark at h
  refine FC.intro (nL := 2) (by decide) rfl (by decide) ?_
  show FW g mtX0_hasMark (d + 1) 0 [(0, .ref p0), (1, .int p1)] [] M 0 0 (rI φ)
  refine fw_aload_n (i := 0) 0 rfl (by decide +kernel) ?_
  refine fw_iload_n (i := 1) 1 rfl (by decide +kernel) ?_
  obtain ⟨⟨hr3, n2, hs4⟩, h⟩ := h
  refine fw_callV (mt' := mtX0_hasStep) (mc := 0) (ms := 0) (As := [.int p1]) (rest := []) 1 0 n2 (by decide +kernel) cv_X0_31 ⟨_, rfl, rfl⟩ hr3 hs4 rfl (by decide) (s_X0_hasStep (d := d) (by omega) h) (by decide) (by decide) (kI (bc' := 0) (bs' := 0) (by decide) (by decide) (fun x5 M1 h => ?_))
  refine fw_if_eq 24 (by decide +kernel) (by decide) (fun hc10 => ?_) (fun hc10 => ?_)
  · replace h := ipos hc10 h
    refine fw_iconst (v := (0 : Int32)) (by decide +kernel) (by decide) ?_
    exact fw_ret (v := some (.int (0 : Int32))) .ireturn (by decide +kernel) ⟨rfl, Or.inr (Or.inl ⟨rfl, rfl⟩)⟩ ⟨_, rfl, h⟩
  · replace h := ineg hc10 h
    refine fw_aload_n (i := 0) 0 rfl (by decide +kernel) ?_
    obtain ⟨⟨hr7, n6, hs8⟩, h⟩ := h
    refine fw_getI (kd := 0) (k := 2) (by decide +kernel) gf_X0_25 hr7 hs8 (Or.inl rfl) ?_
    refine fw_iload_n (i := 1) 1 rfl (by decide +kernel) ?_
    refine fw_ishr (by decide +kernel) ?_
    refine fw_iconst (v := (1 : Int32)) (by decide +kernel) (by decide) ?_
    refine fw_iand (by decide +kernel) ?_
    refine fw_iconst (v := (1 : Int32)) (by decide +kernel) (by decide) ?_
    refine fw_icmp_ne 24 (by decide +kernel) (by decide) (fun hc9 => ?_) (fun hc9 => ?_)
    · replace h := ineg hc9 h
      refine fw_iconst (v := (0 : Int32)) (by decide +kernel) (by decide) ?_
      exact fw_ret (v := some (.int (0 : Int32))) .ireturn (by decide +kernel) ⟨rfl, Or.inr (Or.inl ⟨rfl, rfl⟩)⟩ ⟨_, rfl, h⟩
    · replace h := ipos hc9 h
      refine fw_iconst (v := (1 : Int32)) (by decide +kernel) (by decide) ?_
      refine fw_goto 25 (by decide +kernel) (by decide) ?_
      exact fw_ret (v := some (.int (1 : Int32))) .ireturn (by decide +kernel) ⟨rfl, Or.inr (Or.inl ⟨rfl, rfl⟩)⟩ ⟨_, rfl, h⟩
def w_X10_cell (p0 : Nat) (p1 : Int32) (M : fM) (φ : Int32 → fM → Prop) : Prop := if p1 < 0 then (φ (0 : Int32) M) else (lenA M p0 12 fun n1 => if (nI n1) ≤ p1 then (φ (0 : Int32) M) else (inA M p0 12 p1 ∧ φ (mI M p0 (ix p1)) M))
theorem s_X10_cell {g : GT} {d : Nat} (hd : 1 ≤ d) {p0 : Nat} {p1 : Int32} {M : fM} {φ : Int32 → fM → Prop} (h : w_X10_cell p0 p1 M φ) : FC g mtX10_cell d [.ref p0, .int p1] M 0 0 (rI φ) := by
  obtain ⟨d, rfl⟩ : ∃ e, d = e + 1 := ⟨d - 1, by omega⟩
  unfold w_X10_cell at h
  refine FC.intro (nL := 2) (by decide) rfl (by decide) ?_
  show FW g mtX10_cell (d + 1) 0 [(0, .ref p0), (1, .int p1)] [] M 0 0 (rI φ)
  refine fw_iload_n (i := 1) 1 rfl (by decide +kernel) ?_
  refine fw_if_lt 16 (by decide +kernel) (by decide) (fun hc7 => ?_) (fun hc7 => ?_)
  · replace h := ipos hc7 h
    refine fw_iconst (v := (0 : Int32)) (by decide +kernel) (by decide) ?_
    exact fw_ret (v := some (.int (0 : Int32))) .ireturn (by decide +kernel) ⟨rfl, Or.inl rfl⟩ ⟨_, rfl, h⟩
  · replace h := ineg hc7 h
    refine fw_iload_n (i := 1) 1 rfl (by decide +kernel) ?_
    refine fw_aload_n (i := 0) 0 rfl (by decide +kernel) ?_
    obtain ⟨n1, hs2, h⟩ := h
    refine fw_alen (by decide +kernel) hs2 (by decide) (by decide) (by decide) (by decide) ?_
    refine fw_icmp_ge 16 (by decide +kernel) (by decide) (fun hc6 => ?_) (fun hc6 => ?_)
    · replace h := ipos hc6 h
      refine fw_iconst (v := (0 : Int32)) (by decide +kernel) (by decide) ?_
      exact fw_ret (v := some (.int (0 : Int32))) .ireturn (by decide +kernel) ⟨rfl, Or.inl rfl⟩ ⟨_, rfl, h⟩
    · replace h := ineg hc6 h
      refine fw_aload_n (i := 0) 0 rfl (by decide +kernel) ?_
      refine fw_iload_n (i := 1) 1 rfl (by decide +kernel) ?_
      obtain ⟨⟨n3, hs4, hi5⟩, h⟩ := h
      refine fw_iald (by decide +kernel) hs4 hi5 ?_
      refine fw_goto 17 (by decide +kernel) (by decide) ?_
      exact fw_ret (v := some (.int (mI M p0 (ix p1)))) .ireturn (by decide +kernel) ⟨rfl, Or.inl rfl⟩ ⟨_, rfl, h⟩
def w_X0_highOf (p0 : Nat) (p1 : Int32) (M : fM) (φ : Int32 → fM → Prop) : Prop := isO M p0 0 ∧ dR (mP M p0 1) fun y4 => w_X10_cell y4 p1 M fun x7 M6 => φ x7 M6
theorem s_X0_highOf {g : GT} {d : Nat} (hd : 2 ≤ d) {p0 : Nat} {p1 : Int32} {M : fM} {φ : Int32 → fM → Prop} (h : w_X0_highOf p0 p1 M φ) : FC g mtX0_highOf d [.ref p0, .int p1] M 0 0 (rI φ) := by
  obtain ⟨d, rfl⟩ : ∃ e, d = e + 1 := ⟨d - 1, by omega⟩
  unfold w_X0_highOf at h
  refine FC.intro (nL := 2) (by decide) rfl (by decide) ?_
  show FW g mtX0_highOf (d + 1) 0 [(0, .ref p0), (1, .int p1)] [] M 0 0 (rI φ)
  refine fw_aload_n (i := 0) 0 rfl (by decide +kernel) ?_
  obtain ⟨⟨hr2, n1, hs3⟩, h⟩ := h
  refine fw_getP (kd := 0) (k := 1) (by decide +kernel) gf_X0_15 hr2 hs3 rfl ?_
  obtain ⟨y4, hy5, h⟩ := dR_e h
  refine fw_deref hy5 ?_
  refine fw_iload_n (i := 1) 1 rfl (by decide +kernel) ?_
  refine fw_callSN (mt' := mtX10_cell) (mc := 0) (ms := 0) (As := [.ref y4, .int p1]) (rest := []) 2 "OneStepMore" (by decide +kernel) ns_X0_35 rfl (by decide) (s_X10_cell (d := d) (by omega) h) (by decide) (by decide) (kI (bc' := 0) (bs' := 0) (by decide) (by decide) (fun x7 M6 h => ?_))
  exact fw_ret (v := some (.int x7)) .ireturn (by decide +kernel) ⟨rfl, Or.inl rfl⟩ ⟨_, rfl, h⟩
def w_X0_init (p0 : Nat) (M : fM) (φ : fM → Prop) : Prop := isO M p0 0 ∧ st (wI M p0 0 (12 : Int32)) fun M4 => nw M4 12 (ix (15 : Int32)) fun q6 M8 => st (wP M8 p0 1 (some q6)) fun M10 => dR (mP M10 p0 1) fun y12 => w_J7_fill_53178 y12 (5 : Int32) M10 fun M14 => φ M14
theorem s_X0_init {g : GT} {d : Nat} (hd : 2 ≤ d) {p0 : Nat} {M : fM} {φ : fM → Prop} (h : w_X0_init p0 M φ) : FC g mtX0_init d [.ref p0] M 1 15 (rV φ) := by
  obtain ⟨d, rfl⟩ : ∃ e, d = e + 1 := ⟨d - 1, by omega⟩
  unfold w_X0_init at h
  refine FC.intro (nL := 1) (by decide) rfl (by decide) ?_
  show FW g mtX0_init (d + 1) 0 [(0, .ref p0)] [] M 1 15 (rV φ)
  refine fw_aload_n (i := 0) 0 rfl (by decide +kernel) ?_
  refine fw_objInit (idx := 3) (rest := []) (by decide +kernel) ⟨wd194, wd155, wd156⟩ (by decide) ?_
  refine fw_aload_n (i := 0) 0 rfl (by decide +kernel) ?_
  refine fw_bipush (v := (12 : Int32)) (by decide +kernel) (by decide) ?_
  obtain ⟨⟨hr2, n1, hs3⟩, h⟩ := h
  refine fw_putI (kd := 0) (k := 0) (by decide +kernel) ⟨gf_X0_9, _, rfl, Or.inl rfl⟩ hr2 hs3 rfl ?_
  refine FW.nmM (fun M4 eM5 => ?_)
  replace h := h M4 eM5
  refine fw_aload_n (i := 0) 0 rfl (by decide +kernel) ?_
  refine fw_bipush (v := (15 : Int32)) (by decide +kernel) (by decide) ?_
  refine fw_newa 12 (by decide +kernel) (by decide) (by decide) (by decide) (by decide) (by decide) wd179 ?_
  refine FW.room (bc' := 0) (bs' := 0) (by decide) (by decide) ?_
  refine FW.nmN (fun q6 eq7 => ?_)
  refine FW.nmM (fun M8 eM9 => ?_)
  replace h := h q6 M8 eq7 eM9
  refine fw_putP (x := (some q6)) (kd := 0) (k := 1) (by decide +kernel) ⟨gf_X0_15, _, rfl, Or.inr ⟨rfl, rfl, rfl⟩⟩ hr2 (mSw_N eM9 (mSw_I eM5 hs3)) rfl ?_
  refine FW.nmM (fun M10 eM11 => ?_)
  replace h := h M10 eM11
  refine fw_aload_n (i := 0) 0 rfl (by decide +kernel) ?_
  refine fw_getP (kd := 0) (k := 1) (by decide +kernel) gf_X0_15 hr2 (mSw_P eM11 (mSw_N eM9 (mSw_I eM5 hs3))) rfl ?_
  obtain ⟨y12, hy13, h⟩ := dR_e h
  refine fw_deref hy13 ?_
  refine fw_iconst (v := (5 : Int32)) (by decide +kernel) (by decide) ?_
  refine fw_callS (mt' := mtJ7_fill_53178) (mc := 0) (ms := 0) (As := [.ref y12, .int (5 : Int32)]) (rest := []) 2 (by decide +kernel) cs_X0_19 rfl (by decide) (s_J7_fill_53178 (d := d) (by omega) h) (by decide) (by decide) (kV (bc' := 0) (bs' := 0) (by decide) (by decide) (fun M14 h => ?_))
  exact fw_ret (v := none) .return_ (by decide +kernel) ⟨rfl, rfl⟩ ⟨rfl, h⟩
def w_X5_houseOf (p0 : Nat) (p1 : Int32) (M : fM) (φ : Option Nat → fM → Prop) : Prop := if p1 < 0 then (φ none M) else (isO M p0 5 ∧ dR (mP M p0 0) fun y4 => lenA M y4 15 fun n6 => if (nI n6) ≤ p1 then (φ none M) else (dR (mP M p0 0) fun y8 => inA M y8 15 p1 ∧ dR (mP M y8 (ix p1)) fun y13 => φ (some y13) M))
theorem s_X5_houseOf {g : GT} {d : Nat} (hd : 1 ≤ d) {p0 : Nat} {p1 : Int32} {M : fM} {φ : Option Nat → fM → Prop} (h : w_X5_houseOf p0 p1 M φ) : FC g mtX5_houseOf d [.ref p0, .int p1] M 0 0 (rP φ) := by
  obtain ⟨d, rfl⟩ : ∃ e, d = e + 1 := ⟨d - 1, by omega⟩
  unfold w_X5_houseOf at h
  refine FC.intro (nL := 2) (by decide) rfl (by decide) ?_
  show FW g mtX5_houseOf (d + 1) 0 [(0, .ref p0), (1, .int p1)] [] M 0 0 (rP φ)
  refine fw_iload_n (i := 1) 1 rfl (by decide +kernel) ?_
  refine fw_if_lt 22 (by decide +kernel) (by decide) (fun hc16 => ?_) (fun hc16 => ?_)
  · replace h := ipos hc16 h
    refine fw_nullq (by decide +kernel) ?_
    exact fw_retq (x := none) (by decide +kernel) ⟨_, rfl, Or.inl ⟨_, rfl⟩⟩ ⟨_, rfl, h⟩
  · replace h := ineg hc16 h
    refine fw_iload_n (i := 1) 1 rfl (by decide +kernel) ?_
    refine fw_aload_n (i := 0) 0 rfl (by decide +kernel) ?_
    obtain ⟨⟨hr2, n1, hs3⟩, h⟩ := h
    refine fw_getP (kd := 5) (k := 0) (by decide +kernel) gf_X5_11 hr2 hs3 rfl ?_
    obtain ⟨y4, hy5, h⟩ := dR_e h
    refine fw_deref hy5 ?_
    obtain ⟨n6, hs7, h⟩ := h
    refine fw_alen (by decide +kernel) hs7 (by decide) (by decide) (by decide) (by decide) ?_
    refine fw_icmp_ge 22 (by decide +kernel) (by decide) (fun hc15 => ?_) (fun hc15 => ?_)
    · replace h := ipos hc15 h
      refine fw_nullq (by decide +kernel) ?_
      exact fw_retq (x := none) (by decide +kernel) ⟨_, rfl, Or.inl ⟨_, rfl⟩⟩ ⟨_, rfl, h⟩
    · replace h := ineg hc15 h
      refine fw_aload_n (i := 0) 0 rfl (by decide +kernel) ?_
      refine fw_getP (kd := 5) (k := 0) (by decide +kernel) gf_X5_11 hr2 hs3 rfl ?_
      obtain ⟨y8, hy9, h⟩ := dR_e h
      refine fw_deref hy9 ?_
      refine fw_iload_n (i := 1) 1 rfl (by decide +kernel) ?_
      obtain ⟨⟨n10, hs11, hi12⟩, h⟩ := h
      refine fw_aald (kd := 15) (by decide +kernel) (by decide) hs11 hi12 ?_
      obtain ⟨y13, hy14, h⟩ := dR_e h
      refine fw_deref hy14 ?_
      refine fw_goto 23 (by decide +kernel) (by decide) ?_
      exact fw_retq (x := (some y13)) (by decide +kernel) ⟨_, rfl, Or.inl ⟨_, rfl⟩⟩ ⟨_, rfl, h⟩
def b_X5_toldHouses_4 (K4 : Nat → Int32 → Int32 → fM → Prop) (φ : Int32 → fM → Prop) (p0 : Nat) (p1 : Int32) (p2 : Int32) (M : fM) : Prop := if (4 : Int32) ≤ p2 then (φ p1 M) else (isO M p0 5 ∧ w_X5_houseOf p0 p2 M fun o5 M1 => gN o5 (fun y6 => isO M1 y6 0 ∧ if (mI M1 y6 4) = 0 then (nm (p2 + (1 : Int32)) fun x11 => K4 p0 p1 x11 M1) else (nm (p1 ||| ((1 : Int32) <<< (p2 &&& 31))) fun x13 => nm (p2 + (1 : Int32)) fun x15 => K4 p0 x13 x15 M1)) (nm (p2 + (1 : Int32)) fun x18 => K4 p0 p1 x18 M1))
def l_X5_toldHouses_4 (φ : Int32 → fM → Prop) : Nat → Nat → Int32 → Int32 → fM → Prop
  | 0, _, _, _, _ => False
  | n + 1, p0, p1, p2, M => b_X5_toldHouses_4 (l_X5_toldHouses_4 φ n) φ p0 p1 p2 M
theorem sb_X5_toldHouses_4 {g : GT} {d : Nat} (hd : 2 ≤ d + 1) {K4 : Nat → Int32 → Int32 → fM → Prop} {φ : Int32 → fM → Prop} (hK4 : ∀ (p0 : Nat) (p1 : Int32) (p2 : Int32) (M : fM), K4 p0 p1 p2 M → FW g mtX5_toldHouses (d + 1) 4 [(0, .ref p0), (1, .int p1), (2, .int p2)] [] M 0 0 (rI φ)) {p0 : Nat} {p1 : Int32} {p2 : Int32} {M : fM} (h : b_X5_toldHouses_4 K4 φ p0 p1 p2 M) : FW g mtX5_toldHouses (d + 1) 4 [(0, .ref p0), (1, .int p1), (2, .int p2)] [] M 0 0 (rI φ) := by
  unfold b_X5_toldHouses_4 at h
  refine fw_iload_n (i := 2) 2 rfl (by decide +kernel) ?_
  refine fw_iconst (v := (4 : Int32)) (by decide +kernel) (by decide) ?_
  refine fw_icmp_ge 38 (by decide +kernel) (by decide) (fun hc20 => ?_) (fun hc20 => ?_)
  · replace h := ipos hc20 h
    refine fw_iload_n (i := 1) 1 rfl (by decide +kernel) ?_
    exact fw_ret (v := some (.int p1)) .ireturn (by decide +kernel) ⟨rfl, Or.inl rfl⟩ ⟨_, rfl, h⟩
  · replace h := ineg hc20 h
    refine fw_aload_n (i := 0) 0 rfl (by decide +kernel) ?_
    refine fw_iload_n (i := 2) 2 rfl (by decide +kernel) ?_
    obtain ⟨⟨hr3, n2, hs4⟩, h⟩ := h
    refine fw_callV (mt' := mtX5_houseOf) (mc := 0) (ms := 0) (As := [.int p2]) (rest := []) 1 5 n2 (by decide +kernel) cv_X5_59 ⟨_, rfl, rfl⟩ hr3 hs4 rfl (by decide) (s_X5_houseOf (d := d) (by omega) h) (by decide) (by decide) (kP (bc' := 0) (bs' := 0) (by decide) (by decide) (fun o5 M1 h => ?_))
    refine fw_astoreq_n (i := 3) (ls' := [(3, fr o5), (0, .ref p0), (1, .int p1), (2, .int p2)]) (by decide +kernel) (by decide) rfl ?_
    refine fw_aloadq_n (i := 3) 0 rfl (by decide +kernel) ?_
    refine fw_ifnull (x := o5) 32 (by decide +kernel) (by decide) (fun hy7 => ?_) (fun y6 hy7 => ?_)
    · replace h := gN_n hy7 h
      subst hy7
      obtain ⟨x18, ex19⟩ : ∃ y : Int32, y = p2 + (1 : Int32) := ⟨_, rfl⟩
      replace h := h x18 ex19
      refine fw_iinc (i := 2) (x := p2) (v := x18) (ls' := [(2, .int x18), (3, fr none), (0, .ref p0), (1, .int p1)]) 3 rfl (by decide +kernel) (by rw [ex19]; rfl) (by decide) rfl ?_
      refine fw_goto 4 (by decide +kernel) (by decide) ?_
      refine FW.sub [2, 3, 0] (ls' := [(0, .ref p0), (1, .int p1), (2, .int x18)]) rfl ?_
      exact hK4 _ _ _ _ h
    · replace h := gN_s hy7 h
      subst hy7
      refine fw_aload_n (i := 3) 0 rfl (by decide +kernel) ?_
      obtain ⟨⟨hr9, n8, hs10⟩, h⟩ := h
      refine fw_getI (kd := 0) (k := 4) (by decide +kernel) gf_X5_71 hr9 hs10 (Or.inr rfl) ?_
      refine fw_if_eq 32 (by decide +kernel) (by decide) (fun hc17 => ?_) (fun hc17 => ?_)
      · replace h := ipos hc17 h
        obtain ⟨x11, ex12⟩ : ∃ y : Int32, y = p2 + (1 : Int32) := ⟨_, rfl⟩
        replace h := h x11 ex12
        refine fw_iinc (i := 2) (x := p2) (v := x11) (ls' := [(2, .int x11), (3, .ref y6), (0, .ref p0), (1, .int p1)]) 3 rfl (by decide +kernel) (by rw [ex12]; rfl) (by decide) rfl ?_
        refine fw_goto 4 (by decide +kernel) (by decide) ?_
        refine FW.sub [2, 3, 0] (ls' := [(0, .ref p0), (1, .int p1), (2, .int x11)]) rfl ?_
        exact hK4 _ _ _ _ h
      · replace h := ineg hc17 h
        refine fw_iload_n (i := 1) 2 rfl (by decide +kernel) ?_
        refine fw_iconst (v := (1 : Int32)) (by decide +kernel) (by decide) ?_
        refine fw_iload_n (i := 2) 3 rfl (by decide +kernel) ?_
        refine fw_ishl (by decide +kernel) ?_
        refine fw_ior (by decide +kernel) ?_
        refine fw_nmI (fun x13 ex14 => ?_)
        replace h := h x13 ex14
        refine fw_istore_n (i := 1) (ls' := [(1, .int x13), (3, .ref y6), (0, .ref p0), (2, .int p2)]) (by decide +kernel) (by decide) rfl ?_
        obtain ⟨x15, ex16⟩ : ∃ y : Int32, y = p2 + (1 : Int32) := ⟨_, rfl⟩
        replace h := h x15 ex16
        refine fw_iinc (i := 2) (x := p2) (v := x15) (ls' := [(2, .int x15), (1, .int x13), (3, .ref y6), (0, .ref p0)]) 3 rfl (by decide +kernel) (by rw [ex16]; rfl) (by decide) rfl ?_
        refine fw_goto 4 (by decide +kernel) (by decide) ?_
        refine FW.sub [3, 1, 0] (ls' := [(0, .ref p0), (1, .int x13), (2, .int x15)]) rfl ?_
        exact hK4 _ _ _ _ h
theorem sl_X5_toldHouses_4 {g : GT} {d : Nat} (hd : 2 ≤ d + 1) {φ : Int32 → fM → Prop} : ∀ (n : Nat) {p0 : Nat} {p1 : Int32} {p2 : Int32} {M : fM}, l_X5_toldHouses_4 φ n p0 p1 p2 M → FW g mtX5_toldHouses (d + 1) 4 [(0, .ref p0), (1, .int p1), (2, .int p2)] [] M 0 0 (rI φ)
  | 0 => fun h => h.elim
  | n + 1 => fun h => sb_X5_toldHouses_4 hd (fun _ _ _ _ h => sl_X5_toldHouses_4 hd n h) h
def w_X5_toldHouses (p0 : Nat) (M : fM) (φ : Int32 → fM → Prop) : Prop := ∃ n, l_X5_toldHouses_4 φ n p0 (0 : Int32) (0 : Int32) M
theorem s_X5_toldHouses {g : GT} {d : Nat} (hd : 2 ≤ d) {p0 : Nat} {M : fM} {φ : Int32 → fM → Prop} (h : w_X5_toldHouses p0 M φ) : FC g mtX5_toldHouses d [.ref p0] M 0 0 (rI φ) := by
  obtain ⟨d, rfl⟩ : ∃ e, d = e + 1 := ⟨d - 1, by omega⟩
  unfold w_X5_toldHouses at h
  refine FC.intro (nL := 4) (by decide) rfl (by decide) ?_
  show FW g mtX5_toldHouses (d + 1) 0 [(0, .ref p0)] [] M 0 0 (rI φ)
  refine fw_iconst (v := (0 : Int32)) (by decide +kernel) (by decide) ?_
  refine fw_istore_n (i := 1) (ls' := [(1, .int (0 : Int32)), (0, .ref p0)]) (by decide +kernel) (by decide) rfl ?_
  refine fw_iconst (v := (0 : Int32)) (by decide +kernel) (by decide) ?_
  refine fw_istore_n (i := 2) (ls' := [(2, .int (0 : Int32)), (1, .int (0 : Int32)), (0, .ref p0)]) (by decide +kernel) (by decide) rfl ?_
  refine FW.sub [2, 1, 0] (ls' := [(0, .ref p0), (1, .int (0 : Int32)), (2, .int (0 : Int32))]) rfl ?_
  obtain ⟨nn, h⟩ := h
  exact sl_X5_toldHouses_4 hd nn h
def w_X5_isPerson (p0 : Nat) (p1 : Int32) (M : fM) (φ : Int32 → fM → Prop) : Prop := if p1 < 0 then (φ (0 : Int32) M) else (isO M p0 5 ∧ if (mI M p0 4) ≤ p1 then (φ (0 : Int32) M) else (φ (1 : Int32) M))
theorem s_X5_isPerson {g : GT} {d : Nat} (hd : 1 ≤ d) {p0 : Nat} {p1 : Int32} {M : fM} {φ : Int32 → fM → Prop} (h : w_X5_isPerson p0 p1 M φ) : FC g mtX5_isPerson d [.ref p0, .int p1] M 0 0 (rI φ) := by
  obtain ⟨d, rfl⟩ : ∃ e, d = e + 1 := ⟨d - 1, by omega⟩
  unfold w_X5_isPerson at h
  refine FC.intro (nL := 2) (by decide) rfl (by decide) ?_
  show FW g mtX5_isPerson (d + 1) 0 [(0, .ref p0), (1, .int p1)] [] M 0 0 (rI φ)
  refine fw_iload_n (i := 1) 1 rfl (by decide +kernel) ?_
  refine fw_if_lt 16 (by decide +kernel) (by decide) (fun hc5 => ?_) (fun hc5 => ?_)
  · replace h := ipos hc5 h
    refine fw_iconst (v := (0 : Int32)) (by decide +kernel) (by decide) ?_
    exact fw_ret (v := some (.int (0 : Int32))) .ireturn (by decide +kernel) ⟨rfl, Or.inr (Or.inl ⟨rfl, rfl⟩)⟩ ⟨_, rfl, h⟩
  · replace h := ineg hc5 h
    refine fw_iload_n (i := 1) 1 rfl (by decide +kernel) ?_
    refine fw_aload_n (i := 0) 0 rfl (by decide +kernel) ?_
    obtain ⟨⟨hr2, n1, hs3⟩, h⟩ := h
    refine fw_getI (kd := 5) (k := 4) (by decide +kernel) gf_X5_53 hr2 hs3 (Or.inl rfl) ?_
    refine fw_icmp_ge 16 (by decide +kernel) (by decide) (fun hc4 => ?_) (fun hc4 => ?_)
    · replace h := ipos hc4 h
      refine fw_iconst (v := (0 : Int32)) (by decide +kernel) (by decide) ?_
      exact fw_ret (v := some (.int (0 : Int32))) .ireturn (by decide +kernel) ⟨rfl, Or.inr (Or.inl ⟨rfl, rfl⟩)⟩ ⟨_, rfl, h⟩
    · replace h := ineg hc4 h
      refine fw_iconst (v := (1 : Int32)) (by decide +kernel) (by decide) ?_
      refine fw_goto 17 (by decide +kernel) (by decide) ?_
      exact fw_ret (v := some (.int (1 : Int32))) .ireturn (by decide +kernel) ⟨rfl, Or.inr (Or.inl ⟨rfl, rfl⟩)⟩ ⟨_, rfl, h⟩
def w_X5_aboutPerson (p0 : Nat) (p1 : Int32) (M : fM) (φ : Int32 → fM → Prop) : Prop := nm (p1 / (10 : Int32)) fun x1 => nm (p1 % (10 : Int32)) fun x3 => isO M p0 5 ∧ w_X5_isPerson p0 x3 M fun x9 M5 => if x9 = 0 then (φ (-2 : Int32) M5) else (if x1 = (1 : Int32) then (isO M5 p0 5 ∧ dR (mP M5 p0 1) fun y13 => w_X10_cell y13 x3 M5 fun x16 M15 => φ x16 M15) else (if x1 = (2 : Int32) then (isO M5 p0 5 ∧ dR (mP M5 p0 2) fun y21 => w_X10_cell y21 x3 M5 fun x24 M23 => φ x24 M23) else (if x1 = (3 : Int32) then (isO M5 p0 5 ∧ dR (mP M5 p0 3) fun y29 => w_X10_cell y29 x3 M5 fun x32 M31 => φ x32 M31) else (φ (-2 : Int32) M5))))
theorem s_X5_aboutPerson {g : GT} {d : Nat} (hd : 2 ≤ d) {p0 : Nat} {p1 : Int32} {M : fM} {φ : Int32 → fM → Prop} (h : w_X5_aboutPerson p0 p1 M φ) : FC g mtX5_aboutPerson d [.ref p0, .int p1] M 0 0 (rI φ) := by
  obtain ⟨d, rfl⟩ : ∃ e, d = e + 1 := ⟨d - 1, by omega⟩
  unfold w_X5_aboutPerson at h
  refine FC.intro (nL := 4) (by decide) rfl (by decide) ?_
  show FW g mtX5_aboutPerson (d + 1) 0 [(0, .ref p0), (1, .int p1)] [] M 0 0 (rI φ)
  refine fw_iload_n (i := 1) 1 rfl (by decide +kernel) ?_
  refine fw_bipush (v := (10 : Int32)) (by decide +kernel) (by decide) ?_
  refine fw_idiv (by decide +kernel) (by decide) ?_
  refine fw_nmI (fun x1 ex2 => ?_)
  replace h := h x1 ex2
  refine fw_istore_n (i := 2) (ls' := [(2, .int x1), (0, .ref p0), (1, .int p1)]) (by decide +kernel) (by decide) rfl ?_
  refine fw_iload_n (i := 1) 2 rfl (by decide +kernel) ?_
  refine fw_bipush (v := (10 : Int32)) (by decide +kernel) (by decide) ?_
  refine fw_irem (by decide +kernel) (by decide) ?_
  refine fw_nmI (fun x3 ex4 => ?_)
  replace h := h x3 ex4
  refine fw_istore_n (i := 3) (ls' := [(3, .int x3), (2, .int x1), (0, .ref p0), (1, .int p1)]) (by decide +kernel) (by decide) rfl ?_
  refine fw_aload_n (i := 0) 2 rfl (by decide +kernel) ?_
  refine fw_iload_n (i := 3) 0 rfl (by decide +kernel) ?_
  obtain ⟨⟨hr7, n6, hs8⟩, h⟩ := h
  refine fw_callV (mt' := mtX5_isPerson) (mc := 0) (ms := 0) (As := [.int x3]) (rest := []) 1 5 n6 (by decide +kernel) cv_X5_99 ⟨_, rfl, rfl⟩ hr7 hs8 rfl (by decide) (s_X5_isPerson (d := d) (by omega) h) (by decide) (by decide) (kI (bc' := 0) (bs' := 0) (by decide) (by decide) (fun x9 M5 h => ?_))
  refine fw_if_ne 21 (by decide +kernel) (by decide) (fun hc36 => ?_) (fun hc36 => ?_)
  · replace h := ineg hc36 h
    refine fw_iload_n (i := 2) 1 rfl (by decide +kernel) ?_
    by_cases hc17 : x1 = (1 : Int32)
    · replace h := ipos hc17 h
      refine fw_tin (off := 26) 48 (by decide +kernel) (by rw [hc17]; decide) (by rw [hc17]; decide) (by rw [hc17]; rfl) (by decide) ?_
      refine fw_aload_n (i := 0) 2 rfl (by decide +kernel) ?_
      obtain ⟨⟨hr11, n10, hs12⟩, h⟩ := h
      refine fw_getP (kd := 5) (k := 1) (by decide +kernel) gf_X5_17 hr11 hs12 rfl ?_
      obtain ⟨y13, hy14, h⟩ := dR_e h
      refine fw_deref hy14 ?_
      refine fw_iload_n (i := 3) 0 rfl (by decide +kernel) ?_
      refine fw_callSN (mt' := mtX10_cell) (mc := 0) (ms := 0) (As := [.ref y13, .int x3]) (rest := []) 2 "OneStepMore" (by decide +kernel) ns_X5_102 rfl (by decide) (s_X10_cell (d := d) (by omega) h) (by decide) (by decide) (kI (bc' := 0) (bs' := 0) (by decide) (by decide) (fun x16 M15 h => ?_))
      exact fw_ret (v := some (.int x16)) .ireturn (by decide +kernel) ⟨rfl, Or.inl rfl⟩ ⟨_, rfl, h⟩
    replace h := ineg hc17 h
    by_cases hc25 : x1 = (2 : Int32)
    · replace h := ipos hc25 h
      refine fw_tin (off := 35) 57 (by decide +kernel) (by rw [hc25]; decide) (by rw [hc25]; decide) (by rw [hc25]; rfl) (by decide) ?_
      refine fw_aload_n (i := 0) 2 rfl (by decide +kernel) ?_
      obtain ⟨⟨hr19, n18, hs20⟩, h⟩ := h
      refine fw_getP (kd := 5) (k := 2) (by decide +kernel) gf_X5_21 hr19 hs20 rfl ?_
      obtain ⟨y21, hy22, h⟩ := dR_e h
      refine fw_deref hy22 ?_
      refine fw_iload_n (i := 3) 0 rfl (by decide +kernel) ?_
      refine fw_callSN (mt' := mtX10_cell) (mc := 0) (ms := 0) (As := [.ref y21, .int x3]) (rest := []) 2 "OneStepMore" (by decide +kernel) ns_X5_102 rfl (by decide) (s_X10_cell (d := d) (by omega) h) (by decide) (by decide) (kI (bc' := 0) (bs' := 0) (by decide) (by decide) (fun x24 M23 h => ?_))
      exact fw_ret (v := some (.int x24)) .ireturn (by decide +kernel) ⟨rfl, Or.inl rfl⟩ ⟨_, rfl, h⟩
    replace h := ineg hc25 h
    by_cases hc33 : x1 = (3 : Int32)
    · replace h := ipos hc33 h
      refine fw_tin (off := 44) 66 (by decide +kernel) (by rw [hc33]; decide) (by rw [hc33]; decide) (by rw [hc33]; rfl) (by decide) ?_
      refine fw_aload_n (i := 0) 2 rfl (by decide +kernel) ?_
      obtain ⟨⟨hr27, n26, hs28⟩, h⟩ := h
      refine fw_getP (kd := 5) (k := 3) (by decide +kernel) gf_X5_24 hr27 hs28 rfl ?_
      obtain ⟨y29, hy30, h⟩ := dR_e h
      refine fw_deref hy30 ?_
      refine fw_iload_n (i := 3) 0 rfl (by decide +kernel) ?_
      refine fw_callSN (mt' := mtX10_cell) (mc := 0) (ms := 0) (As := [.ref y29, .int x3]) (rest := []) 2 "OneStepMore" (by decide +kernel) ns_X5_102 rfl (by decide) (s_X10_cell (d := d) (by omega) h) (by decide) (by decide) (kI (bc' := 0) (bs' := 0) (by decide) (by decide) (fun x32 M31 h => ?_))
      exact fw_ret (v := some (.int x32)) .ireturn (by decide +kernel) ⟨rfl, Or.inl rfl⟩ ⟨_, rfl, h⟩
    replace h := ineg hc33 h
    by_cases ho34 : Int32.toInt x1 < 1 ∨ 3 < Int32.toInt x1
    · refine fw_tout 75 (by decide +kernel) ho34 (by decide) ?_
      refine fw_bipush (v := (-2 : Int32)) (by decide +kernel) (by decide) ?_
      exact fw_ret (v := some (.int (-2 : Int32))) .ireturn (by decide +kernel) ⟨rfl, Or.inl rfl⟩ ⟨_, rfl, h⟩
    have e35 : Int32.toInt x1 = 1 ∨ Int32.toInt x1 = 2 ∨ Int32.toInt x1 = 3 := by omega
    rcases e35 with e35 | e35 | e35
    · exact absurd (Int32.toInt_inj.mp (Eq.trans e35 rfl)) hc17
    · exact absurd (Int32.toInt_inj.mp (Eq.trans e35 rfl)) hc25
    · exact absurd (Int32.toInt_inj.mp (Eq.trans e35 rfl)) hc33
  · replace h := ipos hc36 h
    refine fw_bipush (v := (-2 : Int32)) (by decide +kernel) (by decide) ?_
    exact fw_ret (v := some (.int (-2 : Int32))) .ireturn (by decide +kernel) ⟨rfl, Or.inl rfl⟩ ⟨_, rfl, h⟩
def w_X10_about (p0 : Nat) (p1 : Int32) (M : fM) (φ : Int32 → fM → Prop) : Prop := if p1 = (0 : Int32) then (isO M p0 10 ∧ dR (mP M p0 0) fun y4 => isO M y4 5 ∧ φ (mI M y4 4) M) else (if p1 = (1 : Int32) then (isO M p0 10 ∧ dR (mP M p0 0) fun y13 => isO M y13 5 ∧ φ (mI M y13 6) M) else (if p1 = (2 : Int32) then (isO M p0 10 ∧ dR (mP M p0 0) fun y22 => isO M y22 5 ∧ φ (mI M y22 5) M) else (if p1 = (3 : Int32) then (isO M p0 10 ∧ dR (mP M p0 0) fun y31 => isO M y31 5 ∧ φ (mI M y31 14) M) else (if p1 = (4 : Int32) then (isO M p0 10 ∧ dR (mP M p0 0) fun y40 => isO M y40 5 ∧ φ (mI M y40 15) M) else (if p1 = (5 : Int32) then (isO M p0 10 ∧ dR (mP M p0 0) fun y49 => isO M y49 5 ∧ φ (mI M y49 11) M) else (if p1 = (6 : Int32) then (isO M p0 10 ∧ dR (mP M p0 0) fun y58 => isO M y58 5 ∧ φ (mI M y58 17) M) else (if p1 = (7 : Int32) then (isO M p0 10 ∧ dR (mP M p0 0) fun y67 => isO M y67 5 ∧ w_X5_toldHouses y67 M fun x73 M69 => φ x73 M69) else (if p1 = (8 : Int32) then (isO M p0 10 ∧ dR (mP M p0 2) fun y78 => isO M y78 7 ∧ φ (mI M y78 1) M) else (isO M p0 10 ∧ dR (mP M p0 0) fun y87 => isO M y87 5 ∧ w_X5_aboutPerson y87 p1 M fun x93 M89 => φ x93 M89)))))))))
theorem s_X10_about {g : GT} {d : Nat} (hd : 3 ≤ d) {p0 : Nat} {p1 : Int32} {M : fM} {φ : Int32 → fM → Prop} (h : w_X10_about p0 p1 M φ) : FC g mtX10_about d [.ref p0, .int p1] M 0 0 (rI φ) := by
  obtain ⟨d, rfl⟩ : ∃ e, d = e + 1 := ⟨d - 1, by omega⟩
  unfold w_X10_about at h
  refine FC.intro (nL := 2) (by decide) rfl (by decide) ?_
  show FW g mtX10_about (d + 1) 0 [(0, .ref p0), (1, .int p1)] [] M 0 0 (rI φ)
  refine fw_iload_n (i := 1) 1 rfl (by decide +kernel) ?_
  by_cases hc9 : p1 = (0 : Int32)
  · replace h := ipos hc9 h
    refine fw_tin (off := 51) 52 (by decide +kernel) (by rw [hc9]; decide) (by rw [hc9]; decide) (by rw [hc9]; rfl) (by decide) ?_
    refine fw_aload_n (i := 0) 0 rfl (by decide +kernel) ?_
    obtain ⟨⟨hr2, n1, hs3⟩, h⟩ := h
    refine fw_getP (kd := 10) (k := 0) (by decide +kernel) gf_X10_13 hr2 hs3 rfl ?_
    obtain ⟨y4, hy5, h⟩ := dR_e h
    refine fw_deref hy5 ?_
    obtain ⟨⟨hr7, n6, hs8⟩, h⟩ := h
    refine fw_getI (kd := 5) (k := 4) (by decide +kernel) gf_X10_156 hr7 hs8 (Or.inl rfl) ?_
    exact fw_ret (v := some (.int (mI M y4 4))) .ireturn (by decide +kernel) ⟨rfl, Or.inl rfl⟩ ⟨_, rfl, h⟩
  replace h := ineg hc9 h
  by_cases hc18 : p1 = (1 : Int32)
  · replace h := ipos hc18 h
    refine fw_tin (off := 59) 60 (by decide +kernel) (by rw [hc18]; decide) (by rw [hc18]; decide) (by rw [hc18]; rfl) (by decide) ?_
    refine fw_aload_n (i := 0) 0 rfl (by decide +kernel) ?_
    obtain ⟨⟨hr11, n10, hs12⟩, h⟩ := h
    refine fw_getP (kd := 10) (k := 0) (by decide +kernel) gf_X10_13 hr11 hs12 rfl ?_
    obtain ⟨y13, hy14, h⟩ := dR_e h
    refine fw_deref hy14 ?_
    obtain ⟨⟨hr16, n15, hs17⟩, h⟩ := h
    refine fw_getI (kd := 5) (k := 6) (by decide +kernel) gf_X10_147 hr16 hs17 (Or.inl rfl) ?_
    exact fw_ret (v := some (.int (mI M y13 6))) .ireturn (by decide +kernel) ⟨rfl, Or.inl rfl⟩ ⟨_, rfl, h⟩
  replace h := ineg hc18 h
  by_cases hc27 : p1 = (2 : Int32)
  · replace h := ipos hc27 h
    refine fw_tin (off := 67) 68 (by decide +kernel) (by rw [hc27]; decide) (by rw [hc27]; decide) (by rw [hc27]; rfl) (by decide) ?_
    refine fw_aload_n (i := 0) 0 rfl (by decide +kernel) ?_
    obtain ⟨⟨hr20, n19, hs21⟩, h⟩ := h
    refine fw_getP (kd := 10) (k := 0) (by decide +kernel) gf_X10_13 hr20 hs21 rfl ?_
    obtain ⟨y22, hy23, h⟩ := dR_e h
    refine fw_deref hy23 ?_
    obtain ⟨⟨hr25, n24, hs26⟩, h⟩ := h
    refine fw_getI (kd := 5) (k := 5) (by decide +kernel) gf_X10_95 hr25 hs26 (Or.inl rfl) ?_
    exact fw_ret (v := some (.int (mI M y22 5))) .ireturn (by decide +kernel) ⟨rfl, Or.inl rfl⟩ ⟨_, rfl, h⟩
  replace h := ineg hc27 h
  by_cases hc36 : p1 = (3 : Int32)
  · replace h := ipos hc36 h
    refine fw_tin (off := 75) 76 (by decide +kernel) (by rw [hc36]; decide) (by rw [hc36]; decide) (by rw [hc36]; rfl) (by decide) ?_
    refine fw_aload_n (i := 0) 0 rfl (by decide +kernel) ?_
    obtain ⟨⟨hr29, n28, hs30⟩, h⟩ := h
    refine fw_getP (kd := 10) (k := 0) (by decide +kernel) gf_X10_13 hr29 hs30 rfl ?_
    obtain ⟨y31, hy32, h⟩ := dR_e h
    refine fw_deref hy32 ?_
    obtain ⟨⟨hr34, n33, hs35⟩, h⟩ := h
    refine fw_getI (kd := 5) (k := 14) (by decide +kernel) gf_X10_110 hr34 hs35 (Or.inl rfl) ?_
    exact fw_ret (v := some (.int (mI M y31 14))) .ireturn (by decide +kernel) ⟨rfl, Or.inl rfl⟩ ⟨_, rfl, h⟩
  replace h := ineg hc36 h
  by_cases hc45 : p1 = (4 : Int32)
  · replace h := ipos hc45 h
    refine fw_tin (off := 83) 84 (by decide +kernel) (by rw [hc45]; decide) (by rw [hc45]; decide) (by rw [hc45]; rfl) (by decide) ?_
    refine fw_aload_n (i := 0) 0 rfl (by decide +kernel) ?_
    obtain ⟨⟨hr38, n37, hs39⟩, h⟩ := h
    refine fw_getP (kd := 10) (k := 0) (by decide +kernel) gf_X10_13 hr38 hs39 rfl ?_
    obtain ⟨y40, hy41, h⟩ := dR_e h
    refine fw_deref hy41 ?_
    obtain ⟨⟨hr43, n42, hs44⟩, h⟩ := h
    refine fw_getI (kd := 5) (k := 15) (by decide +kernel) gf_X10_131 hr43 hs44 (Or.inl rfl) ?_
    exact fw_ret (v := some (.int (mI M y40 15))) .ireturn (by decide +kernel) ⟨rfl, Or.inl rfl⟩ ⟨_, rfl, h⟩
  replace h := ineg hc45 h
  by_cases hc54 : p1 = (5 : Int32)
  · replace h := ipos hc54 h
    refine fw_tin (off := 91) 92 (by decide +kernel) (by rw [hc54]; decide) (by rw [hc54]; decide) (by rw [hc54]; rfl) (by decide) ?_
    refine fw_aload_n (i := 0) 0 rfl (by decide +kernel) ?_
    obtain ⟨⟨hr47, n46, hs48⟩, h⟩ := h
    refine fw_getP (kd := 10) (k := 0) (by decide +kernel) gf_X10_13 hr47 hs48 rfl ?_
    obtain ⟨y49, hy50, h⟩ := dR_e h
    refine fw_deref hy50 ?_
    obtain ⟨⟨hr52, n51, hs53⟩, h⟩ := h
    refine fw_getI (kd := 5) (k := 11) (by decide +kernel) gf_X10_276 hr52 hs53 (Or.inl rfl) ?_
    exact fw_ret (v := some (.int (mI M y49 11))) .ireturn (by decide +kernel) ⟨rfl, Or.inl rfl⟩ ⟨_, rfl, h⟩
  replace h := ineg hc54 h
  by_cases hc63 : p1 = (6 : Int32)
  · replace h := ipos hc63 h
    refine fw_tin (off := 99) 100 (by decide +kernel) (by rw [hc63]; decide) (by rw [hc63]; decide) (by rw [hc63]; rfl) (by decide) ?_
    refine fw_aload_n (i := 0) 0 rfl (by decide +kernel) ?_
    obtain ⟨⟨hr56, n55, hs57⟩, h⟩ := h
    refine fw_getP (kd := 10) (k := 0) (by decide +kernel) gf_X10_13 hr56 hs57 rfl ?_
    obtain ⟨y58, hy59, h⟩ := dR_e h
    refine fw_deref hy59 ?_
    obtain ⟨⟨hr61, n60, hs62⟩, h⟩ := h
    refine fw_getI (kd := 5) (k := 17) (by decide +kernel) gf_X10_279 hr61 hs62 (Or.inl rfl) ?_
    exact fw_ret (v := some (.int (mI M y58 17))) .ireturn (by decide +kernel) ⟨rfl, Or.inl rfl⟩ ⟨_, rfl, h⟩
  replace h := ineg hc63 h
  by_cases hc74 : p1 = (7 : Int32)
  · replace h := ipos hc74 h
    refine fw_tin (off := 107) 108 (by decide +kernel) (by rw [hc74]; decide) (by rw [hc74]; decide) (by rw [hc74]; rfl) (by decide) ?_
    refine fw_aload_n (i := 0) 0 rfl (by decide +kernel) ?_
    obtain ⟨⟨hr65, n64, hs66⟩, h⟩ := h
    refine fw_getP (kd := 10) (k := 0) (by decide +kernel) gf_X10_13 hr65 hs66 rfl ?_
    obtain ⟨y67, hy68, h⟩ := dR_e h
    refine fw_deref hy68 ?_
    obtain ⟨⟨hr71, n70, hs72⟩, h⟩ := h
    refine fw_callV (mt' := mtX5_toldHouses) (mc := 0) (ms := 0) (As := []) (rest := []) 0 5 n70 (by decide +kernel) cv_X10_282 ⟨_, rfl, rfl⟩ hr71 hs72 rfl (by decide) (s_X5_toldHouses (d := d) (by omega) h) (by decide) (by decide) (kI (bc' := 0) (bs' := 0) (by decide) (by decide) (fun x73 M69 h => ?_))
    exact fw_ret (v := some (.int x73)) .ireturn (by decide +kernel) ⟨rfl, Or.inl rfl⟩ ⟨_, rfl, h⟩
  replace h := ineg hc74 h
  by_cases hc83 : p1 = (8 : Int32)
  · replace h := ipos hc83 h
    refine fw_tin (off := 115) 116 (by decide +kernel) (by rw [hc83]; decide) (by rw [hc83]; decide) (by rw [hc83]; rfl) (by decide) ?_
    refine fw_aload_n (i := 0) 0 rfl (by decide +kernel) ?_
    obtain ⟨⟨hr76, n75, hs77⟩, h⟩ := h
    refine fw_getP (kd := 10) (k := 2) (by decide +kernel) gf_X10_25 hr76 hs77 rfl ?_
    obtain ⟨y78, hy79, h⟩ := dR_e h
    refine fw_deref hy79 ?_
    obtain ⟨⟨hr81, n80, hs82⟩, h⟩ := h
    refine fw_getI (kd := 7) (k := 1) (by decide +kernel) gf_X10_107 hr81 hs82 (Or.inl rfl) ?_
    exact fw_ret (v := some (.int (mI M y78 1))) .ireturn (by decide +kernel) ⟨rfl, Or.inl rfl⟩ ⟨_, rfl, h⟩
  replace h := ineg hc83 h
  by_cases ho94 : Int32.toInt p1 < 0 ∨ 8 < Int32.toInt p1
  · refine fw_tout 124 (by decide +kernel) ho94 (by decide) ?_
    refine fw_aload_n (i := 0) 0 rfl (by decide +kernel) ?_
    obtain ⟨⟨hr85, n84, hs86⟩, h⟩ := h
    refine fw_getP (kd := 10) (k := 0) (by decide +kernel) gf_X10_13 hr85 hs86 rfl ?_
    obtain ⟨y87, hy88, h⟩ := dR_e h
    refine fw_deref hy88 ?_
    refine fw_iload_n (i := 1) 1 rfl (by decide +kernel) ?_
    obtain ⟨⟨hr91, n90, hs92⟩, h⟩ := h
    refine fw_callV (mt' := mtX5_aboutPerson) (mc := 0) (ms := 0) (As := [.int p1]) (rest := []) 1 5 n90 (by decide +kernel) cv_X10_285 ⟨_, rfl, rfl⟩ hr91 hs92 rfl (by decide) (s_X5_aboutPerson (d := d) (by omega) h) (by decide) (by decide) (kI (bc' := 0) (bs' := 0) (by decide) (by decide) (fun x93 M89 h => ?_))
    exact fw_ret (v := some (.int x93)) .ireturn (by decide +kernel) ⟨rfl, Or.inl rfl⟩ ⟨_, rfl, h⟩
  have e95 : Int32.toInt p1 = 0 ∨ Int32.toInt p1 = 1 ∨ Int32.toInt p1 = 2 ∨ Int32.toInt p1 = 3 ∨ Int32.toInt p1 = 4 ∨ Int32.toInt p1 = 5 ∨ Int32.toInt p1 = 6 ∨ Int32.toInt p1 = 7 ∨ Int32.toInt p1 = 8 := by omega
  rcases e95 with e95 | e95 | e95 | e95 | e95 | e95 | e95 | e95 | e95
  · exact absurd (Int32.toInt_inj.mp (Eq.trans e95 rfl)) hc9
  · exact absurd (Int32.toInt_inj.mp (Eq.trans e95 rfl)) hc18
  · exact absurd (Int32.toInt_inj.mp (Eq.trans e95 rfl)) hc27
  · exact absurd (Int32.toInt_inj.mp (Eq.trans e95 rfl)) hc36
  · exact absurd (Int32.toInt_inj.mp (Eq.trans e95 rfl)) hc45
  · exact absurd (Int32.toInt_inj.mp (Eq.trans e95 rfl)) hc54
  · exact absurd (Int32.toInt_inj.mp (Eq.trans e95 rfl)) hc63
  · exact absurd (Int32.toInt_inj.mp (Eq.trans e95 rfl)) hc74
  · exact absurd (Int32.toInt_inj.mp (Eq.trans e95 rfl)) hc83
def w_X10_put (p0 : Nat) (p1 : Int32) (p2 : Int32) (M : fM) (φ : fM → Prop) : Prop := if p1 < 0 then (φ M) else (lenA M p0 12 fun n1 => if (nI n1) ≤ p1 then (φ M) else (6 ≤ p0 ∧ inA M p0 12 p1 ∧ st (wI M p0 (ix p1) p2) fun M7 => φ M7))
theorem s_X10_put {g : GT} {d : Nat} (hd : 1 ≤ d) {p0 : Nat} {p1 : Int32} {p2 : Int32} {M : fM} {φ : fM → Prop} (h : w_X10_put p0 p1 p2 M φ) : FC g mtX10_put d [.ref p0, .int p1, .int p2] M 0 0 (rV φ) := by
  obtain ⟨d, rfl⟩ : ∃ e, d = e + 1 := ⟨d - 1, by omega⟩
  unfold w_X10_put at h
  refine FC.intro (nL := 3) (by decide) rfl (by decide) ?_
  show FW g mtX10_put (d + 1) 0 [(0, .ref p0), (1, .int p1), (2, .int p2)] [] M 0 0 (rV φ)
  refine fw_iload_n (i := 1) 1 rfl (by decide +kernel) ?_
  refine fw_if_lt 14 (by decide +kernel) (by decide) (fun hc10 => ?_) (fun hc10 => ?_)
  · replace h := ipos hc10 h
    exact fw_ret (v := none) .return_ (by decide +kernel) ⟨rfl, rfl⟩ ⟨rfl, h⟩
  · replace h := ineg hc10 h
    refine fw_iload_n (i := 1) 1 rfl (by decide +kernel) ?_
    refine fw_aload_n (i := 0) 0 rfl (by decide +kernel) ?_
    obtain ⟨n1, hs2, h⟩ := h
    refine fw_alen (by decide +kernel) hs2 (by decide) (by decide) (by decide) (by decide) ?_
    refine fw_icmp_ge 14 (by decide +kernel) (by decide) (fun hc9 => ?_) (fun hc9 => ?_)
    · replace h := ipos hc9 h
      exact fw_ret (v := none) .return_ (by decide +kernel) ⟨rfl, rfl⟩ ⟨rfl, h⟩
    · replace h := ineg hc9 h
      refine fw_aload_n (i := 0) 0 rfl (by decide +kernel) ?_
      refine fw_iload_n (i := 1) 1 rfl (by decide +kernel) ?_
      refine fw_iload_n (i := 2) 2 rfl (by decide +kernel) ?_
      obtain ⟨hr6, ⟨n3, hs4, hi5⟩, h⟩ := h
      refine fw_iast (by decide +kernel) hr6 hs4 hi5 ?_
      refine FW.nmM (fun M7 eM8 => ?_)
      replace h := h M7 eM8
      exact fw_ret (v := none) .return_ (by decide +kernel) ⟨rfl, rfl⟩ ⟨rfl, h⟩
def j_X2_weigh_38 (K3 : Nat → Nat → Int32 → Int32 → Int32 → fM → Prop) (φ : fM → Prop) (p0 : Nat) (p1 : Nat) (p2 : Int32) (p3 : Int32) (p4 : Int32) (s0 : Int32) (M : fM) : Prop := isO M p0 2 ∧ dR (mP M p0 4) fun y4 => dR (mP M p0 2) fun y6 => w_X10_cell y6 (((p2 + (1 : Int32)) * (10 : Int32)) + p4) M fun x9 M8 => w_J9_min_7cf53 (1000000 : Int32) (s0 + x9) M8 fun x11 M10 => w_X10_put y4 p4 x11 M10 fun M12 => nm (p4 + (1 : Int32)) fun x13 => K3 p0 p1 p2 p3 x13 M12
theorem sj_X2_weigh_38 {g : GT} {d : Nat} (hd : 3 ≤ d + 1) {K3 : Nat → Nat → Int32 → Int32 → Int32 → fM → Prop} {φ : fM → Prop} (hK3 : ∀ (p0 : Nat) (p1 : Nat) (p2 : Int32) (p3 : Int32) (p4 : Int32) (M : fM), K3 p0 p1 p2 p3 p4 M → FW g mtX2_weigh (d + 1) 3 [(0, .ref p0), (1, .ref p1), (2, .int p2), (3, .int p3), (4, .int p4)] [] M 0 0 (rV φ)) {p0 : Nat} {p1 : Nat} {p2 : Int32} {p3 : Int32} {p4 : Int32} {s0 : Int32} {M : fM} (h : j_X2_weigh_38 K3 φ p0 p1 p2 p3 p4 s0 M) : FW g mtX2_weigh (d + 1) 38 [(0, .ref p0), (1, .ref p1), (2, .int p2), (3, .int p3), (4, .int p4)] [.int s0] M 0 0 (rV φ) := by
  unfold j_X2_weigh_38 at h
  refine fw_istore (i := 6) (ls' := [(6, .int s0), (0, .ref p0), (1, .ref p1), (2, .int p2), (3, .int p3), (4, .int p4)]) (by decide +kernel) (by decide) rfl ?_
  refine fw_aload_n (i := 0) 1 rfl (by decide +kernel) ?_
  obtain ⟨⟨hr2, n1, hs3⟩, h⟩ := h
  refine fw_getP (kd := 2) (k := 4) (by decide +kernel) gf_X2_18 hr2 hs3 rfl ?_
  obtain ⟨y4, hy5, h⟩ := dR_e h
  refine fw_deref hy5 ?_
  refine fw_iload (i := 4) 5 rfl (by decide +kernel) ?_
  refine fw_ldc (idx := 49) (v := (1000000 : Int32)) (by decide +kernel) wd1322 ?_
  refine fw_iload (i := 6) 0 rfl (by decide +kernel) ?_
  refine fw_aload_n (i := 0) 1 rfl (by decide +kernel) ?_
  refine fw_getP (kd := 2) (k := 2) (by decide +kernel) gf_X2_11 hr2 hs3 rfl ?_
  obtain ⟨y6, hy7, h⟩ := dR_e h
  refine fw_deref hy7 ?_
  refine fw_iload_n (i := 2) 3 rfl (by decide +kernel) ?_
  refine fw_iconst (v := (1 : Int32)) (by decide +kernel) (by decide) ?_
  refine fw_iadd (by decide +kernel) ?_
  refine fw_bipush (v := (10 : Int32)) (by decide +kernel) (by decide) ?_
  refine fw_imul (by decide +kernel) ?_
  refine fw_iload (i := 4) 5 rfl (by decide +kernel) ?_
  refine fw_iadd (by decide +kernel) ?_
  refine fw_callSN (mt' := mtX10_cell) (mc := 0) (ms := 0) (As := [.ref y6, .int (((p2 + (1 : Int32)) * (10 : Int32)) + p4)]) (rest := [.int s0, .int (1000000 : Int32), .int p4, .ref y4]) 2 "OneStepMore" (by decide +kernel) ns_X2_45 rfl (by decide) (s_X10_cell (d := d) (by omega) h) (by decide) (by decide) (kI (bc' := 0) (bs' := 0) (by decide) (by decide) (fun x9 M8 h => ?_))
  refine fw_iadd (by decide +kernel) ?_
  refine fw_callS (mt' := mtJ9_min_7cf53) (mc := 0) (ms := 0) (As := [.int (1000000 : Int32), .int (s0 + x9)]) (rest := [.int p4, .ref y4]) 2 (by decide +kernel) cs_X2_76 rfl (by decide) (s_J9_min_7cf53 (d := d) (by omega) h) (by decide) (by decide) (kI (bc' := 0) (bs' := 0) (by decide) (by decide) (fun x11 M10 h => ?_))
  refine fw_callSN (mt' := mtX10_put) (mc := 0) (ms := 0) (As := [.ref y4, .int p4, .int x11]) (rest := []) 3 "OneStepMore" (by decide +kernel) ns_X2_80 rfl (by decide) (s_X10_put (d := d) (by omega) h) (by decide) (by decide) (kV (bc' := 0) (bs' := 0) (by decide) (by decide) (fun M12 h => ?_))
  obtain ⟨x13, ex14⟩ : ∃ y : Int32, y = p4 + (1 : Int32) := ⟨_, rfl⟩
  replace h := h x13 ex14
  refine fw_iinc (i := 4) (x := p4) (v := x13) (ls' := [(4, .int x13), (6, .int s0), (0, .ref p0), (1, .ref p1), (2, .int p2), (3, .int p3)]) 5 rfl (by decide +kernel) (by rw [ex14]; rfl) (by decide) rfl ?_
  refine fw_goto 3 (by decide +kernel) (by decide) ?_
  refine FW.sub [2, 3, 4, 5, 0] (ls' := [(0, .ref p0), (1, .ref p1), (2, .int p2), (3, .int p3), (4, .int x13)]) rfl ?_
  exact hK3 _ _ _ _ _ _ h
def b_X2_weigh_3 (K3 : Nat → Nat → Int32 → Int32 → Int32 → fM → Prop) (φ : fM → Prop) (p0 : Nat) (p1 : Nat) (p2 : Int32) (p3 : Int32) (p4 : Int32) (M : fM) : Prop := if (9 : Int32) < p4 then (φ M) else (isO M p1 0 ∧ w_X0_highOf p1 p2 M fun x19 M15 => w_J9_abs_0f7a4 (p4 - x19) M15 fun x21 M20 => if p3 = 0 then (j_X2_weigh_38 K3 φ p0 p1 p2 p3 p4 x21 M20) else (w_J9_min_7cf53 (1 : Int32) x21 M20 fun x23 M22 => j_X2_weigh_38 K3 φ p0 p1 p2 p3 p4 x23 M22))
def l_X2_weigh_3 (φ : fM → Prop) : Nat → Nat → Nat → Int32 → Int32 → Int32 → fM → Prop
  | 0, _, _, _, _, _, _ => False
  | n + 1, p0, p1, p2, p3, p4, M => b_X2_weigh_3 (l_X2_weigh_3 φ n) φ p0 p1 p2 p3 p4 M
theorem sb_X2_weigh_3 {g : GT} {d : Nat} (hd : 3 ≤ d + 1) {K3 : Nat → Nat → Int32 → Int32 → Int32 → fM → Prop} {φ : fM → Prop} (hK3 : ∀ (p0 : Nat) (p1 : Nat) (p2 : Int32) (p3 : Int32) (p4 : Int32) (M : fM), K3 p0 p1 p2 p3 p4 M → FW g mtX2_weigh (d + 1) 3 [(0, .ref p0), (1, .ref p1), (2, .int p2), (3, .int p3), (4, .int p4)] [] M 0 0 (rV φ)) {p0 : Nat} {p1 : Nat} {p2 : Int32} {p3 : Int32} {p4 : Int32} {M : fM} (h : b_X2_weigh_3 K3 φ p0 p1 p2 p3 p4 M) : FW g mtX2_weigh (d + 1) 3 [(0, .ref p0), (1, .ref p1), (2, .int p2), (3, .int p3), (4, .int p4)] [] M 0 0 (rV φ) := by
  unfold b_X2_weigh_3 at h
  refine fw_iload (i := 4) 4 rfl (by decide +kernel) ?_
  refine fw_bipush (v := (9 : Int32)) (by decide +kernel) (by decide) ?_
  refine fw_icmp_gt 79 (by decide +kernel) (by decide) (fun hc25 => ?_) (fun hc25 => ?_)
  · replace h := ipos hc25 h
    exact fw_ret (v := none) .return_ (by decide +kernel) ⟨rfl, rfl⟩ ⟨rfl, h⟩
  · replace h := ineg hc25 h
    refine fw_iload (i := 4) 4 rfl (by decide +kernel) ?_
    refine fw_aload_n (i := 1) 1 rfl (by decide +kernel) ?_
    refine fw_iload_n (i := 2) 2 rfl (by decide +kernel) ?_
    obtain ⟨⟨hr17, n16, hs18⟩, h⟩ := h
    refine fw_callV (mt' := mtX0_highOf) (mc := 0) (ms := 0) (As := [.int p2]) (rest := [.int p4]) 1 0 n16 (by decide +kernel) cv_X2_67 ⟨_, rfl, rfl⟩ hr17 hs18 rfl (by decide) (s_X0_highOf (d := d) (by omega) h) (by decide) (by decide) (kI (bc' := 0) (bs' := 0) (by decide) (by decide) (fun x19 M15 h => ?_))
    refine fw_isub (by decide +kernel) ?_
    refine fw_callS (mt' := mtJ9_abs_0f7a4) (mc := 0) (ms := 0) (As := [.int (p4 - x19)]) (rest := []) 1 (by decide +kernel) cs_X2_71 rfl (by decide) (s_J9_abs_0f7a4 (d := d) (by omega) h) (by decide) (by decide) (kI (bc' := 0) (bs' := 0) (by decide) (by decide) (fun x21 M20 h => ?_))
    refine fw_istore (i := 5) (ls' := [(5, .int x21), (0, .ref p0), (1, .ref p1), (2, .int p2), (3, .int p3), (4, .int p4)]) (by decide +kernel) (by decide) rfl ?_
    refine fw_iload_n (i := 3) 4 rfl (by decide +kernel) ?_
    refine fw_if_eq 36 (by decide +kernel) (by decide) (fun hc24 => ?_) (fun hc24 => ?_)
    · replace h := ipos hc24 h
      refine fw_iload (i := 5) 0 rfl (by decide +kernel) ?_
      refine FW.sub [1, 2, 3, 4, 5] (ls' := [(0, .ref p0), (1, .ref p1), (2, .int p2), (3, .int p3), (4, .int p4)]) rfl ?_
      exact sj_X2_weigh_38 hd hK3 h
    · replace h := ineg hc24 h
      refine fw_iconst (v := (1 : Int32)) (by decide +kernel) (by decide) ?_
      refine fw_iload (i := 5) 0 rfl (by decide +kernel) ?_
      refine fw_callS (mt' := mtJ9_min_7cf53) (mc := 0) (ms := 0) (As := [.int (1 : Int32), .int x21]) (rest := []) 2 (by decide +kernel) cs_X2_76 rfl (by decide) (s_J9_min_7cf53 (d := d) (by omega) h) (by decide) (by decide) (kI (bc' := 0) (bs' := 0) (by decide) (by decide) (fun x23 M22 h => ?_))
      refine fw_goto 38 (by decide +kernel) (by decide) ?_
      refine FW.sub [1, 2, 3, 4, 5] (ls' := [(0, .ref p0), (1, .ref p1), (2, .int p2), (3, .int p3), (4, .int p4)]) rfl ?_
      exact sj_X2_weigh_38 hd hK3 h
theorem sl_X2_weigh_3 {g : GT} {d : Nat} (hd : 3 ≤ d + 1) {φ : fM → Prop} : ∀ (n : Nat) {p0 : Nat} {p1 : Nat} {p2 : Int32} {p3 : Int32} {p4 : Int32} {M : fM}, l_X2_weigh_3 φ n p0 p1 p2 p3 p4 M → FW g mtX2_weigh (d + 1) 3 [(0, .ref p0), (1, .ref p1), (2, .int p2), (3, .int p3), (4, .int p4)] [] M 0 0 (rV φ)
  | 0 => fun h => h.elim
  | n + 1 => fun h => sb_X2_weigh_3 hd (fun _ _ _ _ _ _ h => sl_X2_weigh_3 hd n h) h
def w_X2_weigh (p0 : Nat) (p1 : Nat) (p2 : Int32) (p3 : Int32) (M : fM) (φ : fM → Prop) : Prop := ∃ n, l_X2_weigh_3 φ n p0 p1 p2 p3 (1 : Int32) M
theorem s_X2_weigh {g : GT} {d : Nat} (hd : 3 ≤ d) {p0 : Nat} {p1 : Nat} {p2 : Int32} {p3 : Int32} {M : fM} {φ : fM → Prop} (h : w_X2_weigh p0 p1 p2 p3 M φ) : FC g mtX2_weigh d [.ref p0, .ref p1, .int p2, .int p3] M 0 0 (rV φ) := by
  obtain ⟨d, rfl⟩ : ∃ e, d = e + 1 := ⟨d - 1, by omega⟩
  unfold w_X2_weigh at h
  refine FC.intro (nL := 7) (by decide) rfl (by decide) ?_
  show FW g mtX2_weigh (d + 1) 0 [(0, .ref p0), (1, .ref p1), (2, .int p2), (3, .int p3)] [] M 0 0 (rV φ)
  refine fw_iconst (v := (1 : Int32)) (by decide +kernel) (by decide) ?_
  refine fw_istore (i := 4) (ls' := [(4, .int (1 : Int32)), (0, .ref p0), (1, .ref p1), (2, .int p2), (3, .int p3)]) (by decide +kernel) (by decide) rfl ?_
  refine FW.sub [1, 2, 3, 4, 0] (ls' := [(0, .ref p0), (1, .ref p1), (2, .int p2), (3, .int p3), (4, .int (1 : Int32))]) rfl ?_
  obtain ⟨nn, h⟩ := h
  exact sl_X2_weigh_3 hd nn h
def b_X2_cheapest_4 (K4 : Nat → Int32 → Int32 → fM → Prop) (φ : Int32 → fM → Prop) (p0 : Nat) (p1 : Int32) (p2 : Int32) (M : fM) : Prop := if (9 : Int32) < p2 then (φ p1 M) else (isO M p0 2 ∧ dR (mP M p0 4) fun y4 => w_X10_cell y4 p2 M fun x7 M6 => isO M6 p0 2 ∧ dR (mP M6 p0 4) fun y11 => w_X10_cell y11 p1 M6 fun x14 M13 => if x14 ≤ x7 then (nm (p2 + (1 : Int32)) fun x15 => K4 p0 p1 x15 M13) else (nm (p2 + (1 : Int32)) fun x17 => K4 p0 p2 x17 M13))
def l_X2_cheapest_4 (φ : Int32 → fM → Prop) : Nat → Nat → Int32 → Int32 → fM → Prop
  | 0, _, _, _, _ => False
  | n + 1, p0, p1, p2, M => b_X2_cheapest_4 (l_X2_cheapest_4 φ n) φ p0 p1 p2 M
theorem sb_X2_cheapest_4 {g : GT} {d : Nat} (hd : 2 ≤ d + 1) {K4 : Nat → Int32 → Int32 → fM → Prop} {φ : Int32 → fM → Prop} (hK4 : ∀ (p0 : Nat) (p1 : Int32) (p2 : Int32) (M : fM), K4 p0 p1 p2 M → FW g mtX2_cheapest (d + 1) 4 [(0, .ref p0), (1, .int p1), (2, .int p2)] [] M 0 0 (rI φ)) {p0 : Nat} {p1 : Int32} {p2 : Int32} {M : fM} (h : b_X2_cheapest_4 K4 φ p0 p1 p2 M) : FW g mtX2_cheapest (d + 1) 4 [(0, .ref p0), (1, .int p1), (2, .int p2)] [] M 0 0 (rI φ) := by
  unfold b_X2_cheapest_4 at h
  refine fw_iload_n (i := 2) 2 rfl (by decide +kernel) ?_
  refine fw_bipush (v := (9 : Int32)) (by decide +kernel) (by decide) ?_
  refine fw_icmp_gt 37 (by decide +kernel) (by decide) (fun hc20 => ?_) (fun hc20 => ?_)
  · replace h := ipos hc20 h
    refine fw_iload_n (i := 1) 1 rfl (by decide +kernel) ?_
    exact fw_ret (v := some (.int p1)) .ireturn (by decide +kernel) ⟨rfl, Or.inl rfl⟩ ⟨_, rfl, h⟩
  · replace h := ineg hc20 h
    refine fw_aload_n (i := 0) 0 rfl (by decide +kernel) ?_
    obtain ⟨⟨hr2, n1, hs3⟩, h⟩ := h
    refine fw_getP (kd := 2) (k := 4) (by decide +kernel) gf_X2_18 hr2 hs3 rfl ?_
    obtain ⟨y4, hy5, h⟩ := dR_e h
    refine fw_deref hy5 ?_
    refine fw_iload_n (i := 2) 2 rfl (by decide +kernel) ?_
    refine fw_callSN (mt' := mtX10_cell) (mc := 0) (ms := 0) (As := [.ref y4, .int p2]) (rest := []) 2 "OneStepMore" (by decide +kernel) ns_X2_45 rfl (by decide) (s_X10_cell (d := d) (by omega) h) (by decide) (by decide) (kI (bc' := 0) (bs' := 0) (by decide) (by decide) (fun x7 M6 h => ?_))
    refine fw_aload_n (i := 0) 0 rfl (by decide +kernel) ?_
    obtain ⟨⟨hr9, n8, hs10⟩, h⟩ := h
    refine fw_getP (kd := 2) (k := 4) (by decide +kernel) gf_X2_18 hr9 hs10 rfl ?_
    obtain ⟨y11, hy12, h⟩ := dR_e h
    refine fw_deref hy12 ?_
    refine fw_iload_n (i := 1) 1 rfl (by decide +kernel) ?_
    refine fw_callSN (mt' := mtX10_cell) (mc := 0) (ms := 0) (As := [.ref y11, .int p1]) (rest := [.int x7]) 2 "OneStepMore" (by decide +kernel) ns_X2_45 rfl (by decide) (s_X10_cell (d := d) (by omega) h) (by decide) (by decide) (kI (bc' := 0) (bs' := 0) (by decide) (by decide) (fun x14 M13 h => ?_))
    refine fw_icmp_ge 31 (by decide +kernel) (by decide) (fun hc19 => ?_) (fun hc19 => ?_)
    · replace h := ipos hc19 h
      obtain ⟨x15, ex16⟩ : ∃ y : Int32, y = p2 + (1 : Int32) := ⟨_, rfl⟩
      replace h := h x15 ex16
      refine fw_iinc (i := 2) (x := p2) (v := x15) (ls' := [(2, .int x15), (0, .ref p0), (1, .int p1)]) 2 rfl (by decide +kernel) (by rw [ex16]; rfl) (by decide) rfl ?_
      refine fw_goto 4 (by decide +kernel) (by decide) ?_
      refine FW.sub [1, 2, 0] (ls' := [(0, .ref p0), (1, .int p1), (2, .int x15)]) rfl ?_
      exact hK4 _ _ _ _ h
    · replace h := ineg hc19 h
      refine fw_iload_n (i := 2) 2 rfl (by decide +kernel) ?_
      refine fw_istore_n (i := 1) (ls' := [(1, .int p2), (0, .ref p0), (2, .int p2)]) (by decide +kernel) (by decide) rfl ?_
      obtain ⟨x17, ex18⟩ : ∃ y : Int32, y = p2 + (1 : Int32) := ⟨_, rfl⟩
      replace h := h x17 ex18
      refine fw_iinc (i := 2) (x := p2) (v := x17) (ls' := [(2, .int x17), (1, .int p2), (0, .ref p0)]) 2 rfl (by decide +kernel) (by rw [ex18]; rfl) (by decide) rfl ?_
      refine fw_goto 4 (by decide +kernel) (by decide) ?_
      refine FW.sub [2, 1, 0] (ls' := [(0, .ref p0), (1, .int p2), (2, .int x17)]) rfl ?_
      exact hK4 _ _ _ _ h
theorem sl_X2_cheapest_4 {g : GT} {d : Nat} (hd : 2 ≤ d + 1) {φ : Int32 → fM → Prop} : ∀ (n : Nat) {p0 : Nat} {p1 : Int32} {p2 : Int32} {M : fM}, l_X2_cheapest_4 φ n p0 p1 p2 M → FW g mtX2_cheapest (d + 1) 4 [(0, .ref p0), (1, .int p1), (2, .int p2)] [] M 0 0 (rI φ)
  | 0 => fun h => h.elim
  | n + 1 => fun h => sb_X2_cheapest_4 hd (fun _ _ _ _ h => sl_X2_cheapest_4 hd n h) h
def w_X2_cheapest (p0 : Nat) (M : fM) (φ : Int32 → fM → Prop) : Prop := ∃ n, l_X2_cheapest_4 φ n p0 (1 : Int32) (2 : Int32) M
theorem s_X2_cheapest {g : GT} {d : Nat} (hd : 2 ≤ d) {p0 : Nat} {M : fM} {φ : Int32 → fM → Prop} (h : w_X2_cheapest p0 M φ) : FC g mtX2_cheapest d [.ref p0] M 0 0 (rI φ) := by
  obtain ⟨d, rfl⟩ : ∃ e, d = e + 1 := ⟨d - 1, by omega⟩
  unfold w_X2_cheapest at h
  refine FC.intro (nL := 3) (by decide) rfl (by decide) ?_
  show FW g mtX2_cheapest (d + 1) 0 [(0, .ref p0)] [] M 0 0 (rI φ)
  refine fw_iconst (v := (1 : Int32)) (by decide +kernel) (by decide) ?_
  refine fw_istore_n (i := 1) (ls' := [(1, .int (1 : Int32)), (0, .ref p0)]) (by decide +kernel) (by decide) rfl ?_
  refine fw_iconst (v := (2 : Int32)) (by decide +kernel) (by decide) ?_
  refine fw_istore_n (i := 2) (ls' := [(2, .int (2 : Int32)), (1, .int (1 : Int32)), (0, .ref p0)]) (by decide +kernel) (by decide) rfl ?_
  refine FW.sub [2, 1, 0] (ls' := [(0, .ref p0), (1, .int (1 : Int32)), (2, .int (2 : Int32))]) rfl ?_
  obtain ⟨nn, h⟩ := h
  exact sl_X2_cheapest_4 hd nn h
def w_X5_textOf (p0 : Nat) (p1 : Int32) (M : fM) (φ : Option Nat → fM → Prop) : Prop := if p1 < 0 then (φ none M) else (isO M p0 5 ∧ if (mI M p0 14) ≤ p1 then (φ none M) else (dR (mP M p0 13) fun y4 => lenA M y4 16 fun n6 => if (nI n6) ≤ p1 then (φ none M) else (dR (mP M p0 13) fun y8 => inA M y8 16 p1 ∧ nm (mP M y8 (ix p1)) fun o13 => φ o13 M)))
theorem s_X5_textOf {g : GT} {d : Nat} (hd : 1 ≤ d) {p0 : Nat} {p1 : Int32} {M : fM} {φ : Option Nat → fM → Prop} (h : w_X5_textOf p0 p1 M φ) : FC g mtX5_textOf d [.ref p0, .int p1] M 0 0 (rP φ) := by
  obtain ⟨d, rfl⟩ : ∃ e, d = e + 1 := ⟨d - 1, by omega⟩
  unfold w_X5_textOf at h
  refine FC.intro (nL := 2) (by decide) rfl (by decide) ?_
  show FW g mtX5_textOf (d + 1) 0 [(0, .ref p0), (1, .int p1)] [] M 0 0 (rP φ)
  refine fw_iload_n (i := 1) 1 rfl (by decide +kernel) ?_
  refine fw_if_lt 30 (by decide +kernel) (by decide) (fun hc17 => ?_) (fun hc17 => ?_)
  · replace h := ipos hc17 h
    refine fw_nullq (by decide +kernel) ?_
    exact fw_retq (x := none) (by decide +kernel) ⟨_, rfl, Or.inl ⟨_, rfl⟩⟩ ⟨_, rfl, h⟩
  · replace h := ineg hc17 h
    refine fw_iload_n (i := 1) 1 rfl (by decide +kernel) ?_
    refine fw_aload_n (i := 0) 0 rfl (by decide +kernel) ?_
    obtain ⟨⟨hr2, n1, hs3⟩, h⟩ := h
    refine fw_getI (kd := 5) (k := 14) (by decide +kernel) gf_X5_56 hr2 hs3 (Or.inl rfl) ?_
    refine fw_icmp_ge 30 (by decide +kernel) (by decide) (fun hc16 => ?_) (fun hc16 => ?_)
    · replace h := ipos hc16 h
      refine fw_nullq (by decide +kernel) ?_
      exact fw_retq (x := none) (by decide +kernel) ⟨_, rfl, Or.inl ⟨_, rfl⟩⟩ ⟨_, rfl, h⟩
    · replace h := ineg hc16 h
      refine fw_iload_n (i := 1) 1 rfl (by decide +kernel) ?_
      refine fw_aload_n (i := 0) 0 rfl (by decide +kernel) ?_
      refine fw_getP (kd := 5) (k := 13) (by decide +kernel) gf_X5_42 hr2 hs3 rfl ?_
      obtain ⟨y4, hy5, h⟩ := dR_e h
      refine fw_deref hy5 ?_
      obtain ⟨n6, hs7, h⟩ := h
      refine fw_alen (by decide +kernel) hs7 (by decide) (by decide) (by decide) (by decide) ?_
      refine fw_icmp_ge 30 (by decide +kernel) (by decide) (fun hc15 => ?_) (fun hc15 => ?_)
      · replace h := ipos hc15 h
        refine fw_nullq (by decide +kernel) ?_
        exact fw_retq (x := none) (by decide +kernel) ⟨_, rfl, Or.inl ⟨_, rfl⟩⟩ ⟨_, rfl, h⟩
      · replace h := ineg hc15 h
        refine fw_aload_n (i := 0) 0 rfl (by decide +kernel) ?_
        refine fw_getP (kd := 5) (k := 13) (by decide +kernel) gf_X5_42 hr2 hs3 rfl ?_
        obtain ⟨y8, hy9, h⟩ := dR_e h
        refine fw_deref hy9 ?_
        refine fw_iload_n (i := 1) 1 rfl (by decide +kernel) ?_
        obtain ⟨⟨n10, hs11, hi12⟩, h⟩ := h
        refine fw_aald (kd := 16) (by decide +kernel) (by decide) hs11 hi12 ?_
        refine fw_nmP (fun o13 eo14 => ?_)
        replace h := h o13 eo14
        refine fw_goto 31 (by decide +kernel) (by decide) ?_
        exact fw_retq (x := o13) (by decide +kernel) ⟨_, rfl, Or.inl ⟨_, rfl⟩⟩ ⟨_, rfl, h⟩
def j_X1_turnTo_107 (φ : fM → Prop) (p0 : Nat) (p1 : Nat) (s0 : Int32) (s1 : Int32) (s2 : Nat) (M : fM) : Prop := 6 ≤ s2 ∧ inA M s2 12 s1 ∧ st (wI M s2 (ix s1) s0) fun M5 => isO M5 p0 1 ∧ dR (mP M5 p0 0) fun y10 => isO M5 p1 5 ∧ nm (mI M5 p1 6) fun x15 => 6 ≤ y10 ∧ inA M5 y10 12 (5 : Int32) ∧ st (wI M5 y10 (ix (5 : Int32)) x15) fun M21 => φ M21
theorem sj_X1_turnTo_107 {g : GT} {d : Nat} (hd : 2 ≤ d + 1) {φ : fM → Prop} {p0 : Nat} {p1 : Nat} {s0 : Int32} {s1 : Int32} {s2 : Nat} {M : fM} (h : j_X1_turnTo_107 φ p0 p1 s0 s1 s2 M) : FW g mtX1_turnTo (d + 1) 107 [(0, .ref p0), (1, .ref p1)] [.int s0, .int s1, .ref s2] M 0 0 (rV φ) := by
  unfold j_X1_turnTo_107 at h
  obtain ⟨hr4, ⟨n1, hs2, hi3⟩, h⟩ := h
  refine fw_iast (by decide +kernel) hr4 hs2 hi3 ?_
  refine FW.nmM (fun M5 eM6 => ?_)
  replace h := h M5 eM6
  refine fw_aload_n (i := 0) 0 rfl (by decide +kernel) ?_
  obtain ⟨⟨hr8, n7, hs9⟩, h⟩ := h
  refine fw_getP (kd := 1) (k := 0) (by decide +kernel) gf_X1_9 hr8 hs9 rfl ?_
  obtain ⟨y10, hy11, h⟩ := dR_e h
  refine fw_deref hy11 ?_
  refine fw_iconst (v := (5 : Int32)) (by decide +kernel) (by decide) ?_
  refine fw_aload_n (i := 1) 1 rfl (by decide +kernel) ?_
  obtain ⟨⟨hr13, n12, hs14⟩, h⟩ := h
  refine fw_getI (kd := 5) (k := 6) (by decide +kernel) gf_X1_50 hr13 hs14 (Or.inl rfl) ?_
  refine fw_nmI (fun x15 ex16 => ?_)
  replace h := h x15 ex16
  obtain ⟨hr20, ⟨n17, hs18, hi19⟩, h⟩ := h
  refine fw_iast (by decide +kernel) hr20 hs18 hi19 ?_
  refine FW.nmM (fun M21 eM22 => ?_)
  replace h := h M21 eM22
  exact fw_ret (v := none) .return_ (by decide +kernel) ⟨rfl, rfl⟩ ⟨rfl, h⟩
def j_X1_turnTo_89 (φ : fM → Prop) (p0 : Nat) (p1 : Nat) (p5 : Int32) (s0 : Int32) (s1 : Int32) (s2 : Nat) (M : fM) : Prop := 6 ≤ s2 ∧ inA M s2 12 s1 ∧ st (wI M s2 (ix s1) s0) fun M27 => isO M27 p0 1 ∧ dR (mP M27 p0 0) fun y32 => if (p5 &&& (1 : Int32)) = 0 then (j_X1_turnTo_107 φ p0 p1 (0 : Int32) (4 : Int32) y32 M27) else (j_X1_turnTo_107 φ p0 p1 (1 : Int32) (4 : Int32) y32 M27)
theorem sj_X1_turnTo_89 {g : GT} {d : Nat} (hd : 2 ≤ d + 1) {φ : fM → Prop} {p0 : Nat} {p1 : Nat} {p5 : Int32} {s0 : Int32} {s1 : Int32} {s2 : Nat} {M : fM} (h : j_X1_turnTo_89 φ p0 p1 p5 s0 s1 s2 M) : FW g mtX1_turnTo (d + 1) 89 [(0, .ref p0), (1, .ref p1), (5, .int p5)] [.int s0, .int s1, .ref s2] M 0 0 (rV φ) := by
  unfold j_X1_turnTo_89 at h
  obtain ⟨hr26, ⟨n23, hs24, hi25⟩, h⟩ := h
  refine fw_iast (by decide +kernel) hr26 hs24 hi25 ?_
  refine FW.nmM (fun M27 eM28 => ?_)
  replace h := h M27 eM28
  refine fw_aload_n (i := 0) 0 rfl (by decide +kernel) ?_
  obtain ⟨⟨hr30, n29, hs31⟩, h⟩ := h
  refine fw_getP (kd := 1) (k := 0) (by decide +kernel) gf_X1_9 hr30 hs31 rfl ?_
  obtain ⟨y32, hy33, h⟩ := dR_e h
  refine fw_deref hy33 ?_
  refine fw_iconst (v := (4 : Int32)) (by decide +kernel) (by decide) ?_
  refine fw_iload (i := 5) 2 rfl (by decide +kernel) ?_
  refine fw_iconst (v := (1 : Int32)) (by decide +kernel) (by decide) ?_
  refine fw_iand (by decide +kernel) ?_
  refine fw_if_ne 106 (by decide +kernel) (by decide) (fun hc34 => ?_) (fun hc34 => ?_)
  · replace h := ineg hc34 h
    refine fw_iconst (v := (1 : Int32)) (by decide +kernel) (by decide) ?_
    refine FW.sub [0, 1] (ls' := [(0, .ref p0), (1, .ref p1)]) rfl ?_
    exact sj_X1_turnTo_107 hd h
  · replace h := ipos hc34 h
    refine fw_iconst (v := (0 : Int32)) (by decide +kernel) (by decide) ?_
    refine fw_goto 107 (by decide +kernel) (by decide) ?_
    refine FW.sub [0, 1] (ls' := [(0, .ref p0), (1, .ref p1)]) rfl ?_
    exact sj_X1_turnTo_107 hd h
def j_X1_turnTo_71 (φ : fM → Prop) (p0 : Nat) (p1 : Nat) (p5 : Int32) (s0 : Int32) (s1 : Int32) (s2 : Nat) (M : fM) : Prop := 6 ≤ s2 ∧ inA M s2 12 s1 ∧ st (wI M s2 (ix s1) s0) fun M39 => isO M39 p0 1 ∧ dR (mP M39 p0 0) fun y44 => if (p5 &&& (2 : Int32)) = 0 then (j_X1_turnTo_89 φ p0 p1 p5 (0 : Int32) (3 : Int32) y44 M39) else (j_X1_turnTo_89 φ p0 p1 p5 (1 : Int32) (3 : Int32) y44 M39)
theorem sj_X1_turnTo_71 {g : GT} {d : Nat} (hd : 2 ≤ d + 1) {φ : fM → Prop} {p0 : Nat} {p1 : Nat} {p5 : Int32} {s0 : Int32} {s1 : Int32} {s2 : Nat} {M : fM} (h : j_X1_turnTo_71 φ p0 p1 p5 s0 s1 s2 M) : FW g mtX1_turnTo (d + 1) 71 [(0, .ref p0), (1, .ref p1), (5, .int p5)] [.int s0, .int s1, .ref s2] M 0 0 (rV φ) := by
  unfold j_X1_turnTo_71 at h
  obtain ⟨hr38, ⟨n35, hs36, hi37⟩, h⟩ := h
  refine fw_iast (by decide +kernel) hr38 hs36 hi37 ?_
  refine FW.nmM (fun M39 eM40 => ?_)
  replace h := h M39 eM40
  refine fw_aload_n (i := 0) 0 rfl (by decide +kernel) ?_
  obtain ⟨⟨hr42, n41, hs43⟩, h⟩ := h
  refine fw_getP (kd := 1) (k := 0) (by decide +kernel) gf_X1_9 hr42 hs43 rfl ?_
  obtain ⟨y44, hy45, h⟩ := dR_e h
  refine fw_deref hy45 ?_
  refine fw_iconst (v := (3 : Int32)) (by decide +kernel) (by decide) ?_
  refine fw_iload (i := 5) 2 rfl (by decide +kernel) ?_
  refine fw_iconst (v := (2 : Int32)) (by decide +kernel) (by decide) ?_
  refine fw_iand (by decide +kernel) ?_
  refine fw_if_ne 88 (by decide +kernel) (by decide) (fun hc46 => ?_) (fun hc46 => ?_)
  · replace h := ineg hc46 h
    refine fw_iconst (v := (1 : Int32)) (by decide +kernel) (by decide) ?_
    refine FW.sub [0, 1, 2] (ls' := [(0, .ref p0), (1, .ref p1), (5, .int p5)]) rfl ?_
    exact sj_X1_turnTo_89 hd h
  · replace h := ipos hc46 h
    refine fw_iconst (v := (0 : Int32)) (by decide +kernel) (by decide) ?_
    refine fw_goto 89 (by decide +kernel) (by decide) ?_
    refine FW.sub [0, 1, 2] (ls' := [(0, .ref p0), (1, .ref p1), (5, .int p5)]) rfl ?_
    exact sj_X1_turnTo_89 hd h
def w_X1_turnTo (p0 : Nat) (p1 : Nat) (p2 : Option Nat) (p3 : Int32) (p4 : Int32) (p5 : Int32) (M : fM) (φ : fM → Prop) : Prop := isO M p1 5 ∧ w_X5_houseOf p1 p4 M fun o51 M47 => isO M47 p0 1 ∧ st (wP M47 p0 2 p2) fun M55 => isO M55 p1 5 ∧ dR (mP M55 p1 1) fun y60 => w_X10_cell y60 p3 M55 fun x63 M62 => isO M62 p0 1 ∧ st (wI M62 p0 3 x63) fun M67 => isO M67 p1 5 ∧ dR (mP M67 p1 2) fun y72 => w_X10_cell y72 p3 M67 fun x75 M74 => isO M74 p0 1 ∧ st (wI M74 p0 4 x75) fun M79 => dR (mP M79 p0 0) fun y81 => 6 ≤ y81 ∧ inA M79 y81 12 (0 : Int32) ∧ st (wI M79 y81 (ix (0 : Int32)) p3) fun M87 => dR (mP M87 p0 0) fun y89 => 6 ≤ y89 ∧ inA M87 y89 12 (1 : Int32) ∧ st (wI M87 y89 (ix (1 : Int32)) p4) fun M95 => dR (mP M95 p0 0) fun y97 => gN o51 (fun y99 => isO M95 y99 0 ∧ j_X1_turnTo_71 φ p0 p1 p5 (mI M95 y99 0) (2 : Int32) y97 M95) (j_X1_turnTo_71 φ p0 p1 p5 (0 : Int32) (2 : Int32) y97 M95)
theorem s_X1_turnTo {g : GT} {d : Nat} (hd : 2 ≤ d) {p0 : Nat} {p1 : Nat} {p2 : Option Nat} {p3 : Int32} {p4 : Int32} {p5 : Int32} {M : fM} {φ : fM → Prop} (h : w_X1_turnTo p0 p1 p2 p3 p4 p5 M φ) : FC g mtX1_turnTo d [.ref p0, .ref p1, fr p2, .int p3, .int p4, .int p5] M 0 0 (rV φ) := by
  obtain ⟨d, rfl⟩ : ∃ e, d = e + 1 := ⟨d - 1, by omega⟩
  unfold w_X1_turnTo at h
  refine FC.intro (nL := 7) (by decide) rfl (by decide) ?_
  show FW g mtX1_turnTo (d + 1) 0 [(0, .ref p0), (1, .ref p1), (2, fr p2), (3, .int p3), (4, .int p4), (5, .int p5)] [] M 0 0 (rV φ)
  refine fw_aload_n (i := 1) 1 rfl (by decide +kernel) ?_
  refine fw_iload (i := 4) 4 rfl (by decide +kernel) ?_
  obtain ⟨⟨hr49, n48, hs50⟩, h⟩ := h
  refine fw_callV (mt' := mtX5_houseOf) (mc := 0) (ms := 0) (As := [.int p4]) (rest := []) 1 5 n48 (by decide +kernel) cv_X1_18 ⟨_, rfl, rfl⟩ hr49 hs50 rfl (by decide) (s_X5_houseOf (d := d) (by omega) h) (by decide) (by decide) (kP (bc' := 0) (bs' := 0) (by decide) (by decide) (fun o51 M47 h => ?_))
  refine fw_astoreq (i := 6) (ls' := [(6, fr o51), (0, .ref p0), (1, .ref p1), (2, fr p2), (3, .int p3), (4, .int p4), (5, .int p5)]) (by decide +kernel) (by decide) rfl ?_
  refine fw_aload_n (i := 0) 1 rfl (by decide +kernel) ?_
  refine fw_aloadq_n (i := 2) 3 rfl (by decide +kernel) ?_
  obtain ⟨⟨hr53, n52, hs54⟩, h⟩ := h
  refine fw_putP (x := p2) (kd := 1) (k := 2) (by decide +kernel) ⟨gf_X1_24, _, rfl, Or.inl rfl⟩ hr53 hs54 rfl ?_
  refine FW.nmM (fun M55 eM56 => ?_)
  replace h := h M55 eM56
  refine fw_aload_n (i := 0) 1 rfl (by decide +kernel) ?_
  refine fw_aload_n (i := 1) 2 rfl (by decide +kernel) ?_
  obtain ⟨⟨hr58, n57, hs59⟩, h⟩ := h
  refine fw_getP (kd := 5) (k := 1) (by decide +kernel) gf_X1_28 hr58 hs59 rfl ?_
  obtain ⟨y60, hy61, h⟩ := dR_e h
  refine fw_deref hy61 ?_
  refine fw_iload_n (i := 3) 4 rfl (by decide +kernel) ?_
  refine fw_callSN (mt' := mtX10_cell) (mc := 0) (ms := 0) (As := [.ref y60, .int p3]) (rest := [.ref p0]) 2 "OneStepMore" (by decide +kernel) ns_X1_31 rfl (by decide) (s_X10_cell (d := d) (by omega) h) (by decide) (by decide) (kI (bc' := 0) (bs' := 0) (by decide) (by decide) (fun x63 M62 h => ?_))
  obtain ⟨⟨hr65, n64, hs66⟩, h⟩ := h
  refine fw_putI (kd := 1) (k := 3) (by decide +kernel) ⟨gf_X1_35, _, rfl, Or.inl rfl⟩ hr65 hs66 rfl ?_
  refine FW.nmM (fun M67 eM68 => ?_)
  replace h := h M67 eM68
  refine fw_aload_n (i := 0) 1 rfl (by decide +kernel) ?_
  refine fw_aload_n (i := 1) 2 rfl (by decide +kernel) ?_
  obtain ⟨⟨hr70, n69, hs71⟩, h⟩ := h
  refine fw_getP (kd := 5) (k := 2) (by decide +kernel) gf_X1_39 hr70 hs71 rfl ?_
  obtain ⟨y72, hy73, h⟩ := dR_e h
  refine fw_deref hy73 ?_
  refine fw_iload_n (i := 3) 4 rfl (by decide +kernel) ?_
  refine fw_callSN (mt' := mtX10_cell) (mc := 0) (ms := 0) (As := [.ref y72, .int p3]) (rest := [.ref p0]) 2 "OneStepMore" (by decide +kernel) ns_X1_31 rfl (by decide) (s_X10_cell (d := d) (by omega) h) (by decide) (by decide) (kI (bc' := 0) (bs' := 0) (by decide) (by decide) (fun x75 M74 h => ?_))
  obtain ⟨⟨hr77, n76, hs78⟩, h⟩ := h
  refine fw_putI (kd := 1) (k := 4) (by decide +kernel) ⟨gf_X1_42, _, rfl, Or.inl rfl⟩ hr77 hs78 rfl ?_
  refine FW.nmM (fun M79 eM80 => ?_)
  replace h := h M79 eM80
  refine fw_aload_n (i := 0) 1 rfl (by decide +kernel) ?_
  refine fw_getP (kd := 1) (k := 0) (by decide +kernel) gf_X1_9 hr77 (mSw_I eM80 hs78) rfl ?_
  obtain ⟨y81, hy82, h⟩ := dR_e h
  refine fw_deref hy82 ?_
  refine fw_iconst (v := (0 : Int32)) (by decide +kernel) (by decide) ?_
  refine fw_iload_n (i := 3) 4 rfl (by decide +kernel) ?_
  obtain ⟨hr86, ⟨n83, hs84, hi85⟩, h⟩ := h
  refine fw_iast (by decide +kernel) hr86 hs84 hi85 ?_
  refine FW.nmM (fun M87 eM88 => ?_)
  replace h := h M87 eM88
  refine fw_aload_n (i := 0) 1 rfl (by decide +kernel) ?_
  refine fw_getP (kd := 1) (k := 0) (by decide +kernel) gf_X1_9 hr77 (mSw_I eM88 (mSw_I eM80 hs78)) rfl ?_
  obtain ⟨y89, hy90, h⟩ := dR_e h
  refine fw_deref hy90 ?_
  refine fw_iconst (v := (1 : Int32)) (by decide +kernel) (by decide) ?_
  refine fw_iload (i := 4) 5 rfl (by decide +kernel) ?_
  obtain ⟨hr94, ⟨n91, hs92, hi93⟩, h⟩ := h
  refine fw_iast (by decide +kernel) hr94 hs92 hi93 ?_
  refine FW.nmM (fun M95 eM96 => ?_)
  replace h := h M95 eM96
  refine fw_aload_n (i := 0) 1 rfl (by decide +kernel) ?_
  refine fw_getP (kd := 1) (k := 0) (by decide +kernel) gf_X1_9 hr77 (mSw_I eM96 (mSw_I eM88 (mSw_I eM80 hs78))) rfl ?_
  obtain ⟨y97, hy98, h⟩ := dR_e h
  refine fw_deref hy98 ?_
  refine fw_iconst (v := (2 : Int32)) (by decide +kernel) (by decide) ?_
  refine fw_aloadq (i := 6) 0 rfl (by decide +kernel) ?_
  refine fw_ifnonnull (x := o51) 66 (by decide +kernel) (by decide) (fun y99 hy100 => ?_) (fun hy100 => ?_)
  · replace h := gN_s hy100 h
    subst hy100
    refine fw_aload (i := 6) 0 rfl (by decide +kernel) ?_
    obtain ⟨⟨hr102, n101, hs103⟩, h⟩ := h
    refine fw_getI (kd := 0) (k := 0) (by decide +kernel) gf_X1_45 hr102 hs103 (Or.inl rfl) ?_
    refine FW.sub [1, 2, 6] (ls' := [(0, .ref p0), (1, .ref p1), (5, .int p5)]) rfl ?_
    exact sj_X1_turnTo_71 hd h
  · replace h := gN_n hy100 h
    subst hy100
    refine fw_iconst (v := (0 : Int32)) (by decide +kernel) (by decide) ?_
    refine fw_goto 71 (by decide +kernel) (by decide) ?_
    refine FW.sub [1, 2, 6] (ls' := [(0, .ref p0), (1, .ref p1), (5, .int p5)]) rfl ?_
    exact sj_X1_turnTo_71 hd h
def j_X1_face_62 (φ : fM → Prop) (s0 : Int32) (s1 : Int32) (s2 : Nat) (M : fM) : Prop := 6 ≤ s2 ∧ inA M s2 12 s1 ∧ st (wI M s2 (ix s1) s0) fun M5 => φ M5
theorem sj_X1_face_62 {g : GT} {d : Nat} (hd : 3 ≤ d + 1) {φ : fM → Prop} {s0 : Int32} {s1 : Int32} {s2 : Nat} {M : fM} (h : j_X1_face_62 φ s0 s1 s2 M) : FW g mtX1_face (d + 1) 62 [] [.int s0, .int s1, .ref s2] M 0 0 (rV φ) := by
  unfold j_X1_face_62 at h
  obtain ⟨hr4, ⟨n1, hs2, hi3⟩, h⟩ := h
  refine fw_iast (by decide +kernel) hr4 hs2 hi3 ?_
  refine FW.nmM (fun M5 eM6 => ?_)
  replace h := h M5 eM6
  exact fw_ret (v := none) .return_ (by decide +kernel) ⟨rfl, rfl⟩ ⟨rfl, h⟩
def j_X1_face_61 (φ : fM → Prop) (s0 : Int32) (s1 : Nat) (M : fM) : Prop := j_X1_face_62 φ (0 : Int32) s0 s1 M
theorem sj_X1_face_61 {g : GT} {d : Nat} (hd : 3 ≤ d + 1) {φ : fM → Prop} {s0 : Int32} {s1 : Nat} {M : fM} (h : j_X1_face_61 φ s0 s1 M) : FW g mtX1_face (d + 1) 61 [] [.int s0, .ref s1] M 0 0 (rV φ) := by
  unfold j_X1_face_61 at h
  refine fw_iconst (v := (0 : Int32)) (by decide +kernel) (by decide) ?_
  refine FW.sub [] (ls' := []) rfl ?_
  exact sj_X1_face_62 hd h
def w_X1_face (p0 : Nat) (p1 : Nat) (p2 : Int32) (M : fM) (φ : fM → Prop) : Prop := isO M p0 1 ∧ dR (mP M p0 0) fun y10 => 6 ≤ y10 ∧ inA M y10 12 (6 : Int32) ∧ st (wI M y10 (ix (6 : Int32)) p2) fun M16 => dR (mP M16 p0 0) fun y18 => isO M16 p1 0 ∧ w_X0_highOf p1 p2 M16 fun x24 M20 => 6 ≤ y18 ∧ inA M20 y18 12 (7 : Int32) ∧ st (wI M20 y18 (ix (7 : Int32)) x24) fun M29 => isO M29 p0 1 ∧ dR (mP M29 p0 0) fun y34 => isO M29 p1 0 ∧ w_X0_highOf p1 (p2 - (1 : Int32)) M29 fun x40 M36 => 6 ≤ y34 ∧ inA M36 y34 12 (8 : Int32) ∧ st (wI M36 y34 (ix (8 : Int32)) x40) fun M45 => isO M45 p0 1 ∧ dR (mP M45 p0 0) fun y50 => isO M45 p1 0 ∧ if (mI M45 p1 3) < p2 then (j_X1_face_61 φ (9 : Int32) y50 M45) else (dR (mP M45 p0 0) fun y55 => inA M45 y55 12 (4 : Int32) ∧ if (mI M45 y55 (ix (4 : Int32))) = 0 then (j_X1_face_62 φ (1 : Int32) (9 : Int32) y50 M45) else (j_X1_face_61 φ (9 : Int32) y50 M45))
theorem s_X1_face {g : GT} {d : Nat} (hd : 3 ≤ d) {p0 : Nat} {p1 : Nat} {p2 : Int32} {M : fM} {φ : fM → Prop} (h : w_X1_face p0 p1 p2 M φ) : FC g mtX1_face d [.ref p0, .ref p1, .int p2] M 0 0 (rV φ) := by
  obtain ⟨d, rfl⟩ : ∃ e, d = e + 1 := ⟨d - 1, by omega⟩
  unfold w_X1_face at h
  refine FC.intro (nL := 3) (by decide) rfl (by decide) ?_
  show FW g mtX1_face (d + 1) 0 [(0, .ref p0), (1, .ref p1), (2, .int p2)] [] M 0 0 (rV φ)
  refine fw_aload_n (i := 0) 0 rfl (by decide +kernel) ?_
  obtain ⟨⟨hr8, n7, hs9⟩, h⟩ := h
  refine fw_getP (kd := 1) (k := 0) (by decide +kernel) gf_X1_9 hr8 hs9 rfl ?_
  obtain ⟨y10, hy11, h⟩ := dR_e h
  refine fw_deref hy11 ?_
  refine fw_bipush (v := (6 : Int32)) (by decide +kernel) (by decide) ?_
  refine fw_iload_n (i := 2) 2 rfl (by decide +kernel) ?_
  obtain ⟨hr15, ⟨n12, hs13, hi14⟩, h⟩ := h
  refine fw_iast (by decide +kernel) hr15 hs13 hi14 ?_
  refine FW.nmM (fun M16 eM17 => ?_)
  replace h := h M16 eM17
  refine fw_aload_n (i := 0) 0 rfl (by decide +kernel) ?_
  refine fw_getP (kd := 1) (k := 0) (by decide +kernel) gf_X1_9 hr8 (mSw_I eM17 hs9) rfl ?_
  obtain ⟨y18, hy19, h⟩ := dR_e h
  refine fw_deref hy19 ?_
  refine fw_bipush (v := (7 : Int32)) (by decide +kernel) (by decide) ?_
  refine fw_aload_n (i := 1) 1 rfl (by decide +kernel) ?_
  refine fw_iload_n (i := 2) 2 rfl (by decide +kernel) ?_
  obtain ⟨⟨hr22, n21, hs23⟩, h⟩ := h
  refine fw_callV (mt' := mtX0_highOf) (mc := 0) (ms := 0) (As := [.int p2]) (rest := [.int (7 : Int32), .ref y18]) 1 0 n21 (by decide +kernel) cv_X1_53 ⟨_, rfl, rfl⟩ hr22 hs23 rfl (by decide) (s_X0_highOf (d := d) (by omega) h) (by decide) (by decide) (kI (bc' := 0) (bs' := 0) (by decide) (by decide) (fun x24 M20 h => ?_))
  obtain ⟨hr28, ⟨n25, hs26, hi27⟩, h⟩ := h
  refine fw_iast (by decide +kernel) hr28 hs26 hi27 ?_
  refine FW.nmM (fun M29 eM30 => ?_)
  replace h := h M29 eM30
  refine fw_aload_n (i := 0) 0 rfl (by decide +kernel) ?_
  obtain ⟨⟨hr32, n31, hs33⟩, h⟩ := h
  refine fw_getP (kd := 1) (k := 0) (by decide +kernel) gf_X1_9 hr32 hs33 rfl ?_
  obtain ⟨y34, hy35, h⟩ := dR_e h
  refine fw_deref hy35 ?_
  refine fw_bipush (v := (8 : Int32)) (by decide +kernel) (by decide) ?_
  refine fw_aload_n (i := 1) 1 rfl (by decide +kernel) ?_
  refine fw_iload_n (i := 2) 2 rfl (by decide +kernel) ?_
  refine fw_iconst (v := (1 : Int32)) (by decide +kernel) (by decide) ?_
  refine fw_isub (by decide +kernel) ?_
  obtain ⟨⟨hr38, n37, hs39⟩, h⟩ := h
  refine fw_callV (mt' := mtX0_highOf) (mc := 0) (ms := 0) (As := [.int (p2 - (1 : Int32))]) (rest := [.int (8 : Int32), .ref y34]) 1 0 n37 (by decide +kernel) cv_X1_53 ⟨_, rfl, rfl⟩ hr38 hs39 rfl (by decide) (s_X0_highOf (d := d) (by omega) h) (by decide) (by decide) (kI (bc' := 0) (bs' := 0) (by decide) (by decide) (fun x40 M36 h => ?_))
  obtain ⟨hr44, ⟨n41, hs42, hi43⟩, h⟩ := h
  refine fw_iast (by decide +kernel) hr44 hs42 hi43 ?_
  refine FW.nmM (fun M45 eM46 => ?_)
  replace h := h M45 eM46
  refine fw_aload_n (i := 0) 0 rfl (by decide +kernel) ?_
  obtain ⟨⟨hr48, n47, hs49⟩, h⟩ := h
  refine fw_getP (kd := 1) (k := 0) (by decide +kernel) gf_X1_9 hr48 hs49 rfl ?_
  obtain ⟨y50, hy51, h⟩ := dR_e h
  refine fw_deref hy51 ?_
  refine fw_bipush (v := (9 : Int32)) (by decide +kernel) (by decide) ?_
  refine fw_iload_n (i := 2) 2 rfl (by decide +kernel) ?_
  refine fw_aload_n (i := 1) 1 rfl (by decide +kernel) ?_
  obtain ⟨⟨hr53, n52, hs54⟩, h⟩ := h
  refine fw_getI (kd := 0) (k := 3) (by decide +kernel) gf_X1_57 hr53 hs54 (Or.inl rfl) ?_
  refine fw_icmp_gt 61 (by decide +kernel) (by decide) (fun hc61 => ?_) (fun hc61 => ?_)
  · replace h := ipos hc61 h
    refine FW.sub [] (ls' := []) rfl ?_
    exact sj_X1_face_61 hd h
  · replace h := ineg hc61 h
    refine fw_aload_n (i := 0) 0 rfl (by decide +kernel) ?_
    refine fw_getP (kd := 1) (k := 0) (by decide +kernel) gf_X1_9 hr48 hs49 rfl ?_
    obtain ⟨y55, hy56, h⟩ := dR_e h
    refine fw_deref hy56 ?_
    refine fw_iconst (v := (4 : Int32)) (by decide +kernel) (by decide) ?_
    obtain ⟨⟨n57, hs58, hi59⟩, h⟩ := h
    refine fw_iald (by decide +kernel) hs58 hi59 ?_
    refine fw_if_ne 61 (by decide +kernel) (by decide) (fun hc60 => ?_) (fun hc60 => ?_)
    · replace h := ineg hc60 h
      refine FW.sub [] (ls' := []) rfl ?_
      exact sj_X1_face_61 hd h
    · replace h := ipos hc60 h
      refine fw_iconst (v := (1 : Int32)) (by decide +kernel) (by decide) ?_
      refine fw_goto 62 (by decide +kernel) (by decide) ?_
      refine FW.sub [] (ls' := []) rfl ?_
      exact sj_X1_face_62 hd h
def w_X1_suppose (p0 : Nat) (p1 : Int32) (p2 : Int32) (M : fM) (φ : fM → Prop) : Prop := isO M p0 1 ∧ dR (mP M p0 0) fun y4 => 6 ≤ y4 ∧ inA M y4 12 (7 : Int32) ∧ st (wI M y4 (ix (7 : Int32)) p1) fun M10 => dR (mP M10 p0 0) fun y12 => 6 ≤ y12 ∧ inA M10 y12 12 (8 : Int32) ∧ st (wI M10 y12 (ix (8 : Int32)) p2) fun M18 => φ M18
theorem s_X1_suppose {g : GT} {d : Nat} (hd : 1 ≤ d) {p0 : Nat} {p1 : Int32} {p2 : Int32} {M : fM} {φ : fM → Prop} (h : w_X1_suppose p0 p1 p2 M φ) : FC g mtX1_suppose d [.ref p0, .int p1, .int p2] M 0 0 (rV φ) := by
  obtain ⟨d, rfl⟩ : ∃ e, d = e + 1 := ⟨d - 1, by omega⟩
  unfold w_X1_suppose at h
  refine FC.intro (nL := 3) (by decide) rfl (by decide) ?_
  show FW g mtX1_suppose (d + 1) 0 [(0, .ref p0), (1, .int p1), (2, .int p2)] [] M 0 0 (rV φ)
  refine fw_aload_n (i := 0) 0 rfl (by decide +kernel) ?_
  obtain ⟨⟨hr2, n1, hs3⟩, h⟩ := h
  refine fw_getP (kd := 1) (k := 0) (by decide +kernel) gf_X1_9 hr2 hs3 rfl ?_
  obtain ⟨y4, hy5, h⟩ := dR_e h
  refine fw_deref hy5 ?_
  refine fw_bipush (v := (7 : Int32)) (by decide +kernel) (by decide) ?_
  refine fw_iload_n (i := 1) 1 rfl (by decide +kernel) ?_
  obtain ⟨hr9, ⟨n6, hs7, hi8⟩, h⟩ := h
  refine fw_iast (by decide +kernel) hr9 hs7 hi8 ?_
  refine FW.nmM (fun M10 eM11 => ?_)
  replace h := h M10 eM11
  refine fw_aload_n (i := 0) 0 rfl (by decide +kernel) ?_
  refine fw_getP (kd := 1) (k := 0) (by decide +kernel) gf_X1_9 hr2 (mSw_I eM11 hs3) rfl ?_
  obtain ⟨y12, hy13, h⟩ := dR_e h
  refine fw_deref hy13 ?_
  refine fw_bipush (v := (8 : Int32)) (by decide +kernel) (by decide) ?_
  refine fw_iload_n (i := 2) 2 rfl (by decide +kernel) ?_
  obtain ⟨hr17, ⟨n14, hs15, hi16⟩, h⟩ := h
  refine fw_iast (by decide +kernel) hr17 hs15 hi16 ?_
  refine FW.nmM (fun M18 eM19 => ?_)
  replace h := h M18 eM19
  exact fw_ret (v := none) .return_ (by decide +kernel) ⟨rfl, rfl⟩ ⟨rfl, h⟩
def w_X1_rules (p0 : Nat) (p1 : Int32) (M : fM) (φ : Int32 → fM → Prop) : Prop := isO M p0 1 ∧ nm (mP M p0 2) fun o4 => gN o4 (fun y6 => nm (mP M p0 2) fun o8 => dR o8 fun y10 => isO M y10 8 ∧ dR (mP M y10 2) fun y15 => w_X10_cell y15 p1 M fun x18 M17 => if x18 ≤ 0 then (φ (0 : Int32) M17) else (φ (1 : Int32) M17)) (φ (0 : Int32) M)
theorem s_X1_rules {g : GT} {d : Nat} (hd : 2 ≤ d) {p0 : Nat} {p1 : Int32} {M : fM} {φ : Int32 → fM → Prop} (h : w_X1_rules p0 p1 M φ) : FC g mtX1_rules d [.ref p0, .int p1] M 0 0 (rI φ) := by
  obtain ⟨d, rfl⟩ : ∃ e, d = e + 1 := ⟨d - 1, by omega⟩
  unfold w_X1_rules at h
  refine FC.intro (nL := 2) (by decide) rfl (by decide) ?_
  show FW g mtX1_rules (d + 1) 0 [(0, .ref p0), (1, .int p1)] [] M 0 0 (rI φ)
  refine fw_aload_n (i := 0) 0 rfl (by decide +kernel) ?_
  obtain ⟨⟨hr2, n1, hs3⟩, h⟩ := h
  refine fw_getP (kd := 1) (k := 2) (by decide +kernel) gf_X1_24 hr2 hs3 rfl ?_
  refine fw_nmP (fun o4 eo5 => ?_)
  replace h := h o4 eo5
  refine fw_ifnull (x := o4) 25 (by decide +kernel) (by decide) (fun hy7 => ?_) (fun y6 hy7 => ?_)
  · replace h := gN_n hy7 h
    subst hy7
    refine fw_iconst (v := (0 : Int32)) (by decide +kernel) (by decide) ?_
    exact fw_ret (v := some (.int (0 : Int32))) .ireturn (by decide +kernel) ⟨rfl, Or.inr (Or.inl ⟨rfl, rfl⟩)⟩ ⟨_, rfl, h⟩
  · replace h := gN_s hy7 h
    subst hy7
    refine fw_aload_n (i := 0) 0 rfl (by decide +kernel) ?_
    refine fw_getP (kd := 1) (k := 2) (by decide +kernel) gf_X1_24 hr2 hs3 rfl ?_
    refine fw_nmP (fun o8 eo9 => ?_)
    replace h := h o8 eo9
    obtain ⟨y10, hy11, h⟩ := dR_e h
    subst hy11
    obtain ⟨⟨hr13, n12, hs14⟩, h⟩ := h
    refine fw_getP (kd := 8) (k := 2) (by decide +kernel) gf_X1_76 hr13 hs14 rfl ?_
    obtain ⟨y15, hy16, h⟩ := dR_e h
    refine fw_deref hy16 ?_
    refine fw_iload_n (i := 1) 1 rfl (by decide +kernel) ?_
    refine fw_callSN (mt' := mtX10_cell) (mc := 0) (ms := 0) (As := [.ref y15, .int p1]) (rest := []) 2 "OneStepMore" (by decide +kernel) ns_X1_31 rfl (by decide) (s_X10_cell (d := d) (by omega) h) (by decide) (by decide) (kI (bc' := 0) (bs' := 0) (by decide) (by decide) (fun x18 M17 h => ?_))
    refine fw_if_le 25 (by decide +kernel) (by decide) (fun hc19 => ?_) (fun hc19 => ?_)
    · replace h := ipos hc19 h
      refine fw_iconst (v := (0 : Int32)) (by decide +kernel) (by decide) ?_
      exact fw_ret (v := some (.int (0 : Int32))) .ireturn (by decide +kernel) ⟨rfl, Or.inr (Or.inl ⟨rfl, rfl⟩)⟩ ⟨_, rfl, h⟩
    · replace h := ineg hc19 h
      refine fw_iconst (v := (1 : Int32)) (by decide +kernel) (by decide) ?_
      refine fw_goto 26 (by decide +kernel) (by decide) ?_
      exact fw_ret (v := some (.int (1 : Int32))) .ireturn (by decide +kernel) ⟨rfl, Or.inr (Or.inl ⟨rfl, rfl⟩)⟩ ⟨_, rfl, h⟩
