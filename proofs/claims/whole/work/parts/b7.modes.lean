/-! ===== TEXT: the one's ways of reading, each from the next ===== -/
theorem c_open {L tl i d : Nat} {tp : Nat → Nat} {E : List (Nat × Nat)} {M : fM} {φ : Int32 → fM → Prop} (hS : Str L M) (hA : ArC M tp tl) (htl : tl ≤ 300) (rs : RS M tp tl E i) (hn : TKk tp tl i ≠ 61) (hd : d ≤ 8) (h1 : d < 8 → ∀ M2, FrX pO M M2 → RS M2 tp tl E (i + 1) → φ 1 M2) (h0 : d = 8 → ∀ M2, FrX pR M M2 → mI M2 51 0 = nI 3 → mI M2 51 1 = nI (poS tp tl i) → φ 0 M2) : w_X4_opens 51 (nI d) M φ := by
  by_cases z : d < 8
  · exact iF_t ((nIlt (b := 8) (by omega) (by omega)).mpr z) ⟨isO_pt hS (by decide) rfl, c_adv hS hA htl rs hn (h1 z)⟩
  · exact iF_f (fun c => z ((nIlt (b := 8) (by omega) (by omega)).mp c)) ⟨isO_pt hS (by decide) rfl, c_flt (f := 3) hS hA htl rs rfl fun M2 f a b => ⟨isB0, h0 (by omega) M2 f a b⟩⟩
theorem md_P {L tl so d0 n d : Nat} {tp : Nat → Nat} (htl : tl ≤ 300) (hd8 : d ≤ 8) (hO : SpO L tp tl so d0 n d) : SpG L tp tl so d0 (n + 1) 4 d false (preP d) (posP tp tl) := by
  intro M E i P φ hS hA rs h10 hE hd hpre h23 hz1 hz0
  show bd_X4_readProduct (prs n) 51 (nI d) M φ
  refine ⟨isO_pt hS (by decide) rfl, ?_⟩
  refine hO M E i P (fun x M2 => iF (x = 0) (φ (0 : Int32) M2) (∃ m, l_X4_readProduct_12 (prs n) φ m 51 (nI d) (0 : Int32) M2)) hS hA rs h10 hE hd (by have := hpre.1; omega) (h23 (by decide)) (fun M2 em j f r hl hl0 ty ok => iF_f (by decide) ⟨tl + 2, ?_⟩) (fun M2 f j fr e0 e1 hf rf => iF_t rfl (hz0 M2 f j fr e0 e1 hf rf))
  exact lp_P (L := L) (M0 := M) htl hd8 hO hd hpre hE hz1 hz0 (tl + 2) 0 j M2 em [] (by omega) (Nat.zero_le _) (f.S hS) (hA.x f.r) f ((f.2 51 10 (by unfold pO; omega)).trans h10) r hl hl0 ty (fun x hx => absurd hx List.not_mem_nil) (ok.r (hpre.2.mn (by omega)))
theorem md_S {L tl so d0 n d : Nat} {tp : Nat → Nat} (htl : tl ≤ 300) (hd8 : d ≤ 8) (hP : SpG L tp tl so d0 n 4 d false (preP d) (posP tp tl)) : SpG L tp tl so d0 (n + 1) 3 d false (preS d) (posS tp tl) := by
  intro M E i P φ hS hA rs h10 hE hd hpre h23 hz1 hz0
  show bd_X4_readSum (prs n) 51 (nI d) M φ
  refine ⟨isO_pt hS (by decide) rfl, ?_⟩
  refine hP M E i P (fun x M2 => iF (x = 0) (φ (0 : Int32) M2) (∃ m, l_X4_readSum_12 (prs n) φ m 51 (nI d) (0 : Int32) M2)) hS hA rs h10 hE hd ⟨by have := hpre.1; omega, hpre.2.mn (by omega)⟩ (fun _ => h23 (by decide)) (fun M2 em j Q f r hl hl0 ty po ok => iF_f (by decide) ⟨tl + 2, ?_⟩) (fun M2 f j fr e0 e1 hf rf => iF_t rfl (hz0 M2 f j fr e0 e1 hf rf))
  exact lp_S (L := L) (M0 := M) htl hd8 hP hd hpre hE hz1 hz0 (tl + 2) 0 j M2 em Q (by omega) (Nat.zero_le _) (f.S hS) (hA.x f.r) f ((f.2 51 10 (by unfold pO; omega)).trans h10) r hl hl0 ty (fun x hx => ⟨Nat.le_trans (by omega) (po.1 x hx).1, (po.1 x hx).2⟩) ok po.2.1 po.2.2
theorem md_B {L tl so d0 n d : Nat} {tp : Nat → Nat} (htl : tl ≤ 300) (hd8 : d ≤ 8) (hA2 : SpG L tp tl so d0 n 2 d true (preA d0 d) (posA tp tl)) : SpG L tp tl so d0 (n + 1) 1 d true (preB d0 d) (posB tp tl) := by
  intro M E i P φ hS hA rs h10 hE hd hpre h23 hz1 hz0
  show bd_X4_readBoth (prs n) 51 (nI d) M φ
  refine ⟨isO_pt hS (by decide) rfl, ?_⟩
  refine hA2 M E i P (fun x M2 => iF (x = 0) (φ (0 : Int32) M2) (∃ m, l_X4_readBoth_12 (prs n) φ m 51 (nI d) (0 : Int32) M2)) hS hA rs h10 hE hd ⟨by have := hpre.1; omega, hpre.2.1, hpre.2.2.1⟩ (fun c => absurd c (by decide)) (fun M2 em j Q f r hl hl0 ty po ok => iF_f (by decide) ⟨tl + 2, ?_⟩) (fun M2 f j fr e0 e1 hf rf => iF_t rfl (hz0 M2 f j fr e0 e1 hf rf))
  exact lp_B (L := L) (M0 := M) htl hd8 hA2 hd hpre hE hz1 hz0 (tl + 2) 0 j M2 em Q (by omega) (Nat.zero_le _) (f.S hS) (hA.x f.r) f ((f.2 51 10 (by unfold pO; omega)).trans h10) r hl hl0 ty (fun x hx => ⟨Nat.le_trans (by omega) (po.1 x hx).1, (po.1 x hx).2⟩) po.2.1 ok po.2.2.1 po.2.2.2.1 po.2.2.2.2.1 po.2.2.2.2.2
theorem md_E {L tl so d0 n d : Nat} {tp : Nat → Nat} (htl : tl ≤ 300) (hd8 : d ≤ 8) (hB : SpG L tp tl so d0 n 1 d true (preB d0 d) (posB tp tl)) : SpG L tp tl so d0 (n + 1) 0 d true (preE d0 d) (posE tp tl) := by
  intro M E i P φ hS hA rs h10 hE hd hpre h23 hz1 hz0
  show bd_X4_readEither (prs n) 51 (nI d) M φ
  refine ⟨isO_pt hS (by decide) rfl, ?_⟩
  refine hB M E i P (fun x M2 => iF (x = 0) (φ (0 : Int32) M2) (∃ m, l_X4_readEither_12 (prs n) φ m 51 (nI d) (0 : Int32) M2)) hS hA rs h10 hE hd ⟨by have := hpre.1; omega, hpre.2.1, hpre.2.2.1, hpre.2.2.2.mn (by omega)⟩ (fun c => absurd c (by decide)) (fun M2 em j Q f r hl hl0 ty po ok => iF_f (by decide) ⟨tl + 2, ?_⟩) (fun M2 f j fr e0 e1 hf rf => iF_t rfl (hz0 M2 f j fr e0 e1 hf rf))
  exact lp_E (L := L) (M0 := M) htl hd8 hB hd hpre hE hz1 hz0 (tl + 2) 0 j M2 em Q (by omega) (Nat.zero_le _) (f.S hS) (hA.x f.r) f ((f.2 51 10 (by unfold pO; omega)).trans h10) r hl hl0 ty (fun x hx => ⟨Nat.le_trans (by omega) (po.1 x hx).1, (po.1 x hx).2⟩) po.2.1 ok po.2.2.1 po.2.2.2.1 po.2.2.2.2.1 po.2.2.2.2.2.1 po.2.2.2.2.2.2
theorem hdA_c {P : List Nat} (h : hdA P = true) : cmpd P = false := by
  cases P with
  | nil => rfl
  | cons o P =>
    have h : o = 41 ∨ (1 ≤ rk o ∧ rk o ≤ 3) := of_decide_eq_true h
    have e : rk o ≤ 3 := by
      rcases h with h | h
      · rw [h]
        decide
      · exact h.2
    show (if 4 < rk o then cmpd P else decide (rk o = 4)) = false
    rw [if_neg (by omega)]
    exact decide_eq_false (by omega)
theorem hdA_t {P : List Nat} (h : hdA P = true) : tR P 4 := by
  cases P with
  | nil => trivial
  | cons o P =>
    have h : o = 41 ∨ (1 ≤ rk o ∧ rk o ≤ 3) := of_decide_eq_true h
    show rk o < 4
    rcases h with h | h
    · rw [h]
      decide
    · omega
theorem OKr.pre {T V : Nat → Nat} {d so i j o : Nat} {P Q : List Nat} {em : List (Nat × Nat)} (h0 : ∀ E0, Rc T V d so (P, E0, false, i) (o :: P, E0, false, i + 1)) (h : OKr T V d so (o :: P) (i + 1) em Q j) : OKr T V d so P i (em ++ [(o, 0)]) (Q ++ [o]) j := by
  intro E0
  obtain ⟨E1, r, e⟩ := h E0
  refine ⟨E1, (h0 E0).tr ?_, ?_⟩
  · rw [List.append_assoc]
    exact r
  · rw [zp_a, ← List.append_assoc, e, List.append_assoc]
    rfl
theorem md_A {L tl so d0 n d : Nat} {tp : Nat → Nat} (htl : tl ≤ 300) (hd8 : d ≤ 8) (hSu : SpG L tp tl so d0 n 3 d false (preS d) (posS tp tl)) (hA2 : d < 8 → SpG L tp tl so d0 n 2 (d + 1) true (preA d0 (d + 1)) (posA tp tl)) : SpG L tp tl so d0 (n + 1) 2 d true (preA d0 d) (posA tp tl) := by
  intro M E i P φ hS hA rs h10 hE hd hpre h23 hz1 hz0
  show bd_X4_readAsk (prs n) 51 (nI d) M φ
  have pl := hpre.1
  refine ⟨isO_pt hS (by decide) rfl, ?_⟩
  by_cases z : TKk tp tl i = 23
  · refine iF_t ((rs.k 23 (by omega)).mpr z) ?_
    have ho : ∀ E0, s1 (TKk tp tl) (TKv tp tl) d0 so (P, E0, false, i) = opb 20 P E0 i := fun E0 => op_opb (Or.inr (Or.inr (Or.inr ⟨z, rfl, hpre.2.1, hpre.2.2⟩)))
    refine c_open (φ := fun x31 M30 => iF (x31 = 0) (φ (0 : Int32) M30) (isO M30 51 4 ∧ prs n 2 51 (nI d + (1 : Int32)) M30 fun x36 M32 => iF (x36 = 0) (φ (0 : Int32) M32) (isO M32 51 4 ∧ w_X4_emit 51 (-23 : Int32) M32 fun M37 => φ (1 : Int32) M37))) hS hA htl rs (by omega) hd8 (fun hlt M1 f1 r1 => iF_f (by decide) ?_) (fun h8 M1 f1 e0 e1 => iF_t rfl (hz0 M1 3 i f1 e0 e1 (by omega) fun E0 => opb_F (ho E0) (by omega)))
    have hS1 := f1.S hS
    have hop : ∀ E0, Rc (TKk tp tl) (TKv tp tl) d0 so (P, E0, false, i) (20 :: P, E0, false, i + 1) := fun E0 => opb_R (ho E0) (by omega) (by omega)
    have hlo : (20 :: P).length ≤ 6 * (d + 1) + 2 := by
      show P.length + 1 ≤ _
      omega
    have hcn : cnO (20 :: P) = d + 1 := by
      show 1 + cnO P = d + 1
      omega
    refine ⟨isO_pt hS1 (by decide) rfl, ?_⟩
    rw [show nI d + (1 : Int32) = nI (d + 1) from nI_add _ 1]
    refine hA2 hlt M1 E (i + 1) (20 :: P) (fun x36 M32 => iF (x36 = 0) (φ (0 : Int32) M32) (isO M32 51 4 ∧ w_X4_emit 51 (-23 : Int32) M32 fun M37 => φ (1 : Int32) M37)) hS1 (hA.x f1.r) r1 ((f1.2 51 10 (by unfold pO; omega)).trans h10) (by omega) hcn ⟨hlo, hpre.2.1, rfl⟩ (fun c => absurd c (by decide)) (fun M2 em j Q f2 r2 hl hl0 ty po ok => iF_f (by decide) ?_) (fun M2 f j f2 e0 e1 hf rf => iF_t rfl (hz0 M2 f j (f1.r.tr f2) e0 e1 hf fun E0 => RF.tr (hop E0) (rf E0)))
    have hS2 := f2.S hS1
    have hj := lvT_l r2.2.2.2.2.2
    refine ⟨isO_pt hS2 (by decide) rfl, c_emit (x := (20, 0)) hS2 r2 (by rw [List.length_append]; omega) rfl fun M3 f3 r3 => ?_⟩
    rw [List.append_assoc] at r3
    have hcm : cmpd ((Q ++ [20]) ++ P) = true := by
      rw [List.append_assoc]
      exact po.2.1
    have hl3 : (em ++ [(20, 0)]).length = em.length + 1 := by
      rw [List.length_append]
      rfl
    exact hz1 M3 (em ++ [(20, 0)]) j (Q ++ [20]) ((f1.tr f2).tr f3) r3 (by omega) (by omega) (ty.un (by omega) fun t => tyS_no) ⟨q1_m po.1 (by decide), hcm, po.2.2⟩ (OKr.pre hop ok)
  · refine iF_f (fun c => z ((rs.k 23 (by omega)).mp c)) ?_
    refine hSu M E i P (fun x10 M9 => iF (x10 = 0) (φ (0 : Int32) M9) (isO M9 51 4 ∧ nm (mI M9 51 12) fun x14 => iF (x14 < (44 : Int32)) (j_X4_readAsk_64 (prs n) φ 51 M9) (iF (x14 ≤ (49 : Int32)) (w_X4_advance 51 M9 fun M16 => isO M16 51 4 ∧ prs n 3 51 (nI d) M16 fun x21 M17 => iF (x21 = 0) (φ (0 : Int32) M17) (isO M17 51 4 ∧ w_X4_emit 51 (-x14) M17 fun M22 => φ (1 : Int32) M22)) (j_X4_readAsk_64 (prs n) φ 51 M9)))) hS hA rs h10 hE hd ⟨by omega, (hdA_t hpre.2.2).mn (by omega)⟩ (fun _ c => z c.1) (fun M1 em j Q f1 r1 hl hl0 ty po ok => iF_f (by decide) ?_) (fun M2 f j fr e0 e1 hf rf => iF_t rfl (hz0 M2 f j fr e0 e1 hf rf))
    have hS1 := f1.S hS
    have kb : TKk tp tl j ≤ 62 := tkK_b _ _ _
    have cm0 : cmpd (Q ++ P) = false := (cmpd_q Q fun x hx => (po.1 x hx).1).trans (hdA_c hpre.2.2)
    have mk : mkK d0 (Q ++ P) = 41 := (mkK_q Q fun x hx => (po.1 x hx).2).trans hpre.2.1
    have bad : ¬ (44 ≤ TKk tp tl j ∧ TKk tp tl j ≤ 49) → j_X4_readAsk_64 (prs n) φ 51 M1 := by
      intro hn
      refine ⟨isO_pt hS1 (by decide) rfl, c_flt (f := 1) hS1 (hA.x f1.r) htl r1 rfl fun M2 f2 e0 e1 => ⟨isB0, hz0 M2 1 j (f1.r.tr f2) e0 e1 (by omega) ?_⟩⟩
      have hb : bwO d0 (TKk tp tl j) (Q ++ P) = 99 := by
        unfold bwO
        rw [if_neg po.2.2.2.1, if_neg po.2.2.2.2, if_neg po.2.1, if_neg po.2.2.1, if_pos mk, cm0, if_neg (by decide), if_neg hn]
      refine ok.stop hb ?_ ?_ ?_
      · have := mkK_n mk
        omega
      · have := mkK_n mk
        rw [cm0]
        rintro (⟨_, _, c⟩ | c)
        · exact absurd c (by decide)
        · omega
      · rcases mkK_99 mk with h | h
        · exact Or.inr ⟨h, cm0⟩
        · exact Or.inl (by omega)
    refine ⟨isO_pt hS1 (by decide) rfl, nm_of ?_⟩
    rw [r1.2.1]
    by_cases z1 : TKk tp tl j < 44
    · exact iF_t ((nIlt (b := 44) (by omega) (by omega)).mpr z1) (bad (by omega))
    refine iF_f (fun c => z1 ((nIlt (b := 44) (by omega) (by omega)).mp c)) ?_
    by_cases z2 : TKk tp tl j ≤ 49
    · refine iF_t ((nIle (b := 49) (by omega) (by omega)).mpr z2) ?_
      obtain ⟨o, ho⟩ : ∃ o, TKk tp tl j = o + 34 := ⟨TKk tp tl j - 34, by omega⟩
      have rko : rk o = 4 := by
        have : o = 10 ∨ o = 11 ∨ o = 12 ∨ o = 13 ∨ o = 14 ∨ o = 15 := by omega
        rcases this with e | e | e | e | e | e <;> (rw [e]; rfl)
      have opo : opn o = 0 := by
        unfold opn
        rw [if_neg (by omega)]
      have hb : bwO d0 (TKk tp tl j) (Q ++ P) = o := by
        unfold bwO
        rw [if_neg po.2.2.2.1, if_neg po.2.2.2.2, if_neg po.2.1, if_neg po.2.2.1, if_pos mk, cm0, if_neg (by decide), if_pos ⟨by omega, z2⟩]
        omega
      have hqo : ∀ x ∈ Q, rk o ≤ rk x := fun x hx => by
        have := (po.1 x hx).1
        omega
      have hcn : cnO (o :: P) = d := by
        show opn o + cnO P = d
        omega
      have hlo : (o :: P).length ≤ 6 * d + 3 := by
        show P.length + 1 ≤ _
        omega
      have htr : tR P (rk o) := by
        rw [rko]
        exact hdA_t hpre.2.2
      refine c_adv hS1 (hA.x f1.r) htl r1 (by omega) fun M2 f2 r2 => ?_
      have hS2 := f2.S hS1
      refine ⟨isO_pt hS2 (by decide) rfl, ?_⟩
      refine hSu M2 (E ++ em) (j + 1) (o :: P) (fun x21 M17 => iF (x21 = 0) (φ (0 : Int32) M17) (isO M17 51 4 ∧ w_X4_emit 51 (-nI (TKk tp tl j)) M17 fun M22 => φ (1 : Int32) M22)) hS2 (hA.x (f1.tr f2).r) r2 (((f1.tr f2).2 51 10 (by unfold pO; omega)).trans h10) (by rw [List.length_append]; omega) hcn ⟨hlo, show rk o < 5 by omega⟩ (fun _ => no23_r (by omega) (Or.inr (by omega))) (fun M3 em2 j2 Q2 f3 r3 l2 l20 ty2 po2 oo => iF_f (by decide) ?_) (fun M3 f k f3 e0 e1 hf rf => iF_t rfl (hz0 M3 f k ((f1.tr f2).r.tr f3) e0 e1 hf (ok.opF hb (by omega) hqo htr (by omega) rf)))
      have hS3 := f3.S hS2
      have hlv3 := lvT_l r3.2.2.2.2.2
      refine ⟨isO_pt hS3 (by decide) rfl, c_emit (x := (o, 0)) hS3 r3 (by rw [List.length_append, List.length_append]; omega) ?_ fun M4 f4 r4 => ?_⟩
      · rw [ho]
        have : o = 10 ∨ o = 11 ∨ o = 12 ∨ o = 13 ∨ o = 14 ∨ o = 15 := by omega
        rcases this with e | e | e | e | e | e <;> (rw [e]; rfl)
      rw [ap3] at r4
      have hcm : cmpd ((Q2 ++ [o]) ++ P) = true := by
        rw [List.append_assoc, cmpd_q Q2 fun x hx => (po2.1 x hx).1]
        show (if 4 < rk o then cmpd P else decide (rk o = 4)) = true
        rw [rko]
        rfl
      exact hz1 M4 (em ++ em2 ++ [(o, 0)]) j2 (Q2 ++ [o]) (((f1.tr f2).tr f3).tr f4) r4 (by rw [ln3]; omega) (by rw [ln3]; omega) (ty.bi ty2 (by omega) fun t => tyS_cm (by omega)) ⟨q1_m (fun x hx => ⟨Nat.le_trans (by omega) (po2.1 x hx).1, (po2.1 x hx).2⟩) (by omega), hcm, po2.2⟩ (ok.op hb (by omega) hqo htr (by omega) oo)
    · exact iF_f (fun c => z2 ((nIle (b := 49) (by omega) (by omega)).mp c)) (bad (by omega))
