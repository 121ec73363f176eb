/-! ===== TEXT: a choice; all ways of reading at once ===== -/
theorem ap4 (E em em2 em3 : List (Nat × Nat)) (x : Nat × Nat) : E ++ em ++ em2 ++ em3 ++ [x] = E ++ (em ++ em2 ++ em3 ++ [x]) := by simp only [List.append_assoc]
theorem ln4 (em em2 em3 : List (Nat × Nat)) (x : Nat × Nat) : (em ++ em2 ++ em3 ++ [x]).length = em.length + em2.length + em3.length + 1 := by rw [List.length_append, List.length_append, List.length_append]; rfl
set_option maxHeartbeats 1000000 in
theorem md_C {L tl so d0 n d : Nat} {tp : Nat → Nat} (htl : tl ≤ 300) (hd8 : d ≤ 8) (hE2 : SpG L tp tl so d0 n 0 d true (preE d0 d) (posE tp tl)) (hSu : SpG L tp tl so d0 n 3 d false (preS d) (posS tp tl)) : SpC L tp tl so d0 (n + 1) d := by
  intro M E i P φ hS hA rs h10 hE hd hpl hz1 hz0
  show bd_X4_readChoice (prs n) 51 (nI d) M φ
  have cn2 : cnO (42 :: P) = d := by
    rw [← hd]
    rfl
  have cn3 : cnO (43 :: P) = d := by
    rw [← hd]
    rfl
  have lo1 : (41 :: P).length ≤ 6 * d := hpl
  have lo2 : (42 :: P).length ≤ 6 * d + 3 := by
    show P.length + 1 ≤ _
    omega
  have lo3 : (43 :: P).length ≤ 6 * d + 3 := by
    show P.length + 1 ≤ _
    omega
  refine ⟨isO_pt hS (by decide) rfl, ?_⟩
  refine hE2 M E i (41 :: P) (fun x5 M1 => iF (x5 = 0) (φ (0 : Int32) M1) (isO M1 51 4 ∧ w_X4_passes 51 (53 : Int32) M1 fun x10 M6 => iF (x10 = 0) (φ (0 : Int32) M6) (isO M6 51 4 ∧ prs n 3 51 (nI d) M6 fun x15 M11 => iF (x15 = 0) (φ (0 : Int32) M11) (isO M11 51 4 ∧ w_X4_passes 51 (54 : Int32) M11 fun x20 M16 => iF (x20 = 0) (φ (0 : Int32) M16) (isO M16 51 4 ∧ prs n 3 51 (nI d) M16 fun x25 M21 => iF (x25 = 0) (φ (0 : Int32) M21) (isO M21 51 4 ∧ w_X4_passes 51 (22 : Int32) M21 fun x30 M26 => iF (x30 = 0) (φ (0 : Int32) M26) (isO M26 51 4 ∧ w_X4_emit 51 (-21 : Int32) M26 fun M31 => φ (1 : Int32) M31))))))) hS hA rs h10 (by omega) hd ⟨lo1, rfl, rfl, show rk 41 < 1 by decide⟩ (fun c => absurd c (by decide)) (fun M1 em j Q f1 r1 hl hl0 ty po ok => iF_f (by decide) ?_) (fun M1 f j f1 e0 e1 hf rf => iF_t rfl (hz0 M1 f j f1 e0 e1 hf rf))
  have hS1 := f1.S hS
  have mk1 : mkK 99 (Q ++ 41 :: P) = 41 := mkK_o (fun x hx => (po.1 x hx).2) (by omega)
  have hb1 : bwO d0 (TKk tp tl j) (Q ++ 41 :: P) = 99 := bwO_99 po.2.2.2.2.1 po.2.2.2.2.2.1 po.2.2.1 po.2.2.2.1 (Or.inr ⟨po.2.1, po.2.2.2.2.2.2⟩)
  refine ⟨isO_pt hS1 (by decide) rfl, c_pass (t := 53) hS1 (hA.x f1.r) htl r1 rfl (by omega) (fun q1 M2 f2 r2 => iF_f (by decide) ?_) (fun q1 M2 f2 e0 e1 => iF_t rfl (hz0 M2 1 j (f1.r.tr f2) e0 e1 (by omega) (ok.stop hb1 (by omega) (by rintro (⟨c, -⟩ | c) <;> omega) (Or.inl (by omega)))))⟩
  have hS2 := f2.S hS1
  have f02 := f1.tr f2
  have t1 : ∀ E0, Rc (TKk tp tl) (TKv tp tl) d0 so (41 :: P, E0, false, i) (42 :: P, E0 ++ em, false, j + 1) := ok.trn po.1 hb1 (Or.inl ⟨q1, rfl, po.2.1⟩)
  refine ⟨isO_pt hS2 (by decide) rfl, ?_⟩
  have l1 : (E ++ em).length ≤ j + 1 := by
    rw [List.length_append]
    omega
  refine hSu M2 (E ++ em) (j + 1) (42 :: P) (fun x15 M11 => iF (x15 = 0) (φ (0 : Int32) M11) (isO M11 51 4 ∧ w_X4_passes 51 (54 : Int32) M11 fun x20 M16 => iF (x20 = 0) (φ (0 : Int32) M16) (isO M16 51 4 ∧ prs n 3 51 (nI d) M16 fun x25 M21 => iF (x25 = 0) (φ (0 : Int32) M21) (isO M21 51 4 ∧ w_X4_passes 51 (22 : Int32) M21 fun x30 M26 => iF (x30 = 0) (φ (0 : Int32) M26) (isO M26 51 4 ∧ w_X4_emit 51 (-21 : Int32) M26 fun M31 => φ (1 : Int32) M31))))) hS2 (hA.x f02.r) r2 ((f02.2 51 10 (by unfold pO; omega)).trans h10) l1 cn2 ⟨lo2, show rk 42 < 5 by decide⟩ (fun _ => no23_r (by decide) (Or.inl rfl)) (fun M3 em2 j2 Q2 f3 r3 l2 l20 ty2 po2 ok2 => iF_f (by decide) ?_) (fun M3 f k f3 e0 e1 hf rf => iF_t rfl (hz0 M3 f k (f02.r.tr f3) e0 e1 hf fun E0 => RF.tr (t1 E0) (rf _)))
  have hS3 := f3.S hS2
  have f03 := f02.tr f3
  have mk2 : mkK 99 (Q2 ++ 42 :: P) = 42 := mkK_o (fun x hx => (po2.1 x hx).2) (by omega)
  have mk2d : mkK d0 (Q2 ++ 42 :: P) = 42 := mkK_o (fun x hx => (po2.1 x hx).2) (by omega)
  have hb2 : bwO d0 (TKk tp tl j2) (Q2 ++ 42 :: P) = 99 := bwO_99 po2.2.2.2.1 po2.2.2.2.2 po2.2.1 po2.2.2.1 (Or.inl (by omega))
  refine ⟨isO_pt hS3 (by decide) rfl, c_pass (t := 54) hS3 (hA.x f03.r) htl r3 rfl (by omega) (fun q2 M4 f4 r4 => iF_f (by decide) ?_) (fun q2 M4 f4 e0 e1 => iF_t rfl (hz0 M4 1 j2 (f03.r.tr f4) e0 e1 (by omega) fun E0 => RF.tr (t1 E0) (ok2.stop hb2 (by omega) (by omega) (Or.inl (by omega)) _)))⟩
  have hS4 := f4.S hS3
  have f04 := f03.tr f4
  have t2 : ∀ E0, Rc (TKk tp tl) (TKv tp tl) d0 so (41 :: P, E0, false, i) (43 :: P, E0 ++ em ++ em2, false, j2 + 1) := fun E0 => (t1 E0).tr (ok2.trn (fun x hx => ⟨Nat.le_trans (by omega) (po2.1 x hx).1, (po2.1 x hx).2⟩) hb2 (Or.inr ⟨q2, rfl⟩) (E0 ++ em))
  refine ⟨isO_pt hS4 (by decide) rfl, ?_⟩
  have l2' : (E ++ em ++ em2).length ≤ j2 + 1 := by
    rw [List.length_append, List.length_append]
    omega
  refine hSu M4 (E ++ em ++ em2) (j2 + 1) (43 :: P) (fun x25 M21 => iF (x25 = 0) (φ (0 : Int32) M21) (isO M21 51 4 ∧ w_X4_passes 51 (22 : Int32) M21 fun x30 M26 => iF (x30 = 0) (φ (0 : Int32) M26) (isO M26 51 4 ∧ w_X4_emit 51 (-21 : Int32) M26 fun M31 => φ (1 : Int32) M31))) hS4 (hA.x f04.r) r4 ((f04.2 51 10 (by unfold pO; omega)).trans h10) l2' cn3 ⟨lo3, show rk 43 < 5 by decide⟩ (fun _ => no23_r (by decide) (Or.inl rfl)) (fun M5 em3 j3 Q3 f5 r5 l3 l30 ty3 po3 ok3 => iF_f (by decide) ?_) (fun M5 f k f5 e0 e1 hf rf => iF_t rfl (hz0 M5 f k (f04.r.tr f5) e0 e1 hf fun E0 => RF.tr (t2 E0) (rf _)))
  have hS5 := f5.S hS4
  have f05 := f04.tr f5
  have mk3 : mkK 99 (Q3 ++ 43 :: P) = 43 := mkK_o (fun x hx => (po3.1 x hx).2) (by omega)
  have mk3d : mkK d0 (Q3 ++ 43 :: P) = 43 := mkK_o (fun x hx => (po3.1 x hx).2) (by omega)
  have hb3 : bwO d0 (TKk tp tl j3) (Q3 ++ 43 :: P) = 99 := bwO_99 po3.2.2.2.1 po3.2.2.2.2 po3.2.1 po3.2.2.1 (Or.inl (by omega))
  refine ⟨isO_pt hS5 (by decide) rfl, c_pass (t := 22) hS5 (hA.x f05.r) htl r5 rfl (by omega) (fun q3 M6 f6 r6 => iF_f (by decide) ?_) (fun q3 M6 f6 e0 e1 => iF_t rfl (hz0 M6 1 j3 (f05.r.tr f6) e0 e1 (by omega) fun E0 => RF.tr (t2 E0) (ok3.stop hb3 (by omega) (by omega) (Or.inl (by omega)) _)))⟩
  have hS6 := f6.S hS5
  have f06 := f05.tr f6
  have hj6 := lvT_l r6.2.2.2.2.2
  refine ⟨isO_pt hS6 (by decide) rfl, c_emit (x := (2, 0)) hS6 r6 (by rw [List.length_append, List.length_append, List.length_append]; omega) rfl fun M7 f7 r7 => ?_⟩
  rw [ap4] at r7
  refine hz1 M7 (em ++ em2 ++ em3 ++ [(2, 0)]) (j3 + 1) (f06.tr f7) r7 (by rw [ln4]; omega) (by rw [ln4]; omega) (ty.se ty2 ty3) fun E0 => (t2 E0).tr ?_
  have q := ok3.cls (fun x hx => ⟨Nat.le_trans (by omega) (po3.1 x hx).1, (po3.1 x hx).2⟩) hb3 (Or.inr ⟨q3, rfl⟩) (E0 ++ em ++ em2)
  rw [if_pos rfl, ← List.append_assoc, ap4] at q
  exact q
theorem md_all {L tl so d0 : Nat} {tp : Nat → Nat} (htl : tl ≤ 300) (hso : so ≤ 4) : ∀ n d, d ≤ 8 → (7 * (8 - d) + 1 ≤ n → SpO L tp tl so d0 n d) ∧ (7 * (8 - d) + 2 ≤ n → SpG L tp tl so d0 n 4 d false (preP d) (posP tp tl)) ∧ (7 * (8 - d) + 3 ≤ n → SpG L tp tl so d0 n 3 d false (preS d) (posS tp tl)) ∧ (7 * (8 - d) + 4 ≤ n → SpG L tp tl so d0 n 2 d true (preA d0 d) (posA tp tl)) ∧ (7 * (8 - d) + 5 ≤ n → SpG L tp tl so d0 n 1 d true (preB d0 d) (posB tp tl)) ∧ (7 * (8 - d) + 6 ≤ n → SpG L tp tl so d0 n 0 d true (preE d0 d) (posE tp tl)) ∧ (7 * (8 - d) + 7 ≤ n → SpC L tp tl so d0 n d)
  | 0, d, hd => ⟨fun c => absurd c (by omega), fun c => absurd c (by omega), fun c => absurd c (by omega), fun c => absurd c (by omega), fun c => absurd c (by omega), fun c => absurd c (by omega), fun c => absurd c (by omega)⟩
  | n + 1, d, hd => by
    obtain ⟨a1, a2, a3, a4, a5, a6, a7⟩ := md_all (L := L) (tp := tp) (d0 := d0) htl hso n d hd
    have up := md_all (L := L) (tp := tp) (d0 := d0) htl hso n (d + 1)
    exact ⟨fun h => md_O htl hd hso (fun z => (up (by omega)).2.2.1 (by omega)) (fun z => (up (by omega)).1 (by omega)) (fun z => (up (by omega)).2.2.2.2.2.2 (by omega)), fun h => md_P htl hd (a1 (by omega)), fun h => md_S htl hd (a2 (by omega)), fun h => md_A htl hd (a3 (by omega)) (fun z => (up (by omega)).2.2.2.1 (by omega)), fun h => md_B htl hd (a4 (by omega)), fun h => md_E htl hd (a5 (by omega)), fun h => md_C htl hd (a6 (by omega)) (a3 (by omega))⟩
/-- a LAW's right side, of the one -/
theorem cl_sum {L tl so d0 i : Nat} {tp : Nat → Nat} {E : List (Nat × Nat)} {M : fM} {φ : Int32 → fM → Prop} (htl : tl ≤ 300) (hso : so ≤ 4) (hd0 : d0 ≠ 41) (hS : Str L M) (hA : ArC M tp tl) (rs : RS M tp tl E i) (h10 : mI M 51 10 = nI so) (hE : E.length ≤ i) (hz1 : ∀ M2 em j Q, FrX pO M M2 → RS M2 tp tl (E ++ em) j → em.length + i ≤ j → 0 < em.length → tyOk false so em → posS tp tl [] Q j → OKr (TKk tp tl) (TKv tp tl) d0 so [] i em Q j → φ 1 M2) (hz0 : ∀ M2 f j, FrX pR M M2 → mI M2 51 0 = nI f → mI M2 51 1 = nI (poS tp tl j) → (f = 1 ∨ f = 2 ∨ f = 3 ∨ f = 5) → (∀ E0, RF (TKk tp tl) (TKv tp tl) d0 so ([], E0, false, i) f j) → φ 0 M2) : w_X4_readSum 51 (0 : Int32) M φ :=
  ⟨70, Nat.le_refl _, (md_all htl hso 70 0 (by omega)).2.2.1 (by omega) M E i [] φ hS hA rs h10 hE rfl ⟨by show 0 ≤ _; omega, trivial⟩ (fun _ c => hd0 c.2.1) hz1 hz0⟩
theorem cl_eith {L tl so i : Nat} {tp : Nat → Nat} {E : List (Nat × Nat)} {M : fM} {φ : Int32 → fM → Prop} (htl : tl ≤ 300) (hso : so ≤ 4) (hS : Str L M) (hA : ArC M tp tl) (rs : RS M tp tl E i) (h10 : mI M 51 10 = nI so) (hE : E.length ≤ i) (hz1 : ∀ M2 em j Q, FrX pO M M2 → RS M2 tp tl (E ++ em) j → em.length + i ≤ j → 0 < em.length → tyOk true so em → posE tp tl [] Q j → OKr (TKk tp tl) (TKv tp tl) 41 so [] i em Q j → φ 1 M2) (hz0 : ∀ M2 f j, FrX pR M M2 → mI M2 51 0 = nI f → mI M2 51 1 = nI (poS tp tl j) → (f = 1 ∨ f = 2 ∨ f = 3 ∨ f = 5) → (∀ E0, RF (TKk tp tl) (TKv tp tl) 41 so ([], E0, false, i) f j) → φ 0 M2) : w_X4_readEither 51 (0 : Int32) M φ :=
  ⟨70, Nat.le_refl _, (md_all htl hso 70 0 (by omega)).2.2.2.2.2.1 (by omega) M E i [] φ hS hA rs h10 hE rfl ⟨by show 0 ≤ _; omega, rfl, rfl, trivial⟩ (fun c => absurd c (by decide)) hz1 hz0⟩
