/-! ===== TEXT: one that is read, and a choice ===== -/
theorem tyOk.num {so v : Nat} (h : v ≤ 9999) : tyOk false so [(0, v)] := ⟨fun _ => rfl, fun x hx => by
  have e : x = (0, v) := List.mem_singleton.mp hx
  subst e
  exact ⟨fun _ => h, fun c => absurd c (by decide : ¬ (0 : Nat) = 1)⟩⟩
theorem tyOk.nam {so v : Nat} (h : v < if so ≤ 2 then 10 else 6) : tyOk false so [(1, v)] := ⟨fun _ => rfl, fun x hx => by
  have e : x = (1, v) := List.mem_singleton.mp hx
  subst e
  exact ⟨fun c => absurd c (by decide : ¬ (1 : Nat) = 0), fun _ => h⟩⟩
theorem rd_val {L tl so d0 i : Nat} {tp : Nat → Nat} {E : List (Nat × Nat)} {P : List Nat} {M : fM} {φ : Int32 → fM → Prop} (htl : tl ≤ 300) (hS : Str L M) (hA : ArC M tp tl) (rs : RS M tp tl E i) (hE : E.length ≤ i) (z : TKk tp tl i = 60) (hz1 : ∀ M2 em j, FrX pO M M2 → RS M2 tp tl (E ++ em) j → em.length + i ≤ j → 0 < em.length → tyOk false so em → OKo (TKk tp tl) (TKv tp tl) d0 so P i em j → φ 1 M2) (hz0 : ∀ M2 f j, FrX pR M M2 → mI M2 51 0 = nI f → mI M2 51 1 = nI (poS tp tl j) → (f = 1 ∨ f = 2 ∨ f = 3 ∨ f = 5) → (∀ E0, RF (TKk tp tl) (TKv tp tl) d0 so (P, E0, false, i) f j) → φ 0 M2) : w_X4_readValue 51 M φ := by
  have hi := lvT_t rs.2.2.2.2.2 (show TKk tp tl i ≠ 61 by omega)
  have vb : TKv tp tl i ≤ 10000 := ncV_b
  refine ⟨isO_pt hS (by decide) rfl, ?_⟩
  rw [rs.2.2.1 z]
  by_cases h : TKv tp tl i ≤ 9999
  · refine iF_t ((nIle (b := 9999) (by omega) (by omega)).mpr h) (c_emit (x := (0, TKv tp tl i)) hS rs (by omega) rfl fun M1 f1 r1 => ⟨isO_pt (f1.S hS) (by decide) rfl, c_adv (f1.S hS) (hA.x f1.r) htl r1 (by omega) fun M2 f2 r2 => ?_⟩)
    exact hz1 M2 _ _ (f1.tr f2) r2 (by show 1 + i ≤ i + 1; omega) (Nat.succ_pos _) (tyOk.num h) (ok_num z h)
  · exact iF_f (fun c => h ((nIle (b := 9999) (by omega) (by omega)).mp c)) (c_flt (f := 2) hS hA htl rs rfl fun M2 f e0 e1 => ⟨isB0, hz0 M2 2 i f e0 e1 (by omega) fun E0 => bad_2 z (by omega)⟩)
theorem nmN_c {t : Nat} (h : t ≤ 62) : (t = 8 ∧ nmN t = 9) ∨ (26 ≤ t ∧ t ≤ 34 ∧ nmN t = t - 26) ∨ (t ≠ 8 ∧ ¬ (26 ≤ t ∧ t ≤ 34) ∧ nmN t = 99) := by
  unfold nmN
  by_cases e : t = 8
  · exact Or.inl ⟨e, if_pos e⟩
  · rw [if_neg e]
    by_cases e2 : 26 ≤ t ∧ t ≤ 34
    · exact Or.inr (Or.inl ⟨e2.1, e2.2, if_pos e2⟩)
    · exact Or.inr (Or.inr ⟨e, e2, if_neg e2⟩)
theorem rd_nam {L tl so d0 i : Nat} {tp : Nat → Nat} {E : List (Nat × Nat)} {P : List Nat} {M : fM} {φ : Int32 → fM → Prop} (htl : tl ≤ 300) (hso : so ≤ 4) (hS : Str L M) (hA : ArC M tp tl) (rs : RS M tp tl E i) (h10 : mI M 51 10 = nI so) (hE : E.length ≤ i) (z60 : TKk tp tl i ≠ 60) (z50 : TKk tp tl i ≠ 50) (z41 : TKk tp tl i ≠ 41) (z21 : TKk tp tl i ≠ 21) (z23 : ¬ (TKk tp tl i = 23 ∧ mkK d0 P = 41 ∧ hdA P = true)) (hz1 : ∀ M2 em j, FrX pO M M2 → RS M2 tp tl (E ++ em) j → em.length + i ≤ j → 0 < em.length → tyOk false so em → OKo (TKk tp tl) (TKv tp tl) d0 so P i em j → φ 1 M2) (hz0 : ∀ M2 f j, FrX pR M M2 → mI M2 51 0 = nI f → mI M2 51 1 = nI (poS tp tl j) → (f = 1 ∨ f = 2 ∨ f = 3 ∨ f = 5) → (∀ E0, RF (TKk tp tl) (TKv tp tl) d0 so (P, E0, false, i) f j) → φ 0 M2) : w_X4_readName 51 M φ := by
  have kb : TKk tp tl i ≤ 62 := tkK_b _ _ _
  have bad : nmN (TKk tp tl i) = 99 → j_X4_readName_49 φ 51 M := fun hn => ⟨isO_pt hS (by decide) rfl, c_flt (f := 1) hS hA htl rs rfl fun M2 f e0 e1 => ⟨isB0, hz0 M2 1 i f e0 e1 (by omega) fun E0 => bad_1 z60 hn z50 z41 z21 z23⟩⟩
  have good : ∀ n, nmN (TKk tp tl i) = n → n < 10 → j_X4_readName_55 φ 51 (nI n) M := by
    intro n hn hn9
    have put : ¬ (6 ≤ n ∧ 2 < so) → j_X4_readName_83 φ 51 (nI n) M := by
      intro hc
      have hi := lvT_t rs.2.2.2.2.2 (show TKk tp tl i ≠ 61 from fun c => by rw [c] at hn; exact absurd (show 99 = n from hn) (by omega))
      refine ⟨isO_pt hS (by decide) rfl, c_emit (x := (1, n)) hS rs (by omega) rfl fun M1 f1 r1 => ⟨isO_pt (f1.S hS) (by decide) rfl, c_adv (f1.S hS) (hA.x f1.r) htl r1 (fun c => by rw [c] at hn; exact absurd (show 99 = n from hn) (by omega)) fun M2 f2 r2 => ?_⟩⟩
      have ok := ok_name (T := TKk tp tl) (V := TKv tp tl) (d := d0) (so := so) (P := P) (i := i) z60 (by omega) (by omega)
      rw [hn] at ok
      exact hz1 M2 _ _ (f1.tr f2) r2 (by show 1 + i ≤ i + 1; omega) (Nat.succ_pos _) (tyOk.nam (by split <;> omega)) ok
    have b5 : 6 ≤ n → 2 < so → j_X4_readName_77 φ 51 M := fun h6 hs => ⟨isO_pt hS (by decide) rfl, c_flt (f := 5) hS hA htl rs rfl fun M2 f e0 e1 => ⟨isB0, hz0 M2 5 i f e0 e1 (by omega) fun E0 => bad_5 z60 (by omega) (by omega) hs⟩⟩
    by_cases h6 : n < 6
    · exact iF_t ((nIlt (b := 6) (by omega) (by omega)).mpr h6) (put (by omega))
    · refine iF_f (fun c => h6 ((nIlt (b := 6) (by omega) (by omega)).mp c)) ⟨isO_pt hS (by decide) rfl, ?_⟩
      rw [h10]
      by_cases s3 : so = 3
      · exact iF_t (by rw [s3]; rfl) (b5 (by omega) (by omega))
      refine iF_f (fun c => s3 (nI_inj (b := 3) (by omega) (by omega) c)) ?_
      by_cases s4 : so = 4
      · exact iF_t (by rw [s4]; rfl) (b5 (by omega) (by omega))
      exact iF_f (fun c => s4 (nI_inj (b := 4) (by omega) (by omega) c)) (put (by omega))
  refine ⟨isO_pt hS (by decide) rfl, ?_⟩
  rw [rs.2.1]
  rcases nmN_c kb with ⟨e, e2⟩ | ⟨e, e1, e2⟩ | ⟨e, e1, e2⟩
  · refine iF_t (by rw [e]; rfl) ⟨isO_pt hS (by decide) rfl, ?_⟩
    rw [rs.2.1]
    exact iF_t (by rw [e]; rfl) (good 9 e2 (by omega))
  · refine iF_f (fun c => absurd (nI_inj (b := 8) (by omega) (by omega) c) (by omega)) ⟨isO_pt hS (by decide) rfl, ?_⟩
    rw [rs.2.1]
    refine iF_f (fun c => absurd (nI_inj (b := 8) (by omega) (by omega) c) (by omega)) (iF_f (fun c => absurd ((nIlt (b := 26) (by omega) (by omega)).mp c) (by omega)) (iF_t ((nIle (b := 34) (by omega) (by omega)).mpr e1) ?_))
    rw [show nI (TKk tp tl i) - (26 : Int32) = nI (TKk tp tl i - 26) from nI_sub (b := 26) e]
    exact good _ e2 (by omega)
  · refine iF_f (fun c => e (nI_inj (b := 8) (by omega) (by omega) c)) ⟨isO_pt hS (by decide) rfl, ?_⟩
    rw [rs.2.1]
    refine iF_f (fun c => e (nI_inj (b := 8) (by omega) (by omega) c)) ?_
    by_cases h : TKk tp tl i < 26
    · exact iF_t ((nIlt (b := 26) (by omega) (by omega)).mpr h) (bad e2)
    · exact iF_f (fun c => h ((nIlt (b := 26) (by omega) (by omega)).mp c)) (iF_f (fun c => e1 ⟨by omega, (nIle (b := 34) (by omega) (by omega)).mp c⟩) (bad e2))
theorem bwO_99 {d t : Nat} {P : List Nat} (h40 : t ≠ 40) (h41 : t ≠ 41) (h42 : t ≠ 42) (h43 : t ≠ 43) (h : mkK d P ≠ 41 ∨ (cmpd P = true ∧ t ≠ 25 ∧ t ≠ 24)) : bwO d t P = 99 := by
  unfold bwO
  rw [if_neg h40, if_neg h41, if_neg h42, if_neg h43]
  rcases h with h | ⟨h, a, b⟩
  · rw [if_neg h]
  · rw [if_pos h, if_neg a, if_neg b, ite_self]
theorem mkK_o {d k : Nat} {P Q : List Nat} (hq : ∀ x ∈ Q, x < 40) (hk : 40 ≤ k) : mkK d (Q ++ k :: P) = k := (mkK_q Q hq).trans (if_pos hk)
set_option maxHeartbeats 1000000 in
theorem md_O {L tl so d0 n d : Nat} {tp : Nat → Nat} (htl : tl ≤ 300) (hd8 : d ≤ 8) (hso : so ≤ 4) (hSu : d < 8 → SpG L tp tl so d0 n 3 (d + 1) false (preS (d + 1)) (posS tp tl)) (hO : d < 8 → SpO L tp tl so d0 n (d + 1)) (hC : d < 8 → SpC L tp tl so d0 n (d + 1)) : SpO L tp tl so d0 (n + 1) d := by
  intro M E i P φ hS hA rs h10 hE hd hpl z23 hz1 hz0
  show bd_X4_readOne (prs n) 51 (nI d) M φ
  have kb : TKk tp tl i ≤ 62 := tkK_b _ _ _
  have opF : ∀ (o : Nat) (M1 : fM), (∀ E0, s1 (TKk tp tl) (TKv tp tl) d0 so (P, E0, false, i) = opb o P E0 i) → d = 8 → FrX pR M M1 → mI M1 51 0 = nI 3 → mI M1 51 1 = nI (poS tp tl i) → φ 0 M1 := fun o M1 ho h8 f1 e0 e1 => hz0 M1 3 i f1 e0 e1 (by omega) fun E0 => opb_F (ho E0) (by omega)
  have opR : ∀ o, d < 8 → (∀ E0, s1 (TKk tp tl) (TKv tp tl) d0 so (P, E0, false, i) = opb o P E0 i) → ∀ E0, Rc (TKk tp tl) (TKv tp tl) d0 so (P, E0, false, i) (o :: P, E0, false, i + 1) := fun o h8 ho E0 => opb_R (ho E0) (by omega) (by omega)
  refine ⟨isO_pt hS (by decide) rfl, nm_of ?_⟩
  rw [rs.2.1]
  by_cases z21 : TKk tp tl i = 21
  · refine iF_t (by rw [z21]; rfl) ?_
    have ho : ∀ E0, s1 (TKk tp tl) (TKv tp tl) d0 so (P, E0, false, i) = opb 41 P E0 i := fun E0 => op_opb (Or.inr (Or.inr (Or.inl ⟨z21, rfl⟩)))
    refine c_open (φ := fun x7 M6 => iF (x7 = 0) (φ (0 : Int32) M6) (isO M6 51 4 ∧ prs n 6 51 (nI d + (1 : Int32)) M6 fun x12 M8 => iF (x12 = 0) (φ (0 : Int32) M8) (φ (1 : Int32) M8))) hS hA htl rs (by omega) hd8 (fun hlt M1 f1 r1 => iF_f (by decide) ?_) (fun h8 M1 f1 e0 e1 => iF_t rfl (opF 41 M1 ho h8 f1 e0 e1))
    have hS1 := f1.S hS
    refine ⟨isO_pt hS1 (by decide) rfl, ?_⟩
    rw [show nI d + (1 : Int32) = nI (d + 1) from nI_add _ 1]
    have hcn : cnO (41 :: P) = d + 1 := by
      show 1 + cnO P = d + 1
      omega
    exact hC hlt M1 E (i + 1) P (fun x12 M8 => iF (x12 = 0) (φ (0 : Int32) M8) (φ (1 : Int32) M8)) hS1 (hA.x f1.r) r1 ((f1.2 51 10 (by unfold pO; omega)).trans h10) (by omega) hcn (by omega) (fun M2 em j f2 r2 hl hl0 ty ok => iF_f (by decide) (hz1 M2 em j (f1.tr f2) r2 (by omega) hl0 ty fun E0 => (opR 41 hlt ho E0).tr (ok E0))) (fun M2 f j f2 e0 e1 hf rf => iF_t rfl (hz0 M2 f j (f1.r.tr f2) e0 e1 hf fun E0 => RF.tr (opR 41 hlt ho E0) (rf E0)))
  refine iF_f (fun c => z21 (nI_inj (b := 21) (by omega) (by omega) c)) ?_
  by_cases z41 : TKk tp tl i = 41
  · refine iF_t (by rw [z41]; rfl) ?_
    have ho : ∀ E0, s1 (TKk tp tl) (TKv tp tl) d0 so (P, E0, false, i) = opb 3 P E0 i := fun E0 => op_opb (Or.inr (Or.inl ⟨z41, rfl⟩))
    refine c_open (φ := fun x17 M16 => iF (x17 = 0) (φ (0 : Int32) M16) (isO M16 51 4 ∧ prs n 5 51 (nI d + (1 : Int32)) M16 fun x22 M18 => iF (x22 = 0) (φ (0 : Int32) M18) (isO M18 51 4 ∧ w_X4_emit 51 (-70 : Int32) M18 fun M23 => φ (1 : Int32) M23))) hS hA htl rs (by omega) hd8 (fun hlt M1 f1 r1 => iF_f (by decide) ?_) (fun h8 M1 f1 e0 e1 => iF_t rfl (opF 3 M1 ho h8 f1 e0 e1))
    have hS1 := f1.S hS
    refine ⟨isO_pt hS1 (by decide) rfl, ?_⟩
    rw [show nI d + (1 : Int32) = nI (d + 1) from nI_add _ 1]
    have hcn : cnO (3 :: P) = d + 1 := by
      show 1 + cnO P = d + 1
      omega
    have hlo : (3 :: P).length ≤ 6 * (d + 1) + 5 := by
      show P.length + 1 ≤ _
      omega
    refine hO hlt M1 E (i + 1) (3 :: P) (fun x22 M18 => iF (x22 = 0) (φ (0 : Int32) M18) (isO M18 51 4 ∧ w_X4_emit 51 (-70 : Int32) M18 fun M23 => φ (1 : Int32) M23)) hS1 (hA.x f1.r) r1 ((f1.2 51 10 (by unfold pO; omega)).trans h10) (by omega) hcn hlo (no23_r (by decide) (Or.inr (by decide))) (fun M2 em j f2 r2 hl hl0 ty ok => iF_f (by decide) ?_) (fun M2 f j f2 e0 e1 hf rf => iF_t rfl (hz0 M2 f j (f1.r.tr f2) e0 e1 hf fun E0 => RF.tr (opR 3 hlt ho E0) (rf E0)))
    have hS2 := f2.S hS1
    have hj := lvT_l r2.2.2.2.2.2
    refine ⟨isO_pt hS2 (by decide) rfl, c_emit (x := (3, 0)) hS2 r2 (by rw [List.length_append]; omega) rfl fun M3 f3 r3 => ?_⟩
    rw [List.append_assoc] at r3
    have hl3 : (em ++ [(3, 0)]).length = em.length + 1 := by
      rw [List.length_append]
      rfl
    refine hz1 M3 (em ++ [(3, 0)]) j ((f1.tr f2).tr f3) r3 (by omega) (by omega) (ty.un (by omega) fun t => tyS_mi) fun E0 => (opR 3 hlt ho E0).tr ?_
    have q := ok E0
    rw [show stl 7 (3 :: P) (E0 ++ em) = stl 7 P (E0 ++ em ++ [(3, 0)]) from if_pos (by decide), List.append_assoc] at q
    exact q
  refine iF_f (fun c => z41 (nI_inj (b := 41) (by omega) (by omega) c)) ?_
  by_cases z50 : TKk tp tl i = 50
  · refine iF_t (by rw [z50]; rfl) ?_
    have ho : ∀ E0, s1 (TKk tp tl) (TKv tp tl) d0 so (P, E0, false, i) = opb 40 P E0 i := fun E0 => op_opb (Or.inl ⟨z50, rfl⟩)
    refine c_open (φ := fun x31 M30 => iF (x31 = 0) (φ (0 : Int32) M30) (isO M30 51 4 ∧ prs n 3 51 (nI d + (1 : Int32)) M30 fun x36 M32 => iF (x36 = 0) (φ (0 : Int32) M32) (isO M32 51 4 ∧ w_X4_passes 51 (51 : Int32) M32 fun x41 M37 => iF (x41 = 0) (φ (0 : Int32) M37) (φ (1 : Int32) M37)))) hS hA htl rs (by omega) hd8 (fun hlt M1 f1 r1 => iF_f (by decide) ?_) (fun h8 M1 f1 e0 e1 => iF_t rfl (opF 40 M1 ho h8 f1 e0 e1))
    have hS1 := f1.S hS
    refine ⟨isO_pt hS1 (by decide) rfl, ?_⟩
    rw [show nI d + (1 : Int32) = nI (d + 1) from nI_add _ 1]
    have hcn : cnO (40 :: P) = d + 1 := by
      show 1 + cnO P = d + 1
      omega
    have hlo : (40 :: P).length ≤ 6 * (d + 1) + 3 := by
      show P.length + 1 ≤ _
      omega
    refine hSu hlt M1 E (i + 1) (40 :: P) (fun x36 M32 => iF (x36 = 0) (φ (0 : Int32) M32) (isO M32 51 4 ∧ w_X4_passes 51 (51 : Int32) M32 fun x41 M37 => iF (x41 = 0) (φ (0 : Int32) M37) (φ (1 : Int32) M37))) hS1 (hA.x f1.r) r1 ((f1.2 51 10 (by unfold pO; omega)).trans h10) (by omega) hcn ⟨hlo, show rk 40 < 5 by decide⟩ (fun _ => no23_r (by decide) (Or.inl rfl)) (fun M2 em j Q f2 r2 hl hl0 ty po ok => iF_f (by decide) ?_) (fun M2 f j f2 e0 e1 hf rf => iF_t rfl (hz0 M2 f j (f1.r.tr f2) e0 e1 hf fun E0 => RF.tr (opR 40 hlt ho E0) (rf E0)))
    have hS2 := f2.S hS1
    have mk : mkK d0 (Q ++ 40 :: P) = 40 := mkK_o (fun x hx => (po.1 x hx).2) (by omega)
    have mk9 : mkK 99 (Q ++ 40 :: P) = 40 := mkK_o (fun x hx => (po.1 x hx).2) (by omega)
    have hb : bwO d0 (TKk tp tl j) (Q ++ 40 :: P) = 99 := bwO_99 po.2.2.2.1 po.2.2.2.2 po.2.1 po.2.2.1 (Or.inl (by omega))
    refine ⟨isO_pt hS2 (by decide) rfl, c_pass (t := 51) hS2 (hA.x (f1.tr f2).r) htl r2 rfl (by omega) (fun e M3 f3 r3 => iF_f (by decide) ?_) (fun e M3 f3 e0 e1 => iF_t rfl (hz0 M3 1 j ((f1.tr f2).r.tr f3) e0 e1 (by omega) fun E0 => RF.tr (opR 40 hlt ho E0) (ok.stop hb (by omega) (by omega) (Or.inl (by omega)) E0)))⟩
    refine hz1 M3 em (j + 1) ((f1.tr f2).tr f3) r3 (by omega) hl0 ty fun E0 => (opR 40 hlt ho E0).tr ?_
    have q := ok.cls (fun x hx => ⟨Nat.le_trans (by omega) (po.1 x hx).1, (po.1 x hx).2⟩) hb (Or.inl ⟨e, rfl⟩) E0
    rw [if_neg (show ¬ (40 = 43) by decide), List.append_nil] at q
    exact q
  refine iF_f (fun c => z50 (nI_inj (b := 50) (by omega) (by omega) c)) ?_
  by_cases z60 : TKk tp tl i = 60
  · exact iF_t (by rw [z60]; rfl) (rd_val (P := P) (so := so) (d0 := d0) htl hS hA rs hE z60 (fun M2 em j a b c d e f => ⟨isB1, hz1 M2 em j a b c d e f⟩) fun M2 f j a b c d e => ⟨isB0, hz0 M2 f j a b c d e⟩)
  · exact iF_f (fun c => z60 (nI_inj (b := 60) (by omega) (by omega) c)) (rd_nam (P := P) (so := so) (d0 := d0) htl hso hS hA rs h10 hE z60 z50 z41 z21 z23 (fun M2 em j a b c d e f => ⟨isB1, hz1 M2 em j a b c d e f⟩) fun M2 f j a b c d e => ⟨isB0, hz0 M2 f j a b c d e⟩)
