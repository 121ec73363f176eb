/-! ===== TEXT: the one reads its TAPE; its arrays are copied ===== -/
def pK (r k : Nat) : Prop := (r = 46 ∧ k = 5) ∨ (48 ≤ r ∧ r ≤ 56)
theorem FrX.kC {M M2 : fM} (f : FrX pCl M M2) : FrX pK M M2 := f.mn fun r k h => by unfold pCl at h; unfold pK; omega
theorem FrX.kQ {M M2 : fM} (f : FrX pQ M M2) : FrX pK M M2 := f.mn fun r k h => by unfold pQ at h; unfold pK; omega
theorem FrX.kX {M M2 : fM} {X : Nat → Int32} (f : FrX pK M M2) (h : Sts X M) : Sts X M2 := h.cg (fun q hq k => f.2 q k (by unfold pK; omega)) (fun k => by unfold mJ; rw [f.1])
theorem FrX.fl {P : Nat → Nat → Prop} {M M2 : fM} {r n : Nat} {v : Int32} (h2 : M2.2 = M.2) (h : ∀ r' j, mI M2 r' j = if r' = r ∧ j < n then v else mI M r' j) (hp : ∀ j, P r j) : FrX P M M2 := ⟨h2, fun r' j hn => by
  rw [h, if_neg]
  rintro ⟨e, -⟩
  subst e
  exact hn (hp j)⟩
theorem c_rd {L tl : Nat} {X : Nat → Int32} {tp : Nat → Nat} {M : fM} {φ : Option Nat → fM → Prop} (htl : tl ≤ 300) (hS : Str L M) (hX : Sts X M) (hT : TpC M tl tp) (hzE : ∀ M2 n CL E i, FrX pK M M2 → CcA M2 CL → WfC CL E → mI M2 51 8 = nI E.length → (∀ (j : Nat) (x : Nat × Nat), E[j]? = some x → mI M2 52 j = enc x) → E.length ≤ 300 → mI M2 51 0 = 0 → mI M2 51 1 = -1 → ChN (TKk tp tl) (TKv tp tl) n [] [] 0 CL E i → TKk tp tl i = 61 → j_X4_read_92 φ 51 M2) (hzF : ∀ M2 f k, FrX pK M M2 → mI M2 51 0 = nI f → mI M2 51 1 = nI (poS tp tl k) → (1 ≤ f ∧ f ≤ 6) → ChF (TKk tp tl) (TKv tp tl) [] [] 0 f k → φ none M2) : w_X4_read 51 M φ := by
  refine ⟨isO_pt hS (by decide) rfl, st_of (st_of (st_of (st_of ?_)))⟩
  have f1 : FrX pK M (wI (wI (wI (wI M 51 0 (0 : Int32)) 51 1 (-1 : Int32)) 51 8 (0 : Int32)) 51 9 (0 : Int32)) := (((FrX.w (Or.inr ⟨by omega, by omega⟩)).tr (FrX.w (Or.inr ⟨by omega, by omega⟩))).tr (FrX.w (Or.inr ⟨by omega, by omega⟩))).tr (FrX.w (Or.inr ⟨by omega, by omega⟩))
  have a0 : mI (wI (wI (wI (wI M 51 0 (0 : Int32)) 51 1 (-1 : Int32)) 51 8 (0 : Int32)) 51 9 (0 : Int32)) 51 0 = 0 := (mI_n (by omega)).trans ((mI_n (by omega)).trans ((mI_n (by omega)).trans (mI_s rfl rfl)))
  have a1 : mI (wI (wI (wI (wI M 51 0 (0 : Int32)) 51 1 (-1 : Int32)) 51 8 (0 : Int32)) 51 9 (0 : Int32)) 51 1 = -1 := (mI_n (by omega)).trans ((mI_n (by omega)).trans (mI_s rfl rfl))
  have a8 : mI (wI (wI (wI (wI M 51 0 (0 : Int32)) 51 1 (-1 : Int32)) 51 8 (0 : Int32)) 51 9 (0 : Int32)) 51 8 = nI 0 := (mI_n (by omega)).trans (mI_s rfl rfl)
  have a9 : mI (wI (wI (wI (wI M 51 0 (0 : Int32)) 51 1 (-1 : Int32)) 51 8 (0 : Int32)) 51 9 (0 : Int32)) 51 9 = nI 0 := mI_s rfl rfl
  generalize wI (wI (wI (wI M 51 0 (0 : Int32)) 51 1 (-1 : Int32)) 51 8 (0 : Int32)) 51 9 (0 : Int32) = M1 at f1 a0 a1 a8 a9 ⊢
  have hS1 := f1.S hS
  refine dR_of (Str.pg hS1 rfl) (c_fill (n := 5) (by omega) (by omega) (Str.sh hS1 52 _ rfl) fun M2 e2 q2 => ?_)
  have f2 : FrX pK M1 M2 := FrX.fl e2 q2 fun j => Or.inr ⟨by omega, by omega⟩
  have hS2 := f2.S hS1
  refine ⟨isO_pt hS2 (by decide) rfl, dR_of (Str.pg hS2 rfl) (c_fill (n := 5) (by omega) (by omega) (Str.sh hS2 53 _ rfl) fun M3 e3 q3 => ?_)⟩
  have f3 : FrX pK M2 M3 := FrX.fl e3 q3 fun j => Or.inr ⟨by omega, by omega⟩
  have hS3 := f3.S hS2
  refine ⟨isO_pt hS3 (by decide) rfl, dR_of (Str.pg hS3 rfl) (c_fill (n := 72) (by omega) (by omega) (Str.sh hS3 55 _ rfl) fun M4 e4 q4 => ?_)⟩
  have f4 : FrX pK M3 M4 := FrX.fl e4 q4 fun j => Or.inr ⟨by omega, by omega⟩
  have hS4 := f4.S hS3
  have f14 := ((f1.tr f2).tr f3).tr f4
  have hT4 : TpC M4 tl tp := ⟨(f14.2 46 1 (by unfold pK; omega)).trans hT.1, fun k hk => ⟨(hT.2 k hk).1, (f14.2 47 k (by unfold pK; omega)).trans (hT.2 k hk).2⟩⟩
  have g51 : ∀ k, mI M4 51 k = mI M1 51 k := fun k => by rw [q4, if_neg (by omega), q3, if_neg (by omega), q2, if_neg (by omega)]
  have g54 : ∀ s, s < 5 → mI M4 54 s = 0 := fun s hs => by rw [q4, if_neg (by omega), q3, if_pos ⟨rfl, hs⟩]
  refine ⟨isO_pt hS4 (by decide) rfl, dR_of (Str.pg hS4 rfl) ⟨isO_pt hS4 (by decide) rfl, c_scan htl hS4 (f14.kX hX) hT4 fun M5 n f5 lv5 k61 ar5 => ?_⟩⟩
  have hS5 := f5.S hS4
  have h51 : ∀ r k, r = 51 ∨ r = 54 → mI M5 r k = mI M4 r k := fun r k h => f5.2 r k (by unfold pQ; omega)
  have f6 : FrX pCl M5 (wI M5 51 11 (-1 : Int32)) := FrX.w (Or.inl ⟨rfl, by omega⟩)
  have hS6 := f6.S hS5
  have hA6 : ArC (wI M5 51 11 (-1 : Int32)) tp tl := ArC.c f6 ⟨n, lv5, k61, ar5⟩
  refine ⟨isO_pt hS5 (by decide) rfl, st_of (c_advG (E := []) (i := 0) hS6 hA6 htl ?_ (fun k hk => absurd hk (Nat.not_lt_zero _)) ?_ (fun j x hx => by simp at hx) fun M7 f7 r7 => ⟨25 + 1, ?_⟩)⟩
  · rw [mI_s rfl rfl]
    decide
  · rw [mI_n (by omega), h51 51 8 (by omega), g51 8]
    exact a8
  have f57 : FrX pK M5 M7 := (f6.tr f7.oC).kC
  have f07 := (f14.tr f5.kQ).tr f57
  have o7 : ∀ r k, ¬ pO r k → ¬ (r = 51 ∧ k = 11) → mI M7 r k = mI M5 r k := fun r k a b => (f7.2 r k a).trans (mI_n (by omega))
  have b01 : mI M7 51 0 = 0 ∧ mI M7 51 1 = -1 := by
    rw [o7 51 0 (by unfold pO; omega) (by omega), o7 51 1 (by unfold pO; omega) (by omega), h51 51 0 (by omega), h51 51 1 (by omega), g51, g51]
    exact ⟨a0, a1⟩
  refine c_rd_l (X := X) htl 25 [] [] 0 M7 rfl (f07.S hS) (f07.kX hX) (hA6.c f7.oC) r7 ⟨?_, fun k c hk => by simp at hk, fun s hs _ => ?_⟩ ⟨by decide, fun c hc => absurd hc List.not_mem_nil, fun k k' c c' hk => by simp at hk⟩ (Nat.le_refl _) (fun M8 n8 CL E i f8 r8 cc wf hE ch e g8 => hzE M8 n8 CL E i (f07.tr f8.kC) cc wf r8.2.2.2.1 r8.2.2.2.2.1 (by have := lvT_l r8.2.2.2.2.2; omega) ((g8 0 (by omega)).trans b01.1) ((g8 1 (by omega)).trans b01.2) ch e) (fun M8 f k f8 e0 e1 hf cf => hzF M8 f k (f07.tr f8.kC) e0 e1 hf cf)
  · rw [o7 51 9 (by unfold pO; omega) (by omega), h51 51 9 (by omega), g51]
    exact a9
  · rw [o7 54 s (by unfold pO; omega) (by omega), h51 54 s (by omega)]
    exact g54 s hs
/-! the heap grows -/
def GX (P : Nat → Nat → Prop) (M M2 : fM) : Prop := (∀ r, r < mN M → mS M2 r = mS M r) ∧ mN M ≤ mN M2 ∧ (∀ r k, r < mN M → ¬ P r k → mI M2 r k = mI M r k) ∧ (∀ r k, r < mN M → mP M2 r k = mP M r k) ∧ ∀ r k, r < mN M → mJ M2 r k = mJ M r k
theorem GX.tr {P : Nat → Nat → Prop} {M M1 M2 : fM} (h : GX P M M1) (h2 : GX P M1 M2) : GX P M M2 := by
  obtain ⟨a1, a2, a3, a4, a5⟩ := h
  obtain ⟨b1, b2, b3, b4, b5⟩ := h2
  exact ⟨fun r hr => (b1 r (by omega)).trans (a1 r hr), by omega, fun r k hr hp => (b3 r k (by omega) hp).trans (a3 r k hr hp), fun r k hr => (b4 r k (by omega)).trans (a4 r k hr), fun r k hr => (b5 r k (by omega)).trans (a5 r k hr)⟩
theorem GX.mn {P Q : Nat → Nat → Prop} {M M2 : fM} (h : GX P M M2) (hp : ∀ r k, P r k → Q r k) : GX Q M M2 := ⟨h.1, h.2.1, fun r k hr hn => h.2.2.1 r k hr (fun c => hn (hp r k c)), h.2.2.2.1, h.2.2.2.2⟩
theorem GX.x {P : Nat → Nat → Prop} {M M2 : fM} (f : FrX P M M2) : GX P M M2 := by
  refine ⟨fun r _ => ?_, ?_, fun r k _ hp => f.2 r k hp, fun r k _ => ?_, fun r k _ => ?_⟩
  · unfold mS
    rw [f.1]
  · unfold mN
    rw [f.1]
    exact Nat.le_refl _
  · unfold mP
    rw [f.1]
  · unfold mJ
    rw [f.1]
def pNo (_ _ : Nat) : Prop := False
theorem mN_new (M : fM) (kd n : Nat) : mN (mNew M kd n) = mN M + 1 := by
  show (M.2.2.2 ++ [(kd, n)]).length = _
  rw [List.length_append]
  rfl
theorem mS_new (M : fM) (kd n : Nat) : mS (mNew M kd n) (mN M) = some (kd, n) := by
  show (M.2.2.2 ++ [(kd, n)])[M.2.2.2.length]? = _
  rw [List.getElem?_append_right (Nat.le_refl _), Nat.sub_self]
  rfl
theorem mS_old {M : fM} {kd n r : Nat} (h : r < mN M) : mS (mNew M kd n) r = mS M r := by
  show (M.2.2.2 ++ [(kd, n)])[r]? = M.2.2.2[r]?
  exact List.getElem?_append_left h
theorem GX.nw {P : Nat → Nat → Prop} (M : fM) (kd n : Nat) : GX P M (mNew M kd n) := by
  refine ⟨fun r hr => mS_old hr, by rw [mN_new]; omega, fun r k hr _ => ?_, fun r k hr => ?_, fun r k hr => ?_⟩
  · show (if r = mN M then 0 else mI M r k) = mI M r k
    rw [if_neg (by omega)]
  · show (if r = mN M then none else mP M r k) = mP M r k
    rw [if_neg (by omega)]
  · show (if r = mN M then 0 else mJ M r k) = mJ M r k
    rw [if_neg (by omega)]
theorem Str.n82 {L : Nat} {M : fM} (h : Str L M) : 82 ≤ mN M := mS_lt (Str.sh h 80 _ rfl)
theorem PTL_b : ∀ t ∈ PTL, t.1 < 82 := by decide +kernel
theorem GX.S {P : Nat → Nat → Prop} {M M2 : fM} {L : Nat} (f : GX P M M2) (h : Str L M) : Str L M2 := by
  have h82 := h.n82
  obtain ⟨⟨ex, he⟩, hp⟩ := h
  refine ⟨?_, fun t ht => ?_⟩
  · have hl : ∀ r, r < 1 + SHL.length → M2.2.2.2[r]? = ((12, L) :: SHL)[r]? := fun r hr => by
      have q := f.1 r (by
        show r < M.2.2.2.length
        rw [he, List.length_cons, List.length_append]
        omega)
      have q : M2.2.2.2[r]? = M.2.2.2[r]? := q
      rw [q, he, show (12, L) :: (SHL ++ ex) = ((12, L) :: SHL) ++ ex from rfl]
      exact List.getElem?_append_left (by rw [List.length_cons]; omega)
    refine ⟨M2.2.2.2.drop (1 + SHL.length), ?_⟩
    have ht : M2.2.2.2.take (1 + SHL.length) = (12, L) :: SHL := by
      apply List.ext_getElem?
      intro r
      rw [List.getElem?_take]
      by_cases e : r < 1 + SHL.length
      · rw [if_pos e]
        exact hl r e
      · rw [if_neg e]
        exact (List.getElem?_eq_none (by rw [List.length_cons]; omega)).symm
    have := List.take_append_drop (1 + SHL.length) M2.2.2.2
    rw [ht] at this
    exact this.symm
  · have hb : t.1 < 82 := PTL_b t ht
    have q := f.2.2.2.1 t.1 t.2.1 (by omega)
    exact q.trans (hp t ht)
