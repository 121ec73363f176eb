/-! ===== TEXT: the model's pile of operations, on its heap ===== -/
def pE (t0 r k : Nat) : Prop := (r = 70 ∧ k = 14) ∨ (r = 73 ∧ t0 + 97 ≤ k ∧ k < t0 + 705)
def pT (t0 r k : Nat) : Prop := (r = 70 ∧ (k = 14 ∨ k = 17 ∨ k = 18 ∨ k = 19)) ∨ (r = 73 ∧ t0 + 97 ≤ k ∧ k < t0 + 705) ∨ r = 75
def Pil (M : fM) : List Nat → Prop
  | [] => True
  | o :: P => mI M 75 P.length = nI o ∧ o ≤ 43 ∧ Pil M P
def Cds (M : fM) (t0 : Nat) (E : List (Nat × Nat)) : Prop := ∀ j x, E[j]? = some x → mI M 73 (t0 + 97 + 2 * j) = nI x.1 ∧ mI M 73 (t0 + 98 + 2 * j) = nI x.2
def PM (t0 : Nat) (P : List Nat) (E : List (Nat × Nat)) (M : fM) : Prop := mI M 70 12 = nI t0 ∧ mI M 70 17 = nI P.length ∧ mI M 70 18 = nI (cnO P) ∧ mI M 70 14 = nI E.length ∧ Pil M P ∧ Cds M t0 E
theorem Pil.cg {M M2 : fM} : ∀ {P : List Nat}, Pil M P → (∀ k, k < P.length → mI M2 75 k = mI M 75 k) → Pil M2 P
  | [], _, _ => trivial
  | o :: P, h, e => ⟨(e P.length (Nat.lt_succ_self _)).trans h.1, h.2.1, Pil.cg h.2.2 fun k hk => e k (Nat.lt_succ_of_lt hk)⟩
theorem Pil.le {M : fM} : ∀ {P : List Nat}, Pil M P → ∀ o ∈ P, o ≤ 43
  | [], _, o, ho => absurd ho List.not_mem_nil
  | a :: P, h, o, ho => by
    rcases List.mem_cons.mp ho with e | e
    · rw [e]
      exact h.2.1
    · exact Pil.le h.2.2 o e
theorem PM.g {t0 : Nat} {P : List Nat} {E : List (Nat × Nat)} {M M2 : fM} (f : FG pN M M2) (h : PM t0 P E M) : PM t0 P E M2 := by
  obtain ⟨h1, h2, h3, h4, h5, h6⟩ := h
  refine ⟨(f.2.1 70 12 (by unfold pN; omega)).trans h1, (f.2.1 70 17 (by unfold pN; omega)).trans h2, (f.2.1 70 18 (by unfold pN; omega)).trans h3, (f.2.1 70 14 (by unfold pN; omega)).trans h4, h5.cg fun k _ => f.2.1 75 k (by unfold pN; omega), fun j x hx => ?_⟩
  rw [f.2.1 73 _ (by unfold pN; omega), f.2.1 73 _ (by unfold pN; omega)]
  exact h6 j x hx
theorem TS.x {t0 : Nat} {tp : Nat → Nat} {tl i : Nat} {M M2 : fM} (f : FrX (pT t0) M M2) (h : TS M tp tl i) : TS M2 tp tl i := by
  have e : ∀ k, 7 ≤ k → k ≤ 10 → mI M2 70 k = mI M 70 k := fun k a b => f.2 70 k (by unfold pT; omega)
  have ej : ∀ k, mJ M2 70 k = mJ M 70 k := fun k => by
    unfold mJ
    rw [f.1]
  unfold TS TR at h ⊢
  rw [e 7 (by omega) (by omega), e 8 (by omega) (by omega), e 9 (by omega) (by omega), e 10 (by omega) (by omega), ej 11]
  exact h
theorem TpM.x {t0 : Nat} {tp : Nat → Nat} {tl : Nat} {M M2 : fM} (f : FrX (pT t0) M M2) (h : TpM M tl tp) : TpM M2 tl tp := ⟨(f.2 70 4 (by unfold pT; omega)).trans h.1, fun k hk => ⟨(h.2 k hk).1, (f.2 74 k (by unfold pT; omega)).trans (h.2 k hk).2⟩⟩
theorem m_rank {o : Nat} {M : fM} {φ : Int32 → fM → Prop} (ho : o ≤ 43) (h : φ (nI (rk o)) M) : w_X11_rank (nI o) M φ := by
  unfold rk at h
  by_cases h40 : 40 ≤ o
  · rw [if_pos h40] at h
    exact iF_f (fun c => absurd ((nIlt (b := 40) (by omega) (by omega)).mp c) (by omega)) h
  rw [if_neg h40] at h
  refine iF_t ((nIlt (b := 40) (by omega) (by omega)).mpr (by omega)) ?_
  by_cases h22 : o = 22
  · rw [if_pos h22] at h
    exact iF_t (by rw [h22]; rfl) h
  rw [if_neg h22] at h
  refine iF_f (fun c => h22 (nI_inj (b := 22) (by omega) (by omega) c)) ?_
  by_cases h21 : o = 21
  · rw [if_pos h21] at h
    exact iF_t (by rw [h21]; rfl) h
  rw [if_neg h21] at h
  refine iF_f (fun c => h21 (nI_inj (b := 21) (by omega) (by omega) c)) ?_
  by_cases h20 : o = 20
  · rw [if_pos h20] at h
    exact iF_t (by rw [h20]; rfl) h
  rw [if_neg h20] at h
  refine iF_f (fun c => h20 (nI_inj (b := 20) (by omega) (by omega) c)) ?_
  by_cases h10 : 10 ≤ o
  · rw [if_pos h10] at h
    exact iF_f (fun c => absurd ((nIlt (b := 10) (by omega) (by omega)).mp c) (by omega)) h
  rw [if_neg h10] at h
  refine iF_t ((nIlt (b := 10) (by omega) (by omega)).mpr (by omega)) ?_
  by_cases h3 : o = 3
  · rw [if_pos h3] at h
    exact iF_t (by rw [h3]; rfl) h
  rw [if_neg h3] at h
  refine iF_f (fun c => h3 (nI_inj (b := 3) (by omega) (by omega) c)) ?_
  by_cases h6 : 6 ≤ o
  · rw [if_pos h6] at h
    exact iF_f (fun c => absurd ((nIlt (b := 6) (by omega) (by omega)).mp c) (by omega)) h
  · rw [if_neg h6] at h
    exact iF_t ((nIlt (b := 6) (by omega) (by omega)).mpr (by omega)) h
theorem rk_7 (o : Nat) : rk o ≤ 7 := by
  unfold rk
  repeat' split
  all_goals omega
theorem m_emit {L t0 : Nat} {E : List (Nat × Nat)} {x : Nat × Nat} {a b : Int32} {M : fM} {φ : fM → Prop} (hS : Str L M) (ht : t0 + 705 ≤ 2820) (h12 : mI M 70 12 = nI t0) (h14 : mI M 70 14 = nI E.length) (hc : Cds M t0 E) (hE : E.length < 300) (ha : a = nI x.1) (hb : b = nI x.2) (hz : ∀ M2, FrX (pE t0) M M2 → mI M2 70 14 = nI (E.length + 1) → Cds M2 t0 (E ++ [x]) → φ M2) : w_X11_emit 70 a b M φ := by
  subst ha hb
  have hI : ∀ n, (nI t0 + (97 : Int32)) + (2 : Int32) * nI n = nI (t0 + 97 + 2 * n) := fun n => by
    rw [show nI t0 + (97 : Int32) = nI (t0 + 97) from nI_add _ 97, show (2 : Int32) * nI n = nI (2 * n) from nI_muL 2 n, nI_add]
  refine ⟨isO_pt hS (by decide) rfl, dR_of (Str.pg hS rfl) ⟨by omega, ?_⟩⟩
  rw [h12, h14, hI]
  refine ⟨inA_pt hS rfl (vp_nI (by omega) (by decide)), st_of ?_⟩
  rw [ix_nI (by omega)]
  have f1 : FrX (pE t0) M (wI M 73 (t0 + 97 + 2 * E.length) (nI x.1)) := FrX.w (Or.inr ⟨rfl, by omega, by omega⟩)
  have hS1 := f1.S hS
  refine dR_of (Str.pg hS1 rfl) ⟨by omega, ?_⟩
  rw [(f1.2 70 12 (by unfold pE; omega)).trans h12, show mI (wI M 73 (t0 + 97 + 2 * E.length) (nI x.1)) 70 14 = nI E.length from (mI_n (by omega)).trans h14, hI, show nI (t0 + 97 + 2 * E.length) + (1 : Int32) = nI (t0 + 97 + 2 * E.length + 1) from nI_add _ 1]
  refine ⟨inA_pt hS1 rfl (vp_nI (by omega) (by decide)), st_of ?_⟩
  rw [ix_nI (by omega)]
  have f2 : FrX (pE t0) M (wI (wI M 73 (t0 + 97 + 2 * E.length) (nI x.1)) 73 (t0 + 97 + 2 * E.length + 1) (nI x.2)) := f1.tr (FrX.w (Or.inr ⟨rfl, by omega, by omega⟩))
  refine nm_of (st_of ?_)
  rw [show mI (wI (wI M 73 (t0 + 97 + 2 * E.length) (nI x.1)) 73 (t0 + 97 + 2 * E.length + 1) (nI x.2)) 70 14 = nI E.length from (mI_n (by omega)).trans ((mI_n (by omega)).trans h14), show nI E.length + (1 : Int32) = nI (E.length + 1) from nI_add _ 1]
  refine hz _ (f2.tr (FrX.w (Or.inl ⟨rfl, rfl⟩))) (mI_s rfl rfl) fun j y hy => ?_
  by_cases e : j = E.length
  · subst e
    rw [List.getElem?_append_right (Nat.le_refl _), Nat.sub_self] at hy
    have hy : some x = some y := hy
    cases hy
    exact ⟨(mI_n (by omega)).trans ((mI_n (by omega)).trans (mI_s rfl rfl)), (mI_n (by omega)).trans (mI_s rfl (by omega))⟩
  · have hj : j < E.length := by
      have := (List.getElem?_eq_some_iff.mp hy).1
      rw [List.length_append] at this
      have : j < E.length + 1 := this
      omega
    rw [List.getElem?_append_left hj] at hy
    have q := hc j y hy
    exact ⟨(mI_n (by omega)).trans ((mI_n (by omega)).trans ((mI_n (by omega)).trans q.1)), (mI_n (by omega)).trans ((mI_n (by omega)).trans ((mI_n (by omega)).trans q.2))⟩
theorem FrX.eT {t0 : Nat} {M M2 : fM} (f : FrX (pE t0) M M2) : FrX (pT t0) M M2 := f.mn fun r k h => by unfold pE at h; unfold pT; omega
theorem m_set_l {L t0 l : Nat} {φ : fM → Prop} (ht : t0 + 705 ≤ 2820) (hl : 1 ≤ l) (hl7 : l ≤ 7) : ∀ (P : List Nat) (E : List (Nat × Nat)) (M : fM), Str L M → PM t0 P E M → E.length + P.length ≤ 300 → P.length ≤ 150 → (∀ M2, FrX (pT t0) M M2 → mI M2 70 19 = mI M 70 19 → PM t0 (stl l P E).1 (stl l P E).2 M2 → φ M2) → l_X11_settle_0 φ (P.length + 1) 70 (nI l) M := by
  intro P
  induction P with
  | nil =>
    intro E M hS h hb hb2 hz
    refine ⟨isO_pt hS (by decide) rfl, iF_t ?_ (hz M (FrX.rf M) rfl h)⟩
    rw [h.2.1]
    decide
  | cons o P ih =>
    intro E M hS h hb hb2 hz
    show b_X11_settle_0 (l_X11_settle_0 φ (P.length + 1)) φ 70 (nI l) M
    generalize hK : l_X11_settle_0 φ (P.length + 1) = K at ih ⊢
    have hb : E.length + (P.length + 1) ≤ 300 := hb
    have hb2 : P.length + 1 ≤ 150 := hb2
    obtain ⟨h1, h2, h3, h4, ⟨h5, h50, h51⟩, h6⟩ := h
    have h2 : mI M 70 17 = nI (P.length + 1) := h2
    have h3 : mI M 70 18 = nI (opn o + cnO P) := h3
    have h7 := rk_7 o
    refine ⟨isO_pt hS (by decide) rfl, ?_⟩
    rw [h2, show nI (P.length + 1) - (1 : Int32) = nI P.length from nI_sub (b := 1) (by omega)]
    refine iF_f (fun c => absurd ((nIle (b := 0) (by omega) (by omega)).mp c) (by omega)) (dR_of (Str.pg hS rfl) ⟨inA_pt hS rfl (vp_nI (by omega) (by decide)), ?_⟩)
    rw [ix_nI (by omega), h5]
    refine m_rank h50 ?_
    by_cases e : l ≤ rk o
    · refine iF_f (fun c => absurd ((nIlt (by omega) (by omega)).mp c) (by omega)) ⟨isO_pt hS (by decide) rfl, nm_of (st_of ?_)⟩
      rw [h2, show nI (P.length + 1) - (1 : Int32) = nI P.length from nI_sub (b := 1) (by omega)]
      have f1 : FrX (pT t0) M (wI M 70 17 (nI P.length)) := FrX.w (Or.inl ⟨rfl, by omega⟩)
      have hS1 := f1.S hS
      have g17 : mI (wI M 70 17 (nI P.length)) 70 17 = nI P.length := mI_s rfl rfl
      have g75 : mI (wI M 70 17 (nI P.length)) 75 P.length = nI o := (mI_n (by omega)).trans h5
      have g12 : mI (wI M 70 17 (nI P.length)) 70 12 = nI t0 := (mI_n (by omega)).trans h1
      have g14 : mI (wI M 70 17 (nI P.length)) 70 14 = nI E.length := (mI_n (by omega)).trans h4
      have g18 : mI (wI M 70 17 (nI P.length)) 70 18 = nI (opn o + cnO P) := (mI_n (by omega)).trans h3
      have gP : Pil (wI M 70 17 (nI P.length)) P := h51.cg fun k _ => mI_n (by omega)
      have gE : Cds (wI M 70 17 (nI P.length)) t0 E := fun j x hx => ⟨(mI_n (by omega)).trans (h6 j x hx).1, (mI_n (by omega)).trans (h6 j x hx).2⟩
      have gN : mI (wI M 70 17 (nI P.length)) 70 19 = mI M 70 19 := mI_n (by omega)
      generalize wI M 70 17 (nI P.length) = M1 at f1 hS1 g17 g75 g12 g14 g18 gP gE gN ⊢
      refine dR_of (Str.pg hS1 rfl) ?_
      rw [g17, ix_nI (by omega), g75]
      refine ⟨inA_pt hS1 rfl (vp_nI (by omega) (by decide)), m_emit (x := (o, 0)) hS1 ht g12 g14 gE (by omega) rfl rfl fun M2 f2 k14 kE => ?_⟩
      have hS2 := f2.S hS1
      have k17 : mI M2 70 17 = nI P.length := (f2.2 70 17 (by unfold pE; omega)).trans g17
      have k75 : mI M2 75 P.length = nI o := (f2.2 75 _ (by unfold pE; omega)).trans g75
      have k12 : mI M2 70 12 = nI t0 := (f2.2 70 12 (by unfold pE; omega)).trans g12
      have k18 : mI M2 70 18 = nI (opn o + cnO P) := (f2.2 70 18 (by unfold pE; omega)).trans g18
      have kP : Pil M2 P := gP.cg fun k _ => f2.2 75 k (by unfold pE; omega)
      have kN : mI M2 70 19 = mI M 70 19 := (f2.2 70 19 (by unfold pE; omega)).trans gN
      have f12 := f1.tr f2.eT
      have el : (E ++ [(o, 0)]).length = E.length + 1 := by
        rw [List.length_append]
        rfl
      have es : stl l (o :: P) E = stl l P (E ++ [(o, 0)]) := if_pos e
      rw [es] at hz
      have j76 : opn o = 1 → j_X11_settle_76 K φ 70 (nI l) M2 := by
        intro h1o
        refine ⟨isO_pt hS2 (by decide) rfl, nm_of (st_of ?_)⟩
        rw [k18, show nI (opn o + cnO P) - (1 : Int32) = nI (cnO P) from (nI_sub (b := 1) (by omega)).trans (congrArg nI (by omega))]
        have f3 : FrX (pT t0) M2 (wI M2 70 18 (nI (cnO P))) := FrX.w (Or.inl ⟨rfl, by omega⟩)
        refine ih (E ++ [(o, 0)]) _ (f3.S hS2) ⟨(mI_n (by omega)).trans k12, (mI_n (by omega)).trans k17, mI_s rfl rfl, ?_, kP.cg fun k _ => mI_n (by omega), fun j x hx => ⟨(mI_n (by omega)).trans (kE j x hx).1, (mI_n (by omega)).trans (kE j x hx).2⟩⟩ (by omega) (by omega) fun M4 f4 n4 p4 => hz M4 ((f12.tr f3).tr f4) (n4.trans ((mI_n (by omega)).trans kN)) p4
        rw [el]
        exact (mI_n (by omega)).trans k14
      have lo : o < 40 := by
        rcases Nat.lt_or_ge o 40 with h | h
        · exact h
        · have : rk o = 0 := if_pos h
          omega
      refine ⟨isO_pt hS2 (by decide) rfl, dR_of (Str.pg hS2 rfl) ?_⟩
      rw [k17, ix_nI (by omega), k75]
      refine ⟨inA_pt hS2 rfl (vp_nI (by omega) (by decide)), ?_⟩
      by_cases o3 : o = 3
      · exact iF_t (by rw [o3]; rfl) (j76 (by rw [o3]; rfl))
      refine iF_f (fun c => o3 (nI_inj (b := 3) (by omega) (by omega) c)) (dR_of (Str.pg hS2 rfl) ?_)
      rw [k75]
      refine ⟨inA_pt hS2 rfl (vp_nI (by omega) (by decide)), ?_⟩
      by_cases o20 : o = 20
      · exact iF_t (by rw [o20]; rfl) (j76 (by rw [o20]; rfl))
      refine iF_f (fun c => o20 (nI_inj (b := 20) (by omega) (by omega) c)) ?_
      have op0 : opn o = 0 := if_neg (by omega)
      refine ih (E ++ [(o, 0)]) M2 hS2 ⟨k12, k17, ?_, ?_, kP, kE⟩ (by omega) (by omega) fun M4 f4 n4 p4 => hz M4 (f12.tr f4) (n4.trans kN) p4
      · rw [k18, op0, Nat.zero_add]
      · rw [el]
        exact k14
    · refine iF_t ((nIlt (by omega) (by omega)).mpr (by omega)) (hz M (FrX.rf M) rfl ?_)
      rw [show stl l (o :: P) E = (o :: P, E) from if_neg e]
      exact ⟨h1, h2, h3, h4, ⟨h5, h50, h51⟩, h6⟩
theorem m_settle {L t0 l : Nat} {P : List Nat} {E : List (Nat × Nat)} {a : Int32} {M : fM} {φ : fM → Prop} (ht : t0 + 705 ≤ 2820) (ha : a = nI l) (hl : 1 ≤ l) (hl7 : l ≤ 7) (hS : Str L M) (h : PM t0 P E M) (hb : E.length + P.length ≤ 300) (hb2 : P.length ≤ 150) (hz : ∀ M2, FrX (pT t0) M M2 → mI M2 70 19 = mI M 70 19 → PM t0 (stl l P E).1 (stl l P E).2 M2 → φ M2) : w_X11_settle 70 a M φ := by
  subst ha
  exact ⟨P.length + 1, m_set_l ht hl hl7 P E M hS h hb hb2 hz⟩
