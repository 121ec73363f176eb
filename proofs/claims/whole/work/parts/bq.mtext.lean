/-! ===== TEXT: the model's call ===== -/
def pW (t0 r k : Nat) : Prop := (r = 70 ∧ 4 ≤ k ∧ k ≤ 20) ∨ (r = 73 ∧ t0 ≤ k ∧ k < t0 + 705) ∨ r = 75 ∨ (r = 71 ∧ k = 3)
theorem FG.vW {t0 : Nat} {M M2 : fM} (f : FG (pV t0) M M2) : FG (pW t0) M M2 := f.mn fun r k h => by
  unfold pV at h
  unfold pW
  omega
theorem m_rt_l {L t0 tl i' : Nat} {tp : Nat → Nat} {CL' : List Cl} {E' : List (Nat × Nat)} {φ : Int32 → fM → Prop} {Z : Int32 → fM → Prop} (ht : t0 + 705 ≤ 2820) (htl : tl ≤ 300) (hend : ∀ (K : Nat → fM → Prop) M, Str L M → MTx M t0 tp tl CL' E' i' → E'.length ≤ i' → (∀ v M2, FG (pV t0) M M2 → Z v M2 → φ v M2) → b_X11_readText_43 K φ 70 M) : ∀ (n : Nat) (CL : List Cl) (E : List (Nat × Nat)) (i : Nat) (M : fM), Str L M → MTx M t0 tp tl CL E i → E.length ≤ i → ChN (TKk tp tl) (TKv tp tl) n CL E i CL' E' i' → (∀ v M2, FG (pV t0) M M2 → Z v M2 → φ v M2) → l_X11_readText_43 φ (n + 1) 70 M := by
  intro n
  induction n with
  | zero =>
    intro CL E i M hS mt hE ch hz
    obtain ⟨e1, e2, e3⟩ := ch
    subst e1 e2 e3
    exact hend _ M hS mt hE hz
  | succ n ih =>
    intro CL E i M hS mt hE ch hz
    obtain ⟨em, j, z, cr, ch⟩ := ch
    show b_X11_readText_43 (l_X11_readText_43 φ (n + 1)) φ 70 M
    refine ⟨isO_pt hS (by decide) rfl, iF_f (fun c => z (mt.1.1.e.mp c)) (m_clK ht hS htl mt hE cr fun M2 f2 m2 => iF_t rfl (ih _ _ _ M2 (f2.S hS) m2 ?_ ch fun v M3 f3 => hz v M3 (f2.tr f3)))⟩
    have := cr.2.2.2.2
    rw [List.length_append]
    omega
theorem m_rtK {L t0 tl n i' : Nat} {tp : Nat → Nat} {CL' : List Cl} {E' : List (Nat × Nat)} {φ : Int32 → fM → Prop} {M : fM} (ht : t0 + 705 ≤ 2820) (htl : tl ≤ 300) (hS : Str L M) (mt : MTx M t0 tp tl [] [] 0) (ch : ChN (TKk tp tl) (TKv tp tl) n [] [] 0 CL' E' i') (he : TKk tp tl i' = 61) (hz : ∀ M2, FG (pV t0) M M2 → mI M2 73 t0 = nI CL'.length → Cds M2 t0 E' → McA M2 t0 CL' → φ 0 M2) : l_X11_readText_43 φ (n + 1) 70 M := by
  refine m_rt_l (Z := fun v M2 => v = 0 ∧ mI M2 73 t0 = nI CL'.length ∧ Cds M2 t0 E' ∧ McA M2 t0 CL') ht htl (fun K M1 hS1 m1 hE1 hz1 => ?_) n [] [] 0 M hS mt (Nat.le_refl _) ch fun v M2 f2 z2 => ?_
  · obtain ⟨⟨ts, lv, hT⟩, q12, q13, q14, q18, qb, qc, qm⟩ := m1
    refine ⟨isO_pt hS1 (by decide) rfl, iF_t (ts.e.mpr he) (dR_of (Str.pg hS1 rfl) (nm_of ⟨by omega, ?_⟩))⟩
    rw [q12, q13, ix_nI (by omega)]
    refine ⟨inA_pt hS1 rfl (vp_nI (by omega) (by decide)), st_of (hz1 0 _ (FG.w (Or.inr (Or.inl ⟨rfl, by omega, by omega⟩))) ⟨rfl, mI_s rfl rfl, fun k x hx => ⟨(mI_n (by omega)).trans (qc k x hx).1, (mI_n (by omega)).trans (qc k x hx).2⟩, fun k c hk => ?_⟩)⟩
    obtain ⟨a1, a2, a3⟩ := qm k c hk
    exact ⟨(mI_n (by omega)).trans a1, fun lt => ⟨(mI_n (by omega)).trans (a2 lt).1, (mI_n (by omega)).trans (a2 lt).2⟩, fun ge q hq => (mI_n (by omega)).trans (a3 ge q hq)⟩
  · obtain ⟨e, z1, z2, z3⟩ := z2
    subst e
    exact hz M2 f2 z1 z2 z3
theorem m_rtF {L t0 tl n i' f k : Nat} {tp : Nat → Nat} {CL' : List Cl} {E' : List (Nat × Nat)} {φ : Int32 → fM → Prop} {M : fM} (ht : t0 + 705 ≤ 2820) (htl : tl ≤ 300) (hS : Str L M) (mt : MTx M t0 tp tl [] [] 0) (ch : ChN (TKk tp tl) (TKv tp tl) n [] [] 0 CL' E' i') (he : TKk tp tl i' ≠ 61) (hf : 1 ≤ f ∧ f ≤ 6) (cf : ClF (TKk tp tl) (TKv tp tl) CL' i' f k) (hz : ∀ M2, FG (pV t0) M M2 → TS M2 tp tl k → φ (nI f) M2) : l_X11_readText_43 φ (n + 1) 70 M := by
  refine m_rt_l (Z := fun v M2 => v = nI f ∧ TS M2 tp tl k) ht htl (fun K M1 hS1 m1 hE1 hz1 => ?_) n [] [] 0 M hS mt (Nat.le_refl _) ch fun v M2 f2 z2 => ?_
  · refine ⟨isO_pt hS1 (by decide) rfl, iF_f (fun c => he (m1.1.1.e.mp c)) (m_clF ht hS1 htl m1 hE1 hf cf fun M2 f2 t2 => iF_f (fun c => absurd (nI_inj (b := 0) (by omega) (by omega) c) (by omega)) (hz1 _ M2 f2 ⟨rfl, t2⟩))⟩
  · obtain ⟨e, z1⟩ := z2
    subst e
    exact hz M2 f2 z1
theorem m_rt0 {L a3 tl : Nat} {tp : Nat → Nat} {φ : Int32 → fM → Prop} {M : fM} (hS : Str L M) (htl : tl ≤ 300) (h3 : mI M 71 3 = nI a3) (ha : a3 < 4) (hT : TpM M tl tp) (hz : ∀ M2, FG (pW (705 * a3)) M M2 → (∀ k, k = 5 ∨ k = 6 → mI M2 70 k = mI M 70 k) → mI M2 71 3 = nI a3 → MTx M2 (705 * a3) tp tl [] [] 0 → ∃ n, l_X11_readText_43 φ n 70 M2) : w_X11_readText 70 M φ := by
  refine ⟨isO_pt hS (by decide) rfl, dR_of (Str.pg hS rfl) ⟨inA_pt hS rfl (vp_nI (n := 3) (by omega) (by decide)), nm_of (st_of (st_of (st_of (st_of (st_of (st_of ?_))))))⟩⟩
  rw [show ix (3 : Int32) = 3 from rfl, h3, show (705 : Int32) * nI a3 = nI (705 * a3) from nI_muL 705 a3]
  have f1 : FrX (fun r k => r = 70 ∧ (k = 12 ∨ k = 13 ∨ k = 14 ∨ k = 18 ∨ k = 15 ∨ k = 7)) M (wI (wI (wI (wI (wI (wI M 70 12 (nI (705 * a3))) 70 13 (0 : Int32)) 70 14 (0 : Int32)) 70 18 (0 : Int32)) 70 15 (0 : Int32)) 70 7 (0 : Int32)) := (((((FrX.w ⟨rfl, by omega⟩).tr (FrX.w ⟨rfl, by omega⟩)).tr (FrX.w ⟨rfl, by omega⟩)).tr (FrX.w ⟨rfl, by omega⟩)).tr (FrX.w ⟨rfl, by omega⟩)).tr (FrX.w ⟨rfl, by omega⟩)
  have g7 : mI (wI (wI (wI (wI (wI (wI M 70 12 (nI (705 * a3))) 70 13 (0 : Int32)) 70 14 (0 : Int32)) 70 18 (0 : Int32)) 70 15 (0 : Int32)) 70 7 (0 : Int32)) 70 7 = nI 0 := mI_s rfl rfl
  have g15 : mI (wI (wI (wI (wI (wI (wI M 70 12 (nI (705 * a3))) 70 13 (0 : Int32)) 70 14 (0 : Int32)) 70 18 (0 : Int32)) 70 15 (0 : Int32)) 70 7 (0 : Int32)) 70 15 = nI 0 := (mI_n (by omega)).trans (mI_s rfl rfl)
  have g18 : mI (wI (wI (wI (wI (wI (wI M 70 12 (nI (705 * a3))) 70 13 (0 : Int32)) 70 14 (0 : Int32)) 70 18 (0 : Int32)) 70 15 (0 : Int32)) 70 7 (0 : Int32)) 70 18 = 0 := (mI_n (by omega)).trans ((mI_n (by omega)).trans (mI_s rfl rfl))
  have g14 : mI (wI (wI (wI (wI (wI (wI M 70 12 (nI (705 * a3))) 70 13 (0 : Int32)) 70 14 (0 : Int32)) 70 18 (0 : Int32)) 70 15 (0 : Int32)) 70 7 (0 : Int32)) 70 14 = nI 0 := (mI_n (by omega)).trans ((mI_n (by omega)).trans ((mI_n (by omega)).trans (mI_s rfl rfl)))
  have g13 : mI (wI (wI (wI (wI (wI (wI M 70 12 (nI (705 * a3))) 70 13 (0 : Int32)) 70 14 (0 : Int32)) 70 18 (0 : Int32)) 70 15 (0 : Int32)) 70 7 (0 : Int32)) 70 13 = nI 0 := (mI_n (by omega)).trans ((mI_n (by omega)).trans ((mI_n (by omega)).trans ((mI_n (by omega)).trans (mI_s rfl rfl))))
  have g12 : mI (wI (wI (wI (wI (wI (wI M 70 12 (nI (705 * a3))) 70 13 (0 : Int32)) 70 14 (0 : Int32)) 70 18 (0 : Int32)) 70 15 (0 : Int32)) 70 7 (0 : Int32)) 70 12 = nI (705 * a3) := (mI_n (by omega)).trans ((mI_n (by omega)).trans ((mI_n (by omega)).trans ((mI_n (by omega)).trans ((mI_n (by omega)).trans (mI_s rfl rfl)))))
  generalize wI (wI (wI (wI (wI (wI M 70 12 (nI (705 * a3))) 70 13 (0 : Int32)) 70 14 (0 : Int32)) 70 18 (0 : Int32)) 70 15 (0 : Int32)) 70 7 (0 : Int32) = M1 at f1 g7 g15 g18 g14 g13 g12 ⊢
  have hS1 := f1.S hS
  have hT1 : TpM M1 tl tp := ⟨(f1.2 70 4 (by omega)).trans hT.1, fun k hk => ⟨(hT.2 k hk).1, (f1.2 74 k (by omega)).trans (hT.2 k hk).2⟩⟩
  refine m_next (i := 0) (q := 0) hS1 hT1 htl (Nat.zero_le _) rfl g7 fun M2 f2 t2 => ?_
  have o2 : ∀ k, 11 ≤ k → mI M2 70 k = mI M1 70 k := fun k hk => f2.2.1 70 k (by unfold pN; omega)
  refine hz M2 (((FG.x f1).mn fun r k h => Or.inl ⟨h.1, by omega, by omega⟩).tr (f2.mn fun r k h => by unfold pN at h; exact Or.inl ⟨h.1, by omega, by omega⟩)) (fun k hk => (f2.2.1 70 k (by unfold pN; omega)).trans (f1.2 70 k (by omega))) ((f2.2.1 71 3 (by unfold pN; omega)).trans ((f1.2 71 3 (by omega)).trans h3)) ⟨⟨t2, fun k hk => absurd hk (Nat.not_lt_zero _), hT1.g f2⟩, (o2 12 (by omega)).trans g12, (o2 13 (by omega)).trans g13, (o2 14 (by omega)).trans g14, (o2 18 (by omega)).trans g18, ⟨0, by decide, (o2 15 (by omega)).trans g15, fun s _ => ⟨fun c => absurd c (by rw [Nat.zero_testBit]; decide), fun ⟨x, hx, _⟩ => absurd hx List.not_mem_nil⟩⟩, fun j x hx => by simp at hx, fun k c hk => by simp at hk⟩
theorem m_txK {L a3 tl n i' : Nat} {tp : Nat → Nat} {CL' : List Cl} {E' : List (Nat × Nat)} {φ : Int32 → fM → Prop} {M : fM} (hS : Str L M) (htl : tl ≤ 300) (h3 : mI M 71 3 = nI a3) (ha : a3 < 4) (hT : TpM M tl tp) (ch : ChN (TKk tp tl) (TKv tp tl) n [] [] 0 CL' E' i') (he : TKk tp tl i' = 61) (hz : ∀ M2, FG (pW (705 * a3)) M M2 → mI M2 70 5 = 0 → mI M2 70 6 = -1 → mI M2 70 4 = 0 → mI M2 71 3 = nI (a3 + 1) → mI M2 73 (705 * a3) = nI CL'.length → Cds M2 (705 * a3) E' → McA M2 (705 * a3) CL' → φ (nI a3) M2) : w_X11_text 70 M φ := by
  refine ⟨isO_pt hS (by decide) rfl, dR_of (Str.pg hS rfl) ⟨inA_pt hS rfl (vp_nI (n := 3) (by omega) (by decide)), ?_⟩⟩
  rw [show ix (3 : Int32) = 3 from rfl, h3]
  refine iF_f (fun c => absurd (nI_inj (b := 4) (by omega) (by omega) c) (by omega)) (m_rt0 hS htl h3 ha hT fun M1 f1 k1 e3 m1 => ⟨n + 1, m_rtK (by omega) htl (f1.S hS) m1 ch he fun M2 f2 z1 z2 z3 => ?_⟩)
  have hS2 := f2.S (f1.S hS)
  have b3 : mI M2 71 3 = nI a3 := (f2.2.1 71 3 (by unfold pV; omega)).trans e3
  have f3 : FG (pW (705 * a3)) M2 (wI M2 70 5 (0 : Int32)) := FG.w (Or.inl ⟨rfl, by omega, by omega⟩)
  have f4 : FG (pW (705 * a3)) (wI M2 70 5 (0 : Int32)) (wI (wI M2 70 5 (0 : Int32)) 70 6 (-1 : Int32)) := FG.w (Or.inl ⟨rfl, by omega, by omega⟩)
  have f5 : FG (pW (705 * a3)) (wI (wI M2 70 5 (0 : Int32)) 70 6 (-1 : Int32)) (wI (wI (wI M2 70 5 (0 : Int32)) 70 6 (-1 : Int32)) 70 4 (0 : Int32)) := FG.w (Or.inl ⟨rfl, by omega, by omega⟩)
  have hS5 := f5.S (f4.S (f3.S hS2))
  have o5 : ∀ r k, ¬ (r = 70 ∧ 4 ≤ k ∧ k ≤ 6) → mI (wI (wI (wI M2 70 5 (0 : Int32)) 70 6 (-1 : Int32)) 70 4 (0 : Int32)) r k = mI M2 r k := fun r k h => (mI_n (by omega)).trans ((mI_n (by omega)).trans (mI_n (by omega)))
  have c5 : mI (wI (wI (wI M2 70 5 (0 : Int32)) 70 6 (-1 : Int32)) 70 4 (0 : Int32)) 70 5 = 0 := (mI_n (by omega)).trans ((mI_n (by omega)).trans (mI_s rfl rfl))
  have c6 : mI (wI (wI (wI M2 70 5 (0 : Int32)) 70 6 (-1 : Int32)) 70 4 (0 : Int32)) 70 6 = -1 := (mI_n (by omega)).trans (mI_s rfl rfl)
  have c4 : mI (wI (wI (wI M2 70 5 (0 : Int32)) 70 6 (-1 : Int32)) 70 4 (0 : Int32)) 70 4 = 0 := mI_s rfl rfl
  refine ⟨isO_pt hS2 (by decide) rfl, st_of (iF_t (mI_s rfl rfl) ⟨isO_pt (f3.S hS2) (by decide) rfl, st_of ⟨isO_pt (f4.S (f3.S hS2)) (by decide) rfl, st_of ?_⟩⟩)⟩
  generalize wI (wI (wI M2 70 5 (0 : Int32)) 70 6 (-1 : Int32)) 70 4 (0 : Int32) = M5 at f5 hS5 o5 c5 c6 c4 ⊢
  refine iF_t c5 (dR_of (Str.pg hS5 rfl) ⟨inA_pt hS5 rfl (vp_nI (n := 3) (by omega) (by decide)), nm_of ⟨by omega, inA_pt hS5 rfl (vp_nI (n := 3) (by omega) (by decide)), st_of ?_⟩⟩)
  rw [show ix (3 : Int32) = 3 from rfl, (o5 71 3 (by omega)).trans b3, show nI a3 + (1 : Int32) = nI (a3 + 1) from nI_add _ 1]
  have f6 : FG (pW (705 * a3)) M5 (wI M5 71 3 (nI (a3 + 1))) := FG.w (Or.inr (Or.inr (Or.inr ⟨rfl, rfl⟩)))
  have hS6 := f6.S hS5
  refine dR_of (Str.pg hS6 rfl) ⟨inA_pt hS6 rfl (vp_nI (n := 3) (by omega) (by decide)), ?_⟩
  rw [show mI (wI M5 71 3 (nI (a3 + 1))) 71 3 = nI (a3 + 1) from mI_s rfl rfl, nI_s1]
  refine hz _ (((((f1.tr f2.vW).tr f3).tr f4).tr f5).tr f6) ((mI_n (by omega)).trans c5) ((mI_n (by omega)).trans c6) ((mI_n (by omega)).trans c4) (mI_s rfl rfl) ((mI_n (by omega)).trans ((o5 73 _ (by omega)).trans z1)) (fun j x hx => ⟨(mI_n (by omega)).trans ((o5 73 _ (by omega)).trans (z2 j x hx).1), (mI_n (by omega)).trans ((o5 73 _ (by omega)).trans (z2 j x hx).2)⟩) fun k c hk => ?_
  obtain ⟨a1, a2, a3'⟩ := z3 k c hk
  exact ⟨(mI_n (by omega)).trans ((o5 73 _ (by omega)).trans a1), fun lt => ⟨(mI_n (by omega)).trans ((o5 73 _ (by omega)).trans (a2 lt).1), (mI_n (by omega)).trans ((o5 73 _ (by omega)).trans (a2 lt).2)⟩, fun ge q hq => (mI_n (by omega)).trans ((o5 73 _ (by omega)).trans (a3' ge q hq))⟩
theorem m_txF {L a3 tl f k : Nat} {tp : Nat → Nat} {φ : Int32 → fM → Prop} {M : fM} (hS : Str L M) (htl : tl ≤ 300) (h3 : mI M 71 3 = nI a3) (ha : a3 < 4) (hT : TpM M tl tp) (hf : 1 ≤ f ∧ f ≤ 6) (cf : ChF (TKk tp tl) (TKv tp tl) [] [] 0 f k) (hz : ∀ M2, FG (pW (705 * a3)) M M2 → mI M2 70 5 = nI f → mI M2 70 6 = nI (poS tp tl k) → mI M2 70 4 = 0 → mI M2 71 3 = nI a3 → φ (-1) M2) : w_X11_text 70 M φ := by
  obtain ⟨n, CL', E', i', ch, he, cf⟩ := cf
  refine ⟨isO_pt hS (by decide) rfl, dR_of (Str.pg hS rfl) ⟨inA_pt hS rfl (vp_nI (n := 3) (by omega) (by decide)), ?_⟩⟩
  rw [show ix (3 : Int32) = 3 from rfl, h3]
  refine iF_f (fun c => absurd (nI_inj (b := 4) (by omega) (by omega) c) (by omega)) (m_rt0 hS htl h3 ha hT fun M1 f1 k1 e3 m1 => ⟨n + 1, m_rtF (by omega) htl (f1.S hS) m1 ch he hf cf fun M2 f2 t2 => ?_⟩)
  have hS2 := f2.S (f1.S hS)
  have b3 : mI M2 71 3 = nI a3 := (f2.2.1 71 3 (by unfold pV; omega)).trans e3
  have f3 : FG (pW (705 * a3)) M2 (wI M2 70 5 (nI f)) := FG.w (Or.inl ⟨rfl, by omega, by omega⟩)
  have c5 : mI (wI M2 70 5 (nI f)) 70 5 = nI f := mI_s rfl rfl
  have fI : ¬ nI f = 0 := fun c => absurd (nI_inj (b := 0) (by omega) (by omega) c) (by omega)
  refine ⟨isO_pt hS2 (by decide) rfl, st_of (iF_f (fun c => fI (c5.symm.trans c)) ⟨isO_pt (f3.S hS2) (by decide) rfl, st_of ?_⟩)⟩
  rw [show mI (wI M2 70 5 (nI f)) 70 8 = nI (poS tp tl k) from (mI_n (by omega)).trans t2.2.1]
  have f4 : FG (pW (705 * a3)) (wI M2 70 5 (nI f)) (wI (wI M2 70 5 (nI f)) 70 6 (nI (poS tp tl k))) := FG.w (Or.inl ⟨rfl, by omega, by omega⟩)
  refine ⟨isO_pt (f4.S (f3.S hS2)) (by decide) rfl, st_of ?_⟩
  have f5 : FG (pW (705 * a3)) (wI (wI M2 70 5 (nI f)) 70 6 (nI (poS tp tl k))) (wI (wI (wI M2 70 5 (nI f)) 70 6 (nI (poS tp tl k))) 70 4 (0 : Int32)) := FG.w (Or.inl ⟨rfl, by omega, by omega⟩)
  have d5 : mI (wI (wI (wI M2 70 5 (nI f)) 70 6 (nI (poS tp tl k))) 70 4 (0 : Int32)) 70 5 = nI f := (mI_n (by omega)).trans ((mI_n (by omega)).trans c5)
  exact iF_f (fun c => fI (d5.symm.trans c)) (hz _ ((((f1.tr f2.vW).tr f3).tr f4).tr f5) d5 ((mI_n (by omega)).trans (mI_s rfl rfl)) (mI_s rfl rfl) ((mI_n (by omega)).trans ((mI_n (by omega)).trans ((mI_n (by omega)).trans b3))))
