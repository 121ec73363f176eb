/-! ===== TEXT: the model reads a DEED ===== -/
def TQ (M : fM) (tp : Nat → Nat) (tl i : Nat) : Prop := TS M tp tl i ∧ lvT tp tl i ∧ TpM M tl tp
def pV (t0 r k : Nat) : Prop := (r = 70 ∧ ((7 ≤ k ∧ k ≤ 10) ∨ (13 ≤ k ∧ k ≤ 15) ∨ (17 ≤ k ∧ k ≤ 20))) ∨ (r = 73 ∧ t0 ≤ k ∧ k < t0 + 705) ∨ r = 75
def pG (c n r k : Nat) : Prop := pN r k ∨ (r = 73 ∧ c ≤ k ∧ k < c + n)
def Fg (T V : Nat → Nat) (lo hi i : Nat) : Prop := T i = 60 ∧ lo ≤ V i ∧ V i ≤ hi
def fgE (T : Nat → Nat) (i : Nat) : Nat := if T i = 60 then 2 else 1
theorem ddN_k {T V : Nat → Nat} {lo hi w i : Nat} {l : List (Nat × Nat × Nat)} (h : Fg T V lo hi i) : ddN T V ((lo, hi, w) :: l) i = if w = 99 then ddN T V l (i + 1) else if T (i + 1) = w then ddN T V l (i + 2) else (1, i + 1) := by
  obtain ⟨h1, h2, h3⟩ := h
  show (if T i ≠ 60 then (1, i) else if V i < lo ∨ hi < V i then (2, i) else if w = 99 then ddN T V l (i + 1) else if T (i + 1) = w then ddN T V l (i + 2) else (1, i + 1)) = _
  rw [if_neg (fun c => c h1), if_neg (by omega)]
theorem ddN_f {T V : Nat → Nat} {lo hi w i : Nat} {l : List (Nat × Nat × Nat)} (h : ¬ Fg T V lo hi i) : ddN T V ((lo, hi, w) :: l) i = (fgE T i, i) := by
  show (if T i ≠ 60 then (1, i) else if V i < lo ∨ hi < V i then (2, i) else if w = 99 then ddN T V l (i + 1) else if T (i + 1) = w then ddN T V l (i + 2) else (1, i + 1)) = _
  unfold fgE
  by_cases a : T i = 60
  · rw [if_neg (fun c => c a), if_pos a, if_pos]
    rcases Nat.lt_or_ge (V i) lo with b | b
    · exact Or.inl b
    · rcases Nat.lt_or_ge hi (V i) with c | c
      · exact Or.inr c
      · exact absurd ⟨a, b, c⟩ h
  · rw [if_pos a, if_neg a]
theorem fgE_0 (T : Nat → Nat) (i : Nat) : fgE T i ≠ 0 := by
  unfold fgE
  split <;> decide
theorem TQ.g {c n : Nat} {tp : Nat → Nat} {tl i : Nat} {M M2 : fM} (f : FG (pG c n) M M2) (h : TpM M tl tp) : TpM M2 tl tp := ⟨(f.2.1 70 4 (by unfold pG pN; omega)).trans h.1, fun k hk => ⟨(h.2 k hk).1, (f.2.1 74 k (by unfold pG pN; omega)).trans (h.2 k hk).2⟩⟩
theorem TS.w73 {k : Nat} {v : Int32} {tp : Nat → Nat} {tl i : Nat} {M : fM} (h : TS M tp tl i) : TS (wI M 73 k v) tp tl i := by
  have e : ∀ q, mI (wI M 73 k v) 70 q = mI M 70 q := fun q => mI_n (by omega)
  have ej : ∀ q, mJ (wI M 73 k v) 70 q = mJ M 70 q := fun q => rfl
  unfold TS TR at h ⊢
  rw [e 7, e 8, e 9, e 10, ej 11]
  exact h
theorem m_fig {L tl i c lo hi : Nat} {tp : Nat → Nat} {M : fM} {φ : Int32 → fM → Prop} (hS : Str L M) (htl : tl ≤ 300) (hc : c < 2820) (tq : TQ M tp tl i) (hlo : lo ≤ 1) (hhi : hi ≤ 99) (h1 : Fg (TKk tp tl) (TKv tp tl) lo hi i → ∀ M2, FG (pG c 1) M M2 → mI M2 73 c = nI (TKv tp tl i) → TQ M2 tp tl (i + 1) → φ 0 M2) (h0 : ¬ Fg (TKk tp tl) (TKv tp tl) lo hi i → φ (nI (fgE (TKk tp tl) i)) M) : w_X11_figure 70 (nI c) (nI lo) (nI hi) M φ := by
  obtain ⟨ts, lv, hT⟩ := tq
  refine ⟨isO_pt hS (by decide) rfl, ?_⟩
  by_cases z : TKk tp tl i = 60
  · refine iF_t (ts.n.mpr z) ?_
    obtain ⟨n, hn, hnu⟩ := ts.v z
    rw [hn]
    have nb : n ≤ 1000000 ∧ (n ≤ 9999 → n = TKv tp tl i) ∧ (TKv tp tl i ≤ 9999 → n = TKv tp tl i) := by
      rcases hnu with q | q <;> omega
    refine m_isIn (by omega) (by omega) (by omega) ?_
    by_cases g : Fg (TKk tp tl) (TKv tp tl) lo hi i
    · have g2 := g.2
      have en : n = TKv tp tl i := nb.2.2 (by omega)
      rw [if_pos (by omega)]
      refine iF_f (by decide) ⟨isO_pt hS (by decide) rfl, dR_of (Str.pg hS rfl) (nm_of ⟨by omega, inA_pt hS rfl (vp_nI (by omega) (by decide)), st_of ?_⟩)⟩
      rw [ix_nI (by omega), hn, en]
      have f1 : FG (pG c 1) M (wI M 73 c (nI (TKv tp tl i))) := FG.w (Or.inr ⟨rfl, by omega, by omega⟩)
      refine m_nextS (f1.S hS) (TQ.g (i := i) f1 hT) htl lv (by omega) ts.w73 fun M2 f2 t2 => h1 g M2 (f1.tr (f2.mn fun r k h => Or.inl h)) ?_ ⟨t2, lvT_s lv (by omega), (TQ.g (i := i) f1 hT).g f2⟩
      rw [f2.2.1 73 c (by unfold pN; omega), mI_s rfl rfl]
    · have hno : ¬ (lo ≤ n ∧ n ≤ hi) := fun q => g ⟨z, by have := nb.2.1 (by omega); omega⟩
      rw [if_neg hno]
      have h0 := h0 g
      unfold fgE at h0
      rw [if_pos z] at h0
      exact iF_t rfl h0
  · refine iF_f (fun q => z (ts.n.mp q)) ?_
    have h0 := h0 (fun q => z q.1)
    unfold fgE at h0
    rw [if_neg z] at h0
    exact h0
theorem m_wrd {L tl i c lo hi w : Nat} {x : Int64} {tp : Nat → Nat} {M : fM} {φ : Int32 → fM → Prop} (hS : Str L M) (htl : tl ≤ 300) (hc : c < 2820) (tq : TQ M tp tl i) (hlo : lo ≤ 1) (hhi : hi ≤ 99) (hw : w < 35) (hx : x = jN (pkW w)) (h1 : TKk tp tl i = w → Fg (TKk tp tl) (TKv tp tl) lo hi (i + 1) → ∀ M2, FG (pG c 1) M M2 → mI M2 73 c = nI (TKv tp tl (i + 1)) → TQ M2 tp tl (i + 2) → φ 0 M2) (h2 : TKk tp tl i = w → ¬ Fg (TKk tp tl) (TKv tp tl) lo hi (i + 1) → ∀ M2, FG (pG c 1) M M2 → TQ M2 tp tl (i + 1) → φ (nI (fgE (TKk tp tl) (i + 1))) M2) (h0 : TKk tp tl i ≠ w → φ 1 M) : w_X11_worded 70 x (nI c) (nI lo) (nI hi) M φ := by
  obtain ⟨ts, lv, hT⟩ := tq
  refine ⟨isO_pt hS (by decide) rfl, m_isWd hS ts hw hx (fun e => iF_f (by decide) ⟨isO_pt hS (by decide) rfl, m_nextS hS hT htl lv (by omega) ts fun M1 f1 t1 => ?_⟩) (fun e => iF_t rfl (h0 e))⟩
  have fn : FG (pG c 1) M M1 := f1.mn fun r k h => Or.inl h
  have hS1 := f1.S hS
  have q1 : TQ M1 tp tl (i + 1) := ⟨t1, lvT_s lv (by omega), hT.g f1⟩
  exact ⟨isO_pt hS1 (by decide) rfl, m_fig hS1 htl hc q1 hlo hhi (fun g M2 f2 v2 q2 => h1 e g M2 (fn.tr f2) v2 q2) fun g => h2 e g M1 fn q1⟩
theorem pG_m {c c2 n m : Nat} {M M2 : fM} (f : FG (pG c n) M M2) (h1 : c2 ≤ c) (h2 : c + n ≤ c2 + m) : FG (pG c2 m) M M2 := f.mn fun r k h => by
  rcases h with h | h
  · exact Or.inl h
  · exact Or.inr ⟨h.1, by omega, by omega⟩
/-- the outcome of a DEED, for the model -/
def DdZ (tp : Nat → Nat) (tl x i so : Nat) (M : fM) (φ : Int32 → fM → Prop) : Prop := (∀ M2 j, FG (pG (x + 1) 3) M M2 → TQ M2 tp tl j → (∀ q, q < arN so → mI M2 73 (x + 1 + q) = nI (TKv tp tl (i + 2 * q))) → ddN (TKk tp tl) (TKv tp tl) (shD so) i = (0, j) → φ 0 M2) ∧ ∀ M2 f j, FG (pG (x + 1) 3) M M2 → TQ M2 tp tl j → ddN (TKk tp tl) (TKv tp tl) (shD so) i = (f, j) → f ≠ 0 → φ (nI f) M2
theorem m_d1 {L tl i x so lo hi : Nat} {tp : Nat → Nat} {M : fM} {φ : Int32 → fM → Prop} (hS : Str L M) (htl : tl ≤ 300) (hc : x + 4 ≤ 2820) (tq : TQ M tp tl i) (hlo : lo ≤ 1) (hhi : hi ≤ 99) (hsh : shD so = [(lo, hi, 99)]) (har : arN so = 1) (hz : DdZ tp tl x i so M φ) : w_X11_figure 70 (nI x + (1 : Int32)) (nI lo) (nI hi) M φ := by
  rw [show nI x + (1 : Int32) = nI (x + 1) from nI_add _ 1]
  obtain ⟨hz1, hz0⟩ := hz
  rw [hsh] at hz1 hz0
  rw [har] at hz1
  refine m_fig hS htl (by omega) tq hlo hhi (fun g M2 f2 v2 q2 => hz1 M2 (i + 1) (pG_m f2 (by omega) (by omega)) q2 (fun q hq => ?_) (by rw [ddN_k g, if_pos rfl]; rfl)) fun g => hz0 M _ i (FG.rf M) tq (ddN_f g) (fgE_0 _ _)
  have e : q = 0 := by omega
  rw [e]
  exact v2
theorem m_d2 {L tl i x so lo hi w lo2 hi2 : Nat} {tp : Nat → Nat} {M : fM} {φ : Int32 → fM → Prop} {K : (Int32 → fM → Prop) → fM → Prop} (hS : Str L M) (htl : tl ≤ 300) (hc : x + 4 ≤ 2820) (tq : TQ M tp tl i) (hlo : lo ≤ 1) (hhi : hi ≤ 99) (hlo2 : lo2 ≤ 1) (hhi2 : hi2 ≤ 99) (hw : w < 35) (hK : ∀ M1 ψ, Str L M1 → w_X11_worded 70 (jN (pkW w)) (nI (x + 2)) (nI lo2) (nI hi2) M1 ψ → K ψ M1) (hsh : shD so = [(lo, hi, w), (lo2, hi2, 99)]) (har : arN so = 2) (hz : DdZ tp tl x i so M φ) : w_X11_figure 70 (nI x + (1 : Int32)) (nI lo) (nI hi) M fun y M1 => iF (y = 0) (K φ M1) (φ y M1) := by
  rw [show nI x + (1 : Int32) = nI (x + 1) from nI_add _ 1]
  obtain ⟨hz1, hz0⟩ := hz
  rw [hsh] at hz1 hz0
  rw [har] at hz1
  have w9 : ¬ w = 99 := by omega
  refine m_fig hS htl (by omega) tq hlo hhi (fun g M2 f2 v2 q2 => iF_t rfl (hK M2 φ (f2.S hS) (m_wrd (f2.S hS) htl (by omega) q2 hlo2 hhi2 hw rfl (fun e g2 M3 f3 v3 q3 => hz1 M3 (i + 3) ((pG_m f2 (by omega) (by omega)).tr (pG_m f3 (by omega) (by omega))) q3 (fun q hq => ?_) ?_) (fun e g2 M3 f3 q3 => hz0 M3 _ (i + 2) ((pG_m f2 (by omega) (by omega)).tr (pG_m f3 (by omega) (by omega))) q3 ?_ (fgE_0 _ _)) (fun e => hz0 M2 1 (i + 1) (pG_m f2 (by omega) (by omega)) q2 ?_ (by decide))))) fun g => iF_f (fun c => ?_) (hz0 M _ i (FG.rf M) tq (ddN_f g) (fgE_0 _ _))
  · by_cases e0 : q = 0
    · rw [e0, f3.2.1 73 _ (by unfold pG pN; omega)]
      exact v2
    · have e1 : q = 1 := by omega
      rw [e1]
      exact v3
  · rw [ddN_k g, if_neg w9, if_pos e, ddN_k g2, if_pos rfl]
    rfl
  · rw [ddN_k g, if_neg w9, if_pos e, ddN_f g2]
  · rw [ddN_k g, if_neg w9, if_neg e]
  · have b : fgE (TKk tp tl) i ≤ 2 := by
      unfold fgE
      split <;> omega
    exact absurd (nI_inj (b := 0) (by omega) (by omega) c) (fgE_0 _ _)
theorem m_d3 {L tl i x so lo hi w lo2 hi2 w2 lo3 hi3 : Nat} {tp : Nat → Nat} {M : fM} {φ : Int32 → fM → Prop} {K J : (Int32 → fM → Prop) → fM → Prop} {J2 : Int32 → fM → Prop} (hS : Str L M) (htl : tl ≤ 300) (hc : x + 4 ≤ 2820) (tq : TQ M tp tl i) (hlo : lo ≤ 1) (hhi : hi ≤ 99) (hlo2 : lo2 ≤ 1) (hhi2 : hi2 ≤ 99) (hlo3 : lo3 ≤ 1) (hhi3 : hi3 ≤ 99) (hw : w < 35) (hw2 : w2 < 35) (hK : ∀ M1 ψ, Str L M1 → w_X11_worded 70 (jN (pkW w)) (nI (x + 2)) (nI lo2) (nI hi2) M1 ψ → K ψ M1) (hJ : ∀ M1, Str L M1 → w_X11_worded 70 (jN (pkW w2)) (nI (x + 3)) (nI lo3) (nI hi3) M1 φ → J φ M1) (hJ2 : ∀ y M1, iF (y = 0) (J φ M1) (φ y M1) → J2 y M1) (hsh : shD so = [(lo, hi, w), (lo2, hi2, w2), (lo3, hi3, 99)]) (har : arN so = 3) (hz : DdZ tp tl x i so M φ) : w_X11_figure 70 (nI x + (1 : Int32)) (nI lo) (nI hi) M fun y M1 => iF (y = 0) (K J2 M1) (J2 y M1) := by
  rw [show nI x + (1 : Int32) = nI (x + 1) from nI_add _ 1]
  obtain ⟨hz1, hz0⟩ := hz
  rw [hsh] at hz1 hz0
  rw [har] at hz1
  have w9 : ¬ w = 99 := by omega
  have w29 : ¬ w2 = 99 := by omega
  have fb : ∀ k, ¬ nI (fgE (TKk tp tl) k) = 0 := fun k c => by
    have b : fgE (TKk tp tl) k ≤ 2 := by
      unfold fgE
      split <;> omega
    exact absurd (nI_inj (b := 0) (by omega) (by omega) c) (fgE_0 _ _)
  refine m_fig hS htl (by omega) tq hlo hhi (fun g M2 f2 v2 q2 => iF_t rfl (hK M2 J2 (f2.S hS) ?_)) fun g => iF_f (fb i) (hJ2 _ _ (iF_f (fb i) (hz0 M _ i (FG.rf M) tq (ddN_f g) (fgE_0 _ _))))
  have p2 := pG_m (c2 := x + 1) (m := 3) f2 (by omega) (by omega)
  refine m_wrd (f2.S hS) htl (by omega) q2 hlo2 hhi2 hw rfl (fun e g2 M3 f3 v3 q3 => hJ2 _ _ (iF_t rfl (hJ M3 (f3.S (f2.S hS)) ?_))) (fun e g2 M3 f3 q3 => hJ2 _ _ (iF_f (fb _) (hz0 M3 _ (i + 2) (p2.tr (pG_m f3 (by omega) (by omega))) q3 ?_ (fgE_0 _ _)))) (fun e => hJ2 _ _ (iF_f (by decide) (hz0 M2 1 (i + 1) p2 q2 ?_ (by decide))))
  · have p3 := p2.tr (pG_m (c2 := x + 1) (m := 3) f3 (by omega) (by omega))
    refine m_wrd (f3.S (f2.S hS)) htl (by omega) q3 hlo3 hhi3 hw2 rfl (fun e3 g3 M4 f4 v4 q4 => hz1 M4 (i + 5) (p3.tr (pG_m f4 (by omega) (by omega))) q4 (fun q hq => ?_) ?_) (fun e3 g3 M4 f4 q4 => hz0 M4 _ (i + 4) (p3.tr (pG_m f4 (by omega) (by omega))) q4 ?_ (fgE_0 _ _)) (fun e3 => hz0 M3 1 (i + 3) p3 q3 ?_ (by decide))
    · by_cases e0 : q = 0
      · rw [e0, f4.2.1 73 _ (by unfold pG pN; omega), f3.2.1 73 _ (by unfold pG pN; omega)]
        exact v2
      · by_cases e1 : q = 1
        · rw [e1, f4.2.1 73 _ (by unfold pG pN; omega)]
          exact v3
        · have e2 : q = 2 := by omega
          rw [e2]
          exact v4
    · rw [ddN_k g, if_neg w9, if_pos e, ddN_k g2, if_neg w29, if_pos e3, ddN_k g3, if_pos rfl]
      rfl
    · rw [ddN_k g, if_neg w9, if_pos e, ddN_k g2, if_neg w29, if_pos e3, ddN_f g3]
    · rw [ddN_k g, if_neg w9, if_pos e, ddN_k g2, if_neg w29, if_neg e3]
  · rw [ddN_k g, if_neg w9, if_pos e, ddN_f g2]
  · rw [ddN_k g, if_neg w9, if_neg e]
