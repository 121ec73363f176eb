/-! ===== TEXT: the one scans the tape, all of it ===== -/
def pQ (r k : Nat) : Prop := (r = 46 ∧ k = 5) ∨ r = 48 ∨ r = 49 ∨ r = 50
theorem FrX.mn {P Q : Nat → Nat → Prop} {M M2 : fM} (f : FrX P M M2) (h : ∀ r k, P r k → Q r k) : FrX Q M M2 := ⟨f.1, fun r k hn => f.2 r k (fun c => hn (h r k c))⟩
theorem FrX.q {M M2 : fM} (f : FrX pS M M2) : FrX pQ M M2 := f.mn fun r k h => Or.inl h
theorem TpC.q {M M2 : fM} {tl : Nat} {tp : Nat → Nat} (f : FrX pQ M M2) (h : TpC M tl tp) : TpC M2 tl tp := ⟨(f.2 46 1 (by unfold pQ; omega)).trans h.1, fun k hk => ⟨(h.2 k hk).1, (f.2 47 k (by unfold pQ; omega)).trans (h.2 k hk).2⟩⟩
theorem FrX.qX {M M2 : fM} {X : Nat → Int32} (f : FrX pQ M M2) (h : Sts X M) : Sts X M2 := h.cg (fun q hq k => f.2 q k (by unfold pQ; omega)) (fun k => by unfold mJ; rw [f.1])
theorem c_same {L tl p : Nat} {tp : Nat → Nat} {M : fM} {φ : Int32 → fM → Prop} (hS : Str L M) (hT : TpC M tl tp) (htl : tl ≤ 300) (hp : p < tl) (h5 : mI M 46 5 = nI (p + 1)) (h1 : eqQ tp tl p = true → ∀ M2, FrX pS M M2 → mI M2 46 5 = nI (p + 2) → φ 1 M2) (h0 : ¬ eqQ tp tl p = true → φ 0 M) : w_X7_isSame 46 M φ := by
  refine ⟨isO_pt hS (by decide) rfl, ?_⟩
  rw [h5]
  by_cases z : p + 1 < tl
  · have hb := (hT.2 (p + 1) z).1
    refine c_byte1 hS hT rfl z htl ?_
    by_cases e : tp (p + 1) = 61
    · refine iF_t (by rw [e]; rfl) ⟨isO_pt hS (by decide) rfl, nm_of (st_of ?_)⟩
      rw [h5, show nI (p + 1) + (1 : Int32) = nI (p + 2) from nI_add _ 1]
      exact h1 (decide_eq_true ⟨z, e⟩) _ (FrX.w ⟨rfl, rfl⟩) (mI_s rfl rfl)
    · exact iF_f (fun c => e (nI_inj (b := 61) (by omega) (by omega) c)) (h0 fun c => e (of_decide_eq_true c).2)
  · exact c_byte0 hS hT rfl (by omega) (by omega) (iF_f (by decide) (h0 fun c => z (of_decide_eq_true c).1))
theorem c_sign {L tl p : Nat} {tp : Nat → Nat} {M : fM} {φ : Int32 → fM → Prop} (hS : Str L M) (hT : TpC M tl tp) (htl : tl ≤ 300) (hp : p < tl) (h5 : mI M 46 5 = nI (p + 1)) (hz : ∀ M2, FrX pS M M2 → mI M2 46 5 = nI (if (tp p = 60 ∨ tp p = 62) ∧ eqQ tp tl p = true then p + 2 else p + 1) → φ (nI (sgK (tp p) (eqQ tp tl p))) M2) : w_X7_signOf 46 (nI (tp p)) M φ := by
  have hb := (hT.2 p hp).1
  have fin : ¬ (tp p = 60 ∨ tp p = 62) → ∀ v, sgK (tp p) (eqQ tp tl p) = v → φ (nI v) M := fun h v hv => by
    subst hv
    exact hz M (FrX.rf M) (by rw [if_neg (fun c => h c.1)]; exact h5)
  have sam : ∀ v0 v1, (tp p = 60 ∨ tp p = 62) → sgK (tp p) true = v1 → sgK (tp p) false = v0 → (isO M 46 7 ∧ w_X7_isSame 46 M fun x M2 => iF (x = 0) (φ (nI v0) M2) (φ (nI v1) M2)) := by
    intro v0 v1 h e1 e0
    refine ⟨isO_pt hS (by decide) rfl, c_same hS hT htl hp h5 (fun q M2 f g => iF_f (by decide) ?_) (fun q => iF_t rfl ?_)⟩
    · have z := hz M2 f (by rw [if_pos ⟨h, q⟩]; exact g)
      rw [q, e1] at z
      exact z
    · have z := hz M (FrX.rf M) (by rw [if_neg (fun c => q c.2)]; exact h5)
      rw [Bool.not_eq_true] at q
      rw [q, e0] at z
      exact z
  by_cases h35 : tp p = 35
  · exact iF_t (by rw [h35]; rfl) (fin (by omega) 49 (by rw [h35]; rfl))
  refine iF_f (fun c => h35 (nI_inj (b := 35) (by omega) (by omega) c)) ?_
  by_cases h40 : tp p = 40
  · exact iF_t (by rw [h40]; rfl) (fin (by omega) 50 (by rw [h40]; rfl))
  refine iF_f (fun c => h40 (nI_inj (b := 40) (by omega) (by omega) c)) ?_
  by_cases h41 : tp p = 41
  · exact iF_t (by rw [h41]; rfl) (fin (by omega) 51 (by rw [h41]; rfl))
  refine iF_f (fun c => h41 (nI_inj (b := 41) (by omega) (by omega) c)) ?_
  by_cases h42 : tp p = 42
  · exact iF_t (by rw [h42]; rfl) (fin (by omega) 42 (by rw [h42]; rfl))
  refine iF_f (fun c => h42 (nI_inj (b := 42) (by omega) (by omega) c)) ?_
  by_cases h43 : tp p = 43
  · exact iF_t (by rw [h43]; rfl) (fin (by omega) 40 (by rw [h43]; rfl))
  refine iF_f (fun c => h43 (nI_inj (b := 43) (by omega) (by omega) c)) ?_
  by_cases h45 : tp p = 45
  · exact iF_t (by rw [h45]; rfl) (fin (by omega) 41 (by rw [h45]; rfl))
  refine iF_f (fun c => h45 (nI_inj (b := 45) (by omega) (by omega) c)) ?_
  by_cases h47 : tp p = 47
  · exact iF_t (by rw [h47]; rfl) (fin (by omega) 43 (by rw [h47]; rfl))
  refine iF_f (fun c => h47 (nI_inj (b := 47) (by omega) (by omega) c)) ?_
  by_cases h58 : tp p = 58
  · exact iF_t (by rw [h58]; rfl) (fin (by omega) 54 (by rw [h58]; rfl))
  refine iF_f (fun c => h58 (nI_inj (b := 58) (by omega) (by omega) c)) ?_
  by_cases h59 : tp p = 59
  · exact iF_t (by rw [h59]; rfl) (fin (by omega) 52 (by rw [h59]; rfl))
  refine iF_f (fun c => h59 (nI_inj (b := 59) (by omega) (by omega) c)) ?_
  by_cases h60 : tp p = 60
  · exact iF_t (by rw [h60]; rfl) (sam 44 45 (by omega) (by rw [h60]; rfl) (by rw [h60]; rfl))
  refine iF_f (fun c => h60 (nI_inj (b := 60) (by omega) (by omega) c)) ?_
  by_cases h61 : tp p = 61
  · exact iF_t (by rw [h61]; rfl) (fin (by omega) 48 (by rw [h61]; rfl))
  refine iF_f (fun c => h61 (nI_inj (b := 61) (by omega) (by omega) c)) ?_
  by_cases h62 : tp p = 62
  · exact iF_t (by rw [h62]; rfl) (sam 46 47 (by omega) (by rw [h62]; rfl) (by rw [h62]; rfl))
  refine iF_f (fun c => h62 (nI_inj (b := 62) (by omega) (by omega) c)) ?_
  by_cases h63 : tp p = 63
  · exact iF_t (by rw [h63]; rfl) (fin (by omega) 53 (by rw [h63]; rfl))
  refine iF_f (fun c => h63 (nI_inj (b := 63) (by omega) (by omega) c)) ?_
  refine fin (by omega) 62 ?_
  unfold sgK
  rw [if_neg h35, if_neg h40, if_neg h41, if_neg h42, if_neg h43, if_neg h45, if_neg h47, if_neg h58, if_neg h59, if_neg h60, if_neg h61, if_neg h62, if_neg h63]
theorem c_tok {L tl p i : Nat} {X : Nat → Int32} {tp : Nat → Nat} {M : fM} {φ : Int32 → fM → Prop} (hS : Str L M) (hX : Sts X M) (hT : TpC M tl tp) (htl : tl ≤ 300) (hp : p ≤ tl) (hi : i ≤ 300) (h5 : mI M 46 5 = nI p) (hz : ∀ M2, FrX pQ M M2 → mI M2 46 5 = nI (tkE tp tl p) → (tkK tp tl p = 60 → mI M2 50 i = nI (tkV tp tl p)) → (∀ r k, (r = 48 ∨ r = 49 ∨ (r = 50 ∧ k ≠ i)) → mI M2 r k = mI M r k) → φ (nI (tkK tp tl p)) M2) : w_X7_scanToken 46 (nI i) M φ := by
  have ol : ∀ {M2 : fM}, FrX pS M M2 → ∀ r k, (r = 48 ∨ r = 49 ∨ (r = 50 ∧ k ≠ i)) → mI M2 r k = mI M r k := fun f r k h => f.2 r k (by unfold pS; omega)
  refine ⟨isO_pt hS (by decide) rfl, ?_⟩
  rw [h5]
  by_cases hpl : p < tl
  · have hb := (hT.2 p hpl).1
    refine c_byte1 hS hT rfl hpl htl (iF_f (fun c => ?_) (c_isDg hb ?_))
    · have z : (nI (tp p)).toInt = (-1 : Int32).toInt := congrArg Int32.toInt c
      rw [toInt_nI (by omega), show (-1 : Int32).toInt = -1 from rfl] at z
      omega
    unfold tkK tkE tkV at hz
    rw [if_pos hpl, if_pos hpl] at hz
    by_cases d : isDg (tp p) = true
    · rw [if_pos d, if_pos d] at hz
      rw [if_pos d]
      refine iF_f (by decide) ⟨isO_pt hS (by decide) rfl, dR_of (Str.pg hS rfl) (c_num htl hp hS hT h5 fun M2 f g => ?_)⟩
      have hS2 := f.S hS
      refine c_putN (by omega) (Str.sh hS2 49 _ rfl) rfl (by omega) (by omega) ?_
      have f2 : FrX pQ M2 (wI M2 50 i (nI (ncV tp tl p 0))) := FrX.w (Or.inr (Or.inr (Or.inr rfl)))
      exact hz _ (f.q.tr f2) ((mI_n (by omega)).trans g) (fun _ => mI_s rfl rfl) (fun r k h => (mI_n (by omega)).trans (ol f r k h))
    · rw [if_neg d, if_neg d] at hz
      rw [if_neg d]
      refine iF_t rfl (c_isLt hb ?_)
      by_cases l : isLt (tp p) = true
      · rw [if_pos l, if_pos l] at hz
        rw [if_pos l]
        refine iF_f (by decide) ⟨isO_pt hS (by decide) rfl, ⟨isO_pt hS (by decide) rfl, nm_of ?_⟩⟩
        rw [h5]
        refine ⟨tl - p + 1, c_wd_l (L := L) (X := X) htl (tl - p) p M (by omega) (Nat.le_refl _) (fun q a b => absurd a (by omega)) hS hX hT h5 fun M2 f g => ?_⟩
        refine hz M2 f.q g (fun c => ?_) (ol f)
        rcases wid_b tp p (ru isLt tp tl p) with q | q <;> omega
      · rw [if_neg l, if_neg l] at hz
        rw [if_neg l]
        refine iF_t rfl ⟨isO_pt hS (by decide) rfl, nm_of (st_of ?_)⟩
        rw [h5, show nI p + (1 : Int32) = nI (p + 1) from nI_add _ 1]
        have f1 : FrX pS M (wI M 46 5 (nI (p + 1))) := FrX.w ⟨rfl, rfl⟩
        refine c_sign (f1.S hS) (hT.x f1) htl hpl (mI_s rfl rfl) fun M2 f g => ?_
        refine hz M2 (f1.tr f).q g (fun c => ?_) (ol (f1.tr f))
        have := sgK_b (tp p) (eqQ tp tl p)
        omega
  · refine c_byte0 hS hT rfl (by omega) (by omega) (iF_t rfl ?_)
    unfold tkK tkE at hz
    rw [if_neg hpl, if_neg hpl] at hz
    exact hz M (FrX.rf M) h5 (fun c => absurd c (by omega)) (fun _ _ _ => rfl)
/-- the arrays of the tape hold the TOKENS up to i -/
def ArT (M : fM) (tp : Nat → Nat) (tl i : Nat) : Prop := ∀ k, k < i → mI M 48 k = nI (TKk tp tl k) ∧ mI M 49 k = nI (poS tp tl k) ∧ (TKk tp tl k = 60 → mI M 50 k = nI (TKv tp tl k))
theorem c_sc_l {L tl : Nat} {X : Nat → Int32} {tp : Nat → Nat} {φ : fM → Prop} (htl : tl ≤ 300) : ∀ (m i q : Nat) (t : Int32) (M : fM), i + m = tl + 1 → lvT tp tl i → q ≤ tl → ru isBl tp tl q = poS tp tl i → t ≠ 61 → Str L M → Sts X M → TpC M tl tp → mI M 46 5 = nI q → ArT M tp tl i → (∀ M2 n, FrX pQ M M2 → lvT tp tl n → TKk tp tl n = 61 → ArT M2 tp tl (n + 1) → φ M2) → l_X7_scan_10 φ (m + 1) 46 t (nI i) M := by
  intro m
  induction m with
  | zero =>
    intro i q t M hi hlv
    have := lvT_l hlv
    omega
  | succ m ih =>
    intro i q t M hi hlv hq hru ht hS hX hT h5 har hz
    have hil := lvT_l hlv
    show b_X7_scan_10 (l_X7_scan_10 φ (m + 1)) φ 46 t (nI i) M
    generalize hK : l_X7_scan_10 φ (m + 1) = K at ih ⊢
    refine iF_f (fun c => absurd ((nIlt (a := 300) (by omega) (by omega)).mp c) (by omega)) (iF_f ht ⟨isO_pt hS (by decide) rfl, c_skip htl hq hS hT h5 fun M1 f1 g1 => ?_⟩)
    rw [hru] at g1
    have hS1 := f1.S hS
    refine ⟨isO_pt hS1 (by decide) rfl, dR_of (Str.pg hS1 rfl) (c_putN (by omega) (Str.sh hS1 48 _ rfl) rfl (by omega) (by omega) ?_)⟩
    rw [g1]
    have f2 : FrX pQ M (wI M1 49 i (nI (poS tp tl i))) := f1.q.tr (FrX.w (Or.inr (Or.inr (Or.inl rfl))))
    have g2 : mI (wI M1 49 i (nI (poS tp tl i))) 46 5 = nI (poS tp tl i) := (mI_n (by omega)).trans g1
    have n49 : mI (wI M1 49 i (nI (poS tp tl i))) 49 i = nI (poS tp tl i) := mI_s rfl rfl
    have o2 : ∀ r k, (r = 48 ∨ r = 50 ∨ (r = 49 ∧ k ≠ i)) → mI (wI M1 49 i (nI (poS tp tl i))) r k = mI M r k := fun r k h => (mI_n (by omega)).trans (f1.2 r k (by unfold pS; omega))
    generalize wI M1 49 i (nI (poS tp tl i)) = M2 at f2 g2 n49 o2 ⊢
    have hS2 := f2.S hS
    refine ⟨isO_pt hS2 (by decide) rfl, c_tok (X := X) hS2 (f2.qX hX) (hT.q f2) htl (poS_l i hlv) (by omega) g2 fun M3 f3 g3 v3 o3 => ?_⟩
    have f23 := f2.tr f3
    have hS3 := f23.S hS
    refine ⟨isO_pt hS3 (by decide) rfl, dR_of (Str.pg hS3 rfl) (c_putN (by omega) (Str.sh hS3 47 _ rfl) rfl (by omega) (by omega) (nm_of ?_))⟩
    rw [show nI i + (1 : Int32) = nI (i + 1) from nI_add _ 1]
    have f4 : FrX pQ M (wI M3 48 i (nI (tkK tp tl (poS tp tl i)))) := f23.tr (FrX.w (Or.inr (Or.inl rfl)))
    have har4 : ArT (wI M3 48 i (nI (tkK tp tl (poS tp tl i)))) tp tl (i + 1) := by
      intro k hk
      by_cases e : k = i
      · subst e
        refine ⟨mI_s rfl rfl, (mI_n (by omega)).trans ((o3 49 k (by omega)).trans n49), fun c => (mI_n (by omega)).trans (v3 c)⟩
      · obtain ⟨a1, a2, a3⟩ := har k (by omega)
        exact ⟨(mI_n (by omega)).trans ((o3 48 k (by omega)).trans ((o2 48 k (by omega)).trans a1)), (mI_n (by omega)).trans ((o3 49 k (by omega)).trans ((o2 49 k (by omega)).trans a2)), fun c => (mI_n (by omega)).trans ((o3 50 k (by omega)).trans ((o2 50 k (by omega)).trans (a3 c)))⟩
    have h54 : mI (wI M3 48 i (nI (tkK tp tl (poS tp tl i)))) 46 5 = nI (tkE tp tl (poS tp tl i)) := (mI_n (by omega)).trans g3
    generalize wI M3 48 i (nI (tkK tp tl (poS tp tl i))) = M4 at f4 har4 h54 ⊢
    by_cases z : TKk tp tl i = 61
    · have e61 : nI (tkK tp tl (poS tp tl i)) = 61 := congrArg nI z
      rw [e61, ← hK]
      cases m with
      | zero => exact iF_s (fun _ => hz M4 i f4 hlv z har4) (fun _ => iF_t rfl (hz M4 i f4 hlv z har4))
      | succ m => exact iF_s (fun _ => hz M4 i f4 hlv z har4) (fun _ => iF_t rfl (hz M4 i f4 hlv z har4))
    · have hlt := lvT_t hlv z
      have kb : TKk tp tl i ≤ 62 := tkK_b tp tl (poS tp tl i)
      have hpt : poS tp tl i < tl := Nat.lt_of_not_le fun c => z (tkK_e.mpr c)
      refine ih (i + 1) (tkE tp tl (poS tp tl i)) _ M4 (by omega) (lvT_s hlv z) (tkE_g hpt).2 rfl (fun c => z (nI_inj (b := 61) (by omega) (by omega) c)) (f4.S hS) (f4.qX hX) (hT.q f4) h54 har4 fun M5 n f5 a1 a2 a3 => hz M5 n (f4.tr f5) a1 a2 a3
theorem c_scan {L tl : Nat} {X : Nat → Int32} {tp : Nat → Nat} {M : fM} {φ : fM → Prop} (htl : tl ≤ 300) (hS : Str L M) (hX : Sts X M) (hT : TpC M tl tp) (hz : ∀ M2 n, FrX pQ M M2 → lvT tp tl n → TKk tp tl n = 61 → ArT M2 tp tl (n + 1) → φ M2) : w_X7_scan 46 M φ := by
  refine ⟨isO_pt hS (by decide) rfl, st_of ⟨tl + 2, ?_⟩⟩
  have f : FrX pQ M (wI M 46 5 (0 : Int32)) := FrX.w (Or.inl ⟨rfl, rfl⟩)
  exact c_sc_l (L := L) (X := X) htl (tl + 1) 0 0 62 _ (by omega) (fun k hk => absurd hk (by omega)) (Nat.zero_le _) rfl (by decide) (f.S hS) (f.qX hX) (hT.q f) (mI_s rfl rfl) (fun k hk => absurd hk (by omega)) fun M2 n f2 a1 a2 a3 => hz M2 n (f.tr f2) a1 a2 a3
