/-! ===== TEXT: the model's sort of a CLAUSE, its head ===== -/
def srR (t : Nat) : Int32 := if t ≤ 16 then nI t else -1
theorem m_sort {L tl i : Nat} {tp : Nat → Nat} {M : fM} {φ : Int32 → fM → Prop} (hS : Str L M) (ts : TS M tp tl i) (h : φ (srR (TKk tp tl i)) M) : w_X11_sortOf 70 M φ := by
  refine wd_0 ⟨isO_pt hS (by decide) rfl, m_isWd hS ts (by omega) rfl (fun z => iF_f (by decide) (by rw [z] at h; exact h)) (fun z0 => iF_t rfl ?_)⟩
  refine wd_1 ⟨isO_pt hS (by decide) rfl, m_isWd hS ts (by omega) rfl (fun z => iF_f (by decide) (by rw [z] at h; exact h)) (fun z1 => iF_t rfl ?_)⟩
  refine wd_2 ⟨isO_pt hS (by decide) rfl, m_isWd hS ts (by omega) rfl (fun z => iF_f (by decide) (by rw [z] at h; exact h)) (fun z2 => iF_t rfl ?_)⟩
  refine wd_3 ⟨isO_pt hS (by decide) rfl, m_isWd hS ts (by omega) rfl (fun z => iF_f (by decide) (by rw [z] at h; exact h)) (fun z3 => iF_t rfl ?_)⟩
  refine wd_4 ⟨isO_pt hS (by decide) rfl, m_isWd hS ts (by omega) rfl (fun z => iF_f (by decide) (by rw [z] at h; exact h)) (fun z4 => iF_t rfl ?_)⟩
  refine wd_5 ⟨isO_pt hS (by decide) rfl, m_isWd hS ts (by omega) rfl (fun z => iF_f (by decide) (by rw [z] at h; exact h)) (fun z5 => iF_t rfl ?_)⟩
  refine wd_6 ⟨isO_pt hS (by decide) rfl, m_isWd hS ts (by omega) rfl (fun z => iF_f (by decide) (by rw [z] at h; exact h)) (fun z6 => iF_t rfl ?_)⟩
  refine wd_7 ⟨isO_pt hS (by decide) rfl, m_isWd hS ts (by omega) rfl (fun z => iF_f (by decide) (by rw [z] at h; exact h)) (fun z7 => iF_t rfl ?_)⟩
  refine wd_8 ⟨isO_pt hS (by decide) rfl, m_isWd hS ts (by omega) rfl (fun z => iF_f (by decide) (by rw [z] at h; exact h)) (fun z8 => iF_t rfl ?_)⟩
  refine wd_9 ⟨isO_pt hS (by decide) rfl, m_isWd hS ts (by omega) rfl (fun z => iF_f (by decide) (by rw [z] at h; exact h)) (fun z9 => iF_t rfl ?_)⟩
  refine wd_10 ⟨isO_pt hS (by decide) rfl, m_isWd hS ts (by omega) rfl (fun z => iF_f (by decide) (by rw [z] at h; exact h)) (fun z10 => iF_t rfl ?_)⟩
  refine wd_11 ⟨isO_pt hS (by decide) rfl, m_isWd hS ts (by omega) rfl (fun z => iF_f (by decide) (by rw [z] at h; exact h)) (fun z11 => iF_t rfl ?_)⟩
  refine wd_12 ⟨isO_pt hS (by decide) rfl, m_isWd hS ts (by omega) rfl (fun z => iF_f (by decide) (by rw [z] at h; exact h)) (fun z12 => iF_t rfl ?_)⟩
  refine wd_13 ⟨isO_pt hS (by decide) rfl, m_isWd hS ts (by omega) rfl (fun z => iF_f (by decide) (by rw [z] at h; exact h)) (fun z13 => iF_t rfl ?_)⟩
  refine wd_14 ⟨isO_pt hS (by decide) rfl, m_isWd hS ts (by omega) rfl (fun z => iF_f (by decide) (by rw [z] at h; exact h)) (fun z14 => iF_t rfl ?_)⟩
  refine wd_15 ⟨isO_pt hS (by decide) rfl, m_isWd hS ts (by omega) rfl (fun z => iF_f (by decide) (by rw [z] at h; exact h)) (fun z15 => iF_t rfl ?_)⟩
  refine wd_16 ⟨isO_pt hS (by decide) rfl, m_isWd hS ts (by omega) rfl (fun z => iF_f (by decide) (by rw [z] at h; exact h)) (fun z16 => iF_t rfl ?_)⟩
  unfold srR at h
  rw [if_neg (by omega)] at h
  exact h
theorem bit_g : ∀ b, b < 32 → ∀ s, s < 5 → ((((nI b) >>> ((nI s) &&& (31 : Int32))) &&& (1 : Int32)) = (1 : Int32) ↔ b.testBit s = true) := by decide +kernel
theorem bit_s : ∀ b, b < 32 → ∀ s, s < 5 → ((nI b) ||| ((1 : Int32) <<< ((nI s) &&& (31 : Int32)))) = nI (b ||| 2 ^ s) ∧ (b ||| 2 ^ s) < 32 := by decide +kernel
theorem bit_o : ∀ b, b < 32 → ∀ s, s < 5 → ∀ s', s' < 5 → ((b ||| 2 ^ s).testBit s' = true ↔ (b.testBit s' = true ∨ s' = s)) := by decide +kernel
def McA (M : fM) (t0 : Nat) (CL : List Cl) : Prop := ∀ (k : Nat) (c : Cl), CL[k]? = some c → mI M 73 (t0 + 1 + 4 * k) = nI c.1 ∧ (c.1 < 5 → mI M 73 (t0 + 3 + 4 * k) = nI (c.2 1) ∧ mI M 73 (t0 + 4 + 4 * k) = nI (c.2 2)) ∧ (5 ≤ c.1 → ∀ j, j < arN c.1 → mI M 73 (t0 + 2 + 4 * k + j) = nI (c.2 j))
def Bts (M : fM) (p : Nat → Prop) : Prop := ∃ b, b < 32 ∧ mI M 70 15 = nI b ∧ ∀ s, s < 5 → (b.testBit s = true ↔ p s)
def MTx (M : fM) (t0 : Nat) (tp : Nat → Nat) (tl : Nat) (CL : List Cl) (E : List (Nat × Nat)) (i : Nat) : Prop := TQ M tp tl i ∧ mI M 70 12 = nI t0 ∧ mI M 70 13 = nI CL.length ∧ mI M 70 14 = nI E.length ∧ mI M 70 18 = 0 ∧ Bts M (fun s => ∃ c ∈ CL, c.1 = s) ∧ Cds M t0 E ∧ McA M t0 CL
/-- behind a CLAUSE's first word -/
def MB (M : fM) (t0 : Nat) (tp : Nat → Nat) (tl : Nat) (CL : List Cl) (E : List (Nat × Nat)) (so i : Nat) : Prop := TQ M tp tl i ∧ mI M 70 12 = nI t0 ∧ mI M 70 13 = nI CL.length ∧ mI M 70 14 = nI E.length ∧ mI M 70 18 = 0 ∧ mI M 70 20 = nI so ∧ Bts M (fun s => (∃ c ∈ CL, c.1 = s) ∨ s = so) ∧ Cds M t0 E ∧ McA M t0 CL ∧ mI M 73 (t0 + 1 + 4 * CL.length) = nI so
theorem FG.vN {t0 : Nat} {M M2 : fM} (f : FG pN M M2) : FG (pV t0) M M2 := f.mn fun r k h => by unfold pN at h; unfold pV; omega
theorem FG.vU {t0 : Nat} {M M2 : fM} (f : FG (pU t0) M M2) : FG (pV t0) M M2 := f.mn fun r k h => by
  unfold pU pT pN at h
  unfold pV
  omega
theorem m_has {b s : Nat} {M : fM} {φ : Int32 → fM → Prop} (hb : b < 32) (hs : s < 5) (h : φ (if b.testBit s = true then 1 else 0) M) : w_X11_has (nI b) (nI s) M φ := by
  by_cases e : b.testBit s = true
  · rw [if_pos e] at h
    exact iF_t ((bit_g b hb s hs).mpr e) h
  · rw [if_neg e] at h
    exact iF_f (fun c => e ((bit_g b hb s hs).mp c)) h
def psI (φ : Int32 → fM → Prop) : Int32 → fM → Prop := fun x21 M20 => iF (x21 = 0) (isO M20 70 11 ∧ nm ((mI M20 70 13) + (1 : Int32)) fun x25 => st (wI M20 70 13 x25) fun M27 => iF ((mI M27 70 9) = (59 : Int32)) (w_X11_nextToken 70 M27 fun M29 => φ (0 : Int32) M29) (φ (1 : Int32) M27)) (φ x21 M20)
theorem TS.w70 {k : Nat} {v : Int32} {tp : Nat → Nat} {tl i : Nat} {M : fM} (hk : k < 7 ∨ 11 ≤ k) (h : TS M tp tl i) : TS (wI M 70 k v) tp tl i := by
  have e : ∀ q, 7 ≤ q → q ≤ 10 → mI (wI M 70 k v) 70 q = mI M 70 q := fun q _ _ => mI_n (by omega)
  have ej : ∀ q, mJ (wI M 70 k v) 70 q = mJ M 70 q := fun q => rfl
  unfold TS TR at h ⊢
  rw [e 7 (by omega) (by omega), e 8 (by omega) (by omega), e 9 (by omega) (by omega), e 10 (by omega) (by omega), ej 11]
  exact h
theorem TpM.w70 {k : Nat} {v : Int32} {tp : Nat → Nat} {tl : Nat} {M : fM} (hk : k ≠ 4) (h : TpM M tl tp) : TpM (wI M 70 k v) tl tp := ⟨(mI_n (by omega)).trans h.1, fun q hq => ⟨(h.2 q hq).1, (mI_n (by omega)).trans (h.2 q hq).2⟩⟩
theorem TpM.w73 {k : Nat} {v : Int32} {tp : Nat → Nat} {tl : Nat} {M : fM} (h : TpM M tl tp) : TpM (wI M 73 k v) tl tp := ⟨(mI_n (by omega)).trans h.1, fun q hq => ⟨(h.2 q hq).1, (mI_n (by omega)).trans (h.2 q hq).2⟩⟩
set_option maxHeartbeats 1000000 in
theorem m_cl0 {L t0 tl i : Nat} {tp : Nat → Nat} {CL : List Cl} {E : List (Nat × Nat)} {M : fM} {φ : Int32 → fM → Prop} (ht : t0 + 705 ≤ 2820) (hS : Str L M) (htl : tl ≤ 300) (mt : MTx M t0 tp tl CL E i) (hi : E.length ≤ i) (hu : unS (TKk tp tl) CL i) (hl : CL.length < 24) (hb : ∀ M2, FG (pV t0) M M2 → MB M2 t0 tp tl CL E (TKk tp tl i) (i + 1) → w_X11_body 70 (nI (TKk tp tl i)) (nI (t0 + 1 + 4 * CL.length)) M2 (psI φ)) : w_X11_clause 70 M φ := by
  obtain ⟨⟨ts, lv, hT⟩, q12, q13, q14, q18, ⟨b, b32, q15, qb⟩, qc, qm⟩ := mt
  have u16 := hu.1
  have j58 : ∀ M1, FG (pV t0) M M1 → TQ M1 tp tl i → mI M1 70 12 = nI t0 → mI M1 70 13 = nI CL.length → mI M1 70 14 = nI E.length → mI M1 70 18 = 0 → Bts M1 (fun s => (∃ c ∈ CL, c.1 = s) ∨ s = TKk tp tl i) → Cds M1 t0 E → McA M1 t0 CL → j_X11_clause_58 φ 70 (nI (TKk tp tl i)) M1 := by
    intro M1 f1 ⟨ts1, lv1, hT1⟩ r12 r13 r14 r18 ⟨b1, b132, r15, rb⟩ rc rm
    have hS1 := f1.S hS
    refine ⟨isO_pt hS1 (by decide) rfl, st_of ?_⟩
    have f2 : FG (pV t0) M1 (wI M1 70 20 (nI (TKk tp tl i))) := FG.w (Or.inl ⟨rfl, by omega⟩)
    have hS2 := f2.S hS1
    refine m_nextS hS2 (TpM.w70 (by omega) hT1) htl lv1 (by omega) (TS.w70 (by omega) ts1) fun M3 f3 t3 => ?_
    have hS3 := f3.S hS2
    have o3 : ∀ r k, ¬ (r = 70 ∧ 7 ≤ k ∧ k ≤ 10) → ¬ (r = 70 ∧ k = 20) → mI M3 r k = mI M1 r k := fun r k h1 h2 => (f3.2.1 r k (by unfold pN; omega)).trans (mI_n (by omega))
    refine ⟨isO_pt hS3 (by decide) rfl, nm_of ?_⟩
    rw [(o3 70 12 (by omega) (by omega)).trans r12, (o3 70 13 (by omega) (by omega)).trans r13, show nI t0 + (1 : Int32) = nI (t0 + 1) from nI_add _ 1, show (4 : Int32) * nI CL.length = nI (4 * CL.length) from nI_muL 4 _, nI_add]
    refine dR_of (Str.pg hS3 rfl) ⟨by omega, inA_pt hS3 rfl (vp_nI (by omega) (by decide)), st_of ?_⟩
    rw [ix_nI (by omega)]
    have o4 : ∀ r k, ¬ (r = 70 ∧ 7 ≤ k ∧ k ≤ 10) → ¬ (r = 70 ∧ k = 20) → ¬ (r = 73 ∧ k = t0 + 1 + 4 * CL.length) → mI (wI M3 73 (t0 + 1 + 4 * CL.length) (nI (TKk tp tl i))) r k = mI M1 r k := fun r k h1 h2 h3 => (mI_n (by omega)).trans (o3 r k h1 h2)
    refine hb _ (((f1.tr f2).tr f3.vN).tr (FG.w (Or.inr (Or.inl ⟨rfl, by omega, by omega⟩)))) ⟨⟨t3.w73, lvT_s lv1 (by omega), ((TpM.w70 (by omega) hT1).g f3).w73⟩, (o4 70 12 (by omega) (by omega) (by omega)).trans r12, (o4 70 13 (by omega) (by omega) (by omega)).trans r13, (o4 70 14 (by omega) (by omega) (by omega)).trans r14, (o4 70 18 (by omega) (by omega) (by omega)).trans r18, ?_, ⟨b1, b132, (o4 70 15 (by omega) (by omega) (by omega)).trans r15, rb⟩, fun j x hx => ?_, fun k c hk => ?_, mI_s rfl rfl⟩
    · rw [mI_n (by omega), f3.2.1 70 20 (by unfold pN; omega), mI_s rfl rfl]
    · rw [o4 73 _ (by omega) (by omega) (by omega), o4 73 _ (by omega) (by omega) (by omega)]
      exact rc j x hx
    · have hkl := (List.getElem?_eq_some_iff.mp hk).1
      obtain ⟨a1, a2, a3⟩ := rm k c hk
      refine ⟨?_, fun lt => ?_, fun ge q hq => ?_⟩
      · rw [o4 73 _ (by omega) (by omega) (by omega)]
        exact a1
      · rw [o4 73 _ (by omega) (by omega) (by omega), o4 73 _ (by omega) (by omega) (by omega)]
        exact a2 lt
      · have an : arN c.1 ≤ 3 := by
          unfold arN
          repeat' split
          all_goals omega
        rw [o4 73 _ (by omega) (by omega) (by omega)]
        exact a3 ge q hq
  have n24 : ∀ M1, mI M1 70 13 = nI CL.length → ¬ mI M1 70 13 = 24 := fun M1 h c => by
    rw [h] at c
    exact absurd (nI_inj (b := 24) (by omega) (by omega) c) (by omega)
  refine ⟨isO_pt hS (by decide) rfl, m_sort hS ts ?_⟩
  rw [show srR (TKk tp tl i) = nI (TKk tp tl i) from if_pos u16]
  refine iF_t ((nIle (a := 0) (by omega) (by omega)).mpr (Nat.zero_le _)) ?_
  by_cases ge : 4 < TKk tp tl i
  · refine iF_t ((nIlt (a := 4) (by omega) (by omega)).mpr ge) ⟨isO_pt hS (by decide) rfl, iF_f (n24 M q13) (iF_t ((nIlt (a := 4) (by omega) (by omega)).mpr ge) (j58 M (FG.rf M) ⟨ts, lv, hT⟩ q12 q13 q14 q18 ⟨b, b32, q15, fun s hs => ⟨fun c => Or.inl ((qb s hs).mp c), fun c => ?_⟩⟩ qc qm))⟩
    rcases c with c | c
    · exact (qb s hs).mpr c
    · omega
  · refine iF_f (fun c => ge ((nIlt (a := 4) (by omega) (by omega)).mp c)) ⟨isO_pt hS (by decide) rfl, ?_⟩
    rw [q15]
    refine m_has b32 (by omega) ?_
    rw [if_neg (fun c => by obtain ⟨x, hx, e⟩ := (qb _ (by omega)).mp c; exact hu.2 (by omega) x hx e)]
    refine iF_t rfl ⟨isO_pt hS (by decide) rfl, iF_f (n24 M q13) (iF_f (fun c => ge ((nIlt (a := 4) (by omega) (by omega)).mp c)) (nm_of (st_of ?_)))⟩
    obtain ⟨s1, s2⟩ := bit_s b b32 (TKk tp tl i) (by omega)
    rw [q15, s1]
    have f1 : FG (pV t0) M (wI M 70 15 (nI (b ||| 2 ^ TKk tp tl i))) := FG.w (Or.inl ⟨rfl, by omega⟩)
    refine j58 _ f1 ⟨TS.w70 (by omega) ts, lv, TpM.w70 (by omega) hT⟩ ((mI_n (by omega)).trans q12) ((mI_n (by omega)).trans q13) ((mI_n (by omega)).trans q14) ((mI_n (by omega)).trans q18) ⟨_, s2, mI_s rfl rfl, fun s hs => ?_⟩ (fun j x hx => ⟨(mI_n (by omega)).trans (qc j x hx).1, (mI_n (by omega)).trans (qc j x hx).2⟩) (fun k c hk => ?_)
    · rw [bit_o b b32 _ (by omega) s hs, qb s hs]
    · obtain ⟨a1, a2, a3⟩ := qm k c hk
      exact ⟨(mI_n (by omega)).trans a1, fun lt => ⟨(mI_n (by omega)).trans (a2 lt).1, (mI_n (by omega)).trans (a2 lt).2⟩, fun ge q hq => (mI_n (by omega)).trans (a3 ge q hq)⟩
