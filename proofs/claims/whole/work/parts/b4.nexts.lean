/-! ===== TEXT: the model's next TOKEN, whole ===== -/
def ctk (b : Nat) (q : Bool) : Nat := if b = 60 then (if q = true then 4 else 60) else if b = 62 then (if q = true then 5 else 62) else if b = 61 ∨ b = 35 ∨ b = 43 ∨ b = 45 ∨ b = 42 ∨ b = 47 ∨ b = 40 ∨ b = 41 ∨ b = 59 ∨ b = 44 ∨ b = 63 ∨ b = 58 then b else 3
theorem ctk_s : ∀ b, b < 256 → ∀ q, ∀ s, s < 15 → (ctk b q = sgC (40 + s) ↔ sgK b q = 40 + s) := by decide +kernel
theorem ctk_b : ∀ b, b < 256 → ∀ q, 3 ≤ ctk b q ∧ ctk b q < 256 := by decide +kernel
theorem sgC_u : ∀ s, s < 15 → sgC (40 + s) < 256 := by decide
theorem sgC_d : ∀ s, s < 15 → 3 ≤ sgC (40 + s) := by decide
theorem TR_sg {M : fM} {b v : Nat} {q : Bool} (hb : b < 256) (h : mI M 70 9 = nI (ctk b q)) : TR M (sgK b q) v := by
  have k := sgK_b b q
  have c := ctk_b b hb q
  refine ⟨ctk b q, h, c.2, by omega, by omega, by omega, fun s h1 h2 => ?_, fun e => absurd e (by omega), fun e => absurd e (by omega)⟩
  have z := ctk_s b hb q (s - 40) (by omega)
  rw [show 40 + (s - 40) = s by omega] at z
  exact z
theorem TR_n0 {s : Nat} (h1 : 40 ≤ s) (h2 : s ≤ 54) : 3 ≤ sgC s := by
  have z := sgC_d (s - 40) (by omega)
  rw [show 40 + (s - 40) = s by omega] at z
  exact z
theorem m_405 {L tl i p : Nat} {tp : Nat → Nat} {M : fM} {c : Nat} {a : Int32} {φ : fM → Prop} (hS : Str L M) (ha : a = nI c) (h7 : mI M 70 7 = nI (tkE tp tl (poS tp tl i))) (h8 : mI M 70 8 = nI (poS tp tl i)) (htr : ∀ M2, mI M2 70 9 = nI c → TR M2 (TKk tp tl i) (TKv tp tl i)) (hz : ∀ M2, FG pN M M2 → TS M2 tp tl i → φ M2) : j_X11_nextToken_405 φ a 70 M := by
  subst ha
  exact ⟨isO_pt hS (by decide) rfl, st_of (hz _ (FG.w ⟨rfl, by omega, by omega⟩) ⟨(mI_n (by omega)).trans h7, (mI_n (by omega)).trans h8, htr _ (mI_s rfl rfl)⟩)⟩
theorem m_355 {L tl i p : Nat} {tp : Nat → Nat} {M : fM} {c : Nat} {a : Int32} {φ : fM → Prop} (hS : Str L M) (hT : TpM M tl tp) (htl : tl ≤ 300) (hp : p < tl) (hpi : poS tp tl i = p) (hdg : ¬ isDg (tp p) = true) (hlt : ¬ isLt (tp p) = true) (ha : a = nI c) (hc : c = (if tp p = 60 ∨ tp p = 62 then tp p else ctk (tp p) false)) (h7 : mI M 70 7 = nI (p + 1)) (h8 : mI M 70 8 = nI p) (hz : ∀ M2, FG pN M M2 → TS M2 tp tl i → φ M2) : j_X11_nextToken_355 φ 70 (nI (tp p)) a 70 M := by
  subst ha
  have hb := (hT.2 p hp).1
  have ek : TKk tp tl i = sgK (tp p) (eqQ tp tl p) := by
    unfold TKk tkK
    rw [hpi, if_pos hp, if_neg hdg, if_neg hlt]
  have ee : tkE tp tl (poS tp tl i) = if (tp p = 60 ∨ tp p = 62) ∧ eqQ tp tl p = true then p + 2 else p + 1 := by
    unfold tkE
    rw [hpi, if_pos hp, if_neg hdg, if_neg hlt]
  refine ⟨isO_pt hS (by decide) rfl, st_of ?_⟩
  have f1 : FG pN M (wI M 70 9 (nI c)) := FG.w ⟨rfl, by omega, by omega⟩
  have a7 : mI (wI M 70 9 (nI c)) 70 7 = nI (p + 1) := (mI_n (by omega)).trans h7
  have a8 : mI (wI M 70 9 (nI c)) 70 8 = nI p := (mI_n (by omega)).trans h8
  have a9 : mI (wI M 70 9 (nI c)) 70 9 = nI c := mI_s rfl rfl
  generalize wI M 70 9 (nI c) = M1 at f1 a7 a8 a9 ⊢
  have hS1 := f1.S hS
  have hT1 := hT.g f1
  have j370 : (tp p = 60 ∨ tp p = 62) → j_X11_nextToken_370 φ 70 (nI (tp p)) M1 := by
    intro h6
    rw [if_pos h6] at hc
    refine ⟨isO_pt hS1 (by decide) rfl, ?_⟩
    rw [a7]
    have no : ¬ eqQ tp tl p = true → φ M1 := by
      intro q
      rw [if_neg (fun c => q c.2)] at ee
      rw [Bool.not_eq_true] at q
      refine hz M1 f1 ⟨by rw [ee]; exact a7, by rw [hpi]; exact a8, ?_⟩
      rw [ek, q]
      refine TR_sg hb ?_
      rw [a9, hc]
      rcases h6 with e | e
      · rw [e]; rfl
      · rw [e]; rfl
    by_cases z : p + 1 < tl
    · have hb1 := (hT.2 (p + 1) z).1
      refine m_byte1 hS1 hT1 rfl z htl ?_
      by_cases e : tp (p + 1) = 61
      · have q : eqQ tp tl p = true := decide_eq_true ⟨z, e⟩
        rw [if_pos ⟨h6, q⟩] at ee
        refine iF_t (by rw [e]; rfl) ⟨isO_pt hS1 (by decide) rfl, nm_of (st_of ?_)⟩
        rw [a7, show nI (p + 1) + (1 : Int32) = nI (p + 2) from nI_add _ 1]
        have f2 : FG pN M (wI M1 70 7 (nI (p + 2))) := f1.tr (FG.w ⟨rfl, by omega, by omega⟩)
        have b7 : mI (wI M1 70 7 (nI (p + 2))) 70 7 = nI (tkE tp tl (poS tp tl i)) := by rw [ee]; exact mI_s rfl rfl
        have b8 : mI (wI M1 70 7 (nI (p + 2))) 70 8 = nI (poS tp tl i) := by rw [hpi]; exact (mI_n (by omega)).trans a8
        have tr : ∀ M2, mI M2 70 9 = nI (ctk (tp p) true) → TR M2 (TKk tp tl i) (TKv tp tl i) := fun M2 h => by
          rw [ek, q]
          exact TR_sg hb h
        rcases h6 with e6 | e6
        · refine iF_t (by rw [e6]; rfl) (m_405 (p := p) (c := 4) (f2.S hS) rfl b7 b8 (fun M2 h => tr M2 (by rw [e6]; exact h)) fun M3 f3 t3 => hz M3 (f2.tr f3) t3)
        · refine iF_f (by rw [e6]; decide) (m_405 (p := p) (c := 5) (f2.S hS) rfl b7 b8 (fun M2 h => tr M2 (by rw [e6]; exact h)) fun M3 f3 t3 => hz M3 (f2.tr f3) t3)
      · exact iF_f (fun c => e (nI_inj (b := 61) (by omega) (by omega) c)) (no fun c => e (of_decide_eq_true c).2)
    · exact m_byte0 hS1 hT1 rfl (by omega) (by omega) (iF_f (by decide) (no fun c => z (of_decide_eq_true c).1))
  by_cases h60 : tp p = 60
  · exact iF_t (by rw [h60]; rfl) (j370 (Or.inl h60))
  · refine iF_f (fun c => h60 (nI_inj (b := 60) (by omega) (by omega) c)) ?_
    by_cases h62 : tp p = 62
    · exact iF_t (by rw [h62]; rfl) (j370 (Or.inr h62))
    · refine iF_f (fun c => h62 (nI_inj (b := 62) (by omega) (by omega) c)) ?_
      rw [if_neg (fun c => by omega)] at ee hc
      refine hz M1 f1 ⟨by rw [ee]; exact a7, by rw [hpi]; exact a8, ?_⟩
      rw [ek]
      refine TR_sg hb ?_
      rw [a9, hc]
      unfold ctk
      rw [if_neg h60, if_neg h62, if_neg h60, if_neg h62]
set_option maxHeartbeats 2000000 in
theorem m_nb {L tl i p : Nat} {tp : Nat → Nat} {M : fM} {φ : fM → Prop} {K0 : Nat → fM → Prop} (hS : Str L M) (hT : TpM M tl tp) (htl : tl ≤ 300) (hp : p ≤ tl) (hpi : poS tp tl i = p) (h7 : mI M 70 7 = nI p) (hnb : ¬ (p < tl ∧ isBl (tp p) = true)) (hz : ∀ M2, FG pN M M2 → TS M2 tp tl i → φ M2) : b_X11_nextToken_0 K0 φ 70 M := by
  have f1 : FG pN M (wI M 70 8 (nI p)) := FG.w ⟨rfl, by omega, by omega⟩
  have a7 : mI (wI M 70 8 (nI p)) 70 7 = nI p := (mI_n (by omega)).trans h7
  have a8 : mI (wI M 70 8 (nI p)) 70 8 = nI p := mI_s rfl rfl
  by_cases hpl : p < tl
  · have hb := (hT.2 p hpl).1
    have n32 : tp p ≠ 32 := fun c => hnb ⟨hpl, isBl_t.mpr (Or.inl c)⟩
    have n10 : tp p ≠ 10 := fun c => hnb ⟨hpl, isBl_t.mpr (Or.inr c)⟩
    refine ⟨isO_pt hS (by decide) rfl, ?_⟩
    rw [h7]
    refine m_byte1 hS hT rfl hpl htl (iF_f (fun c => n32 (nI_inj (b := 32) (by omega) (by omega) c)) ⟨isO_pt hS (by decide) rfl, ?_⟩)
    rw [h7]
    refine m_byte1 hS hT rfl hpl htl (iF_f (fun c => n10 (nI_inj (b := 10) (by omega) (by omega) c)) ⟨isO_pt hS (by decide) rfl, nm_of (st_of ?_)⟩)
    rw [h7]
    generalize wI M 70 8 (nI p) = M1 at f1 a7 a8 ⊢
    have hS1 := f1.S hS
    have hT1 := hT.g f1
    rw [a7]
    refine m_byte1 hS1 hT1 rfl hpl htl (iF_t ((nIle (a := 0) (by omega) (by omega)).mpr (Nat.zero_le _)) (m_isDg hb ?_))
    by_cases d : isDg (tp p) = true
    · have ek : TKk tp tl i = 60 := by
        unfold TKk tkK
        rw [hpi, if_pos hpl, if_pos d]
      have ee : tkE tp tl (poS tp tl i) = ru isDg tp tl p := by
        unfold tkE
        rw [hpi, if_pos hpl, if_pos d]
      have ev : TKv tp tl i = ncV tp tl p 0 := by
        unfold TKv tkV
        rw [hpi]
      rw [if_pos d]
      refine iF_f (by decide) ⟨isO_pt hS1 (by decide) rfl, st_of (st_of ⟨tl - p + 1, ?_⟩)⟩
      have f2 : FG pN M1 (wI (wI M1 70 9 (1 : Int32)) 70 10 (0 : Int32)) := (FG.w ⟨rfl, by omega, by omega⟩).tr (FG.w ⟨rfl, by omega, by omega⟩)
      have f12 := f1.tr f2
      refine m_dg_l (L := L) htl (tl - p) p 0 _ (by omega) (by omega) (f12.S hS) (hT.g f12) ((mI_n (by omega)).trans ((mI_n (by omega)).trans a7)) (mI_s rfl rfl) fun M3 f3 b7 b10 b8 b9 => hz M3 (f12.tr f3) ⟨by rw [ee]; exact b7, by rw [hpi]; exact b8.trans ((mI_n (by omega)).trans ((mI_n (by omega)).trans a8)), ?_⟩
      rw [ek, ev]
      have c1 : mI M3 70 9 = nI 1 := b9.trans ((mI_n (by omega)).trans (mI_s rfl rfl))
      refine ⟨1, c1, by omega, by omega, by omega, by omega, fun s h1 h2 => ?_, fun _ => ⟨_, b10, nuR_V⟩, fun e => absurd e (by omega)⟩
      have := TR_n0 h1 h2
      omega
    · rw [if_neg d]
      refine iF_t rfl (m_isLt hb ?_)
      by_cases l : isLt (tp p) = true
      · have ek : TKk tp tl i = wid tp p (ru isLt tp tl p) := by
          unfold TKk tkK
          rw [hpi, if_pos hpl, if_neg d, if_pos l]
        have ee : tkE tp tl (poS tp tl i) = ru isLt tp tl p := by
          unfold tkE
          rw [hpi, if_pos hpl, if_neg d, if_pos l]
        rw [if_pos l]
        refine iF_f (by decide) ⟨isO_pt hS1 (by decide) rfl, st_of (st_of ⟨tl - p + 1, ?_⟩)⟩
        have f2 : FG pN M1 (wJ (wI M1 70 9 (2 : Int32)) 70 11 (0 : Int64)) := (FG.w ⟨rfl, by omega, by omega⟩).tr FG.j
        have f12 := f1.tr f2
        refine m_lt_l (L := L) (s := p) htl (tl - p) p _ (by omega) (Nat.le_refl _) (fun q a b => absurd a (by omega)) (f12.S hS) (hT.g f12) (show mI (wI M1 70 9 (2 : Int32)) 70 7 = nI p from (mI_n (by omega)).trans a7) (show mI (wI M1 70 9 (2 : Int32)) 70 8 = nI p from (mI_n (by omega)).trans a8) ?_ fun M3 f3 b7 b8 b9 b11 => hz M3 (f12.tr f3) ⟨by rw [ee]; exact b7, by rw [hpi]; exact b8, ?_⟩
        · rw [mJ_s, Nat.sub_self, if_pos (by omega)]
          rfl
        · rw [ek]
          have c2 : mI M3 70 9 = nI 2 := b9.trans (show mI (wI M1 70 9 (2 : Int32)) 70 9 = nI 2 from mI_s rfl rfl)
          have wb := wid_b tp p (ru isLt tp tl p)
          refine ⟨2, c2, by omega, by omega, by omega, ⟨fun _ => by omega, fun _ => rfl⟩, fun s h1 h2 => ?_, fun e => absurd e (by omega), fun _ => ⟨_, b11, wdV_b (fun q a b => ru_c a b), fun k hk => ?_⟩⟩
          · have := TR_n0 h1 h2
            omega
          · rw [wid_i hk]
            exact wdV_i hk (fun q a b => ru_c a b)
      · rw [if_neg l]
        refine iF_t rfl ⟨isO_pt hS1 (by decide) rfl, nm_of (st_of ?_)⟩
        rw [a7, show nI p + (1 : Int32) = nI (p + 1) from nI_add _ 1]
        have f2 : FG pN M1 (wI M1 70 7 (nI (p + 1))) := FG.w ⟨rfl, by omega, by omega⟩
        have b7 : mI (wI M1 70 7 (nI (p + 1))) 70 7 = nI (p + 1) := mI_s rfl rfl
        have b8 : mI (wI M1 70 7 (nI (p + 1))) 70 8 = nI p := (mI_n (by omega)).trans a8
        generalize wI M1 70 7 (nI (p + 1)) = M2 at f2 b7 b8 ⊢
        have f12 := f1.tr f2
        have j339 : (tp p = 60 ∨ tp p = 62 ∨ ctk (tp p) false = tp p) → j_X11_nextToken_339 φ 70 (nI (tp p)) M2 := fun h => iF_f (by decide) (m_355 (f12.S hS) (hT.g f12) htl hpl hpi d l rfl (by split <;> omega) b7 b8 fun M3 f3 t3 => hz M3 (f12.tr f3) t3)
        by_cases h60 : tp p = 60
        · exact iF_t (by rw [h60]; rfl) (j339 (by rw [h60]; decide))
        refine iF_f (fun c => h60 (nI_inj (b := 60) (by omega) (by omega) c)) ?_
        by_cases h62 : tp p = 62
        · exact iF_t (by rw [h62]; rfl) (j339 (by rw [h62]; decide))
        refine iF_f (fun c => h62 (nI_inj (b := 62) (by omega) (by omega) c)) ?_
        by_cases h61 : tp p = 61
        · exact iF_t (by rw [h61]; rfl) (j339 (by rw [h61]; decide))
        refine iF_f (fun c => h61 (nI_inj (b := 61) (by omega) (by omega) c)) ?_
        by_cases h35 : tp p = 35
        · exact iF_t (by rw [h35]; rfl) (j339 (by rw [h35]; decide))
        refine iF_f (fun c => h35 (nI_inj (b := 35) (by omega) (by omega) c)) ?_
        by_cases h43 : tp p = 43
        · exact iF_t (by rw [h43]; rfl) (j339 (by rw [h43]; decide))
        refine iF_f (fun c => h43 (nI_inj (b := 43) (by omega) (by omega) c)) ?_
        by_cases h45 : tp p = 45
        · exact iF_t (by rw [h45]; rfl) (j339 (by rw [h45]; decide))
        refine iF_f (fun c => h45 (nI_inj (b := 45) (by omega) (by omega) c)) ?_
        by_cases h42 : tp p = 42
        · exact iF_t (by rw [h42]; rfl) (j339 (by rw [h42]; decide))
        refine iF_f (fun c => h42 (nI_inj (b := 42) (by omega) (by omega) c)) ?_
        by_cases h47 : tp p = 47
        · exact iF_t (by rw [h47]; rfl) (j339 (by rw [h47]; decide))
        refine iF_f (fun c => h47 (nI_inj (b := 47) (by omega) (by omega) c)) ?_
        by_cases h40 : tp p = 40
        · exact iF_t (by rw [h40]; rfl) (j339 (by rw [h40]; decide))
        refine iF_f (fun c => h40 (nI_inj (b := 40) (by omega) (by omega) c)) ?_
        by_cases h41 : tp p = 41
        · exact iF_t (by rw [h41]; rfl) (j339 (by rw [h41]; decide))
        refine iF_f (fun c => h41 (nI_inj (b := 41) (by omega) (by omega) c)) ?_
        by_cases h59 : tp p = 59
        · exact iF_t (by rw [h59]; rfl) (j339 (by rw [h59]; decide))
        refine iF_f (fun c => h59 (nI_inj (b := 59) (by omega) (by omega) c)) ?_
        by_cases h44 : tp p = 44
        · exact iF_t (by rw [h44]; rfl) (j339 (by rw [h44]; decide))
        refine iF_f (fun c => h44 (nI_inj (b := 44) (by omega) (by omega) c)) ?_
        by_cases h63 : tp p = 63
        · exact iF_t (by rw [h63]; rfl) (j339 (by rw [h63]; decide))
        refine iF_f (fun c => h63 (nI_inj (b := 63) (by omega) (by omega) c)) ?_
        by_cases h58 : tp p = 58
        · exact iF_t (by rw [h58]; rfl) (j339 (by rw [h58]; decide))
        refine iF_f (fun c => h58 (nI_inj (b := 58) (by omega) (by omega) c)) ?_
        refine iF_t rfl (m_355 (c := 3) (f12.S hS) (hT.g f12) htl hpl hpi d l rfl ?_ b7 b8 fun M3 f3 t3 => hz M3 (f12.tr f3) t3)
        rw [if_neg (fun c => by omega)]
        unfold ctk
        rw [if_neg h60, if_neg h62, if_neg (by omega)]
  · have e : p = tl := by omega
    refine ⟨isO_pt hS (by decide) rfl, ?_⟩
    rw [h7]
    refine m_byte0 hS hT rfl (by omega) (by omega) (iF_f (by decide) ⟨isO_pt hS (by decide) rfl, ?_⟩)
    rw [h7]
    refine m_byte0 hS hT rfl (by omega) (by omega) (iF_f (by decide) ⟨isO_pt hS (by decide) rfl, nm_of (st_of ?_)⟩)
    rw [h7]
    generalize wI M 70 8 (nI p) = M1 at f1 a7 a8 ⊢
    have hS1 := f1.S hS
    rw [a7]
    refine m_byte0 hS1 (hT.g f1) rfl (by omega) (by omega) (iF_f (by decide) ⟨isO_pt hS1 (by decide) rfl, st_of ?_⟩)
    have ek : TKk tp tl i = 61 := tkK_e.mpr (by omega)
    have ee : tkE tp tl (poS tp tl i) = p := by
      unfold tkE
      rw [hpi, if_neg hpl]
    refine hz _ (f1.tr (FG.w ⟨rfl, by omega, by omega⟩)) ⟨by rw [ee]; exact (mI_n (by omega)).trans a7, by rw [hpi]; exact (mI_n (by omega)).trans a8, ?_⟩
    rw [ek]
    refine ⟨0, mI_s rfl rfl, by omega, by omega, by omega, by omega, fun s h1 h2 => ?_, fun e => absurd e (by omega), fun e => absurd e (by omega)⟩
    have := TR_n0 h1 h2
    omega
theorem m_nx_l {L tl i : Nat} {tp : Nat → Nat} {φ : fM → Prop} (htl : tl ≤ 300) : ∀ (m q : Nat) (M : fM), q + m = tl → ru isBl tp tl q = poS tp tl i → Str L M → TpM M tl tp → mI M 70 7 = nI q → (∀ M2, FG pN M M2 → TS M2 tp tl i → φ M2) → l_X11_nextToken_0 φ (m + 1) 70 M := by
  intro m
  induction m with
  | zero =>
    intro q M hq hr hS hT h7 hz
    exact m_nb hS hT htl (by omega) (hr.symm.trans (ru_e (by omega))) h7 (by omega) hz
  | succ m ih =>
    intro q M hq hr hS hT h7 hz
    show b_X11_nextToken_0 (l_X11_nextToken_0 φ (m + 1)) φ 70 M
    generalize hK : l_X11_nextToken_0 φ (m + 1) = K at ih ⊢
    by_cases e : isBl (tp q) = true
    · have hb := (hT.2 q (by omega)).1
      have j26 : j_X11_nextToken_26 K φ 70 M := by
        refine ⟨isO_pt hS (by decide) rfl, nm_of (st_of ?_)⟩
        rw [h7, show nI q + (1 : Int32) = nI (q + 1) from nI_add _ 1]
        have f : FG pN M (wI M 70 7 (nI (q + 1))) := FG.w ⟨rfl, by omega, by omega⟩
        exact ih (q + 1) _ (by omega) ((ru_s (by omega) e).symm.trans hr) (f.S hS) (hT.g f) (mI_s rfl rfl) fun M2 f2 t2 => hz M2 (f.tr f2) t2
      refine ⟨isO_pt hS (by decide) rfl, ?_⟩
      rw [h7]
      refine m_byte1 hS hT rfl (by omega) htl ?_
      by_cases e1 : tp q = 32
      · exact iF_t (by rw [e1]; rfl) j26
      · refine iF_f (fun c => e1 (nI_inj (b := 32) (by omega) (by omega) c)) ⟨isO_pt hS (by decide) rfl, ?_⟩
        rw [h7]
        refine m_byte1 hS hT rfl (by omega) htl (iF_t ?_ j26)
        have := isBl_t.mp e
        rw [show tp q = 10 by omega]
        rfl
    · exact m_nb hS hT htl (by omega) (hr.symm.trans (ru_e (fun c => e c.2))) h7 (fun c => e c.2) hz
theorem m_next {L tl i q : Nat} {tp : Nat → Nat} {M : fM} {φ : fM → Prop} (hS : Str L M) (hT : TpM M tl tp) (htl : tl ≤ 300) (hq : q ≤ tl) (hr : ru isBl tp tl q = poS tp tl i) (h7 : mI M 70 7 = nI q) (hz : ∀ M2, FG pN M M2 → TS M2 tp tl i → φ M2) : w_X11_nextToken 70 M φ := ⟨tl - q + 1, m_nx_l (L := L) htl (tl - q) q M (by omega) hr hS hT h7 hz⟩
theorem m_nextS {L tl i : Nat} {tp : Nat → Nat} {M : fM} {φ : fM → Prop} (hS : Str L M) (hT : TpM M tl tp) (htl : tl ≤ 300) (hlv : lvT tp tl i) (hn : TKk tp tl i ≠ 61) (ts : TS M tp tl i) (hz : ∀ M2, FG pN M M2 → TS M2 tp tl (i + 1) → φ M2) : w_X11_nextToken 70 M φ :=
  m_next hS hT htl (tkE_g (Nat.lt_of_not_le fun c => hn (tkK_e.mpr c))).2 rfl ts.1 hz
/-! ===== TEXT: what the model asks of a TOKEN ===== -/
theorem TS.e {M : fM} {tp : Nat → Nat} {tl i : Nat} (ts : TS M tp tl i) : mI M 70 9 = 0 ↔ TKk tp tl i = 61 := by
  obtain ⟨-, -, c, h, hc, h0, -⟩ := ts
  rw [h]
  exact ⟨fun e => h0.mp (nI_inj (b := 0) (by omega) (by omega) e), fun e => by rw [h0.mpr e]; rfl⟩
theorem TS.n {M : fM} {tp : Nat → Nat} {tl i : Nat} (ts : TS M tp tl i) : mI M 70 9 = 1 ↔ TKk tp tl i = 60 := by
  obtain ⟨-, -, c, h, hc, -, h1, -⟩ := ts
  rw [h]
  exact ⟨fun e => h1.mp (nI_inj (b := 1) (by omega) (by omega) e), fun e => by rw [h1.mpr e]; rfl⟩
theorem TS.s {M : fM} {tp : Nat → Nat} {tl i s : Nat} (ts : TS M tp tl i) (a1 : 40 ≤ s) (a2 : s ≤ 54) : mI M 70 9 = nI (sgC s) ↔ TKk tp tl i = s := by
  obtain ⟨-, -, c, h, hc, -, -, -, hs, -⟩ := ts
  have u := sgC_u (s - 40) (by omega)
  rw [show 40 + (s - 40) = s by omega] at u
  rw [h, ← hs s a1 a2]
  exact ⟨fun e => nI_inj (by omega) (by omega) e, fun e => by rw [e]⟩
theorem TS.v {M : fM} {tp : Nat → Nat} {tl i : Nat} (ts : TS M tp tl i) (h : TKk tp tl i = 60) : ∃ n, mI M 70 10 = nI n ∧ nuR (TKv tp tl i) n := by
  obtain ⟨-, -, c, -, -, -, h1, -, -, hn, -⟩ := ts
  exact hn (h1.mpr h)
theorem m_isWd {L tl i k : Nat} {tp : Nat → Nat} {M : fM} {x : Int64} {φ : Int32 → fM → Prop} (hS : Str L M) (ts : TS M tp tl i) (hk : k < 35) (hx : x = jN (pkW k)) (h1 : TKk tp tl i = k → φ 1 M) (h0 : TKk tp tl i ≠ k → φ 0 M) : w_X11_isWord 70 x M φ := by
  obtain ⟨-, -, c, h, hc, e0, e1, e2, -, -, hw⟩ := ts
  subst hx
  refine ⟨isO_pt hS (by decide) rfl, ?_⟩
  rw [h]
  by_cases z : c = 2
  · obtain ⟨w, w1, w2, w3⟩ := hw z
    refine iF_t (by rw [z]; rfl) ?_
    rw [w1]
    have pb := pkW_b k hk
    by_cases y : w = pkW k
    · exact iF_t ((lgN_eq (by omega) (by omega)).mpr y) (h1 ((w3 k hk).mp y))
    · exact iF_f (fun c => y ((lgN_eq (by omega) (by omega)).mp c)) (h0 fun c => y ((w3 k hk).mpr c))
  · exact iF_f (fun e => z (nI_inj (b := 2) (by omega) (by omega) e)) (h0 fun e => z (e2.mpr (Or.inl (by omega))))
theorem m_wdN {M : fM} {tp : Nat → Nat} {tl i k : Nat} (ts : TS M tp tl i) (hk : k < 35) (h2 : mI M 70 9 = 2) : (lg_cmp (mJ M 70 11) (jN (pkW k)) = 0 ↔ TKk tp tl i = k) := by
  obtain ⟨-, -, c, h, hc, e0, e1, e2, -, -, hw⟩ := ts
  rw [h] at h2
  obtain ⟨w, w1, w2, w3⟩ := hw (nI_inj (b := 2) (by omega) (by omega) h2)
  have pb := pkW_b k hk
  rw [w1, ← w3 k hk]
  exact lgN_eq (by omega) (by omega)
theorem TS.w {M : fM} {tp : Nat → Nat} {tl i : Nat} (ts : TS M tp tl i) : (TKk tp tl i < 35 → mI M 70 9 = 2) ∧ (mI M 70 9 ≠ 2 → 35 ≤ TKk tp tl i) := by
  obtain ⟨-, -, c, h, hc, e0, e1, e2, -⟩ := ts
  rw [h]
  refine ⟨fun e => by rw [e2.mpr (Or.inl e)]; rfl, fun e => ?_⟩
  by_cases z : TKk tp tl i < 35
  · exact absurd (by rw [e2.mpr (Or.inl z)]; rfl) e
  · omega
