/-! ===== TEXT: the model's machine, one step ===== -/
def pU (t0 r k : Nat) : Prop := pT t0 r k ∨ pN r k
theorem FG.tU {t0 : Nat} {M M2 : fM} (f : FrX (pT t0) M M2) : FG (pU t0) M M2 := (FG.x f).mn fun _ _ h => Or.inl h
theorem FG.nU {t0 : Nat} {M M2 : fM} (f : FG pN M M2) : FG (pU t0) M M2 := f.mn fun _ _ h => Or.inr h
def MS (t0 : Nat) (tp : Nat → Nat) (tl : Nat) (x : St) (M : fM) : Prop := PM t0 x.1 x.2.1 M ∧ mI M 70 19 = (if x.2.2.1 = true then 1 else 0) ∧ TS M tp tl x.2.2.2 ∧ lvT tp tl x.2.2.2 ∧ x.2.1.length + x.1.length ≤ x.2.2.2 ∧ x.1.length ≤ 150 ∧ TpM M tl tp
theorem stl_len {l : Nat} : ∀ (P : List Nat) (E : List (Nat × Nat)), (stl l P E).2.length + (stl l P E).1.length = E.length + P.length ∧ (stl l P E).1.length ≤ P.length
  | [], E => ⟨rfl, Nat.le_refl _⟩
  | o :: P, E => by
    show (if l ≤ rk o then stl l P (E ++ [(o, 0)]) else (o :: P, E)).2.length + (if l ≤ rk o then stl l P (E ++ [(o, 0)]) else (o :: P, E)).1.length = E.length + (P.length + 1) ∧ (if l ≤ rk o then stl l P (E ++ [(o, 0)]) else (o :: P, E)).1.length ≤ P.length + 1
    by_cases e : l ≤ rk o
    · rw [if_pos e]
      obtain ⟨h1, h2⟩ := stl_len (l := l) P (E ++ [(o, 0)])
      rw [List.length_append] at h1
      have : ([(o, 0)] : List (Nat × Nat)).length = 1 := rfl
      omega
    · rw [if_neg e]
      exact ⟨rfl, Nat.le_refl _⟩
theorem mkK_l {d : Nat} {M : fM} {P : List Nat} (hp : Pil M P) (hd : d ≤ 99) : mkK d P ≤ 99 := by
  by_cases e : mkI P = 0
  · rw [mkI_0 e]
    exact hd
  · have := (mkI_p (d := d) hp e).2.2
    omega
theorem m_isOf {L n so : Nat} {M : fM} {φ : Int32 → fM → Prop} (hS : Str L M) (h20 : mI M 70 20 = nI so) (hso : so ≤ 4) (hn : n ≤ 99) (h : φ (if 6 ≤ n ∧ 2 < so then 0 else 1) M) : w_X11_isOf 70 (nI n) M φ := by
  by_cases e : n < 6
  · rw [if_neg (by omega)] at h
    exact iF_t ((nIlt (b := 6) (by omega) (by omega)).mpr e) h
  · refine iF_f (fun c => e ((nIlt (b := 6) (by omega) (by omega)).mp c)) ⟨isO_pt hS (by decide) rfl, ?_⟩
    rw [h20]
    by_cases s : 2 < so
    · rw [if_pos ⟨by omega, s⟩] at h
      exact iF_t ((nIlt (a := 2) (by omega) (by omega)).mpr s) h
    · rw [if_neg (fun c => s c.2)] at h
      exact iF_f (fun c => s ((nIlt (a := 2) (by omega) (by omega)).mp c)) h
theorem m_opBy {L t0 tl i o : Nat} {tp : Nat → Nat} {P : List Nat} {E : List (Nat × Nat)} {a : Int32} {M : fM} {φ : Int32 → fM → Prop} (hS : Str L M) (htl : tl ≤ 300) (h : MS t0 tp tl (P, E, false, i) M) (hn : TKk tp tl i ≠ 61) (ha : a = nI o) (ho : o ≤ 43) (h1 : opn o = 1) (hr : (opb o P E i).1 ≠ 9) (hz : ∀ M2, FG (pU t0) M M2 → ((opb o P E i).1 = 0 → MS t0 tp tl (opb o P E i).2 M2) → ((opb o P E i).1 ≠ 0 → TS M2 tp tl i) → φ (nI (opb o P E i).1) M2) : w_X11_opensBy 70 a M φ := by
  obtain ⟨⟨q1, q2, q3, q4, q5, q6⟩, h19, ts, lv, hlen, hpl, hT⟩ := h
  have hc := cnO_b P
  have hpl : P.length ≤ 150 := hpl
  refine ⟨isO_pt hS (by decide) rfl, ?_⟩
  rw [q3]
  by_cases z : cnO P = 8
  · have e : opb o P E i = (3, (P, E, false, i)) := if_pos z
    rw [e] at hz
    exact iF_t (by show nI (cnO P) = 8; rw [z]; rfl) (hz M (FG.rf M) (fun c => absurd c (by decide : ¬ (3 : Nat) = 0)) fun _ => ts)
  · have hl : P.length < 150 := by
      rcases Nat.lt_or_ge P.length 150 with l | l
      · exact l
      · refine absurd ?_ hr
        unfold opb
        rw [if_neg z, if_pos l]
    have e : opb o P E i = (0, (o :: P, E, false, i + 1)) := by
      unfold opb
      rw [if_neg z, if_neg (by omega)]
    rw [e] at hz
    have q3 : mI M 70 18 = nI (cnO P) := q3
    refine iF_f (fun c => z (nI_inj (b := 8) (by omega) (by omega) c)) (nm_of (st_of ?_))
    rw [show nI (cnO P) + (1 : Int32) = nI (cnO P + 1) from nI_add _ 1]
    have f1 : FrX (pT t0) M (wI M 70 18 (nI (cnO P + 1))) := FrX.w (Or.inl ⟨rfl, by omega⟩)
    refine m_push (t0 := t0) (f1.S hS) ((mI_n (by omega)).trans q2) (q5.cg fun k _ => mI_n (by omega)) hl ha ho fun M2 f2 c2 g17 gP => ?_
    have f12 := f1.tr f2
    have hS2 := f12.S hS
    refine ⟨isO_pt hS2 (by decide) rfl, m_nextS hS2 (hT.x f12) htl lv hn (ts.x f12) fun M3 f3 t3 => ?_⟩
    have pm : PM t0 (o :: P) E M2 := by
      refine ⟨(c2 70 12 (by omega) (by omega)).trans ((mI_n (by omega)).trans q1), g17, ?_, (c2 70 14 (by omega) (by omega)).trans ((mI_n (by omega)).trans q4), gP, fun j x hx => ?_⟩
      · rw [c2 70 18 (by omega) (by omega), mI_s rfl rfl]
        show nI (cnO P + 1) = nI (opn o + cnO P)
        rw [h1, Nat.add_comm]
      · rw [c2 73 _ (by omega) (by omega), c2 73 _ (by omega) (by omega), mI_n (by omega), mI_n (by omega)]
        exact q6 j x hx
    have hlen : E.length + P.length ≤ i := hlen
    refine hz M3 ((FG.tU f12).tr f3.nU) (fun _ => ⟨pm.g f3, ?_, t3, lvT_s lv hn, ?_, ?_, (hT.x f12).g f3⟩) (fun c => absurd rfl c)
    · rw [f3.2.1 70 19 (by unfold pN; omega), c2 70 19 (by omega) (by omega), mI_n (by omega)]
      exact h19
    · show E.length + (P.length + 1) ≤ i + 1
      omega
    · show P.length + 1 ≤ 150
      omega
theorem m_whole {L t0 : Nat} {P : List Nat} {E : List (Nat × Nat)} {M : fM} {φ : fM → Prop} (ht : t0 + 705 ≤ 2820) (hS : Str L M) (h : PM t0 P E M) (hb : E.length + P.length ≤ 300) (hb2 : P.length ≤ 150) (hz : ∀ M2, FrX (pT t0) M M2 → mI M2 70 19 = 1 → PM t0 (stl 7 P E).1 (stl 7 P E).2 M2 → φ M2) : w_X11_whole 70 M φ := by
  obtain ⟨q1, q2, q3, q4, q5, q6⟩ := h
  refine ⟨isO_pt hS (by decide) rfl, st_of ?_⟩
  have f1 : FrX (pT t0) M (wI M 70 19 (1 : Int32)) := FrX.w (Or.inl ⟨rfl, by omega⟩)
  exact m_settle (l := 7) ht rfl (by omega) (by omega) (f1.S hS) (P := P) (E := E) ⟨(mI_n (by omega)).trans q1, (mI_n (by omega)).trans q2, (mI_n (by omega)).trans q3, (mI_n (by omega)).trans q4, q5.cg fun k _ => mI_n (by omega), fun j x hx => ⟨(mI_n (by omega)).trans (q6 j x hx).1, (mI_n (by omega)).trans (q6 j x hx).2⟩⟩ hb hb2 fun M2 f2 n2 p2 => hz M2 (f1.tr f2) (n2.trans (mI_s rfl rfl)) p2
theorem m_isIn {n a b : Nat} {M : fM} {φ : Int32 → fM → Prop} (hn : n < 2147483648) (ha : a < 2147483648) (hb : b < 2147483648) (h : φ (if a ≤ n ∧ n ≤ b then 1 else 0) M) : w_X11_isIn (nI n) (nI a) (nI b) M φ := by
  by_cases e : n < a
  · rw [if_neg (by omega)] at h
    exact iF_t ((nIlt hn ha).mpr e) h
  · refine iF_f (fun c => e ((nIlt hn ha).mp c)) ?_
    by_cases e2 : b < n
    · rw [if_neg (by omega)] at h
      exact iF_t ((nIlt hb hn).mpr e2) h
    · rw [if_pos (by omega)] at h
      exact iF_f (fun c => e2 ((nIlt hb hn).mp c)) h
theorem m_ahead {L d : Nat} {P : List Nat} {a : Int32} {φ : Int32 → fM → Prop} {M : fM} (hS : Str L M) (h17 : mI M 70 17 = nI P.length) (hp : Pil M P) (hl : P.length ≤ 150) (hd : (a = 0 ∧ d = 40) ∨ (a = 1 ∧ d = 41)) (h : φ (if mkK d P = 41 ∧ hdA P = true then 1 else 0) M) : w_X11_isAskAhead 70 a M φ := by
  refine ⟨isO_pt hS (by decide) rfl, m_kind hS h17 hp hl hd ?_⟩
  have kl := mkK_l (d := d) hp (by omega)
  by_cases z : mkK d P = 41
  · refine iF_t (by rw [z]; rfl) ⟨isO_pt hS (by decide) rfl, ?_⟩
    rw [h17]
    cases P with
    | nil =>
      rw [if_pos ⟨z, rfl⟩] at h
      exact iF_t rfl h
    | cons o P =>
      have hl : P.length + 1 ≤ 150 := hl
      show iF (nI (P.length + 1) = 0) _ _
      have r7 := rk_7 o
      refine iF_f (fun c => absurd (nI_inj (b := 0) (by omega) (by omega) c) (by omega)) (dR_of (Str.pg hS rfl) ?_)
      rw [show nI (o :: P).length - (1 : Int32) = nI P.length from nI_s1 _, ix_nI (by omega), hp.1]
      refine ⟨inA_pt hS rfl (vp_nI (by omega) (by decide)), ?_⟩
      have ho := hp.2.1
      by_cases e : o = 41
      · rw [if_pos ⟨z, decide_eq_true (Or.inl e)⟩] at h
        exact iF_t (by rw [e]; rfl) h
      · refine iF_f (fun c => e (nI_inj (b := 41) (by omega) (by omega) c)) (dR_of (Str.pg hS rfl) ⟨inA_pt hS rfl (vp_nI (by omega) (by decide)), ?_⟩)
        rw [hp.1]
        refine m_rank ho (m_isIn (a := 1) (b := 3) (by omega) (by omega) (by omega) ?_)
        by_cases e2 : 1 ≤ rk o ∧ rk o ≤ 3
        · rw [if_pos ⟨z, decide_eq_true (Or.inr e2)⟩] at h
          rw [if_pos e2]
          exact iF_f (by decide) h
        · rw [if_neg (fun c => by rcases of_decide_eq_true c.2 with q | q; exact e q; exact e2 q)] at h
          rw [if_neg e2]
          exact iF_t rfl h
  · rw [if_neg (fun c => z c.1)] at h
    exact iF_f (fun c => z (nI_inj (b := 41) (by omega) (by omega) c)) h
