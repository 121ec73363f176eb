/-! ===== TEXT: a LAW's right side, of the model ===== -/
def dLw (so : Nat) : Nat := if so = 2 then 41 else 40
def LwR (T V : Nat → Nat) (so i : Nat) (em : List (Nat × Nat)) (j : Nat) : Prop := ∃ Q, OKr T V (dLw so) so [] i em Q j ∧ (∀ x ∈ Q, 1 ≤ rk x ∧ x < 40) ∧ bwO (dLw so) (T j) (Q ++ []) = 99 ∧ (so = 2 → cmpd (Q ++ []) = true)
def LwF (T V : Nat → Nat) (so i f j : Nat) : Prop := ∀ E0, RF T V (dLw so) so ([], E0, false, i) f j
theorem dLw_a {so : Nat} {a : Int32} (h : a = if so = 2 then 1 else 0) : (a = 0 ∧ dLw so = 40) ∨ (a = 1 ∧ dLw so = 41) := by
  unfold dLw
  by_cases e : so = 2
  · rw [if_pos e] at h
    exact Or.inr ⟨h, if_pos e⟩
  · rw [if_neg e] at h
    exact Or.inl ⟨h, if_neg e⟩
theorem m_ps0 {L t0 tl i : Nat} {tp : Nat → Nat} {E : List (Nat × Nat)} {a : Int32} {M : fM} {φ : Int32 → fM → Prop} (hS : Str L M) (h12 : mI M 70 12 = nI t0) (h18 : mI M 70 18 = 0) (h14 : mI M 70 14 = nI E.length) (hc : Cds M t0 E) (ts : TS M tp tl i) (lv : lvT tp tl i) (hE : E.length ≤ i) (hT : TpM M tl tp) (hz : ∀ M2, FrX (pT t0) M M2 → MS t0 tp tl ([], E, false, i) M2 → ∃ n, l_X11_parsed_12 φ n 70 a 1 M2) : w_X11_parsed 70 a M φ := by
  refine ⟨isO_pt hS (by decide) rfl, st_of (st_of ?_)⟩
  have f : FrX (pT t0) M (wI (wI M 70 17 (0 : Int32)) 70 19 (0 : Int32)) := (FrX.w (Or.inl ⟨rfl, by omega⟩)).tr (FrX.w (Or.inl ⟨rfl, by omega⟩))
  exact hz _ f ⟨⟨(mI_n (by omega)).trans ((mI_n (by omega)).trans h12), (mI_n (by omega)).trans (mI_s rfl rfl), (mI_n (by omega)).trans ((mI_n (by omega)).trans h18), (mI_n (by omega)).trans ((mI_n (by omega)).trans h14), trivial, fun j x hx => ⟨(mI_n (by omega)).trans ((mI_n (by omega)).trans (hc j x hx).1), (mI_n (by omega)).trans ((mI_n (by omega)).trans (hc j x hx).2)⟩⟩, mI_s rfl rfl, ts.x f, lv, hE, Nat.zero_le _, hT.x f⟩
theorem m_psF {L t0 tl so f j i : Nat} {tp : Nat → Nat} {E : List (Nat × Nat)} {a : Int32} {M : fM} {φ : Int32 → fM → Prop} (ht : t0 + 705 ≤ 2820) (htl : tl ≤ 300) (hso : so ≤ 4) (ha : a = if so = 2 then 1 else 0) (hS : Str L M) (h12 : mI M 70 12 = nI t0) (h18 : mI M 70 18 = 0) (h14 : mI M 70 14 = nI E.length) (hc : Cds M t0 E) (ts : TS M tp tl i) (lv : lvT tp tl i) (hE : E.length ≤ i) (hT : TpM M tl tp) (h20 : mI M 70 20 = nI so) (hrf : LwF (TKk tp tl) (TKv tp tl) so i f j) (hz : ∀ M2, FG (pU t0) M M2 → TS M2 tp tl j → φ (nI f) M2) : w_X11_parsed 70 a M φ := by
  refine m_ps0 hS h12 h18 h14 hc ts lv hE hT fun M1 f1 m1 => ?_
  obtain ⟨n, c, y, hi, hj, hcf⟩ := hrf E
  have hcc : c ≠ 0 ∧ c ≠ 9 := by omega
  refine ⟨n + 1, m_run ht htl hso (dLw_a ha) hcc.1 hcc.2 n _ M1 hi (f1.S hS) m1 ((f1.2 70 20 (by unfold pT; omega)).trans h20) (fun c7 K M2 f2 m2 => ?_) (fun c7 M2 f2 t2 => ?_)⟩
  · rcases hcf with ⟨e1, e2⟩ | ⟨e1, e2, e3⟩
    · omega
    · obtain ⟨P', E', b', i'⟩ := y
      have hj : i' = j := hj
      subst hj
      obtain ⟨l1, l2, l3⟩ := m2.len
      refine m_end ht (f2.S (f1.S hS)) m2.1 (by show E'.length + P'.length ≤ 300; omega) l2 (dLw_a ha) (fun _ => ?_) fun c1 c2 => ?_
      · rw [e2] at hz
        exact hz M2 ((FG.tU f1).tr f2) m2.2.2.1
      · rcases e3 with e3 | e3
        · exact absurd c1 e3
        · have := c2 e3.1
          rw [e3.2] at this
          exact absurd this (by decide)
  · rcases hcf with ⟨e1, e2⟩ | ⟨e1, e2, e3⟩
    · rw [hj] at t2
      rw [e1]
      exact hz M2 ((FG.tU f1).tr f2) t2
    · exact absurd e1 c7
theorem m_psK {L t0 tl so j i : Nat} {tp : Nat → Nat} {E em : List (Nat × Nat)} {a : Int32} {M : fM} {φ : Int32 → fM → Prop} (ht : t0 + 705 ≤ 2820) (htl : tl ≤ 300) (hso : so ≤ 4) (ha : a = if so = 2 then 1 else 0) (hS : Str L M) (h12 : mI M 70 12 = nI t0) (h18 : mI M 70 18 = 0) (h14 : mI M 70 14 = nI E.length) (hc : Cds M t0 E) (ts : TS M tp tl i) (lv : lvT tp tl i) (hE : E.length ≤ i) (hT : TpM M tl tp) (h20 : mI M 70 20 = nI so) (hrf : LwR (TKk tp tl) (TKv tp tl) so i em j) (hz : ∀ M2, FG (pU t0) M M2 → PM t0 [] (E ++ em) M2 → TS M2 tp tl j → lvT tp tl j → (E ++ em).length ≤ j → TpM M2 tl tp → φ 0 M2) : w_X11_parsed 70 a M φ := by
  refine m_ps0 hS h12 h18 h14 hc ts lv hE hT fun M1 f1 m1 => ?_
  obtain ⟨Q, ok, hq, hb, hcm⟩ := hrf
  obtain ⟨E1, ⟨n, r1⟩, e1⟩ := ok E
  have mk : mkK 99 (Q ++ []) = 99 := mkK_q Q fun x hx => (hq x hx).2
  have hlast : s1 (TKk tp tl) (TKv tp tl) (dLw so) so (Q ++ [], E1, true, j) = (7, (Q ++ [], E1, true, j)) := by
    rw [s1_w]
    unfold s1w
    rw [hb, if_neg (by omega), mk, if_neg (by omega), if_neg (by rintro (c | c) <;> omega)]
  have r2 : itr (TKk tp tl) (TKv tp tl) (dLw so) so (n + 1) ([], E, false, i) = (7, (Q ++ [], E1, true, j)) := by
    rw [itr_a n _ 1 r1]
    show (if (s1 (TKk tp tl) (TKv tp tl) (dLw so) so (Q ++ [], E1, true, j)).1 = 0 then (0, (s1 (TKk tp tl) (TKv tp tl) (dLw so) so (Q ++ [], E1, true, j)).2) else s1 (TKk tp tl) (TKv tp tl) (dLw so) so (Q ++ [], E1, true, j)) = _
    rw [hlast]
    rfl
  refine ⟨n + 1 + 1, m_run ht htl hso (dLw_a ha) (by decide) (by decide) (n + 1) _ M1 r2 (f1.S hS) m1 ((f1.2 70 20 (by unfold pT; omega)).trans h20) (fun c7 K M2 f2 m2 => ?_) (fun c7 M2 f2 t2 => absurd rfl c7)⟩
  obtain ⟨l1, l2, l3⟩ := m2.len
  have es : stl 1 (Q ++ []) E1 = ([], E ++ em) := by
    rw [stl_q (l := 1) (P := []) trivial Q E1 fun x hx => (hq x hx).1, e1]
  refine m_end ht (f2.S (f1.S hS)) m2.1 (by show E1.length + (Q ++ []).length ≤ 300; omega) l2 (dLw_a ha) (fun c => ?_) fun c1 c2 M3 f3 p3 => ?_
  · rcases c with c | ⟨c, c'⟩
    · exact absurd mk c
    · have : so = 2 := by
        unfold dLw at c
        by_cases e : so = 2
        · exact e
        · rw [if_neg e] at c
          omega
      rw [hcm this] at c'
      exact absurd c' (by decide)
  · rw [es] at p3
    have sl := (stl_len (l := 1) (Q ++ []) E1).1
    rw [es] at sl
    have sl : (E ++ em).length + 0 = E1.length + (Q ++ []).length := sl
    exact hz M3 (((FG.tU f1).tr f2).tr (FG.tU f3)) p3 (m2.2.2.1.x f3) m2.2.2.2.1 (by omega) (m2.2.2.2.2.2.2.x f3)
