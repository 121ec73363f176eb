/-! ===== TEXT: the model's run ===== -/
theorem MS.g20 {t0 : Nat} {M M2 : fM} (f : FG (pU t0) M M2) : mI M2 70 20 = mI M 70 20 := f.2.1 70 20 (by unfold pU pT pN; omega)
theorem s1_c {T V : Nat → Nat} {d so i : Nat} {P : List Nat} {E : List (Nat × Nat)} : ((s1 T V d so (P, E, false, i)).1 ≠ 0 → (s1 T V d so (P, E, false, i)).2.2.2.2 = i) ∧ ((s1 T V d so (P, E, false, i)).1 ≤ 5 ∨ (s1 T V d so (P, E, false, i)).1 = 9) := by
  rw [s1_b]
  unfold s1b opb
  repeat' split
  all_goals simp
theorem s1_w7 {T V : Nat → Nat} {d so i : Nat} {P : List Nat} {E : List (Nat × Nat)} : (s1 T V d so (P, E, true, i)).1 = 0 ∨ (s1 T V d so (P, E, true, i)).1 = 7 ∨ (s1 T V d so (P, E, true, i)).1 = 9 := by
  rw [s1_w]
  unfold s1w
  repeat' split
  all_goals simp
theorem m_end {L t0 d : Nat} {P : List Nat} {E : List (Nat × Nat)} {a : Int32} {K : Nat → Int32 → Int32 → fM → Prop} {M : fM} {φ : Int32 → fM → Prop} (ht : t0 + 705 ≤ 2820) (hS : Str L M) (hp : PM t0 P E M) (hl : E.length + P.length ≤ 300) (hl2 : P.length ≤ 150) (hd : (a = 0 ∧ d = 40) ∨ (a = 1 ∧ d = 41)) (hbad : (mkK 99 P ≠ 99 ∨ (d = 41 ∧ cmpd P = false)) → φ 1 M) (hok : mkK 99 P = 99 → (d = 41 → cmpd P = true) → ∀ M2, FrX (pT t0) M M2 → PM t0 (stl 1 P E).1 (stl 1 P E).2 M2 → φ 0 M2) : b_X11_parsed_12 K φ 70 a 0 M := by
  have hp0 := hp
  obtain ⟨q1, q2, q3, q4, q5, q6⟩ := hp
  refine iF_t rfl ⟨isO_pt hS (by decide) rfl, m_mkr hS q2 q5 hl2 ?_⟩
  have j67 : mkK 99 P = 99 → (d = 41 → cmpd P = true) → j_X11_parsed_67 φ 70 M := fun c1 c2 => ⟨isO_pt hS (by decide) rfl, m_settle (l := 1) ht rfl (by omega) (by omega) hS hp0 hl hl2 fun M2 f2 n2 p2 => hok c1 c2 M2 f2 p2⟩
  by_cases e : mkI P = 0
  · rw [e]
    have e9 : mkK 99 P = 99 := mkI_0 e
    refine iF_f (by decide) ?_
    rcases hd with ⟨e1, e2⟩ | ⟨e1, e2⟩
    · exact iF_t e1 (j67 e9 fun c => absurd c (by omega))
    · refine iF_f (by rw [e1]; decide) ⟨isO_pt hS (by decide) rfl, m_cmpd hS q2 q5 hl2 ?_⟩
      by_cases w : cmpd P = true
      · rw [if_pos w]
        exact iF_f (by decide) (j67 e9 fun _ => w)
      · rw [if_neg w]
        exact iF_t rfl (hbad (Or.inr ⟨e2, by cases h : cmpd P; rfl; exact absurd h w⟩))
  · have := mkI_le P
    have mp := mkI_p (d := 99) q5 e
    rw [nI_m1 e]
    exact iF_t ((nIle (a := 0) (by omega) (by omega)).mpr (Nat.zero_le _)) (hbad (Or.inl (by omega)))
theorem m_run {L t0 tl d so c : Nat} {tp : Nat → Nat} {y : St} {a : Int32} {φ : Int32 → fM → Prop} (ht : t0 + 705 ≤ 2820) (htl : tl ≤ 300) (hso : so ≤ 4) (hd : (a = 0 ∧ d = 40) ∨ (a = 1 ∧ d = 41)) (hc0 : c ≠ 0) (hc9 : c ≠ 9) : ∀ (n : Nat) (x : St) (M : fM), itr (TKk tp tl) (TKv tp tl) d so n x = (c, y) → Str L M → MS t0 tp tl x M → mI M 70 20 = nI so → (c = 7 → ∀ K M2, FG (pU t0) M M2 → MS t0 tp tl y M2 → b_X11_parsed_12 K φ 70 a 0 M2) → (c ≠ 7 → ∀ M2, FG (pU t0) M M2 → TS M2 tp tl y.2.2.2 → φ (nI c) M2) → l_X11_parsed_12 φ (n + 1) 70 a 1 M := by
  intro n
  induction n with
  | zero =>
    intro x M h
    exact absurd (congrArg Prod.fst h).symm hc0
  | succ n ih =>
    intro x M h hS hM h20 h7 hf
    show b_X11_parsed_12 (l_X11_parsed_12 φ (n + 1)) φ 70 a 1 M
    generalize hK : l_X11_parsed_12 φ (n + 1) = K at ih ⊢
    have h : (if (s1 (TKk tp tl) (TKv tp tl) d so x).1 = 0 then itr (TKk tp tl) (TKv tp tl) d so n (s1 (TKk tp tl) (TKv tp tl) d so x).2 else s1 (TKk tp tl) (TKv tp tl) d so x) = (c, y) := h
    refine iF_f (by decide) ⟨isO_pt hS (by decide) rfl, ?_⟩
    obtain ⟨P, E, b, i⟩ := x
    by_cases e0 : (s1 (TKk tp tl) (TKv tp tl) d so (P, E, b, i)).1 = 0
    · rw [if_pos e0] at h
      have go : ∀ M2, FG (pU t0) M M2 → MS t0 tp tl (s1 (TKk tp tl) (TKv tp tl) d so (P, E, b, i)).2 M2 → K 70 a 1 M2 := fun M2 f2 m2 => ih _ M2 h (f2.S hS) m2 ((MS.g20 f2).trans h20) (fun c7 K3 M3 f3 m3 => h7 c7 K3 M3 (f2.tr f3) m3) fun c7 M3 f3 t3 => hf c7 M3 (f2.tr f3) t3
      cases b with
      | false =>
        refine iF_t hM.2.1 (m_beg ht hS htl hM h20 hso hd (by omega) fun M2 f2 m2 _ => ?_)
        rw [e0]
        exact iF_t rfl (go M2 f2 (m2 e0))
      | true =>
        have h19 : mI M 70 19 = 1 := hM.2.1
        refine iF_f (by rw [h19]; decide) (m_bhd ht hS htl hM hd (by rw [e0]; decide) fun M2 f2 m2 => ?_)
        rw [if_pos e0]
        exact go M2 f2 m2
    · rw [if_neg e0] at h
      have ec : (s1 (TKk tp tl) (TKv tp tl) d so (P, E, b, i)).1 = c := congrArg Prod.fst h
      have ey : (s1 (TKk tp tl) (TKv tp tl) d so (P, E, b, i)).2 = y := congrArg Prod.snd h
      cases b with
      | false =>
        have eb := s1_c (T := TKk tp tl) (V := TKv tp tl) (d := d) (so := so) (P := P) (E := E) (i := i)
        have yi : y.2.2.2 = i := by
          rw [← ey]
          exact eb.1 e0
        have c5 : c ≤ 5 ∨ c = 9 := by
          rw [← ec]
          exact eb.2
        refine iF_t hM.2.1 (m_beg ht hS htl hM h20 hso hd (by omega) fun M2 f2 _ t2 => ?_)
        rw [ec]
        refine iF_f (fun z => hc0 (nI_inj (b := 0) (by omega) (by omega) z)) (hf (by omega) M2 f2 ?_)
        rw [yi]
        exact t2 e0
      | true =>
        have h19 : mI M 70 19 = 1 := hM.2.1
        have c7 : c = 7 := by
          have := s1_w7 (T := TKk tp tl) (V := TKv tp tl) (d := d) (so := so) (P := P) (E := E) (i := i)
          omega
        refine iF_f (by rw [h19]; decide) (m_bhd ht hS htl hM hd (by rw [ec]; exact hc9) fun M2 f2 m2 => ?_)
        rw [if_neg e0]
        rw [ey] at m2
        rw [← hK]
        exact h7 c7 _ M2 f2 m2
