theorem MS.len {t0 tl i : Nat} {tp : Nat → Nat} {P : List Nat} {E : List (Nat × Nat)} {b : Bool} {M : fM} (h : MS t0 tp tl (P, E, b, i) M) : E.length + P.length ≤ i ∧ P.length ≤ 150 ∧ i ≤ tl := ⟨h.2.2.2.2.1, h.2.2.2.2.2.1, lvT_l h.2.2.2.1⟩
theorem m_81 {L t0 tl i : Nat} {tp : Nat → Nat} {P : List Nat} {E : List (Nat × Nat)} {x : Nat × Nat} {a b : Int32} {M : fM} {φ : Int32 → fM → Prop} (ht : t0 + 705 ≤ 2820) (hS : Str L M) (htl : tl ≤ 300) (h : MS t0 tp tl (P, E, false, i) M) (hn : TKk tp tl i ≠ 61) (ha : a = nI x.2) (hb : b = nI x.1) (hz : ∀ M2, FG (pU t0) M M2 → MS t0 tp tl ((stl 7 P (E ++ [x])).1, (stl 7 P (E ++ [x])).2, true, i + 1) M2 → φ 0 M2) : j_X11_beginOne_81 φ 70 a b 70 M := by
  obtain ⟨hl1, hl2, hl3⟩ := h.len
  obtain ⟨⟨q1, q2, q3, q4, q5, q6⟩, h19, ts, lv, -, -, hT⟩ := h
  have hi : i < tl := lvT_t (i := i) lv hn
  refine ⟨isO_pt hS (by decide) rfl, m_emit hS ht q1 q4 q6 (by show E.length < 300; omega) hb ha fun M1 f1 e14 eE => ?_⟩
  have hS1 := f1.S hS
  have el : (E ++ [x]).length = E.length + 1 := by
    rw [List.length_append]
    rfl
  have p1 : PM t0 P (E ++ [x]) M1 := by
    refine ⟨(f1.2 70 12 (by unfold pE; omega)).trans q1, (f1.2 70 17 (by unfold pE; omega)).trans q2, (f1.2 70 18 (by unfold pE; omega)).trans q3, ?_, q5.cg fun k _ => f1.2 75 k (by unfold pE; omega), eE⟩
    rw [el]
    exact e14
  refine ⟨isO_pt hS1 (by decide) rfl, m_nextS hS1 (hT.x f1.eT) htl lv hn (ts.x f1.eT) fun M2 f2 t2 => ?_⟩
  have hS2 := f2.S hS1
  refine ⟨isO_pt hS2 (by decide) rfl, m_whole ht hS2 (p1.g f2) (by omega) hl2 fun M3 f3 n3 p3 => ?_⟩
  have sl := stl_len (l := 7) P (E ++ [x])
  refine hz M3 (((FG.tU f1.eT).tr f2.nU).tr (FG.tU f3)) ⟨p3, n3, t2.x f3, lvT_s lv hn, ?_, ?_, ((hT.x f1.eT).g f2).x f3⟩
  · show (stl 7 P (E ++ [x])).2.length + (stl 7 P (E ++ [x])).1.length ≤ i + 1
    omega
  · show (stl 7 P (E ++ [x])).1.length ≤ 150
    omega
theorem s1_61 {T V : Nat → Nat} {d so i : Nat} {P : List Nat} {E : List (Nat × Nat)} (h60 : T i ≠ 60) (hn : nmN (T i) = 99) (h50 : T i ≠ 50) (h41 : T i ≠ 41) (h21 : T i ≠ 21) (h23 : ¬ (T i = 23 ∧ mkK d P = 41 ∧ hdA P = true)) : s1 T V d so (P, E, false, i) = (1, (P, E, false, i)) := by
  rw [s1_b]
  unfold s1b
  rw [if_neg (fun c => h60 c.1), hn, if_neg (by omega), if_neg h60, if_neg (by omega), if_neg h50, if_neg h41, if_neg h21, if_neg h23]
set_option maxHeartbeats 1000000 in
theorem m_beg {L t0 tl i d so : Nat} {tp : Nat → Nat} {P : List Nat} {E : List (Nat × Nat)} {a : Int32} {M : fM} {φ : Int32 → fM → Prop} (ht : t0 + 705 ≤ 2820) (hS : Str L M) (htl : tl ≤ 300) (h : MS t0 tp tl (P, E, false, i) M) (h20 : mI M 70 20 = nI so) (hso : so ≤ 4) (hd : (a = 0 ∧ d = 40) ∨ (a = 1 ∧ d = 41)) (hr : (s1 (TKk tp tl) (TKv tp tl) d so (P, E, false, i)).1 ≠ 9) (hz : ∀ M2, FG (pU t0) M M2 → ((s1 (TKk tp tl) (TKv tp tl) d so (P, E, false, i)).1 = 0 → MS t0 tp tl (s1 (TKk tp tl) (TKv tp tl) d so (P, E, false, i)).2 M2) → ((s1 (TKk tp tl) (TKv tp tl) d so (P, E, false, i)).1 ≠ 0 → TS M2 tp tl i) → φ (nI (s1 (TKk tp tl) (TKv tp tl) d so (P, E, false, i)).1) M2) : w_X11_beginOne 70 a M φ := by
  have hh := h
  obtain ⟨⟨q1, q2, q3, q4, q5, q6⟩, h19, ts, lv, hlen, hpl, hT⟩ := h
  have ts : TS M tp tl i := ts
  have hpl : P.length ≤ 150 := hpl
  have kb : TKk tp tl i ≤ 62 := tkK_b _ _ _
  refine ⟨isO_pt hS (by decide) rfl, ?_⟩
  by_cases z60 : TKk tp tl i = 60
  · refine iF_t (ts.n.mpr z60) ?_
    obtain ⟨n, hn, hnu⟩ := ts.v z60
    rw [hn]
    by_cases hv : TKv tp tl i ≤ 9999
    · have en : n = TKv tp tl i := by
        rcases hnu with c | c
        · exact c.2
        · omega
      refine iF_t ((nIle (b := 9999) (by omega) (by omega)).mpr (by omega)) ⟨isO_pt hS (by decide) rfl, m_nmOf hS ts ?_⟩
      rw [z60, nmR_n rfl]
      refine iF_t (by decide) ⟨isO_pt hS (by decide) rfl, iF_t (ts.n.mpr z60) ⟨isO_pt hS (by decide) rfl, iF_t (ts.n.mpr z60) ⟨isO_pt hS (by decide) rfl, iF_t (ts.n.mpr z60) ?_⟩⟩⟩
      have e : s1 (TKk tp tl) (TKv tp tl) d so (P, E, false, i) = (0, ((stl 7 P (E ++ [(0, TKv tp tl i)])).1, (stl 7 P (E ++ [(0, TKv tp tl i)])).2, true, i + 1)) := by
        rw [s1_b]
        unfold s1b
        rw [if_neg (by omega), z60, show nmN 60 = 99 from rfl, if_neg (by omega), if_pos rfl]
      rw [e] at hz
      exact m_81 (x := (0, TKv tp tl i)) ht hS htl hh (by omega) (by rw [hn, en]) rfl fun M2 f2 m2 => hz M2 f2 (fun _ => m2) fun c => absurd rfl c
    · have en : 10000 ≤ n ∧ n ≤ 1000000 := by
        rcases hnu with c | c
        · omega
        · exact c.2
      have e : s1 (TKk tp tl) (TKv tp tl) d so (P, E, false, i) = (2, (P, E, false, i)) := by
        rw [s1_b]
        unfold s1b
        rw [if_pos ⟨z60, by omega⟩]
      rw [e] at hz
      exact iF_f (fun c => absurd ((nIle (b := 9999) (by omega) (by omega)).mp c) (by omega)) (hz M (FG.rf M) (fun c => absurd c (by decide : ¬ (2 : Nat) = 0)) fun _ => ts)
  · have n1 : ¬ mI M 70 9 = 1 := fun c => z60 (ts.n.mp c)
    refine iF_f n1 ⟨isO_pt hS (by decide) rfl, m_nmOf hS ts ?_⟩
    by_cases zn : nmN (TKk tp tl i) < 99
    · have er : nmR (TKk tp tl i) = nI (nmN (TKk tp tl i)) := if_pos zn
      have n61 : TKk tp tl i ≠ 61 := fun c => by
        rw [c] at zn
        exact absurd zn (by decide)
      rw [er]
      refine iF_f (fun c => absurd ((nIlt (b := 0) (by omega) (by omega)).mp c) (by omega)) ⟨isO_pt hS (by decide) rfl, m_isOf hS h20 hso (by omega) ?_⟩
      by_cases z5 : 6 ≤ nmN (TKk tp tl i) ∧ 2 < so
      · have e : s1 (TKk tp tl) (TKv tp tl) d so (P, E, false, i) = (5, (P, E, false, i)) := by
          rw [s1_b]
          unfold s1b
          rw [if_neg (fun c => z60 c.1), if_pos ⟨zn, z5⟩]
        rw [e] at hz
        rw [if_pos z5]
        exact iF_t rfl (hz M (FG.rf M) (fun c => absurd c (by decide : ¬ (5 : Nat) = 0)) fun _ => ts)
      · have e : s1 (TKk tp tl) (TKv tp tl) d so (P, E, false, i) = (0, ((stl 7 P (E ++ [(1, nmN (TKk tp tl i))])).1, (stl 7 P (E ++ [(1, nmN (TKk tp tl i))])).2, true, i + 1)) := by
          rw [s1_b]
          unfold s1b
          rw [if_neg (fun c => z60 c.1), if_neg (fun c => z5 c.2), if_neg z60, if_pos zn]
        rw [e] at hz
        rw [if_neg z5]
        refine iF_f (by decide) ⟨isO_pt hS (by decide) rfl, iF_f n1 (iF_f (fun c => absurd ((nIlt (b := 0) (by omega) (by omega)).mp c) (by omega)) ⟨isO_pt hS (by decide) rfl, iF_f n1 ⟨isO_pt hS (by decide) rfl, iF_f n1 ?_⟩⟩)⟩
        exact m_81 (x := (1, nmN (TKk tp tl i))) ht hS htl hh n61 rfl rfl fun M2 f2 m2 => hz M2 f2 (fun _ => m2) fun c => absurd rfl c
    · have zn9 : nmN (TKk tp tl i) = 99 := by
        rcases nmN_c kb with e | e | e <;> omega
      rw [nmR_n zn9]
      refine iF_t (by decide) ⟨isO_pt hS (by decide) rfl, iF_f n1 (iF_t (by decide) ?_)⟩
      have opn_o : ∀ (o : Nat) (b : Int32), b = nI o → o ≤ 43 → opn o = 1 → TKk tp tl i ≠ 61 → s1 (TKk tp tl) (TKv tp tl) d so (P, E, false, i) = opb o P E i → w_X11_opensBy 70 b M φ := by
        intro o b hb ho h1 hn e
        rw [e] at hz hr
        exact m_opBy hS htl hh hn hb ho h1 hr hz
      by_cases z50 : TKk tp tl i = 50
      · exact iF_t ((ts.c (s := 50) (by omega) (by omega) rfl).mpr z50) (opn_o 40 _ rfl (by omega) rfl (by omega) (op_opb (Or.inl ⟨z50, rfl⟩)))
      refine iF_f (fun c => z50 ((ts.c (s := 50) (by omega) (by omega) rfl).mp c)) ?_
      by_cases z41 : TKk tp tl i = 41
      · exact iF_t ((ts.c (s := 41) (by omega) (by omega) rfl).mpr z41) (opn_o 3 _ rfl (by omega) rfl (by omega) (op_opb (Or.inr (Or.inl ⟨z41, rfl⟩))))
      refine iF_f (fun c => z41 ((ts.c (s := 41) (by omega) (by omega) rfl).mp c)) ?_
      have j151 : TKk tp tl i ≠ 21 → j_X11_beginOne_151 φ 70 a M := by
        intro z21
        refine wd_23 ⟨isO_pt hS (by decide) rfl, m_isWd hS ts (by omega) rfl (fun z23 => iF_f (by decide) ⟨isO_pt hS (by decide) rfl, m_ahead hS q2 q5 hpl hd ?_⟩) (fun z23 => iF_t rfl ?_)⟩
        · by_cases g : mkK d P = 41 ∧ hdA P = true
          · rw [if_pos g]
            exact iF_f (by decide) ⟨isO_pt hS (by decide) rfl, opn_o 20 _ rfl (by omega) rfl (by omega) (op_opb (Or.inr (Or.inr (Or.inr ⟨z23, rfl, g.1, g.2⟩))))⟩
          · rw [if_neg g]
            have e := s1_61 (T := TKk tp tl) (V := TKv tp tl) (so := so) (E := E) z60 zn9 z50 z41 z21 (fun c => g c.2)
            rw [e] at hz
            exact iF_t rfl (hz M (FG.rf M) (fun c => absurd c (by decide : ¬ (1 : Nat) = 0)) fun _ => ts)
        · have e := s1_61 (T := TKk tp tl) (V := TKv tp tl) (so := so) (E := E) (P := P) (d := d) z60 zn9 z50 z41 z21 (fun c => z23 c.1)
          rw [e] at hz
          exact hz M (FG.rf M) (fun c => absurd c (by decide : ¬ (1 : Nat) = 0)) fun _ => ts
      by_cases h2 : mI M 70 9 = 2
      · refine iF_t h2 ?_
        rw [show (26982 : Int64) = jN (pkW 21) by decide +kernel]
        by_cases z21 : TKk tp tl i = 21
        · exact iF_t ((m_wdN ts (by omega) h2).mpr z21) (opn_o 41 _ rfl (by omega) rfl (by omega) (op_opb (Or.inr (Or.inr (Or.inl ⟨z21, rfl⟩)))))
        · exact iF_f (fun c => z21 ((m_wdN ts (by omega) h2).mp c)) (j151 z21)
      · have := ts.w.2 h2
        exact iF_f h2 (j151 (by omega))
