theorem bwO_le (d t : Nat) (P : List Nat) : bwO d t P ≤ 99 := by
  unfold bwO
  repeat' split
  all_goals omega
theorem bwO_61 (d : Nat) (P : List Nat) : bwO d 61 P = 99 := by
  unfold bwO
  repeat' split
  all_goals omega
theorem nI_m1n {k : Nat} (h : k ≤ 43) : ¬ (-1 : Int32) = nI k := fun c => by
  have q : nI k < nI 0 := by
    rw [← c]
    decide
  exact absurd ((nIlt (by omega) (by omega)).mp q) (by omega)
set_option maxHeartbeats 1000000 in
theorem m_bhd {L t0 tl i d so : Nat} {tp : Nat → Nat} {P : List Nat} {E : List (Nat × Nat)} {a : Int32} {M : fM} {φ : Int32 → fM → Prop} (ht : t0 + 705 ≤ 2820) (hS : Str L M) (htl : tl ≤ 300) (h : MS t0 tp tl (P, E, true, i) M) (hd : (a = 0 ∧ d = 40) ∨ (a = 1 ∧ d = 41)) (hr : (s1 (TKk tp tl) (TKv tp tl) d so (P, E, true, i)).1 ≠ 9) (hz : ∀ M2, FG (pU t0) M M2 → MS t0 tp tl (s1 (TKk tp tl) (TKv tp tl) d so (P, E, true, i)).2 M2 → φ (if (s1 (TKk tp tl) (TKv tp tl) d so (P, E, true, i)).1 = 0 then 1 else 0) M2) : w_X11_behindOne 70 a M φ := by
  have hh := h
  obtain ⟨hl1, hl2, hl3⟩ := h.len
  obtain ⟨hp, h19, ts, lv, -, -, hT⟩ := h
  have ts : TS M tp tl i := ts
  have lv : lvT tp tl i := lv
  have hp : PM t0 P E M := hp
  have hp0 := hp
  obtain ⟨q1, q2, q3, q4, q5, q6⟩ := hp
  have kb : TKk tp tl i ≤ 62 := tkK_b _ _ _
  refine ⟨isO_pt hS (by decide) rfl, m_btw hS ts q2 q5 hl2 hd ⟨isO_pt hS (by decide) rfl, m_mkr hS q2 q5 hl2 ?_⟩⟩
  have j25 : ∀ p3 s0, (∀ k, 40 ≤ k → k ≤ 43 → (s0 = nI k ↔ mkK 99 P = k)) → (mkK 99 P ≠ 99 → p3 = nI (mkI P - 1)) → j_X11_behindOne_25 φ 70 (bwR d (TKk tp tl i) P) p3 s0 M := by
    intro p3 s0 hs hs2
    by_cases hb : bwO d (TKk tp tl i) P < 99
    · have hn : TKk tp tl i ≠ 61 := fun c => by
        rw [c, bwO_61] at hb
        omega
      have hv := bwO_v hb
      rw [bwR_i rfl hb]
      generalize ho : bwO d (TKk tp tl i) P = o at hb hv ⊢
      have o39 : o < 40 := by omega
      have opo : opn o = 0 := by
        unfold opn
        rw [if_neg (by omega)]
      have sl := stl_len (l := rk o) P E
      have hlt : (stl (rk o) P E).1.length < 150 := by
        rcases Nat.lt_or_ge (stl (rk o) P E).1.length 150 with l | l
        · exact l
        · refine absurd ?_ hr
          rw [s1_w]
          unfold s1w
          rw [ho, if_pos hb, if_pos l]
      have e : s1 (TKk tp tl) (TKv tp tl) d so (P, E, true, i) = (0, (o :: (stl (rk o) P E).1, (stl (rk o) P E).2, false, i + 1)) := by
        rw [s1_w]
        unfold s1w
        rw [ho, if_pos hb, if_neg (by omega)]
      rw [e] at hz
      have hi : i < tl := lvT_t (i := i) lv hn
      refine iF_f (fun c => absurd ((nIlt (b := 0) (by omega) (by omega)).mp c) (by omega)) (m_rank (by omega) ⟨isO_pt hS (by decide) rfl, m_settle (l := rk o) ht rfl (rk_1 o39) (rk_7 o) hS hp0 (by omega) hl2 fun M1 f1 n1 p1 => ?_⟩)
      have hS1 := f1.S hS
      refine ⟨isO_pt hS1 (by decide) rfl, m_push (t0 := t0) hS1 p1.2.1 p1.2.2.2.2.1 hlt rfl (by omega) fun M2 f2 c2 g17 gP => ⟨isO_pt (f2.S hS1) (by decide) rfl, st_of ?_⟩⟩
      have f3 : FrX (pT t0) M2 (wI M2 70 19 (0 : Int32)) := FrX.w (Or.inl ⟨rfl, by omega⟩)
      have f03 := (f1.tr f2).tr f3
      have p3 : PM t0 (o :: (stl (rk o) P E).1) (stl (rk o) P E).2 (wI M2 70 19 (0 : Int32)) := by
        refine ⟨(mI_n (by omega)).trans ((c2 70 12 (by omega) (by omega)).trans p1.1), (mI_n (by omega)).trans g17, ?_, (mI_n (by omega)).trans ((c2 70 14 (by omega) (by omega)).trans p1.2.2.2.1), gP.cg fun k _ => mI_n (by omega), fun j x hx => ?_⟩
        · rw [mI_n (by omega), c2 70 18 (by omega) (by omega), p1.2.2.1]
          show nI (cnO (stl (rk o) P E).1) = nI (opn o + cnO (stl (rk o) P E).1)
          rw [opo, Nat.zero_add]
        · rw [mI_n (by omega), mI_n (by omega), c2 73 _ (by omega) (by omega), c2 73 _ (by omega) (by omega)]
          exact p1.2.2.2.2.2 j x hx
      refine m_200 (b := false) (f03.S hS) htl p3 (mI_s rfl rfl) (ts.x f03) lv hn (hT.x f03) ?_ ?_ fun M4 f4 m4 => hz M4 ((FG.tU f03).tr f4.nU) m4
      · show (stl (rk o) P E).2.length + ((stl (rk o) P E).1.length + 1) ≤ i + 1
        omega
      · show (stl (rk o) P E).1.length + 1 ≤ 150
        omega
    · have hb9 : bwO d (TKk tp tl i) P = 99 := by
        have := bwO_le d (TKk tp tl i) P
        omega
      rw [bwR_n hb9]
      have fin7 : ¬ ((TKk tp tl i = 51 ∧ mkK 99 P = 40) ∨ (TKk tp tl i = 22 ∧ mkK 99 P = 43)) → ¬ ((TKk tp tl i = 53 ∧ mkK 99 P = 41 ∧ cmpd P = true) ∨ (TKk tp tl i = 54 ∧ mkK 99 P = 42)) → φ 0 M := by
        intro a1 a2
        have e : s1 (TKk tp tl) (TKv tp tl) d so (P, E, true, i) = (7, (P, E, true, i)) := by
          rw [s1_w]
          unfold s1w
          rw [hb9, if_neg (by omega), if_neg a1, if_neg a2]
        rw [e] at hz
        exact hz M (FG.rf M) hh
      have do91 : ∀ k, ((TKk tp tl i = 51 ∧ k = 40) ∨ (TKk tp tl i = 22 ∧ k = 43)) → mkK 99 P = k → j_X11_behindOne_91 φ 70 s0 M := by
        intro k hk hm
        have e : s1 (TKk tp tl) (TKv tp tl) d so (P, E, true, i) = (0, ((clz P E k).1, (clz P E k).2, true, i + 1)) := by
          rw [s1_w]
          unfold s1w
          rw [hb9, if_neg (by omega), hm, if_pos (by omega)]
        rw [e] at hz
        exact m_91 ht hS htl hh (by omega) hm (by omega) (by omega) ((hs k (by omega) (by omega)).mpr hm) fun M2 f2 m2 => hz M2 f2 m2
      have do175 : ∀ k, ((TKk tp tl i = 53 ∧ k = 41 ∧ cmpd P = true) ∨ (TKk tp tl i = 54 ∧ k = 42)) → mkK 99 P = k → j_X11_behindOne_175 φ 70 p3 s0 M := by
        intro k hk hm
        have e : s1 (TKk tp tl) (TKv tp tl) d so (P, E, true, i) = (0, ((k + 1) :: (stl 1 P E).1.tail, (stl 1 P E).2, false, i + 1)) := by
          rw [s1_w]
          unfold s1w
          rw [hb9, if_neg (by omega), hm, if_neg (by omega), if_pos hk]
        rw [e] at hz
        exact m_175 ht hS htl hh (by omega) hm (by omega) (by omega) ((hs k (by omega) (by omega)).mpr hm) (hs2 (by omega)) fun M2 f2 m2 => hz M2 f2 m2
      have j159 : ¬ ((TKk tp tl i = 51 ∧ mkK 99 P = 40) ∨ (TKk tp tl i = 22 ∧ mkK 99 P = 43)) → ¬ (TKk tp tl i = 53 ∧ mkK 99 P = 41 ∧ cmpd P = true) → j_X11_behindOne_159 φ 70 p3 s0 M := by
        intro a1 a2
        refine ⟨isO_pt hS (by decide) rfl, ?_⟩
        by_cases z : TKk tp tl i = 54
        · refine iF_t ((ts.c (s := 54) (by omega) (by omega) rfl).mpr z) ?_
          by_cases y : mkK 99 P = 42
          · exact iF_t ((hs 42 (by omega) (by omega)).mpr y) (do175 42 (Or.inr ⟨z, rfl⟩) y)
          · exact iF_f (fun c => y ((hs 42 (by omega) (by omega)).mp c)) (fin7 a1 (by omega))
        · exact iF_f (fun c => z ((ts.c (s := 54) (by omega) (by omega) rfl).mp c)) (fin7 a1 (by rintro (c | c); exact a2 c; exact z c.1))
      have j136 : ¬ ((TKk tp tl i = 51 ∧ mkK 99 P = 40) ∨ (TKk tp tl i = 22 ∧ mkK 99 P = 43)) → j_X11_behindOne_136 φ 70 p3 s0 M := by
        intro a1
        refine ⟨isO_pt hS (by decide) rfl, ?_⟩
        by_cases z : TKk tp tl i = 53
        · refine iF_t ((ts.c (s := 53) (by omega) (by omega) rfl).mpr z) ?_
          by_cases y : mkK 99 P = 41
          · refine iF_t ((hs 41 (by omega) (by omega)).mpr y) (m_cmpd hS q2 q5 hl2 ?_)
            by_cases w : cmpd P = true
            · rw [if_pos w]
              exact iF_f (by decide) (do175 41 (Or.inl ⟨z, rfl, w⟩) y)
            · rw [if_neg w]
              exact iF_t rfl (j159 a1 fun c => w c.2.2)
          · exact iF_f (fun c => y ((hs 41 (by omega) (by omega)).mp c)) (j159 a1 fun c => y c.2.1)
        · exact iF_f (fun c => z ((ts.c (s := 53) (by omega) (by omega) rfl).mp c)) (j159 a1 fun c => z c.1)
      have j68 : ¬ (TKk tp tl i = 51 ∧ mkK 99 P = 40) → j_X11_behindOne_68 φ 70 p3 s0 M := by
        intro a1
        refine wd_22 ⟨isO_pt hS (by decide) rfl, m_isWd hS ts (by omega) rfl (fun z => iF_f (by decide) ?_) (fun z => iF_t rfl (j136 (by rintro (c | c); exact a1 c; exact z c.1)))⟩
        by_cases y : mkK 99 P = 43
        · exact iF_t ((hs 43 (by omega) (by omega)).mpr y) (do91 43 (Or.inr ⟨z, rfl⟩) y)
        · exact iF_f (fun c => y ((hs 43 (by omega) (by omega)).mp c)) (j136 (by rintro (c | c); exact a1 c; exact y c.2))
      refine iF_t (by decide) ⟨isO_pt hS (by decide) rfl, ?_⟩
      by_cases z : TKk tp tl i = 51
      · refine iF_t ((ts.c (s := 51) (by omega) (by omega) rfl).mpr z) ?_
        by_cases y : mkK 99 P = 40
        · exact iF_t ((hs 40 (by omega) (by omega)).mpr y) (do91 40 (Or.inl ⟨z, rfl⟩) y)
        · exact iF_f (fun c => y ((hs 40 (by omega) (by omega)).mp c)) (j68 fun c => y c.2)
      · exact iF_f (fun c => z ((ts.c (s := 51) (by omega) (by omega) rfl).mp c)) (j68 fun c => z c.1)
  by_cases e : mkI P = 0
  · rw [e]
    have e9 : mkK 99 P = 99 := mkI_0 e
    exact iF_f (by decide) (j25 _ _ (fun k a b => ⟨fun c => absurd c (nI_m1n b), fun c => by omega⟩) fun c => absurd e9 c)
  · have := mkI_le P
    have mp := mkI_p (d := 99) q5 e
    rw [nI_m1 e]
    refine iF_t ((nIle (a := 0) (by omega) (by omega)).mpr (Nat.zero_le _)) ⟨isO_pt hS (by decide) rfl, dR_of (Str.pg hS rfl) ⟨inA_pt hS rfl (vp_nI (by omega) (by decide)), ?_⟩⟩
    rw [ix_nI (by omega), mp.1]
    exact j25 _ _ (fun k a b => ⟨fun c => nI_inj (by omega) (by omega) c, fun c => by rw [c]⟩) fun _ => rfl
