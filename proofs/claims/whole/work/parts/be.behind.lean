theorem rk_1 {o : Nat} (h : o < 40) : 1 ≤ rk o := by
  unfold rk
  rw [if_neg (by omega)]
  repeat' split
  all_goals omega
theorem bwO_v {d t : Nat} {P : List Nat} (h : bwO d t P < 99) : (4 ≤ bwO d t P ∧ bwO d t P ≤ 7) ∨ (10 ≤ bwO d t P ∧ bwO d t P ≤ 15) ∨ bwO d t P = 21 ∨ bwO d t P = 22 := by
  revert h
  unfold bwO
  repeat' split
  all_goals omega
def bwR (d t : Nat) (P : List Nat) : Int32 := if bwO d t P < 99 then nI (bwO d t P) else -1
theorem bwR_i {d t o : Nat} {P : List Nat} (h : bwO d t P = o) (ho : o < 99) : bwR d t P = nI o := by
  unfold bwR
  rw [h, if_pos ho]
theorem bwR_n {d t : Nat} {P : List Nat} (h : bwO d t P = 99) : bwR d t P = -1 := by
  unfold bwR
  rw [h]
  rfl
theorem m_cmpOf {L tl i : Nat} {tp : Nat → Nat} {M : fM} {φ : Int32 → fM → Prop} (hS : Str L M) (ts : TS M tp tl i) (h : φ (if 44 ≤ TKk tp tl i ∧ TKk tp tl i ≤ 49 then nI (TKk tp tl i - 34) else -1) M) : w_X11_compareOf 70 M φ := by
  refine ⟨isO_pt hS (by decide) rfl, ?_⟩
  by_cases z44 : TKk tp tl i = 44
  · rw [z44] at h
    exact iF_t ((ts.c (s := 44) (by omega) (by omega) rfl).mpr z44) h
  refine iF_f (fun c => z44 ((ts.c (s := 44) (by omega) (by omega) rfl).mp c)) ?_
  by_cases z45 : TKk tp tl i = 45
  · rw [z45] at h
    exact iF_t ((ts.c (s := 45) (by omega) (by omega) rfl).mpr z45) h
  refine iF_f (fun c => z45 ((ts.c (s := 45) (by omega) (by omega) rfl).mp c)) ?_
  by_cases z46 : TKk tp tl i = 46
  · rw [z46] at h
    exact iF_t ((ts.c (s := 46) (by omega) (by omega) rfl).mpr z46) h
  refine iF_f (fun c => z46 ((ts.c (s := 46) (by omega) (by omega) rfl).mp c)) ?_
  by_cases z47 : TKk tp tl i = 47
  · rw [z47] at h
    exact iF_t ((ts.c (s := 47) (by omega) (by omega) rfl).mpr z47) h
  refine iF_f (fun c => z47 ((ts.c (s := 47) (by omega) (by omega) rfl).mp c)) ?_
  by_cases z48 : TKk tp tl i = 48
  · rw [z48] at h
    exact iF_t ((ts.c (s := 48) (by omega) (by omega) rfl).mpr z48) h
  refine iF_f (fun c => z48 ((ts.c (s := 48) (by omega) (by omega) rfl).mp c)) ?_
  by_cases z49 : TKk tp tl i = 49
  · rw [z49] at h
    exact iF_t ((ts.c (s := 49) (by omega) (by omega) rfl).mpr z49) h
  rw [if_neg (by omega)] at h
  exact iF_f (fun c => z49 ((ts.c (s := 49) (by omega) (by omega) rfl).mp c)) h
theorem m_btw {L tl i d : Nat} {tp : Nat → Nat} {P : List Nat} {a : Int32} {M : fM} {φ : Int32 → fM → Prop} (hS : Str L M) (ts : TS M tp tl i) (h17 : mI M 70 17 = nI P.length) (hp : Pil M P) (hl : P.length ≤ 150) (hd : (a = 0 ∧ d = 40) ∨ (a = 1 ∧ d = 41)) (h : φ (bwR d (TKk tp tl i) P) M) : w_X11_betweenOf 70 a M φ := by
  have kl := mkK_l (d := d) hp (by omega)
  have kb : TKk tp tl i ≤ 62 := tkK_b _ _ _
  refine ⟨isO_pt hS (by decide) rfl, ?_⟩
  by_cases z40 : TKk tp tl i = 40
  · rw [z40] at h
    exact iF_t ((ts.c (s := 40) (by omega) (by omega) rfl).mpr z40) h
  refine iF_f (fun c => z40 ((ts.c (s := 40) (by omega) (by omega) rfl).mp c)) ?_
  by_cases z41 : TKk tp tl i = 41
  · rw [z41] at h
    exact iF_t ((ts.c (s := 41) (by omega) (by omega) rfl).mpr z41) h
  refine iF_f (fun c => z41 ((ts.c (s := 41) (by omega) (by omega) rfl).mp c)) ?_
  by_cases z42 : TKk tp tl i = 42
  · rw [z42] at h
    exact iF_t ((ts.c (s := 42) (by omega) (by omega) rfl).mpr z42) h
  refine iF_f (fun c => z42 ((ts.c (s := 42) (by omega) (by omega) rfl).mp c)) ?_
  by_cases z43 : TKk tp tl i = 43
  · rw [z43] at h
    exact iF_t ((ts.c (s := 43) (by omega) (by omega) rfl).mpr z43) h
  refine iF_f (fun c => z43 ((ts.c (s := 43) (by omega) (by omega) rfl).mp c)) (m_kind hS h17 hp hl hd ?_)
  by_cases mk : mkK d P = 41
  · refine iF_t (by rw [mk]; rfl) ⟨isO_pt hS (by decide) rfl, m_cmpd hS h17 hp hl ?_⟩
    by_cases cm : cmpd P = true
    · rw [if_pos cm]
      refine iF_f (by decide) (wd_25 ⟨isO_pt hS (by decide) rfl, m_isWd hS ts (by omega) rfl (fun z => iF_f (by decide) ?_) (fun z => iF_t rfl ⟨isO_pt hS (by decide) rfl, ?_⟩)⟩)
      · rw [bwR_i (o := 21) (by unfold bwO; rw [if_neg z40, if_neg z41, if_neg z42, if_neg z43, if_pos mk, if_pos cm, if_pos z]) (by omega)] at h
        exact h
      · have n24 : TKk tp tl i ≠ 24 → φ (-1) M := by
          intro z2
          rw [bwR_n (by unfold bwO; rw [if_neg z40, if_neg z41, if_neg z42, if_neg z43, if_pos mk, if_pos cm, if_neg z, if_neg z2])] at h
          exact h
        by_cases h2 : mI M 70 9 = 2
        · refine iF_t h2 ?_
          rw [show (28530 : Int64) = jN (pkW 24) by decide +kernel]
          by_cases z2 : TKk tp tl i = 24
          · rw [bwR_i (o := 22) (by unfold bwO; rw [if_neg z40, if_neg z41, if_neg z42, if_neg z43, if_pos mk, if_pos cm, if_neg z, if_pos z2]) (by omega)] at h
            exact iF_t ((m_wdN ts (by omega) h2).mpr z2) h
          · exact iF_f (fun c => z2 ((m_wdN ts (by omega) h2).mp c)) (n24 z2)
        · have := ts.w.2 h2
          exact iF_f h2 (n24 (by omega))
    · rw [if_neg cm]
      refine iF_t rfl ⟨isO_pt hS (by decide) rfl, m_cmpOf hS ts ?_⟩
      by_cases z : 44 ≤ TKk tp tl i ∧ TKk tp tl i ≤ 49
      · rw [bwR_i (o := TKk tp tl i - 34) (by unfold bwO; rw [if_neg z40, if_neg z41, if_neg z42, if_neg z43, if_pos mk, if_neg cm, if_pos z]) (by omega)] at h
        rw [if_pos z]
        exact h
      · rw [bwR_n (by unfold bwO; rw [if_neg z40, if_neg z41, if_neg z42, if_neg z43, if_pos mk, if_neg cm, if_neg z])] at h
        rw [if_neg z]
        exact h
  · rw [bwR_n (by unfold bwO; rw [if_neg z40, if_neg z41, if_neg z42, if_neg z43, if_neg mk])] at h
    exact iF_f (fun c => mk (nI_inj (b := 41) (by omega) (by omega) c)) h
theorem m_200 {L t0 tl i : Nat} {tp : Nat → Nat} {P : List Nat} {E : List (Nat × Nat)} {b : Bool} {M : fM} {φ : Int32 → fM → Prop} (hS : Str L M) (htl : tl ≤ 300) (hp : PM t0 P E M) (h19 : mI M 70 19 = if b = true then 1 else 0) (ts : TS M tp tl i) (lv : lvT tp tl i) (hn : TKk tp tl i ≠ 61) (hT : TpM M tl tp) (h1 : E.length + P.length ≤ i + 1) (h2 : P.length ≤ 150) (hz : ∀ M2, FG pN M M2 → MS t0 tp tl (P, E, b, i + 1) M2 → φ 1 M2) : j_X11_behindOne_200 φ 70 M :=
  ⟨isO_pt hS (by decide) rfl, m_nextS hS hT htl lv hn ts fun M2 f2 t2 => hz M2 f2 ⟨hp.g f2, (f2.2.1 70 19 (by unfold pN; omega)).trans h19, t2, lvT_s lv hn, h1, h2, hT.g f2⟩⟩
theorem mkI_n {P : List Nat} (h : mkK 99 P ≠ 99) : mkI P ≠ 0 := fun c => h (mkI_0 c)
theorem opn_k {o : Nat} (h : 40 ≤ o) : opn o = 1 := if_pos (Or.inl h)
theorem m_91 {L t0 tl i k : Nat} {tp : Nat → Nat} {P : List Nat} {E : List (Nat × Nat)} {s0 : Int32} {M : fM} {φ : Int32 → fM → Prop} (ht : t0 + 705 ≤ 2820) (hS : Str L M) (htl : tl ≤ 300) (h : MS t0 tp tl (P, E, true, i) M) (hn : TKk tp tl i ≠ 61) (hk : mkK 99 P = k) (hk2 : 40 ≤ k) (hk3 : k ≤ 43) (hs : s0 = nI k) (hz : ∀ M2, FG (pU t0) M M2 → MS t0 tp tl ((clz P E k).1, (clz P E k).2, true, i + 1) M2 → φ 1 M2) : j_X11_behindOne_91 φ 70 s0 M := by
  obtain ⟨hl1, hl2, hl3⟩ := h.len
  obtain ⟨hp, h19, ts, lv, -, -, hT⟩ := h
  have ts : TS M tp tl i := ts
  have lv : lvT tp tl i := lv
  have hi : i < tl := lvT_t (i := i) lv hn
  subst hs
  obtain ⟨R, E2, es, er⟩ := mkI_k (mkI_n (by omega)) (show mkK 99 P ≠ 99 by omega) E
  have sl := stl_len (l := 1) P E
  refine ⟨isO_pt hS (by decide) rfl, m_settle (l := 1) ht rfl (by omega) (by omega) hS hp (by show E.length + P.length ≤ 300; omega) hl2 fun M1 f1 n1 p1 => ?_⟩
  have p1 : PM t0 (stl 1 P E).1 (stl 1 P E).2 M1 := p1
  rw [es, hk] at p1
  rw [es, hk] at sl
  have sl1 : E2.length + (R.length + 1) = E.length + P.length := sl.1
  have sl2 : R.length + 1 ≤ P.length := sl.2
  have hS1 := f1.S hS
  obtain ⟨q1, q2, q3, q4, ⟨q5, q50, q51⟩, q6⟩ := p1
  have q2 : mI M1 70 17 = nI (R.length + 1) := q2
  have q3 : mI M1 70 18 = nI (opn k + cnO R) := q3
  refine ⟨isO_pt hS1 (by decide) rfl, nm_of (st_of (nm_of (st_of ?_)))⟩
  rw [q2, nI_s1, show mI (wI M1 70 17 (nI R.length)) 70 18 = nI (opn k + cnO R) from (mI_n (by omega)).trans q3, opn_k hk2, Nat.add_comm 1, nI_s1]
  have f2 : FrX (pT t0) M1 (wI (wI M1 70 17 (nI R.length)) 70 18 (nI (cnO R))) := (FrX.w (Or.inl ⟨rfl, by omega⟩)).tr (FrX.w (Or.inl ⟨rfl, by omega⟩))
  have p2 : PM t0 R E2 (wI (wI M1 70 17 (nI R.length)) 70 18 (nI (cnO R))) := ⟨(mI_n (by omega)).trans ((mI_n (by omega)).trans q1), (mI_n (by omega)).trans (mI_s rfl rfl), mI_s rfl rfl, (mI_n (by omega)).trans ((mI_n (by omega)).trans q4), q51.cg fun _ _ => (mI_n (by omega)).trans (mI_n (by omega)), fun j x hx => ⟨(mI_n (by omega)).trans ((mI_n (by omega)).trans (q6 j x hx).1), (mI_n (by omega)).trans ((mI_n (by omega)).trans (q6 j x hx).2)⟩⟩
  generalize wI (wI M1 70 17 (nI R.length)) 70 18 (nI (cnO R)) = M2 at f2 p2 ⊢
  have f02 := f1.tr f2
  have hS2 := f2.S hS1
  have ec : clz P E k = stl 7 R (if k = 43 then E2 ++ [(2, 0)] else E2) := by
    unfold clz
    rw [es]
    rfl
  rw [ec] at hz
  have j129 : ∀ (E3 : List (Nat × Nat)) (M3 : fM), FrX (pT t0) M M3 → PM t0 R E3 M3 → E3.length + R.length ≤ i → stl 7 R (if k = 43 then E2 ++ [(2, 0)] else E2) = stl 7 R E3 → j_X11_behindOne_129 φ 70 M3 := by
    intro E3 M3 f3 p3 l3 e3
    rw [e3] at hz
    have s7 := stl_len (l := 7) R E3
    refine ⟨isO_pt (f3.S hS) (by decide) rfl, m_whole ht (f3.S hS) p3 (by omega) (by omega) fun M4 f4 n4 p4 => ?_⟩
    have f04 := f3.tr f4
    exact m_200 (b := true) (f04.S hS) htl p4 n4 (ts.x f04) lv hn (hT.x f04) (by omega) (by omega) fun M5 f5 m5 => hz M5 ((FG.tU f04).tr f5.nU) m5
  by_cases e : k = 43
  · refine iF_t (by rw [e]; rfl) ?_
    obtain ⟨q1, q2, q3, q4, q5, q6⟩ := p2
    have el : (E2 ++ [(2, 0)]).length = E2.length + 1 := by
      rw [List.length_append]
      rfl
    refine m_emit (x := (2, 0)) hS2 ht q1 q4 q6 (by omega) rfl rfl fun M3 f3 e14 eE => j129 (E2 ++ [(2, 0)]) M3 (f02.tr f3.eT) ⟨(f3.2 70 12 (by unfold pE; omega)).trans q1, (f3.2 70 17 (by unfold pE; omega)).trans q2, (f3.2 70 18 (by unfold pE; omega)).trans q3, ?_, q5.cg fun _ _ => f3.2 75 _ (by unfold pE; omega), eE⟩ (by omega) ?_
    · rw [el]
      exact e14
    · rw [if_pos e]
  · exact iF_f (fun c => e (nI_inj (b := 43) (by omega) (by omega) c)) (j129 E2 M2 f02 p2 (by omega) (by rw [if_neg e]))
theorem m_175 {L t0 tl i k : Nat} {tp : Nat → Nat} {P : List Nat} {E : List (Nat × Nat)} {p3 s0 : Int32} {M : fM} {φ : Int32 → fM → Prop} (ht : t0 + 705 ≤ 2820) (hS : Str L M) (htl : tl ≤ 300) (h : MS t0 tp tl (P, E, true, i) M) (hn : TKk tp tl i ≠ 61) (hk : mkK 99 P = k) (hk2 : 40 ≤ k) (hk3 : k < 43) (hs : s0 = nI k) (hp3 : p3 = nI (mkI P - 1)) (hz : ∀ M2, FG (pU t0) M M2 → MS t0 tp tl ((k + 1) :: (stl 1 P E).1.tail, (stl 1 P E).2, false, i + 1) M2 → φ 1 M2) : j_X11_behindOne_175 φ 70 p3 s0 M := by
  obtain ⟨hl1, hl2, hl3⟩ := h.len
  obtain ⟨hp, h19, ts, lv, -, -, hT⟩ := h
  have ts : TS M tp tl i := ts
  have lv : lvT tp tl i := lv
  have hi : i < tl := lvT_t (i := i) lv hn
  subst hs hp3
  obtain ⟨R, E2, es, er⟩ := mkI_k (mkI_n (by omega)) (show mkK 99 P ≠ 99 by omega) E
  have sl := stl_len (l := 1) P E
  refine ⟨isO_pt hS (by decide) rfl, m_settle (l := 1) ht rfl (by omega) (by omega) hS hp (by show E.length + P.length ≤ 300; omega) hl2 fun M1 f1 n1 p1 => ?_⟩
  have p1 : PM t0 (stl 1 P E).1 (stl 1 P E).2 M1 := p1
  rw [es, hk] at p1
  rw [es, hk] at sl
  rw [es] at hz
  have sl1 : E2.length + (R.length + 1) = E.length + P.length := sl.1
  have sl2 : R.length + 1 ≤ P.length := sl.2
  have hS1 := f1.S hS
  obtain ⟨q1, q2, q3, q4, ⟨q5, q50, q51⟩, q6⟩ := p1
  have q2 : mI M1 70 17 = nI (R.length + 1) := q2
  have q3 : mI M1 70 18 = nI (opn k + cnO R) := q3
  refine ⟨isO_pt hS1 (by decide) rfl, dR_of (Str.pg hS1 rfl) (nm_of ⟨by omega, ?_⟩)⟩
  rw [← er, ix_nI (by omega), show nI k + (1 : Int32) = nI (k + 1) from nI_add _ 1]
  refine ⟨inA_pt hS1 rfl (vp_nI (by omega) (by decide)), st_of (st_of ?_)⟩
  have f2 : FrX (pT t0) M1 (wI (wI M1 75 R.length (nI (k + 1))) 70 19 (0 : Int32)) := (FrX.w (Or.inr (Or.inr rfl))).tr (FrX.w (Or.inl ⟨rfl, by omega⟩))
  have p2 : PM t0 ((k + 1) :: R) E2 (wI (wI M1 75 R.length (nI (k + 1))) 70 19 (0 : Int32)) := by
    refine ⟨(mI_n (by omega)).trans ((mI_n (by omega)).trans q1), (mI_n (by omega)).trans ((mI_n (by omega)).trans q2), ?_, (mI_n (by omega)).trans ((mI_n (by omega)).trans q4), ⟨(mI_n (by omega)).trans (mI_s rfl rfl), by omega, q51.cg fun _ hk => (mI_n (by omega)).trans (mI_n (by omega))⟩, fun j x hx => ⟨(mI_n (by omega)).trans ((mI_n (by omega)).trans (q6 j x hx).1), (mI_n (by omega)).trans ((mI_n (by omega)).trans (q6 j x hx).2)⟩⟩
    rw [mI_n (by omega), mI_n (by omega), q3]
    show nI (opn k + cnO R) = nI (opn (k + 1) + cnO R)
    rw [opn_k hk2, opn_k (by omega)]
  have h19 : mI (wI (wI M1 75 R.length (nI (k + 1))) 70 19 (0 : Int32)) 70 19 = 0 := mI_s rfl rfl
  generalize wI (wI M1 75 R.length (nI (k + 1))) 70 19 (0 : Int32) = M2 at f2 p2 h19 ⊢
  have f02 := f1.tr f2
  exact m_200 (b := false) (f02.S hS) htl p2 h19 (ts.x f02) lv hn (hT.x f02) (by show E2.length + (R.length + 1) ≤ i + 1; omega) (by show R.length + 1 ≤ 150; omega) fun M3 f3 m3 => hz M3 ((FG.tU f02).tr f3.nU) m3
