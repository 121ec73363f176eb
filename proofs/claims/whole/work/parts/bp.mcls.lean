/-! ===== TEXT: the model's CLAUSE, whole ===== -/
theorem McA.sn {M M2 : fM} {t0 : Nat} {CL : List Cl} {c : Cl} (h : McA M t0 CL) (hf : ∀ k, t0 < k → k < t0 + 1 + 4 * CL.length → mI M2 73 k = mI M 73 k) (h1 : mI M2 73 (t0 + 1 + 4 * CL.length) = nI c.1) (h2 : c.1 < 5 → mI M2 73 (t0 + 3 + 4 * CL.length) = nI (c.2 1) ∧ mI M2 73 (t0 + 4 + 4 * CL.length) = nI (c.2 2)) (h3 : 5 ≤ c.1 → ∀ j, j < arN c.1 → mI M2 73 (t0 + 2 + 4 * CL.length + j) = nI (c.2 j)) : McA M2 t0 (CL ++ [c]) := by
  intro k x hk
  rcases get_snoc hk with ⟨l1, g1⟩ | ⟨l1, g1⟩
  · obtain ⟨a1, a2, a3⟩ := h k x g1
    refine ⟨?_, fun lt => ?_, fun ge q hq => ?_⟩
    · rw [hf _ (by omega) (by omega)]
      exact a1
    · rw [hf _ (by omega) (by omega), hf _ (by omega) (by omega)]
      exact a2 lt
    · have an : arN x.1 ≤ 3 := by
        unfold arN
        repeat' split
        all_goals omega
      rw [hf _ (by omega) (by omega)]
      exact a3 ge q hq
  · subst g1 l1
    exact ⟨h1, h2, h3⟩
def clB (V : Nat → Nat) (E em : List (Nat × Nat)) (so i : Nat) : Cl := (so, clF V E.length (E ++ em).length so i)
def BR (M M2 : fM) (t0 : Nat) (tp : Nat → Nat) (tl : Nat) (CL : List Cl) (E em : List (Nat × Nat)) (so i j : Nat) : Prop := FG (pV t0) M M2 ∧ TQ M2 tp tl j ∧ mI M2 70 12 = nI t0 ∧ mI M2 70 13 = nI CL.length ∧ mI M2 70 14 = nI (E ++ em).length ∧ mI M2 70 18 = 0 ∧ Bts M2 (fun s => (∃ c ∈ CL, c.1 = s) ∨ s = so) ∧ Cds M2 t0 (E ++ em) ∧ McA M2 t0 (CL ++ [clB (TKv tp tl) E em so i])
theorem FG.gV {t0 x : Nat} {M M2 : fM} (h1 : t0 ≤ x) (h2 : x + 4 ≤ t0 + 705) (f : FG (pG (x + 1) 3) M M2) : FG (pV t0) M M2 := f.mn fun r k h => by
  unfold pG pN at h
  unfold pV
  omega
theorem m_bdK1 {L t0 tl so i j : Nat} {tp : Nat → Nat} {CL : List Cl} {E : List (Nat × Nat)} {M : fM} {φ : Int32 → fM → Prop} (ht : t0 + 705 ≤ 2820) (hS : Str L M) (htl : tl ≤ 300) (mb : MB M t0 tp tl CL E so i) (hl : CL.length < 24) (h5 : 5 ≤ so) (h16 : so ≤ 16) (hd : ddN (TKk tp tl) (TKv tp tl) (shD so) i = (0, j)) (hz : ∀ M2, BR M M2 t0 tp tl CL E [] so i j → φ 0 M2) : w_X11_body 70 (nI so) (nI (t0 + 1 + 4 * CL.length)) M φ := by
  obtain ⟨tq, q12, q13, q14, q18, q20, ⟨b, b32, q15, qb⟩, qc, qm, qx⟩ := mb
  refine m_bdyD hS htl (by omega) tq h5 h16 ⟨fun M2 j2 f2 t2 v2 d2 => ?_, fun M2 f j2 f2 t2 d2 fn => ?_⟩
  · rw [hd] at d2
    have ej : j = j2 := congrArg Prod.snd d2
    subst ej
    refine hz M2 ⟨FG.gV (by omega) (by omega) f2, t2, (f2.2.1 70 12 (by unfold pG pN; omega)).trans q12, (f2.2.1 70 13 (by unfold pG pN; omega)).trans q13, ?_, (f2.2.1 70 18 (by unfold pG pN; omega)).trans q18, ⟨b, b32, (f2.2.1 70 15 (by unfold pG pN; omega)).trans q15, qb⟩, fun k x hx => ?_, ?_⟩
    · rw [List.append_nil]
      exact (f2.2.1 70 14 (by unfold pG pN; omega)).trans q14
    · rw [List.append_nil] at hx
      rw [f2.2.1 73 _ (by unfold pG pN; omega), f2.2.1 73 _ (by unfold pG pN; omega)]
      exact qc k x hx
    · refine qm.sn (fun k k1 k2 => f2.2.1 73 k (by unfold pG pN; omega)) ((f2.2.1 73 _ (by unfold pG pN; omega)).trans qx) (fun lt => absurd (show so < 5 from lt) (by omega)) fun _ q hq => ?_
      show _ = nI (clF (TKv tp tl) E.length (E ++ []).length so i q)
      rw [clF_d h5, ← v2 q hq]
      congr 1
      omega
  · rw [hd] at d2
    exact absurd (congrArg Prod.fst d2).symm fn
theorem m_law {L t0 tl so i : Nat} {tp : Nat → Nat} {CL : List Cl} {E : List (Nat × Nat)} {M : fM} {φ : Int32 → fM → Prop} (ht : t0 + 705 ≤ 2820) (hS : Str L M) (mb : MB M t0 tp tl CL E so i) (hl : CL.length < 24) (h5 : so < 5) (hz : ∀ M2, FG (pV t0) M M2 → MB M2 t0 tp tl CL E so i → mI M2 73 (t0 + 3 + 4 * CL.length) = nI E.length → w_X11_parsed 70 (if so = 2 then 1 else 0) M2 fun x5 M1 => isO M1 70 11 ∧ dR (mP M1 70 2) fun y9 => nm (mI M1 70 14) fun x11 => 6 ≤ y9 ∧ inA M1 y9 12 ((nI (t0 + 1 + 4 * CL.length)) + (3 : Int32)) ∧ st (wI M1 y9 (ix ((nI (t0 + 1 + 4 * CL.length)) + (3 : Int32))) x11) fun M17 => φ x5 M17) : w_X11_body 70 (nI so) (nI (t0 + 1 + 4 * CL.length)) M φ := by
  obtain ⟨⟨ts, lv, hT⟩, q12, q13, q14, q18, q20, ⟨b, b32, q15, qb⟩, qc, qm, qx⟩ := mb
  refine iF_f (fun c => absurd ((nIlt (a := 4) (by omega) (by omega)).mp c) (by omega)) ⟨isO_pt hS (by decide) rfl, ⟨isO_pt hS (by decide) rfl, dR_of (Str.pg hS rfl) (nm_of ⟨by omega, ?_⟩)⟩⟩
  rw [nI_a2, q14]
  refine ⟨inA_pt hS rfl (vp_nI (by omega) (by decide)), st_of ?_⟩
  rw [ix_nI (by omega)]
  have f1 : FG (pV t0) M (wI M 73 (t0 + 1 + 4 * CL.length + 2) (nI E.length)) := FG.w (Or.inr (Or.inl ⟨rfl, by omega, by omega⟩))
  have hS1 := f1.S hS
  have hz := hz _ f1 ⟨⟨ts.w73, lv, hT.w73⟩, (mI_n (by omega)).trans q12, (mI_n (by omega)).trans q13, (mI_n (by omega)).trans q14, (mI_n (by omega)).trans q18, (mI_n (by omega)).trans q20, ⟨b, b32, (mI_n (by omega)).trans q15, qb⟩, fun k x hx => ⟨(mI_n (by omega)).trans (qc k x hx).1, (mI_n (by omega)).trans (qc k x hx).2⟩, fun k c hk => ?_, (mI_n (by omega)).trans qx⟩ (mI_s rfl (by omega))
  · by_cases z : so = 2
    · rw [if_pos z] at hz
      exact iF_t (by rw [z]; rfl) ⟨isO_pt hS1 (by decide) rfl, hz⟩
    · rw [if_neg z] at hz
      exact iF_f (fun c => z (nI_inj (b := 2) (by omega) (by omega) c)) ⟨isO_pt hS1 (by decide) rfl, hz⟩
  · have hkl := (List.getElem?_eq_some_iff.mp hk).1
    obtain ⟨a1, a2, a3⟩ := qm k c hk
    refine ⟨(mI_n (by omega)).trans a1, fun lt => ⟨(mI_n (by omega)).trans (a2 lt).1, (mI_n (by omega)).trans (a2 lt).2⟩, fun ge q hq => ?_⟩
    have an : arN c.1 ≤ 3 := by
      unfold arN
      repeat' split
      all_goals omega
    exact (mI_n (by omega)).trans (a3 ge q hq)
theorem m_bdK2 {L t0 tl so i j : Nat} {tp : Nat → Nat} {CL : List Cl} {E em : List (Nat × Nat)} {M : fM} {φ : Int32 → fM → Prop} (ht : t0 + 705 ≤ 2820) (hS : Str L M) (htl : tl ≤ 300) (mb : MB M t0 tp tl CL E so i) (hE : E.length ≤ i) (hl : CL.length < 24) (h5 : so < 5) (hd : LwR (TKk tp tl) (TKv tp tl) so i em j) (hz : ∀ M2, BR M M2 t0 tp tl CL E em so i j → φ 0 M2) : w_X11_body 70 (nI so) (nI (t0 + 1 + 4 * CL.length)) M φ := by
  refine m_law ht hS mb hl h5 fun M1 f1 m1 v1 => ?_
  obtain ⟨⟨ts, lv, hT⟩, q12, q13, q14, q18, q20, ⟨b, b32, q15, qb⟩, qc, qm, qx⟩ := m1
  have hS1 := f1.S hS
  refine m_psK ht htl (by omega) rfl hS1 q12 q18 q14 qc ts lv hE hT q20 hd fun M2 f2 p2 t2 lv2 hE2 hT2 => ?_
  have hS2 := f2.S hS1
  refine ⟨isO_pt hS2 (by decide) rfl, dR_of (Str.pg hS2 rfl) (nm_of ⟨by omega, ?_⟩)⟩
  rw [nI_a3]
  refine ⟨inA_pt hS2 rfl (vp_nI (by omega) (by decide)), st_of ?_⟩
  rw [ix_nI (by omega), p2.2.2.2.1]
  obtain ⟨r12, r17, r18, r14, -, rc⟩ := p2
  have o2 : ∀ r k, ¬ pU t0 r k → ¬ (r = 73 ∧ k = t0 + 1 + 4 * CL.length + 3) → mI (wI M2 73 (t0 + 1 + 4 * CL.length + 3) (nI (E ++ em).length)) r k = mI M1 r k := fun r k h1 h2 => (mI_n (by omega)).trans (f2.2.1 r k h1)
  refine hz _ ⟨(f1.tr f2.vU).tr (FG.w (Or.inr (Or.inl ⟨rfl, by omega, by omega⟩))), ⟨t2.w73, lv2, hT2.w73⟩, (mI_n (by omega)).trans r12, (o2 70 13 (by unfold pU pT pN; omega) (by omega)).trans q13, (mI_n (by omega)).trans r14, (mI_n (by omega)).trans r18, ⟨b, b32, (o2 70 15 (by unfold pU pT pN; omega) (by omega)).trans q15, qb⟩, fun k x hx => ⟨(mI_n (by omega)).trans (rc k x hx).1, (mI_n (by omega)).trans (rc k x hx).2⟩, qm.sn (fun k k1 k2 => o2 73 k (by unfold pU pT pN; omega) (by omega)) ((o2 73 _ (by unfold pU pT pN; omega) (by omega)).trans qx) (fun _ => ?_) (fun c => absurd (show 5 ≤ so from c) (by omega))⟩
  have cl := clF_l (V := TKv tp tl) (n := E.length) (m := (E ++ em).length) (i := i) h5
  show _ = nI (clF (TKv tp tl) E.length (E ++ em).length so i 1) ∧ _ = nI (clF (TKv tp tl) E.length (E ++ em).length so i 2)
  rw [cl.1, cl.2]
  exact ⟨(o2 73 _ (by unfold pU pT pN; omega) (by omega)).trans v1, mI_s rfl (by omega)⟩
theorem m_bdF {L t0 tl so i f k : Nat} {tp : Nat → Nat} {CL : List Cl} {E : List (Nat × Nat)} {M : fM} {φ : Int32 → fM → Prop} (ht : t0 + 705 ≤ 2820) (hS : Str L M) (htl : tl ≤ 300) (mb : MB M t0 tp tl CL E so i) (hE : E.length ≤ i) (hl : CL.length < 24) (h16 : so ≤ 16) (hf : f ≠ 0) (hd : (so < 5 ∧ LwF (TKk tp tl) (TKv tp tl) so i f k) ∨ (5 ≤ so ∧ ddN (TKk tp tl) (TKv tp tl) (shD so) i = (f, k))) (hz : ∀ M2, FG (pV t0) M M2 → TS M2 tp tl k → φ (nI f) M2) : w_X11_body 70 (nI so) (nI (t0 + 1 + 4 * CL.length)) M φ := by
  rcases hd with ⟨h5, hd⟩ | ⟨h5, hd⟩
  · refine m_law ht hS mb hl h5 fun M1 f1 m1 v1 => ?_
    obtain ⟨⟨ts, lv, hT⟩, q12, q13, q14, q18, q20, ⟨b, b32, q15, qb⟩, qc, qm, qx⟩ := m1
    have hS1 := f1.S hS
    refine m_psF ht htl (by omega) rfl hS1 q12 q18 q14 qc ts lv hE hT q20 hd fun M2 f2 t2 => ?_
    have hS2 := f2.S hS1
    refine ⟨isO_pt hS2 (by decide) rfl, dR_of (Str.pg hS2 rfl) (nm_of ⟨by omega, ?_⟩)⟩
    rw [nI_a3]
    refine ⟨inA_pt hS2 rfl (vp_nI (by omega) (by decide)), st_of ?_⟩
    rw [ix_nI (by omega)]
    exact hz _ ((f1.tr f2.vU).tr (FG.w (Or.inr (Or.inl ⟨rfl, by omega, by omega⟩)))) t2.w73
  · obtain ⟨tq, -⟩ := mb
    refine m_bdyD hS htl (by omega) tq h5 h16 ⟨fun M2 j2 f2 t2 v2 d2 => ?_, fun M2 f' j2 f2 t2 d2 fn => ?_⟩
    · rw [hd] at d2
      exact absurd (congrArg Prod.fst d2) hf
    · rw [hd] at d2
      have e1 : f = f' := congrArg Prod.fst d2
      have e2 : k = j2 := congrArg Prod.snd d2
      subst e1 e2
      exact hz M2 (FG.gV (by omega) (by omega) f2) t2.1
theorem m_clZ {L t0 tl j n : Nat} {tp : Nat → Nat} {CL : List Cl} {E : List (Nat × Nat)} {M : fM} {φ : Int32 → fM → Prop} (hS : Str L M) (htl : tl ≤ 300) (tq : TQ M tp tl j) (q12 : mI M 70 12 = nI t0) (q13 : mI M 70 13 = nI n) (hn : n + 1 = CL.length) (q14 : mI M 70 14 = nI E.length) (q18 : mI M 70 18 = 0) (qb : Bts M (fun s => ∃ c ∈ CL, c.1 = s)) (qc : Cds M t0 E) (qm : McA M t0 CL) (h1 : TKk tp tl j = 52 → ∀ M2, FG (pV t0) M M2 → MTx M2 t0 tp tl CL E (j + 1) → φ 0 M2) (h0 : TKk tp tl j ≠ 52 → ∀ M2, FG (pV t0) M M2 → TS M2 tp tl j → φ 1 M2) : psI φ 0 M := by
  obtain ⟨ts, lv, hT⟩ := tq
  refine iF_t rfl ⟨isO_pt hS (by decide) rfl, nm_of (st_of ?_)⟩
  rw [q13, show nI n + (1 : Int32) = nI (n + 1) from nI_add _ 1, hn]
  have f1 : FG (pV t0) M (wI M 70 13 (nI CL.length)) := FG.w (Or.inl ⟨rfl, by omega⟩)
  have hS1 := f1.S hS
  have t1 : TS (wI M 70 13 (nI CL.length)) tp tl j := TS.w70 (by omega) ts
  by_cases e : TKk tp tl j = 52
  · refine iF_t ((t1.c (s := 52) (by omega) (by omega) rfl).mpr e) (m_nextS hS1 (TpM.w70 (by omega) hT) htl lv (by omega) t1 fun M2 f2 t2 => h1 e M2 (f1.tr f2.vN) ?_)
    have o2 : ∀ r k, ¬ pN r k → ¬ (r = 70 ∧ k = 13) → mI M2 r k = mI M r k := fun r k a b => (f2.2.1 r k a).trans (mI_n (by omega))
    obtain ⟨b, b32, q15, qb⟩ := qb
    refine ⟨⟨t2, lvT_s lv (by omega), (TpM.w70 (by omega) hT).g f2⟩, (o2 70 12 (by unfold pN; omega) (by omega)).trans q12, (f2.2.1 70 13 (by unfold pN; omega)).trans (mI_s rfl rfl), (o2 70 14 (by unfold pN; omega) (by omega)).trans q14, (o2 70 18 (by unfold pN; omega) (by omega)).trans q18, ⟨b, b32, (o2 70 15 (by unfold pN; omega) (by omega)).trans q15, qb⟩, fun k x hx => ⟨(o2 73 _ (by unfold pN; omega) (by omega)).trans (qc k x hx).1, (o2 73 _ (by unfold pN; omega) (by omega)).trans (qc k x hx).2⟩, fun k c hk => ?_⟩
    obtain ⟨a1, a2, a3⟩ := qm k c hk
    exact ⟨(o2 73 _ (by unfold pN; omega) (by omega)).trans a1, fun lt => ⟨(o2 73 _ (by unfold pN; omega) (by omega)).trans (a2 lt).1, (o2 73 _ (by unfold pN; omega) (by omega)).trans (a2 lt).2⟩, fun ge q hq => (o2 73 _ (by unfold pN; omega) (by omega)).trans (a3 ge q hq)⟩
  · exact iF_f (fun c => e ((t1.c (s := 52) (by omega) (by omega) rfl).mp c)) (h0 e _ f1 t1)
theorem Bts.sn {M : fM} {CL : List Cl} {c : Cl} (h : Bts M (fun s => (∃ x ∈ CL, x.1 = s) ∨ s = c.1)) : Bts M (fun s => ∃ x ∈ CL ++ [c], x.1 = s) := by
  obtain ⟨b, b32, q15, qb⟩ := h
  refine ⟨b, b32, q15, fun s hs => (qb s hs).trans ⟨fun h => ?_, fun h => ?_⟩⟩
  · rcases h with ⟨x, hx, e⟩ | h
    · exact ⟨x, List.mem_append_left _ hx, e⟩
    · exact ⟨c, List.mem_append_right _ (List.mem_singleton.mpr rfl), h.symm⟩
  · obtain ⟨x, hx, e⟩ := h
    rcases List.mem_append.mp hx with hx | hx
    · exact Or.inl ⟨x, hx, e⟩
    · rw [List.mem_singleton.mp hx] at e
      exact Or.inr e.symm
theorem m_bdR {L t0 tl i j : Nat} {tp : Nat → Nat} {CL : List Cl} {E em : List (Nat × Nat)} {M : fM} {φ : Int32 → fM → Prop} (ht : t0 + 705 ≤ 2820) (hS : Str L M) (htl : tl ≤ 300) (mt : MTx M t0 tp tl CL E i) (hE : E.length ≤ i) (hu : unS (TKk tp tl) CL i) (hl : CL.length < 24) (bd : Bdy (TKk tp tl) (TKv tp tl) (TKk tp tl i) (i + 1) em j) (h1 : TKk tp tl j = 52 → ∀ M2, FG (pV t0) M M2 → MTx M2 t0 tp tl (CL ++ [cla (TKk tp tl) (TKv tp tl) E em i]) (E ++ em) (j + 1) → φ 0 M2) (h0 : TKk tp tl j ≠ 52 → ∀ M2, FG (pV t0) M M2 → TS M2 tp tl j → φ 1 M2) : w_X11_clause 70 M φ := by
  refine m_cl0 ht hS htl mt hE hu hl fun M1 f1 m1 => ?_
  have hS1 := f1.S hS
  have fin : ∀ M2, BR M1 M2 t0 tp tl CL E em (TKk tp tl i) (i + 1) j → psI φ 0 M2 := by
    intro M2 ⟨f2, tq, q12, q13, q14, q18, qb, qc, qm⟩
    refine m_clZ (f2.S hS1) htl tq q12 q13 ?_ q14 q18 (Bts.sn (c := clB (TKv tp tl) E em (TKk tp tl i) (i + 1)) qb) qc qm (fun e M3 f3 m3 => h1 e M3 ((f1.tr f2).tr f3) m3) fun e M3 f3 t3 => h0 e M3 ((f1.tr f2).tr f3) t3
    rw [List.length_append]
    rfl
  rcases bd with ⟨b1, b2⟩ | ⟨b1, b2, b3⟩
  · exact m_bdK2 ht hS1 htl m1 (by omega) hl b1 b2 fin
  · subst b2
    exact m_bdK1 ht hS1 htl m1 hl b1 hu.1 b3 fin
theorem m_clK {L t0 tl i j : Nat} {tp : Nat → Nat} {CL : List Cl} {E em : List (Nat × Nat)} {M : fM} {φ : Int32 → fM → Prop} (ht : t0 + 705 ≤ 2820) (hS : Str L M) (htl : tl ≤ 300) (mt : MTx M t0 tp tl CL E i) (hE : E.length ≤ i) (cr : ClR (TKk tp tl) (TKv tp tl) CL i em j) (hz : ∀ M2, FG (pV t0) M M2 → MTx M2 t0 tp tl (CL ++ [cla (TKk tp tl) (TKv tp tl) E em i]) (E ++ em) (j + 1) → φ 0 M2) : w_X11_clause 70 M φ :=
  m_bdR ht hS htl mt hE cr.1 cr.2.1 cr.2.2.1 (fun _ => hz) fun c => absurd cr.2.2.2.1 c
theorem m_clF {L t0 tl i f k : Nat} {tp : Nat → Nat} {CL : List Cl} {E : List (Nat × Nat)} {M : fM} {φ : Int32 → fM → Prop} (ht : t0 + 705 ≤ 2820) (hS : Str L M) (htl : tl ≤ 300) (mt : MTx M t0 tp tl CL E i) (hE : E.length ≤ i) (hf : 1 ≤ f ∧ f ≤ 6) (cf : ClF (TKk tp tl) (TKv tp tl) CL i f k) (hz : ∀ M2, FG (pV t0) M M2 → TS M2 tp tl k → φ (nI f) M2) : w_X11_clause 70 M φ := by
  have mt0 := mt
  obtain ⟨⟨ts, lv, hT⟩, q12, q13, q14, q18, ⟨b, b32, q15, qb⟩, qc, qm⟩ := mt
  have kb : TKk tp tl i ≤ 62 := tkK_b _ _ _
  rcases cf with ⟨c1, c2, c3⟩ | ⟨c1, c2, c3, c4⟩ | ⟨c1, c2, c3, c4⟩ | ⟨c1, c2, c3⟩
  · subst c2 c3
    refine ⟨isO_pt hS (by decide) rfl, m_sort hS ts ?_⟩
    rw [show srR (TKk tp tl k) = -1 from if_neg (by omega)]
    exact iF_f (by decide) (hz M (FG.rf M) ts)
  · subst c3 c4
    refine ⟨isO_pt hS (by decide) rfl, m_sort hS ts ?_⟩
    rw [show srR (TKk tp tl k) = nI (TKk tp tl k) from if_pos (by omega)]
    refine iF_t ((nIle (a := 0) (by omega) (by omega)).mpr (Nat.zero_le _)) (iF_f (fun c => absurd ((nIlt (a := 4) (by omega) (by omega)).mp c) (by omega)) ⟨isO_pt hS (by decide) rfl, ?_⟩)
    rw [q15]
    refine m_has b32 (by omega) ?_
    rw [if_pos ((qb _ (by omega)).mpr c2)]
    exact iF_f (by decide) (hz M (FG.rf M) ts)
  · subst c3 c4
    have j29 : ∀ a, j_X11_clause_29 φ 70 a M := fun a => ⟨isO_pt hS (by decide) rfl, iF_t (by rw [q13, c2]; rfl) (hz M (FG.rf M) ts)⟩
    have u16 := c1.1
    refine ⟨isO_pt hS (by decide) rfl, m_sort hS ts ?_⟩
    rw [show srR (TKk tp tl k) = nI (TKk tp tl k) from if_pos u16]
    refine iF_t ((nIle (a := 0) (by omega) (by omega)).mpr (Nat.zero_le _)) ?_
    by_cases ge : 4 < TKk tp tl k
    · exact iF_t ((nIlt (a := 4) (by omega) (by omega)).mpr ge) (j29 _)
    · refine iF_f (fun c => ge ((nIlt (a := 4) (by omega) (by omega)).mp c)) ⟨isO_pt hS (by decide) rfl, ?_⟩
      rw [q15]
      refine m_has b32 (by omega) ?_
      rw [if_neg (fun c => by obtain ⟨x, hx, e⟩ := (qb _ (by omega)).mp c; exact c1.2 (by omega) x hx e)]
      exact iF_t rfl (j29 _)
  · have fI : ¬ nI f = 0 := fun c => absurd (nI_inj (b := 0) (by omega) (by omega) c) (by omega)
    have fault : ((TKk tp tl i < 5 ∧ LwF (TKk tp tl) (TKv tp tl) (TKk tp tl i) (i + 1) f k) ∨ (5 ≤ TKk tp tl i ∧ ddN (TKk tp tl) (TKv tp tl) (shD (TKk tp tl i)) (i + 1) = (f, k))) → w_X11_clause 70 M φ := fun hd =>
      m_cl0 ht hS htl mt0 hE c1 c2 fun M1 f1 m1 => m_bdF ht (f1.S hS) htl m1 (by omega) c2 c1.1 (by omega) hd fun M2 f2 t2 => iF_f fI (hz M2 (f1.tr f2) t2)
    rcases c3 with c3 | c3 | ⟨em, c3, c4, c5⟩
    · exact fault (Or.inl c3)
    · exact fault (Or.inr c3)
    · subst c5
      exact m_bdR ht hS htl mt0 hE c1 c2 c3 (fun e => absurd e c4) fun _ => hz
