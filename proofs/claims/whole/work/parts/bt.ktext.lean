/-! ===== TEXT: the call of both ===== -/
theorem TxC.cgT {cd : List (Nat × Nat)} {C S E D U T T2 : Nat → Int32} {cl : Nat} (hT : ∀ k, k < 705 → T2 k = T k) (h : TxC cd C S E D U cl T) : TxC cd C S E D U cl T2 := by
  obtain ⟨h0, h1, h2, h3, h4, h5, h6⟩ := h
  refine ⟨(hT 0 (by omega)).trans h0, h1, h2, fun i x hx => ?_, fun k hk => ?_, h5, h6⟩
  · have hi := (List.getElem?_eq_some_iff.mp hx).1
    rw [hT _ (by omega), hT _ (by omega)]
    exact h3 i x hx
  · obtain ⟨s, a1, a2, a3, a4, a5, a6⟩ := h4 k hk
    refine ⟨s, a1, a2, (hT _ (by omega)).trans a3, fun lt => ?_, fun ge j hj => ?_, fun c => ?_⟩
    · obtain ⟨a, b, b1, b2, b3, b4, b5, b6, b7⟩ := a4 lt
      exact ⟨a, b, b1, b2, b3, b4, (hT _ (by omega)).trans b5, (hT _ (by omega)).trans b6, b7⟩
    · have an : arN s ≤ 3 := by
        unfold arN
        repeat' split
        all_goals omega
      rw [hT _ (by omega)]
      exact a5 ge j hj
    · obtain ⟨n, b1, b2, b3⟩ := a6 c
      exact ⟨n, b1, b2, (hT _ (by omega)).trans b3⟩
theorem TxC.mk0 {cd : List (Nat × Nat)} {CL : List Cl} {C S E D U T : Nat → Int32} (wf : WfC CL cd) (hn : cd.length ≤ 300) (hC : ∀ (i : Nat) (x : Nat × Nat), cd[i]? = some x → C i = enc x) (hD : ∀ (k : Nat) (c : Cl), CL[k]? = some c → D k = nI c.1 ∧ (c.1 < 5 → S c.1 = nI (c.2 1) ∧ E c.1 = nI (c.2 2)) ∧ (5 ≤ c.1 → ∀ j, j < arN c.1 → U (3 * k + j) = nI (c.2 j))) (hE : ∀ s, s < 5 → (∀ c ∈ CL, c.1 ≠ s) → E s = 0) (hT0 : T 0 = nI CL.length) (hT1 : ∀ (i : Nat) (x : Nat × Nat), cd[i]? = some x → T (97 + 2 * i) = nI x.1 ∧ T (98 + 2 * i) = nI x.2) (hT2 : ∀ (k : Nat) (c : Cl), CL[k]? = some c → T (1 + 4 * k) = nI c.1 ∧ (c.1 < 5 → T (3 + 4 * k) = nI (c.2 1) ∧ T (4 + 4 * k) = nI (c.2 2)) ∧ (5 ≤ c.1 → ∀ j, j < arN c.1 → T (2 + 4 * k + j) = nI (c.2 j))) : TxC cd C S E D U CL.length T := by
  refine ⟨hT0, wf.1, hn, fun i x hx => ⟨hC i x hx, hT1 i x hx⟩, fun k hk => ?_, fun k k' hk hk' e lt => ?_, fun s hs hne => hE s hs fun c hc e => ?_⟩
  · have hg : CL[k]? = some CL[k] := List.getElem?_eq_getElem hk
    generalize CL[k] = c at hg
    obtain ⟨d1, d2, d3⟩ := hD k c hg
    obtain ⟨t1, t2, t3⟩ := hT2 k c hg
    obtain ⟨w1, w2, w3⟩ := wf.2.1 c (List.mem_of_getElem? hg)
    refine ⟨c.1, w1, d1, t1, fun lt => ?_, fun ge j hj => (d3 ge j hj).trans (t3 ge j hj).symm, fun h => ⟨c.2 0, (w3 h).1, (w3 h).2, ?_⟩⟩
    · obtain ⟨v1, v2, v3⟩ := w2 lt
      exact ⟨c.2 1, c.2 2, v1, v2, (d2 lt).1, (d2 lt).2, (t2 lt).1, (t2 lt).2, v3⟩
    · exact t3 (by omega) 0 (by rcases h with h | h | h <;> (rw [h]; decide))
  · have hg : CL[k]? = some CL[k] := List.getElem?_eq_getElem hk
    have hg' : CL[k']? = some CL[k'] := List.getElem?_eq_getElem hk'
    generalize CL[k] = c at hg
    generalize CL[k'] = c' at hg'
    have d := (hD k c hg).1
    have d' := (hD k' c' hg').1
    have w := (wf.2.1 c (List.mem_of_getElem? hg)).1
    have w' := (wf.2.1 c' (List.mem_of_getElem? hg')).1
    rw [d, d'] at e
    rw [d] at lt
    exact wf.2.2 k k' c c' hg hg' (nI_inj (by omega) (by omega) e) ((nIlt (b := 5) (by omega) (by omega)).mp lt)
  · obtain ⟨k, hk⟩ := List.getElem?_of_mem hc
    have hkl := (List.getElem?_eq_some_iff.mp hk).1
    exact hne k hkl (((hD k c hk).1).trans (congrArg nI e))
def pZ (a r k : Nat) : Prop := (r = 46 ∧ (k = 1 ∨ k = 5)) ∨ (48 ≤ r ∧ r ≤ 56) ∨ (r = 10 ∧ k = 14) ∨ (r = 70 ∧ 4 ≤ k ∧ k ≤ 20) ∨ (r = 73 ∧ 705 * a ≤ k ∧ k < 705 * a + 705) ∨ r = 75 ∨ (r = 71 ∧ k = 3)
def GY (a : Nat) (M M2 : fM) : Prop := (∀ r, r < mN M → mS M2 r = mS M r) ∧ mN M ≤ mN M2 ∧ (∀ r k, r < mN M → ¬ pZ a r k → mI M2 r k = mI M r k) ∧ (∀ r k, r < mN M → r ≠ 18 ∨ k ≠ a → mP M2 r k = mP M r k) ∧ ∀ r k, r < mN M → r ≠ 70 → mJ M2 r k = mJ M r k
theorem GY.tr {a : Nat} {M M1 M2 : fM} (h : GY a M M1) (h2 : GY a M1 M2) : GY a M M2 := by
  obtain ⟨a1, a2, a3, a4, a5⟩ := h
  obtain ⟨b1, b2, b3, b4, b5⟩ := h2
  exact ⟨fun r hr => (b1 r (by omega)).trans (a1 r hr), by omega, fun r k hr hp => (b3 r k (by omega) hp).trans (a3 r k hr hp), fun r k hr hp => (b4 r k (by omega) hp).trans (a4 r k hr hp), fun r k hr hp => (b5 r k (by omega) hp).trans (a5 r k hr hp)⟩
theorem GX.y {a : Nat} {P : Nat → Nat → Prop} {M M2 : fM} (h : GX P M M2) (hp : ∀ r k, P r k → pZ a r k) : GY a M M2 := ⟨h.1, h.2.1, fun r k hr hn => h.2.2.1 r k hr (fun c => hn (hp r k c)), fun r k hr _ => h.2.2.2.1 r k hr, fun r k hr _ => h.2.2.2.2 r k hr⟩
theorem FG.y {a : Nat} {P : Nat → Nat → Prop} {M M2 : fM} (h : FG P M M2) (hp : ∀ r k, P r k → pZ a r k) : GY a M M2 := by
  refine ⟨fun r _ => ?_, ?_, fun r k _ hn => h.2.1 r k (fun c => hn (hp r k c)), fun r k _ _ => ?_, fun r k _ hr => h.2.2 r k hr⟩
  · unfold mS
    rw [h.1]
  · unfold mN
    rw [h.1]
    exact Nat.le_refl _
  · unfold mP
    rw [h.1]
theorem Okk.tx {B w : Nat} {A : Nat → Nat} (h : Okk B A) (hw : A 3 ≤ w) (hw4 : w ≤ 4) : Okk B (up A 3 w) := by
  obtain ⟨o1, o2, o3, o4, o5, o6, o7⟩ := h
  have e : ∀ k, k ≠ 3 → up A 3 w k = A k := fun k hk => up_n hk
  obtain ⟨s1, s2, s3, s4, s5, s6, s7, s8, s9, s10⟩ := o1
  refine ⟨⟨?_, ?_, ?_, ?_, ?_, ?_, ?_, ?_, ?_, s10⟩, o2.cg fun k _ _ => e k (by omega), o3.cg (e 0 (by omega)) fun k _ => e k (by omega), o4.cg (by rw [e 0 (by omega)]; exact Nat.le_refl _) (fun k _ _ => e k (by omega)) (fun i _ => e _ (by omega)), o5.cg (by rw [e 0 (by omega)]; exact Nat.le_refl _) (e 5 (by omega)) (fun k _ => e k (by omega)), o6.cg (by rw [e 0 (by omega)]; exact Nat.le_refl _) (e 6 (by omega)) (fun k _ _ => e k (by omega)) s7, o7.cg fun k _ => e k (by omega)⟩
  · rw [e 0 (by omega)]; exact s1
  · rw [e 1 (by omega)]; exact s2
  · rw [e 2 (by omega)]; exact s3
  · rw [up_s]; exact hw4
  · rw [e 4 (by omega), up_s]; omega
  · rw [e 5 (by omega)]; exact s6
  · rw [e 6 (by omega)]; exact s7
  · rw [e 7 (by omega)]; exact s8
  · rw [e 8 (by omega)]; exact s9
theorem TxR.y {a r i : Nat} {M M2 : fM} (h82 : 82 ≤ mN M) (g : GY a M M2) (hr : mP M2 r i = mP M r i) (hi : i < a) (h : TxR M r i) : TxR M2 r i := by
  obtain ⟨o, c, s, e, d, u, cd, cl, p1, p2, p3, p4, p5, p6, p7, p8, q1, q2, q3, q4, q5, s1, s2, s3, s4, s5, t⟩ := h
  have lo := mS_lt p3
  have lc := mS_lt s1
  have ls := mS_lt s2
  have le := mS_lt s3
  have ld := mS_lt s4
  have lu := mS_lt s5
  have fI : ∀ q, 82 ≤ q → q < mN M → mI M2 q = mI M q := fun q h1 h2 => funext fun k => g.2.2.1 q k h2 (by unfold pZ; omega)
  refine ⟨o, c, s, e, d, u, cd, cl, hr.trans p1, p2, (g.1 o lo).trans p3, (g.2.2.2.1 o 0 lo (by omega)).trans p4, (g.2.2.2.1 o 1 lo (by omega)).trans p5, (g.2.2.2.1 o 2 lo (by omega)).trans p6, (g.2.2.2.1 o 3 lo (by omega)).trans p7, (g.2.2.2.1 o 4 lo (by omega)).trans p8, q1, q2, q3, q4, q5, (g.1 c lc).trans s1, (g.1 s ls).trans s2, (g.1 e le).trans s3, (g.1 d ld).trans s4, (g.1 u lu).trans s5, ?_⟩
  rw [fI c q1 lc, fI s q2 ls, fI e q3 le, fI d q4 ld, fI u q5 lu]
  exact t.cgT fun k hk => g.2.2.1 73 _ (by omega) (by unfold pZ; omega)
theorem IV.tx {L : Nat} {X : Nat → Int32} {B : Nat} {A A' : Nat → Nat} {nx nx' tl w : Nat} {tp : Nat → Nat} {M M2 : fM} (h : IV L X B A A' nx nx' tl tp M) (hS2 : Str L M2) (g : GY (A 3) M M2) (hw : (w = A 3 ∧ mP M2 18 (A 3) = mP M 18 (A 3)) ∨ (w = A 3 + 1 ∧ A 3 < 4 ∧ TxR M2 18 (A 3))) (h14 : mI M2 10 14 = nI w) (h3 : mI M2 71 3 = nI w) (h46 : mI M2 46 1 = 0) (h70 : mI M2 70 4 = 0) (hF : Flt M2) : Inv L X B M2 := by
  obtain ⟨hS, hX, hC, hM, hK, hMK, hO, hO', hTp, hFl, hTx⟩ := h
  have h82 := hS.n82
  have e : ∀ k, k ≠ 3 → up A 3 w k = A k := fun k hk => up_n hk
  obtain ⟨c1, c2, c3, c4, c5, c6, c7⟩ := hC
  obtain ⟨o1, o2, o3, o4, o5, o6, o7⟩ := id hO
  obtain ⟨s1, s2, s3, s4, s5, s6, s7, s8, s9, s10⟩ := o1
  have fI : ∀ r, r < 82 → (∀ k, ¬ pZ (A 3) r k) → ∀ k, mI M2 r k = mI M r k := fun r hr hp k => g.2.2.1 r k (by omega) (hp k)
  refine ⟨up A 3 w, A', nx, nx', 0, tp, hS2, hX.cg (fun q hq => fI q (by omega) fun k => by unfold pZ; omega) (fun k => g.2.2.2.2 2 k (by omega) (by omega)), ⟨c1.cg (fun r _ _ => fI r (by omega) fun k => by unfold pZ; omega) (fun k _ => e k (by omega)), c2.cg (fun r _ _ => fI r (by omega) fun k => by unfold pZ; omega) (fun k _ _ => e k (by omega)), ?_, c4.cg (fI 15 (by omega) fun k => by unfold pZ; omega) (fun k _ _ => e k (by omega)), c5.cg (fI 16 (by omega) fun k => by unfold pZ; omega) (fun k _ => e k (by omega)), c6.cg (fI 19 (by omega) fun k => by unfold pZ; omega) (fun k _ _ => e k (by omega)), c7.cg (g.2.2.1 10 12 (by omega) (by unfold pZ; omega)) (fI 17 (by omega) fun k => by unfold pZ; omega) (e 5 (by omega)) s6 (fun k _ _ => e k (by omega))⟩, ⟨fun k hk hk4 => ?_, ?_⟩, hK.cg (fun q hq => fI q (by omega) fun k => by unfold pZ; omega) hO'.1.2.2.2.2.2.1, hMK.cg (fI 72 (by omega) fun k => by unfold pZ; omega), hO.tx (by omega) (by omega), hO', ⟨by omega, h46, h70, fun k hk => absurd hk (Nat.not_lt_zero _)⟩, hF, ?_, fun i hi => ?_, fun i hi => ?_, fun r hr i hi y hy => ?_⟩
  · obtain ⟨b1, b2, b3, b4, b5, b6, b7, b8⟩ := c3
    have f10 : ∀ k, k ≠ 14 → mI M2 10 k = mI M 10 k := fun k hk => g.2.2.1 10 k (by omega) (by unfold pZ; omega)
    refine ⟨?_, ?_, ?_, ?_, ?_, ?_, ?_, ?_⟩
    · rw [f10 4 (by omega), e 0 (by omega)]; exact b1
    · rw [f10 5 (by omega), e 2 (by omega)]; exact b2
    · rw [f10 6 (by omega), e 1 (by omega)]; exact b3
    · rw [f10 9 (by omega), e 8 (by omega)]; exact b4
    · rw [f10 11 (by omega), e 5 (by omega)]; exact b5
    · rw [h14, up_s]
    · rw [f10 15 (by omega), e 4 (by omega)]; exact b7
    · rw [f10 17 (by omega), e 6 (by omega)]; exact b8
  · by_cases k3 : k = 3
    · rw [k3, up_s]
      exact h3
    · rw [e k k3, g.2.2.1 71 k (by omega) (by unfold pZ; omega)]
      exact hM.1 k hk hk4
  · rw [e 4 (by omega), g.2.2.1 71 4 (by omega) (by unfold pZ; omega)]
    exact hM.2
  · rw [up_s]
    have := hTx.1
    omega
  · rw [up_s] at hi
    by_cases lt : i < A 3
    · exact (hTx.2.1 i lt).y h82 g (g.2.2.2.1 18 i (by omega) (Or.inr (by omega))) lt
    · rcases hw with ⟨w1, w2⟩ | ⟨w1, w2, w3⟩
      · omega
      · rw [show i = A 3 by omega]
        exact w3
  · have := hTx.1
    rw [g.2.2.2.1 36 i (by omega) (Or.inl (by omega)), g.2.2.2.1 18 i (by omega) (Or.inr (by omega))]
    exact hTx.2.2.1 i hi
  · have old : mP M r i = some y → isO M2 y 8 := fun hy => by
      obtain ⟨a6, len, hl⟩ := hTx.2.2.2 r hr i hi y hy
      exact ⟨a6, len, (g.1 y (mS_lt hl)).trans hl⟩
    by_cases z : r = 18 ∧ i = A 3
    · obtain ⟨z1, z2⟩ := z
      subst z1 z2
      rcases hw with ⟨w1, w2⟩ | ⟨w1, w2, w3⟩
      · exact old (w2.symm.trans hy)
      · obtain ⟨o, c, s, e, d, u, cd, cl, p1, p2, p3, -⟩ := w3
        have : o = y := Option.some.inj (p1.symm.trans hy)
        subst this
        exact ⟨by omega, 5, p3⟩
    · rw [g.2.2.2.1 r i (by omega) (by omega)] at hy
      exact old hy
