/-! ===== frames: what is left alone stays so ===== -/
theorem up_s (A : Nat → Nat) (k v : Nat) : up A k v k = v := if_pos rfl
theorem up_n {A : Nat → Nat} {k v j : Nat} (h : j ≠ k) : up A k v j = A j := if_neg h
theorem RlH.cg {M M2 : fM} {b : Nat} {A A2 : Nat → Nat} (hf : ∀ r, b + 10 ≤ r → r ≤ b + 17 → ∀ k, mI M2 r k = mI M r k) (hA : ∀ k, k = 7 ∨ (10 ≤ k ∧ k < 82) → A2 k = A k) (h : RlH M b A) : RlH M2 b A2 := by
  intro i hi
  obtain ⟨a1, a2, a3, a4, a5⟩ := h i hi
  rw [hf _ (by omega) (by omega), hf _ (by omega) (by omega), hf _ (by omega) (by omega), hf _ (by omega) (by omega), hA _ (by omega), hA _ (by omega), hA _ (by omega), hA _ (by omega)]
  refine ⟨a1, a2, a3, a4, fun j hj => ?_⟩
  rw [hf _ (by omega) (by omega), hA _ (by omega)]
  exact a5 j hj
theorem RlP.cg {M M2 : fM} {b : Nat} {A A2 : Nat → Nat} (hf : ∀ r, b + 2 ≤ r → r ≤ b + 4 → ∀ k, mI M2 r k = mI M r k) (hA : ∀ k, 82 ≤ k → k < 100 → A2 k = A k) (h : RlP M b A) : RlP M2 b A2 := by
  intro p hp
  obtain ⟨a1, a2, a3⟩ := h p hp
  rw [hf _ (by omega) (by omega), hf _ (by omega) (by omega), hf _ (by omega) (by omega), hA _ (by omega) (by omega), hA _ (by omega) (by omega), hA _ (by omega) (by omega)]
  exact ⟨a1, a2, a3⟩
theorem RlS.cg {M M2 : fM} {b : Nat} {A A2 : Nat → Nat} (hf : ∀ k, mI M2 b k = mI M b k) (hA : ∀ k, k < 10 → k ≠ 7 → A2 k = A k) (h : RlS M b A) : RlS M2 b A2 := by
  unfold RlS at h ⊢
  rw [hf, hf, hf, hf, hf, hf, hf, hf, hA 0 (by omega) (by omega), hA 1 (by omega) (by omega), hA 2 (by omega) (by omega), hA 3 (by omega) (by omega), hA 4 (by omega) (by omega), hA 5 (by omega) (by omega), hA 6 (by omega) (by omega), hA 8 (by omega) (by omega)]
  exact h
theorem RlW.cg {M M2 : fM} {b : Nat} {A A2 : Nat → Nat} (hf : ∀ k, mI M2 (b + 5) k = mI M (b + 5) k) (hA : ∀ k, 100 ≤ k → k < 109 → A2 k = A k) (h : RlW M b A) : RlW M2 b A2 := by
  obtain ⟨h1, h2⟩ := h
  refine ⟨fun e k hk => ?_, fun e => ?_⟩
  · rw [hf, hA _ (by omega) (by omega)]
    exact h1 (by rw [← hA 108 (by omega) (by omega)]; exact e) k hk
  · rw [hf]
    exact h2 (by rw [← hA 108 (by omega) (by omega)]; exact e)
theorem RlB.cg {M M2 : fM} {b : Nat} {A A2 : Nat → Nat} (hf : ∀ k, mI M2 (b + 6) k = mI M (b + 6) k) (hA : ∀ k, 517 ≤ k → A2 k = A k) (h : RlB M b A) : RlB M2 b A2 := fun i hi k hk => by rw [hf, hA _ (by omega)]; exact h i hi k hk
theorem RlG.cg {M M2 : fM} {b : Nat} {A A2 : Nat → Nat} (hf : ∀ k, mI M2 (b + 9) k = mI M (b + 9) k) (hA : ∀ k, 109 ≤ k → k < 157 → A2 k = A k) (h : RlG M b A) : RlG M2 b A2 := fun i hi k hk => by rw [hf, hA _ (by omega) (by omega)]; exact h i hi k hk
theorem RlA.cg {M M2 : fM} {b nx : Nat} {A A2 : Nat → Nat} (hf : mI M2 b 12 = mI M b 12) (hf2 : ∀ k, mI M2 (b + 7) k = mI M (b + 7) k) (h5 : A2 5 = A 5) (h30 : A 5 ≤ 30) (hA : ∀ k, 157 ≤ k → k < 517 → A2 k = A k) (h : RlA M b A nx) : RlA M2 b A2 nx := by
  obtain ⟨a1, a2, a3⟩ := h
  refine ⟨hf.trans a1, a2, fun k hk => ?_⟩
  rw [h5] at hk ⊢
  obtain ⟨b1, b2, b3, b4, b5⟩ := a3 k hk
  rw [hf2, hf2, hf2, hf2, hA _ (by omega) (by omega), hA _ (by omega) (by omega), hA _ (by omega) (by omega), hA _ (by omega) (by omega)]
  refine ⟨fun e j hj => ?_, b2, b3, b4, b5⟩
  rw [hf2, hA _ (by omega) (by omega)]
  exact b1 e j hj
theorem Mdl.cg {M M2 : fM} {r : Nat} {A : Nat → Nat} (hf : ∀ k, mI M2 r k = mI M r k) (h : Mdl M r A) : Mdl M2 r A := ⟨fun k h1 h2 => by rw [hf]; exact h.1 k h1 h2, by rw [hf]; exact h.2⟩
theorem Cls.cg {M M2 : fM} {b nx : Nat} {A : Nat → Nat} (hf : ∀ q, b ≤ q ∧ q ≤ b + 17 → ∀ k, mI M2 q k = mI M q k) (h5 : A 5 ≤ 30) (h : Cls M b A nx) : Cls M2 b A nx := by
  obtain ⟨a1, a2, a3, a4, a5, a6, a7⟩ := h
  exact ⟨a1.cg (fun q h1 h2 => hf q (by omega)) (fun _ _ => rfl), a2.cg (fun q h1 h2 => hf q (by omega)) (fun _ _ _ => rfl), a3.cg (hf _ (by omega)) (fun _ _ _ => rfl), a4.cg (hf _ (by omega)) (fun _ _ _ => rfl), a5.cg (hf _ (by omega)) (fun _ _ => rfl), a6.cg (hf _ (by omega)) (fun _ _ _ => rfl), a7.cg (hf _ (by omega) _) (hf _ (by omega)) rfl h5 (fun _ _ _ => rfl)⟩
theorem nop_s {M M2 : fM} (h : nop M2 = nop M) : M2.2.2.2 = M.2.2.2 := by
  have q : (nop M2).2 = (nop M).2 := by rw [h]
  exact q
theorem nop_p {M M2 : fM} (h : nop M2 = nop M) {q k : Nat} (hq : q ≠ 7 ∨ k ≠ 2) : mP M2 q k = mP M q k := by
  have h2 : (nop M2).1 q k = (nop M).1 q k := by rw [h]
  have e : ¬ (q = 7 ∧ k = 2) := by omega
  unfold nop at h2
  simp only [if_neg e] at h2
  exact h2
theorem nop_e {M M2 : fM} (h : M2.2.2 = M.2.2) : nop M2 = nop M := by unfold nop; rw [h]
theorem PTL_7 : ∀ t ∈ PTL, t.1 ≠ 7 ∨ t.2.1 ≠ 2 := by decide
theorem Str.nop {L : Nat} {M M2 : fM} (h : nop M2 = nop M) (hS : Str L M) : Str L M2 := by
  obtain ⟨⟨ex, he⟩, hp⟩ := hS
  exact ⟨⟨ex, (nop_s h).trans he⟩, fun t ht => (nop_p h (PTL_7 t ht)).trans (hp t ht)⟩
theorem TxR.cg {M M2 : fM} {r i : Nat} (h3 : nop M2 = nop M) (hf : ∀ q, 82 ≤ q ∨ q = 73 → ∀ k, mI M2 q k = mI M q k) (h : TxR M r i) (hr7 : r ≠ 7 := by decide) : TxR M2 r i := by
  have eP : ∀ q k, q ≠ 7 → mP M2 q k = mP M q k := fun q k hq => nop_p h3 (Or.inl hq)
  have eS : ∀ q, mS M2 q = mS M q := fun q => by unfold mS; rw [nop_s h3]
  obtain ⟨o, c, s, e, d, u, cd, cl, p1, p2, p3, p4, p5, p6, p7, p8, q1, q2, q3, q4, q5, s1, s2, s3, s4, s5, t⟩ := h
  refine ⟨o, c, s, e, d, u, cd, cl, by rw [eP _ _ hr7]; exact p1, p2, by rw [eS]; exact p3, by rw [eP _ _ (by omega)]; exact p4, by rw [eP _ _ (by omega)]; exact p5, by rw [eP _ _ (by omega)]; exact p6, by rw [eP _ _ (by omega)]; exact p7, by rw [eP _ _ (by omega)]; exact p8, q1, q2, q3, q4, q5, by rw [eS]; exact s1, by rw [eS]; exact s2, by rw [eS]; exact s3, by rw [eS]; exact s4, by rw [eS]; exact s5, ?_⟩
  rw [show mI M2 c = mI M c from funext (hf c (Or.inl q1)), show mI M2 s = mI M s from funext (hf s (Or.inl q2)), show mI M2 e = mI M e from funext (hf e (Or.inl q3)), show mI M2 d = mI M d from funext (hf d (Or.inl q4)), show mI M2 u = mI M u from funext (hf u (Or.inl q5)), show (fun k => mI M2 73 (705 * i + k)) = fun k => mI M 73 (705 * i + k) from funext fun k => hf 73 (Or.inr rfl) _]
  exact t
theorem Sts.cg {X : Nat → Int32} {M M2 : fM} (hf : ∀ q, q < 6 → ∀ k, mI M2 q k = mI M q k) (hJ : ∀ k, mJ M2 2 k = mJ M 2 k) (h : Sts X M) : Sts X M2 := by
  obtain ⟨a, b, c, d⟩ := h
  exact ⟨fun i => by rw [hf 0 (by omega)]; exact a i, fun j hj => by rw [hf 4 (by omega)]; exact b j hj, fun j hj => by rw [hf 1 (by omega)]; exact c j hj, fun j hj => by rw [hJ]; exact d j hj⟩
theorem Frm.rf {P : Nat → Prop} {M : fM} : Frm P M M := ⟨rfl, fun _ => rfl, fun _ _ _ _ => rfl⟩
theorem Frm.tr {P : Nat → Prop} {M M1 M2 : fM} (h : Frm P M M1) (h2 : Frm P M1 M2) : Frm P M M2 := ⟨h2.1.trans h.1, fun k => (h2.2.1 k).trans (h.2.1 k), fun r hr k hk => (h2.2.2 r hr k hk).trans (h.2.2 r hr k hk)⟩
theorem Frm.mn {P Q : Nat → Prop} {M M1 : fM} (h : Frm P M M1) (hq : ∀ r, P r → Q r) : Frm Q M M1 := ⟨h.1, h.2.1, fun r hr k hk => h.2.2 r (fun c => hr (hq r c)) k hk⟩
theorem Frm.S {P : Nat → Prop} {M M1 : fM} {L : Nat} (h : Frm P M M1) (hS : Str L M) : Str L M1 := hS.nop h.1
theorem Frm.cX {M M1 : fM} {X : Nat → Int32} (h : Frm clr M M1) (hX : Sts X M) : Sts X M1 := hX.cg (fun q hq k => h.2.2 q (by unfold clr scr; omega) k (by omega)) h.2.1
theorem Frm.mX {M M1 : fM} {X : Nat → Int32} (h : Frm mdr M M1) (hX : Sts X M) : Sts X M1 := hX.cg (fun q hq k => h.2.2 q (by unfold mdr scr; omega) k (by omega)) h.2.1
theorem Frm.cM {M M1 : fM} {A : Nat → Nat} (h : Frm clr M M1) (hM : Mdl M 71 A) : Mdl M1 71 A := hM.cg fun k => h.2.2 71 (by unfold clr scr; omega) k (by omega)
theorem Frm.mC {M M1 : fM} {A : Nat → Nat} {nx : Nat} (h : Frm mdr M M1) (h5 : A 5 ≤ 30) (hC : Cls M 10 A nx) : Cls M1 10 A nx := hC.cg (fun q hq k => h.2.2 q (by unfold mdr scr; omega) k (by omega)) h5
theorem Okk.mn {B B2 : Nat} {A : Nat → Nat} (hB : B ≤ B2) (hB2 : B2 ≤ 1000000) (h : Okk B A) : Okk B2 A := by
  obtain ⟨o1, o2, o3, o4, o5, o6, o7⟩ := h
  refine ⟨?_, o2, o3, o4, fun k hk => ?_, o6, o7⟩
  · obtain ⟨s1, s2, s3, s4, s5, s6, s7, s8, s9, s10⟩ := o1
    exact ⟨s1, s2, s3, s4, s5, s6, s7, s8, by omega, hB2⟩
  · obtain ⟨s1, s2, s3, s4, s5, s6⟩ := o5 k hk
    exact ⟨s1, s2, s3, by omega, s5, s6⟩
/-- the end of all calls that leave the image, the tape, the texts as they are -/
theorem IV.now {L : Nat} {X : Nat → Int32} {B B2 : Nat} {A A' A2 : Nat → Nat} {nx nx' nx2 tl : Nat} {tp : Nat → Nat} {M M1 M2 : fM} (h : IV L X B A A' nx nx' tl tp M) (f1 : Frm clr M M1) (f2 : Frm mdr M1 M2) (hC : Cls M1 10 A2 nx2) (hM : Mdl M2 71 A2) (hB : B ≤ B2) (hO : Okk B2 A2) (hT : A2 3 = A 3) : Inv L X B2 M2 := by
  obtain ⟨a1, a2, a3, a3', a4, a4', a5, a6, a7, a8, a9⟩ := h
  have h3 : nop M2 = nop M := f2.1.trans f1.1
  have hf : ∀ r, ¬ clr r → ¬ mdr r → ∀ k, (r = 70 → k < 7) → mI M2 r k = mI M r k := fun r hr hr2 k hk => (f2.2.2 r hr2 k hk).trans (f1.2.2 r hr k hk)
  have hf2 : ∀ r, ¬ clr r → ¬ mdr r → r ≠ 70 → ∀ k, mI M2 r k = mI M r k := fun r hr hr2 h7 k => hf r hr hr2 k (fun e => absurd e h7)
  refine ⟨A2, A', nx2, nx', tl, tp, f2.S (f1.S a1), f2.mX (f1.cX a2), f2.mC hO.1.2.2.2.2.2.1 hC, hM, a4.cg (fun q hq => hf2 q (by unfold clr scr; omega) (by unfold mdr scr; omega) (by omega)) a6.1.2.2.2.2.2.1, a4'.cg (hf2 72 (by unfold clr scr; omega) (by unfold mdr scr; omega) (by omega)), hO, a6.mn hB hO.1.2.2.2.2.2.2.2.2.2, ?_, ?_, ?_⟩
  · obtain ⟨t1, t2, t3, t4⟩ := a7
    refine ⟨t1, (hf2 46 (by unfold clr scr; omega) (by unfold mdr scr; omega) (by omega) 1).trans t2, (hf 70 (by unfold clr scr; omega) (by unfold mdr scr; omega) 4 (by omega)).trans t3, fun k hk => ?_⟩
    rw [hf2 47 (by unfold clr scr; omega) (by unfold mdr scr; omega) (by omega), hf2 74 (by unfold clr scr; omega) (by unfold mdr scr; omega) (by omega)]
    exact t4 k hk
  · obtain ⟨g1, g2⟩ := a8
    unfold Flt
    rw [hf2 51 (by unfold clr scr; omega) (by unfold mdr scr; omega) (by omega), hf2 51 (by unfold clr scr; omega) (by unfold mdr scr; omega) (by omega), hf 70 (by unfold clr scr; omega) (by unfold mdr scr; omega) 5 (by omega), hf 70 (by unfold clr scr; omega) (by unfold mdr scr; omega) 6 (by omega)]
    exact ⟨g1, g2⟩
  · obtain ⟨x1, x2, x3, x4⟩ := a9
    refine ⟨by rw [hT]; exact x1, fun i hi => (x2 i (by rw [← hT]; exact hi)).cg h3 (fun q hq => hf2 q (by unfold clr scr; omega) (by unfold mdr scr; omega) (by omega)), fun i hi => ?_, fun r q i hi y e => ?_⟩
    · rw [nop_p h3 (by omega), nop_p h3 (by omega)]
      exact x3 i hi
    · have e2 : mP M r i = some y := by rw [← nop_p h3 (by omega)]; exact e
      have x := x4 r q i hi y e2
      unfold isO mS at x ⊢
      rw [nop_s h3]
      exact x
/-- the end of calls that change nothing that is kept -/
theorem IV.look {L : Nat} {X : Nat → Int32} {B : Nat} {A A' : Nat → Nat} {nx nx' tl : Nat} {tp : Nat → Nat} {M M1 M2 : fM} (h : IV L X B A A' nx nx' tl tp M) (f1 : Frm scr M M1) (f2 : Frm scr M1 M2) : Inv L X B M2 := by
  have h0 := h
  obtain ⟨a1, a2, a3, a3', a4, a4', a5, a6, a7, a8, a9⟩ := h
  exact h0.now (f1.mn fun r c => Or.inr c) (f2.mn fun r c => Or.inr c) (a3.cg (fun q hq k => f1.2.2 q (by unfold scr; omega) k (by omega)) a5.1.2.2.2.2.2.1) ((f2.mn fun r c => Or.inr c : Frm clr M1 M2).cM ((f1.mn fun r c => Or.inr c : Frm clr M M1).cM a3')) (Nat.le_refl _) a5 rfl
/-- the end of calls that change the tape alone -/
theorem IV.tap {L : Nat} {X : Nat → Int32} {B : Nat} {A A' : Nat → Nat} {nx nx' tl tl2 : Nat} {tp tp2 : Nat → Nat} {M M2 : fM} (h : IV L X B A A' nx nx' tl tp M) (h3 : M2.2.2 = M.2.2) (hJ : ∀ k, mJ M2 2 k = mJ M 2 k) (hf : ∀ r, ¬ (r = 46 ∨ r = 47 ∨ r = 74 ∨ scr r) → ∀ k, (r = 70 → k < 7 ∧ k ≠ 4) → mI M2 r k = mI M r k) (hT : Tap M2 tl2 tp2) : Inv L X B M2 := by
  obtain ⟨a1, a2, a3, a3', a4, a4', a5, a6, a7, a8, a9⟩ := h
  have hf2 : ∀ r, ¬ (r = 46 ∨ r = 47 ∨ r = 74 ∨ scr r) → r ≠ 70 → ∀ k, mI M2 r k = mI M r k := fun r hr h7 k => hf r hr k (fun e => absurd e h7)
  refine ⟨A, A', nx, nx', tl2, tp2, ?_, a2.cg (fun q hq => hf2 q (by unfold scr; omega) (by omega)) hJ, a3.cg (fun q hq => hf2 q (by unfold scr; omega) (by omega)) a5.1.2.2.2.2.2.1, a3'.cg (hf2 71 (by unfold scr; omega) (by omega)), a4.cg (fun q hq => hf2 q (by unfold scr; omega) (by omega)) a6.1.2.2.2.2.2.1, a4'.cg (hf2 72 (by unfold scr; omega) (by omega)), a5, a6, hT, ?_, ?_⟩
  · unfold Str
    rw [h3]
    exact a1
  · obtain ⟨g1, g2⟩ := a8
    unfold Flt
    rw [hf2 51 (by unfold scr; omega) (by omega), hf2 51 (by unfold scr; omega) (by omega), hf 70 (by unfold scr; omega) 5 (by omega), hf 70 (by unfold scr; omega) 6 (by omega)]
    exact ⟨g1, g2⟩
  · obtain ⟨x1, x2, x3, x4⟩ := a9
    refine ⟨x1, fun i hi => (x2 i hi).cg (nop_e h3) (fun q hq => hf2 q (by unfold scr; omega) (by omega)), fun i hi => ?_, fun r q i hi y e => ?_⟩
    · have eP : ∀ q k, mP M2 q k = mP M q k := fun q k => by unfold mP; rw [h3]
      rw [eP, eP]
      exact x3 i hi
    · have e2 : mP M r i = some y := by unfold mP at e ⊢; rw [← h3]; exact e
      have x := x4 r q i hi y e2
      unfold isO mS at x ⊢
      rw [h3]
      exact x
theorem IV.inv {L : Nat} {X : Nat → Int32} {B : Nat} {A A' : Nat → Nat} {nx nx' tl : Nat} {tp : Nat → Nat} {M : fM} (h : IV L X B A A' nx nx' tl tp M) : Inv L X B M := ⟨_, _, _, _, _, _, h⟩
theorem mI_s {M : fM} {r k : Nat} {v : Int32} {r' k' : Nat} (e : r' = r) (e2 : k' = k) : mI (wI M r k v) r' k' = v := by rw [mI_wI, if_pos ⟨e, e2⟩]
theorem mI_n {M : fM} {r k : Nat} {v : Int32} {r' k' : Nat} (e : r' ≠ r ∨ k' ≠ k) : mI (wI M r k v) r' k' = mI M r' k' := by rw [mI_wI, if_neg (by omega)]
theorem mI_fs {M : fM} {r a b : Nat} {v : Int32} {r' j : Nat} (e : r' = r) (e2 : a ≤ j) (e3 : j < b) : mI (fil M r a b v) r' j = v := by rw [mI_fil, if_pos ⟨e, e2, e3⟩]
theorem mI_fn {M : fM} {r a b : Nat} {v : Int32} {r' j : Nat} (e : r' ≠ r ∨ j < a ∨ b ≤ j) : mI (fil M r a b v) r' j = mI M r' j := by rw [mI_fil, if_neg (by omega)]
theorem OkH.cg {A A2 : Nat → Nat} (hA : ∀ k, 10 ≤ k → k < 82 → A2 k = A k) (h : OkH A) : OkH A2 := by
  intro i hi
  obtain ⟨a1, a2, a3, a4, a5⟩ := h i hi
  rw [hA _ (by omega) (by omega), hA _ (by omega) (by omega), hA _ (by omega) (by omega)]
  refine ⟨a1, a2, a3, a4, fun j hj => ?_⟩
  rw [hA _ (by omega) (by omega)]
  exact a5 j hj
theorem OkP.cg {A A2 : Nat → Nat} (h0 : A2 0 = A 0) (hA : ∀ k, 82 ≤ k → A2 k = A k) (h : OkP A) : OkP A2 := by
  intro p hp
  rw [hA _ (by omega), hA _ (by omega), hA _ (by omega)]
  exact h p (by omega)
theorem OkW.cg {A A2 : Nat → Nat} (h0 : A 0 ≤ A2 0) (hA : ∀ k, 100 ≤ k → k < 109 → A2 k = A k) (hn : ∀ i, i < 4 → A2 (10 + 18 * i) = A (10 + 18 * i)) (h : OkW A) : OkW A2 := by
  obtain ⟨a1, a2, a3⟩ := h
  unfold OkW
  rw [hA 108 (by omega) (by omega), hA 101 (by omega) (by omega), hA 100 (by omega) (by omega), hA 102 (by omega) (by omega), hA 103 (by omega) (by omega), hn (A 101) a2]
  exact ⟨a1, a2, fun e => ⟨Nat.lt_of_lt_of_le (a3 e).1 h0, (a3 e).2.1, (a3 e).2.2⟩⟩
theorem OkA.cg {B : Nat} {A A2 : Nat → Nat} (h0 : A 0 ≤ A2 0) (h5 : A2 5 = A 5) (hA : ∀ k, 157 ≤ k → A2 k = A k) (h : OkA B A) : OkA B A2 := by
  intro k hk
  rw [h5] at hk
  obtain ⟨a1, a2, a3, a4, a5, a6⟩ := h k hk
  rw [hA (157 + 12 * k + 8) (by omega), hA (157 + 12 * k + 1) (by omega), hA (157 + 12 * k + 0) (by omega), hA (157 + 12 * k + 2) (by omega), hA (157 + 12 * k + 3) (by omega), hA (157 + 12 * k + 9) (by omega), hA (157 + 12 * k + 10) (by omega), hA (157 + 12 * k + 11) (by omega)]
  exact ⟨a1, a2, fun e => ⟨Nat.lt_of_lt_of_le (a3 e).1 h0, (a3 e).2.1, (a3 e).2.2⟩, a4, a5, a6⟩
theorem OkG.cg {A A2 : Nat → Nat} (h0 : A 0 ≤ A2 0) (h6 : A2 6 = A 6) (hA : ∀ k, 109 ≤ k → k < 157 → A2 k = A k) (h : OkG A) (h12 : A 6 ≤ 12 := by omega) : OkG A2 := by
  intro k hk
  rw [h6] at hk
  obtain ⟨a1, a2, a3, a4, a5⟩ := h k hk
  rw [hA (109 + 4 * k + 0) (by omega) (by omega), hA (109 + 4 * k + 1) (by omega) (by omega), hA (109 + 4 * k + 2) (by omega) (by omega), hA (109 + 4 * k + 3) (by omega) (by omega)]
  exact ⟨Nat.lt_of_lt_of_le a1 h0, a2, a3, a4, a5⟩
theorem OkB.cg {A A2 : Nat → Nat} (hA : ∀ k, 517 ≤ k → A2 k = A k) (h : OkB A) : OkB A2 := fun i hi => by rw [hA _ (by omega)]; exact h i hi
/-- which HOUSES are told of, one more -/
def tl_ (t h : Nat) : Nat := t ||| 2 ^ h
theorem tl_all : ∀ t, t < 16 → ∀ h, h < 4 → nI t ||| ((1 : Int32) <<< (nI h &&& 31)) = nI (tl_ t h) ∧ tl_ t h < 16 ∧ tl_ t h / 2 ^ h % 2 = 1 ∧ ∀ i, i < 4 → i ≠ h → tl_ t h / 2 ^ i % 2 = t / 2 ^ i % 2 := by decide +kernel
theorem tl_or {t h : Nat} (ht : t < 16) (hh : h < 4) : nI t ||| (nI 1 <<< (nI h &&& nI 31)) = nI (tl_ t h) := (tl_all t ht h hh).1
theorem RlH.tell {M M2 : fM} {A A2 : Nat → Nat} {h : Nat} (hh : h < 4) (h7 : A 7 < 16) (old : RlH M 10 A) (ho : ∀ q, 20 ≤ q → q ≤ 27 → q ≠ 20 + 2 * h → q ≠ 21 + 2 * h → ∀ k, mI M2 q k = mI M q k) (e0 : mI M2 (20 + 2 * h) 0 = nI (A2 (10 + 18 * h))) (e2 : mI M2 (20 + 2 * h) 2 = nI (A2 (10 + 18 * h + 1))) (e3 : mI M2 (20 + 2 * h) 3 = nI (A2 (10 + 18 * h + 2))) (e4 : mI M2 (20 + 2 * h) 4 = 1) (ej : ∀ j, j < 15 → mI M2 (21 + 2 * h) j = nI (A2 (10 + 18 * h + 3 + j))) (hA7 : A2 7 = tl_ (A 7) h) (hA : ∀ i, i < 4 → i ≠ h → ∀ k, k < 18 → A2 (10 + 18 * i + k) = A (10 + 18 * i + k)) : RlH M2 10 A2 := by
  obtain ⟨-, -, t1, t2⟩ := tl_all _ h7 h hh
  intro i hi
  by_cases e : i = h
  · subst e
    rw [hA7, t1]
    exact ⟨e0, e2, e3, e4, ej⟩
  · obtain ⟨a1, a2, a3, a4, a5⟩ := old i hi
    rw [hA7, t2 i hi e, ho _ (by omega) (by omega) (by omega) (by omega), ho _ (by omega) (by omega) (by omega) (by omega), ho _ (by omega) (by omega) (by omega) (by omega), ho _ (by omega) (by omega) (by omega) (by omega), hA i hi e 1 (by omega), hA i hi e 2 (by omega), show A2 (10 + 18 * i) = A (10 + 18 * i) from hA i hi e 0 (by omega)]
    refine ⟨a1, a2, a3, a4, fun j hj => ?_⟩
    have hj2 := hA i hi e (3 + j) (by omega)
    rw [← Nat.add_assoc] at hj2
    rw [ho (10 + 11 + 2 * i) (by omega) (by omega) (by omega) (by omega), hj2]
    exact a5 j hj
theorem OkH.one {A A2 : Nat → Nat} {h : Nat} (hh : h < 4) (hA : ∀ i, i < 4 → i ≠ h → ∀ k, k < 18 → A2 (10 + 18 * i + k) = A (10 + 18 * i + k)) (e0 : 1 ≤ A2 (10 + 18 * h) ∧ A2 (10 + 18 * h) ≤ 14) (e2 : A2 (10 + 18 * h + 2) ≤ 14) (e3 : A2 (10 + 18 * h + 3 + 0) = 5) (ej : ∀ j, j < 15 → 1 ≤ A2 (10 + 18 * h + 3 + j) ∧ A2 (10 + 18 * h + 3 + j) ≤ 9) (old : OkH A) : OkH A2 := by
  intro i hi
  by_cases e : i = h
  · subst e
    exact ⟨e0.1, e0.2, e2, e3, ej⟩
  · obtain ⟨a1, a2, a3, a4, a5⟩ := old i hi
    rw [hA i hi e 2 (by omega), show A2 (10 + 18 * i) = A (10 + 18 * i) from hA i hi e 0 (by omega), show A2 (10 + 18 * i + 3 + 0) = A (10 + 18 * i + 3 + 0) from hA i hi e 3 (by omega)]
    refine ⟨a1, a2, a3, a4, fun j hj => ?_⟩
    have hj2 := hA i hi e (3 + j) (by omega)
    rw [← Nat.add_assoc] at hj2
    rw [hj2]
    exact a5 j hj
/-! ===== rows written over by a loop; the model's numbers behind it ===== -/
def shI (M : fM) (r a b d : Nat) : fM := (fun r' j => if r' = r ∧ a ≤ j ∧ j < b then M.1 r (j + d) else M.1 r' j, M.2)
theorem mI_shI (M : fM) (r a b d : Nat) (r' j : Nat) : mI (shI M r a b d) r' j = if r' = r ∧ a ≤ j ∧ j < b then mI M r (j + d) else mI M r' j := rfl
theorem mext {M M2 : fM} (h2 : M.2 = M2.2) (h : ∀ r j, mI M r j = mI M2 r j) : M = M2 := Prod.ext (funext fun r => funext fun j => h r j) h2
theorem cp_0 (M : fM) (r0 r1 s d : Nat) : cpI M r0 r1 s d 0 = M := mext rfl fun r j => by rw [mI_cpI, if_neg (by omega)]
theorem fil_0 {M : fM} {r a b : Nat} {v : Int32} (h : b ≤ a) : fil M r a b v = M := mext rfl fun r j => by rw [mI_fil, if_neg (by omega)]
theorem sh_0 {M : fM} {r a b d : Nat} (h : b ≤ a) : shI M r a b d = M := mext rfl fun r j => by rw [mI_shI, if_neg (by omega)]
theorem fil_s {M : fM} {r a b : Nat} {v : Int32} (h : a < b) : fil (wI M r a v) r (a + 1) b v = fil M r a b v := by
  refine mext rfl fun r' j => ?_
  rw [mI_fil, mI_fil, mI_wI]
  by_cases e : r' = r ∧ a ≤ j ∧ j < b
  · rw [if_pos e]
    by_cases e2 : j = a
    · rw [if_neg (by omega), if_pos (by omega)]
    · rw [if_pos (by omega)]
  · rw [if_neg e, if_neg (by omega), if_neg (by omega)]
theorem cp_s {M : fM} {r0 r1 s d m : Nat} (h : r0 ≠ r1 ∨ d < s + 1 ∨ s + m < d) : cpI (wI M r1 d (mI M r0 s)) r0 r1 (s + 1) (d + 1) m = cpI M r0 r1 s d (m + 1) := by
  refine mext rfl fun r j => ?_
  rw [mI_cpI, mI_cpI, mI_wI, mI_wI]
  by_cases e : r = r1 ∧ d ≤ j ∧ j < d + (m + 1)
  · rw [if_pos e]
    by_cases e2 : j = d
    · rw [if_neg (by omega), if_pos (by omega), e2, Nat.sub_self, Nat.add_zero]
    · rw [if_pos (by omega), if_neg (by omega), show s + 1 + (j - (d + 1)) = s + (j - d) by omega]
  · rw [if_neg e, if_neg (by omega), if_neg (by omega)]
theorem sh_s {M : fM} {r a b d : Nat} (h : a < b) (hd : 0 < d) : shI (wI M r a (mI M r (a + d))) r (a + 1) b d = shI M r a b d := by
  refine mext rfl fun r' j => ?_
  rw [mI_shI, mI_shI, mI_wI, mI_wI]
  by_cases e : r' = r ∧ a ≤ j ∧ j < b
  · rw [if_pos e]
    by_cases e2 : j = a
    · rw [if_neg (by omega), if_pos (by omega), e2]
    · rw [if_pos (by omega), if_neg (by omega)]
  · rw [if_neg e, if_neg (by omega), if_neg (by omega)]
theorem mI_ci {M : fM} {r0 r1 s d n r j : Nat} (h : r = r1) (h1 : d ≤ j) (h2 : j < d + n) : mI (cpI M r0 r1 s d n) r j = mI M r0 (s + (j - d)) := by rw [mI_cpI, if_pos ⟨h, h1, h2⟩]
theorem mI_co {M : fM} {r0 r1 s d n r j : Nat} (h : r ≠ r1 ∨ j < d ∨ d + n ≤ j) : mI (cpI M r0 r1 s d n) r j = mI M r j := by rw [mI_cpI, if_neg (by omega)]
theorem mI_si {M : fM} {r0 a b d r j : Nat} (h : r = r0) (h1 : a ≤ j) (h2 : j < b) : mI (shI M r0 a b d) r j = mI M r0 (j + d) := by rw [mI_shI, if_pos ⟨h, h1, h2⟩]
theorem mI_so {M : fM} {r0 a b d r j : Nat} (h : r ≠ r0 ∨ j < a ∨ b ≤ j) : mI (shI M r0 a b d) r j = mI M r j := by rw [mI_shI, if_neg (by omega)]
def cpA (A : Nat → Nat) (s d n : Nat) : Nat → Nat := fun j => if d ≤ j ∧ j < d + n then A (s + (j - d)) else A j
def shA (A : Nat → Nat) (a b d : Nat) : Nat → Nat := fun j => if a ≤ j ∧ j < b then A (j + d) else A j
def fiA (A : Nat → Nat) (a b v : Nat) : Nat → Nat := fun j => if a ≤ j ∧ j < b then v else A j
theorem cpA_i {A : Nat → Nat} {s d n j : Nat} (h : d ≤ j) (h2 : j < d + n) : cpA A s d n j = A (s + (j - d)) := if_pos ⟨h, h2⟩
theorem cpA_o {A : Nat → Nat} {s d n j : Nat} (h : j < d ∨ d + n ≤ j) : cpA A s d n j = A j := if_neg (by omega)
theorem shA_i {A : Nat → Nat} {a b d j : Nat} (h : a ≤ j) (h2 : j < b) : shA A a b d j = A (j + d) := if_pos ⟨h, h2⟩
theorem shA_o {A : Nat → Nat} {a b d j : Nat} (h : j < a ∨ b ≤ j) : shA A a b d j = A j := if_neg (by omega)
theorem fiA_i {A : Nat → Nat} {a b v j : Nat} (h : a ≤ j) (h2 : j < b) : fiA A a b v j = v := if_pos ⟨h, h2⟩
theorem fiA_o {A : Nat → Nat} {a b v j : Nat} (h : j < a ∨ b ≤ j) : fiA A a b v j = A j := if_neg (by omega)
theorem Mdl.w {M : fM} {r k x : Nat} {A : Nat → Nat} {v : Int32} (hk : k ≠ 4) (hv : v = nI x) (h : Mdl M r A) : Mdl (wI M r k v) r (up A k x) := by
  refine ⟨fun j h1 h2 => ?_, ?_⟩
  · rw [mI_wI]
    unfold up
    by_cases e : j = k
    · rw [if_pos ⟨rfl, e⟩, if_pos e]; exact hv
    · rw [if_neg (by omega), if_neg e]; exact h.1 j h1 h2
  · rw [mI_n (by omega), up_n (by omega)]; exact h.2
theorem Mdl.o {M : fM} {r r' k : Nat} {A : Nat → Nat} {v : Int32} (hk : r' ≠ r) (h : Mdl M r A) : Mdl (wI M r' k v) r A := h.cg fun k => by rw [mI_wI, if_neg (by omega)]
theorem Mdl.cp {M : fM} {r s d n : Nat} {A : Nat → Nat} (hd : 4 < d) (hs : 4 < s) (hn : s + n ≤ 2565) (h : Mdl M r A) : Mdl (cpI M r r s d n) r (cpA A s d n) := by
  refine ⟨fun j h1 h2 => ?_, ?_⟩
  · rw [mI_cpI]
    unfold cpA
    by_cases e : d ≤ j ∧ j < d + n
    · rw [if_pos ⟨rfl, e.1, e.2⟩, if_pos e]; exact h.1 _ (by omega) (by omega)
    · rw [if_neg (by omega), if_neg e]; exact h.1 j h1 h2
  · rw [mI_cpI, if_neg (by omega), cpA_o (by omega)]; exact h.2
theorem Mdl.sh {M : fM} {r a b d : Nat} {A : Nat → Nat} (ha : 4 < a) (hn : b + d ≤ 2565) (h : Mdl M r A) : Mdl (shI M r a b d) r (shA A a b d) := by
  refine ⟨fun j h1 h2 => ?_, ?_⟩
  · rw [mI_shI]
    unfold shA
    by_cases e : a ≤ j ∧ j < b
    · rw [if_pos ⟨rfl, e.1, e.2⟩, if_pos e]; exact h.1 _ (by omega) (by omega)
    · rw [if_neg (by omega), if_neg e]; exact h.1 j h1 h2
  · rw [mI_shI, if_neg (by omega), shA_o (by omega)]; exact h.2
theorem Mdl.fi {M : fM} {r a b x : Nat} {A : Nat → Nat} (ha : 4 < a) (h : Mdl M r A) : Mdl (fil M r a b (nI x)) r (fiA A a b x) := by
  refine ⟨fun j h1 h2 => ?_, ?_⟩
  · rw [mI_fil]
    unfold fiA
    by_cases e : a ≤ j ∧ j < b
    · rw [if_pos ⟨rfl, e.1, e.2⟩, if_pos e]
    · rw [if_neg (by omega), if_neg e]; exact h.1 j h1 h2
  · rw [mI_fil, if_neg (by omega), fiA_o (by omega)]; exact h.2
theorem mid {α : Type} {L B : Nat} {X : Nat → Int32} {w : fM → (α → fM → Prop) → Prop} {v : α} {M M1 : fM} {φ : α → fM → Prop} (hS : Str L M) (hX : Sts X M) (hz : ∀ v M1, Mid L X B w v M1 → φ v M1) (f : Frm clr M M1) (h : Frm clr M M1 → ∀ Ψ : α → fM → Prop, (∀ M2, Inv L X B M2 → Ψ v M2) → w M1 Ψ) : φ v M1 := hz _ _ ⟨f.S hS, f.cX hX, h f⟩
