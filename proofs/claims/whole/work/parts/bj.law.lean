/-! ===== TEXT: the one reads a LAW, and a CLAUSE ===== -/
def pL (so r k : Nat) : Prop := (r = 51 ∧ (k = 0 ∨ k = 1 ∨ k = 8 ∨ k = 10 ∨ k = 11 ∨ k = 12 ∨ k = 13)) ∨ r = 52 ∨ ((r = 53 ∨ r = 54) ∧ k = so)
theorem FrX.lC {so : Nat} {M M2 : fM} (f : FrX (pL so) M M2) : FrX pCl M M2 := f.mn fun r k h => by unfold pL at h; unfold pCl; omega
theorem FrX.rL {so : Nat} {M M2 : fM} (f : FrX pR M M2) : FrX (pL so) M M2 := f.mn fun r k h => by unfold pR at h; unfold pL; omega
theorem FrX.oL {so : Nat} {M M2 : fM} (f : FrX pO M M2) : FrX (pL so) M M2 := f.r.rL
theorem c_law {L tl so i : Nat} {tp : Nat → Nat} {E : List (Nat × Nat)} {M : fM} {φ : Int32 → fM → Prop} (htl : tl ≤ 300) (hso : so < 5) (hS : Str L M) (hA : ArC M tp tl) (rs : RS M tp tl E i) (hE : E.length ≤ i) (hz1 : ∀ M2 em j, FrX (pL so) M M2 → RS M2 tp tl (E ++ em) j → mI M2 53 so = nI E.length → mI M2 54 so = nI (E ++ em).length → em.length + i ≤ j → 0 < em.length → cdOk so em → LwR (TKk tp tl) (TKv tp tl) so i em j → (∀ q, q < 2 → mI M2 51 q = mI M 51 q) → φ 1 M2) (hz0 : ∀ M2 f k, FrX (pL so) M M2 → mI M2 51 0 = nI f → mI M2 51 1 = nI (poS tp tl k) → (f = 1 ∨ f = 2 ∨ f = 3 ∨ f = 5) → LwF (TKk tp tl) (TKv tp tl) so i f k → φ 0 M2) : w_X4_readLaw 51 (nI so) M φ := by
  refine ⟨isO_pt hS (by decide) rfl, st_of (dR_of (Str.pg (FrX.S (P := pL so) (FrX.w (Or.inl ⟨rfl, by omega⟩)) hS) rfl) ?_)⟩
  have f1 : FrX (pL so) M (wI M 51 10 (nI so)) := FrX.w (Or.inl ⟨rfl, by omega⟩)
  have hS1 := f1.S hS
  rw [show mI (wI M 51 10 (nI so)) 51 8 = nI E.length from (mI_n (by omega)).trans rs.2.2.2.1]
  refine c_putN (k := so) (by omega) (Str.sh hS1 52 _ rfl) rfl (by omega) (by omega) ?_
  have f2 : FrX (pL so) M (wI (wI M 51 10 (nI so)) 53 so (nI E.length)) := f1.tr (FrX.w (Or.inr (Or.inr ⟨Or.inl rfl, rfl⟩)))
  have g53 : mI (wI (wI M 51 10 (nI so)) 53 so (nI E.length)) 53 so = nI E.length := mI_s rfl rfl
  have g10 : mI (wI (wI M 51 10 (nI so)) 53 so (nI E.length)) 51 10 = nI so := (mI_n (by omega)).trans (mI_s rfl rfl)
  have rs2 : RS (wI (wI M 51 10 (nI so)) 53 so (nI E.length)) tp tl E i := rs.of fun r k h => (mI_n (by unfold pO at h; omega)).trans (mI_n (by unfold pO at h; omega))
  have g01 : ∀ q, q < 2 → mI (wI (wI M 51 10 (nI so)) 53 so (nI E.length)) 51 q = mI M 51 q := fun q hq => (mI_n (by omega)).trans (mI_n (by omega))
  generalize wI (wI M 51 10 (nI so)) 53 so (nI E.length) = M1 at f2 g53 g10 rs2 g01 ⊢
  have hS2 := f2.S hS
  have hA2 := hA.c f2.lC
  have j35 : ∀ (s0 : Int32) (M2 : fM) (n : Nat), FrX pR M1 M2 → mI M2 51 8 = nI n → isB s0 → φ s0 (wI M2 54 so (nI n)) → j_X4_readLaw_35 φ 51 (nI so) s0 M2 := by
    intro s0 M2 n f h8 hb hz
    have hS3 := f.S hS2
    refine ⟨isO_pt hS3 (by decide) rfl, dR_of (Str.pg hS3 rfl) ?_⟩
    rw [h8]
    exact c_putN (k := so) (by omega) (Str.sh hS3 53 _ rfl) rfl (by omega) (by omega) ⟨hb, hz⟩
  have f54 : ∀ (M2 : fM) (v : Int32), FrX (pL so) M2 (wI M2 54 so v) := fun M2 v => FrX.w (Or.inr (Or.inr ⟨Or.inr rfl, rfl⟩))
  have fin0 : ∀ M2 f k, FrX pR M1 M2 → mI M2 51 0 = nI f → mI M2 51 1 = nI (poS tp tl k) → (f = 1 ∨ f = 2 ∨ f = 3 ∨ f = 5) → LwF (TKk tp tl) (TKv tp tl) so i f k → j_X4_readLaw_35 φ 51 (nI so) (0 : Int32) M2 := by
    intro M2 f k fr e0 e1 hf rf
    have hS3 := fr.S hS2
    refine ⟨isO_pt hS3 (by decide) rfl, dR_of (Str.pg hS3 rfl) (c_putN (k := so) (by omega) (Str.sh hS3 53 _ rfl) rfl (by omega) (by omega) ⟨isB0, hz0 _ f k ((f2.tr fr.rL).tr (f54 _ _)) ((mI_n (by omega)).trans e0) ((mI_n (by omega)).trans e1) hf rf⟩)⟩
  by_cases z : so = 2
  · have ed : dLw so = 41 := if_pos z
    refine iF_t (by rw [z]; rfl) ⟨isO_pt hS2 (by decide) rfl, cl_eith (so := so) htl (by omega) hS2 hA2 rs2 g10 hE (fun M2 em j Q f r hl hl0 ty po ok => ?_) (fun M2 f j fr e0 e1 hf rf => fin0 M2 f j fr e0 e1 hf (by unfold LwF; rw [ed]; exact rf))⟩
    refine j35 1 M2 (E ++ em).length f.r r.2.2.2.1 isB1 (hz1 _ em j ((f2.tr f.oL).tr (f54 _ _)) (r.of fun r k h => mI_n (by unfold pO at h; omega)) ((mI_n (by omega)).trans ((f.2 53 so (by unfold pO; omega)).trans g53)) (mI_s rfl rfl) hl hl0 ⟨?_, ty.2⟩ ⟨Q, by rw [ed]; exact ok, po.1, ?_, fun _ => po.2.1⟩ fun q hq => (mI_n (by omega)).trans ((f.2 51 q (by unfold pO; omega)).trans (g01 q hq)))
    · rw [ty.1 [], decide_eq_true z]
    · exact bwO_99 po.2.2.2.2.1 po.2.2.2.2.2.1 po.2.2.1 po.2.2.2.1 (Or.inr ⟨po.2.1, po.2.2.2.2.2.2⟩)
  · have ed : dLw so = 40 := if_neg z
    refine iF_f (fun c => z (nI_inj (b := 2) (by omega) (by omega) c)) ⟨isO_pt hS2 (by decide) rfl, cl_sum (so := so) (d0 := 40) htl (by omega) (by decide) hS2 hA2 rs2 g10 hE (fun M2 em j Q f r hl hl0 ty po ok => ?_) (fun M2 f j fr e0 e1 hf rf => fin0 M2 f j fr e0 e1 hf (by unfold LwF; rw [ed]; exact rf))⟩
    refine j35 1 M2 (E ++ em).length f.r r.2.2.2.1 isB1 (hz1 _ em j ((f2.tr f.oL).tr (f54 _ _)) (r.of fun r k h => mI_n (by unfold pO at h; omega)) ((mI_n (by omega)).trans ((f.2 53 so (by unfold pO; omega)).trans g53)) (mI_s rfl rfl) hl hl0 ⟨?_, ty.2⟩ ⟨Q, by rw [ed]; exact ok, fun x hx => ⟨Nat.le_trans (by omega) (po.1 x hx).1, (po.1 x hx).2⟩, ?_, fun c => absurd c z⟩ fun q hq => (mI_n (by omega)).trans ((f.2 51 q (by unfold pO; omega)).trans (g01 q hq)))
    · rw [ty.1 [], decide_eq_false z]
    · refine bwO_99 po.2.2.2.1 po.2.2.2.2 po.2.1 po.2.2.1 (Or.inl ?_)
      rw [mkK_q Q fun x hx => (po.1 x hx).2]
      show dLw so ≠ 41
      omega
def CcA (M : fM) (CL : List Cl) : Prop := mI M 51 9 = nI CL.length ∧ (∀ (k : Nat) (c : Cl), CL[k]? = some c → mI M 55 k = nI c.1 ∧ (c.1 < 5 → mI M 53 c.1 = nI (c.2 1) ∧ mI M 54 c.1 = nI (c.2 2)) ∧ (5 ≤ c.1 → ∀ j, j < arN c.1 → mI M 56 (3 * k + j) = nI (c.2 j))) ∧ ∀ s, s < 5 → (∀ c ∈ CL, c.1 ≠ s) → mI M 54 s = 0
def WfC (CL : List Cl) (E : List (Nat × Nat)) : Prop := CL.length ≤ 24 ∧ (∀ c ∈ CL, c.1 ≤ 16 ∧ (c.1 < 5 → c.2 1 < c.2 2 ∧ c.2 2 ≤ E.length ∧ cdOk c.1 ((E.drop (c.2 1)).take (c.2 2 - c.2 1))) ∧ (c.1 = 13 ∨ c.1 = 14 ∨ c.1 = 16 → 1 ≤ c.2 0 ∧ c.2 0 ≤ 99)) ∧ ∀ (k k' : Nat) (c c' : Cl), CL[k]? = some c → CL[k']? = some c' → c.1 = c'.1 → c.1 < 5 → k = k'
def Bdy (T V : Nat → Nat) (so i : Nat) (em : List (Nat × Nat)) (j : Nat) : Prop := (so < 5 ∧ LwR T V so i em j) ∨ (5 ≤ so ∧ em = [] ∧ ddN T V (shD so) i = (0, j))
def clF (V : Nat → Nat) (n m so i : Nat) : Nat → Nat := fun k => if so < 5 then (if k = 1 then n else m) else V (i + 2 * k)
def cla (T V : Nat → Nat) (E em : List (Nat × Nat)) (i : Nat) : Cl := (T i, clF V E.length (E ++ em).length (T i) (i + 1))
def unS (T : Nat → Nat) (CL : List Cl) (i : Nat) : Prop := T i ≤ 16 ∧ (T i < 5 → ∀ x ∈ CL, x.1 ≠ T i)
def ClR (T V : Nat → Nat) (CL : List Cl) (i : Nat) (em : List (Nat × Nat)) (j : Nat) : Prop := unS T CL i ∧ CL.length < 24 ∧ Bdy T V (T i) (i + 1) em j ∧ T j = 52 ∧ em.length + i ≤ j
def ClF (T V : Nat → Nat) (CL : List Cl) (i f k : Nat) : Prop := (16 < T i ∧ f = 1 ∧ k = i) ∨ (T i < 5 ∧ (∃ x ∈ CL, x.1 = T i) ∧ f = 4 ∧ k = i) ∨ (unS T CL i ∧ CL.length = 24 ∧ f = 6 ∧ k = i) ∨ (unS T CL i ∧ CL.length < 24 ∧ ((T i < 5 ∧ LwF T V (T i) (i + 1) f k) ∨ (5 ≤ T i ∧ ddN T V (shD (T i)) (i + 1) = (f, k)) ∨ (∃ em, Bdy T V (T i) (i + 1) em k ∧ T k ≠ 52 ∧ f = 1)))
theorem get_snoc {α : Type} {l : List α} {x y : α} {k : Nat} (h : (l ++ [x])[k]? = some y) : (k < l.length ∧ l[k]? = some y) ∨ (k = l.length ∧ y = x) := by
  by_cases e : k < l.length
  · rw [List.getElem?_append_left e] at h
    exact Or.inl ⟨e, h⟩
  · have hk : k < (l ++ [x]).length := (List.getElem?_eq_some_iff.mp h).1
    rw [List.length_append] at hk
    have hk : k < l.length + 1 := hk
    have e : k = l.length := by omega
    subst e
    rw [List.getElem?_append_right (Nat.le_refl _), Nat.sub_self] at h
    exact Or.inr ⟨rfl, (Option.some.inj h).symm⟩
theorem WfC.sn {CL : List Cl} {E em : List (Nat × Nat)} {c : Cl} (h : WfC CL E) (hl : CL.length < 24) (h16 : c.1 ≤ 16) (hu : c.1 < 5 → ∀ x ∈ CL, x.1 ≠ c.1) (h5 : c.1 < 5 → c.2 1 = E.length ∧ c.2 2 = (E ++ em).length ∧ 0 < em.length ∧ cdOk c.1 em) (hn : c.1 = 13 ∨ c.1 = 14 ∨ c.1 = 16 → 1 ≤ c.2 0 ∧ c.2 0 ≤ 99) : WfC (CL ++ [c]) (E ++ em) := by
  obtain ⟨a1, a2, a3⟩ := h
  refine ⟨?_, fun x hx => ?_, fun k k' x x' hk hk' e lt => ?_⟩
  · rw [List.length_append]
    show CL.length + 1 ≤ 24
    omega
  · rcases List.mem_append.mp hx with hx | hx
    · obtain ⟨b1, b2, b3⟩ := a2 x hx
      refine ⟨b1, fun lt => ?_, b3⟩
      obtain ⟨c1, c2, c3⟩ := b2 lt
      refine ⟨c1, by rw [List.length_append]; omega, ?_⟩
      rw [List.drop_append_of_le_length (by omega), List.take_append_of_le_length (by rw [List.length_drop]; omega)]
      exact c3
    · have ex : x = c := List.mem_singleton.mp hx
      subst ex
      refine ⟨h16, fun lt => ?_, hn⟩
      obtain ⟨d1, d2, d3, d4⟩ := h5 lt
      rw [List.length_append] at d2
      refine ⟨by omega, by rw [List.length_append]; omega, ?_⟩
      rw [d1, d2, List.drop_left, Nat.add_sub_cancel_left, List.take_length]
      exact d4
  · rcases get_snoc hk with ⟨l1, g1⟩ | ⟨l1, g1⟩
    · rcases get_snoc hk' with ⟨l2, g2⟩ | ⟨l2, g2⟩
      · exact a3 k k' x x' g1 g2 e lt
      · subst g2
        exact absurd e (hu (by omega) x (List.mem_of_getElem? g1))
    · rcases get_snoc hk' with ⟨l2, g2⟩ | ⟨l2, g2⟩
      · subst g1
        exact absurd e.symm (hu lt x' (List.mem_of_getElem? g2))
      · omega
