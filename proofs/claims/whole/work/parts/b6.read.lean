/-! ===== TEXT: the one reads TOKENS against the machine ===== -/
def pO (r k : Nat) : Prop := (r = 51 ∧ (k = 8 ∨ k = 11 ∨ k = 12 ∨ k = 13)) ∨ r = 52
def pR (r k : Nat) : Prop := (r = 51 ∧ (k = 0 ∨ k = 1 ∨ k = 8 ∨ k = 11 ∨ k = 12 ∨ k = 13)) ∨ r = 52
theorem FrX.r {M M2 : fM} (f : FrX pO M M2) : FrX pR M M2 := f.mn fun r k h => by unfold pO at h; unfold pR; omega
def RS (M : fM) (tp : Nat → Nat) (tl : Nat) (E : List (Nat × Nat)) (i : Nat) : Prop := mI M 51 11 = nI i ∧ mI M 51 12 = nI (TKk tp tl i) ∧ (TKk tp tl i = 60 → mI M 51 13 = nI (TKv tp tl i)) ∧ mI M 51 8 = nI E.length ∧ (∀ j x, E[j]? = some x → mI M 52 j = enc x) ∧ lvT tp tl i
def ArC (M : fM) (tp : Nat → Nat) (tl : Nat) : Prop := ∃ n, lvT tp tl n ∧ TKk tp tl n = 61 ∧ ArT M tp tl (n + 1)
theorem ArC.x {M M2 : fM} {tp : Nat → Nat} {tl : Nat} (f : FrX pR M M2) (h : ArC M tp tl) : ArC M2 tp tl := by
  obtain ⟨n, h1, h2, h3⟩ := h
  refine ⟨n, h1, h2, fun k hk => ?_⟩
  rw [f.2 48 k (by unfold pR; omega), f.2 49 k (by unfold pR; omega), f.2 50 k (by unfold pR; omega)]
  exact h3 k hk
theorem ArC.g {M : fM} {tp : Nat → Nat} {tl i : Nat} (h : ArC M tp tl) (lv : lvT tp tl i) : mI M 48 i = nI (TKk tp tl i) ∧ mI M 49 i = nI (poS tp tl i) ∧ (TKk tp tl i = 60 → mI M 50 i = nI (TKv tp tl i)) := by
  obtain ⟨n, h1, h2, h3⟩ := h
  refine h3 i ?_
  rcases Nat.lt_or_ge n i with z | z
  · exact absurd h2 (lv n z)
  · omega
theorem RS.k {M : fM} {tp : Nat → Nat} {tl i : Nat} {E : List (Nat × Nat)} (h : RS M tp tl E i) (t : Nat) (ht : t < 2147483648) : mI M 51 12 = nI t ↔ TKk tp tl i = t := by
  have b : TKk tp tl i ≤ 62 := tkK_b _ _ _
  rw [h.2.1]
  exact ⟨fun e => nI_inj (by omega) ht e, fun e => by rw [e]⟩
theorem c_advG {L tl i : Nat} {tp : Nat → Nat} {E : List (Nat × Nat)} {M : fM} {φ : fM → Prop} (hS : Str L M) (hA : ArC M tp tl) (htl : tl ≤ 300) (he : imin (300 : Int32) ((mI M 51 11) + (1 : Int32)) = nI i) (hlv : lvT tp tl i) (h8 : mI M 51 8 = nI E.length) (h52 : ∀ j x, E[j]? = some x → mI M 52 j = enc x) (hz : ∀ M2, FrX pO M M2 → RS M2 tp tl E i → φ M2) : w_X4_advance 51 M φ := by
  have hi := lvT_l hlv
  obtain ⟨a1, a2, a3⟩ := hA.g hlv
  refine ⟨isO_pt hS (by decide) rfl, nm_of (st_of ?_)⟩
  rw [he]
  have f1 : FrX pO M (wI M 51 11 (nI i)) := FrX.w (Or.inl ⟨rfl, by omega⟩)
  have hS1 := f1.S hS
  have g11 : mI (wI M 51 11 (nI i)) 51 11 = nI i := mI_s rfl rfl
  refine dR_of (Str.pg hS1 rfl) ⟨isO_pt hS1 (by decide) rfl, dR_of (Str.pg hS1 rfl) ?_⟩
  rw [g11]
  refine c_cellN (Str.sh hS1 47 _ rfl) rfl (by omega) (by omega) ⟨isO_pt hS1 (by decide) rfl, st_of ?_⟩
  rw [show mI (wI M 51 11 (nI i)) 48 i = nI (TKk tp tl i) from (mI_n (by omega)).trans a1]
  have f2 : FrX pO M (wI (wI M 51 11 (nI i)) 51 12 (nI (TKk tp tl i))) := f1.tr (FrX.w (Or.inl ⟨rfl, by omega⟩))
  have hS2 := f2.S hS
  have i11 : mI (wI (wI M 51 11 (nI i)) 51 12 (nI (TKk tp tl i))) 51 11 = nI i := (mI_n (by omega)).trans g11
  refine dR_of (Str.pg hS2 rfl) ⟨isO_pt hS2 (by decide) rfl, dR_of (Str.pg hS2 rfl) ?_⟩
  rw [i11]
  refine c_cellN (Str.sh hS2 49 _ rfl) rfl (by omega) (by omega) ⟨isO_pt hS2 (by decide) rfl, st_of (hz _ (f2.tr (FrX.w (Or.inl ⟨rfl, by omega⟩))) ⟨(mI_n (by omega)).trans i11, (mI_n (by omega)).trans (mI_s rfl rfl), fun c => (mI_s rfl rfl).trans ((mI_n (by omega)).trans ((mI_n (by omega)).trans (a3 c))), (mI_n (by omega)).trans ((mI_n (by omega)).trans ((mI_n (by omega)).trans h8)), fun j x hx => (mI_n (by omega)).trans ((mI_n (by omega)).trans ((mI_n (by omega)).trans (h52 j x hx))), hlv⟩)⟩
theorem c_adv {L tl i : Nat} {tp : Nat → Nat} {E : List (Nat × Nat)} {M : fM} {φ : fM → Prop} (hS : Str L M) (hA : ArC M tp tl) (htl : tl ≤ 300) (rs : RS M tp tl E i) (hn : TKk tp tl i ≠ 61) (hz : ∀ M2, FrX pO M M2 → RS M2 tp tl E (i + 1) → φ M2) : w_X4_advance 51 M φ := by
  have hi := lvT_t rs.2.2.2.2.2 hn
  refine c_advG hS hA htl ?_ (lvT_s rs.2.2.2.2.2 hn) rs.2.2.2.1 rs.2.2.2.2.1 hz
  rw [rs.1, show nI i + (1 : Int32) = nI (i + 1) from nI_add _ 1]
  exact imin_r (a := 300) (by omega) (by omega)
theorem c_emit {L tl i : Nat} {tp : Nat → Nat} {E : List (Nat × Nat)} {x : Nat × Nat} {v : Int32} {M : fM} {φ : fM → Prop} (hS : Str L M) (rs : RS M tp tl E i) (hE : E.length < 300) (hv : v = enc x) (hz : ∀ M2, FrX pO M M2 → RS M2 tp tl (E ++ [x]) i → φ M2) : w_X4_emit 51 v M φ := by
  subst hv
  refine ⟨isO_pt hS (by decide) rfl, dR_of (Str.pg hS rfl) (lenA_of (Str.sh hS 51 _ rfl) ?_)⟩
  rw [rs.2.2.2.1]
  refine iF_f (fun c => absurd ((nIle (by omega) (by omega)).mp c) (by omega)) (dR_of (Str.pg hS rfl) ⟨by omega, inA_pt hS rfl (vp_nI (by omega) (by decide)), st_of (nm_of (st_of ?_))⟩)
  rw [ix_nI (by omega), show mI (wI M 52 E.length (enc x)) 51 8 = nI E.length from (mI_n (by omega)).trans rs.2.2.2.1, show nI E.length + (1 : Int32) = nI (E.length + 1) from nI_add _ 1]
  refine hz _ ((FrX.w (Or.inr rfl)).tr (FrX.w (Or.inl ⟨rfl, by omega⟩))) ⟨(mI_n (by omega)).trans ((mI_n (by omega)).trans rs.1), (mI_n (by omega)).trans ((mI_n (by omega)).trans rs.2.1), fun c => (mI_n (by omega)).trans ((mI_n (by omega)).trans (rs.2.2.1 c)), (mI_s rfl rfl).trans (congrArg nI (by rw [List.length_append]; rfl)), fun j y hy => ?_, rs.2.2.2.2.2⟩
  by_cases e : j = E.length
  · subst e
    rw [List.getElem?_append_right (Nat.le_refl _), Nat.sub_self] at hy
    have hy : some x = some y := hy
    cases hy
    exact (mI_n (by omega)).trans (mI_s rfl rfl)
  · have hj : j < E.length := by
      have := (List.getElem?_eq_some_iff.mp hy).1
      rw [List.length_append] at this
      have : j < E.length + 1 := this
      omega
    rw [List.getElem?_append_left hj] at hy
    exact (mI_n (by omega)).trans ((mI_n (by omega)).trans (rs.2.2.2.2.1 j y hy))
theorem c_flt {L tl i f : Nat} {tp : Nat → Nat} {E : List (Nat × Nat)} {a : Int32} {M : fM} {φ : Int32 → fM → Prop} (hS : Str L M) (hA : ArC M tp tl) (htl : tl ≤ 300) (rs : RS M tp tl E i) (ha : a = nI f) (hz : ∀ M2, FrX pR M M2 → mI M2 51 0 = nI f → mI M2 51 1 = nI (poS tp tl i) → φ 0 M2) : w_X4_faulty 51 a M φ := by
  subst ha
  have hi := lvT_l rs.2.2.2.2.2
  obtain ⟨-, a2, -⟩ := hA.g rs.2.2.2.2.2
  refine ⟨isO_pt hS (by decide) rfl, st_of ?_⟩
  have f1 : FrX pR M (wI M 51 0 (nI f)) := FrX.w (Or.inl ⟨rfl, by omega⟩)
  have hS1 := f1.S hS
  refine dR_of (Str.pg hS1 rfl) ⟨isO_pt hS1 (by decide) rfl, dR_of (Str.pg hS1 rfl) ?_⟩
  rw [show mI (wI M 51 0 (nI f)) 51 11 = nI i from (mI_n (by omega)).trans rs.1]
  refine c_cellN (Str.sh hS1 48 _ rfl) rfl (by omega) (by omega) ⟨isO_pt hS1 (by decide) rfl, st_of (hz _ (f1.tr (FrX.w (Or.inl ⟨rfl, by omega⟩))) ((mI_n (by omega)).trans (mI_s rfl rfl)) ((mI_s rfl rfl).trans ((mI_n (by omega)).trans a2)))⟩
theorem c_pass {L tl i t : Nat} {tp : Nat → Nat} {E : List (Nat × Nat)} {a : Int32} {M : fM} {φ : Int32 → fM → Prop} (hS : Str L M) (hA : ArC M tp tl) (htl : tl ≤ 300) (rs : RS M tp tl E i) (ha : a = nI t) (ht : t < 61) (h1 : TKk tp tl i = t → ∀ M2, FrX pO M M2 → RS M2 tp tl E (i + 1) → φ 1 M2) (h0 : TKk tp tl i ≠ t → ∀ M2, FrX pR M M2 → mI M2 51 0 = nI 1 → mI M2 51 1 = nI (poS tp tl i) → φ 0 M2) : w_X4_passes 51 a M φ := by
  subst ha
  refine ⟨isO_pt hS (by decide) rfl, ?_⟩
  by_cases z : TKk tp tl i = t
  · exact iF_t ((rs.k t (by omega)).mpr z) (c_adv hS hA htl rs (by omega) fun M2 f r => h1 z M2 f r)
  · exact iF_f (fun c => z ((rs.k t (by omega)).mp c)) (c_flt (f := 1) hS hA htl rs rfl fun M2 f a b => ⟨isB0, h0 z M2 f a b⟩)
/-! types of codes -/
def tyOk (ty : Bool) (so : Nat) (em : List (Nat × Nat)) : Prop := (∀ t, tyR t em = some (ty :: t)) ∧ ∀ x ∈ em, (x.1 = 0 → x.2 ≤ 9999) ∧ (x.1 = 1 → x.2 < if so ≤ 2 then 10 else 6)
theorem tyR_a : ∀ (l1 l2 : List (Nat × Nat)) (t : List Bool), tyR t (l1 ++ l2) = match tyR t l1 with
    | some t2 => tyR t2 l2
    | none => none
  | [], l2, t => rfl
  | x :: l1, l2, t => by
    show (match tyS t x.1 with | some t2 => tyR t2 (l1 ++ l2) | none => none) = match (match tyS t x.1 with | some t2 => tyR t2 l1 | none => none) with | some t2 => tyR t2 l2 | none => none
    cases tyS t x.1 with
    | none => rfl
    | some t2 => exact tyR_a l1 l2 t2
theorem tyR_1 {t t2 : List Bool} {x : Nat × Nat} (h : tyS t x.1 = some t2) : tyR t [x] = some t2 := by
  show (match tyS t x.1 with | some t2 => tyR t2 [] | none => none) = _
  rw [h]
  rfl
theorem tyS_op {t : List Bool} {o : Nat} (h : o = 4 ∨ o = 5 ∨ o = 6 ∨ o = 7) : tyS (false :: false :: t) o = some (false :: t) := by
  rcases h with rfl | rfl | rfl | rfl <;> (match t with | [] => rfl | true :: _ => rfl | false :: _ => rfl)
theorem tyS_cm {t : List Bool} {o : Nat} (h : o = 10 ∨ o = 11 ∨ o = 12 ∨ o = 13 ∨ o = 14 ∨ o = 15) : tyS (false :: false :: t) o = some (true :: t) := by
  rcases h with rfl | rfl | rfl | rfl | rfl | rfl <;> (match t with | [] => rfl | true :: _ => rfl | false :: _ => rfl)
theorem tyS_an {t : List Bool} {o : Nat} (h : o = 21 ∨ o = 22) : tyS (true :: true :: t) o = some (true :: t) := by
  rcases h with rfl | rfl <;> rfl
theorem tyS_no {t : List Bool} : tyS (true :: t) 20 = some (true :: t) := by
  match t with
  | [] => rfl
  | true :: _ => rfl
  | false :: _ => rfl
theorem tyS_mi {t : List Bool} : tyS (false :: t) 3 = some (false :: t) := by
  match t with
  | [] => rfl
  | true :: _ => rfl
  | false :: [] => rfl
  | false :: true :: _ => rfl
  | false :: false :: _ => rfl
theorem tyS_se {t : List Bool} : tyS (false :: false :: true :: t) 2 = some (false :: t) := rfl
theorem tyOk.bi {ty ty2 : Bool} {so : Nat} {em em2 : List (Nat × Nat)} {o : Nat} (h : tyOk ty so em) (h2 : tyOk ty so em2) (ho : 2 ≤ o) (hs : ∀ t, tyS (ty :: ty :: t) o = some (ty2 :: t)) : tyOk ty2 so (em ++ em2 ++ [(o, 0)]) := by
  refine ⟨fun t => ?_, fun x hx => ?_⟩
  · rw [tyR_a, tyR_a, h.1]
    show (match tyR (ty :: t) em2 with | some t2 => tyR t2 [(o, 0)] | none => none) = _
    rw [h2.1]
    exact tyR_1 (hs t)
  · rcases List.mem_append.mp hx with hx | hx
    · rcases List.mem_append.mp hx with hx | hx
      · exact h.2 x hx
      · exact h2.2 x hx
    · have e : x = (o, 0) := List.mem_singleton.mp hx
      subst e
      exact ⟨fun c => absurd c (by show ¬ o = 0; omega), fun c => absurd c (by show ¬ o = 1; omega)⟩
theorem tyOk.un {ty : Bool} {so : Nat} {em : List (Nat × Nat)} {o : Nat} (h : tyOk ty so em) (ho : 2 ≤ o) (hs : ∀ t, tyS (ty :: t) o = some (ty :: t)) : tyOk ty so (em ++ [(o, 0)]) := by
  refine ⟨fun t => ?_, fun x hx => ?_⟩
  · rw [tyR_a, h.1]
    exact tyR_1 (hs t)
  · rcases List.mem_append.mp hx with hx | hx
    · exact h.2 x hx
    · have e : x = (o, 0) := List.mem_singleton.mp hx
      subst e
      exact ⟨fun c => absurd c (by show ¬ o = 0; omega), fun c => absurd c (by show ¬ o = 1; omega)⟩
theorem tyOk.se {so : Nat} {em em2 em3 : List (Nat × Nat)} (h : tyOk true so em) (h2 : tyOk false so em2) (h3 : tyOk false so em3) : tyOk false so (em ++ em2 ++ em3 ++ [(2, 0)]) := by
  refine ⟨fun t => ?_, fun x hx => ?_⟩
  · rw [tyR_a, tyR_a, tyR_a, h.1]
    show (match (match tyR (true :: t) em2 with | some t2 => tyR t2 em3 | none => none) with | some t2 => tyR t2 [(2, 0)] | none => none) = _
    rw [h2.1]
    show (match tyR (false :: true :: t) em3 with | some t2 => tyR t2 [(2, 0)] | none => none) = _
    rw [h3.1]
    exact tyR_1 tyS_se
  · rcases List.mem_append.mp hx with hx | hx
    · rcases List.mem_append.mp hx with hx | hx
      · rcases List.mem_append.mp hx with hx | hx
        · exact h.2 x hx
        · exact h2.2 x hx
      · exact h3.2 x hx
    · have e : x = (2, 0) := List.mem_singleton.mp hx
      subst e
      exact ⟨fun c => absurd c (by decide), fun c => absurd c (by decide)⟩
/-! what each way of reading does -/
def no23 (d0 t : Nat) (P : List Nat) : Prop := ¬ (t = 23 ∧ mkK d0 P = 41 ∧ hdA P = true)
theorem no23_r {d0 t o : Nat} {P : List Nat} (h1 : o ≠ 41) (h2 : rk o = 0 ∨ 4 ≤ rk o) : no23 d0 t (o :: P) := fun c => by
  have h : o = 41 ∨ (1 ≤ rk o ∧ rk o ≤ 3) := of_decide_eq_true c.2.2
  omega
def SpG (L : Nat) (tp : Nat → Nat) (tl so d0 n mode d : Nat) (ty : Bool) (pre : List Nat → Prop) (post : List Nat → List Nat → Nat → Prop) : Prop := ∀ (M : fM) (E : List (Nat × Nat)) (i : Nat) (P : List Nat) (φ : Int32 → fM → Prop), Str L M → ArC M tp tl → RS M tp tl E i → mI M 51 10 = nI so → E.length ≤ i → cnO P = d → pre P → (3 ≤ mode → no23 d0 (TKk tp tl i) P) → (∀ M2 em j Q, FrX pO M M2 → RS M2 tp tl (E ++ em) j → em.length + i ≤ j → 0 < em.length → tyOk ty so em → post P Q j → OKr (TKk tp tl) (TKv tp tl) d0 so P i em Q j → φ 1 M2) → (∀ M2 f j, FrX pR M M2 → mI M2 51 0 = nI f → mI M2 51 1 = nI (poS tp tl j) → (f = 1 ∨ f = 2 ∨ f = 3 ∨ f = 5) → (∀ E0, RF (TKk tp tl) (TKv tp tl) d0 so (P, E0, false, i) f j) → φ 0 M2) → prs n mode 51 (nI d) M φ
def SpO (L : Nat) (tp : Nat → Nat) (tl so d0 n d : Nat) : Prop := ∀ (M : fM) (E : List (Nat × Nat)) (i : Nat) (P : List Nat) (φ : Int32 → fM → Prop), Str L M → ArC M tp tl → RS M tp tl E i → mI M 51 10 = nI so → E.length ≤ i → cnO P = d → P.length ≤ 6 * d + 5 → no23 d0 (TKk tp tl i) P → (∀ M2 em j, FrX pO M M2 → RS M2 tp tl (E ++ em) j → em.length + i ≤ j → 0 < em.length → tyOk false so em → OKo (TKk tp tl) (TKv tp tl) d0 so P i em j → φ 1 M2) → (∀ M2 f j, FrX pR M M2 → mI M2 51 0 = nI f → mI M2 51 1 = nI (poS tp tl j) → (f = 1 ∨ f = 2 ∨ f = 3 ∨ f = 5) → (∀ E0, RF (TKk tp tl) (TKv tp tl) d0 so (P, E0, false, i) f j) → φ 0 M2) → prs n 5 51 (nI d) M φ
def SpC (L : Nat) (tp : Nat → Nat) (tl so d0 n d : Nat) : Prop := ∀ (M : fM) (E : List (Nat × Nat)) (i : Nat) (P : List Nat) (φ : Int32 → fM → Prop), Str L M → ArC M tp tl → RS M tp tl E i → mI M 51 10 = nI so → E.length + 1 ≤ i → cnO (41 :: P) = d → P.length + 1 ≤ 6 * d → (∀ M2 em j, FrX pO M M2 → RS M2 tp tl (E ++ em) j → em.length + i ≤ j → 0 < em.length → tyOk false so em → (∀ E0, Rc (TKk tp tl) (TKv tp tl) d0 so (41 :: P, E0, false, i) ((stl 7 P (E0 ++ em)).1, (stl 7 P (E0 ++ em)).2, true, j)) → φ 1 M2) → (∀ M2 f j, FrX pR M M2 → mI M2 51 0 = nI f → mI M2 51 1 = nI (poS tp tl j) → (f = 1 ∨ f = 2 ∨ f = 3 ∨ f = 5) → (∀ E0, RF (TKk tp tl) (TKv tp tl) d0 so (41 :: P, E0, false, i) f j) → φ 0 M2) → prs n 6 51 (nI d) M φ
def preP (d : Nat) (P : List Nat) : Prop := P.length ≤ 6 * d + 4 ∧ tR P 6
def posP (tp : Nat → Nat) (tl : Nat) (_ Q : List Nat) (j : Nat) : Prop := (∀ x ∈ Q, 6 ≤ rk x ∧ x < 40) ∧ TKk tp tl j ≠ 42 ∧ TKk tp tl j ≠ 43
def preS (d : Nat) (P : List Nat) : Prop := P.length ≤ 6 * d + 3 ∧ tR P 5
def posS (tp : Nat → Nat) (tl : Nat) (_ Q : List Nat) (j : Nat) : Prop := (∀ x ∈ Q, 5 ≤ rk x ∧ x < 40) ∧ TKk tp tl j ≠ 42 ∧ TKk tp tl j ≠ 43 ∧ TKk tp tl j ≠ 40 ∧ TKk tp tl j ≠ 41
def preA (d0 d : Nat) (P : List Nat) : Prop := P.length ≤ 6 * d + 2 ∧ mkK d0 P = 41 ∧ hdA P = true
def posA (tp : Nat → Nat) (tl : Nat) (P Q : List Nat) (j : Nat) : Prop := (∀ x ∈ Q, 3 ≤ rk x ∧ x < 40) ∧ cmpd (Q ++ P) = true ∧ TKk tp tl j ≠ 42 ∧ TKk tp tl j ≠ 43 ∧ TKk tp tl j ≠ 40 ∧ TKk tp tl j ≠ 41
def preB (d0 d : Nat) (P : List Nat) : Prop := P.length ≤ 6 * d + 1 ∧ mkK d0 P = 41 ∧ hdA P = true ∧ tR P 2
def posB (tp : Nat → Nat) (tl : Nat) (P Q : List Nat) (j : Nat) : Prop := (∀ x ∈ Q, 2 ≤ rk x ∧ x < 40) ∧ cmpd (Q ++ P) = true ∧ TKk tp tl j ≠ 42 ∧ TKk tp tl j ≠ 43 ∧ TKk tp tl j ≠ 40 ∧ TKk tp tl j ≠ 41 ∧ TKk tp tl j ≠ 25
def preE (d0 d : Nat) (P : List Nat) : Prop := P.length ≤ 6 * d ∧ mkK d0 P = 41 ∧ hdA P = true ∧ tR P 1
def posE (tp : Nat → Nat) (tl : Nat) (P Q : List Nat) (j : Nat) : Prop := (∀ x ∈ Q, 1 ≤ rk x ∧ x < 40) ∧ cmpd (Q ++ P) = true ∧ TKk tp tl j ≠ 42 ∧ TKk tp tl j ≠ 43 ∧ TKk tp tl j ≠ 40 ∧ TKk tp tl j ≠ 41 ∧ TKk tp tl j ≠ 25 ∧ TKk tp tl j ≠ 24
theorem ap3 (E em em2 : List (Nat × Nat)) (x : Nat × Nat) : E ++ em ++ em2 ++ [x] = E ++ (em ++ em2 ++ [x]) := by rw [List.append_assoc, List.append_assoc, List.append_assoc]
theorem ln3 (em em2 : List (Nat × Nat)) (x : Nat × Nat) : (em ++ em2 ++ [x]).length = em.length + em2.length + 1 := by rw [List.length_append, List.length_append]; rfl
theorem q1_m {l : Nat} {Q : List Nat} {o : Nat} (hq : ∀ x ∈ Q, l ≤ rk x ∧ x < 40) (ho : l ≤ rk o ∧ o < 40) : ∀ x ∈ Q ++ [o], l ≤ rk x ∧ x < 40 := fun x hx => by
  rcases List.mem_append.mp hx with h | h
  · exact hq x h
  · rw [List.mem_singleton.mp h]
    exact ho
theorem opn_1 (o : Nat) : opn o ≤ 1 := by
  unfold opn
  split <;> omega
theorem cnO_b : ∀ P : List Nat, cnO P ≤ P.length
  | [] => Nat.le_refl _
  | o :: P => by
    have h1 := opn_1 o
    have h2 := cnO_b P
    show opn o + cnO P ≤ P.length + 1
    omega
theorem lp_P {L tl so d0 n d i : Nat} {tp : Nat → Nat} {E : List (Nat × Nat)} {P : List Nat} {M0 : fM} {φ : Int32 → fM → Prop} (htl : tl ≤ 300) (hd8 : d ≤ 8) (hsub : SpO L tp tl so d0 n d) (hd : cnO P = d) (hpre : preP d P) (hE : E.length ≤ i) (hz1 : ∀ M2 em j Q, FrX pO M0 M2 → RS M2 tp tl (E ++ em) j → em.length + i ≤ j → 0 < em.length → tyOk false so em → posP tp tl P Q j → OKr (TKk tp tl) (TKv tp tl) d0 so P i em Q j → φ 1 M2) (hz0 : ∀ M2 f j, FrX pR M0 M2 → mI M2 51 0 = nI f → mI M2 51 1 = nI (poS tp tl j) → (f = 1 ∨ f = 2 ∨ f = 3 ∨ f = 5) → (∀ E0, RF (TKk tp tl) (TKv tp tl) d0 so (P, E0, false, i) f j) → φ 0 M2) : ∀ (m c j : Nat) (M : fM) (em : List (Nat × Nat)) (Q : List Nat), tl + 1 ≤ j + m → c ≤ j → Str L M → ArC M tp tl → FrX pO M0 M → mI M 51 10 = nI so → RS M tp tl (E ++ em) j → em.length + i ≤ j → 0 < em.length → tyOk false so em → (∀ x ∈ Q, 6 ≤ rk x ∧ x < 40) → OKr (TKk tp tl) (TKv tp tl) d0 so P i em Q j → l_X4_readProduct_12 (prs n) φ m 51 (nI d) (nI c) M := by
  intro m
  induction m with
  | zero =>
    intro c j M em Q hm hc hS hA f0 h10 rs
    have := lvT_l rs.2.2.2.2.2
    omega
  | succ m ih =>
    intro c j M em Q hm hc hS hA f0 h10 rs hl hl0 hty hq ok
    have hj := lvT_l rs.2.2.2.2.2
    show b_X4_readProduct_12 (prs n) (l_X4_readProduct_12 (prs n) φ m) φ 51 (nI d) (nI c) M
    generalize hK : l_X4_readProduct_12 (prs n) φ m = K at ih ⊢
    have hlen : (E ++ em).length ≤ j := by
      rw [List.length_append]
      omega
    have go : ∀ t o, TKk tp tl j = t → ((t = 42 ∧ o = 6) ∨ (t = 43 ∧ o = 7)) → j_X4_readProduct_37 (prs n) K φ 51 (nI d) (nI c) M := by
      intro t o ht hto
      have rko : rk o = 6 := by rcases hto with ⟨-, e⟩ | ⟨-, e⟩ <;> (rw [e]; rfl)
      have hb : bwO d0 (TKk tp tl j) (Q ++ P) = o := by
        rw [ht]
        rcases hto with ⟨e, e2⟩ | ⟨e, e2⟩ <;> (rw [e, e2]; rfl)
      have hqo : ∀ x ∈ Q, rk o ≤ rk x := fun x hx => by
        have := (hq x hx).1
        omega
      have hcn : cnO (o :: P) = d := by
        show opn o + cnO P = d
        rcases hto with ⟨-, e⟩ | ⟨-, e⟩ <;> (rw [e]; show 0 + cnO P = d; omega)
      have pl := hpre.1
      have hlo : (o :: P).length ≤ 6 * d + 5 := by
        show P.length + 1 ≤ _
        omega
      refine ⟨isO_pt hS (by decide) rfl, nm_of ?_⟩
      rw [rs.2.1, ht]
      refine c_adv hS hA htl rs (by omega) fun M1 f1 r1 => ?_
      have hS1 := f1.S hS
      refine ⟨isO_pt hS1 (by decide) rfl, ?_⟩
      refine hsub M1 (E ++ em) (j + 1) (o :: P) (fun x11 M7 => iF (x11 = 0) (φ (0 : Int32) M7) (isO M7 51 4 ∧ w_X4_emit 51 (-nI t) M7 fun M12 => nm (nI c + (1 : Int32)) fun x16 => K 51 (nI d) x16 M12)) hS1 (hA.x f1.r) r1 ((f1.2 51 10 (by unfold pO; omega)).trans h10) (by omega) hcn hlo (no23_r (by omega) (Or.inr (by omega))) (fun M2 em2 j2 f2 r2 l2 l20 ty2 oo => iF_f (by decide) ?_) (fun M2 f k f2 e0 e1 hf rf => iF_t rfl (hz0 M2 f k ((f0.tr f1).r.tr f2) e0 e1 hf (ok.opF hb (by omega) hqo (by rw [rko]; exact hpre.2) (by omega) rf)))
      have f02 := (f0.tr f1).tr f2
      have hS2 := f2.S hS1
      have hlv2 := lvT_l r2.2.2.2.2.2
      refine ⟨isO_pt hS2 (by decide) rfl, c_emit (x := (o, 0)) hS2 r2 (by rw [List.length_append]; omega) ?_ fun M3 f3 r3 => nm_of ?_⟩
      · rcases hto with ⟨e, e2⟩ | ⟨e, e2⟩ <;> (rw [e, e2]; rfl)
      rw [show nI c + (1 : Int32) = nI (c + 1) from nI_add _ 1]
      rw [ap3] at r3
      have f03 := f02.tr f3
      exact ih (c + 1) j2 M3 (em ++ em2 ++ [(o, 0)]) ([] ++ [o]) (by omega) (by omega) (f3.S hS2) (hA.x ((f1.tr f2).tr f3).r) f03 ((f1.tr (f2.tr f3)).2 51 10 (by unfold pO; omega) |>.trans h10) r3 (by rw [ln3]; omega) (by rw [ln3]; omega) (hty.bi ty2 (by omega) fun t => tyS_op (by omega)) (q1_m (fun x hx => absurd hx List.not_mem_nil) (by omega)) (ok.op hb (by omega) hqo (by rw [rko]; exact hpre.2) (by omega) (oo.r (show rk o < 7 by omega)))
    have fin : TKk tp tl j ≠ 42 → TKk tp tl j ≠ 43 → φ 1 M := fun a b => hz1 M em j Q f0 rs hl hl0 hty ⟨hq, a, b⟩ ok
    by_cases z1 : TKk tp tl j = 42
    · have jt := lvT_t rs.2.2.2.2.2 (show TKk tp tl j ≠ 61 by omega)
      exact iF_f (fun q => absurd ((nIle (a := 300) (by omega) (by omega)).mp q) (by omega)) ⟨isO_pt hS (by decide) rfl, iF_t ((rs.k 42 (by omega)).mpr z1) (go 42 6 z1 (Or.inl ⟨rfl, rfl⟩))⟩
    · by_cases z2 : TKk tp tl j = 43
      · have jt := lvT_t rs.2.2.2.2.2 (show TKk tp tl j ≠ 61 by omega)
        exact iF_f (fun q => absurd ((nIle (a := 300) (by omega) (by omega)).mp q) (by omega)) ⟨isO_pt hS (by decide) rfl, iF_f (fun q => z1 ((rs.k 42 (by omega)).mp q)) (iF_t ((rs.k 43 (by omega)).mpr z2) (go 43 7 z2 (Or.inr ⟨rfl, rfl⟩)))⟩
      · exact iF_s (fun _ => fin z1 z2) (fun _ => ⟨isO_pt hS (by decide) rfl, iF_f (fun q => z1 ((rs.k 42 (by omega)).mp q)) (iF_f (fun q => z2 ((rs.k 43 (by omega)).mp q)) (fin z1 z2))⟩)
theorem lp_S {L tl so d0 n d i : Nat} {tp : Nat → Nat} {E : List (Nat × Nat)} {P : List Nat} {M0 : fM} {φ : Int32 → fM → Prop} (htl : tl ≤ 300) (hd8 : d ≤ 8) (hsub : SpG L tp tl so d0 n 4 d false (preP d) (posP tp tl)) (hd : cnO P = d) (hpre : preS d P) (hE : E.length ≤ i) (hz1 : ∀ M2 em j Q, FrX pO M0 M2 → RS M2 tp tl (E ++ em) j → em.length + i ≤ j → 0 < em.length → tyOk false so em → posS tp tl P Q j → OKr (TKk tp tl) (TKv tp tl) d0 so P i em Q j → φ 1 M2) (hz0 : ∀ M2 f j, FrX pR M0 M2 → mI M2 51 0 = nI f → mI M2 51 1 = nI (poS tp tl j) → (f = 1 ∨ f = 2 ∨ f = 3 ∨ f = 5) → (∀ E0, RF (TKk tp tl) (TKv tp tl) d0 so (P, E0, false, i) f j) → φ 0 M2) : ∀ (m c j : Nat) (M : fM) (em : List (Nat × Nat)) (Q : List Nat), tl + 1 ≤ j + m → c ≤ j → Str L M → ArC M tp tl → FrX pO M0 M → mI M 51 10 = nI so → RS M tp tl (E ++ em) j → em.length + i ≤ j → 0 < em.length → tyOk false so em → (∀ x ∈ Q, 5 ≤ rk x ∧ x < 40) → OKr (TKk tp tl) (TKv tp tl) d0 so P i em Q j → TKk tp tl j ≠ 42 → TKk tp tl j ≠ 43 → l_X4_readSum_12 (prs n) φ m 51 (nI d) (nI c) M := by
  intro m
  induction m with
  | zero =>
    intro c j M em Q hm hc hS hA f0 h10 rs
    have := lvT_l rs.2.2.2.2.2
    omega
  | succ m ih =>
    intro c j M em Q hm hc hS hA f0 h10 rs hl hl0 hty hq ok n42 n43
    have hj := lvT_l rs.2.2.2.2.2
    show b_X4_readSum_12 (prs n) (l_X4_readSum_12 (prs n) φ m) φ 51 (nI d) (nI c) M
    generalize hK : l_X4_readSum_12 (prs n) φ m = K at ih ⊢
    have hlen : (E ++ em).length ≤ j := by
      rw [List.length_append]
      omega
    have go : ∀ t o, TKk tp tl j = t → ((t = 40 ∧ o = 4) ∨ (t = 41 ∧ o = 5)) → j_X4_readSum_37 (prs n) K φ 51 (nI d) (nI c) M := by
      intro t o ht hto
      have rko : rk o = 5 := by rcases hto with ⟨-, e⟩ | ⟨-, e⟩ <;> (rw [e]; rfl)
      have hb : bwO d0 (TKk tp tl j) (Q ++ P) = o := by
        rw [ht]
        rcases hto with ⟨e, e2⟩ | ⟨e, e2⟩ <;> (rw [e, e2]; rfl)
      have hqo : ∀ x ∈ Q, rk o ≤ rk x := fun x hx => by
        have := (hq x hx).1
        omega
      have hcn : cnO (o :: P) = d := by
        show opn o + cnO P = d
        rcases hto with ⟨-, e⟩ | ⟨-, e⟩ <;> (rw [e]; show 0 + cnO P = d; omega)
      have pl := hpre.1
      have hlo : (o :: P).length ≤ 6 * d + 4 := by
        show P.length + 1 ≤ _
        omega
      refine ⟨isO_pt hS (by decide) rfl, nm_of ?_⟩
      rw [rs.2.1, ht]
      refine c_adv hS hA htl rs (by omega) fun M1 f1 r1 => ?_
      have hS1 := f1.S hS
      refine ⟨isO_pt hS1 (by decide) rfl, ?_⟩
      refine hsub M1 (E ++ em) (j + 1) (o :: P) (fun x11 M7 => iF (x11 = 0) (φ (0 : Int32) M7) (isO M7 51 4 ∧ w_X4_emit 51 (-nI t) M7 fun M12 => nm (nI c + (1 : Int32)) fun x16 => K 51 (nI d) x16 M12)) hS1 (hA.x f1.r) r1 ((f1.2 51 10 (by unfold pO; omega)).trans h10) (by omega) hcn ⟨hlo, show rk o < 6 by omega⟩ (fun _ => no23_r (by omega) (Or.inr (by omega))) (fun M2 em2 j2 Q2 f2 r2 l2 l20 ty2 po oo => iF_f (by decide) ?_) (fun M2 f k f2 e0 e1 hf rf => iF_t rfl (hz0 M2 f k ((f0.tr f1).r.tr f2) e0 e1 hf (ok.opF hb (by omega) hqo (by rw [rko]; exact hpre.2) (by omega) rf)))
      have f02 := (f0.tr f1).tr f2
      have hS2 := f2.S hS1
      have hlv2 := lvT_l r2.2.2.2.2.2
      refine ⟨isO_pt hS2 (by decide) rfl, c_emit (x := (o, 0)) hS2 r2 (by rw [List.length_append]; omega) ?_ fun M3 f3 r3 => nm_of ?_⟩
      · rcases hto with ⟨e, e2⟩ | ⟨e, e2⟩ <;> (rw [e, e2]; rfl)
      rw [show nI c + (1 : Int32) = nI (c + 1) from nI_add _ 1]
      rw [ap3] at r3
      have f03 := f02.tr f3
      exact ih (c + 1) j2 M3 (em ++ em2 ++ [(o, 0)]) (Q2 ++ [o]) (by omega) (by omega) (f3.S hS2) (hA.x ((f1.tr f2).tr f3).r) f03 ((f1.tr (f2.tr f3)).2 51 10 (by unfold pO; omega) |>.trans h10) r3 (by rw [ln3]; omega) (by rw [ln3]; omega) (hty.bi ty2 (by omega) fun t => tyS_op (by omega)) (q1_m (fun x hx => ⟨Nat.le_trans (by omega) (po.1 x hx).1, (po.1 x hx).2⟩) (by omega)) (ok.op hb (by omega) hqo (by rw [rko]; exact hpre.2) (by omega) oo) po.2.1 po.2.2
    have fin : TKk tp tl j ≠ 40 → TKk tp tl j ≠ 41 → φ 1 M := fun a b => hz1 M em j Q f0 rs hl hl0 hty ⟨hq, n42, n43, a, b⟩ ok
    by_cases z1 : TKk tp tl j = 40
    · have jt := lvT_t rs.2.2.2.2.2 (show TKk tp tl j ≠ 61 by omega)
      exact iF_f (fun q => absurd ((nIle (a := 300) (by omega) (by omega)).mp q) (by omega)) ⟨isO_pt hS (by decide) rfl, iF_t ((rs.k 40 (by omega)).mpr z1) (go 40 4 z1 (Or.inl ⟨rfl, rfl⟩))⟩
    · by_cases z2 : TKk tp tl j = 41
      · have jt := lvT_t rs.2.2.2.2.2 (show TKk tp tl j ≠ 61 by omega)
        exact iF_f (fun q => absurd ((nIle (a := 300) (by omega) (by omega)).mp q) (by omega)) ⟨isO_pt hS (by decide) rfl, iF_f (fun q => z1 ((rs.k 40 (by omega)).mp q)) (iF_t ((rs.k 41 (by omega)).mpr z2) (go 41 5 z2 (Or.inr ⟨rfl, rfl⟩)))⟩
      · exact iF_s (fun _ => fin z1 z2) (fun _ => ⟨isO_pt hS (by decide) rfl, iF_f (fun q => z1 ((rs.k 40 (by omega)).mp q)) (iF_f (fun q => z2 ((rs.k 41 (by omega)).mp q)) (fin z1 z2))⟩)
theorem lp_B {L tl so d0 n d i : Nat} {tp : Nat → Nat} {E : List (Nat × Nat)} {P : List Nat} {M0 : fM} {φ : Int32 → fM → Prop} (htl : tl ≤ 300) (hd8 : d ≤ 8) (hsub : SpG L tp tl so d0 n 2 d true (preA d0 d) (posA tp tl)) (hd : cnO P = d) (hpre : preB d0 d P) (hE : E.length ≤ i) (hz1 : ∀ M2 em j Q, FrX pO M0 M2 → RS M2 tp tl (E ++ em) j → em.length + i ≤ j → 0 < em.length → tyOk true so em → posB tp tl P Q j → OKr (TKk tp tl) (TKv tp tl) d0 so P i em Q j → φ 1 M2) (hz0 : ∀ M2 f j, FrX pR M0 M2 → mI M2 51 0 = nI f → mI M2 51 1 = nI (poS tp tl j) → (f = 1 ∨ f = 2 ∨ f = 3 ∨ f = 5) → (∀ E0, RF (TKk tp tl) (TKv tp tl) d0 so (P, E0, false, i) f j) → φ 0 M2) : ∀ (m c j : Nat) (M : fM) (em : List (Nat × Nat)) (Q : List Nat), tl + 1 ≤ j + m → c ≤ j → Str L M → ArC M tp tl → FrX pO M0 M → mI M 51 10 = nI so → RS M tp tl (E ++ em) j → em.length + i ≤ j → 0 < em.length → tyOk true so em → (∀ x ∈ Q, 2 ≤ rk x ∧ x < 40) → cmpd (Q ++ P) = true → OKr (TKk tp tl) (TKv tp tl) d0 so P i em Q j → TKk tp tl j ≠ 42 → TKk tp tl j ≠ 43 → TKk tp tl j ≠ 40 → TKk tp tl j ≠ 41 → l_X4_readBoth_12 (prs n) φ m 51 (nI d) (nI c) M := by
  intro m
  induction m with
  | zero =>
    intro c j M em Q hm hc hS hA f0 h10 rs
    have := lvT_l rs.2.2.2.2.2
    omega
  | succ m ih =>
    intro c j M em Q hm hc hS hA f0 h10 rs hl hl0 hty hq hcm ok n42 n43 n40 n41
    have hj := lvT_l rs.2.2.2.2.2
    show b_X4_readBoth_12 (prs n) (l_X4_readBoth_12 (prs n) φ m) φ 51 (nI d) (nI c) M
    generalize hK : l_X4_readBoth_12 (prs n) φ m = K at ih ⊢
    have hlen : (E ++ em).length ≤ j := by
      rw [List.length_append]
      omega
    by_cases z : TKk tp tl j = 25
    · have jt := lvT_t rs.2.2.2.2.2 (show TKk tp tl j ≠ 61 by omega)
      have mk : mkK d0 (Q ++ P) = 41 := (mkK_q Q fun x hx => (hq x hx).2).trans hpre.2.1
      have hb : bwO d0 (TKk tp tl j) (Q ++ P) = 21 := by
        rw [z]
        unfold bwO
        rw [if_neg (by omega), if_neg (by omega), if_neg (by omega), if_neg (by omega), if_pos mk, if_pos hcm]
        rfl
      have hqo : ∀ x ∈ Q, rk 21 ≤ rk x := fun x hx => (hq x hx).1
      have hcn : cnO (21 :: P) = d := by
        show 0 + cnO P = d
        omega
      have pl := hpre.1
      have hlo : (21 :: P).length ≤ 6 * d + 2 := by
        show P.length + 1 ≤ _
        omega
      refine iF_f (fun q => absurd ((nIle (a := 300) (by omega) (by omega)).mp q) (by omega)) ⟨isO_pt hS (by decide) rfl, iF_t ((rs.k 25 (by omega)).mpr z) ?_⟩
      refine c_adv hS hA htl rs (by omega) fun M1 f1 r1 => ?_
      have hS1 := f1.S hS
      refine ⟨isO_pt hS1 (by decide) rfl, ?_⟩
      refine hsub M1 (E ++ em) (j + 1) (21 :: P) (fun x9 M5 => iF (x9 = 0) (φ (0 : Int32) M5) (isO M5 51 4 ∧ w_X4_emit 51 (-25 : Int32) M5 fun M10 => nm (nI c + (1 : Int32)) fun x14 => K 51 (nI d) x14 M10)) hS1 (hA.x f1.r) r1 ((f1.2 51 10 (by unfold pO; omega)).trans h10) (by omega) hcn ⟨hlo, hpre.2.1, rfl⟩ (fun c => absurd c (by decide)) (fun M2 em2 j2 Q2 f2 r2 l2 l20 ty2 po oo => iF_f (by decide) ?_) (fun M2 f k f2 e0 e1 hf rf => iF_t rfl (hz0 M2 f k ((f0.tr f1).r.tr f2) e0 e1 hf (ok.opF hb (by omega) hqo hpre.2.2.2 (by omega) rf)))
      have f02 := (f0.tr f1).tr f2
      have hS2 := f2.S hS1
      have hlv2 := lvT_l r2.2.2.2.2.2
      refine ⟨isO_pt hS2 (by decide) rfl, c_emit (x := (21, 0)) hS2 r2 (by rw [List.length_append]; omega) rfl fun M3 f3 r3 => nm_of ?_⟩
      rw [show nI c + (1 : Int32) = nI (c + 1) from nI_add _ 1]
      rw [ap3] at r3
      have hcm2 : cmpd ((Q2 ++ [21]) ++ P) = true := by
        rw [List.append_assoc]
        exact po.2.1
      exact ih (c + 1) j2 M3 (em ++ em2 ++ [(21, 0)]) (Q2 ++ [21]) (by omega) (by omega) (f3.S hS2) (hA.x ((f1.tr f2).tr f3).r) (f02.tr f3) ((f1.tr (f2.tr f3)).2 51 10 (by unfold pO; omega) |>.trans h10) r3 (by rw [ln3]; omega) (by rw [ln3]; omega) (hty.bi ty2 (by omega) fun t => tyS_an (by omega)) (q1_m (fun x hx => ⟨Nat.le_trans (by omega) (po.1 x hx).1, (po.1 x hx).2⟩) (by decide)) hcm2 (ok.op hb (by omega) hqo hpre.2.2.2 (by omega) oo) po.2.2.1 po.2.2.2.1 po.2.2.2.2.1 po.2.2.2.2.2
    · have fin : φ 1 M := hz1 M em j Q f0 rs hl hl0 hty ⟨hq, hcm, n42, n43, n40, n41, z⟩ ok
      exact iF_s (fun _ => fin) (fun _ => ⟨isO_pt hS (by decide) rfl, iF_f (fun q => z ((rs.k 25 (by omega)).mp q)) fin⟩)
theorem lp_E {L tl so d0 n d i : Nat} {tp : Nat → Nat} {E : List (Nat × Nat)} {P : List Nat} {M0 : fM} {φ : Int32 → fM → Prop} (htl : tl ≤ 300) (hd8 : d ≤ 8) (hsub : SpG L tp tl so d0 n 1 d true (preB d0 d) (posB tp tl)) (hd : cnO P = d) (hpre : preE d0 d P) (hE : E.length ≤ i) (hz1 : ∀ M2 em j Q, FrX pO M0 M2 → RS M2 tp tl (E ++ em) j → em.length + i ≤ j → 0 < em.length → tyOk true so em → posE tp tl P Q j → OKr (TKk tp tl) (TKv tp tl) d0 so P i em Q j → φ 1 M2) (hz0 : ∀ M2 f j, FrX pR M0 M2 → mI M2 51 0 = nI f → mI M2 51 1 = nI (poS tp tl j) → (f = 1 ∨ f = 2 ∨ f = 3 ∨ f = 5) → (∀ E0, RF (TKk tp tl) (TKv tp tl) d0 so (P, E0, false, i) f j) → φ 0 M2) : ∀ (m c j : Nat) (M : fM) (em : List (Nat × Nat)) (Q : List Nat), tl + 1 ≤ j + m → c ≤ j → Str L M → ArC M tp tl → FrX pO M0 M → mI M 51 10 = nI so → RS M tp tl (E ++ em) j → em.length + i ≤ j → 0 < em.length → tyOk true so em → (∀ x ∈ Q, 1 ≤ rk x ∧ x < 40) → cmpd (Q ++ P) = true → OKr (TKk tp tl) (TKv tp tl) d0 so P i em Q j → TKk tp tl j ≠ 42 → TKk tp tl j ≠ 43 → TKk tp tl j ≠ 40 → TKk tp tl j ≠ 41 → TKk tp tl j ≠ 25 → l_X4_readEither_12 (prs n) φ m 51 (nI d) (nI c) M := by
  intro m
  induction m with
  | zero =>
    intro c j M em Q hm hc hS hA f0 h10 rs
    have := lvT_l rs.2.2.2.2.2
    omega
  | succ m ih =>
    intro c j M em Q hm hc hS hA f0 h10 rs hl hl0 hty hq hcm ok n42 n43 n40 n41 n25
    have hj := lvT_l rs.2.2.2.2.2
    show b_X4_readEither_12 (prs n) (l_X4_readEither_12 (prs n) φ m) φ 51 (nI d) (nI c) M
    generalize hK : l_X4_readEither_12 (prs n) φ m = K at ih ⊢
    have hlen : (E ++ em).length ≤ j := by
      rw [List.length_append]
      omega
    by_cases z : TKk tp tl j = 24
    · have jt := lvT_t rs.2.2.2.2.2 (show TKk tp tl j ≠ 61 by omega)
      have mk : mkK d0 (Q ++ P) = 41 := (mkK_q Q fun x hx => (hq x hx).2).trans hpre.2.1
      have hb : bwO d0 (TKk tp tl j) (Q ++ P) = 22 := by
        rw [z]
        unfold bwO
        rw [if_neg (by omega), if_neg (by omega), if_neg (by omega), if_neg (by omega), if_pos mk, if_pos hcm]
        rfl
      have hqo : ∀ x ∈ Q, rk 22 ≤ rk x := fun x hx => (hq x hx).1
      have hcn : cnO (22 :: P) = d := by
        show 0 + cnO P = d
        omega
      have pl := hpre.1
      have hlo : (22 :: P).length ≤ 6 * d + 1 := by
        show P.length + 1 ≤ _
        omega
      refine iF_f (fun q => absurd ((nIle (a := 300) (by omega) (by omega)).mp q) (by omega)) ⟨isO_pt hS (by decide) rfl, iF_t ((rs.k 24 (by omega)).mpr z) ?_⟩
      refine c_adv hS hA htl rs (by omega) fun M1 f1 r1 => ?_
      have hS1 := f1.S hS
      refine ⟨isO_pt hS1 (by decide) rfl, ?_⟩
      refine hsub M1 (E ++ em) (j + 1) (22 :: P) (fun x9 M5 => iF (x9 = 0) (φ (0 : Int32) M5) (isO M5 51 4 ∧ w_X4_emit 51 (-24 : Int32) M5 fun M10 => nm (nI c + (1 : Int32)) fun x14 => K 51 (nI d) x14 M10)) hS1 (hA.x f1.r) r1 ((f1.2 51 10 (by unfold pO; omega)).trans h10) (by omega) hcn ⟨hlo, hpre.2.1, rfl, show rk 22 < 2 by decide⟩ (fun c => absurd c (by decide)) (fun M2 em2 j2 Q2 f2 r2 l2 l20 ty2 po oo => iF_f (by decide) ?_) (fun M2 f k f2 e0 e1 hf rf => iF_t rfl (hz0 M2 f k ((f0.tr f1).r.tr f2) e0 e1 hf (ok.opF hb (by omega) hqo hpre.2.2.2 (by omega) rf)))
      have f02 := (f0.tr f1).tr f2
      have hS2 := f2.S hS1
      have hlv2 := lvT_l r2.2.2.2.2.2
      refine ⟨isO_pt hS2 (by decide) rfl, c_emit (x := (22, 0)) hS2 r2 (by rw [List.length_append]; omega) rfl fun M3 f3 r3 => nm_of ?_⟩
      rw [show nI c + (1 : Int32) = nI (c + 1) from nI_add _ 1]
      rw [ap3] at r3
      have hcm2 : cmpd ((Q2 ++ [22]) ++ P) = true := by
        rw [List.append_assoc]
        exact po.2.1
      exact ih (c + 1) j2 M3 (em ++ em2 ++ [(22, 0)]) (Q2 ++ [22]) (by omega) (by omega) (f3.S hS2) (hA.x ((f1.tr f2).tr f3).r) (f02.tr f3) ((f1.tr (f2.tr f3)).2 51 10 (by unfold pO; omega) |>.trans h10) r3 (by rw [ln3]; omega) (by rw [ln3]; omega) (hty.bi ty2 (by omega) fun t => tyS_an (by omega)) (q1_m (fun x hx => ⟨Nat.le_trans (by omega) (po.1 x hx).1, (po.1 x hx).2⟩) (by decide)) hcm2 (ok.op hb (by omega) hqo hpre.2.2.2 (by omega) oo) po.2.2.1 po.2.2.2.1 po.2.2.2.2.1 po.2.2.2.2.2.1 po.2.2.2.2.2.2
    · have fin : φ 1 M := hz1 M em j Q f0 rs hl hl0 hty ⟨hq, hcm, n42, n43, n40, n41, n25, z⟩ ok
      exact iF_s (fun _ => fin) (fun _ => ⟨isO_pt hS (by decide) rfl, iF_f (fun q => z ((rs.k 24 (by omega)).mp q)) fin⟩)
