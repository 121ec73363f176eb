/-! ===== TEXT: what a CLAUSE is; the one reads a DEED ===== -/
abbrev Cl : Type := Nat × (Nat → Nat)
def shD (so : Nat) : List (Nat × Nat × Nat) := if so = 5 then [(0, 3, 17), (1, 14, 99)] else if so = 6 then [(1, 9, 18), (1, 14, 19), (0, 3, 99)] else if so = 7 then [(1, 14, 19), (0, 3, 99)] else if so = 8 then [(0, 14, 19), (0, 3, 99)] else if so = 9 then [(0, 10, 1), (0, 10, 20), (0, 10, 99)] else if so = 13 ∨ so = 14 then [(1, 20, 99)] else if so = 15 then [] else if so = 16 then [(1, 99, 99)] else [(0, 5, 18), (0, 3, 99)]
theorem shD_t : ∀ so, so < 17 → 5 ≤ so → ∀ j, j < 3 → shpL.getD (((so - 5) * 3 + j) * 3) 0 = nI ((shD so).getD j (1, 0, 99)).1 ∧ shpL.getD (((so - 5) * 3 + j) * 3 + 1) 0 = nI ((shD so).getD j (1, 0, 99)).2.1 ∧ shpL.getD (((so - 5) * 3 + j) * 3 + 2) 0 = (if ((shD so).getD j (1, 0, 99)).2.2 = 99 then -1 else nI ((shD so).getD j (1, 0, 99)).2.2) := by decide +kernel
theorem shD_u : ∀ so, so < 17 → 5 ≤ so → ∀ j, j < 3 → ((shD so).getD j (1, 0, 99)).2.1 ≤ 99 ∧ ((shD so).getD j (1, 0, 99)).1 ≤ 1 ∧ (((shD so).getD j (1, 0, 99)).2.2 ≤ 20 ∨ ((shD so).getD j (1, 0, 99)).2.2 = 99) := by decide +kernel
theorem shD_v : ∀ so, so < 17 → 5 ≤ so → ∀ j, j < 3 → (((shD so).getD j (1, 0, 99)).1 ≤ ((shD so).getD j (1, 0, 99)).2.1 → j < (shD so).length) ∧ (((shD so).getD j (1, 0, 99)).2.1 < ((shD so).getD j (1, 0, 99)).1 → (shD so).length ≤ j) := by decide +kernel
theorem drp_c {α : Type} {l : List α} {j : Nat} {d : α} (h : j < l.length) : l.drop j = l.getD j d :: l.drop (j + 1) := by
  rw [List.drop_eq_getElem_cons h, List.getD_eq_getElem?_getD, List.getElem?_eq_getElem h]
  rfl
theorem shD_w : ∀ so, so < 17 → 5 ≤ so → ∀ j, j < 3 → ((shD so).getD j (1, 0, 99)).1 ≤ ((shD so).getD j (1, 0, 99)).2.1 → ((shD so).getD j (1, 0, 99)).2.2 = 99 → (shD so).drop (j + 1) = [] := by decide +kernel
theorem shD_n : ∀ so, so < 17 → 5 ≤ so → (shD so).length = arN so ∧ arN so ≤ 3 := by decide +kernel
def ddN (T V : Nat → Nat) : List (Nat × Nat × Nat) → Nat → Nat × Nat
  | [], i => (0, i)
  | (lo, hi, w) :: l, i => if T i ≠ 60 then (1, i) else if V i < lo ∨ hi < V i then (2, i) else if w = 99 then ddN T V l (i + 1) else if T (i + 1) = w then ddN T V l (i + 2) else (1, i + 1)
theorem ddN_g {T V : Nat → Nat} : ∀ l i, i ≤ (ddN T V l i).2 ∧ (ddN T V l i).1 ≤ 2
  | [], i => ⟨Nat.le_refl _, Nat.zero_le _⟩
  | (lo, hi, w) :: l, i => by
    have h1 := ddN_g (T := T) (V := V) l (i + 1)
    have h2 := ddN_g (T := T) (V := V) l (i + 2)
    show i ≤ (if T i ≠ 60 then (1, i) else if V i < lo ∨ hi < V i then (2, i) else if w = 99 then ddN T V l (i + 1) else if T (i + 1) = w then ddN T V l (i + 2) else (1, i + 1)).2 ∧ (if T i ≠ 60 then (1, i) else if V i < lo ∨ hi < V i then (2, i) else if w = 99 then ddN T V l (i + 1) else if T (i + 1) = w then ddN T V l (i + 2) else (1, i + 1)).1 ≤ 2
    repeat' split
    all_goals (first | omega | exact ⟨by omega, by decide⟩ | (constructor <;> simp))
def pCl (r k : Nat) : Prop := (r = 51 ∧ (k = 0 ∨ k = 1 ∨ (8 ≤ k ∧ k ≤ 13))) ∨ (52 ≤ r ∧ r ≤ 56)
def pD (n r k : Nat) : Prop := pO r k ∨ (r = 56 ∧ 3 * n ≤ k ∧ k < 3 * n + 3)
theorem FrX.rC {M M2 : fM} (f : FrX pR M M2) : FrX pCl M M2 := f.mn fun r k h => by unfold pR at h; unfold pCl; omega
theorem FrX.oC {M M2 : fM} (f : FrX pO M M2) : FrX pCl M M2 := f.r.rC
theorem FrX.dC {n : Nat} {M M2 : fM} (f : FrX (pD n) M M2) : FrX pCl M M2 := f.mn fun r k h => by unfold pD pO at h; unfold pCl; omega
theorem FrX.oD {n : Nat} {M M2 : fM} (f : FrX pO M M2) : FrX (pD n) M M2 := f.mn fun r k h => Or.inl h
theorem FrX.cX {M M2 : fM} {X : Nat → Int32} (f : FrX pCl M M2) (h : Sts X M) : Sts X M2 := h.cg (fun q hq k => f.2 q k (by unfold pCl; omega)) (fun k => by unfold mJ; rw [f.1])
theorem ArC.c {M M2 : fM} {tp : Nat → Nat} {tl : Nat} (f : FrX pCl M M2) (h : ArC M tp tl) : ArC M2 tp tl := by
  obtain ⟨n, h1, h2, h3⟩ := h
  refine ⟨n, h1, h2, fun k hk => ?_⟩
  rw [f.2 48 k (by unfold pCl; omega), f.2 49 k (by unfold pCl; omega), f.2 50 k (by unfold pCl; omega)]
  exact h3 k hk
theorem RS.of {M M2 : fM} {tp : Nat → Nat} {tl i : Nat} {E : List (Nat × Nat)} (f : ∀ r k, pO r k → mI M2 r k = mI M r k) (h : RS M tp tl E i) : RS M2 tp tl E i := by
  obtain ⟨h1, h2, h3, h4, h5, h6⟩ := h
  refine ⟨(f 51 11 (by unfold pO; omega)).trans h1, (f 51 12 (by unfold pO; omega)).trans h2, fun c => (f 51 13 (by unfold pO; omega)).trans (h3 c), (f 51 8 (by unfold pO; omega)).trans h4, fun j x hx => (f 52 j (by unfold pO; omega)).trans (h5 j x hx), h6⟩
theorem c_numb {L tl i n lo hi j : Nat} {tp : Nat → Nat} {E : List (Nat × Nat)} {M : fM} {φ : Int32 → fM → Prop} (hS : Str L M) (hA : ArC M tp tl) (htl : tl ≤ 300) (rs : RS M tp tl E i) (h9 : mI M 51 9 = nI n) (hn : n < 24) (hj : j < 3) (hlo : lo ≤ 99) (hhi : hi ≤ 99) (hz1 : TKk tp tl i = 60 → lo ≤ TKv tp tl i → TKv tp tl i ≤ hi → ∀ M2, FrX (pD n) M M2 → (∀ k, k ≠ 3 * n + j → mI M2 56 k = mI M 56 k) → mI M2 56 (3 * n + j) = nI (TKv tp tl i) → RS M2 tp tl E (i + 1) → φ 1 M2) (hz0 : ∀ f, ((TKk tp tl i ≠ 60 ∧ f = 1) ∨ (TKk tp tl i = 60 ∧ (TKv tp tl i < lo ∨ hi < TKv tp tl i) ∧ f = 2)) → ∀ M2, FrX pR M M2 → mI M2 51 0 = nI f → mI M2 51 1 = nI (poS tp tl i) → φ 0 M2) : w_X4_readNumber 51 (nI lo) (nI hi) (nI j) M φ := by
  refine ⟨isO_pt hS (by decide) rfl, ?_⟩
  by_cases z : TKk tp tl i = 60
  · have vb : TKv tp tl i ≤ 10000 := ncV_b
    refine iF_t ((rs.k 60 (by omega)).mpr z) ?_
    rw [rs.2.2.1 z]
    have bad : (TKv tp tl i < lo ∨ hi < TKv tp tl i) → j_X4_readNumber_31 φ 51 M := fun h => ⟨isO_pt hS (by decide) rfl, c_flt (f := 2) hS hA htl rs rfl fun M2 f a b => ⟨isB0, hz0 2 (Or.inr ⟨z, h, rfl⟩) M2 f a b⟩⟩
    by_cases l : TKv tp tl i < lo
    · exact iF_t ((nIlt (by omega) (by omega)).mpr l) (bad (Or.inl l))
    refine iF_f (fun c => l ((nIlt (by omega) (by omega)).mp c)) ?_
    by_cases g : TKv tp tl i ≤ hi
    · refine iF_t ((nIle (by omega) (by omega)).mpr g) (dR_of (Str.pg hS rfl) (c_putN (k := 3 * n + j) (by omega) (Str.sh hS 55 _ rfl) ?_ (by omega) (by omega) ?_))
      · rw [h9, show nI n * (3 : Int32) = nI (n * 3) from nI_muL n 3, nI_add, Nat.mul_comm]
      · have f1 : FrX (pD n) M (wI M 56 (3 * n + j) (nI (TKv tp tl i))) := FrX.w (Or.inr ⟨rfl, by omega, by omega⟩)
        refine ⟨isO_pt (f1.S hS) (by decide) rfl, c_adv (E := E) (f1.S hS) (hA.c f1.dC) htl (rs.of fun r k h => mI_n (by unfold pO at h; omega)) (by omega) fun M2 f2 r2 => ?_⟩
        refine hz1 z (by omega) g M2 (f1.tr f2.oD) (fun k hk => ?_) ?_ r2
        · rw [f2.2 56 k (by unfold pO; omega), mI_n (by omega)]
        · rw [f2.2 56 _ (by unfold pO; omega), mI_s rfl rfl]
    · exact iF_f (fun c => g ((nIle (by omega) (by omega)).mp c)) (bad (Or.inr (by omega)))
  · exact iF_f (fun c => z ((rs.k 60 (by omega)).mp c)) (c_flt (f := 1) hS hA htl rs rfl fun M2 f a b => ⟨isB0, hz0 1 (Or.inl ⟨z, rfl⟩) M2 f a b⟩)
set_option maxHeartbeats 1000000 in
theorem c_deed_l {L tl so n p0 : Nat} {X : Nat → Int32} {tp : Nat → Nat} {E : List (Nat × Nat)} {M0 : fM} {φ : Int32 → fM → Prop} (htl : tl ≤ 300) (hso : 5 ≤ so) (hso2 : so < 17) (hn : n < 24) (hz1 : ∀ M2 j, FrX (pD n) M0 M2 → RS M2 tp tl E j → (∀ q, q < arN so → mI M2 56 (3 * n + q) = nI (TKv tp tl (p0 + 2 * q))) → ddN (TKk tp tl) (TKv tp tl) (shD so) p0 = (0, j) → φ 1 M2) (hz0 : ∀ M2 f k, FrX pCl M0 M2 → mI M2 51 0 = nI f → mI M2 51 1 = nI (poS tp tl k) → ddN (TKk tp tl) (TKv tp tl) (shD so) p0 = (f, k) → f ≠ 0 → φ 0 M2) : ∀ (m j p : Nat) (M : fM), j + m = 3 → Str L M → Sts X M → ArC M tp tl → FrX (pD n) M0 M → RS M tp tl E p → mI M 51 9 = nI n → (∀ q, q < j → q < arN so → mI M 56 (3 * n + q) = nI (TKv tp tl (p0 + 2 * q))) → ddN (TKk tp tl) (TKv tp tl) (shD so) p0 = ddN (TKk tp tl) (TKv tp tl) ((shD so).drop j) p → ((shD so).drop j ≠ [] → p = p0 + 2 * j) → l_X4_readDeed_2 φ (m + 1) 51 (nI so) (nI j) M := by
  have an := shD_n so hso2 hso
  intro m
  induction m with
  | zero =>
    intro j p M hj hS hX hA f0 rs h9 hq hd hp
    have hdr : (shD so).drop j = [] := List.drop_eq_nil_of_le (by omega)
    rw [hdr] at hd
    exact iF_t ((nIle (a := 3) (by omega) (by omega)).mpr (by omega)) (hz1 M p f0 rs (fun q h => hq q (by omega) h) hd)
  | succ m ih =>
    intro j p M hj hS hX hA f0 rs h9 hq hd hp
    show b_X4_readDeed_2 (l_X4_readDeed_2 φ (m + 1)) φ 51 (nI so) (nI j) M
    generalize hK : l_X4_readDeed_2 φ (m + 1) = K at ih ⊢
    obtain ⟨t1, t2, t3⟩ := shD_t so hso2 hso j (by omega)
    obtain ⟨t4, t5, t6⟩ := shD_u so hso2 hso j (by omega)
    obtain ⟨t7, t9⟩ := shD_v so hso2 hso j (by omega)
    have t8 := shD_w so hso2 hso j (by omega)
    have t7 := fun hle => drp_c (d := (1, 0, 99)) (t7 hle)
    have t9 := fun hlt => List.drop_eq_nil_of_le (t9 hlt)
    generalize (shD so).getD j (1, 0, 99) = it at t1 t2 t3 t4 t5 t6 t7 t8 t9
    obtain ⟨lo, hi, w⟩ := it
    simp only at t1 t2 t3 t4 t5 t6 t7 t8 t9
    refine iF_f (fun c => absurd ((nIle (a := 3) (by omega) (by omega)).mp c) (by omega)) (nm_of ?_)
    rw [show nI so - (5 : Int32) = nI (so - 5) from nI_sub (b := 5) hso, show nI (so - 5) * (3 : Int32) = nI ((so - 5) * 3) from nI_muL _ 3, nI_add, show nI ((so - 5) * 3 + j) * (3 : Int32) = nI (((so - 5) * 3 + j) * 3) from nI_muL _ 3, show nI (((so - 5) * 3 + j) * 3) + (1 : Int32) = nI (((so - 5) * 3 + j) * 3 + 1) from nI_add _ 1, show nI (((so - 5) * 3 + j) * 3) + (2 : Int32) = nI (((so - 5) * 3 + j) * 3 + 2) from nI_add _ 2]
    refine c_cellN (Str.sh hS 0 _ rfl) rfl (by omega) (by omega) (c_cellN (Str.sh hS 0 _ rfl) rfl (by omega) (by omega) (c_cellN (Str.sh hS 0 _ rfl) rfl (by omega) (by omega) ?_))
    rw [hX.2.2.1 _ (by omega), hX.2.2.1 _ (by omega), hX.2.2.1 _ (by omega), t1, t2, t3]
    by_cases hle : lo ≤ hi
    · have t7 := t7 hle
      have t8 := t8 hle
      have ep := hp (by rw [t7]; exact List.cons_ne_nil _ _)
      rw [t7] at hd
      have hd : ddN (TKk tp tl) (TKv tp tl) (shD so) p0 = if TKk tp tl p ≠ 60 then (1, p) else if TKv tp tl p < lo ∨ hi < TKv tp tl p then (2, p) else if w = 99 then ddN (TKk tp tl) (TKv tp tl) ((shD so).drop (j + 1)) (p + 1) else if TKk tp tl (p + 1) = w then ddN (TKk tp tl) (TKv tp tl) ((shD so).drop (j + 1)) (p + 2) else (1, p + 1) := hd
      refine iF_t ((nIle (by omega) (by omega)).mpr hle) ⟨isO_pt hS (by decide) rfl, c_numb (φ := fun x13 M9 => iF (x13 = 0) (φ (0 : Int32) M9) (iF ((if w = 99 then -1 else nI w) = (-1 : Int32)) (nm (nI j + (1 : Int32)) fun x14 => K 51 (nI so) x14 M9) (isO M9 51 4 ∧ w_X4_passes 51 (if w = 99 then -1 else nI w) M9 fun x20 M16 => iF (x20 = 0) (φ (0 : Int32) M16) (nm (nI j + (1 : Int32)) fun x21 => K 51 (nI so) x21 M16)))) hS hA htl rs h9 hn (by omega) (by omega) t4 (fun z1 z2 z3 M1 f1 c1 v1 r1 => iF_f (by decide) ?_) (fun f hf M1 f1 e0 e1 => iF_t rfl ?_)⟩
      · rw [if_neg (fun c => c z1), if_neg (by omega)] at hd
        have hS1 := f1.S hS
        have q1 : ∀ q, q < j + 1 → q < arN so → mI M1 56 (3 * n + q) = nI (TKv tp tl (p0 + 2 * q)) := by
          intro q a b
          by_cases e : q = j
          · rw [e, v1, ep]
          · rw [c1 _ (by omega)]
            exact hq q (by omega) b
        have n9 : mI M1 51 9 = nI n := (f1.2 51 9 (by unfold pD pO; omega)).trans h9
        by_cases w9 : w = 99
        · rw [if_pos w9] at hd
          rw [if_pos w9]
          refine iF_t rfl (nm_of ?_)
          rw [show nI j + (1 : Int32) = nI (j + 1) from nI_add _ 1]
          exact ih (j + 1) (p + 1) M1 (by omega) hS1 (f1.dC.cX hX) (hA.c f1.dC) (f0.tr f1) r1 n9 q1 hd (fun c => absurd (t8 w9) c)
        · rw [if_neg w9] at hd
          rw [if_neg w9]
          refine iF_f (fun c => absurd c.symm (nI_m1n (by omega))) ⟨isO_pt hS1 (by decide) rfl, c_pass (t := w) hS1 (hA.c f1.dC) htl r1 rfl (by omega) (fun e M2 f2 r2 => iF_f (by decide) (nm_of ?_)) (fun e M2 f2 e0 e1 => iF_t rfl ?_)⟩
          · rw [if_pos e] at hd
            rw [show nI j + (1 : Int32) = nI (j + 1) from nI_add _ 1]
            exact ih (j + 1) (p + 2) M2 (by omega) (f2.S hS1) (f2.oC.cX (f1.dC.cX hX)) ((hA.c f1.dC).c f2.oC) ((f0.tr f1).tr f2.oD) r2 ((f2.2 51 9 (by unfold pO; omega)).trans n9) (fun q a b => (f2.2 56 _ (by unfold pO; omega)).trans (q1 q a b)) hd (fun _ => by omega)
          · rw [if_neg e] at hd
            exact hz0 M2 1 (p + 1) ((f0.dC.tr f1.dC).tr f2.rC) e0 e1 hd (by decide)
      · rcases hf with ⟨a, b⟩ | ⟨a, b, c⟩
        · rw [if_pos a] at hd
          rw [b] at e0
          exact hz0 M1 1 p (f0.dC.tr f1.rC) e0 e1 hd (by decide)
        · rw [if_neg (fun c => c a), if_pos b] at hd
          rw [c] at e0
          exact hz0 M1 2 p (f0.dC.tr f1.rC) e0 e1 hd (by decide)
    · have t9 := t9 (by omega)
      rw [t9] at hd
      refine iF_f (fun c => hle ((nIle (by omega) (by omega)).mp c)) (hz1 M p f0 rs (fun q h => hq q ?_ h) hd)
      have := List.drop_eq_nil_iff.mp t9
      omega
theorem c_deed {L tl so n p0 : Nat} {X : Nat → Int32} {tp : Nat → Nat} {E : List (Nat × Nat)} {M : fM} {φ : Int32 → fM → Prop} (htl : tl ≤ 300) (hso : 5 ≤ so) (hso2 : so < 17) (hn : n < 24) (hS : Str L M) (hX : Sts X M) (hA : ArC M tp tl) (rs : RS M tp tl E p0) (h9 : mI M 51 9 = nI n) (hz1 : ∀ M2 j, FrX (pD n) M M2 → RS M2 tp tl E j → (∀ q, q < arN so → mI M2 56 (3 * n + q) = nI (TKv tp tl (p0 + 2 * q))) → ddN (TKk tp tl) (TKv tp tl) (shD so) p0 = (0, j) → φ 1 M2) (hz0 : ∀ M2 f k, FrX pCl M M2 → mI M2 51 0 = nI f → mI M2 51 1 = nI (poS tp tl k) → ddN (TKk tp tl) (TKv tp tl) (shD so) p0 = (f, k) → f ≠ 0 → φ 0 M2) : w_X4_readDeed 51 (nI so) M φ :=
  ⟨4, c_deed_l htl hso hso2 hn hz1 hz0 3 0 p0 M rfl hS hX hA (FrX.rf M) rs h9 (fun q h => absurd h (Nat.not_lt_zero _)) rfl (fun _ => rfl)⟩
