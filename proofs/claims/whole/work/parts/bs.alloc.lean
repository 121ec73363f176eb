theorem imin_r2 {N n : Nat} (h : n ≤ N) (hN : N ≤ 300) : ix (imin (nI N) (nI n)) = n := by
  rw [imin_r h (by omega), ix_nI (by omega)]
theorem GX.cl (M : fM) (r n : Nat) : GX pNo M (clM M r n) := by
  refine ⟨fun q hq => List.getElem?_append_left hq, ?_, fun q k hq _ => ?_, fun q k hq => ?_, fun q k hq => ?_⟩
  · show mN M ≤ (M.2.2.2 ++ [(12, n)]).length
    rw [List.length_append]
    exact Nat.le_add_right _ _
  · show (if q = mN M then M.1 r k else M.1 q k) = M.1 q k
    rw [if_neg (by omega)]
  · show (if q = mN M then none else M.2.2.1 q k) = M.2.2.1 q k
    rw [if_neg (by omega)]
  · show (if q = mN M then 0 else M.2.1 q k) = M.2.1 q k
    rw [if_neg (by omega)]
theorem c_cpy {r N n : Nat} {a : Int32} {M : fM} {φ : Option Nat → fM → Prop} (h82 : 82 ≤ mN M) (hr : r < mN M) (h6 : 6 ≤ r) (hs : mS M r = some (12, N)) (hN : N ≤ 300) (hn : n ≤ N) (ha : a = nI n) (hz : ∀ M2, GX pNo M M2 → mS M2 (mN M) = some (12, n) → mN M2 = mN M + 1 → (∀ k, k < n → mI M2 (mN M) k = mI M r k) → φ (some (mN M)) M2) : w_J7_copyOf_59c91 r a M φ := by
  subst ha
  refine lenA_of hs ?_
  by_cases e : n = N
  · subst e
    refine iF_t rfl ⟨h6, lenA_of hs ⟨hN, fun q M1 e1 e2 => ?_⟩⟩
    subst e1 e2
    have s1 : mS (clM M r n) (mN M) = some (12, n) := by
      show (M.2.2.2 ++ [(12, n)])[M.2.2.2.length]? = _
      rw [List.getElem?_append_right (Nat.le_refl _), Nat.sub_self]
      rfl
    refine ⟨by omega, lenA_of s1 (hz _ (GX.cl M r n) s1 ?_ fun k hk => ?_)⟩
    · show (M.2.2.2 ++ [(12, n)]).length = _
      rw [List.length_append]
      rfl
    · show (if mN M = mN M then M.1 r k else _) = _
      rw [if_pos rfl]
      rfl
  · refine iF_f (fun c => e (nI_inj (by omega) (by omega) c)) ⟨fun c => absurd ((nIlt (b := 0) (by omega) (by omega)).mp c) (by omega), ?_⟩
    rw [ix_nI (by omega)]
    refine ⟨by omega, fun q M1 e1 e2 => ?_⟩
    subst e1 e2
    have s0 : mS (mNew M 12 n) r = some (12, N) := (mS_old hr).trans hs
    have s1 : mS (mNew M 12 n) (mN M) = some (12, n) := mS_new M 12 n
    refine lenA_of s0 ⟨h6, by omega, by decide, by decide, ?_, lenA_of s0 (lenA_of s1 ⟨?_, ?_, st_of ?_⟩)⟩
    · rw [imin_r hn (by omega)]
      exact fun c => absurd ((nIlt (b := 0) (by omega) (by omega)).mp c) (by omega)
    · rw [imin_r2 hn hN]
      show 0 + n ≤ N
      omega
    · rw [imin_r2 hn hN]
      show 0 + n ≤ n
      omega
    · rw [imin_r2 hn hN]
      show φ (some (mN M)) (cpI (mNew M 12 n) r (mN M) 0 0 n)
      have g := GX.nw (P := pNo) M 12 n
      refine hz _ ⟨g.1, g.2.1, fun r' k hr' hp => ?_, g.2.2.2.1, g.2.2.2.2⟩ s1 (mN_new M 12 n) fun k hk => ?_
      · rw [mI_cpI, if_neg (by omega)]
        exact g.2.2.1 r' k hr' hp
      · rw [mI_cpI, if_pos ⟨rfl, Nat.zero_le _, by omega⟩]
        show (if r = mN M then 0 else mI M r (0 + (k - 0))) = mI M r k
        rw [if_neg (by omega)]
        congr 1
        omega
/-- what the one's new TEXT holds -/
def NwT (M M2 : fM) (n cl : Nat) : Prop := GX pNo M M2 ∧ mN M2 = mN M + 6 ∧ mS M2 (mN M) = some (8, 5) ∧ (∀ k, k < 5 → mP M2 (mN M) k = some (mN M + 1 + k)) ∧ mS M2 (mN M + 1) = some (12, n) ∧ mS M2 (mN M + 2) = some (12, 5) ∧ mS M2 (mN M + 3) = some (12, 5) ∧ mS M2 (mN M + 4) = some (12, cl) ∧ mS M2 (mN M + 5) = some (12, 3 * cl) ∧ (∀ k, k < n → mI M2 (mN M + 1) k = mI M 52 k) ∧ (∀ k, k < 5 → mI M2 (mN M + 2) k = mI M 53 k) ∧ (∀ k, k < 5 → mI M2 (mN M + 3) k = mI M 54 k) ∧ (∀ k, k < cl → mI M2 (mN M + 4) k = mI M 55 k) ∧ ∀ k, k < 3 * cl → mI M2 (mN M + 5) k = mI M 56 k
theorem GX.wP {P : Nat → Nat → Prop} {M M2 : fM} {r k v : Nat} (f : GX P M M2) (hr : mN M ≤ r) : GX P M (wP M2 r k (some v)) := ⟨f.1, f.2.1, f.2.2.1, fun r' k' h => by
  show (if r' = r ∧ k' = k then some v else mP M2 r' k') = mP M r' k'
  rw [if_neg (by omega)]
  exact f.2.2.2.1 r' k' h, f.2.2.2.2⟩
theorem c_r92 {L n cl : Nat} {M : fM} {φ : Option Nat → fM → Prop} (hS : Str L M) (h8 : mI M 51 8 = nI n) (h9 : mI M 51 9 = nI cl) (hn : n ≤ 300) (hcl : cl ≤ 24) (hz : ∀ M2, NwT M M2 n cl → φ (some (mN M)) M2) : j_X4_read_92 φ 51 M := by
  have h82 := hS.n82
  intro q1 M3 e1 e2
  subst e1 e2
  have g0 : GX pNo M (mNew M 8 5) := GX.nw M 8 5
  have s0 : mS (mNew M 8 5) (mN M) = some (8, 5) := mS_new M 8 5
  have n0 : mN (mNew M 8 5) = mN M + 1 := mN_new M 8 5
  have hS0 := g0.S hS
  generalize mNew M 8 5 = M3 at g0 s0 n0 hS0 ⊢
  have o8 : mI M3 51 8 = nI n := (g0.2.2.1 51 8 (by omega) (fun c => c)).trans h8
  refine ⟨isO_pt hS0 (by decide) rfl, dR_of (Str.pg hS0 rfl) (c_cpy (N := 300) (n := n) (by omega) (by omega) (by omega) (Str.sh hS0 51 _ rfl) (by omega) hn o8 fun Ma ga sa na ca => ?_)⟩
  have hSa := ga.S hS0
  refine ⟨isO_pt hSa (by decide) rfl, dR_of (Str.pg hSa rfl) (c_cpy (N := 5) (n := 5) (by omega) (by omega) (by omega) (Str.sh hSa 52 _ rfl) (by omega) (by omega) rfl fun Mb gb sb nb cb => ?_)⟩
  have hSb := gb.S hSa
  refine ⟨isO_pt hSb (by decide) rfl, dR_of (Str.pg hSb rfl) (c_cpy (N := 5) (n := 5) (by omega) (by omega) (by omega) (Str.sh hSb 53 _ rfl) (by omega) (by omega) rfl fun Mc gc sc nc cc => ?_)⟩
  have hSc := gc.S hSb
  have gac := (ga.tr gb).tr gc
  have o9 : ∀ M', GX pNo M3 M' → mI M' 51 9 = nI cl := fun M' g => (g.2.2.1 51 9 (by omega) (fun c => c)).trans ((g0.2.2.1 51 9 (by omega) (fun c => c)).trans h9)
  refine ⟨isO_pt hSc (by decide) rfl, dR_of (Str.pg hSc rfl) (c_cpy (N := 24) (n := cl) (by omega) (by omega) (by omega) (Str.sh hSc 54 _ rfl) (by omega) hcl (o9 Mc gac) fun Md gd sd nd cd => ?_)⟩
  have hSd := gd.S hSc
  have gad := gac.tr gd
  refine ⟨isO_pt hSd (by decide) rfl, dR_of (Str.pg hSd rfl) (c_cpy (N := 72) (n := 3 * cl) (by omega) (by omega) (by omega) (Str.sh hSd 55 _ rfl) (by omega) (by omega) ?_ fun Me ge se ne ce => ?_)⟩
  · rw [o9 Md gad, show nI cl * (3 : Int32) = nI (cl * 3) from nI_muL cl 3, Nat.mul_comm]
  have gae := gad.tr ge
  refine dR_of (o := some (mN M3)) rfl (dR_of (o := some (mN Ma)) rfl (dR_of (o := some (mN Mb)) rfl (dR_of (o := some (mN Mc)) rfl (dR_of (o := some (mN Md)) rfl ?_))))
  have sq : mS Me (mN M) = some (8, 5) := (gae.1 _ (by omega)).trans s0
  have io : ∀ M', M'.2.2.2 = Me.2.2.2 → isO M' (mN M) 8 := fun M' e => ⟨by omega, 5, by unfold mS; rw [e]; exact sq⟩
  refine ⟨io Me rfl, st_of (st_of (st_of (st_of (st_of (hz _ ?_)))))⟩
  have gM : GX pNo M Me := g0.tr gae
  have g5 := ((((gM.wP (r := mN M) (k := 0) (v := mN M3) (Nat.le_refl _)).wP (r := mN M) (k := 1) (v := mN Ma) (Nat.le_refl _)).wP (r := mN M) (k := 2) (v := mN Mb) (Nat.le_refl _)).wP (r := mN M) (k := 3) (v := mN Mc) (Nat.le_refl _)).wP (r := mN M) (k := 4) (v := mN Md) (Nat.le_refl _)
  have ea : mN M + 1 = mN M3 := by omega
  have eb : mN M + 2 = mN Ma := by omega
  have ec : mN M + 3 = mN Mb := by omega
  have ed : mN M + 4 = mN Mc := by omega
  have ee : mN M + 5 = mN Md := by omega
  refine ⟨g5, ?_, sq, fun k hk => ?_, ?_, ?_, ?_, ?_, ?_, fun k hk => ?_, fun k hk => ?_, fun k hk => ?_, fun k hk => ?_, fun k hk => ?_⟩
  · show mN Me = _
    omega
  · have hk5 : k = 0 ∨ k = 1 ∨ k = 2 ∨ k = 3 ∨ k = 4 := by omega
    rcases hk5 with e | e | e | e | e
    · subst e
      rw [mP_wP, if_neg (by omega), mP_wP, if_neg (by omega), mP_wP, if_neg (by omega), mP_wP, if_neg (by omega), mP_wP, if_pos ⟨rfl, rfl⟩, ← ea]
    · subst e
      rw [mP_wP, if_neg (by omega), mP_wP, if_neg (by omega), mP_wP, if_neg (by omega), mP_wP, if_pos ⟨rfl, rfl⟩, ← eb]
    · subst e
      rw [mP_wP, if_neg (by omega), mP_wP, if_neg (by omega), mP_wP, if_pos ⟨rfl, rfl⟩, ← ec]
    · subst e
      rw [mP_wP, if_neg (by omega), mP_wP, if_pos ⟨rfl, rfl⟩, ← ed]
    · subst e
      rw [mP_wP, if_pos ⟨rfl, rfl⟩, ← ee]
  · rw [ea]
    exact (((((gb.tr gc).tr gd).tr ge).1 _ (by omega))).trans sa
  · rw [eb]
    exact ((((gc.tr gd).tr ge).1 _ (by omega))).trans sb
  · rw [ec]
    exact (((gd.tr ge).1 _ (by omega))).trans sc
  · rw [ed]
    exact ((ge.1 _ (by omega))).trans sd
  · rw [ee]
    exact se
  · rw [ea]
    exact (((((gb.tr gc).tr gd).tr ge).2.2.1 _ k (by omega) (fun c => c))).trans ((ca k hk).trans (g0.2.2.1 52 k (by omega) (fun c => c)))
  · rw [eb]
    exact ((((gc.tr gd).tr ge).2.2.1 _ k (by omega) (fun c => c))).trans ((cb k hk).trans ((g0.tr ga).2.2.1 53 k (by omega) (fun c => c)))
  · rw [ec]
    exact (((gd.tr ge).2.2.1 _ k (by omega) (fun c => c))).trans ((cc k hk).trans ((g0.tr (ga.tr gb)).2.2.1 54 k (by omega) (fun c => c)))
  · rw [ed]
    exact ((ge.2.2.1 _ k (by omega) (fun c => c))).trans ((cd k hk).trans ((g0.tr gac).2.2.1 55 k (by omega) (fun c => c)))
  · rw [ee]
    exact (ce k hk).trans ((g0.tr gad).2.2.1 56 k (by omega) (fun c => c))
