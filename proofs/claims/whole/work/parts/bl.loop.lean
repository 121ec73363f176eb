/-! ===== TEXT: all CLAUSES, of the one ===== -/
def ChN (T V : Nat → Nat) : Nat → List Cl → List (Nat × Nat) → Nat → List Cl → List (Nat × Nat) → Nat → Prop
  | 0, CL, E, i, CL', E', i' => CL' = CL ∧ E' = E ∧ i' = i
  | n + 1, CL, E, i, CL', E', i' => ∃ em j, T i ≠ 61 ∧ ClR T V CL i em j ∧ ChN T V n (CL ++ [cla T V E em i]) (E ++ em) (j + 1) CL' E' i'
def ChF (T V : Nat → Nat) (CL : List Cl) (E : List (Nat × Nat)) (i f k : Nat) : Prop := ∃ n CL' E' i', ChN T V n CL E i CL' E' i' ∧ T i' ≠ 61 ∧ ClF T V CL' i' f k
theorem c_rd_l {L tl : Nat} {X : Nat → Int32} {tp : Nat → Nat} {φ : Option Nat → fM → Prop} (htl : tl ≤ 300) : ∀ (m : Nat) (CL : List Cl) (E : List (Nat × Nat)) (i : Nat) (M : fM), CL.length + m = 25 → Str L M → Sts X M → ArC M tp tl → RS M tp tl E i → CcA M CL → WfC CL E → E.length ≤ i → (∀ M2 n CL2 E2 i2, FrX pCl M M2 → RS M2 tp tl E2 i2 → CcA M2 CL2 → WfC CL2 E2 → E2.length ≤ i2 → ChN (TKk tp tl) (TKv tp tl) n CL E i CL2 E2 i2 → TKk tp tl i2 = 61 → (∀ q, q < 2 → mI M2 51 q = mI M 51 q) → j_X4_read_92 φ 51 M2) → (∀ M2 f k, FrX pCl M M2 → mI M2 51 0 = nI f → mI M2 51 1 = nI (poS tp tl k) → (1 ≤ f ∧ f ≤ 6) → ChF (TKk tp tl) (TKv tp tl) CL E i f k → φ none M2) → l_X4_read_62 φ (m + 1) 51 (nI CL.length) M := by
  intro m
  induction m with
  | zero =>
    intro CL E i M hm hS hX hA rs cc wf
    have := wf.1
    omega
  | succ m ih =>
    intro CL E i M hm hS hX hA rs cc wf hE hzE hzF
    have wl := wf.1
    show b_X4_read_62 (l_X4_read_62 φ (m + 1)) φ 51 (nI CL.length) M
    generalize hK : l_X4_read_62 φ (m + 1) = K at ih ⊢
    refine iF_f (fun c => absurd ((nIlt (a := 24) (by omega) (by omega)).mp c) (by omega)) ⟨isO_pt hS (by decide) rfl, ?_⟩
    by_cases z : TKk tp tl i = 61
    · exact iF_t ((rs.k 61 (by omega)).mpr z) (hzE M 0 CL E i (FrX.rf M) rs cc wf hE ⟨rfl, rfl, rfl⟩ z fun _ _ => rfl)
    · refine iF_f (fun c => z ((rs.k 61 (by omega)).mp c)) (c_cls htl hS hX hA rs cc wf hE (fun M2 em j f2 r2 cc2 wf2 hE2 hij cr h01 => iF_f (by decide) (nm_of ?_)) (fun M2 f k f2 e0 e1 hf cf => iF_t rfl (hzF M2 f k f2 e0 e1 hf ⟨0, CL, E, i, ⟨rfl, rfl, rfl⟩, z, cf⟩)))
      have el : (CL ++ [cla (TKk tp tl) (TKv tp tl) E em i]).length = CL.length + 1 := by
        rw [List.length_append]
        rfl
      have := ih (CL ++ [cla (TKk tp tl) (TKv tp tl) E em i]) (E ++ em) (j + 1) M2 (by omega) (f2.S hS) (f2.cX hX) (hA.c f2) r2 cc2 wf2 hE2 (fun M3 n CL3 E3 i3 f3 r3 cc3 wf3 hE3 ch e g01 => hzE M3 (n + 1) CL3 E3 i3 (f2.tr f3) r3 cc3 wf3 hE3 ⟨em, j, z, cr, ch⟩ e fun q hq => (g01 q hq).trans (h01 q hq)) (fun M3 f k f3 e0 e1 hf cf => hzF M3 f k (f2.tr f3) e0 e1 hf ?_)
      · rw [el] at this
        rw [show nI CL.length + (1 : Int32) = nI (CL.length + 1) from nI_add _ 1]
        exact this
      · obtain ⟨n, CL', E', i', h1, h2, h3⟩ := cf
        exact ⟨n + 1, CL', E', i', ⟨em, j, z, cr, h1⟩, h2, h3⟩
