/-! ===== TEXT: the one scans the tape ===== -/
def pS (r k : Nat) : Prop := r = 46 ∧ k = 5
theorem FrX.rf {P : Nat → Nat → Prop} (M : fM) : FrX P M M := ⟨rfl, fun _ _ _ => rfl⟩
theorem FrX.w {P : Nat → Nat → Prop} {M : fM} {r k : Nat} {v : Int32} (h : P r k) : FrX P M (wI M r k v) := ⟨rfl, fun r' k' hn => mI_n (by
  by_cases e : r' = r
  · refine Or.inr fun e2 => hn ?_
    rw [e, e2]
    exact h
  · exact Or.inl e)⟩
theorem TpC.x {M M2 : fM} {tl : Nat} {tp : Nat → Nat} (f : FrX pS M M2) (h : TpC M tl tp) : TpC M2 tl tp := ⟨(f.2 46 1 (by unfold pS; omega)).trans h.1, fun k hk => ⟨(h.2 k hk).1, (f.2 47 k (by unfold pS; omega)).trans (h.2 k hk).2⟩⟩
theorem FrX.pX {M M2 : fM} {X : Nat → Int32} (f : FrX pS M M2) (h : Sts X M) : Sts X M2 := h.cg (fun q hq k => f.2 q k (by unfold pS; omega)) (fun k => by unfold mJ; rw [f.1])
theorem c_byte1 {L tl k : Nat} {tp : Nat → Nat} {M : fM} {a : Int32} {φ : Int32 → fM → Prop} (hS : Str L M) (hT : TpC M tl tp) (ha : a = nI k) (hk : k < tl) (htl : tl ≤ 300) (h : φ (nI (tp k)) M) : w_X7_byteAt 46 a M φ := by
  subst ha
  refine iF_f (fun c => absurd ((nIlt (b := 0) (by omega) (by omega)).mp c) (by omega)) ⟨isO_pt hS (by decide) rfl, ?_⟩
  rw [hT.1]
  refine iF_f (fun c => absurd ((nIle (by omega) (by omega)).mp c) (by omega)) (dR_of (Str.pg hS rfl) (c_cellN (Str.sh hS 46 _ rfl) rfl (by omega) (by omega) ?_))
  rw [(hT.2 k hk).2]
  exact h
theorem c_byte0 {L tl k : Nat} {tp : Nat → Nat} {M : fM} {a : Int32} {φ : Int32 → fM → Prop} (hS : Str L M) (hT : TpC M tl tp) (ha : a = nI k) (hk : tl ≤ k) (hk3 : k ≤ 1000) (h : φ (-1) M) : w_X7_byteAt 46 a M φ := by
  subst ha
  refine iF_f (fun c => absurd ((nIlt (b := 0) (by omega) (by omega)).mp c) (by omega)) ⟨isO_pt hS (by decide) rfl, ?_⟩
  rw [hT.1]
  exact iF_t ((nIle (by omega) (by omega)).mpr hk) h
theorem c_isDg {b : Nat} {M : fM} {φ : Int32 → fM → Prop} (hb : b < 256) (h : φ (if isDg b = true then 1 else 0) M) : w_X7_isDigit (nI b) M φ := by
  by_cases e : isDg b = true
  · rw [if_pos e] at h
    have q := isDg_t.mp e
    exact iF_f (fun c => absurd ((nIlt (b := 48) (by omega) (by omega)).mp c) (by omega)) (iF_f (fun c => absurd ((nIlt (a := 57) (by omega) (by omega)).mp c) (by omega)) h)
  · rw [if_neg e] at h
    have q : ¬ (48 ≤ b ∧ b ≤ 57) := fun c => e (isDg_t.mpr c)
    refine iF_s (fun _ => h) (fun c1 => iF_s (fun _ => h) (fun c2 => ?_))
    have d1 : ¬ b < 48 := fun z => c1 ((nIlt (b := 48) (by omega) (by omega)).mpr z)
    have d2 : ¬ 57 < b := fun z => c2 ((nIlt (a := 57) (by omega) (by omega)).mpr z)
    omega
theorem c_isLt {b : Nat} {M : fM} {φ : Int32 → fM → Prop} (hb : b < 256) (h : φ (if isLt b = true then 1 else 0) M) : w_X7_isLetter (nI b) M φ := by
  have big : j_X7_isLetter_12 φ (nI b) M ∨ (97 ≤ b ∧ b ≤ 122) := by
    by_cases z : 97 ≤ b ∧ b ≤ 122
    · exact Or.inr z
    · refine Or.inl ?_
      by_cases e : isLt b = true
      · rw [if_pos e] at h
        have q := isLt_t.mp e
        exact iF_f (fun c => absurd ((nIlt (b := 65) (by omega) (by omega)).mp c) (by omega)) (iF_f (fun c => absurd ((nIlt (a := 90) (by omega) (by omega)).mp c) (by omega)) h)
      · rw [if_neg e] at h
        have q : ¬ ((97 ≤ b ∧ b ≤ 122) ∨ (65 ≤ b ∧ b ≤ 90)) := fun c => e (isLt_t.mpr c)
        refine iF_s (fun _ => h) (fun c1 => iF_s (fun _ => h) (fun c2 => ?_))
        have d1 : ¬ b < 65 := fun z => c1 ((nIlt (b := 65) (by omega) (by omega)).mpr z)
        have d2 : ¬ 90 < b := fun z => c2 ((nIlt (a := 90) (by omega) (by omega)).mpr z)
        omega
  rcases big with j | z
  · refine iF_s (fun _ => j) (fun c1 => iF_s (fun c2 => ?_) (fun _ => j))
    have d1 : ¬ b < 97 := fun z => c1 ((nIlt (b := 97) (by omega) (by omega)).mpr z)
    have d2 := (nIle (b := 122) (by omega) (by omega)).mp c2
    rw [if_pos (isLt_t.mpr (Or.inl ⟨by omega, d2⟩))] at h
    exact h
  · rw [if_pos (isLt_t.mpr (Or.inl z))] at h
    exact iF_f (fun c => absurd ((nIlt (b := 97) (by omega) (by omega)).mp c) (by omega)) (iF_t ((nIle (b := 122) (by omega) (by omega)).mpr z.2) h)
theorem c_skip_l {L tl : Nat} {tp : Nat → Nat} {φ : fM → Prop} (htl : tl ≤ 300) : ∀ (m p : Nat) (M : fM), p + m = tl → Str L M → TpC M tl tp → mI M 46 5 = nI p → (∀ M2, FrX pS M M2 → mI M2 46 5 = nI (ru isBl tp tl p) → φ M2) → l_X7_skipBlanks_0 φ (m + 1) 46 M := by
  intro m
  induction m with
  | zero =>
    intro p M hp hS hT h5 hz
    refine ⟨isO_pt hS (by decide) rfl, ?_⟩
    rw [hT.1, h5]
    exact iF_t ((nIle (by omega) (by omega)).mpr (by omega)) (hz M (FrX.rf M) (by rw [ru_e (by omega)]; exact h5))
  | succ m ih =>
    intro p M hp hS hT h5 hz
    show b_X7_skipBlanks_0 (l_X7_skipBlanks_0 φ (m + 1)) φ 46 M
    generalize hK : l_X7_skipBlanks_0 φ (m + 1) = K at ih ⊢
    have hb := (hT.2 p (by omega)).1
    have go : isBl (tp p) = true → j_X7_skipBlanks_37 K φ 46 M := by
      intro hq
      refine ⟨isO_pt hS (by decide) rfl, nm_of (st_of ?_)⟩
      rw [h5, show nI p + (1 : Int32) = nI (p + 1) from nI_add _ 1]
      have f : FrX pS M (wI M 46 5 (nI (p + 1))) := FrX.w ⟨rfl, rfl⟩
      refine ih (p + 1) _ (by omega) (f.S hS) (hT.x f) (mI_s rfl rfl) fun M2 f2 h2 => hz M2 (f.tr f2) ?_
      rw [ru_s (by omega) hq]
      exact h2
    refine ⟨isO_pt hS (by decide) rfl, ?_⟩
    rw [hT.1, h5]
    refine iF_f (fun c => absurd ((nIle (by omega) (by omega)).mp c) (by omega)) (c_byte1 hS hT rfl (by omega) htl ?_)
    by_cases e1 : tp p = 32
    · exact iF_t (by rw [e1]; rfl) (go (isBl_t.mpr (Or.inl e1)))
    · refine iF_f (fun c => e1 (nI_inj (b := 32) (by omega) (by omega) c)) ⟨isO_pt hS (by decide) rfl, ?_⟩
      rw [h5]
      refine c_byte1 hS hT rfl (by omega) htl ?_
      by_cases e2 : tp p = 10
      · exact iF_t (by rw [e2]; rfl) (go (isBl_t.mpr (Or.inr e2)))
      · refine iF_f (fun c => e2 (nI_inj (b := 10) (by omega) (by omega) c)) (hz M (FrX.rf M) ?_)
        rw [ru_e (fun c => by have := isBl_t.mp c.2; omega)]
        exact h5
theorem c_skip {L tl p : Nat} {tp : Nat → Nat} {M : fM} {φ : fM → Prop} (htl : tl ≤ 300) (hp : p ≤ tl) (hS : Str L M) (hT : TpC M tl tp) (h5 : mI M 46 5 = nI p) (hz : ∀ M2, FrX pS M M2 → mI M2 46 5 = nI (ru isBl tp tl p) → φ M2) : w_X7_skipBlanks 46 M φ := ⟨tl - p + 1, c_skip_l htl (tl - p) p M (by omega) hS hT h5 hz⟩
theorem c_num_l {L tl : Nat} {tp : Nat → Nat} {φ : Int32 → fM → Prop} (htl : tl ≤ 300) : ∀ (m p v : Nat) (M : fM), p + m = tl → v ≤ 10000 → Str L M → TpC M tl tp → mI M 46 5 = nI p → (∀ M2, FrX pS M M2 → mI M2 46 5 = nI (ru isDg tp tl p) → φ (nI (ncV tp tl p v)) M2) → l_X7_scanNumber_2 φ (m + 1) 46 (nI v) M := by
  intro m
  induction m with
  | zero =>
    intro p v M hp hv hS hT h5 hz
    refine ⟨isO_pt hS (by decide) rfl, ?_⟩
    rw [hT.1, h5]
    have q := hz M (FrX.rf M) (by rw [ru_e (by omega)]; exact h5)
    rw [ncV_e (by omega)] at q
    exact iF_t ((nIle (by omega) (by omega)).mpr (by omega)) q
  | succ m ih =>
    intro p v M hp hv hS hT h5 hz
    show b_X7_scanNumber_2 (l_X7_scanNumber_2 φ (m + 1)) φ 46 (nI v) M
    generalize hK : l_X7_scanNumber_2 φ (m + 1) = K at ih ⊢
    have hb := (hT.2 p (by omega)).1
    refine ⟨isO_pt hS (by decide) rfl, ?_⟩
    rw [hT.1, h5]
    refine iF_f (fun c => absurd ((nIle (by omega) (by omega)).mp c) (by omega)) (c_byte1 hS hT rfl (by omega) htl (c_isDg hb ?_))
    by_cases e : isDg (tp p) = true
    · rw [if_pos e]
      have d := isDg_t.mp e
      refine iF_f (by decide) ⟨isO_pt hS (by decide) rfl, ?_⟩
      rw [h5]
      refine c_byte1 hS hT rfl (by omega) htl (nm_of ⟨isO_pt hS (by decide) rfl, nm_of (st_of ?_)⟩)
      have e1 : ((nI v * (10 : Int32)) + nI (tp p)) - (48 : Int32) = nI (10 * v + (tp p - 48)) := by
        rw [Int32.mul_comm, show (10 : Int32) * nI v = nI (10 * v) from nI_muL 10 v, nI_add, show nI (10 * v + tp p) - (48 : Int32) = nI (10 * v + tp p - 48) from nI_sub (b := 48) (by omega)]
        exact congrArg nI (by omega)
      have e2 : imin (10000 : Int32) (nI (10 * v + (tp p - 48))) = nI (if 10 * v + (tp p - 48) ≤ 10000 then 10 * v + (tp p - 48) else 10000) := by
        by_cases z : 10 * v + (tp p - 48) ≤ 10000
        · rw [if_pos z]
          exact imin_r (a := 10000) z (by omega)
        · rw [if_neg z]
          exact imin_l (a := 10000) (by omega) (by omega)
      rw [h5, e1, e2, show nI p + (1 : Int32) = nI (p + 1) from nI_add _ 1]
      have f : FrX pS M (wI M 46 5 (nI (p + 1))) := FrX.w ⟨rfl, rfl⟩
      refine ih (p + 1) _ _ (by omega) (by split <;> omega) (f.S hS) (hT.x f) (mI_s rfl rfl) fun M2 f2 h2 => ?_
      rw [← ncV_s (by omega) e]
      exact hz M2 (f.tr f2) (by rw [ru_s (by omega) e]; exact h2)
    · rw [if_neg e]
      have q := hz M (FrX.rf M) (by rw [ru_e (fun c => e c.2)]; exact h5)
      rw [ncV_e (fun c => e c.2)] at q
      exact iF_t rfl q
theorem c_num {L tl p : Nat} {tp : Nat → Nat} {M : fM} {φ : Int32 → fM → Prop} (htl : tl ≤ 300) (hp : p ≤ tl) (hS : Str L M) (hT : TpC M tl tp) (h5 : mI M 46 5 = nI p) (hz : ∀ M2, FrX pS M M2 → mI M2 46 5 = nI (ru isDg tp tl p) → φ (nI (ncV tp tl p 0)) M2) : w_X7_scanNumber 46 M φ := ⟨tl - p + 1, c_num_l htl (tl - p) p 0 M (by omega) (by omega) hS hT h5 hz⟩
theorem wor_z : ∀ k, k < 178 → UInt32.toInt32 (Int32.toUInt32 ((worL.getD k 0) &&& (255 : Int32)) % 65536) = worL.getD k 0 := by decide +kernel
theorem wor_n : ∀ k, k < 35 → ∀ j, j < (WD k).length → worL.getD (wpF k + 1 + j) 0 = nI ((WD k).getD j 0) := by decide +kernel
theorem wor_c : ∀ k, k < 178 → (worL.getD k 0).toUInt32.toNat < 65536 := by decide +kernel
theorem isC_of {x : Int32} (h : UInt32.toInt32 (Int32.toUInt32 x % 65536) = x) : isC x := by
  unfold isC
  exact congrArg Value.int h
theorem wor_y : ∀ k, k < 178 → UInt32.toInt32 (Int32.toUInt32 (worL.getD k 0) % 65536) = worL.getD k 0 := by decide +kernel
theorem c_char {L k : Nat} {X : Nat → Int32} {M : fM} {a : Int32} {φ : Int32 → fM → Prop} (hS : Str L M) (hX : Sts X M) (ha : a = nI k) (hk : k < 178) (h : φ (worL.getD k 0) M) : w_J0_charAt_5068e a M φ := by
  subst ha
  refine iF_f (by decide) (lenA_of (Str.sh hS 3 _ rfl) (iF_f (fun c => absurd ((nIlt (b := 0) (by omega) (by omega)).mp c) (by omega)) (iF_t ((nIlt (by omega) (by omega)).mpr hk) ⟨inA_pt hS rfl (vp_nI (by omega) (by decide)), ?_⟩)))
  rw [ix_nI (by omega), hX.2.1 k hk, wor_z k hk]
  exact ⟨isC_of (wor_y k hk), isC_of (wor_y k hk), h⟩
theorem c_wlen {L : Nat} {M : fM} {φ : Int32 → fM → Prop} (hS : Str L M) (h : φ (nI 178) M) : w_J0_length_8abf5 M φ := lenA_of (Str.sh hS 3 _ rfl) h
theorem c_spl_l {L tl s e k : Nat} {X : Nat → Int32} {tp : Nat → Nat} {M : fM} {φ : Int32 → fM → Prop} (hS : Str L M) (hX : Sts X M) (hT : TpC M tl tp) (htl : tl ≤ 300) (h5 : mI M 46 5 = nI e) (he : e ≤ tl) (hk : k < 35) (hlt : ∀ q, s ≤ q → q < e → isLt (tp q) = true) (hz : φ (if wdQ tp s e k = true then 1 else 0) M) : ∀ (m j : Nat), s + j + m = e → j ≤ (WD k).length → (∀ i, i < j → tp (s + i) = (WD k).getD i 0) → l_X7_isSpelled_5 φ (m + 1) 46 (nI (wpF k + 1 + j)) (nI (s + j)) M := by
  have hw := wor_le k hk
  intro m
  induction m with
  | zero =>
    intro j hj hjl hq
    refine ⟨isO_pt hS (by decide) rfl, ?_⟩
    rw [h5]
    refine iF_t ((nIle (by omega) (by omega)).mpr (by omega)) (c_wlen hS (iF_f (fun c => absurd ((nIle (by omega) (by omega)).mp c) (by omega)) (c_char hS hX rfl (by omega) ?_)))
    by_cases z : j = (WD k).length
    · have e1 : worL.getD (wpF k + 1 + j) 0 = 32 := by
        have q := wor_sp (k + 1) (by omega)
        rw [z]
        exact q
      have e2 : wdQ tp s e k = true := wdQ_t.mpr ⟨by omega, fun i hi => hq i (by omega)⟩
      rw [e2, if_pos rfl] at hz
      exact iF_t e1 hz
    · have e2 : ¬ wdQ tp s e k = true := fun c => by
        have := (wdQ_t.mp c).1
        omega
      rw [if_neg e2] at hz
      have ch := WD_ch k hk j (by omega)
      rw [wor_n k hk j (by omega)]
      exact iF_f (fun c => by have := nI_inj (b := 32) (by omega) (by omega) c; omega) hz
  | succ m ih =>
    intro j hj hjl hq
    show b_X7_isSpelled_5 (l_X7_isSpelled_5 φ (m + 1)) φ 46 (nI (wpF k + 1 + j)) (nI (s + j)) M
    have hl := isLt_t.mp (hlt (s + j) (by omega) (by omega))
    refine ⟨isO_pt hS (by decide) rfl, ?_⟩
    rw [h5]
    refine iF_f (fun c => absurd ((nIle (by omega) (by omega)).mp c) (by omega)) (c_wlen hS (iF_f (fun c => absurd ((nIle (by omega) (by omega)).mp c) (by omega)) (c_char hS hX rfl (by omega) ⟨isO_pt hS (by decide) rfl, c_byte1 hS hT rfl (by omega) htl ?_⟩)))
    by_cases z : j = (WD k).length
    · have e1 : worL.getD (wpF k + 1 + j) 0 = nI 32 := by
        have q := wor_sp (k + 1) (by omega)
        rw [z]
        exact q
      have e2 : ¬ wdQ tp s e k = true := fun c => by
        have := (wdQ_t.mp c).1
        omega
      rw [if_neg e2] at hz
      rw [e1]
      exact iF_f (fun c => by have := nI_inj (by omega) (by omega) c; omega) hz
    · have ch := WD_ch k hk j (by omega)
      rw [wor_n k hk j (by omega)]
      by_cases y : (WD k).getD j 0 = tp (s + j)
      · refine iF_t (by rw [y]) (nm_of (nm_of ?_))
        rw [show nI (wpF k + 1 + j) + (1 : Int32) = nI (wpF k + 1 + (j + 1)) from nI_add _ 1, show nI (s + j) + (1 : Int32) = nI (s + (j + 1)) from nI_add _ 1]
        refine ih (j + 1) (by omega) (by omega) fun i hi => ?_
        by_cases x : i = j
        · rw [x]
          exact y.symm
        · exact hq i (by omega)
      · have e2 : ¬ wdQ tp s e k = true := fun c => y ((wdQ_t.mp c).2 j (by omega)).symm
        rw [if_neg e2] at hz
        exact iF_f (fun c => y (nI_inj (by omega) (by omega) c)) hz
theorem c_sw_l {L tl s e : Nat} {X : Nat → Int32} {tp : Nat → Nat} {M : fM} {φ : Int32 → fM → Prop} (hS : Str L M) (hX : Sts X M) (hT : TpC M tl tp) (htl : tl ≤ 300) (h5 : mI M 46 5 = nI e) (hse : s ≤ e) (he : e ≤ tl) (hlt : ∀ q, s ≤ q → q < e → isLt (tp q) = true) : ∀ (m k : Nat), k + m = 35 → φ (nI (wzF tp s e m)) M → ∃ f, l_X7_scanWord_47 φ f 46 (nI s) (nI k) (nI (wpF k)) M := by
  intro m
  induction m with
  | zero =>
    intro k hk hz
    obtain rfl : k = 35 := by omega
    refine ⟨1, ?_⟩
    show b_X7_scanWord_47 (l_X7_scanWord_47 φ 0) φ 46 (nI s) (nI 35) (nI 177) M
    exact c_wlen hS (iF_t (by decide) hz)
  | succ m ih =>
    intro k hk hz
    have hk35 : k < 35 := by omega
    have hw := wor_le k hk35
    have hz : φ (nI (if wdQ tp s e (34 - m) = true then 34 - m else wzF tp s e m)) M := hz
    rw [show 34 - m = k by omega] at hz
    by_cases q : wdQ tp s e k = true
    · rw [if_pos q] at hz
      refine ⟨1, ?_⟩
      show b_X7_scanWord_47 (l_X7_scanWord_47 φ 0) φ 46 (nI s) (nI k) (nI (wpF k)) M
      refine c_wlen hS (iF_f (fun c => ?_) (c_char hS hX rfl (by omega) (iF_t (wor_sp k (by omega)) ⟨isO_pt hS (by decide) rfl, ⟨e - s + 1, ?_⟩⟩)))
      · rw [show nI (wpF k) + (1 : Int32) = nI (wpF k + 1) from nI_add _ 1] at c
        exact absurd ((nIle (by omega) (by omega)).mp c) (by omega)
      rw [show nI (wpF k) + (1 : Int32) = nI (wpF k + 1) from nI_add _ 1]
      refine c_spl_l (φ := fun x11 M7 => iF (x11 = 0) (nm (nI k + (1 : Int32)) fun x12 => nm (nI (wpF k + 1)) fun x14 => l_X7_scanWord_47 φ 0 46 (nI s) x12 x14 M7) (φ (nI k) M7)) hS hX hT htl h5 he hk35 hlt ?_ (e - s) 0 (by omega) (by omega) (fun i hi => absurd hi (by omega))
      rw [if_pos q]
      exact iF_f (by decide) hz
    · rw [if_neg q] at hz
      obtain ⟨f, hf⟩ := ih (k + 1) (by omega) hz
      have walk : ∀ i j, j + i = (WD k).length + 1 → 1 ≤ j → l_X7_scanWord_47 φ (f + i) 46 (nI s) (nI (k + 1)) (nI (wpF k + j)) M := by
        intro i
        induction i with
        | zero =>
          intro j hj _
          rw [show wpF k + j = wpF (k + 1) by show wpF k + j = wpF k + 1 + (WD k).length; omega]
          exact hf
        | succ i ih2 =>
          intro j hj h1
          show b_X7_scanWord_47 (l_X7_scanWord_47 φ (f + i)) φ 46 (nI s) (nI (k + 1)) (nI (wpF k + j)) M
          refine c_wlen hS (iF_f (fun c => ?_) (c_char hS hX rfl (by omega) (iF_f (fun c => ?_) (nm_of ?_))))
          · rw [show nI (wpF k + j) + (1 : Int32) = nI (wpF k + j + 1) from nI_add _ 1] at c
            exact absurd ((nIle (by omega) (by omega)).mp c) (by omega)
          · have ch := WD_ch k hk35 (j - 1) (by omega)
            have e1 := wor_n k hk35 (j - 1) (by omega)
            rw [show wpF k + 1 + (j - 1) = wpF k + j by omega] at e1
            rw [e1] at c
            have := nI_inj (b := 32) (by omega) (by omega) c
            omega
          · rw [show nI (wpF k + j) + (1 : Int32) = nI (wpF k + (j + 1)) from nI_add _ 1]
            exact ih2 (j + 1) (by omega) (by omega)
      refine ⟨f + (WD k).length + 1, ?_⟩
      show b_X7_scanWord_47 (l_X7_scanWord_47 φ (f + (WD k).length)) φ 46 (nI s) (nI k) (nI (wpF k)) M
      refine c_wlen hS (iF_f (fun c => ?_) (c_char hS hX rfl (by omega) (iF_t (wor_sp k (by omega)) ⟨isO_pt hS (by decide) rfl, ⟨e - s + 1, ?_⟩⟩)))
      · rw [show nI (wpF k) + (1 : Int32) = nI (wpF k + 1) from nI_add _ 1] at c
        exact absurd ((nIle (by omega) (by omega)).mp c) (by omega)
      rw [show nI (wpF k) + (1 : Int32) = nI (wpF k + 1) from nI_add _ 1]
      refine c_spl_l (φ := fun x11 M7 => iF (x11 = 0) (nm (nI k + (1 : Int32)) fun x12 => nm (nI (wpF k + 1)) fun x14 => l_X7_scanWord_47 φ (f + (WD k).length) 46 (nI s) x12 x14 M7) (φ (nI k) M7)) hS hX hT htl h5 he hk35 hlt ?_ (e - s) 0 (by omega) (by omega) (fun i hi => absurd hi (by omega))
      rw [if_neg q]
      refine iF_t rfl (nm_of (nm_of ?_))
      rw [show nI k + (1 : Int32) = nI (k + 1) from nI_add _ 1]
      exact walk (WD k).length 1 (by omega) (Nat.le_refl _)
theorem c_wd_l {L tl s : Nat} {X : Nat → Int32} {tp : Nat → Nat} {φ : Int32 → fM → Prop} (htl : tl ≤ 300) : ∀ (m p : Nat) (M : fM), p + m = tl → s ≤ p → (∀ q, s ≤ q → q < p → isLt (tp q) = true) → Str L M → Sts X M → TpC M tl tp → mI M 46 5 = nI p → (∀ M2, FrX pS M M2 → mI M2 46 5 = nI (ru isLt tp tl p) → φ (nI (wid tp s (ru isLt tp tl p))) M2) → l_X7_scanWord_5 φ (m + 1) 46 (nI s) M := by
  intro m
  induction m with
  | zero =>
    intro p M hp hs hl hS hX hT h5 hz
    refine ⟨isO_pt hS (by decide) rfl, ?_⟩
    rw [hT.1, h5]
    have e : ru isLt tp tl p = p := ru_e (by omega)
    rw [e] at hz
    exact iF_t ((nIle (by omega) (by omega)).mpr (by omega)) (c_sw_l hS hX hT htl h5 hs (by omega) hl 35 0 rfl (hz M (FrX.rf M) h5))
  | succ m ih =>
    intro p M hp hs hl hS hX hT h5 hz
    show b_X7_scanWord_5 (l_X7_scanWord_5 φ (m + 1)) φ 46 (nI s) M
    generalize hK : l_X7_scanWord_5 φ (m + 1) = K at ih ⊢
    have hb := (hT.2 p (by omega)).1
    refine ⟨isO_pt hS (by decide) rfl, ?_⟩
    rw [hT.1, h5]
    refine iF_f (fun c => absurd ((nIle (by omega) (by omega)).mp c) (by omega)) (c_byte1 hS hT rfl (by omega) htl (c_isLt hb ?_))
    by_cases e : isLt (tp p) = true
    · rw [if_pos e]
      refine iF_f (by decide) ⟨isO_pt hS (by decide) rfl, nm_of (st_of ?_)⟩
      rw [h5, show nI p + (1 : Int32) = nI (p + 1) from nI_add _ 1]
      have f : FrX pS M (wI M 46 5 (nI (p + 1))) := FrX.w ⟨rfl, rfl⟩
      rw [ru_s (by omega) e] at hz
      refine ih (p + 1) _ (by omega) (by omega) (fun q a b => ?_) (f.S hS) (f.pX hX) (hT.x f) (mI_s rfl rfl) fun M2 f2 h2 => hz M2 (f.tr f2) h2
      by_cases z : q = p
      · rw [z]
        exact e
      · exact hl q a (by omega)
    · rw [if_neg e]
      have e2 : ru isLt tp tl p = p := ru_e (fun c => e c.2)
      rw [e2] at hz
      exact iF_t rfl (c_sw_l hS hX hT htl h5 hs (by omega) hl 35 0 rfl (hz M (FrX.rf M) h5))
