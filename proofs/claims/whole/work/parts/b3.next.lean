/-! ===== TEXT: the model's next TOKEN ===== -/
def pkG (f : Nat → Nat) : Nat → Nat
  | 0 => 0
  | j + 1 => pkG f j * 256 + f j
theorem pkG_s (f : Nat → Nat) (j : Nat) : pkG f (j + 1) = pkG f j * 256 + f j := rfl
theorem pkG_lt {f : Nat → Nat} : ∀ n, (∀ j, j < n → f j < 256) → pkG f n < 256 ^ n
  | 0, _ => Nat.pow_pos (by omega)
  | n + 1, h => by
    have q := pkG_lt n (fun j hj => h j (by omega))
    have := h n (by omega)
    rw [pkG_s, Nat.pow_succ]
    omega
theorem pkG_in {f g : Nat → Nat} : ∀ n m, (∀ j, j < n → 1 ≤ f j ∧ f j < 256) → (∀ j, j < m → 1 ≤ g j ∧ g j < 256) → pkG f n = pkG g m → n = m ∧ ∀ j, j < n → f j = g j
  | 0, 0, _, _, _ => ⟨rfl, fun j hj => absurd hj (by omega)⟩
  | 0, m + 1, _, h2, e => by
    have := h2 m (by omega)
    rw [pkG_s] at e
    have e : 0 = pkG g m * 256 + g m := e
    omega
  | n + 1, 0, h1, _, e => by
    have := h1 n (by omega)
    rw [pkG_s] at e
    have e : pkG f n * 256 + f n = 0 := e
    omega
  | n + 1, m + 1, h1, h2, e => by
    have a := h1 n (by omega)
    have b := h2 m (by omega)
    rw [pkG_s, pkG_s] at e
    obtain ⟨q1, q2⟩ := pkG_in n m (fun j hj => h1 j (by omega)) (fun j hj => h2 j (by omega)) (by omega)
    refine ⟨by omega, fun j hj => ?_⟩
    by_cases z : j = n
    · subst z
      subst q1
      omega
    · exact q2 j (by omega)
def pkW (k : Nat) : Nat := pkG (fun j => (WD k).getD j 0) (WD k).length
def wdV (tp : Nat → Nat) (s e : Nat) : Nat := if e - s ≤ 7 then pkG (fun j => tp (s + j)) (e - s) else 0
theorem pkW_b : ∀ k, k < 35 → 0 < pkW k ∧ pkW k < 72057594037927936 := by decide +kernel
theorem lt_256 {tp : Nat → Nat} {s e : Nat} (hl : ∀ q, s ≤ q → q < e → isLt (tp q) = true) {j : Nat} (hj : s + j < e) : 1 ≤ tp (s + j) ∧ tp (s + j) < 256 := by
  have := isLt_t.mp (hl (s + j) (by omega) hj)
  omega
theorem wdV_i {tp : Nat → Nat} {s e k : Nat} (hk : k < 35) (hl : ∀ q, s ≤ q → q < e → isLt (tp q) = true) : wdV tp s e = pkW k ↔ wdQ tp s e k = true := by
  have wl := WD_ln k hk
  have hg : ∀ j, j < (WD k).length → 1 ≤ (WD k).getD j 0 ∧ (WD k).getD j 0 < 256 := fun j hj => by
    have := WD_ch k hk j hj
    omega
  have hf : ∀ j, j < e - s → 1 ≤ tp (s + j) ∧ tp (s + j) < 256 := fun j hj => lt_256 hl (by omega)
  unfold wdV
  by_cases z : e - s ≤ 7
  · rw [if_pos z]
    constructor
    · intro h
      obtain ⟨q1, q2⟩ := pkG_in _ _ hf hg h
      exact wdQ_t.mpr ⟨q1, fun j hj => q2 j (by omega)⟩
    · intro h
      obtain ⟨q1, q2⟩ := wdQ_t.mp h
      unfold pkW
      rw [q1]
      have : ∀ n, n ≤ (WD k).length → pkG (fun j => tp (s + j)) n = pkG (fun j => (WD k).getD j 0) n := by
        intro n
        induction n with
        | zero => intro _; rfl
        | succ n ih =>
          intro hn
          rw [pkG_s, pkG_s, ih (by omega)]
          show pkG (fun j => (WD k).getD j 0) n * 256 + tp (s + n) = _
          rw [q2 n (by omega)]
      exact this _ (Nat.le_refl _)
  · rw [if_neg z]
    have := pkW_b k hk
    constructor
    · intro h
      omega
    · intro h
      have := (wdQ_t.mp h).1
      omega
theorem wdV_b {tp : Nat → Nat} {s e : Nat} (hl : ∀ q, s ≤ q → q < e → isLt (tp q) = true) : wdV tp s e < 72057594037927936 := by
  unfold wdV
  split
  · rename_i z
    have q := pkG_lt (f := fun j => tp (s + j)) (e - s) (fun j hj => (lt_256 hl (by omega)).2)
    have q2 : 256 ^ (e - s) ≤ 256 ^ 7 := Nat.pow_le_pow_right (by omega) z
    have q3 : (256 : Nat) ^ 7 = 72057594037927936 := by decide
    omega
  · omega
theorem jN_or {w b : Nat} (hw : w < 281474976710656) (hb : b < 256) : ((jN w) <<< (Int32.toInt64 (8 : Int32) &&& 63)) ||| (Int32.toInt64 (nI b)) = jN (w * 256 + b) := by
  rw [jN_I (by omega), show (Int32.toInt64 (8 : Int32) &&& 63) = (8 : Int64) from by decide]
  have e8 : jN w <<< (8 : Int64) = jN (w * 256) := by
    apply Int64.toBitVec_inj.mp
    apply BitVec.eq_of_toNat_eq
    show (BitVec.ofInt 64 (w : Int) <<< ((8 : Int64).toBitVec.smod 64)).toNat = (BitVec.ofInt 64 ((w * 256 : Nat) : Int)).toNat
    rw [show ((8 : Int64).toBitVec.smod 64) = 8#64 from by decide, BitVec.ofInt_natCast, BitVec.ofInt_natCast]
    show (BitVec.ofNat 64 w <<< (8#64).toNat).toNat = _
    rw [BitVec.toNat_shiftLeft, BitVec.toNat_ofNat, Nat.mod_eq_of_lt (show w < 2 ^ 64 by omega), show (8#64).toNat = 8 from rfl, Nat.shiftLeft_eq, BitVec.toNat_ofNat]
  rw [e8]
  apply Int64.toBitVec_inj.mp
  apply BitVec.eq_of_toNat_eq
  show (BitVec.ofInt 64 ((w * 256 : Nat) : Int) ||| BitVec.ofInt 64 (b : Int)).toNat = (BitVec.ofInt 64 ((w * 256 + b : Nat) : Int)).toNat
  rw [BitVec.ofInt_natCast, BitVec.ofInt_natCast, BitVec.ofInt_natCast, BitVec.toNat_or, BitVec.toNat_ofNat, BitVec.toNat_ofNat, BitVec.toNat_ofNat, Nat.mod_eq_of_lt (by omega), Nat.mod_eq_of_lt (by omega), Nat.mod_eq_of_lt (by omega)]
  have q := Nat.shiftLeft_add_eq_or_of_lt (show b < 2 ^ 8 by omega) w
  rw [Nat.shiftLeft_eq] at q
  exact q.symm
/-- the model's sign of a TOKEN -/
def sgC (t : Nat) : Nat := if t = 40 then 43 else if t = 41 then 45 else if t = 42 then 42 else if t = 43 then 47 else if t = 44 then 60 else if t = 45 then 4 else if t = 46 then 62 else if t = 47 then 5 else if t = 48 then 61 else if t = 49 then 35 else if t = 50 then 40 else if t = 51 then 41 else if t = 52 then 59 else if t = 53 then 63 else 58
def TR (M : fM) (t v : Nat) : Prop := ∃ c, mI M 70 9 = nI c ∧ c < 256 ∧ (c = 0 ↔ t = 61) ∧ (c = 1 ↔ t = 60) ∧ (c = 2 ↔ (t < 35 ∨ (t = 62 ∧ c = 2))) ∧ (∀ s, 40 ≤ s → s ≤ 54 → (c = sgC s ↔ t = s)) ∧ (c = 1 → ∃ n, mI M 70 10 = nI n ∧ nuR v n) ∧ (c = 2 → ∃ w, mJ M 70 11 = jN w ∧ w < 72057594037927936 ∧ ∀ k, k < 35 → (w = pkW k ↔ t = k))
def TS (M : fM) (tp : Nat → Nat) (tl i : Nat) : Prop := mI M 70 7 = nI (tkE tp tl (poS tp tl i)) ∧ mI M 70 8 = nI (poS tp tl i) ∧ TR M (TKk tp tl i) (TKv tp tl i)
def pN (r k : Nat) : Prop := r = 70 ∧ 7 ≤ k ∧ k ≤ 10
def FG (P : Nat → Nat → Prop) (M M2 : fM) : Prop := M2.2.2 = M.2.2 ∧ (∀ r k, ¬ P r k → mI M2 r k = mI M r k) ∧ ∀ r k, r ≠ 70 → mJ M2 r k = mJ M r k
theorem FG.rf {P : Nat → Nat → Prop} (M : fM) : FG P M M := ⟨rfl, fun _ _ _ => rfl, fun _ _ _ => rfl⟩
theorem FG.tr {P : Nat → Nat → Prop} {M M1 M2 : fM} (h : FG P M M1) (h2 : FG P M1 M2) : FG P M M2 := ⟨h2.1.trans h.1, fun r k hr => (h2.2.1 r k hr).trans (h.2.1 r k hr), fun r k hr => (h2.2.2 r k hr).trans (h.2.2 r k hr)⟩
theorem FG.mn {P Q : Nat → Nat → Prop} {M M2 : fM} (f : FG P M M2) (h : ∀ r k, P r k → Q r k) : FG Q M M2 := ⟨f.1, fun r k hn => f.2.1 r k (fun c => hn (h r k c)), f.2.2⟩
theorem FG.x {P : Nat → Nat → Prop} {M M2 : fM} (f : FrX P M M2) : FG P M M2 := ⟨by rw [f.1], f.2, fun r k _ => by unfold mJ; rw [f.1]⟩
theorem FG.S {P : Nat → Nat → Prop} {M M2 : fM} {L : Nat} (h : FG P M M2) (hS : Str L M) : Str L M2 := by
  unfold Str
  rw [h.1]
  exact hS
theorem FG.w {P : Nat → Nat → Prop} {M : fM} {r k : Nat} {v : Int32} (h : P r k) : FG P M (wI M r k v) := FG.x (FrX.w h)
theorem FG.j {P : Nat → Nat → Prop} {M : fM} {k : Nat} {v : Int64} : FG P M (wJ M 70 k v) := ⟨rfl, fun _ _ _ => rfl, fun r k' hr => mJ_n (by omega)⟩
theorem TpM.g {M M2 : fM} {tl : Nat} {tp : Nat → Nat} (f : FG pN M M2) (h : TpM M tl tp) : TpM M2 tl tp := ⟨(f.2.1 70 4 (by unfold pN; omega)).trans h.1, fun k hk => ⟨(h.2 k hk).1, (f.2.1 74 k (by unfold pN; omega)).trans (h.2 k hk).2⟩⟩
theorem m_byte1 {L tl k : Nat} {tp : Nat → Nat} {M : fM} {a : Int32} {φ : Int32 → fM → Prop} (hS : Str L M) (hT : TpM M tl tp) (ha : a = nI k) (hk : k < tl) (htl : tl ≤ 300) (h : φ (nI (tp k)) M) : w_X11_byteAt 70 a M φ := by
  subst ha
  refine ⟨isO_pt hS (by decide) rfl, ?_⟩
  rw [hT.1]
  refine iF_f (fun c => absurd ((nIle (by omega) (by omega)).mp c) (by omega)) (dR_of (Str.pg hS rfl) ⟨inA_pt hS rfl (vp_nI (by omega) (by decide)), ?_⟩)
  rw [ix_nI (by omega), (hT.2 k hk).2]
  exact h
theorem m_byte0 {L tl k : Nat} {tp : Nat → Nat} {M : fM} {a : Int32} {φ : Int32 → fM → Prop} (hS : Str L M) (hT : TpM M tl tp) (ha : a = nI k) (hk : tl ≤ k) (hk3 : k ≤ 1000) (h : φ (-1) M) : w_X11_byteAt 70 a M φ := by
  subst ha
  refine ⟨isO_pt hS (by decide) rfl, ?_⟩
  rw [hT.1]
  exact iF_t ((nIle (by omega) (by omega)).mpr hk) h
theorem m_isDg {b : Nat} {M : fM} {φ : Int32 → fM → Prop} (hb : b < 256) (h : φ (if isDg b = true then 1 else 0) M) : w_X11_isDigit (nI b) M φ := by
  by_cases e : isDg b = true
  · rw [if_pos e] at h
    have q := isDg_t.mp e
    exact iF_f (fun c => absurd ((nIlt (b := 48) (by omega) (by omega)).mp c) (by omega)) (iF_f (fun c => absurd ((nIlt (a := 57) (by omega) (by omega)).mp c) (by omega)) ⟨isB1, h⟩)
  · rw [if_neg e] at h
    have q : ¬ (48 ≤ b ∧ b ≤ 57) := fun c => e (isDg_t.mpr c)
    refine iF_s (fun _ => ⟨isB0, h⟩) (fun c1 => iF_s (fun _ => ⟨isB0, h⟩) (fun c2 => ?_))
    have d1 : ¬ b < 48 := fun z => c1 ((nIlt (b := 48) (by omega) (by omega)).mpr z)
    have d2 : ¬ 57 < b := fun z => c2 ((nIlt (a := 57) (by omega) (by omega)).mpr z)
    omega
theorem m_isLt {b : Nat} {M : fM} {φ : Int32 → fM → Prop} (hb : b < 256) (h : φ (if isLt b = true then 1 else 0) M) : w_X11_isLetter (nI b) M φ := by
  have up : (w_X11_isIn (nI b) (65 : Int32) (90 : Int32) M fun x4 M3 => iF (x4 = 0) (φ (0 : Int32) M3) (φ (1 : Int32) M3)) ∨ (97 ≤ b ∧ b ≤ 122) := by
    by_cases z : 97 ≤ b ∧ b ≤ 122
    · exact Or.inr z
    · refine Or.inl ?_
      by_cases e : isLt b = true
      · rw [if_pos e] at h
        have q := isLt_t.mp e
        exact iF_f (fun c => absurd ((nIlt (b := 65) (by omega) (by omega)).mp c) (by omega)) (iF_f (fun c => absurd ((nIlt (a := 90) (by omega) (by omega)).mp c) (by omega)) (iF_f (by decide) h))
      · rw [if_neg e] at h
        have q : ¬ ((97 ≤ b ∧ b ≤ 122) ∨ (65 ≤ b ∧ b ≤ 90)) := fun c => e (isLt_t.mpr c)
        refine iF_s (fun _ => iF_t rfl h) (fun c1 => iF_s (fun _ => iF_t rfl h) (fun c2 => ?_))
        have d1 : ¬ b < 65 := fun z => c1 ((nIlt (b := 65) (by omega) (by omega)).mpr z)
        have d2 : ¬ 90 < b := fun z => c2 ((nIlt (a := 90) (by omega) (by omega)).mpr z)
        omega
  rcases up with j | z
  · by_cases z : 97 ≤ b ∧ b ≤ 122
    · rw [if_pos (isLt_t.mpr (Or.inl z))] at h
      exact iF_f (fun c => absurd ((nIlt (b := 97) (by omega) (by omega)).mp c) (by omega)) (iF_f (fun c => absurd ((nIlt (a := 122) (by omega) (by omega)).mp c) (by omega)) (iF_f (by decide) h))
    · refine iF_s (fun _ => iF_t rfl j) (fun c1 => iF_s (fun _ => iF_t rfl j) (fun c2 => ?_))
      have d1 : ¬ b < 97 := fun z => c1 ((nIlt (b := 97) (by omega) (by omega)).mpr z)
      have d2 : ¬ 122 < b := fun z => c2 ((nIlt (a := 122) (by omega) (by omega)).mpr z)
      omega
  · rw [if_pos (isLt_t.mpr (Or.inl z))] at h
    exact iF_f (fun c => absurd ((nIlt (b := 97) (by omega) (by omega)).mp c) (by omega)) (iF_f (fun c => absurd ((nIlt (a := 122) (by omega) (by omega)).mp c) (by omega)) (iF_f (by decide) h))
/-- the digits -/
theorem m_dg_l {L tl : Nat} {tp : Nat → Nat} {φ : fM → Prop} (htl : tl ≤ 300) : ∀ (m p n : Nat) (M : fM), p + m = tl → n ≤ 1000000 → Str L M → TpM M tl tp → mI M 70 7 = nI p → mI M 70 10 = nI n → (∀ M2, FG pN M M2 → mI M2 70 7 = nI (ru isDg tp tl p) → mI M2 70 10 = nI (nmV tp tl p n) → mI M2 70 8 = mI M 70 8 → mI M2 70 9 = mI M 70 9 → φ M2) → l_X11_nextToken_85 φ (m + 1) 70 M := by
  intro m
  induction m with
  | zero =>
    intro p n M hp hn hS hT h7 h10 hz
    refine ⟨isO_pt hS (by decide) rfl, ?_⟩
    rw [h7]
    refine m_byte0 hS hT rfl (by omega) (by omega) ?_
    have q := hz M (FG.rf M) (by rw [ru_e (by omega)]; exact h7) (by rw [nmV_e (by omega)]; exact h10) rfl rfl
    exact iF_t (by decide) ⟨isB0, iF_t rfl q⟩
  | succ m ih =>
    intro p n M hp hn hS hT h7 h10 hz
    show b_X11_nextToken_85 (l_X11_nextToken_85 φ (m + 1)) φ 70 M
    generalize hK : l_X11_nextToken_85 φ (m + 1) = K at ih ⊢
    have hb := (hT.2 p (by omega)).1
    refine ⟨isO_pt hS (by decide) rfl, ?_⟩
    rw [h7]
    refine m_byte1 hS hT rfl (by omega) htl (m_isDg hb ?_)
    by_cases e : isDg (tp p) = true
    · rw [if_pos e]
      have d := isDg_t.mp e
      rw [ru_s (by omega) e, nmV_s (by omega) e] at hz
      have go : ∀ (M1 : fM) (n1 : Nat), FG pN M M1 → mI M1 70 7 = nI p → mI M1 70 10 = nI n1 → mI M1 70 8 = mI M 70 8 → mI M1 70 9 = mI M 70 9 → n1 = (if n < 100000 then 10 * n + (tp p - 48) else n) → n1 ≤ 1000000 → j_X11_nextToken_131 K φ 70 M1 := by
        intro M1 n1 f1 a7 a10 a8 a9 hn1 hb1
        have hS1 := f1.S hS
        refine ⟨isO_pt hS1 (by decide) rfl, nm_of (st_of ?_)⟩
        rw [a7, show nI p + (1 : Int32) = nI (p + 1) from nI_add _ 1]
        have f2 : FG pN M (wI M1 70 7 (nI (p + 1))) := f1.tr (FG.w ⟨rfl, by omega, by omega⟩)
        refine ih (p + 1) n1 _ (by omega) hb1 (f2.S hS) (hT.g f2) (mI_s rfl rfl) ((mI_n (by omega)).trans a10) fun M3 f3 b7 b10 b8 b9 => hz M3 (f2.tr f3) b7 (by rw [← hn1]; exact b10) (b8.trans ((mI_n (by omega)).trans a8)) (b9.trans ((mI_n (by omega)).trans a9))
      refine iF_f (by decide) ⟨isO_pt hS (by decide) rfl, ?_⟩
      rw [h10]
      by_cases z : n < 100000
      · refine iF_f (fun c => absurd ((nIle (a := 100000) (by omega) (by omega)).mp c) (by omega)) ?_
        rw [h7]
        refine m_byte1 hS hT rfl (by omega) htl (nm_of ⟨isO_pt hS (by decide) rfl, st_of ?_⟩)
        have e1 : (((10 : Int32) * nI n) + nI (tp p)) - (48 : Int32) = nI (10 * n + (tp p - 48)) := by
          rw [show (10 : Int32) * nI n = nI (10 * n) from nI_muL 10 n, nI_add, show nI (10 * n + tp p) - (48 : Int32) = nI (10 * n + tp p - 48) from nI_sub (b := 48) (by omega)]
          exact congrArg nI (by omega)
        rw [e1]
        exact go _ _ (FG.w ⟨rfl, by omega, by omega⟩) ((mI_n (by omega)).trans h7) (mI_s rfl rfl) (mI_n (by omega)) (mI_n (by omega)) (by rw [if_pos z]) (by omega)
      · exact iF_t ((nIle (a := 100000) (by omega) (by omega)).mpr (by omega)) (go M n (FG.rf M) h7 h10 rfl rfl (by rw [if_neg z]) hn)
    · rw [if_neg e]
      have q := hz M (FG.rf M) (by rw [ru_e (fun c => e c.2)]; exact h7) (by rw [nmV_e (fun c => e c.2)]; exact h10) rfl rfl
      exact iF_t rfl q
/-- the letters -/
theorem m_lt_l {L tl s : Nat} {tp : Nat → Nat} {φ : fM → Prop} (htl : tl ≤ 300) : ∀ (m p : Nat) (M : fM), p + m = tl → s ≤ p → (∀ q, s ≤ q → q < p → isLt (tp q) = true) → Str L M → TpM M tl tp → mI M 70 7 = nI p → mI M 70 8 = nI s → mJ M 70 11 = jN (pkG (fun j => tp (s + j)) (if p - s ≤ 7 then p - s else 7)) → (∀ M2, FG pN M M2 → mI M2 70 7 = nI (ru isLt tp tl p) → mI M2 70 8 = nI s → mI M2 70 9 = mI M 70 9 → mJ M2 70 11 = jN (wdV tp s (ru isLt tp tl p)) → φ M2) → l_X11_nextToken_161 φ (m + 1) 70 M := by
  have fin : ∀ (p : Nat) (M : fM), p ≤ tl → s ≤ p → ru isLt tp tl p = p → Str L M → mI M 70 7 = nI p → mI M 70 8 = nI s → mJ M 70 11 = jN (pkG (fun j => tp (s + j)) (if p - s ≤ 7 then p - s else 7)) → (∀ M2, FG pN M M2 → mI M2 70 7 = nI (ru isLt tp tl p) → mI M2 70 8 = nI s → mI M2 70 9 = mI M 70 9 → mJ M2 70 11 = jN (wdV tp s (ru isLt tp tl p)) → φ M2) → (isO M 70 11 ∧ iF (((mI M 70 7) - (mI M 70 8)) ≤ (7 : Int32)) (φ M) (st (wJ M 70 11 (0 : Int64)) fun M45 => φ M45)) := by
    intro p M hpt hs hr hS h7 h8 h11 hz
    rw [hr] at hz
    refine ⟨isO_pt hS (by decide) rfl, ?_⟩
    rw [h7, h8, nI_sub hs]
    unfold wdV at hz
    by_cases z : p - s ≤ 7
    · rw [if_pos z] at h11 hz
      exact iF_t ((nIle (b := 7) (by omega) (by omega)).mpr z) (hz M (FG.rf M) h7 h8 rfl h11)
    · rw [if_neg z] at hz
      exact iF_f (fun c => z ((nIle (b := 7) (by omega) (by omega)).mp c)) (st_of (hz _ FG.j h7 h8 rfl (mJ_s _ _ _ _)))
  intro m
  induction m with
  | zero =>
    intro p M hp hs hl hS hT h7 h8 h11 hz
    have q := fin p M (by omega) hs (ru_e (by omega)) hS h7 h8 h11 hz
    refine ⟨isO_pt hS (by decide) rfl, ?_⟩
    rw [h7]
    refine m_byte0 hS hT rfl (by omega) (by omega) (iF_t (by decide) (iF_t rfl (iF_t (by decide) (iF_t rfl (iF_t rfl ?_)))))
    exact q
  | succ m ih =>
    intro p M hp hs hl hS hT h7 h8 h11 hz
    show b_X11_nextToken_161 (l_X11_nextToken_161 φ (m + 1)) φ 70 M
    generalize hK : l_X11_nextToken_161 φ (m + 1) = K at ih ⊢
    have hb := (hT.2 p (by omega)).1
    by_cases e : isLt (tp p) = true
    · refine ⟨isO_pt hS (by decide) rfl, ?_⟩
      rw [h7]
      refine m_byte1 hS hT rfl (by omega) htl (m_isLt hb ?_)
      rw [if_pos e]
      rw [ru_s (by omega) e] at hz
      have go : ∀ (M1 : fM), FG pN M M1 → mI M1 70 7 = nI p → mI M1 70 8 = nI s → mI M1 70 9 = mI M 70 9 → mJ M1 70 11 = jN (pkG (fun j => tp (s + j)) (if p + 1 - s ≤ 7 then p + 1 - s else 7)) → j_X11_nextToken_210 K φ 70 M1 := by
        intro M1 f1 a7 a8 a9 a11
        have hS1 := f1.S hS
        refine ⟨isO_pt hS1 (by decide) rfl, nm_of (st_of ?_)⟩
        rw [a7, show nI p + (1 : Int32) = nI (p + 1) from nI_add _ 1]
        have f2 : FG pN M (wI M1 70 7 (nI (p + 1))) := f1.tr (FG.w ⟨rfl, by omega, by omega⟩)
        refine ih (p + 1) _ (by omega) (by omega) (fun q x y => ?_) (f2.S hS) (hT.g f2) (mI_s rfl rfl) ((mI_n (by omega)).trans a8) a11 fun M3 f3 b7 b8 b9 b11 => hz M3 (f2.tr f3) b7 b8 (b9.trans ((mI_n (by omega)).trans a9)) b11
        by_cases z : q = p
        · rw [z]
          exact e
        · exact hl q x (by omega)
      refine iF_f (by decide) ⟨isO_pt hS (by decide) rfl, ?_⟩
      rw [h7, h8, nI_sub hs]
      by_cases z : 7 ≤ p - s
      · refine iF_t ((nIle (a := 7) (by omega) (by omega)).mpr z) (go M (FG.rf M) h7 h8 rfl ?_)
        rw [h11]
        by_cases y : p - s ≤ 7
        · rw [if_pos y, if_neg (by omega), show p - s = 7 by omega]
        · rw [if_neg y, if_neg (by omega)]
      · refine iF_f (fun c => z ((nIle (a := 7) (by omega) (by omega)).mp c)) ?_
        refine m_byte1 hS hT rfl (by omega) htl (nm_of ⟨isO_pt hS (by decide) rfl, st_of ?_⟩)
        have q := pkG_lt (f := fun j => tp (s + j)) (p - s) (fun j hj => (lt_256 hl (by omega)).2)
        have q2 : 256 ^ (p - s) ≤ 256 ^ 6 := Nat.pow_le_pow_right (by omega) (by omega)
        have q3 : (256 : Nat) ^ 6 = 281474976710656 := by decide
        rw [if_pos (by omega)] at h11
        rw [h11, jN_or (by omega) hb]
        refine go _ FG.j h7 h8 rfl ?_
        rw [mJ_s, if_pos (by omega), show p + 1 - s = p - s + 1 by omega, pkG_s, show s + (p - s) = p by omega]
    · have q := fin p M (by omega) hs (ru_e (fun c => e c.2)) hS h7 h8 h11 hz
      refine ⟨isO_pt hS (by decide) rfl, ?_⟩
      rw [h7]
      refine m_byte1 hS hT rfl (by omega) htl (m_isLt hb ?_)
      rw [if_neg e]
      exact iF_t rfl q
