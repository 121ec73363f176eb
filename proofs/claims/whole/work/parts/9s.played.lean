/-! ===== a TEXT played: CLAUSE by CLAUSE ===== -/
theorem isB_01 {v : Int32} (h : v = 0 ∨ v = 1) : isB v := by
  rcases h with rfl | rfl
  · exact isB0
  · exact isB1
theorem T_stair_01 {a b : Int32} {tx : Nat → Int32} {A A2 : Nat → Nat} {v : Int32} (h : T_stair a b tx A v A2) : v = 0 ∨ v = 1 := by
  rcases h with ⟨-, h, -⟩ | ⟨_, -, -, ⟨-, h, -⟩ | ⟨_, -, -, -, ⟨-, -, h, -⟩ | ⟨-, h, -⟩⟩⟩
  · exact Or.inl h
  · exact Or.inl h
  · exact Or.inl h
  · exact Or.inr h
theorem T_height_01 {a b c : Int32} {tx : Nat → Int32} {A A2 : Nat → Nat} {v : Int32} (h : T_height a b c tx A v A2) : v = 0 ∨ v = 1 := by
  rcases h with ⟨-, h, -⟩ | ⟨_, -, -, ⟨-, h, -⟩ | ⟨_, -, -, -, ⟨-, h, -⟩ | ⟨_, -, -, -, h, -⟩⟩⟩
  · exact Or.inl h
  · exact Or.inl h
  · exact Or.inl h
  · exact Or.inr h
theorem T_rail_01 {a b : Int32} {tx : Nat → Int32} {A A2 : Nat → Nat} {v : Int32} (h : T_rail a b tx A v A2) : v = 0 ∨ v = 1 := by
  rcases h with ⟨-, h, -⟩ | ⟨_, -, -, ⟨-, h, -⟩ | ⟨_, -, -, h, -⟩⟩
  · exact Or.inl h
  · exact Or.inl h
  · exact Or.inr h
theorem T_turn_01 {a b : Int32} {tx : Nat → Int32} {A A2 : Nat → Nat} {v : Int32} (h : T_turn a b tx A v A2) : v = 0 ∨ v = 1 := by
  rcases h with ⟨-, h⟩ | ⟨-, h⟩
  · exact T_mark_01 h
  · exact T_mark_01 h
theorem dnT_01 {T : (Nat → Int32) → (Nat → Nat) → Int32 → (Nat → Nat) → Prop} {tx : Nat → Int32} {A A2 : Nat → Nat} {v : Int32} (h : dnT T tx A v A2) : v = 0 ∨ v = 1 := by
  obtain ⟨w, -, rfl⟩ := h
  by_cases e : w = -1
  · rw [if_pos e]
    exact Or.inl rfl
  · rw [if_neg e]
    exact Or.inr rfl
theorem T_done_01 {s : Nat} {a b c : Int32} {tx : Nat → Int32} {A A2 : Nat → Nat} {v : Int32} (h : T_done s a b c tx A v A2) : v = 0 ∨ v = 1 := by
  unfold T_done at h
  split at h
  · exact T_stair_01 h
  split at h
  · exact T_height_01 h
  split at h
  · exact T_turn_01 h
  split at h
  · exact T_rail_01 h
  split at h
  · exact dnT_01 h
  split at h
  · exact dnT_01 h
  split at h
  · exact dnT_01 h
  split at h
  · exact dnT_01 h
  split at h
  · exact dnT_01 h
  split at h
  · exact dnT_01 h
  split at h
  · exact dnT_01 h
  split at h
  · rcases h with ⟨-, h, -⟩ | ⟨-, h, -⟩
    · exact Or.inl h
    · exact Or.inr h
  · exact Or.inr h.1
def rpT (T : (Nat → Int32) → (Nat → Nat) → Int32 → (Nat → Nat) → Prop) : Nat → (Nat → Int32) → (Nat → Nat) → Int32 → (Nat → Nat) → Prop
  | 0 => fun _ A v A2 => v = 1 ∧ A2 = A
  | n + 1 => fun tx A v A2 => (T tx A 0 A2 ∧ v = 0) ∨ ∃ A1, T tx A 1 A1 ∧ rpT T n tx A1 v A2
def mny (s : Nat) : Prop := s = 13 ∨ s = 14 ∨ s = 16
def clT (i k : Nat) : (Nat → Int32) → (Nat → Nat) → Int32 → (Nat → Nat) → Prop := fun tx A v A2 => ∃ s n, s ≤ 16 ∧ tx (705 * i + (1 + 4 * k)) = nI s ∧ (mny s → 1 ≤ n ∧ n ≤ 99 ∧ tx (705 * i + (2 + 4 * k + 0)) = nI n) ∧ (¬ mny s → n = 1) ∧ rpT (T_done s (tx (705 * i + (2 + 4 * k + 0))) (tx (705 * i + (2 + 4 * k + 1))) (tx (705 * i + (2 + 4 * k + 2)))) n tx A v A2
def plT (i : Nat) : Nat → Nat → (Nat → Int32) → (Nat → Nat) → Int32 → (Nat → Nat) → Prop
  | 0, _ => fun _ A v A2 => v = -1 ∧ A2 = A
  | m + 1, k => fun tx A v A2 => (clT i k tx A 0 A2 ∧ v = nI k) ∨ ∃ A1, clT i k tx A 1 A1 ∧ plT i m (k + 1) tx A1 v A2
def T_played (a : Int32) : (Nat → Int32) → (Nat → Nat) → Int32 → (Nat → Nat) → Prop := fun tx A v A2 => (¬ (0 ≤ a.toInt ∧ a.toInt < A 3) ∧ v = -2 ∧ A2 = A) ∨ ∃ i cl, a = nI i ∧ i < A 3 ∧ cl ≤ 24 ∧ tx (705 * i) = nI cl ∧ plT i cl 0 tx A v A2
def Tpl (tx : Nat → Int32) (i o d u cl : Nat) (M : fM) : Prop := 82 ≤ o ∧ 82 ≤ d ∧ 82 ≤ u ∧ mS M o = some (8, 5) ∧ mP M o 3 = some d ∧ mP M o 4 = some u ∧ mS M d = some (12, cl) ∧ mS M u = some (12, 3 * cl) ∧ cl ≤ 24 ∧ tx (705 * i) = nI cl ∧ ∀ k, k < cl → ∃ s, s ≤ 16 ∧ mI M d k = nI s ∧ tx (705 * i + (1 + 4 * k)) = nI s ∧ (5 ≤ s → ∀ j, j < arN s → mI M u (3 * k + j) = tx (705 * i + (2 + 4 * k + j))) ∧ (mny s → ∃ n, 1 ≤ n ∧ n ≤ 99 ∧ tx (705 * i + (2 + 4 * k + 0)) = nI n)
theorem Tpl.of {M : fM} {i : Nat} (h : TxR M 18 i) : ∃ o d u cl, mP M 18 i = some o ∧ Tpl (mI M 73) i o d u cl M := by
  obtain ⟨o, c, s, e, d, u, cd, cl, p1, p2, p3, p4, p5, p6, p7, p8, q1, q2, q3, q4, q5, s1, s2, s3, s4, s5, t0, tc, -, -, tk, -⟩ := h
  refine ⟨o, d, u, cl, p1, p2, q4, q5, p3, p7, p8, s4, s5, tc, t0, fun k hk => ?_⟩
  obtain ⟨s, h1, h2, h3, -, h4, h5⟩ := tk k hk
  exact ⟨s, h1, h2, h3, h4, h5⟩
theorem Tpl.cl {tx : Nat → Int32} {i o d u cl : Nat} {M M2 : fM} (f : Frm clr M M2) (h : Tpl tx i o d u cl M) : Tpl tx i o d u cl M2 := by
  obtain ⟨h1, h2, h3, h4, h5, h6, h7, h8, h9, h10, h11⟩ := h
  have eS : ∀ q, mS M2 q = mS M q := fun q => by unfold mS; rw [nop_s f.1]
  have eP : ∀ k, mP M2 o k = mP M o k := fun k => nop_p f.1 (by omega)
  refine ⟨h1, h2, h3, (eS o).trans h4, (eP 3).trans h5, (eP 4).trans h6, (eS d).trans h7, (eS u).trans h8, h9, h10, fun k hk => ?_⟩
  obtain ⟨s, g1, g2, g3, g4, g5⟩ := h11 k hk
  have eI : ∀ q, 82 ≤ q → ∀ j, mI M2 q j = mI M q j := fun q hq j => f.2.2 q (by unfold clr scr; omega) j (by omega)
  exact ⟨s, g1, (eI d h2 k).trans g2, g3, fun z j hj => (eI u h3 _).trans (g4 z j hj), g5⟩
theorem c_numOf {tx : Nat → Int32} {i o d u cl k j : Nat} {M : fM} {b : Int32} {φ : Int32 → fM → Prop} (hp : Tpl tx i o d u cl M) (hk : k < cl) (hj : j < 3) (hb : b = nI j) (h : φ (mI M u (3 * k + j)) M) : w_X8_numberOf o (nI k) b M φ := by
  obtain ⟨h1, h2, h3, h4, h5, h6, h7, h8, h9, -⟩ := hp
  refine ⟨isO_of (by omega) h4, dR_of h6 (c_cellN (k := 3 * k + j) h8 ?_ (by omega) (by omega) h)⟩
  rw [hb, Int32.mul_comm]
  simp only [lit32, nI_muL, nI_add]
theorem c_isDone {L B nx i o d u cl k s : Nat} {tx : Nat → Int32} {A : Nat → Nat} {M : fM} {φ : Int32 → fM → Prop} (hS : Str L M) (hC : Cls M 10 A nx) (hO : Okk B A) (hT : ∀ i, i < A 3 → TxR M 18 i) (h73 : mI M 73 = tx) (hp : Tpl tx i o d u cl M) (hk : k < cl) (hs16 : s ≤ 16) (hs : tx (705 * i + (1 + 4 * k)) = nI s) (hz : ∀ v A2 nx2 M2, T_done s (tx (705 * i + (2 + 4 * k + 0))) (tx (705 * i + (2 + 4 * k + 1))) (tx (705 * i + (2 + 4 * k + 2))) tx A v A2 → Frm clr M M2 → Cls M2 10 A2 nx2 → φ v M2) : w_X9_isDone 57 o (nI k) M φ := by
  subst h73
  obtain ⟨h1, h2, h3, h4, h5, h6, h7, h8, h9, -, h11⟩ := id hp
  obtain ⟨s', g1, g2, g3, g4, -⟩ := h11 k hk
  have es : s' = s := nI_inj (by omega) (by omega) (g3.symm.trans hs)
  subst es
  refine ⟨isO_of (by omega) h4, c_numOf (j := 0) hp hk (by omega) rfl ⟨isO_of (by omega) h4, c_numOf (j := 1) hp hk (by omega) rfl ⟨isO_of (by omega) h4, dR_of h5 (c_cellN h7 rfl hk (by omega) ?_)⟩⟩⟩
  rw [g2]
  clear hs g3 h11 g2
  have hs17 : s' = 0 ∨ s' = 1 ∨ s' = 2 ∨ s' = 3 ∨ s' = 4 ∨ s' = 5 ∨ s' = 6 ∨ s' = 7 ∨ s' = 8 ∨ s' = 9 ∨ s' = 10 ∨ s' = 11 ∨ s' = 12 ∨ s' = 13 ∨ s' = 14 ∨ s' = 15 ∨ s' = 16 := by omega
  rcases hs17 with rfl | rfl | rfl | rfl | rfl | rfl | rfl | rfl | rfl | rfl | rfl | rfl | rfl | rfl | rfl | rfl | rfl
  all_goals (repeat (first | (with_reducible refine iF_t (by decide) ?_) | (with_reducible refine iF_f (by decide) ?_) | fail))
  · exact hz 1 A nx M ⟨rfl, rfl⟩ Frm.rf hC
  · exact hz 1 A nx M ⟨rfl, rfl⟩ Frm.rf hC
  · exact hz 1 A nx M ⟨rfl, rfl⟩ Frm.rf hC
  · exact hz 1 A nx M ⟨rfl, rfl⟩ Frm.rf hC
  · exact hz 1 A nx M ⟨rfl, rfl⟩ Frm.rf hC
  · rw [g4 (by omega) 0 (by decide), g4 (by omega) 1 (by decide)]
    exact ⟨isO_pt hS (by decide) rfl, dR_of (Str.pg hS rfl) ⟨isO_pt hS (by decide) rfl, c_stair L B _ _ M A nx _ hS hC hO hT fun v A2 nx2 M2 t f c => ⟨isB_01 (T_stair_01 t), hz v A2 nx2 M2 t f c⟩⟩⟩
  · rw [g4 (by omega) 0 (by decide), g4 (by omega) 1 (by decide)]
    refine ⟨isO_pt hS (by decide) rfl, dR_of (Str.pg hS rfl) ⟨isO_of (by omega) h4, c_numOf (j := 2) hp hk (by omega) rfl ⟨isO_pt hS (by decide) rfl, ?_⟩⟩⟩
    rw [g4 (by omega) 2 (by decide)]
    exact c_height L B _ _ _ M A nx _ hS hC hO hT fun v A2 nx2 M2 t f c => ⟨isB_01 (T_height_01 t), hz v A2 nx2 M2 t f c⟩
  · rw [g4 (by omega) 0 (by decide), g4 (by omega) 1 (by decide)]
    exact ⟨isO_pt hS (by decide) rfl, dR_of (Str.pg hS rfl) ⟨isO_pt hS (by decide) rfl, c_turn L B _ _ M A nx _ hS hC hO hT fun v A2 nx2 M2 t f c => ⟨isB_01 (T_turn_01 t), hz v A2 nx2 M2 t f c⟩⟩⟩
  · rw [g4 (by omega) 0 (by decide), g4 (by omega) 1 (by decide)]
    exact ⟨isO_pt hS (by decide) rfl, dR_of (Str.pg hS rfl) ⟨isO_pt hS (by decide) rfl, c_rail L B _ _ M A nx _ hS hC hO hT fun v A2 nx2 M2 t f c => ⟨isB_01 (T_rail_01 t), hz v A2 nx2 M2 t f c⟩⟩⟩
  · rw [g4 (by omega) 0 (by decide), g4 (by omega) 1 (by decide)]
    refine ⟨isO_pt hS (by decide) rfl, dR_of (Str.pg hS rfl) ⟨isO_of (by omega) h4, c_numOf (j := 2) hp hk (by omega) rfl ⟨isO_pt hS (by decide) rfl, ?_⟩⟩⟩
    rw [g4 (by omega) 2 (by decide)]
    exact c_dnT (c_person L B _ _ _) M A nx _ hS hC hO hT hz
  · rw [g4 (by omega) 0 (by decide), g4 (by omega) 1 (by decide)]
    exact ⟨isO_pt hS (by decide) rfl, c_dnT (c_begin L B _ _ 0) M A nx _ hS hC hO hT hz⟩
  · rw [g4 (by omega) 0 (by decide), g4 (by omega) 1 (by decide)]
    exact ⟨isO_pt hS (by decide) rfl, c_dnT (c_begin L B _ _ 1) M A nx _ hS hC hO hT hz⟩
  · rw [g4 (by omega) 0 (by decide), g4 (by omega) 1 (by decide)]
    exact ⟨isO_pt hS (by decide) rfl, c_dnT (c_begin L B _ _ 2) M A nx _ hS hC hO hT hz⟩
  · exact ⟨isO_pt hS (by decide) rfl, c_dnT (c_step L B) M A nx _ hS hC hO hT hz⟩
  · exact ⟨isO_pt hS (by decide) rfl, c_dnT (c_toe L B) M A nx _ hS hC hO hT hz⟩
  · exact ⟨isO_pt hS (by decide) rfl, c_dnT (c_stop L B) M A nx _ hS hC hO hT hz⟩
  · refine ⟨isO_pt hS (by decide) rfl, c_night1 hS hC hO (fun e => iF_t rfl (hz 0 A nx M (Or.inl ⟨e, rfl, rfl⟩) Frm.rf hC)) fun M2 nx2 e f c => iF_f (fun q => ?_) (hz 1 _ nx2 M2 (Or.inr ⟨e, rfl, rfl⟩) f c)⟩
    have z : (nI (A 1 + 1)).toInt = (-1 : Int32).toInt := congrArg Int32.toInt q
    rw [toInt_nI (by omega), show (-1 : Int32).toInt = -1 from rfl] at z
    omega
theorem c_rp_l {L n i o d u cl k s : Nat} {tx : Nat → Int32} {φ : Int32 → fM → Prop} {K2 : Nat → Nat → Int32 → fM → Prop} (hk : k < cl) (hn : n ≤ 99) (hs16 : s ≤ 16) (hs : tx (705 * i + (1 + 4 * k)) = nI s) : ∀ (m j B nx : Nat) (A : Nat → Nat) (M : fM), j + m = n → B + m ≤ 1000000 → Str L M → Cls M 10 A nx → Okk B A → (∀ i, i < A 3 → TxR M 18 i) → mI M 73 = tx → Tpl tx i o d u cl M → (∀ A2 nx2 M2, rpT (T_done s (tx (705 * i + (2 + 4 * k + 0))) (tx (705 * i + (2 + 4 * k + 1))) (tx (705 * i + (2 + 4 * k + 2)))) m tx A 0 A2 → Frm clr M M2 → Cls M2 10 A2 nx2 → φ (nI k) M2) → (∀ A2 nx2 M2, rpT (T_done s (tx (705 * i + (2 + 4 * k + 0))) (tx (705 * i + (2 + 4 * k + 1))) (tx (705 * i + (2 + 4 * k + 2)))) m tx A 1 A2 → Frm clr M M2 → Cls M2 10 A2 nx2 → K2 57 o (nI (k + 1)) M2) → l_X9_playedBy_53 K2 φ (m + 1) 57 o (nI k) (nI n) (nI j) M := by
  intro m
  induction m with
  | zero =>
    intro j B nx A M hj hB hS hC hO hT h73 hp hz0 hz1
    obtain rfl : j = n := by omega
    refine iF_t ((nIle (by omega) (by omega)).mpr (Nat.le_refl _)) (nm_of ?_)
    rw [show nI k + (1 : Int32) = nI (k + 1) from nI_add _ 1]
    exact hz1 A nx M ⟨rfl, rfl⟩ Frm.rf hC
  | succ m ih =>
    intro j B nx A M hj hB hS hC hO hT h73 hp hz0 hz1
    show b_X9_playedBy_53 K2 (l_X9_playedBy_53 K2 φ (m + 1)) φ 57 o (nI k) (nI n) (nI j) M
    generalize hK : l_X9_playedBy_53 K2 φ (m + 1) = K at ih ⊢
    refine iF_f (fun c => absurd ((nIle (by omega) (by omega)).mp c) (by omega)) ⟨isO_pt hS (by decide) rfl, c_isDone hS hC hO hT h73 hp hk hs16 hs fun v A2 nx2 M2 t f c => ?_⟩
    rcases T_done_01 t with e | e
    · subst e
      exact iF_t rfl (hz0 A2 nx2 M2 (Or.inl ⟨t, rfl⟩) f c)
    · subst e
      refine iF_f (by decide) (nm_of ?_)
      rw [show nI j + (1 : Int32) = nI (j + 1) from nI_add _ 1]
      obtain ⟨q1, q2⟩ := o_done B s _ _ _ (by omega) tx A 1 A2 hO t
      exact ih (j + 1) (B + 1) nx2 A2 M2 (by omega) (by omega) (f.S hS) c q1 (fun i hi => f.cT (hT i (by rw [q2] at hi; exact hi))) (f.c73.trans h73) (hp.cl f) (fun A3 nx3 M3 t3 f3 c3 => hz0 A3 nx3 M3 (Or.inr ⟨A2, t, t3⟩) (f.tr f3) c3) (fun A3 nx3 M3 t3 f3 c3 => hz1 A3 nx3 M3 (Or.inr ⟨A2, t, t3⟩) (f.tr f3) c3)
theorem o_rp {s : Nat} {a b c : Int32} {tx : Nat → Int32} : ∀ (n B : Nat) (A : Nat → Nat) (v : Int32) (A2 : Nat → Nat), B + n ≤ 1000000 → Okk B A → rpT (T_done s a b c) n tx A v A2 → Okk (B + n) A2 ∧ A2 3 = A 3
  | 0, B, A, v, A2, _, hO, h => by
    obtain ⟨-, rfl⟩ := h
    exact ⟨hO, rfl⟩
  | n + 1, B, A, v, A2, hB, hO, h => by
    rcases h with ⟨h, -⟩ | ⟨A1, h1, h2⟩
    · obtain ⟨q1, q2⟩ := o_done B s a b c (by omega) tx A 0 A2 hO h
      exact ⟨q1.mn (by omega) hB, q2⟩
    · obtain ⟨q1, q2⟩ := o_done B s a b c (by omega) tx A 1 A1 hO h1
      obtain ⟨r1, r2⟩ := o_rp n (B + 1) A1 v A2 (by omega) q1 h2
      exact ⟨r1.mn (by omega) hB, r2.trans q2⟩
theorem rpT_01 {s : Nat} {a b c : Int32} {tx : Nat → Int32} : ∀ (n : Nat) (A : Nat → Nat) (v : Int32) (A2 : Nat → Nat), rpT (T_done s a b c) n tx A v A2 → v = 0 ∨ v = 1
  | 0, _, _, _, h => Or.inr h.1
  | n + 1, _, _, _, h => by
    rcases h with ⟨-, h⟩ | ⟨A1, -, h2⟩
    · exact Or.inl h
    · exact rpT_01 n _ _ _ h2
theorem c_play_l {L i o d u cl : Nat} {tx : Nat → Int32} {φ : Int32 → fM → Prop} : ∀ (m k B nx : Nat) (A : Nat → Nat) (M : fM), k + m = cl → B + 99 * m ≤ 1000000 → Str L M → Cls M 10 A nx → Okk B A → (∀ i, i < A 3 → TxR M 18 i) → mI M 73 = tx → Tpl tx i o d u cl M → (∀ v A2 nx2 M2, plT i m k tx A v A2 → Frm clr M M2 → Cls M2 10 A2 nx2 → φ v M2) → l_X9_playedBy_2 φ (m + 1) 57 o (nI k) M := by
  intro m
  induction m with
  | zero =>
    intro k B nx A M hk hB hS hC hO hT h73 hp hz
    obtain rfl : k = cl := by omega
    obtain ⟨h1, h2, h3, h4, h5, h6, h7, h8, h9, -⟩ := id hp
    exact ⟨isO_of (by omega) h4, dR_of h5 (lenA_of h7 (iF_t ((nIle (by omega) (by omega)).mpr (Nat.le_refl _)) (hz (-1) A nx M ⟨rfl, rfl⟩ Frm.rf hC)))⟩
  | succ m ih =>
    intro k B nx A M hk hB hS hC hO hT h73 hp hz
    show b_X9_playedBy_2 (l_X9_playedBy_2 φ (m + 1)) φ 57 o (nI k) M
    generalize hK : l_X9_playedBy_2 φ (m + 1) = K at ih ⊢
    obtain ⟨h1, h2, h3, h4, h5, h6, h7, h8, h9, -, h11⟩ := id hp
    have hk2 : k < cl := by omega
    obtain ⟨s, g1, g2, g3, g4, g5⟩ := h11 k hk2
    have go : ∀ n, n ≤ 99 → (mny s → 1 ≤ n ∧ n ≤ 99 ∧ tx (705 * i + (2 + 4 * k + 0)) = nI n) → (¬ mny s → n = 1) → ∃ f, l_X9_playedBy_53 K φ f 57 o (nI k) (nI n) (0 : Int32) M := by
      intro n n1 n2 n3
      refine ⟨n + 1, c_rp_l hk2 n1 g1 g3 n 0 B nx A M (by omega) (by omega) hS hC hO hT h73 hp (fun A2 nx2 M2 t f c => hz (nI k) A2 nx2 M2 (Or.inl ⟨⟨s, n, g1, g3, n2, n3, t⟩, rfl⟩) f c) (fun A2 nx2 M2 t f c => ?_)⟩
      obtain ⟨q1, q2⟩ := o_rp n B A 1 A2 (by omega) hO t
      exact ih (k + 1) (B + 99) nx2 A2 M2 (by omega) (by omega) (f.S hS) c (q1.mn (by omega) (by omega)) (fun i hi => f.cT (hT i (by rw [q2] at hi; exact hi))) (f.c73.trans h73) (hp.cl f) (fun v A3 nx3 M3 t3 f3 c3 => hz v A3 nx3 M3 (Or.inr ⟨A2, ⟨s, n, g1, g3, n2, n3, t⟩, t3⟩) (f.tr f3) c3)
    refine ⟨isO_of (by omega) h4, dR_of h5 (lenA_of h7 (iF_f (fun c => absurd ((nIle (by omega) (by omega)).mp c) (by omega)) (dR_of h5 (c_cellN h7 rfl hk2 (by omega) ?_))))⟩
    rw [g2]
    have ne : ∀ z, z < 100 → s ≠ z → ¬ (nI s = nI z) := fun z z1 z2 c => z2 (nI_inj (by omega) (by omega) c)
    by_cases hm : mny s
    · obtain ⟨n, n1, n2, n3⟩ := g5 hm
      have j38 : j_X9_playedBy_38 K φ 57 o (nI k) M := by
        refine ⟨isO_of (by omega) h4, c_numOf (j := 0) hp hk2 (by omega) rfl ?_⟩
        have q : mI M u (3 * k + 0) = nI n := by
          rw [g4 (by unfold mny at hm; omega) 0 (by unfold mny at hm; rcases hm with rfl | rfl | rfl <;> decide)]
          exact n3
        rw [q]
        exact go n n2 (fun _ => ⟨n1, n2, n3⟩) (fun c => absurd hm c)
      rcases hm with e | e | e
      · exact iF_t (by rw [e]; rfl) j38
      · exact iF_f (ne 13 (by omega) (by omega)) (iF_t (by rw [e]; rfl) j38)
      · exact iF_f (ne 13 (by omega) (by omega)) (iF_f (ne 14 (by omega) (by omega)) (iF_t (by rw [e]; rfl) j38))
    · have q := go 1 (by omega) (fun c => absurd c hm) (fun _ => rfl)
      unfold mny at hm
      exact iF_f (ne 13 (by omega) (by omega)) (iF_f (ne 14 (by omega) (by omega)) (iF_f (ne 16 (by omega) (by omega)) q))
theorem c_textOfN {L B nx : Nat} {A : Nat → Nat} {M : fM} {a : Int32} {φ : Option Nat → fM → Prop} (hS : Str L M) (hC : Cls M 10 A nx) (hO : Okk B A) (h0 : ¬ (0 ≤ a.toInt ∧ a.toInt < A 3) → φ none M) (h1 : ∀ i, i < A 3 → a = nI i → φ (mP M 18 i) M) : w_X5_textOf 10 a M φ := by
  have o3 := hO.1.2.2.2.1
  obtain ⟨cn, cm, cr, ct, ch, p1, p2, p3, s4, s5, s6, s9, s11, s14, s15, s17, cb, cg⟩ := hC.f
  rcases Decidable.em (0 ≤ a.toInt ∧ a.toInt < A 3) with hv | hv
  · obtain ⟨i, hi, rfl⟩ := rgI (n := A 3) hv.1 (by omega)
    have hv2 := hv.2
    rw [toInt_nI (by omega)] at hv2
    refine iF_f (fun c => absurd ((nIlt (a := i) (b := 0) (by omega) (by omega)).mp c) (by omega)) ⟨isO_pt hS (by decide) rfl, iF_f (fun c => ?_) (dR_of (Str.pg hS rfl) (lenA_of (Str.sh hS _ _ rfl) (iF_f (fun c => absurd ((nIle (by omega) (by omega)).mp c) (by omega)) (dR_of (Str.pg hS rfl) ⟨inA_pt hS rfl (vp_nI (by omega) (by decide)), nm_of ?_⟩))))⟩
    · rw [s14] at c
      exact absurd ((nIle (by omega) (by omega)).mp c) (by omega)
    · rw [ix_nI (by omega)]
      exact h1 i (by omega) rfl
  · have q := h0 hv
    have m1 : 0 + 0 = 0 := rfl; have m4 : 0 + 0 = 0 := rfl; have f5 : 0 + 0 = 0 := rfl; have f6 : 0 + 0 = 0 := rfl; have t1 : 0 + 0 = 0 := rfl; have t2 : 0 + 0 = 0 := rfl; have e1 : 0 + 0 = 0 := rfl; have e2 : 0 + 0 = 0 := rfl; have e3 : 0 + 0 = 0 := rfl
    unfold w_X5_textOf
    repeat' (first | ((with_reducible refine c_fil_hh (L := L) ?_ ?_ ?_); (exact hS); omega) | ((with_reducible refine c_build (L := L) ?_ ?_ ?_); (exact hS); omega) | with_reducible refine nm_of ?_ | with_reducible refine st_of ?_ | ((with_reducible apply dR_of); first | exact Str.pg hS rfl | exact sp_hsx hS (by omega) | exact sp_hs hS (by omega) | exact sp_hh hS (by omega) | assumption | fail) | ((with_reducible refine And.intro ?_ ?_); first | exact isO_pt hS (by decide) rfl | exact inA_pt hS rfl (by (first | exact vp_lit (by decide) | (simp (disch := omega) only [lit32, Nat.add_sub_cancel, Nat.sub_zero, Nat.reduceSub, nI_add, nI_muL, nI_sub, ix_nI, mI_s, mI_n, mI_fs, mI_fn, mI_ci, mI_co, mI_si, mI_so, Nat.add_zero, up_n, up_s, cpA_i, cpA_o, shA_i, shA_o, fiA_i, fiA_o, imin_l, imin_r, nI_mod, nI_div, xr_e, cn, cm, cr, ct, ch, p1, p2, p3, s4, s5, s6, s9, s11, s14, s15, s17, cb, cg, m1, m4, f5, f6, t1, t2, e1, e2, e3]; first | done | exact vp_nI (by omega) (by decide)) | exact vp_nI (by omega) (by decide) | fail)) | omega | exact isO_hs hS (by omega) | exact inA_hh hS (by omega) (by (first | exact vp_lit (by decide) | (simp (disch := omega) only [lit32, Nat.add_sub_cancel, Nat.sub_zero, Nat.reduceSub, nI_add, nI_muL, nI_sub, ix_nI, mI_s, mI_n, mI_fs, mI_fn, mI_ci, mI_co, mI_si, mI_so, Nat.add_zero, up_n, up_s, cpA_i, cpA_o, shA_i, shA_o, fiA_i, fiA_o, imin_l, imin_r, nI_mod, nI_div, xr_e, cn, cm, cr, ct, ch, p1, p2, p3, s4, s5, s6, s9, s11, s14, s15, s17, cb, cg, m1, m4, f5, f6, t1, t2, e1, e2, e3]; first | done | exact vp_nI (by omega) (by decide)) | exact vp_nI (by omega) (by decide) | fail)) | exact isB1 | exact isB0 | assumption | fail) | ((with_reducible apply lenA_of); first | exact Str.sh hS _ _ rfl | exact ss_hh hS (by omega) | assumption | fail) | with_reducible refine gN_of rfl ?_ | with_reducible refine gN_no rfl ?_ | ((with_reducible refine iF_t ?_ ?_); focus ((try simp (disch := omega) only [lit32, Nat.add_sub_cancel, Nat.sub_zero, Nat.reduceSub, nI_add, nI_muL, nI_sub, ix_nI, mI_s, mI_n, mI_fs, mI_fn, mI_ci, mI_co, mI_si, mI_so, Nat.add_zero, up_n, up_s, cpA_i, cpA_o, shA_i, shA_o, fiA_i, fiA_o, imin_l, imin_r, nI_mod, nI_div, xr_e, cn, cm, cr, ct, ch, p1, p2, p3, s4, s5, s6, s9, s11, s14, s15, s17, cb, cg, m1, m4, f5, f6, t1, t2, e1, e2, e3, lt_toInt, le_toInt, eq_toInt, toInt_nI, tI_neg, bt_e, tI_sub, tI_subR, tI_subL]); first | done | omega)) | ((with_reducible refine iF_f ?_ ?_); focus ((try simp (disch := omega) only [lit32, Nat.add_sub_cancel, Nat.sub_zero, Nat.reduceSub, nI_add, nI_muL, nI_sub, ix_nI, mI_s, mI_n, mI_fs, mI_fn, mI_ci, mI_co, mI_si, mI_so, Nat.add_zero, up_n, up_s, cpA_i, cpA_o, shA_i, shA_o, fiA_i, fiA_o, imin_l, imin_r, nI_mod, nI_div, xr_e, cn, cm, cr, ct, ch, p1, p2, p3, s4, s5, s6, s9, s11, s14, s15, s17, cb, cg, m1, m4, f5, f6, t1, t2, e1, e2, e3, lt_toInt, le_toInt, eq_toInt, toInt_nI, tI_neg, bt_e, tI_sub, tI_subR, tI_subL]); first | done | omega)) | ((with_reducible refine iF_s (fun hc => ?_) (fun hc => ?_)) <;> (try simp (disch := omega) only [lit32, Nat.add_sub_cancel, Nat.sub_zero, Nat.reduceSub, nI_add, nI_muL, nI_sub, ix_nI, mI_s, mI_n, mI_fs, mI_fn, mI_ci, mI_co, mI_si, mI_so, Nat.add_zero, up_n, up_s, cpA_i, cpA_o, shA_i, shA_o, fiA_i, fiA_o, imin_l, imin_r, nI_mod, nI_div, xr_e, cn, cm, cr, ct, ch, p1, p2, p3, s4, s5, s6, s9, s11, s14, s15, s17, cb, cg, m1, m4, f5, f6, t1, t2, e1, e2, e3, lt_toInt, le_toInt, eq_toInt, toInt_nI, tI_neg, bt_e, tI_sub, tI_subR, tI_subL] at hc)) | fail)
    all_goals first | (exfalso; omega) | exact q
theorem c_played (L B : Nat) (a : Int32) (hB : B + 2376 ≤ 1000000) : CSp L B (fun M φ => w_X10_played 6 a M φ) (T_played a) := by
  intro M A nx φ hS hC hO hT hz
  show w_X10_played 6 a M φ
  refine ⟨isO_pt hS (by decide) rfl, dR_of (Str.pg hS rfl) ⟨isO_pt hS (by decide) rfl, c_textOfN hS hC hO (fun q => gN_no rfl (hz _ A nx M (Or.inl ⟨q, rfl, rfl⟩) Frm.rf hC)) fun i hi e => ?_⟩⟩
  obtain ⟨o, d, u, cl, p, hp⟩ := Tpl.of (hT i hi)
  obtain ⟨-, -, -, -, -, -, -, -, h9, h10, -⟩ := id hp
  rw [p]
  exact gN_of rfl ⟨isO_pt hS (by decide) rfl, dR_of (Str.pg hS rfl) ⟨isO_pt hS (by decide) rfl, cl + 1, c_play_l cl 0 B nx A M (by omega) (by omega) hS hC hO hT rfl hp fun v A2 nx2 M2 t f c => hz v A2 nx2 M2 (Or.inr ⟨i, cl, e, hi, h9, h10, t⟩) f c⟩⟩
/-! ===== a TEXT played, by the model ===== -/
theorem m_are_l {L n s : Nat} {a b c : Int32} {tx : Nat → Int32} {φ : Int32 → fM → Prop} (hn : n ≤ 99) (hs : mny s) : ∀ (m j B : Nat) (A : Nat → Nat) (M : fM) (v : Int32) (A2 : Nat → Nat), j + m = n → B + m ≤ 1000000 → Str L M → Mdl M 71 A → Okk B A → (∀ i, i < A 3 → TxR M 18 i) → mI M 73 = tx → rpT (T_done s a b c) m tx A v A2 → (∀ M2, Frm mdr M M2 → Mdl M2 71 A2 → φ v M2) → l_X11_areDone_2 φ (m + 1) 70 (nI s) (nI n) (nI j) M := by
  intro m
  induction m with
  | zero =>
    intro j B A M v A2 hj hB hS hM hO hT h73 ht hz
    obtain rfl : j = n := by omega
    obtain ⟨rfl, rfl⟩ := ht
    exact iF_t ((nIle (by omega) (by omega)).mpr (Nat.le_refl _)) (hz M Frm.rf hM)
  | succ m ih =>
    intro j B A M v A2 hj hB hS hM hO hT h73 ht hz
    show b_X11_areDone_2 (l_X11_areDone_2 φ (m + 1)) φ 70 (nI s) (nI n) (nI j) M
    generalize hK : l_X11_areDone_2 φ (m + 1) = K at ih ⊢
    refine iF_f (fun c => absurd ((nIle (by omega) (by omega)).mp c) (by omega)) ?_
    obtain ⟨dd, A1, hd, h01⟩ : ∃ dd A1, T_done s a b c tx A dd A1 ∧ ∀ M2, Frm mdr M M2 → Mdl M2 71 A1 → j_X11_areDone_53 K φ 70 (nI s) (nI n) (nI j) dd M2 := by
      rcases ht with ⟨t, rfl⟩ | ⟨A1, t, t2⟩
      · exact ⟨0, A2, t, fun M2 f c => iF_t rfl (hz M2 f c)⟩
      · refine ⟨1, A1, t, fun M2 f c => iF_f (by decide) (nm_of ?_)⟩
        rw [show nI j + (1 : Int32) = nI (j + 1) from nI_add _ 1]
        obtain ⟨q1, q2⟩ := o_done B s _ _ _ (by omega) tx A 1 A1 hO t
        exact ih (j + 1) (B + 1) A1 M2 v A2 (by omega) (by omega) (f.S hS) c q1 (fun i hi => f.mT (hT i (by rw [q2] at hi; exact hi))) (f.m73.trans h73) t2 fun M3 f3 c3 => hz M3 (f.tr f3) c3
    subst h73
    rcases hs with rfl | rfl | rfl
    · exact iF_t rfl ⟨isO_pt hS (by decide) rfl, m_dnT (B := B) step_n (m_step L B) M A A1 dd (fun x M2 => j_X11_areDone_53 K φ 70 (nI 13) (nI n) (nI j) x M2) hS hM hO hT hd h01⟩
    · exact iF_f (by decide) (iF_t rfl ⟨isO_pt hS (by decide) rfl, m_dnT (B := B) toe_n (m_toe L B) M A A1 dd (fun x M2 => j_X11_areDone_53 K φ 70 (nI 14) (nI n) (nI j) x M2) hS hM hO hT hd h01⟩)
    · exact iF_f (by decide) (iF_f (by decide) ⟨isO_pt hS (by decide) rfl, m_night1 L B M A A1 dd (fun x M2 => j_X11_areDone_53 K φ 70 (nI 16) (nI n) (nI j) x M2) hS hM hO hT hd h01⟩)
theorem rpT_1 {s : Nat} {a b c : Int32} {tx : Nat → Int32} {A : Nat → Nat} {v : Int32} {A2 : Nat → Nat} (h : rpT (T_done s a b c) 1 tx A v A2) : T_done s a b c tx A v A2 := by
  rcases h with ⟨h, rfl⟩ | ⟨A1, h1, rfl, rfl⟩
  · exact h
  · exact h1
theorem m_cl {L B i k : Nat} {tx : Nat → Int32} {A A2 : Nat → Nat} {M : fM} {v : Int32} {φ : Int32 → fM → Prop} (hi : i < 4) (hk : k < 24) (hB : B + 99 ≤ 1000000) (hS : Str L M) (hM : Mdl M 71 A) (hO : Okk B A) (hT : ∀ i, i < A 3 → TxR M 18 i) (h73 : mI M 73 = tx) (hv : clT i k tx A v A2) (hz : ∀ M2, Frm mdr M M2 → Mdl M2 71 A2 → φ v M2) : w_X11_isPlayed 70 (nI (705 * i + 1 + 4 * k)) M φ := by
  subst h73
  obtain ⟨s, n, s16, hs, hn, hn1, hr⟩ := hv
  obtain ⟨p, hp⟩ : ∃ p, p = 705 * i + 1 + 4 * k := ⟨_, rfl⟩
  rw [← hp]
  rw [show 705 * i + (1 + 4 * k) = p by omega] at hs
  rw [show 705 * i + (2 + 4 * k + 0) = p + 1 by omega] at hr hn
  rw [show 705 * i + (2 + 4 * k + 1) = p + 2 by omega, show 705 * i + (2 + 4 * k + 2) = p + 3 by omega] at hr
  have e1 : nI p + (1 : Int32) = nI (p + 1) := nI_add _ 1
  have e2 : nI p + (2 : Int32) = nI (p + 2) := nI_add _ 2
  have e3 : nI p + (3 : Int32) = nI (p + 3) := nI_add _ 3
  unfold w_X11_isPlayed
  rw [e1, e2, e3, ix_nI (by omega), ix_nI (by omega), ix_nI (by omega), ix_nI (by omega)]
  refine ⟨isO_pt hS (by decide) rfl, dR_of (Str.pg hS rfl) ⟨inA_pt hS rfl (vp_nI (by omega) (by decide)), nm_of (dR_of (Str.pg hS rfl) ⟨inA_pt hS rfl (vp_nI (by omega) (by decide)), nm_of (dR_of (Str.pg hS rfl) ⟨inA_pt hS rfl (vp_nI (by omega) (by decide)), nm_of ?_⟩)⟩)⟩⟩
  rw [hs]
  generalize hb1 : mI M 73 (p + 1) = b1 at hr hn ⊢
  generalize hb2 : mI M 73 (p + 2) = b2 at hr ⊢
  generalize hb3 : mI M 73 (p + 3) = b3 at hr ⊢
  have one : ¬ mny s → T_done s b1 b2 b3 (mI M 73) A v A2 := fun q => by
    have z := hn1 q
    subst z
    exact rpT_1 hr
  have last : mny s → j_X11_isPlayed_238 φ 70 (nI p) b1 M := fun q => by
    obtain ⟨n1, n2, n3⟩ := hn q
    have h4 : ¬ (nI s ≤ (4 : Int32)) := fun c => by
      have := (nIle (b := 4) (by omega) (by omega)).mp c
      unfold mny at q
      omega
    subst n3
    refine ⟨isO_pt hS (by decide) rfl, dR_of (Str.pg hS rfl) ⟨inA_pt hS rfl (vp_nI (by omega) (by decide)), ?_⟩⟩
    rw [ix_nI (by omega), hs]
    refine iF_f h4 (dR_of (Str.pg hS rfl) ⟨inA_pt hS rfl (vp_nI (by omega) (by decide)), ?_⟩)
    rw [hs]
    refine ⟨n + 1, m_are_l n2 q n 0 B A M v A2 (by omega) (by omega) hS hM hO hT rfl hr fun M2 f c => ?_⟩
    rcases rpT_01 _ _ _ _ hr with e | e
    · subst e
      exact iF_t rfl (hz M2 f c)
    · subst e
      exact iF_f (by decide) (hz M2 f c)
  have few : s ≤ 4 → j_X11_isPlayed_238 φ 70 (nI p) b1 M := fun q => by
    have z := one (by unfold mny; omega)
    unfold T_done at z
    rw [if_neg (by omega), if_neg (by omega), if_neg (by omega), if_neg (by omega), if_neg (by omega), if_neg (by omega), if_neg (by omega), if_neg (by omega), if_neg (by omega), if_neg (by omega), if_neg (by omega), if_neg (by omega)] at z
    obtain ⟨rfl, rfl⟩ := z
    refine ⟨isO_pt hS (by decide) rfl, dR_of (Str.pg hS rfl) ⟨inA_pt hS rfl (vp_nI (by omega) (by decide)), ?_⟩⟩
    rw [ix_nI (by omega), hs]
    exact iF_t ((nIle (b := 4) (by omega) (by omega)).mpr q) (hz M Frm.rf hM)
  clear hs hn hn1 hr
  have hs17 : s = 0 ∨ s = 1 ∨ s = 2 ∨ s = 3 ∨ s = 4 ∨ s = 5 ∨ s = 6 ∨ s = 7 ∨ s = 8 ∨ s = 9 ∨ s = 10 ∨ s = 11 ∨ s = 12 ∨ s = 13 ∨ s = 14 ∨ s = 15 ∨ s = 16 := by omega
  rcases hs17 with rfl | rfl | rfl | rfl | rfl | rfl | rfl | rfl | rfl | rfl | rfl | rfl | rfl | rfl | rfl | rfl | rfl
  all_goals (repeat (first | (with_reducible refine iF_t (by decide) ?_) | (with_reducible refine iF_f (by decide) ?_) | fail))
  · exact few (by omega)
  · exact few (by omega)
  · exact few (by omega)
  · exact few (by omega)
  · exact few (by omega)
  · have z := one (by unfold mny; omega)
    exact m_stair L B b1 b2 M A A2 v _ hS hM hO hT z fun M2 f c => ⟨isB_01 (T_stair_01 (tx := mI M 73) z), hz M2 f c⟩
  · have z := one (by unfold mny; omega)
    refine dR_of (Str.pg hS rfl) ⟨inA_pt hS rfl (vp_nI (by omega) (by decide)), ?_⟩
    rw [hb3]
    exact m_height L B b3 b2 b1 M A A2 v _ hS hM hO hT z fun M2 f c => ⟨isB_01 (T_height_01 (tx := mI M 73) z), hz M2 f c⟩
  · exact m_turn L B b2 b1 M A A2 v φ hS hM hO hT (one (by unfold mny; omega)) hz
  · have z := one (by unfold mny; omega)
    exact m_rail L B b2 b1 M A A2 v _ hS hM hO hT z fun M2 f c => ⟨isB_01 (T_rail_01 (tx := mI M 73) z), hz M2 f c⟩
  · refine dR_of (Str.pg hS rfl) ⟨inA_pt hS rfl (vp_nI (by omega) (by decide)), ?_⟩
    rw [hb3]
    exact m_dnT (B := B) person_n (m_person L B b1 b2 b3) M A A2 v φ hS hM hO hT (one (by unfold mny; omega)) hz
  · exact m_dnT (B := B) begin_n (m_begin L B b1 b2 0) M A A2 v φ hS hM hO hT (one (by unfold mny; omega)) hz
  · exact m_dnT (B := B) begin_n (m_begin L B b1 b2 1) M A A2 v φ hS hM hO hT (one (by unfold mny; omega)) hz
  · exact m_dnT (B := B) begin_n (m_begin L B b1 b2 2) M A A2 v φ hS hM hO hT (one (by unfold mny; omega)) hz
  · exact last (Or.inl rfl)
  · exact last (Or.inr (Or.inl rfl))
  · exact m_dnT (B := B) stop_n (m_stop L B) M A A2 v φ hS hM hO hT (one (by unfold mny; omega)) hz
  · exact last (Or.inr (Or.inr rfl))
theorem clT_01 {i k : Nat} {tx : Nat → Int32} {A A2 : Nat → Nat} {v : Int32} (h : clT i k tx A v A2) : v = 0 ∨ v = 1 := by
  obtain ⟨s, n, -, -, -, -, hr⟩ := h
  exact rpT_01 _ _ _ _ hr
theorem o_clT {B i k : Nat} {tx : Nat → Int32} {A A2 : Nat → Nat} {v : Int32} (hB : B + 99 ≤ 1000000) (hO : Okk B A) (h : clT i k tx A v A2) : Okk (B + 99) A2 ∧ A2 3 = A 3 := by
  obtain ⟨s, n, -, -, h1, h2, hr⟩ := h
  have hn : n ≤ 99 := by
    by_cases q : mny s
    · exact (h1 q).2.1
    · rw [h2 q]
      omega
  obtain ⟨q1, q2⟩ := o_rp n B A v A2 (by omega) hO hr
  exact ⟨q1.mn (by omega) hB, q2⟩
theorem m_play_l {L i cl : Nat} {tx : Nat → Int32} {φ : Int32 → fM → Prop} (hi : i < 4) (hcl : cl ≤ 24) (ht : tx (705 * i) = nI cl) : ∀ (m k B : Nat) (A : Nat → Nat) (M : fM) (v : Int32) (A2 : Nat → Nat), k + m = cl → B + 99 * m ≤ 1000000 → Str L M → Mdl M 71 A → Okk B A → (∀ i, i < A 3 → TxR M 18 i) → mI M 73 = tx → plT i m k tx A v A2 → (∀ M2, Frm mdr M M2 → Mdl M2 71 A2 → φ v M2) → l_X11_played_21 φ (m + 1) 70 (nI i) (nI k) M := by
  have e0 : (705 : Int32) * nI i = nI (705 * i) := nI_muL 705 i
  intro m
  induction m with
  | zero =>
    intro k B A M v A2 hk hB hS hM hO hT h73 hv hz
    obtain rfl : k = cl := by omega
    obtain ⟨rfl, rfl⟩ := hv
    show b_X11_played_21 _ φ 70 (nI i) (nI k) M
    unfold b_X11_played_21
    rw [e0, ix_nI (by omega)]
    refine ⟨isO_pt hS (by decide) rfl, dR_of (Str.pg hS rfl) ⟨inA_pt hS rfl (vp_nI (by omega) (by decide)), ?_⟩⟩
    rw [h73, ht]
    exact iF_t ((nIle (by omega) (by omega)).mpr (Nat.le_refl _)) (hz M Frm.rf hM)
  | succ m ih =>
    intro k B A M v A2 hk hB hS hM hO hT h73 hv hz
    show b_X11_played_21 (l_X11_played_21 φ (m + 1)) φ 70 (nI i) (nI k) M
    generalize hK : l_X11_played_21 φ (m + 1) = K at ih ⊢
    have e1 : ((705 : Int32) * nI i + (1 : Int32)) + ((4 : Int32) * nI k) = nI (705 * i + 1 + 4 * k) := by
      simp only [lit32, nI_muL, nI_add]
    unfold b_X11_played_21
    rw [e1, e0, ix_nI (by omega)]
    refine ⟨isO_pt hS (by decide) rfl, dR_of (Str.pg hS rfl) ⟨inA_pt hS rfl (vp_nI (by omega) (by decide)), ?_⟩⟩
    rw [h73, ht]
    refine iF_f (fun c => absurd ((nIle (by omega) (by omega)).mp c) (by omega)) ?_
    rcases hv with ⟨h, rfl⟩ | ⟨A1, h1, h2⟩
    · exact m_cl (φ := fun x10 M9 => iF (x10 = 0) (φ (nI k) M9) (nm (nI k + (1 : Int32)) fun x11 => K 70 (nI i) x11 M9)) hi (by omega) (by omega) hS hM hO hT h73 h fun M2 f c => iF_t rfl (hz M2 f c)
    · refine m_cl (φ := fun x10 M9 => iF (x10 = 0) (φ (nI k) M9) (nm (nI k + (1 : Int32)) fun x11 => K 70 (nI i) x11 M9)) hi (by omega) (by omega) hS hM hO hT h73 h1 fun M2 f c => iF_f (by decide) (nm_of ?_)
      rw [show nI k + (1 : Int32) = nI (k + 1) from nI_add _ 1]
      obtain ⟨q1, q2⟩ := o_clT (by omega) hO h1
      exact ih (k + 1) (B + 99) A1 M2 v A2 (by omega) (by omega) (f.S hS) c q1 (fun i hi => f.mT (hT i (by rw [q2] at hi; exact hi))) (f.m73.trans h73) h2 fun M3 f3 c3 => hz M3 (f.tr f3) c3
theorem m_played (L B : Nat) (a : Int32) (hB : B + 2376 ≤ 1000000) : MSp L B (fun M φ => w_X11_played 70 a M φ) (T_played a) := by
  intro M A A2 v φ hS hM hO hT hv hz
  obtain ⟨m1, m4⟩ := id hM
  have cn : 0 + 0 = 0 := rfl
  have cm : 0 + 0 = 0 := rfl
  have cr : 0 + 0 = 0 := rfl
  have ct : 0 + 0 = 0 := rfl
  have ch : 0 + 0 = 0 := rfl
  have p1 : 0 + 0 = 0 := rfl
  have p2 : 0 + 0 = 0 := rfl
  have p3 : 0 + 0 = 0 := rfl
  have s4 : 0 + 0 = 0 := rfl
  have s5 : 0 + 0 = 0 := rfl
  have s6 : 0 + 0 = 0 := rfl
  have s9 : 0 + 0 = 0 := rfl
  have s11 : 0 + 0 = 0 := rfl
  have s14 : 0 + 0 = 0 := rfl
  have s15 : 0 + 0 = 0 := rfl
  have s17 : 0 + 0 = 0 := rfl
  have cb : 0 + 0 = 0 := rfl
  have cg : 0 + 0 = 0 := rfl
  have f5 : 0 + 0 = 0 := rfl
  have f6 : 0 + 0 = 0 := rfl
  have t1 : 0 + 0 = 0 := rfl
  have t2 : 0 + 0 = 0 := rfl
  have e1 : 0 + 0 = 0 := rfl
  have e2 : 0 + 0 = 0 := rfl
  have e3 : 0 + 0 = 0 := rfl
  obtain ⟨⟨o0, o1, o2, o3, o4, o5, o6, o7, o8, o9⟩, oH, oP, oW, oA, oG, oB⟩ := id hO
  show w_X11_played 70 a M φ
  rcases hv with ⟨hv, rfl, rfl⟩ | ⟨i, cl, rfl, hi, hcl, ht, hv⟩
  · unfold w_X11_played w_X11_isIn
    repeat' (first | ((with_reducible refine c_fil_hh (L := L) ?_ ?_ ?_); (exact hS); omega) | ((with_reducible refine c_build (L := L) ?_ ?_ ?_); (exact hS); omega) | with_reducible refine nm_of ?_ | with_reducible refine st_of ?_ | ((with_reducible apply dR_of); first | exact Str.pg hS rfl | exact sp_hsx hS (by omega) | exact sp_hs hS (by omega) | exact sp_hh hS (by omega) | assumption | fail) | ((with_reducible refine And.intro ?_ ?_); first | exact isO_pt hS (by decide) rfl | exact inA_pt hS rfl (by (first | exact vp_lit (by decide) | (simp (disch := omega) only [lit32, Nat.add_sub_cancel, Nat.sub_zero, Nat.reduceSub, nI_add, nI_muL, nI_sub, ix_nI, mI_s, mI_n, mI_fs, mI_fn, mI_ci, mI_co, mI_si, mI_so, Nat.add_zero, up_n, up_s, cpA_i, cpA_o, shA_i, shA_o, fiA_i, fiA_o, imin_l, imin_r, nI_mod, nI_div, xr_e, cn, cm, cr, ct, ch, p1, p2, p3, s4, s5, s6, s9, s11, s14, s15, s17, cb, cg, m1, m4, f5, f6, t1, t2, e1, e2, e3]; first | done | exact vp_nI (by omega) (by decide)) | exact vp_nI (by omega) (by decide) | fail)) | omega | exact isO_hs hS (by omega) | exact inA_hh hS (by omega) (by (first | exact vp_lit (by decide) | (simp (disch := omega) only [lit32, Nat.add_sub_cancel, Nat.sub_zero, Nat.reduceSub, nI_add, nI_muL, nI_sub, ix_nI, mI_s, mI_n, mI_fs, mI_fn, mI_ci, mI_co, mI_si, mI_so, Nat.add_zero, up_n, up_s, cpA_i, cpA_o, shA_i, shA_o, fiA_i, fiA_o, imin_l, imin_r, nI_mod, nI_div, xr_e, cn, cm, cr, ct, ch, p1, p2, p3, s4, s5, s6, s9, s11, s14, s15, s17, cb, cg, m1, m4, f5, f6, t1, t2, e1, e2, e3]; first | done | exact vp_nI (by omega) (by decide)) | exact vp_nI (by omega) (by decide) | fail)) | exact isB1 | exact isB0 | assumption | fail) | ((with_reducible apply lenA_of); first | exact Str.sh hS _ _ rfl | exact ss_hh hS (by omega) | assumption | fail) | with_reducible refine gN_of rfl ?_ | with_reducible refine gN_no rfl ?_ | ((with_reducible refine iF_t ?_ ?_); focus ((try simp (disch := omega) only [lit32, Nat.add_sub_cancel, Nat.sub_zero, Nat.reduceSub, nI_add, nI_muL, nI_sub, ix_nI, mI_s, mI_n, mI_fs, mI_fn, mI_ci, mI_co, mI_si, mI_so, Nat.add_zero, up_n, up_s, cpA_i, cpA_o, shA_i, shA_o, fiA_i, fiA_o, imin_l, imin_r, nI_mod, nI_div, xr_e, cn, cm, cr, ct, ch, p1, p2, p3, s4, s5, s6, s9, s11, s14, s15, s17, cb, cg, m1, m4, f5, f6, t1, t2, e1, e2, e3, lt_toInt, le_toInt, eq_toInt, toInt_nI, tI_neg, bt_e, tI_sub, tI_subR, tI_subL]); first | done | omega)) | ((with_reducible refine iF_f ?_ ?_); focus ((try simp (disch := omega) only [lit32, Nat.add_sub_cancel, Nat.sub_zero, Nat.reduceSub, nI_add, nI_muL, nI_sub, ix_nI, mI_s, mI_n, mI_fs, mI_fn, mI_ci, mI_co, mI_si, mI_so, Nat.add_zero, up_n, up_s, cpA_i, cpA_o, shA_i, shA_o, fiA_i, fiA_o, imin_l, imin_r, nI_mod, nI_div, xr_e, cn, cm, cr, ct, ch, p1, p2, p3, s4, s5, s6, s9, s11, s14, s15, s17, cb, cg, m1, m4, f5, f6, t1, t2, e1, e2, e3, lt_toInt, le_toInt, eq_toInt, toInt_nI, tI_neg, bt_e, tI_sub, tI_subR, tI_subL]); first | done | omega)) | ((with_reducible refine iF_s (fun hc => ?_) (fun hc => ?_)) <;> (try simp (disch := omega) only [lit32, Nat.add_sub_cancel, Nat.sub_zero, Nat.reduceSub, nI_add, nI_muL, nI_sub, ix_nI, mI_s, mI_n, mI_fs, mI_fn, mI_ci, mI_co, mI_si, mI_so, Nat.add_zero, up_n, up_s, cpA_i, cpA_o, shA_i, shA_o, fiA_i, fiA_o, imin_l, imin_r, nI_mod, nI_div, xr_e, cn, cm, cr, ct, ch, p1, p2, p3, s4, s5, s6, s9, s11, s14, s15, s17, cb, cg, m1, m4, f5, f6, t1, t2, e1, e2, e3, lt_toInt, le_toInt, eq_toInt, toInt_nI, tI_neg, bt_e, tI_sub, tI_subR, tI_subL] at hc)) | fail)
    all_goals first | (exfalso; omega) | exact hz _ Frm.rf hM
  · unfold w_X11_played w_X11_isIn
    repeat' (first | ((with_reducible refine c_fil_hh (L := L) ?_ ?_ ?_); (exact hS); omega) | ((with_reducible refine c_build (L := L) ?_ ?_ ?_); (exact hS); omega) | with_reducible refine nm_of ?_ | with_reducible refine st_of ?_ | ((with_reducible apply dR_of); first | exact Str.pg hS rfl | exact sp_hsx hS (by omega) | exact sp_hs hS (by omega) | exact sp_hh hS (by omega) | assumption | fail) | ((with_reducible refine And.intro ?_ ?_); first | exact isO_pt hS (by decide) rfl | exact inA_pt hS rfl (by (first | exact vp_lit (by decide) | (simp (disch := omega) only [lit32, Nat.add_sub_cancel, Nat.sub_zero, Nat.reduceSub, nI_add, nI_muL, nI_sub, ix_nI, mI_s, mI_n, mI_fs, mI_fn, mI_ci, mI_co, mI_si, mI_so, Nat.add_zero, up_n, up_s, cpA_i, cpA_o, shA_i, shA_o, fiA_i, fiA_o, imin_l, imin_r, nI_mod, nI_div, xr_e, cn, cm, cr, ct, ch, p1, p2, p3, s4, s5, s6, s9, s11, s14, s15, s17, cb, cg, m1, m4, f5, f6, t1, t2, e1, e2, e3]; first | done | exact vp_nI (by omega) (by decide)) | exact vp_nI (by omega) (by decide) | fail)) | omega | exact isO_hs hS (by omega) | exact inA_hh hS (by omega) (by (first | exact vp_lit (by decide) | (simp (disch := omega) only [lit32, Nat.add_sub_cancel, Nat.sub_zero, Nat.reduceSub, nI_add, nI_muL, nI_sub, ix_nI, mI_s, mI_n, mI_fs, mI_fn, mI_ci, mI_co, mI_si, mI_so, Nat.add_zero, up_n, up_s, cpA_i, cpA_o, shA_i, shA_o, fiA_i, fiA_o, imin_l, imin_r, nI_mod, nI_div, xr_e, cn, cm, cr, ct, ch, p1, p2, p3, s4, s5, s6, s9, s11, s14, s15, s17, cb, cg, m1, m4, f5, f6, t1, t2, e1, e2, e3]; first | done | exact vp_nI (by omega) (by decide)) | exact vp_nI (by omega) (by decide) | fail)) | exact isB1 | exact isB0 | assumption | fail) | ((with_reducible apply lenA_of); first | exact Str.sh hS _ _ rfl | exact ss_hh hS (by omega) | assumption | fail) | with_reducible refine gN_of rfl ?_ | with_reducible refine gN_no rfl ?_ | ((with_reducible refine iF_t ?_ ?_); focus ((try simp (disch := omega) only [lit32, Nat.add_sub_cancel, Nat.sub_zero, Nat.reduceSub, nI_add, nI_muL, nI_sub, ix_nI, mI_s, mI_n, mI_fs, mI_fn, mI_ci, mI_co, mI_si, mI_so, Nat.add_zero, up_n, up_s, cpA_i, cpA_o, shA_i, shA_o, fiA_i, fiA_o, imin_l, imin_r, nI_mod, nI_div, xr_e, cn, cm, cr, ct, ch, p1, p2, p3, s4, s5, s6, s9, s11, s14, s15, s17, cb, cg, m1, m4, f5, f6, t1, t2, e1, e2, e3, lt_toInt, le_toInt, eq_toInt, toInt_nI, tI_neg, bt_e, tI_sub, tI_subR, tI_subL]); first | done | omega)) | ((with_reducible refine iF_f ?_ ?_); focus ((try simp (disch := omega) only [lit32, Nat.add_sub_cancel, Nat.sub_zero, Nat.reduceSub, nI_add, nI_muL, nI_sub, ix_nI, mI_s, mI_n, mI_fs, mI_fn, mI_ci, mI_co, mI_si, mI_so, Nat.add_zero, up_n, up_s, cpA_i, cpA_o, shA_i, shA_o, fiA_i, fiA_o, imin_l, imin_r, nI_mod, nI_div, xr_e, cn, cm, cr, ct, ch, p1, p2, p3, s4, s5, s6, s9, s11, s14, s15, s17, cb, cg, m1, m4, f5, f6, t1, t2, e1, e2, e3, lt_toInt, le_toInt, eq_toInt, toInt_nI, tI_neg, bt_e, tI_sub, tI_subR, tI_subL]); first | done | omega)) | fail)
    exact ⟨cl + 1, m_play_l (by omega) hcl ht cl 0 B A M v A2 (by omega) (by omega) hS hM hO hT rfl hv hz⟩
/-! ===== a TEXT played: bounds ===== -/
def Bnd (B : Nat) (A : Nat → Nat) : Prop := Okk B A ∨ (Okk (B + 1) A ∧ A 108 = 0)
theorem o_rpw {B : Nat} {tx : Nat → Int32} {T : (Nat → Int32) → (Nat → Nat) → Int32 → (Nat → Nat) → Prop} (p1 : ∀ A v A2, Okk B A → T tx A v A2 → Bnd B A2 ∧ A2 3 = A 3) (p2 : ∀ A v A2, A 108 = 0 → T tx A v A2 → A2 = A) : ∀ (n : Nat) (A : Nat → Nat) (v : Int32) (A2 : Nat → Nat), Bnd B A → rpT T n tx A v A2 → Bnd B A2 ∧ A2 3 = A 3
  | 0, A, v, A2, hO, h => by
    obtain ⟨-, rfl⟩ := h
    exact ⟨hO, rfl⟩
  | n + 1, A, v, A2, hO, h => by
    have st : ∀ A v A2, Bnd B A → T tx A v A2 → Bnd B A2 ∧ A2 3 = A 3 := fun A v A2 hb ht => by
      rcases hb with hb | ⟨hb, h0⟩
      · exact p1 A v A2 hb ht
      · rw [p2 A v A2 h0 ht]
        exact ⟨Or.inr ⟨hb, h0⟩, rfl⟩
    rcases h with ⟨h, -⟩ | ⟨A1, h1, h2⟩
    · exact st A 0 A2 hO h
    · obtain ⟨q1, q2⟩ := st A 1 A1 hO h1
      obtain ⟨r1, r2⟩ := o_rpw p1 p2 n A1 v A2 q1 h2
      exact ⟨r1, r2.trans q2⟩
theorem b_step {B : Nat} (hB : B + 1 ≤ 1000000) {tx : Nat → Int32} : ∀ A v A2, Okk B A → dnT T_step tx A v A2 → Bnd B A2 ∧ A2 3 = A 3 := by
  intro A v A2 hO h
  obtain ⟨w, h, -⟩ := h
  refine ⟨?_, (o_step B hB tx A w A2 hO h).2⟩
  rcases h with ⟨-, -, rfl⟩ | ⟨e, -, rfl⟩
  · exact Or.inl hO
  · have k8 := (kpA_w hO).2.2.2.2.2.2.1.trans e
    have hO1 := o_keep hO
    unfold stA
    by_cases q : kpA A 103 = kpA A (10 + 18 * kpA A 101)
    · rw [if_pos q]
      exact Or.inr ⟨o_down ((o_se hO1).w (by omega)) hB, rfl⟩
    · rw [if_neg q]
      exact Or.inl (o_cn (o_tr (o_ad hO1 k8 q)))
theorem b_toe {B : Nat} (hB : B + 1 ≤ 1000000) {tx : Nat → Int32} : ∀ A v A2, Okk B A → dnT T_toe tx A v A2 → Bnd B A2 ∧ A2 3 = A 3 := by
  intro A v A2 hO h
  obtain ⟨w, h, -⟩ := h
  refine ⟨?_, (o_toe B hB tx A w A2 hO h).2⟩
  rcases h with ⟨-, -, rfl⟩ | ⟨e, -, rfl⟩
  · exact Or.inl hO
  · have k8 := (kpA_w hO).2.2.2.2.2.2.1.trans e
    have hO1 := o_keep hO
    unfold toA
    by_cases q : kpA A 103 = kpA A (10 + 18 * kpA A 101)
    · rw [if_pos q]
      exact Or.inr ⟨o_down (o_se hO1) hB, rfl⟩
    · rw [if_neg q]
      exact Or.inl (o_cn (o_ad hO1 k8 q))
theorem o_rpn {B : Nat} {tx : Nat → Int32} : ∀ (n : Nat) (A : Nat → Nat) (v : Int32) (A2 : Nat → Nat), Okk B A → rpT T_night1 n tx A v A2 → Okk B A2 ∧ A2 3 = A 3
  | 0, A, v, A2, hO, h => by
    obtain ⟨-, rfl⟩ := h
    exact ⟨hO, rfl⟩
  | n + 1, A, v, A2, hO, h => by
    rcases h with ⟨h, -⟩ | ⟨A1, h1, h2⟩
    · exact o_night1 B tx A 0 A2 hO h
    · obtain ⟨q1, q2⟩ := o_night1 B tx A 1 A1 hO h1
      obtain ⟨r1, r2⟩ := o_rpn n A1 v A2 q1 h2
      exact ⟨r1, r2.trans q2⟩
theorem o_cl1 {B i k : Nat} {tx : Nat → Int32} {A A2 : Nat → Nat} {v : Int32} (hB : B + 1 ≤ 1000000) (hO : Okk B A) (h : clT i k tx A v A2) : Okk (B + 1) A2 ∧ A2 3 = A 3 := by
  obtain ⟨s, n, -, -, h1, h2, hr⟩ := h
  have fin : Bnd B A2 ∧ A2 3 = A 3 → Okk (B + 1) A2 ∧ A2 3 = A 3 := fun q => by
    refine ⟨?_, q.2⟩
    rcases q.1 with z | ⟨z, -⟩
    · exact z.mn (Nat.le_succ B) hB
    · exact z
  by_cases q : mny s
  · rcases q with rfl | rfl | rfl
    · refine fin (o_rpw (T := dnT T_step) (b_step hB) (fun A v A2 e t => ?_) n A v A2 (Or.inl hO) hr)
      obtain ⟨w, ⟨-, -, t⟩ | ⟨e2, -⟩, -⟩ := t
      · exact t
      · exact absurd (e.symm.trans e2) (by omega)
    · refine fin (o_rpw (T := dnT T_toe) (b_toe hB) (fun A v A2 e t => ?_) n A v A2 (Or.inl hO) hr)
      obtain ⟨w, ⟨-, -, t⟩ | ⟨e2, -⟩, -⟩ := t
      · exact t
      · exact absurd (e.symm.trans e2) (by omega)
    · obtain ⟨z1, z2⟩ := o_rpn n A v A2 hO hr
      exact ⟨z1.mn (Nat.le_succ B) hB, z2⟩
  · have z := h2 q
    subst z
    exact o_done B s _ _ _ hB tx A v A2 hO (rpT_1 hr)
theorem o_pl {i : Nat} {tx : Nat → Int32} : ∀ (m k B : Nat) (A : Nat → Nat) (v : Int32) (A2 : Nat → Nat), B + m ≤ 1000000 → Okk B A → plT i m k tx A v A2 → Okk (B + m) A2 ∧ A2 3 = A 3
  | 0, k, B, A, v, A2, _, hO, h => by
    obtain ⟨-, rfl⟩ := h
    exact ⟨hO, rfl⟩
  | m + 1, k, B, A, v, A2, hB, hO, h => by
    rcases h with ⟨h, -⟩ | ⟨A1, h1, h2⟩
    · obtain ⟨q1, q2⟩ := o_cl1 (by omega) hO h
      exact ⟨q1.mn (by omega) hB, q2⟩
    · obtain ⟨q1, q2⟩ := o_cl1 (by omega) hO h1
      obtain ⟨r1, r2⟩ := o_pl m (k + 1) (B + 1) A1 v A2 (by omega) q1 h2
      exact ⟨r1.mn (by omega) hB, r2.trans q2⟩
theorem o_played (B : Nat) (a : Int32) (hB : B + 24 ≤ 1000000) : TOk B (B + 24) (T_played a) := by
  intro t A v A2 hO h
  rcases h with ⟨-, -, rfl⟩ | ⟨i, cl, -, -, hcl, -, h⟩
  · exact ⟨hO.mn (by omega) hB, rfl⟩
  · obtain ⟨q1, q2⟩ := o_pl cl 0 B A v A2 (by omega) hO h
    exact ⟨q1.mn (by omega) hB, q2⟩
theorem k_played {L B : Nat} {X : Nat → Int32} {M : fM} {a : Int32} {φ : Int32 → fM → Prop} (hB : B + 2376 ≤ 1000000) (hI : Inv L X B M) (hz : ∀ v M1, Mid L X (B + 24) (fun M φ => w_X11_played 70 a M φ) v M1 → φ v M1) : w_X10_played 6 a M φ := k_of (w := fun M φ => w_X10_played 6 a M φ) (c_played L B a hB) (m_played L B a hB) (o_played B a (by omega)) (Nat.le_add_right B 24) hI hz
