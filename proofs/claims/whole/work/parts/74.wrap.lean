theorem B_stair {t : Nat → Int32} {A A2 : Nat → Nat} {v : Int32} {a b : Int32} (h : T_stair a b t A v A2) : isB v := by
  unfold T_stair at h
  rcases h with ⟨-, rfl, -⟩ | ⟨h, -, -, h⟩
  · rfl
  · grind [isB0, isB1]
theorem k_stair {L B : Nat} {X : Nat → Int32} {M : fM} {a b : Int32} {φ : Int32 → fM → Prop} (hI : Inv L X B M) (hz : ∀ v M1, Mid L X B (fun M φ => w_X11_stair 70 a b M φ) v M1 → φ v M1) : w_X10_stair 6 a b M φ := by
  refine k_of (w := fun M φ => w_X10_stair 6 a b M φ) (fun M A nx φ hS hC hO hT hz => ?_) (m_stair L B a b) (o_stair B a b) (Nat.le_refl B) hI hz
  show w_X10_stair 6 a b M φ
  exact ⟨isO_pt hS (by decide) rfl, dR_of (Str.pg hS rfl) ⟨isO_pt hS (by decide) rfl, c_stair L B a b M A nx _ hS hC hO hT fun v A2 nx2 M2 h f c2 => ⟨B_stair h, hz v A2 nx2 M2 h f c2⟩⟩⟩
theorem B_height {t : Nat → Int32} {A A2 : Nat → Nat} {v : Int32} {a b c : Int32} (h : T_height a b c t A v A2) : isB v := by
  unfold T_height at h
  rcases h with ⟨-, rfl, -⟩ | ⟨h, -, -, h⟩
  · rfl
  · grind [isB0, isB1]
theorem k_height {L B : Nat} {X : Nat → Int32} {M : fM} {a b c : Int32} {φ : Int32 → fM → Prop} (hI : Inv L X B M) (hz : ∀ v M1, Mid L X B (fun M φ => w_X11_height 70 a b c M φ) v M1 → φ v M1) : w_X10_height 6 a b c M φ := by
  refine k_of (w := fun M φ => w_X10_height 6 a b c M φ) (fun M A nx φ hS hC hO hT hz => ?_) (m_height L B a b c) (o_height B a b c) (Nat.le_refl B) hI hz
  show w_X10_height 6 a b c M φ
  exact ⟨isO_pt hS (by decide) rfl, dR_of (Str.pg hS rfl) ⟨isO_pt hS (by decide) rfl, c_height L B a b c M A nx _ hS hC hO hT fun v A2 nx2 M2 h f c2 => ⟨B_height h, hz v A2 nx2 M2 h f c2⟩⟩⟩
theorem B_mark {t : Nat → Int32} {A A2 : Nat → Nat} {v : Int32} {a b c : Int32} (h : T_mark a b c t A v A2) : isB v := by
  unfold T_mark at h
  rcases h with ⟨-, rfl, -⟩ | ⟨h, -, -, h⟩
  · rfl
  · grind [isB0, isB1]
theorem k_mark {L B : Nat} {X : Nat → Int32} {M : fM} {a b c : Int32} {φ : Int32 → fM → Prop} (hc01 : c.toInt = 0 ∨ c.toInt = 1) (hI : Inv L X B M) (hz : ∀ v M1, Mid L X B (fun M φ => w_X11_mark 70 a b c M φ) v M1 → φ v M1) : w_X10_mark 6 a b c M φ := by
  refine k_of (w := fun M φ => w_X10_mark 6 a b c M φ) (fun M A nx φ hS hC hO hT hz => ?_) (m_mark L B a b c) (o_mark B a b c) (Nat.le_refl B) hI hz
  show w_X10_mark 6 a b c M φ
  exact ⟨isO_pt hS (by decide) rfl, dR_of (Str.pg hS rfl) ⟨isO_pt hS (by decide) rfl, c_mark L B a b c hc01 M A nx _ hS hC hO hT fun v A2 nx2 M2 h f c2 => ⟨B_mark h, hz v A2 nx2 M2 h f c2⟩⟩⟩
theorem B_rail {t : Nat → Int32} {A A2 : Nat → Nat} {v : Int32} {a b : Int32} (h : T_rail a b t A v A2) : isB v := by
  unfold T_rail at h
  rcases h with ⟨-, rfl, -⟩ | ⟨h, -, -, h⟩
  · rfl
  · grind [isB0, isB1]
theorem k_rail {L B : Nat} {X : Nat → Int32} {M : fM} {a b : Int32} {φ : Int32 → fM → Prop} (hI : Inv L X B M) (hz : ∀ v M1, Mid L X B (fun M φ => w_X11_rail 70 a b M φ) v M1 → φ v M1) : w_X10_rail 6 a b M φ := by
  refine k_of (w := fun M φ => w_X10_rail 6 a b M φ) (fun M A nx φ hS hC hO hT hz => ?_) (m_rail L B a b) (o_rail B a b) (Nat.le_refl B) hI hz
  show w_X10_rail 6 a b M φ
  exact ⟨isO_pt hS (by decide) rfl, dR_of (Str.pg hS rfl) ⟨isO_pt hS (by decide) rfl, c_rail L B a b M A nx _ hS hC hO hT fun v A2 nx2 M2 h f c2 => ⟨B_rail h, hz v A2 nx2 M2 h f c2⟩⟩⟩
theorem k_person {L B : Nat} {X : Nat → Int32} {M : fM} {a b c : Int32} {φ : Int32 → fM → Prop} (hI : Inv L X B M) (hz : ∀ v M1, Mid L X B (fun M φ => w_X11_person 70 a b c M φ) v M1 → φ v M1) : w_X10_person 6 a b c M φ := by
  refine k_of (w := fun M φ => w_X10_person 6 a b c M φ) (fun M A nx φ hS hC hO hT hz => ?_) (m_person L B a b c) (o_person B a b c) (Nat.le_refl B) hI hz
  show w_X10_person 6 a b c M φ
  exact ⟨isO_pt hS (by decide) rfl, dR_of (Str.pg hS rfl) ⟨isO_pt hS (by decide) rfl, c_person L B a b c M A nx _ hS hC hO hT hz⟩⟩
