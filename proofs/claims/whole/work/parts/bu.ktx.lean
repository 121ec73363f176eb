theorem PTL_18 : ∀ t ∈ PTL, t.1 ≠ 18 := by decide +kernel
theorem Str.wP18 {L k : Nat} {v : Option Nat} {M : fM} (h : Str L M) : Str L (wP M 18 k v) := by
  refine ⟨h.1, fun t ht => ?_⟩
  show (if t.1 = 18 ∧ t.2.1 = k then v else mP M t.1 t.2.1) = some t.2.2
  rw [if_neg (fun c => PTL_18 t ht c.1)]
  exact h.2 t ht
theorem c_keepT {L a o : Nat} {M : fM} {φ : Int32 → fM → Prop} (hS : Str L M) (h14 : mI M 10 14 = nI a) (ha : a < 4) (ho : isO M o 8) (hz : φ (nI a) (wI (wP M 18 a (some o)) 10 14 (nI (a + 1)))) : w_X5_keepText 10 o M φ := by
  refine ⟨isO_pt hS (by decide) rfl, dR_of (Str.pg hS rfl) (lenA_of (Str.sh hS 17 _ rfl) ?_)⟩
  rw [h14]
  refine iF_t ((nIlt (b := 4) (by omega) (by omega)).mpr ha) (dR_of (Str.pg hS rfl) ⟨by omega, inA_pt hS rfl (vp_nI (by omega) (by decide)), ho, st_of (nm_of (st_of ?_))⟩)
  rw [ix_nI (by omega), show mI (wP M 18 a (some o)) 10 14 = nI a from h14, show nI a + (1 : Int32) = nI (a + 1) from nI_add _ 1, show mI (wI (wP M 18 a (some o)) 10 14 (nI (a + 1))) 10 14 = nI (a + 1) from mI_s rfl rfl, nI_s1]
  exact hz
set_option maxHeartbeats 2000000 in
theorem k_text {L B : Nat} {X : Nat → Int32} {M : fM} {φ : Int32 → fM → Prop} (hI : Inv L X B M) (hz : ∀ v M1, Mid L X B (fun M φ => w_X11_text 70 M φ) v M1 → φ v M1) : w_X10_text 6 M φ := by
  have hI0 := hI
  obtain ⟨A, A', nx, nx', tl, tp, hI⟩ := hI
  obtain ⟨hS, hX, hC, hM, hK, hMK, hO, hO', hTp, hFl, hTx⟩ := id hI
  have h82 := hS.n82
  have s14 : mI M 10 14 = nI (A 3) := hC.2.2.1.2.2.2.2.2.1
  have m3 : mI M 71 3 = nI (A 3) := hM.1 3 (by omega) (by omega)
  have a4 : A 3 ≤ 4 := hO.1.2.2.2.1
  obtain ⟨htl, t46, t70, tps⟩ := hTp
  refine ⟨isO_pt hS (by decide) rfl, dR_of (Str.pg hS rfl) ⟨isO_pt hS (by decide) rfl, ?_⟩⟩
  rw [s14]
  by_cases lt : A 3 < 4
  · refine iF_t ((nIlt (b := 4) (by omega) (by omega)).mpr lt) (dR_of (Str.pg hS rfl) ⟨isO_pt hS (by decide) rfl, c_rd (tl := tl) (tp := tp) htl hS hX ⟨t46, fun k hk => ⟨(tps k hk).1, (tps k hk).2.1⟩⟩ (fun M2 n CL E i f2 cc wf e8 e52 hE3 e0 e1 ch he => ?_) (fun M2 f k f2 e0 e1 hf cf => ?_)⟩)
    · have hS2 := f2.S hS
      refine c_r92 hS2 e8 cc.1 hE3 wf.1 fun M3 nt => ?_
      obtain ⟨g3, n3, so, sp, s1, s2, s3, s4, s5, v1, v2, v3, v4, v5⟩ := nt
      have hS3 := g3.S hS2
      have n2 : mN M2 = mN M := by
        unfold mN
        rw [f2.1]
      have i14 : ∀ M', GX pNo M2 M' → mI M' 10 14 = nI (A 3) := fun M' g => (g.2.2.1 10 14 (by omega) (fun c => c)).trans ((f2.2 10 14 (by unfold pK; omega)).trans s14)
      refine ⟨isO_pt hS3 (by decide) rfl, dR_of (Str.pg hS3 rfl) ⟨isO_pt hS3 (by decide) rfl, st_of (gN_of rfl ?_)⟩⟩
      have hS4 : Str L (wI M3 46 1 (0 : Int32)) := hS3
      refine dR_of (Str.pg hS4 rfl) ⟨isO_pt hS4 (by decide) rfl, c_keepT (a := A 3) hS4 ((mI_n (by omega)).trans (i14 M3 g3)) lt ⟨by omega, 5, so⟩ ?_⟩
      have hS5 : Str L (wI (wP (wI M3 46 1 (0 : Int32)) 18 (A 3) (some (mN M2))) 10 14 (nI (A 3 + 1))) := (Str.wP18 hS4 : Str L (wP (wI M3 46 1 (0 : Int32)) 18 (A 3) (some (mN M2))))
      have i5 : ∀ r k, ¬ (r = 46 ∧ k = 1) → ¬ (r = 10 ∧ k = 14) → mI (wI (wP (wI M3 46 1 (0 : Int32)) 18 (A 3) (some (mN M2))) 10 14 (nI (A 3 + 1))) r k = mI M3 r k := fun r k h1 h2 => (mI_n (by omega)).trans (mI_n (by omega))
      have p5 : ∀ r k, ¬ (r = 18 ∧ k = A 3) → mP (wI (wP (wI M3 46 1 (0 : Int32)) 18 (A 3) (some (mN M2))) 10 14 (nI (A 3 + 1))) r k = mP M3 r k := fun r k h => if_neg h
      have p18 : mP (wI (wP (wI M3 46 1 (0 : Int32)) 18 (A 3) (some (mN M2))) 10 14 (nI (A 3 + 1))) 18 (A 3) = some (mN M2) := if_pos ⟨rfl, rfl⟩
      have i46 : mI (wI (wP (wI M3 46 1 (0 : Int32)) 18 (A 3) (some (mN M2))) 10 14 (nI (A 3 + 1))) 46 1 = 0 := (mI_n (by omega)).trans (show mI (wI M3 46 1 (0 : Int32)) 46 1 = 0 from mI_s rfl rfl)
      have i1014 : mI (wI (wP (wI M3 46 1 (0 : Int32)) 18 (A 3) (some (mN M2))) 10 14 (nI (A 3 + 1))) 10 14 = nI (A 3 + 1) := mI_s rfl rfl
      have j5 : ∀ r k, mJ (wI (wP (wI M3 46 1 (0 : Int32)) 18 (A 3) (some (mN M2))) 10 14 (nI (A 3 + 1))) r k = mJ M3 r k := fun r k => rfl
      have z5 : ∀ r, mS (wI (wP (wI M3 46 1 (0 : Int32)) 18 (A 3) (some (mN M2))) 10 14 (nI (A 3 + 1))) r = mS M3 r := fun r => rfl
      have n5 : mN (wI (wP (wI M3 46 1 (0 : Int32)) 18 (A 3) (some (mN M2))) 10 14 (nI (A 3 + 1))) = mN M3 := rfl
      generalize wI (wP (wI M3 46 1 (0 : Int32)) 18 (A 3) (some (mN M2))) 10 14 (nI (A 3 + 1)) = M5 at hS5 i5 p5 p18 i46 i1014 j5 z5 n5 ⊢
      have gy : GY (A 3) M M5 := by
        refine ⟨fun r hr => ?_, ?_, fun r k hr hp => ?_, fun r k hr hp => ?_, fun r k hr _ => ?_⟩
        · rw [z5, g3.1 r (by omega)]
          unfold mS
          rw [f2.1]
        · omega
        · rw [i5 r k (by unfold pZ at hp; omega) (by unfold pZ at hp; omega), g3.2.2.1 r k (by omega) (fun c => c), f2.2 r k (by unfold pZ at hp; unfold pK; omega)]
        · rw [p5 r k (by omega), g3.2.2.2.1 r k (by omega)]
          unfold mP
          rw [f2.1]
        · rw [j5, g3.2.2.2.2 r k (by omega)]
          unfold mJ
          rw [f2.1]
      have i5o : ∀ r k, r < 82 → ¬ pZ (A 3) r k → mI M5 r k = mI M r k := fun r k hr hp => gy.2.2.1 r k (by omega) hp
      have i5n : ∀ q k, q < 6 → mI M5 (mN M2 + q) k = mI M3 (mN M2 + q) k := fun q k hq => i5 _ k (by omega) (by omega)
      refine hz (nI (A 3)) M5 ⟨hS5, hX.cg (fun q hq k => i5o q k (by omega) (by unfold pZ; omega)) (fun k => gy.2.2.2.2 2 k (by omega) (by omega)), fun Ψ hΨ => ?_⟩
      refine m_txK (tp := tp) hS5 htl ?_ lt ⟨?_, fun k hk => ⟨(tps k hk).1, ?_⟩⟩ ch he fun M6 f6 k5 k6 k4 k3 k73 kc km => hΨ M6 ?_
      · rw [i5 71 3 (by omega) (by omega), g3.2.2.1 71 3 (by omega) (fun c => c), f2.2 71 3 (by unfold pK; omega)]
        exact m3
      · rw [i5 70 4 (by omega) (by omega), g3.2.2.1 70 4 (by omega) (fun c => c), f2.2 70 4 (by unfold pK; omega)]
        exact t70
      · rw [i5 74 k (by omega) (by omega), g3.2.2.1 74 k (by omega) (fun c => c), f2.2 74 k (by unfold pK; omega)]
        exact (tps k hk).2.2
      · have g6 : GY (A 3) M5 M6 := f6.y fun r k h => by unfold pW at h; unfold pZ; omega
        have w6 : ∀ q k, q < 6 → mI M6 (mN M2 + q) k = mI M3 (mN M2 + q) k := fun q k hq => (f6.2.1 _ k (by unfold pW; omega)).trans (i5n q k hq)
        have q6 : ∀ r k, mP M6 r k = mP M5 r k := fun r k => by
          unfold mP
          rw [f6.1]
        have z6 : ∀ r, mS M6 r = mS M5 r := fun r => by
          unfold mS
          rw [f6.1]
        have c01 : ∀ q, q < 2 → mI M6 51 q = mI M2 51 q := fun q hq => (f6.2.1 51 q (by unfold pW; omega)).trans ((i5 51 q (by omega) (by omega)).trans (g3.2.2.1 51 q (by omega) (fun c => c)))
        have tr : TxR M6 18 (A 3) := by
          refine ⟨mN M2, mN M2 + 1, mN M2 + 2, mN M2 + 3, mN M2 + 4, mN M2 + 5, E, CL.length, (q6 _ _).trans p18, by omega, (z6 _).trans ((z5 _).trans so), ?_, ?_, ?_, ?_, ?_, by omega, by omega, by omega, by omega, by omega, (z6 _).trans ((z5 _).trans s1), (z6 _).trans ((z5 _).trans s2), (z6 _).trans ((z5 _).trans s3), (z6 _).trans ((z5 _).trans s4), (z6 _).trans ((z5 _).trans s5), ?_⟩
          · exact (q6 _ _).trans ((p5 _ _ (by omega)).trans (sp 0 (by omega)))
          · exact (q6 _ _).trans ((p5 _ _ (by omega)).trans (sp 1 (by omega)))
          · exact (q6 _ _).trans ((p5 _ _ (by omega)).trans (sp 2 (by omega)))
          · exact (q6 _ _).trans ((p5 _ _ (by omega)).trans (sp 3 (by omega)))
          · exact (q6 _ _).trans ((p5 _ _ (by omega)).trans (sp 4 (by omega)))
          · obtain ⟨cc9, ccA, ccB⟩ := cc
            refine TxC.mk0 wf hE3 (fun j x hx => ?_) (fun k c hk => ?_) (fun s hs hc => ?_) k73 (fun j x hx => ?_) fun k c hk => ?_
            · rw [w6 1 j (by omega), v1 j (List.getElem?_eq_some_iff.mp hx).1]
              exact e52 j x hx
            · have hkl := (List.getElem?_eq_some_iff.mp hk).1
              obtain ⟨b1, b2, b3⟩ := ccA k c hk
              refine ⟨?_, fun l5 => ?_, fun ge j hj => ?_⟩
              · rw [w6 4 k (by omega), v4 k hkl]
                exact b1
              · rw [w6 2 _ (by omega), v2 _ l5, w6 3 _ (by omega), v3 _ l5]
                exact b2 l5
              · have an : arN c.1 ≤ 3 := by
                  unfold arN
                  repeat' split
                  all_goals omega
                rw [w6 5 _ (by omega), v5 _ (by omega)]
                exact b3 ge j hj
            · rw [w6 3 s (by omega), v3 s hs]
              exact ccB s hs hc
            · have q := kc j x hx
              rw [show 705 * A 3 + (97 + 2 * j) = 705 * A 3 + 97 + 2 * j by omega, show 705 * A 3 + (98 + 2 * j) = 705 * A 3 + 98 + 2 * j by omega]
              exact q
            · obtain ⟨b1, b2, b3⟩ := km k c hk
              refine ⟨?_, fun l5 => ?_, fun ge j hj => ?_⟩
              · rw [show 705 * A 3 + (1 + 4 * k) = 705 * A 3 + 1 + 4 * k by omega]
                exact b1
              · rw [show 705 * A 3 + (3 + 4 * k) = 705 * A 3 + 3 + 4 * k by omega, show 705 * A 3 + (4 + 4 * k) = 705 * A 3 + 4 + 4 * k by omega]
                exact b2 l5
              · rw [show 705 * A 3 + (2 + 4 * k + j) = 705 * A 3 + 2 + 4 * k + j by omega]
                exact b3 ge j hj
        exact hI.tx (w := A 3 + 1) (f6.S hS5) (gy.tr g6) (Or.inr ⟨rfl, lt, tr⟩) ((f6.2.1 10 14 (by unfold pW; omega)).trans i1014) k3 ((f6.2.1 46 1 (by unfold pW; omega)).trans i46) k4 ⟨(c01 0 (by omega)).trans (e0.trans k5.symm), (c01 1 (by omega)).trans (e1.trans k6.symm)⟩
    · have hS2 := f2.S hS
      refine ⟨isO_pt hS2 (by decide) rfl, dR_of (Str.pg hS2 rfl) ⟨isO_pt hS2 (by decide) rfl, st_of (gN_no rfl ?_)⟩⟩
      have f3 : FrX (pZ (A 3)) M (wI M2 46 1 (0 : Int32)) := (f2.mn fun r k h => by unfold pK at h; unfold pZ; omega).tr (FrX.w (Or.inl ⟨rfl, Or.inl rfl⟩))
      have hS3 := f3.S hS
      have c0 : mI (wI M2 46 1 (0 : Int32)) 51 0 = nI f := (mI_n (by omega)).trans e0
      have c1 : mI (wI M2 46 1 (0 : Int32)) 51 1 = nI (poS tp tl k) := (mI_n (by omega)).trans e1
      have c46 : mI (wI M2 46 1 (0 : Int32)) 46 1 = 0 := mI_s rfl rfl
      have o3 : ∀ r k, ¬ pK r k → ¬ (r = 46 ∧ k = 1) → mI (wI M2 46 1 (0 : Int32)) r k = mI M r k := fun r k h1 h2 => (mI_n (by omega)).trans (f2.2 r k h1)
      generalize wI M2 46 1 (0 : Int32) = M3 at f3 hS3 c0 c1 c46 o3 ⊢
      refine hz (-1) M3 ⟨hS3, hX.cg (fun q hq k => o3 q k (by unfold pK; omega) (by omega)) (fun k => by unfold mJ; rw [f3.1]), fun Ψ hΨ => ?_⟩
      refine m_txF (tp := tp) hS3 htl ((o3 71 3 (by unfold pK; omega) (by omega)).trans m3) lt ⟨(o3 70 4 (by unfold pK; omega) (by omega)).trans t70, fun k hk => ⟨(tps k hk).1, (o3 74 k (by unfold pK; omega) (by omega)).trans (tps k hk).2.2⟩⟩ hf cf fun M6 f6 k5 k6 k4 k3 => hΨ M6 ?_
      have g6 : GY (A 3) M3 M6 := f6.y fun r k h => by unfold pW at h; unfold pZ; omega
      have g3 : GY (A 3) M M3 := (FG.x (P := pZ (A 3)) f3).y fun r k h => h
      refine hI.tx (w := A 3) (f6.S hS3) (g3.tr g6) (Or.inl ⟨rfl, ?_⟩) ?_ k3 ((f6.2.1 46 1 (by unfold pW; omega)).trans c46) k4 ⟨(f6.2.1 51 0 (by unfold pW; omega)).trans (c0.trans k5.symm), (f6.2.1 51 1 (by unfold pW; omega)).trans (c1.trans k6.symm)⟩
      · unfold mP
        rw [f6.1, f3.1]
      · rw [f6.2.1 10 14 (by unfold pW; omega), o3 10 14 (by unfold pK; omega) (by omega)]
        exact s14
  · refine iF_f (fun c => lt ((nIlt (b := 4) (by omega) (by omega)).mp c)) (hz (-1) M ⟨hS, hX, fun Ψ hΨ => ⟨isO_pt hS (by decide) rfl, dR_of (Str.pg hS rfl) ⟨inA_pt hS rfl (vp_nI (n := 3) (by omega) (by decide)), ?_⟩⟩⟩)
    rw [show ix (3 : Int32) = 3 from rfl, m3]
    exact iF_t (by rw [show A 3 = 4 by omega]; rfl) (hΨ M hI0)
