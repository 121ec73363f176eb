theorem ddN_1 {T V : Nat → Nat} {so p j : Nat} (h : so = 13 ∨ so = 14 ∨ so = 16) (hd : ddN T V (shD so) p = (0, j)) : 1 ≤ V p ∧ V p ≤ 99 := by
  obtain ⟨hi, e, e2⟩ : ∃ hi, shD so = [(1, hi, 99)] ∧ hi ≤ 99 := by
    rcases h with h | h | h
    · exact ⟨20, by rw [h]; rfl, by decide⟩
    · exact ⟨20, by rw [h]; rfl, by decide⟩
    · exact ⟨99, by rw [h]; rfl, by decide⟩
  rw [e] at hd
  have hd : (if T p ≠ 60 then (1, p) else if V p < 1 ∨ hi < V p then (2, p) else if (99 : Nat) = 99 then ddN T V [] (p + 1) else if T (p + 1) = 99 then ddN T V [] (p + 2) else (1, p + 1)) = (0, j) := hd
  by_cases a : T p ≠ 60
  · rw [if_pos a] at hd
    exact absurd (congrArg Prod.fst hd) (show ¬ (1 : Nat) = 0 by decide)
  · rw [if_neg a] at hd
    by_cases b : V p < 1 ∨ hi < V p
    · rw [if_pos b] at hd
      exact absurd (congrArg Prod.fst hd) (show ¬ (2 : Nat) = 0 by decide)
    · omega
theorem clF_l {V : Nat → Nat} {n m so i : Nat} (h : so < 5) : clF V n m so i 1 = n ∧ clF V n m so i 2 = m := by
  unfold clF
  rw [if_pos h, if_pos h, if_pos rfl, if_neg (by decide)]
  exact ⟨rfl, rfl⟩
theorem clF_d {V : Nat → Nat} {n m so i k : Nat} (h : 5 ≤ so) : clF V n m so i k = V (i + 2 * k) := if_neg (by omega)
set_option maxHeartbeats 1000000 in
theorem c_cls {L tl i : Nat} {X : Nat → Int32} {tp : Nat → Nat} {E : List (Nat × Nat)} {CL : List Cl} {M : fM} {φ : Int32 → fM → Prop} (htl : tl ≤ 300) (hS : Str L M) (hX : Sts X M) (hA : ArC M tp tl) (rs : RS M tp tl E i) (cc : CcA M CL) (wf : WfC CL E) (hE : E.length ≤ i) (hz1 : ∀ M2 em j, FrX pCl M M2 → RS M2 tp tl (E ++ em) (j + 1) → CcA M2 (CL ++ [cla (TKk tp tl) (TKv tp tl) E em i]) → WfC (CL ++ [cla (TKk tp tl) (TKv tp tl) E em i]) (E ++ em) → (E ++ em).length ≤ j + 1 → i < j + 1 → ClR (TKk tp tl) (TKv tp tl) CL i em j → (∀ q, q < 2 → mI M2 51 q = mI M 51 q) → φ 1 M2) (hz0 : ∀ M2 f k, FrX pCl M M2 → mI M2 51 0 = nI f → mI M2 51 1 = nI (poS tp tl k) → (1 ≤ f ∧ f ≤ 6) → ClF (TKk tp tl) (TKv tp tl) CL i f k → φ 0 M2) : w_X4_readClause 51 M φ := by
  have kb : TKk tp tl i ≤ 62 := tkK_b _ _ _
  obtain ⟨c9, cA, cB⟩ := cc
  have wl := wf.1
  refine ⟨isO_pt hS (by decide) rfl, nm_of ?_⟩
  rw [rs.2.1]
  refine iF_f (fun c => absurd ((nIlt (b := 0) (by omega) (by omega)).mp c) (by omega)) ?_
  have j81 : ∀ (M2 : fM) (em : List (Nat × Nat)) (j : Nat), unS (TKk tp tl) CL i → CL.length < 24 → FrX pCl M M2 → RS M2 tp tl (E ++ em) j → Bdy (TKk tp tl) (TKv tp tl) (TKk tp tl i) (i + 1) em j → em.length + (i + 1) ≤ j → mI M2 51 9 = nI CL.length → (∀ (k : Nat) (c : Cl), CL[k]? = some c → mI M2 55 k = nI c.1 ∧ (c.1 < 5 → mI M2 53 c.1 = nI (c.2 1) ∧ mI M2 54 c.1 = nI (c.2 2)) ∧ (5 ≤ c.1 → ∀ j, j < arN c.1 → mI M2 56 (3 * k + j) = nI (c.2 j))) → (∀ s, s < 5 → s ≠ TKk tp tl i → (∀ c ∈ CL, c.1 ≠ s) → mI M2 54 s = 0) → (TKk tp tl i < 5 → mI M2 53 (TKk tp tl i) = nI E.length ∧ mI M2 54 (TKk tp tl i) = nI (E ++ em).length ∧ 0 < em.length ∧ cdOk (TKk tp tl i) em) → (5 ≤ TKk tp tl i → ∀ q, q < arN (TKk tp tl i) → mI M2 56 (3 * CL.length + q) = nI (TKv tp tl (i + 1 + 2 * q))) → (∀ q, q < 2 → mI M2 51 q = mI M 51 q) → j_X4_readClause_81 φ 51 (nI (TKk tp tl i)) (1 : Int32) M2 := by
    intro M2 em j hu hl f r bd hij h9 hA2 hB2 hN5 hN6 h01
    have hS2 := f.S hS
    refine iF_f (by decide) ⟨isO_pt hS2 (by decide) rfl, c_pass (t := 52) hS2 (hA.c f) htl r rfl (by omega) (fun e M3 f3 r3 => iF_f (by decide) ?_) (fun e M3 f3 e0 e1 => iF_t rfl (hz0 M3 1 j (f.tr f3.rC) e0 e1 (by omega) (Or.inr (Or.inr (Or.inr ⟨hu, hl, Or.inr (Or.inr ⟨em, bd, e, rfl⟩)⟩)))))⟩
    have hS3 := f3.S hS2
    have g9 : mI M3 51 9 = nI CL.length := (f3.2 51 9 (by unfold pO; omega)).trans h9
    refine ⟨isO_pt hS3 (by decide) rfl, dR_of (Str.pg hS3 rfl) (c_putN (k := CL.length) (by omega) (Str.sh hS3 54 _ rfl) g9 (by omega) (by omega) ?_)⟩
    have f4 : FrX pCl M3 (wI M3 55 CL.length (nI (TKk tp tl i))) := FrX.w (Or.inr ⟨by omega, by omega⟩)
    have hS4 := f4.S hS3
    refine ⟨isO_pt hS4 (by decide) rfl, nm_of (st_of ?_)⟩
    rw [show mI (wI M3 55 CL.length (nI (TKk tp tl i))) 51 9 = nI CL.length from (mI_n (by omega)).trans g9, show nI CL.length + (1 : Int32) = nI (CL.length + 1) from nI_add _ 1]
    have o3 : ∀ r k, r = 53 ∨ r = 54 ∨ r = 56 → mI (wI (wI M3 55 CL.length (nI (TKk tp tl i))) 51 9 (nI (CL.length + 1))) r k = mI M2 r k := fun r k hr => (mI_n (by omega)).trans ((mI_n (by omega)).trans (f3.2 r k (by unfold pO; omega)))
    have ele : (E ++ em).length = E.length + em.length := List.length_append
    refine hz1 _ em j (((f.tr f3.oC).tr f4).tr (FrX.w (Or.inl ⟨rfl, by omega⟩))) ((r3.of fun r k h => mI_n (by unfold pO at h; omega)).of fun r k h => mI_n (by unfold pO at h; omega)) ⟨?_, fun k c hk => ?_, fun s hs hc => ?_⟩ ?_ (by omega) (by omega) ⟨hu, hl, bd, e, by omega⟩ fun q hq => (mI_n (by omega)).trans ((mI_n (by omega)).trans ((f3.2 51 q (by unfold pO; omega)).trans (h01 q hq)))
    · rw [mI_s rfl rfl, List.length_append]
      rfl
    · rcases get_snoc hk with ⟨l1, g1⟩ | ⟨l1, g1⟩
      · obtain ⟨a1, a2, a3⟩ := hA2 k c g1
        refine ⟨?_, fun lt => ?_, fun ge q hq => ?_⟩
        · rw [mI_n (by omega), mI_n (by omega), f3.2 55 k (by unfold pO; omega)]
          exact a1
        · rw [o3 53 _ (by omega), o3 54 _ (by omega)]
          exact a2 lt
        · rw [o3 56 _ (by omega)]
          exact a3 ge q hq
      · subst g1 l1
        refine ⟨?_, fun lt => ?_, fun ge q hq => ?_⟩
        · rw [mI_n (by omega), mI_s rfl rfl]
          rfl
        · have lt : TKk tp tl i < 5 := lt
          rw [o3 53 _ (by omega), o3 54 _ (by omega)]
          have cl := clF_l (V := TKv tp tl) (n := E.length) (m := (E ++ em).length) (i := i + 1) lt
          show mI M2 53 (TKk tp tl i) = nI (clF (TKv tp tl) E.length (E ++ em).length (TKk tp tl i) (i + 1) 1) ∧ mI M2 54 (TKk tp tl i) = nI (clF (TKv tp tl) E.length (E ++ em).length (TKk tp tl i) (i + 1) 2)
          rw [cl.1, cl.2]
          exact ⟨(hN5 lt).1, (hN5 lt).2.1⟩
        · have ge : 5 ≤ TKk tp tl i := ge
          have hq : q < arN (TKk tp tl i) := hq
          rw [o3 56 _ (by omega)]
          show _ = nI (clF (TKv tp tl) E.length (E ++ em).length (TKk tp tl i) (i + 1) q)
          rw [clF_d ge]
          exact hN6 ge q hq
    · rw [o3 54 _ (by omega)]
      exact hB2 s hs (fun c => hc _ (List.mem_append_right _ (List.mem_singleton.mpr rfl)) c.symm) fun c hm => hc c (List.mem_append_left _ hm)
    · refine wf.sn hl hu.1 hu.2 (fun lt => ?_) fun hn => ?_
      · have lt : TKk tp tl i < 5 := lt
        have cl := clF_l (V := TKv tp tl) (n := E.length) (m := (E ++ em).length) (i := i + 1) lt
        exact ⟨cl.1, cl.2, (hN5 lt).2.2.1, (hN5 lt).2.2.2⟩
      · have hn : TKk tp tl i = 13 ∨ TKk tp tl i = 14 ∨ TKk tp tl i = 16 := hn
        show 1 ≤ clF (TKv tp tl) E.length (E ++ em).length (TKk tp tl i) (i + 1) 0 ∧ clF (TKv tp tl) E.length (E ++ em).length (TKk tp tl i) (i + 1) 0 ≤ 99
        rw [clF_d (by omega)]
        rcases bd with bd | bd
        · omega
        · exact ddN_1 hn bd.2.2
  have j43 : unS (TKk tp tl) CL i → j_X4_readClause_43 φ 51 (nI (TKk tp tl i)) M := by
    intro hu
    have u16 := hu.1
    refine ⟨isO_pt hS (by decide) rfl, ?_⟩
    rw [c9]
    by_cases l24 : CL.length < 24
    · refine iF_t ((nIlt (b := 24) (by omega) (by omega)).mpr l24) (c_adv hS hA htl rs (by omega) fun M1 f1 r1 => ?_)
      have hS1 := f1.S hS
      have g9 : mI M1 51 9 = nI CL.length := (f1.2 51 9 (by unfold pO; omega)).trans c9
      by_cases ge : 5 ≤ TKk tp tl i
      · refine iF_t ((nIle (a := 5) (by omega) (by omega)).mpr ge) ⟨isO_pt hS1 (by decide) rfl, c_deed htl ge (by omega) l24 hS1 (f1.oC.cX hX) (hA.c f1.oC) r1 g9 (fun M2 j f2 r2 q2 d2 => ?_) (fun M2 f k f2 e0 e1 d2 fn => iF_t rfl (hz0 M2 f k (f1.oC.tr f2) e0 e1 ?_ (Or.inr (Or.inr (Or.inr ⟨hu, l24, Or.inr (Or.inl ⟨ge, d2⟩)⟩)))))⟩
        · have dg := (ddN_g (T := TKk tp tl) (V := TKv tp tl) (shD (TKk tp tl i)) (i + 1)).1
          rw [d2] at dg
          have dg : i + 1 ≤ j := dg
          refine j81 M2 [] j hu l24 (f1.oC.tr f2.dC) (by rw [List.append_nil]; exact r2) (Or.inr ⟨ge, rfl, d2⟩) (by show 0 + (i + 1) ≤ j; omega) ((f2.2 51 9 (by unfold pD pO; omega)).trans g9) (fun k c hk => ?_) (fun s hs hn hc => ?_) (fun lt => absurd lt (by omega)) (fun _ => q2) fun q hq => (f2.2 51 q (by unfold pD pO; omega)).trans (f1.2 51 q (by unfold pO; omega))
          · have hkl := (List.getElem?_eq_some_iff.mp hk).1
            obtain ⟨a1, a2, a3⟩ := cA k c hk
            refine ⟨?_, fun lt => ?_, fun ge2 q hq => ?_⟩
            · rw [f2.2 55 k (by unfold pD pO; omega), f1.2 55 k (by unfold pO; omega)]
              exact a1
            · rw [f2.2 53 _ (by unfold pD pO; omega), f1.2 53 _ (by unfold pO; omega), f2.2 54 _ (by unfold pD pO; omega), f1.2 54 _ (by unfold pO; omega)]
              exact a2 lt
            · have an := (shD_n c.1 (by have := (wf.2.1 c (List.mem_of_getElem? hk)).1; omega) ge2).2
              rw [f2.2 56 _ (by unfold pD pO; omega), f1.2 56 _ (by unfold pO; omega)]
              exact a3 ge2 q hq
          · rw [f2.2 54 _ (by unfold pD pO; omega), f1.2 54 _ (by unfold pO; omega)]
            exact cB s hs hc
        · have := (ddN_g (T := TKk tp tl) (V := TKv tp tl) (shD (TKk tp tl i)) (i + 1)).2
          rw [d2] at this
          have : f ≤ 2 := this
          omega
      · refine iF_f (fun c => ge ((nIle (a := 5) (by omega) (by omega)).mp c)) ⟨isO_pt hS1 (by decide) rfl, c_law htl (by omega) hS1 (hA.c f1.oC) r1 (by omega) (fun M2 em j f2 r2 e53 e54 hl hl0 cd lw h01 => ?_) (fun M2 f k f2 e0 e1 hf lw => iF_t rfl (hz0 M2 f k (f1.oC.tr f2.lC) e0 e1 (by omega) (Or.inr (Or.inr (Or.inr ⟨hu, l24, Or.inl ⟨by omega, lw⟩⟩)))))⟩
        refine j81 M2 em j hu l24 (f1.oC.tr f2.lC) r2 (Or.inl ⟨by omega, lw⟩) hl ((f2.2 51 9 (by unfold pL; omega)).trans g9) (fun k c hk => ?_) (fun s hs hn hc => ?_) (fun _ => ⟨e53, e54, hl0, cd⟩) (fun c => absurd c ge) fun q hq => (h01 q hq).trans (f1.2 51 q (by unfold pO; omega))
        · obtain ⟨a1, a2, a3⟩ := cA k c hk
          have hne : c.1 ≠ TKk tp tl i := hu.2 (by omega) c (List.mem_of_getElem? hk)
          refine ⟨?_, fun lt => ?_, fun ge2 q hq => ?_⟩
          · rw [f2.2 55 k (by unfold pL; omega), f1.2 55 k (by unfold pO; omega)]
            exact a1
          · rw [f2.2 53 _ (by unfold pL; omega), f1.2 53 _ (by unfold pO; omega), f2.2 54 _ (by unfold pL; omega), f1.2 54 _ (by unfold pO; omega)]
            exact a2 lt
          · rw [f2.2 56 _ (by unfold pL; omega), f1.2 56 _ (by unfold pO; omega)]
            exact a3 ge2 q hq
        · rw [f2.2 54 _ (by unfold pL; omega), f1.2 54 _ (by unfold pO; omega)]
          exact cB s hs hc
    · exact iF_f (fun c => l24 ((nIlt (b := 24) (by omega) (by omega)).mp c)) (c_flt (f := 6) hS hA htl rs rfl fun M2 f e0 e1 => ⟨isB0, hz0 M2 6 i f.rC e0 e1 (by omega) (Or.inr (Or.inr (Or.inl ⟨hu, by omega, rfl, rfl⟩)))⟩)
  by_cases h16 : TKk tp tl i ≤ 16
  · refine iF_t ((nIle (b := 16) (by omega) (by omega)).mpr h16) ?_
    by_cases ge : 5 ≤ TKk tp tl i
    · exact iF_t ((nIle (a := 5) (by omega) (by omega)).mpr ge) (j43 ⟨h16, fun c => absurd c (by omega)⟩)
    · refine iF_f (fun c => ge ((nIle (a := 5) (by omega) (by omega)).mp c)) (dR_of (Str.pg hS rfl) (c_cellN (k := TKk tp tl i) (Str.sh hS 53 _ rfl) rfl (by omega) (by omega) ?_))
      by_cases seen : ∃ x ∈ CL, x.1 = TKk tp tl i
      · obtain ⟨x, hx, ex⟩ := seen
        obtain ⟨k, hk⟩ := List.getElem?_of_mem hx
        have e54 := ((cA k x hk).2.1 (by omega)).2
        obtain ⟨w1, w2, w3⟩ := (wf.2.1 x hx).2.1 (by omega)
        have hi := lvT_l rs.2.2.2.2.2
        rw [← ex, e54, ex]
        refine iF_f (fun c => absurd ((nIle (b := 0) (by omega) (by omega)).mp c) (by omega)) ⟨isO_pt hS (by decide) rfl, c_flt (f := 4) hS hA htl rs rfl fun M2 f e0 e1 => ⟨isB0, hz0 M2 4 i f.rC e0 e1 (by omega) (Or.inr (Or.inl ⟨by omega, ⟨x, hx, ex⟩, rfl, rfl⟩))⟩⟩
      · have hn : ∀ x ∈ CL, x.1 ≠ TKk tp tl i := fun x hx e => seen ⟨x, hx, e⟩
        rw [cB _ (by omega) hn]
        exact iF_t (by decide) (j43 ⟨h16, fun _ => hn⟩)
  · exact iF_f (fun c => h16 ((nIle (b := 16) (by omega) (by omega)).mp c)) ⟨isO_pt hS (by decide) rfl, c_flt (f := 1) hS hA htl rs rfl fun M2 f e0 e1 => ⟨isB0, hz0 M2 1 i f.rC e0 e1 (by omega) (Or.inl ⟨by omega, rfl, rfl⟩)⟩⟩
