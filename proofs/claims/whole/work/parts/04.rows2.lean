/-! ===== the flat machine: fields and arrays ===== -/
def tyC : FieldType → Nat
  | .int => 0
  | .long => 1
  | .boolean => 3
  | .object _ => 2
  | .array _ => 2
  | _ => 9
def clsOK (q : vw_C) (kd : Nat) : Prop := (∀ w ∈ u_ws q.1 q.2.1 q.2.2, w ∈ WS) ∧ (∀ a, a < q.2.2 → ∀ b, b < q.2.2 → a ≠ b → (q.2.1 a).2.1 ≠ (q.2.1 b).2.1) ∧ ∃ ty : Nat → FieldType, (∀ k, k < q.2.2 → parseFieldDescriptor (q.2.1 k).2.2.1 = some (ty k)) ∧ ∀ k, k < q.2.2 → tyC (ty k) = fty kd k
theorem cls0 : clsOK (RX0, TX0, 5) 0 := ⟨by decide +kernel, nmX0, tyX0, tyX0_ok, by decide +kernel⟩
theorem cls1 : clsOK (RX1, TX1, 5) 1 := ⟨by decide +kernel, nmX1, tyX1, tyX1_ok, by decide +kernel⟩
theorem cls2 : clsOK (RX2, TX2, 5) 2 := ⟨by decide +kernel, nmX2, tyX2, tyX2_ok, by decide +kernel⟩
theorem cls3 : clsOK (RX3, TX3, 13) 3 := ⟨by decide +kernel, nmX3, tyX3, tyX3_ok, by decide +kernel⟩
theorem cls4 : clsOK (RX4, TX4, 14) 4 := ⟨by decide +kernel, nmX4, tyX4, tyX4_ok, by decide +kernel⟩
theorem cls5 : clsOK (RX5, TX5, 18) 5 := ⟨by decide +kernel, nmX5, tyX5, tyX5_ok, by decide +kernel⟩
theorem cls6 : clsOK (RX6, TX6, 3) 6 := ⟨by decide +kernel, nmX6, tyX6, tyX6_ok, by decide +kernel⟩
theorem cls7 : clsOK (RX7, TX7, 6) 7 := ⟨by decide +kernel, nmX7, tyX7, tyX7_ok, by decide +kernel⟩
theorem cls8 : clsOK (RX8, TX8, 5) 8 := ⟨by decide +kernel, nmX8, tyX8, tyX8_ok, by decide +kernel⟩
theorem cls9 : clsOK (RX9, TX9, 2) 9 := ⟨by decide +kernel, nmX9, tyX9, tyX9_ok, by decide +kernel⟩
theorem cls10 : clsOK (RX10, TX10, 8) 10 := ⟨by decide +kernel, nmX10, tyX10, tyX10_ok, by decide +kernel⟩
theorem cls11 : clsOK (RX11, TX11, 32) 11 := ⟨by decide +kernel, nmX11, tyX11, tyX11_ok, by decide +kernel⟩
theorem cls_all {kd : Nat} {q : vw_C} (h : vwCl[kd]? = some q) : clsOK q kd ∧ kd < 12 := by
  match kd, h with
  | 0, h => cases h; exact ⟨cls0, by decide⟩
  | 1, h => cases h; exact ⟨cls1, by decide⟩
  | 2, h => cases h; exact ⟨cls2, by decide⟩
  | 3, h => cases h; exact ⟨cls3, by decide⟩
  | 4, h => cases h; exact ⟨cls4, by decide⟩
  | 5, h => cases h; exact ⟨cls5, by decide⟩
  | 6, h => cases h; exact ⟨cls6, by decide⟩
  | 7, h => cases h; exact ⟨cls7, by decide⟩
  | 8, h => cases h; exact ⟨cls8, by decide⟩
  | 9, h => cases h; exact ⟨cls9, by decide⟩
  | 10, h => cases h; exact ⟨cls10, by decide⟩
  | 11, h => cases h; exact ⟨cls11, by decide⟩
  | k + 12, h => simp [vwCl] at h
theorem ad_dyn {g : GT} {r : Nat} (h : 6 ≤ r) : ad g r = gB g + (r - 6) := by
  unfold ad
  rw [if_neg (by omega)]
theorem ad_inj {g : GT} {r r' : Nat} (h : 6 ≤ r) (h' : 6 ≤ r') (e : ad g r = ad g r') : r = r' := by
  rw [ad_dyn h, ad_dyn h'] at e
  omega
theorem mS_lt {M : fM} {r : Nat} {sh : Nat × Nat} (h : mS M r = some sh) : r < mN M := (List.getElem?_eq_some_iff.mp h).1
theorem Rp.lt {g : GT} {M : fM} {H : Heap} (hP : Rp g M H) {r : Nat} {sh : Nat × Nat} (hr : 6 ≤ r) (h : mS M r = some sh) : ad g r < H.size := by
  have h1 := mS_lt h
  have h2 := hP.1
  rw [ad_dyn hr]
  omega
/-- M1 is M but at the cell r0 -/
def offM (M M1 : fM) (r0 : Nat) : Prop := M1.2.2.2 = M.2.2.2 ∧ ∀ r k, r ≠ r0 → mI M1 r k = mI M r k ∧ mJ M1 r k = mJ M r k ∧ mP M1 r k = mP M r k
theorem offM_I (M : fM) (r k : Nat) (v : Int32) : offM M (wI M r k v) r := ⟨rfl, fun r' k' h => ⟨by simp [mI, wI, h], rfl, rfl⟩⟩
theorem offM_J (M : fM) (r k : Nat) (v : Int64) : offM M (wJ M r k v) r := ⟨rfl, fun r' k' h => ⟨rfl, by simp [mJ, wJ, h], rfl⟩⟩
theorem offM_P (M : fM) (r k : Nat) (v : Option Nat) : offM M (wP M r k v) r := ⟨rfl, fun r' k' h => ⟨rfl, rfl, by simp [mP, wP, h]⟩⟩
theorem offM.S {M M1 : fM} {r0 : Nat} (h : offM M M1 r0) (r : Nat) : mS M1 r = mS M r := by unfold mS; rw [h.1]
theorem cellAt.kept {g : GT} {M M1 : fM} {r : Nat} {sh : Nat × Nat} {H H1 : Heap} (h : cellAt g M r sh H) (hI : ∀ k, mI M1 r k = mI M r k ∧ mJ M1 r k = mJ M r k ∧ mP M1 r k = mP M r k) (hq : H1[ad g r]? = H[ad g r]?) : cellAt g M1 r sh H1 := by
  have e1 : fval g M1 r sh.1 = fval g M r sh.1 := by
    funext k
    unfold fval
    rw [(hI k).1, (hI k).2.1, (hI k).2.2]
  have e2 : aval g M1 r sh.1 = aval g M r sh.1 := by
    funext k
    unfold aval
    rw [(hI k).1, (hI k).2.1, (hI k).2.2]
  unfold cellAt at h ⊢
  split
  · rename_i h12
    rw [if_pos h12] at h
    obtain ⟨q, h1, h2⟩ := h
    exact ⟨q, h1, by rw [e1]; exact h2.kept hq⟩
  · rename_i h12
    rw [if_neg h12] at h
    rw [e2, hq]
    exact h
theorem stOK.off {g : GT} {M M1 : fM} {r0 : Nat} (hr : 6 ≤ r0) (ho : offM M M1 r0) (h : stOK g M) : stOK g M1 := by
  obtain ⟨a0, a1, a2, a3, a4, a5, a6, a7, a8, a9⟩ := h
  exact ⟨(ho.S 0).trans a0, (ho.S 1).trans a1, (ho.S 2).trans a2, (ho.S 3).trans a3, (ho.S 4).trans a4, (ho.S 5).trans a5, fun j hj => (ho.2 4 j (by omega)).1.trans (a6 j hj), fun j hj => (ho.2 0 j (by omega)).1.trans (a7 j hj), fun j hj => (ho.2 1 j (by omega)).1.trans (a8 j hj), fun j hj => (ho.2 2 j (by omega)).2.1.trans (a9 j hj)⟩
theorem Rp.upd {g : GT} {M M1 : fM} {H H1 : Heap} {r0 : Nat} {sh0 : Nat × Nat} (hP : Rp g M H) (hr : 6 ≤ r0) (hs : mS M r0 = some sh0) (ho : offM M M1 r0) (hz : H1.size = H.size) (hq : ∀ q, q ≠ ad g r0 → H1[q]? = H[q]?) (hc : cellAt g M1 r0 sh0 H1) : Rp g M1 H1 := by
  obtain ⟨h1, h2, h3, h4⟩ := hP
  have hN : mN M1 = mN M := by unfold mN; rw [ho.1]
  refine ⟨by rw [hz, hN]; exact h1, by rw [hN]; exact h2, h3.off hr ho, fun r sh h6 hsh => ?_⟩
  rw [ho.S] at hsh
  by_cases e : r = r0
  · subst e
    rw [hs] at hsh
    cases hsh
    exact hc
  · exact (h4 r sh h6 hsh).kept (fun k => ho.2 r k e) (hq _ (fun e2 => e (ad_inj h6 hr e2)))
theorem va_S.upd {g : GT} {H0 H H1 : Heap} {locs : List Loc} {r k : Nat} (h : va_S (gA g) H0 H locs) (hr : 6 ≤ r) (z : H1.size = H.size) (oq : ∀ q : Nat, q ≠ ad g r → H1[q]? = H[q]?) : va_S (gA g) H0 H1 (locs ++ [⟨ad g r, k⟩]) := h.put z oq (by rw [ad_dyn hr]; exact Nat.le_add_right _ _)
/-- a field that the code of own names by its entry idx: the k-th of the class kd -/
def gfW (own : String) (idx kd k : Nat) : Prop := ∃ q : vw_C, vwCl[kd]? = some q ∧ k < q.2.2 ∧ Cond.fieldLink own idx (q.2.1 k).1 (q.2.1 k).2.1 (q.2.1 k).2.2.1 ∈ WS
section RW2
variable {g : GT} {mt : MT} {d pc : Nat} {ls ls' : List (Nat × Value)} {rest : List Value} {M : fM} {bc bs : Nat} {Φ : Option Value → fM → Prop}
theorem fw_getG {idx kd k len r : Nat} {v : Value} (hd : decode mt.2.1 pc = .ok (.getfield idx, 3)) (hf : gfW mt.1.cls idx kd k) (hr : 6 ≤ r) (hs : mS M r = some (kd, len)) (hv : tr g v = fval g M r kd k) (kk : FW g mt d (pc + 3) ls (v :: rest) M bc bs Φ) : FW g mt d pc ls (.ref r :: rest) M bc bs Φ := by
  intro p l e R s m args below meth c H locs cells slots Q lsA hC hR h1 h2 hS hP hl
  obtain ⟨q, hq, hk, hw⟩ := hf
  obtain ⟨⟨hin, hnm, ty, hty, htc⟩, h12⟩ := cls_all hq
  have hc := hP.2.2.2 r _ hr hs
  unfold cellAt at hc
  rw [if_pos h12] at hc
  obtain ⟨q', hq', hOB⟩ := hc
  rw [hq] at hq'
  cases hq'
  obtain ⟨hx, hb, hml, hown, hts, hini, hK, hSt, hfr, hlo, hB⟩ := hC
  obtain ⟨hSl, hfc, kC, hkC, hkind⟩ := hK.1 kd _ hq
  obtain ⟨cf, kf, fi, f, hi, hsl⟩ := hSl k hk
  obtain ⟨cell, q1, q2, q3, q4⟩ := hOB
  have kk' := kk p l e R s m args below meth c H locs cells slots Q lsA ⟨hx, hb, hml, hown, hts, hini, hK, hSt, hfr, hlo, hB⟩ hR h1 h2 hS hP hl
  refine W.getf (v := tr g v) hx hb hown (hts _ hw) hi (u_facts hfc hkC (u_lays hts hin hk) hi).1 q1 (by rw [q3]; exact fun h => by cases h) ?_ rfl rfl hd kk'
  rw [hsl, q4 k hk, hv]
theorem fw_getI {idx kd k len r : Nat} (hd : decode mt.2.1 pc = .ok (.getfield idx, 3)) (hf : gfW mt.1.cls idx kd k) (hr : 6 ≤ r) (hs : mS M r = some (kd, len)) (hy : fty kd k = 0 ∨ fty kd k = 3) (kk : FW g mt d (pc + 3) ls (.int (mI M r k) :: rest) M bc bs Φ) : FW g mt d pc ls (.ref r :: rest) M bc bs Φ := fw_getG hd hf hr hs (by unfold fval; rcases hy with h | h <;> rw [h] <;> rfl) kk
theorem fw_getJ {idx kd k len r : Nat} (hd : decode mt.2.1 pc = .ok (.getfield idx, 3)) (hf : gfW mt.1.cls idx kd k) (hr : 6 ≤ r) (hs : mS M r = some (kd, len)) (hy : fty kd k = 1) (kk : FW g mt d (pc + 3) ls (.long (mJ M r k) :: rest) M bc bs Φ) : FW g mt d pc ls (.ref r :: rest) M bc bs Φ := fw_getG hd hf hr hs (by unfold fval; rw [hy]; rfl) kk
theorem fw_getP {idx kd k len r : Nat} (hd : decode mt.2.1 pc = .ok (.getfield idx, 3)) (hf : gfW mt.1.cls idx kd k) (hr : 6 ≤ r) (hs : mS M r = some (kd, len)) (hy : fty kd k = 2) (kk : FW g mt d (pc + 3) ls (fr (mP M r k) :: rest) M bc bs Φ) : FW g mt d pc ls (.ref r :: rest) M bc bs Φ := fw_getG hd hf hr hs (by unfold fval; rw [hy]; exact tr_fr g _) kk
theorem fits_of {kd k : Nat} {ty : FieldType} {g : GT} {v : Value} (hty : tyC ty = fty kd k) (hv : (fty kd k = 0 ∧ ∃ x, v = .int x) ∨ (fty kd k = 3 ∧ ∃ x, v = .int x ∧ narrow .boolean (.int x) = .int x) ∨ (fty kd k = 1 ∧ ∃ x, v = .long x) ∨ (fty kd k = 2 ∧ ∃ o, v = fr o)) : narrow ty (tr g v) = tr g v ∧ fits ty (tr g v) = true := by
  rcases hv with ⟨h, x, rfl⟩ | ⟨h, x, rfl, hn⟩ | ⟨h, x, rfl⟩ | ⟨h, o, rfl⟩
  · rw [h] at hty
    cases ty <;> simp [tyC] at hty
    exact ⟨rfl, rfl⟩
  · rw [h] at hty
    cases ty <;> simp [tyC] at hty
    exact ⟨hn, by have h2 := fits_narrow_boolean x; rw [hn] at h2; exact h2⟩
  · rw [h] at hty
    cases ty <;> simp [tyC] at hty
    exact ⟨rfl, rfl⟩
  · rw [h] at hty
    cases ty <;> simp [tyC] at hty <;> cases o <;> exact ⟨rfl, rfl⟩
theorem fw_putG {idx kd k len r : Nat} {v : Value} {M1 : fM} (hd : decode mt.2.1 pc = .ok (.putfield idx, 3)) (hf : gfW mt.1.cls idx kd k) (hr : 6 ≤ r) (hs : mS M r = some (kd, len)) (hfin : ∃ q : vw_C, vwCl[kd]? = some q ∧ ((q.2.1 k).2.2.2 = false ∨ ((q.2.1 k).2.2.2 = true ∧ mt.1.name = "<init>" ∧ (q.2.1 k).1 = mt.1.cls)))
    (hv : (fty kd k = 0 ∧ ∃ x, v = .int x) ∨ (fty kd k = 3 ∧ ∃ x, v = .int x ∧ narrow .boolean (.int x) = .int x) ∨ (fty kd k = 1 ∧ ∃ x, v = .long x) ∨ (fty kd k = 2 ∧ ∃ o, v = fr o)) (ho : offM M M1 r) (hM : ∀ j, fval g M1 r kd j = updV (fval g M r kd) k (tr g v) j) (kk : FW g mt d (pc + 3) ls rest M1 bc bs Φ) : FW g mt d pc ls (v :: .ref r :: rest) M bc bs Φ := by
  intro p l e R s m args below meth c H locs cells slots Q lsA hC hR h1 h2 hS hP hl
  obtain ⟨q, hq, hk, hw⟩ := hf
  obtain ⟨⟨hin, hnm, ty, hty, htc⟩, h12⟩ := cls_all hq
  obtain ⟨q', hq', hfin⟩ := hfin
  rw [hq] at hq'
  cases hq'
  have hc := hP.2.2.2 r _ hr hs
  unfold cellAt at hc
  rw [if_pos h12] at hc
  obtain ⟨q', hq', hOB⟩ := hc
  rw [hq] at hq'
  cases hq'
  have hC' := hC
  obtain ⟨hx, hb, hml, hown, hts, hini, hK, hSt, hfr, hlo, hB⟩ := hC
  have hap := va_apart (own := mt.1.cls) hts hin ty hty hnm hK hq
  obtain ⟨hSl, hfc, kC, hkC, hkind⟩ := hK.1 kd _ hq
  obtain ⟨cf, kf, fi, f, hi, hsl⟩ := hSl k hk
  obtain ⟨cell, q1, q2, q3, q4⟩ := hOB
  obtain ⟨hn, hfit⟩ := fits_of (g := g) (htc k hk) hv
  have hst := (u_facts hfc hkC (u_lays hts hin hk) hi).1
  have fin : ∀ H' : Heap, H'[ad g r]? = some (cell.setSlot f.slot (tr g v)) → H'.size = H.size → (∀ q, q ≠ ad g r → H'[q]? = H[q]?) → W p l e R s m args below meth c H' (locs ++ [⟨ad g r, f.slot⟩]) cells slots Q (F0 m (pc + 3) lsA (rest.map (tr g))) := by
    intro H' e1 e2 e3
    refine kk p l e R s m args below meth c H' _ cells slots Q lsA hC' hR h1 h2 (hS.upd hr e2 e3) (hP.upd hr hs ho e2 e3 ?_) hl
    unfold cellAt
    rw [if_pos h12]
    refine ⟨_, hq, ?_⟩
    rw [hsl] at e1
    exact t_OB.to (V := updV (fval g M r kd) k (tr g v)) ⟨_, e1, q2, q3, t_set q4 hap hk (tr g v)⟩ (fun j _ => (hM j).symm)
  rcases hfin with hfin | ⟨hfin, hin2, hdecl⟩
  · have hlay := hts _ (hin _ (u_in_lay hk))
    unfold u_lay at hlay
    rw [if_neg (by rw [hfin]; decide)] at hlay
    have h6 := u_store hfc hkC hkind hlay hi (hty k hk) hn hfit
    exact W.putK hx hb (f := f) ⟨hown, hts _ hw, ⟨_, _, _, hi⟩, hst⟩ (by rw [q2]; exact h6) q1 q3 (by rw [hsl]; exact k2_hasslot (q4 k hk)) rfl rfl hd fin
  · have hlay := hts _ (hin _ (u_in_lay hk))
    unfold u_lay at hlay
    rw [if_pos hfin] at hlay
    have hcf : m.cls = cf := by
      obtain ⟨_, _, c', _, _, _, -, -, hf', -, -, -, hown2, -⟩ := Cond.laysFinal_spec hlay
      have e1 : c' = cf := by have := hi.symm.trans hf'; simp at this; exact this.1.symm
      rw [hdecl] at hown2
      rw [← e1]; exact Option.some.inj (hown.symm.trans hown2)
    have h6 := u_fits hfc hkC hkind (Or.inr hlay) hi (hty k hk) hn hfit
    exact W.putFinK hx hb hown (hts _ hw) hi hst hcf (hini hin2) (by rw [q2]; exact h6) q1 q3 (by rw [hsl]; exact k2_hasslot (q4 k hk)) rfl rfl hd fin
/-- a field that is written: not final, or in its own constructor -/
def pfW (mt : MT) (idx kd k : Nat) : Prop := gfW mt.1.cls idx kd k ∧ ∃ q : vw_C, vwCl[kd]? = some q ∧ ((q.2.1 k).2.2.2 = false ∨ ((q.2.1 k).2.2.2 = true ∧ mt.1.name = "<init>" ∧ (q.2.1 k).1 = mt.1.cls))
theorem fw_putI {idx kd k len r : Nat} {x : Int32} (hd : decode mt.2.1 pc = .ok (.putfield idx, 3)) (hf : pfW mt idx kd k) (hr : 6 ≤ r) (hs : mS M r = some (kd, len)) (hy : fty kd k = 0) (kk : FW g mt d (pc + 3) ls rest (wI M r k x) bc bs Φ) : FW g mt d pc ls (.int x :: .ref r :: rest) M bc bs Φ := fw_putG hd hf.1 hr hs hf.2 (Or.inl ⟨hy, x, rfl⟩) (offM_I M r k x) (fun j => by
  unfold updV fval
  by_cases e : j = k
  · subst e
    rw [if_pos rfl, hy]
    simp [mI, wI, tr]
  · rw [if_neg e]
    simp [mI, wI, mJ, mP, e]) kk
theorem fw_putZ {idx kd k len r : Nat} {x : Int32} (hd : decode mt.2.1 pc = .ok (.putfield idx, 3)) (hf : pfW mt idx kd k) (hr : 6 ≤ r) (hs : mS M r = some (kd, len)) (hy : fty kd k = 3) (hx : narrow .boolean (.int x) = .int x) (kk : FW g mt d (pc + 3) ls rest (wI M r k x) bc bs Φ) : FW g mt d pc ls (.int x :: .ref r :: rest) M bc bs Φ := fw_putG hd hf.1 hr hs hf.2 (Or.inr (Or.inl ⟨hy, x, rfl, hx⟩)) (offM_I M r k x) (fun j => by
  unfold updV fval
  by_cases e : j = k
  · subst e
    rw [if_pos rfl, hy]
    simp [mI, wI, tr]
  · rw [if_neg e]
    simp [mI, wI, mJ, mP, e]) kk
theorem fw_putJ {idx kd k len r : Nat} {x : Int64} (hd : decode mt.2.1 pc = .ok (.putfield idx, 3)) (hf : pfW mt idx kd k) (hr : 6 ≤ r) (hs : mS M r = some (kd, len)) (hy : fty kd k = 1) (kk : FW g mt d (pc + 3) ls rest (wJ M r k x) bc bs Φ) : FW g mt d pc ls (.long x :: .ref r :: rest) M bc bs Φ := fw_putG hd hf.1 hr hs hf.2 (Or.inr (Or.inr (Or.inl ⟨hy, x, rfl⟩))) (offM_J M r k x) (fun j => by
  unfold updV fval
  by_cases e : j = k
  · subst e
    rw [if_pos rfl, hy]
    simp [mJ, wJ, tr]
  · rw [if_neg e]
    simp [mI, wJ, mJ, mP, e]) kk
theorem fw_putP {idx kd k len r : Nat} {x : Option Nat} (hd : decode mt.2.1 pc = .ok (.putfield idx, 3)) (hf : pfW mt idx kd k) (hr : 6 ≤ r) (hs : mS M r = some (kd, len)) (hy : fty kd k = 2) (kk : FW g mt d (pc + 3) ls rest (wP M r k x) bc bs Φ) : FW g mt d pc ls (fr x :: .ref r :: rest) M bc bs Φ := fw_putG hd hf.1 hr hs hf.2 (Or.inr (Or.inr (Or.inr ⟨hy, x, rfl⟩))) (offM_P M r k x) (fun j => by
  unfold updV fval
  by_cases e : j = k
  · subst e
    rw [if_pos rfl, hy, tr_fr]
    simp [mP, wP]
  · rw [if_neg e]
    simp [mI, wP, mJ, mP, e]) kk
end RW2
