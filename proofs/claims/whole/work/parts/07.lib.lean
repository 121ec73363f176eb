/-! ===== words of the predicate transformers, and small laws that the printed walks use ===== -/
def isO (M : fM) (r kd : Nat) : Prop := 6 ≤ r ∧ ∃ len, mS M r = some (kd, len)
def inA (M : fM) (r kd : Nat) (i : Int32) : Prop := ∃ n, mS M r = some (kd, n) ∧ vp_in i n
def lenA (M : fM) (r kd : Nat) (A : Nat → Prop) : Prop := ∃ n, mS M r = some (kd, n) ∧ A n
def dR (o : Option Nat) (A : Nat → Prop) : Prop := match o with
  | some y => A y
  | none => False
def gN (o : Option Nat) (A : Nat → Prop) (B : Prop) : Prop := match o with
  | some y => A y
  | none => B
def nm {α : Type} (e : α) (A : α → Prop) : Prop := ∀ x, x = e → A x
def st (X : fM) (A : fM → Prop) : Prop := ∀ M1, M1 = X → A M1
def nw (M : fM) (kd len : Nat) (A : Nat → fM → Prop) : Prop := ∀ q M1, q = mN M → M1 = mNew M kd len → A q M1
def clM (M : fM) (r n : Nat) : fM := (fun r' k => if r' = mN M then M.1 r k else M.1 r' k, fun r' k => if r' = mN M then 0 else M.2.1 r' k, fun r' k => if r' = mN M then none else M.2.2.1 r' k, M.2.2.2 ++ [(12, n)])
def cl (M : fM) (r n : Nat) (A : Nat → fM → Prop) : Prop := ∀ q M1, q = mN M → M1 = clM M r n → A q M1
def isB (x : Int32) : Prop := narrow .boolean (.int x) = .int x
def isC (x : Int32) : Prop := narrow .char (.int x) = .int x
def isBy (x : Int32) : Prop := narrow .byte (.int x) = .int x
def rI (φ : Int32 → fM → Prop) : Option Value → fM → Prop := fun v M => ∃ x, v = some (.int x) ∧ φ x M
def rJ (φ : Int64 → fM → Prop) : Option Value → fM → Prop := fun v M => ∃ x, v = some (.long x) ∧ φ x M
def rV (φ : fM → Prop) : Option Value → fM → Prop := fun v M => v = none ∧ φ M
def rP (φ : Option Nat → fM → Prop) : Option Value → fM → Prop := fun v M => ∃ o, v = some (fr o) ∧ φ o M
def iF (c A B : Prop) : Prop := (c → A) ∧ (¬ c → B)
theorem ipos {c A B : Prop} (hc : c) (h : iF c A B) : A := h.1 hc
theorem ineg {c A B : Prop} (hc : ¬ c) (h : iF c A B) : B := h.2 hc
theorem dR_e {o : Option Nat} {A : Nat → Prop} (h : dR o A) : ∃ y, o = some y ∧ A y := by
  cases o with
  | none => exact h.elim
  | some y => exact ⟨y, rfl, h⟩
theorem gN_s {o : Option Nat} {y : Nat} {A : Nat → Prop} {B : Prop} (e : o = some y) (h : gN o A B) : A y := by subst e; exact h
theorem gN_n {o : Option Nat} {A : Nat → Prop} {B : Prop} (e : o = none) (h : gN o A B) : B := by subst e; exact h
theorem mSw_I {M M1 : fM} {r k r' : Nat} {v : Int32} {x : Option (Nat × Nat)} (e : M1 = wI M r k v) (h : mS M r' = x) : mS M1 r' = x := by subst e; exact h
theorem mSw_J {M M1 : fM} {r k r' : Nat} {v : Int64} {x : Option (Nat × Nat)} (e : M1 = wJ M r k v) (h : mS M r' = x) : mS M1 r' = x := by subst e; exact h
theorem mSw_P {M M1 : fM} {r k r' : Nat} {v : Option Nat} {x : Option (Nat × Nat)} (e : M1 = wP M r k v) (h : mS M r' = x) : mS M1 r' = x := by subst e; exact h
theorem mSw_C {M M1 : fM} {r0 r1 sp dp n r' : Nat} {x : Option (Nat × Nat)} (e : M1 = cpI M r0 r1 sp dp n) (h : mS M r' = x) : mS M1 r' = x := by subst e; exact h
theorem mSw_N {M M1 : fM} {kd n r' : Nat} {x : Nat × Nat} (e : M1 = mNew M kd n) (h : mS M r' = some x) : mS M1 r' = some x := by
  subst e
  show (M.2.2.2 ++ [(kd, n)])[r']? = some x
  rw [List.getElem?_append_left (mS_lt h)]
  exact h
section LIB
variable {g : GT} {mt : MT} {d pc : Nat} {ls ls' : List (Nat × Value)} {rest : List Value} {stk : List Value} {M : fM} {bc bs : Nat} {Φ : Option Value → fM → Prop}
theorem FW.nmM {X : fM} (k : ∀ M1, M1 = X → FW g mt d pc ls stk M1 bc bs Φ) : FW g mt d pc ls stk X bc bs Φ := k X rfl
theorem FW.nmN {X : Nat} (k : ∀ q, q = X → FW g mt d pc ls (.ref q :: rest) M bc bs Φ) : FW g mt d pc ls (.ref X :: rest) M bc bs Φ := k X rfl
theorem fw_nmI {x : Int32} (k : ∀ y, y = x → FW g mt d pc ls (.int y :: rest) M bc bs Φ) : FW g mt d pc ls (.int x :: rest) M bc bs Φ := k x rfl
theorem fw_nmJ {x : Int64} (k : ∀ y, y = x → FW g mt d pc ls (.long y :: rest) M bc bs Φ) : FW g mt d pc ls (.long x :: rest) M bc bs Φ := k x rfl
theorem fw_nmP {x : Option Nat} (k : ∀ y, y = x → FW g mt d pc ls (fr y :: rest) M bc bs Φ) : FW g mt d pc ls (fr x :: rest) M bc bs Φ := k x rfl
theorem fw_deref {o : Option Nat} {y : Nat} (h : o = some y) (k : FW g mt d pc ls (.ref y :: rest) M bc bs Φ) : FW g mt d pc ls (fr o :: rest) M bc bs Φ := by subst h; exact k
theorem fw_nullq (hd : decode mt.2.1 pc = .ok (.aconst_null, 1)) (k : FW g mt d (pc + 1) ls (fr none :: rest) M bc bs Φ) : FW g mt d pc ls rest M bc bs Φ := fw_null hd k
theorem fw_ldcw {idx : Nat} {v : Int32} (hd : decode mt.2.1 pc = .ok (.ldc_w idx, 3)) (hc : Cond.constant mt.1.cls idx v ∈ WS) (k : FW g mt d (pc + 3) ls (.int v :: rest) M bc bs Φ) : FW g mt d pc ls rest M bc bs Φ := FW.pure (fun p l e R s m args below meth c H locs cells slots Q lsA hx hb hown hts hl k => lv_ldcw hx hb hown (hts _ hc) hd k) k
theorem fw_retq {x : Option Nat} (hd : decode mt.2.1 pc = .ok (.areturn, 1)) (hr : ∃ rt, mt.2.2.2 = some rt ∧ ((∃ n, rt = .object n) ∨ ∃ t, rt = .array t)) (hΦ : Φ (some (fr x)) M) : FW g mt d pc ls [fr x] M bc bs Φ := by
  cases x with
  | none => exact fw_ret (v := some .null) .areturn hd ⟨rfl, hr⟩ hΦ
  | some y => exact fw_ret (v := some (.ref y)) .areturn hd ⟨rfl, hr⟩ hΦ
theorem fw_aastQ (kd ci : Nat) (C : String) {r n : Nat} {o : Option Nat} {i : Int32} (hd : decode mt.2.1 pc = .ok (.aastore, 1)) (hk : (kd = 15 ∧ ci = 0 ∧ C = RX0) ∨ (kd = 16 ∧ ci = 8 ∧ C = RX8)) (hr : 6 ≤ r) (hs : mS M r = some (kd, n)) (hi : vp_in i n) (hv : ∀ y, o = some y → isO M y ci) (kk : FW g mt d (pc + 1) ls rest (wP M r (ix i) o) bc bs Φ) : FW g mt d pc ls (fr o :: .int i :: .ref r :: rest) M bc bs Φ := by
  cases o with
  | none => exact fw_aastN kd C hd (by rcases hk with ⟨a, b, c⟩ | ⟨a, b, c⟩; exact Or.inl ⟨a, c⟩; exact Or.inr ⟨a, c⟩) hr hs hi kk
  | some y =>
    obtain ⟨h6, len, hl⟩ := hv y rfl
    exact fw_aastP kd ci C hd hk hr hs hi h6 hl kk
theorem kI {ψ : Int32 → fM → Prop} {mc ms bc' bs' : Nat} (h1 : bc' ≤ bc - mc) (h2 : bs' ≤ bs - ms) (k : ∀ x M', ψ x M' → FW g mt d pc ls (.int x :: rest) M' bc' bs' Φ) : ∀ v M', rI ψ v M' → FW g mt d pc ls (v.toList ++ rest) M' (bc - mc) (bs - ms) Φ := by
  rintro v M' ⟨x, rfl, h⟩
  exact FW.room h1 h2 (k x M' h)
theorem kJ {ψ : Int64 → fM → Prop} {mc ms bc' bs' : Nat} (h1 : bc' ≤ bc - mc) (h2 : bs' ≤ bs - ms) (k : ∀ x M', ψ x M' → FW g mt d pc ls (.long x :: rest) M' bc' bs' Φ) : ∀ v M', rJ ψ v M' → FW g mt d pc ls (v.toList ++ rest) M' (bc - mc) (bs - ms) Φ := by
  rintro v M' ⟨x, rfl, h⟩
  exact FW.room h1 h2 (k x M' h)
theorem kV {ψ : fM → Prop} {mc ms bc' bs' : Nat} (h1 : bc' ≤ bc - mc) (h2 : bs' ≤ bs - ms) (k : ∀ M', ψ M' → FW g mt d pc ls rest M' bc' bs' Φ) : ∀ v M', rV ψ v M' → FW g mt d pc ls (v.toList ++ rest) M' (bc - mc) (bs - ms) Φ := by
  rintro v M' ⟨rfl, h⟩
  exact FW.room h1 h2 (k M' h)
theorem kP {ψ : Option Nat → fM → Prop} {mc ms bc' bs' : Nat} (h1 : bc' ≤ bc - mc) (h2 : bs' ≤ bs - ms) (k : ∀ x M', ψ x M' → FW g mt d pc ls (fr x :: rest) M' bc' bs' Φ) : ∀ v M', rP ψ v M' → FW g mt d pc ls (v.toList ++ rest) M' (bc - mc) (bs - ms) Φ := by
  rintro v M' ⟨x, rfl, h⟩
  exact FW.room h1 h2 (k x M' h)
theorem fw_castA {idx r n : Nat} (hd : decode mt.2.1 pc = .ok (.checkcast idx, 3)) (hw : Cond.classLink mt.1.cls idx "[I" ∈ WS) (hr : 6 ≤ r) (hs : mS M r = some (12, n)) (k : FW g mt d (pc + 3) ls (.ref r :: rest) M bc bs Φ) : FW g mt d pc ls (.ref r :: rest) M bc bs Φ := by
  intro p l e R s m args below meth c H locs cells slots Q lsA hC hR h1 h2 hS hP hl
  have hK := hC.2.2.2.2.2.2.1
  have hc := arrD hP (by decide) hr hs
  have hnm : s.vm.findClass "[I" = some (gC g 12) := by
    have e : "[" ++ FieldType.int.toString = "[I" := by decide +kernel
    rw [← e]
    exact (hK.2 0 _ rfl).2
  intro T hT X
  obtain ⟨vm', X', st⟩ := X.checkcastYes hC.1 hC.2.2.2.1 (hC.2.2.2.2.1 _ hw) (by rw [hT]; exact hc) rfl hnm (va_asg _ _) (g := F0 m pc lsA ((Value.ref r :: rest).map (tr g))) rfl rfl (by rw [hC.2.1]; exact hd)
  obtain ⟨t, a1, b1⟩ := k p l e R s m args below meth c H locs cells slots Q lsA hC hR h1 h2 hS hP hl (T.setVm vm') hT X'
  exact ⟨t, st t a1, b1⟩
def cloneW (own : String) (idx : Nat) : Prop := Cond.methodLink own idx ⟨"[I", "clone", "()Ljava/lang/Object;"⟩ ∈ WS ∧ Cond.sameMethod "[I" "java/lang/Object" "clone" "()Ljava/lang/Object;" ∈ WS ∧ Cond.native ⟨"java/lang/Object", "clone", "()Ljava/lang/Object;"⟩ ∈ WS ∧ Cond.instanceMethod ⟨"java/lang/Object", "clone", "()Ljava/lang/Object;"⟩ ∈ WS ∧ Cond.selects "[I" ⟨"[I", "clone", "()Ljava/lang/Object;"⟩ ⟨"java/lang/Object", "clone", "()Ljava/lang/Object;"⟩ ∈ WS
theorem newC {r n : Nat} {H H1 : Heap} (hP : Rp g M H) (hn : r < mN M) (z : H1.size = H.size + 1) (oq : ∀ q, q < H.size → H1[q]? = H[q]?) (hc : cellAt g (clM M r n) (mN M) (12, n) H1) : Rp g (clM M r n) H1 := by
  obtain ⟨p1, p2, p3, p4⟩ := hP
  have hN : mN (clM M r n) = mN M + 1 := by simp [mN, clM]
  have hS : ∀ r', r' < mN M → mS (clM M r n) r' = mS M r' := fun r' hr => by
    show (M.2.2.2 ++ [(12, n)])[r']? = M.2.2.2[r']?
    exact List.getElem?_append_left hr
  have hne : ∀ r' k, r' ≠ mN M → mI (clM M r n) r' k = mI M r' k ∧ mJ (clM M r n) r' k = mJ M r' k ∧ mP (clM M r n) r' k = mP M r' k := fun r' k h => ⟨by simp [mI, clM, h], by simp [mJ, clM, h], by simp [mP, clM, h]⟩
  refine ⟨by rw [z, hN]; omega, by omega, ?_, fun r' sh h6 hs => ?_⟩
  · obtain ⟨a0, a1, a2, a3, a4, a5, a6, a7, a8, a9⟩ := p3
    exact ⟨(hS 0 (by omega)).trans a0, (hS 1 (by omega)).trans a1, (hS 2 (by omega)).trans a2, (hS 3 (by omega)).trans a3, (hS 4 (by omega)).trans a4, (hS 5 (by omega)).trans a5, fun j hj => (hne 4 j (by omega)).1.trans (a6 j hj), fun j hj => (hne 0 j (by omega)).1.trans (a7 j hj), fun j hj => (hne 1 j (by omega)).1.trans (a8 j hj), fun j hj => (hne 2 j (by omega)).2.1.trans (a9 j hj)⟩
  · by_cases e : r' = mN M
    · subst e
      have h1 : mS (clM M r n) (mN M) = some (12, n) := by
        show (M.2.2.2 ++ [(12, n)])[M.2.2.2.length]? = _
        simp
      rw [h1] at hs
      cases hs
      exact hc
    · have hl := mS_lt hs
      rw [hN] at hl
      rw [hS r' (by omega)] at hs
      exact (p4 r' sh h6 hs).kept (fun k => hne r' k e) (oq _ (by rw [ad_dyn h6]; omega))
theorem fw_clone {idx r n : Nat} (hd : decode mt.2.1 pc = .ok (.invokevirtual idx, 3)) (hw : cloneW mt.1.cls idx) (hr : 6 ≤ r) (hs : mS M r = some (12, n)) (hbc : 1 ≤ bc) (hbs : n ≤ bs) (h8 : (rest.map fun v => v.category).sum ≤ 8) (k : FW g mt (d + 1) (pc + 3) ls (.ref (mN M) :: rest) (clM M r n) (bc - 1) (bs - n) Φ) : FW g mt (d + 1) pc ls (.ref r :: rest) M bc bs Φ := by
  intro p l e R s m args below meth c H locs cells slots Q lsA hC hR h1 h2 hS hP hl
  have hK := hC.2.2.2.2.2.2.1
  have hts := hC.2.2.2.2.1
  have hfr := hC.2.2.2.2.2.2.2.2.1
  have hlo := hC.2.2.2.2.2.2.2.2.2.1
  have hsz : H.size = ad g (mN M) := by
    have a1 := hP.1
    have a2 := hP.2.1
    rw [ad_dyn a2]
    omega
  have hc0 := arrD hP (by decide) hr hs
  have ev : ∀ r, aval g M r 12 = fun j => Value.int (mI M r j) := fun r => by
    funext j
    unfold aval
    rw [if_neg (by decide), if_neg (by decide)]
  rw [ev] at hc0
  have hnm : s.vm.findClass "[I" = some (gC g 12) := by
    have e : "[" ++ FieldType.int.toString = "[I" := by decide +kernel
    rw [← e]
    exact (hK.2 0 _ rfl).2
  obtain ⟨w1, w2, w3, w4, w5⟩ := hw
  have hcl : va_Nw (.castable "[I" "java/lang/Cloneable") s := by
    obtain ⟨-, -, -, -, -, -, -, -, -, -, -, z, -⟩ := hC.2.2.2.2.2.2.2.1
    exact z
  obtain ⟨c0, t0', f1, f2, f3⟩ := Cond.castable_spec (va_Nw.use (A := args) rfl hcl)
  cases hnm.symm.trans f1
  intro T hT X
  have hcellT : T.heap[ad g r]? = some (arrV (gC g 12) n (fun j => Value.int (mI M r j))) := by rw [hT]; exact hc0
  obtain ⟨-, kA, hkA, comp, hkind⟩ := State.isArrayOf_alike X.warmed.alike ((hK.2 0 _ rfl).1 0 (fun _ => .null))
  obtain ⟨-, kS, hkS, compS, hkindS⟩ := (hK.2 0 _ rfl).1 0 (fun _ => .null)
  have h8' := fw_room8 (g := g) (m := m) (pc := pc) (lsA := lsA) (stk := rest) h8
  obtain ⟨vm', X', stp⟩ := X.cloneArray hC.1 hC.2.2.2.1 (hts _ w1) (hts _ w2) (hts _ w3) (hts _ w4) (hts _ w5) (a := ad g r) (cell := arrV (gC g 12) n (fun j => Value.int (mI M r j))) hcellT (fun k h => by cases h) (fun h => by cases h) hnm f2 f3
    (fun i v hv => by
      have hk' : T.vm.classes[gC g 12]? = some kA := hkA
      have hf : fits .int v = true := va_fit (F := fun j => Value.int (mI M r j)) (fun i _ => rfl) i v hv
      have hcls : (arrV (gC g 12) n (fun j => Value.int (mI M r j))).cls = gC g 12 := rfl
      have hkind' : kA.kind = .array comp .int := hkind
      simpa [State.fitsSlot, State.slotType?, hcls, hk', hkind'] using hf)
    (g := F0 m pc lsA ((Value.ref r :: rest).map (tr g))) rfl (by show lsA.size = _; rw [hl.1, hC.2.2.1]) rfl (by rw [hC.2.1]; exact hd) (by omega) (by
      have h7 : 2 * (F0 m pc lsA (rest.map (tr g))).monitorRoom + ((rest.map (tr g)).map fun v => v.category).sum ≤ 8 := h8'
      have h9 : 2 * (F0 m pc lsA (rest.map (tr g))).monitorRoom + ((rest.map (tr g)).map fun v => v.category).sum + 14 ≤ R.locals := by omega
      exact h9) (by omega) (by rw [arrV_size]; omega) (hloader := Vm.clonesLoader_of_array hkS hkindS)
  generalize hH1 : H.push (arrV (gC g 12) n (fun j => Value.int (mI M r j))) = H1
  have z1 : H1.size = H.size + 1 := by rw [← hH1, Array.size_push]
  have e1 : H1[H.size]? = some (arrV (gC g 12) n (fun j => Value.int (mI M r j))) := by rw [← hH1, Array.getElem?_push_size]
  have o1 : ∀ q : Nat, q < H.size → H1[q]? = H[q]? := fun q hq => by rw [← hH1, Array.getElem?_push, if_neg (Nat.ne_of_lt hq)]
  have hP1 : Rp g (clM M r n) H1 := newC hP (mS_lt hs) z1 o1 (by
    unfold cellAt
    rw [if_neg (by show ¬ (12 < 12); decide), ← hsz, e1]
    congr 2
    funext j
    unfold aval
    rw [if_neg (by show ¬ (12 = 13); decide), if_neg (by show ¬ (12 = 15 ∨ 12 = 16); decide)]
    simp [mI, clM])
  rw [arrV_size] at X'
  obtain ⟨t, b1, b2⟩ := k p l e R s m args below meth c H1 locs (cells + 1) (slots + n) Q lsA hC hR (by omega) (by omega) (hS.new z1 o1) hP1 hl ((T.setVm vm').pushCell (arrV (gC g 12) n (fun j => Value.int (mI M r j)))) (by rw [← hH1, ← hT]; rfl) X'
  refine ⟨t, stp t ?_, b2⟩
  rw [hT, hsz]
  exact b1
end LIB
def imin (x y : Int32) : Int32 := if y < x then y else x
def imax (x y : Int32) : Int32 := if x < y then y else x
def iabs (x : Int32) : Int32 := if 0 ≤ x then x else 0 - x
section MTH
variable {g : GT} {mt : MT} {d pc : Nat} {ls ls' : List (Nat × Value)} {rest : List Value} {stk : List Value} {M : fM} {bc bs : Nat} {Φ : Option Value → fM → Prop}
theorem fw_sum8 {rest : List Value} (h8 : (rest.map fun v => v.category).sum ≤ 8) : ((rest.map (tr g)).map fun v => v.category).sum ≤ 8 := by
  rw [List.map_map]
  have e : (fun v : Value => v.category) ∘ tr g = fun v => v.category := by funext v; exact tr_cat g v
  rw [e]
  exact h8
theorem fw_mmin {idx : Nat} {x y : Int32} (hd : decode mt.2.1 pc = .ok (.invokestatic idx, 3)) (hw : Cond.methodLink mt.1.cls idx Lib.Math.min.name ∈ WS ∧ Cond.static Lib.Math.min.name ∈ WS ∧ Cond.initialized "java/lang/Math" ∈ WS ∧ Cond.code Lib.Math.min.name Lib.Math.min.code 2 (some .int) ∈ WS) (h8 : (rest.map fun v => v.category).sum ≤ 8) (k : FW g mt (d + 1) (pc + 3) ls (.int (imin x y) :: rest) M bc bs Φ) : FW g mt (d + 1) pc ls (.int y :: .int x :: rest) M bc bs Φ := by
  intro p l e R s m args below meth c H locs cells slots Q lsA hC hR h1 h2 hS hP hl
  have hts := hC.2.2.2.2.1
  have hlo := hC.2.2.2.2.2.2.2.2.2.1
  have hfr := hC.2.2.2.2.2.2.2.2.1
  have h9 := fw_sum8 (g := g) h8
  exact va_mmin hC.1 hC.2.1 (by rw [hl.1, hC.2.2.1]) hC.2.2.2.1 (hts _ hw.1) (hts _ hw.2.1) (hts _ hw.2.2.1) (hts _ hw.2.2.2) (by omega) (by omega) (by omega) (by omega) hd (k p l e R s m args below meth c H locs cells slots Q lsA hC hR h1 h2 hS hP hl)
theorem fw_mmax {idx : Nat} {x y : Int32} (hd : decode mt.2.1 pc = .ok (.invokestatic idx, 3)) (hw : Cond.methodLink mt.1.cls idx Lib.Math.max.name ∈ WS ∧ Cond.static Lib.Math.max.name ∈ WS ∧ Cond.initialized "java/lang/Math" ∈ WS ∧ Cond.code Lib.Math.max.name Lib.Math.max.code 2 (some .int) ∈ WS) (h8 : (rest.map fun v => v.category).sum ≤ 8) (k : FW g mt (d + 1) (pc + 3) ls (.int (imax x y) :: rest) M bc bs Φ) : FW g mt (d + 1) pc ls (.int y :: .int x :: rest) M bc bs Φ := by
  intro p l e R s m args below meth c H locs cells slots Q lsA hC hR h1 h2 hS hP hl
  have hts := hC.2.2.2.2.1
  have hlo := hC.2.2.2.2.2.2.2.2.2.1
  have hfr := hC.2.2.2.2.2.2.2.2.1
  have h9 := fw_sum8 (g := g) h8
  exact va_mmax hC.1 hC.2.1 (by rw [hl.1, hC.2.2.1]) hC.2.2.2.1 (hts _ hw.1) (hts _ hw.2.1) (hts _ hw.2.2.1) (hts _ hw.2.2.2) (by omega) (by omega) (by omega) (by omega) hd (k p l e R s m args below meth c H locs cells slots Q lsA hC hR h1 h2 hS hP hl)
theorem fw_mabs {idx : Nat} {x : Int32} (hd : decode mt.2.1 pc = .ok (.invokestatic idx, 3)) (hw : Cond.methodLink mt.1.cls idx Lib.Math.abs.name ∈ WS ∧ Cond.static Lib.Math.abs.name ∈ WS ∧ Cond.initialized "java/lang/Math" ∈ WS ∧ Cond.code Lib.Math.abs.name Lib.Math.abs.code 1 (some .int) ∈ WS) (h8 : (rest.map fun v => v.category).sum ≤ 8) (k : FW g mt (d + 1) (pc + 3) ls (.int (iabs x) :: rest) M bc bs Φ) : FW g mt (d + 1) pc ls (.int x :: rest) M bc bs Φ := by
  intro p l e R s m args below meth c H locs cells slots Q lsA hC hR h1 h2 hS hP hl
  have hts := hC.2.2.2.2.1
  have hlo := hC.2.2.2.2.2.2.2.2.2.1
  have hfr := hC.2.2.2.2.2.2.2.2.1
  have h9 := fw_sum8 (g := g) h8
  exact va_mabs hC.1 hC.2.1 (by rw [hl.1, hC.2.2.1]) hC.2.2.2.1 (hts _ hw.1) (hts _ hw.2.1) (hts _ hw.2.2.1) (hts _ hw.2.2.2) (by omega) (by omega) (by omega) (by omega) hd (k p l e R s m args below meth c H locs cells slots Q lsA hC hR h1 h2 hS hP hl)
end MTH
theorem hd_le {a b d : Nat} (h : b ≤ d + 1) (h2 : a + 1 ≤ b) : a ≤ d := by omega
