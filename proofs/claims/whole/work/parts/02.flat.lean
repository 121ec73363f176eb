/-! ===== the flat machine: memory by numbers of cells; what it says of the heap; what a stretch of a method comes to ===== -/
def WS : List Cond := lw_tbl.filter goodWord
theorem WS_good : GoodIn WS WS := fun _ h => ⟨h, good_of_word (List.mem_filter.mp h).2⟩
theorem WS_in {w : Cond} (i : Nat) (h : lw_tbl[i]? = some w) (hg : goodWord w = true) : w ∈ WS := List.mem_filter.mpr ⟨List.mem_of_getElem? h, hg⟩
def isNest : Cond → Bool
  | .methodLinkNest .. => true
  | .fieldLinkNest .. => true
  | _ => false
def NW : List Cond := lw_tbl.filter isNest
theorem NW_in {w : Cond} (i : Nat) (h : lw_tbl[i]? = some w) (hg : isNest w = true) : w ∈ NW := List.mem_filter.mpr ⟨List.mem_of_getElem? h, hg⟩
abbrev fM : Type := (Nat → Nat → Int32) × (Nat → Nat → Int64) × (Nat → Nat → Option Nat) × List (Nat × Nat)
def mI (M : fM) (r k : Nat) : Int32 := M.1 r k
def mJ (M : fM) (r k : Nat) : Int64 := M.2.1 r k
def mP (M : fM) (r k : Nat) : Option Nat := M.2.2.1 r k
def mS (M : fM) (r : Nat) : Option (Nat × Nat) := M.2.2.2[r]?
def mN (M : fM) : Nat := M.2.2.2.length
def wI (M : fM) (r k : Nat) (v : Int32) : fM := (fun r' k' => if r' = r ∧ k' = k then v else M.1 r' k', M.2)
def wJ (M : fM) (r k : Nat) (v : Int64) : fM := (M.1, fun r' k' => if r' = r ∧ k' = k then v else M.2.1 r' k', M.2.2)
def wP (M : fM) (r k : Nat) (v : Option Nat) : fM := (M.1, M.2.1, fun r' k' => if r' = r ∧ k' = k then v else M.2.2.1 r' k', M.2.2.2)
def mNew (M : fM) (kd len : Nat) : fM := (fun r k => if r = mN M then 0 else M.1 r k, fun r k => if r = mN M then 0 else M.2.1 r k, fun r k => if r = mN M then none else M.2.2.1 r k, M.2.2.2 ++ [(kd, len)])
abbrev GT : Type := Nat × va_G × (Nat → ClassId) × (Nat → Nat) × Nat × (Nat → Int32)
def gB (g : GT) : Nat := g.1
def gD (g : GT) : va_G := g.2.1
def gC (g : GT) : Nat → ClassId := g.2.2.1
def gT (g : GT) : Nat → Nat := g.2.2.2.1
def gL (g : GT) : Nat := g.2.2.2.2.1
def gX (g : GT) : Nat → Int32 := g.2.2.2.2.2
def gA (g : GT) : Nat → Prop := fun q => gB g ≤ q
def ad (g : GT) (r : Nat) : Nat := if r < 6 then gT g r else gB g + (r - 6)
/-- the formatter that the JDK carries: nobody asks which -/
def fV (g : GT) : Value := if gT g 6 = 0 then .null else .ref 5
def rv (g : GT) (o : Option Nat) : Value := va_rf (o.map (ad g))
def tr (g : GT) : Value → Value
  | .ref r => .ref (ad g r)
  | v => v
def fr (o : Option Nat) : Value := va_rf o
def trL (g : GT) (q : Nat × Value) : Nat × Value := (q.1, tr g q.2)
theorem tr_cat (g : GT) (v : Value) : (tr g v).category = v.category := by cases v <;> rfl
theorem tr_fr (g : GT) (o : Option Nat) : tr g (fr o) = rv g o := by cases o <;> rfl
def ftyL : List (List Nat) := [[0, 2, 0, 0, 3], [2, 2, 2, 0, 0], [2, 2, 2, 2, 2], [0, 2, 2, 0, 3, 0, 0, 2, 2, 2, 2, 2, 1], [0, 0, 2, 2, 2, 2, 2, 2, 0, 0, 0, 0, 0, 0], [2, 2, 2, 2, 0, 0, 0, 2, 2, 0, 2, 0, 0, 2, 0, 0, 2, 0], [2, 2, 2], [2, 0, 2, 2, 2, 0], [2, 2, 2, 2, 2], [2, 2], [2, 2, 2, 2, 2, 2, 2, 2], [2, 2, 2, 2, 0, 0, 0, 0, 0, 0, 0, 1, 0, 0, 0, 0, 2, 0, 0, 3, 0, 2, 2, 2, 2, 1, 1, 0, 1, 1, 2, 2]]
def fty (kd k : Nat) : Nat := (ftyL.getD kd []).getD k 0
def fval (g : GT) (M : fM) (r kd k : Nat) : Value := match fty kd k with
  | 1 => .long (mJ M r k)
  | 2 => rv g (mP M r k)
  | _ => .int (mI M r k)
def aval (g : GT) (M : fM) (r kd j : Nat) : Value := if kd = 13 then .long (mJ M r j) else if kd = 15 ∨ kd = 16 then rv g (mP M r j) else .int (mI M r j)
def cellAt (g : GT) (M : fM) (r : Nat) (sh : Nat × Nat) (H : Heap) : Prop :=
  if sh.1 < 12 then ∃ q : vw_C, vwCl[sh.1]? = some q ∧ t_OB (ad g r) ((gD g).1 sh.1) q.2.2 ((gD g).2 sh.1) H (fval g M r sh.1)
  else H[ad g r]? = some (arrV (gC g sh.1) sh.2 (aval g M r sh.1))
def shpL : List Int32 := [0, 3, 17, 1, 14, (-1), 1, 0, (-1), 1, 9, 18, 1, 14, 19, 0, 3, (-1), 1, 14, 19, 0, 3, (-1), 1, 0, (-1), 0, 14, 19, 0, 3, (-1), 1, 0, (-1), 0, 10, 1, 0, 10, 20, 0, 10, (-1), 0, 5, 18, 0, 3, (-1), 1, 0, (-1), 0, 5, 18, 0, 3, (-1), 1, 0, (-1), 0, 5, 18, 0, 3, (-1), 1, 0, (-1), 1, 20, (-1), 1, 0, (-1), 1, 0, (-1), 1, 20, (-1), 1, 0, (-1), 1, 0, (-1), 1, 0, (-1), 1, 0, (-1), 1, 0, (-1), 1, 99, (-1), 1, 0, (-1), 1, 0, (-1)]
def powL : List Int64 := [1, 10, 100, 1000, 10000, 100000, 1000000, 10000000, 100000000, 1000000000, 10000000000, 100000000000, 1000000000000, 10000000000000, 100000000000000, 1000000000000000]
def worL : List Int32 := [32, 110, 111, 110, 101, 32, 116, 119, 105, 99, 101, 32, 116, 114, 105, 112, 115, 32, 106, 97, 114, 32, 102, 97, 108, 108, 32, 115, 116, 97, 105, 114, 32, 104, 105, 103, 104, 32, 109, 97, 114, 107, 32, 114, 97, 105, 108, 32, 111, 110, 101, 32, 98, 101, 103, 105, 110, 32, 108, 111, 97, 100, 32, 100, 114, 105, 110, 107, 32, 115, 116, 101, 112, 32, 116, 111, 101, 32, 115, 116, 111, 112, 32, 110, 105, 103, 104, 116, 32, 108, 111, 110, 103, 32, 97, 116, 32, 111, 102, 32, 108, 97, 110, 100, 105, 110, 103, 32, 105, 102, 32, 101, 110, 100, 32, 110, 111, 116, 32, 111, 114, 32, 97, 110, 100, 32, 119, 104, 111, 32, 104, 111, 117, 115, 101, 32, 115, 116, 101, 112, 115, 32, 100, 114, 117, 110, 107, 32, 108, 111, 97, 100, 101, 100, 32, 110, 105, 103, 104, 116, 115, 32, 110, 116, 104, 32, 104, 101, 105, 103, 104, 116, 32, 108, 97, 115, 116, 32]
def wIdx : Nat := 72
/-- what the static cells hold: the script, the shapes, the powers -/
def stOK (g : GT) (M : fM) : Prop := mS M 0 = some (12, gL g) ∧ mS M 1 = some (12, 108) ∧ mS M 2 = some (13, 16) ∧ mS M 3 = some (17, 0) ∧ mS M 4 = some (18, worL.length) ∧ mS M 5 = some (19, 0) ∧ (∀ j, j < worL.length → mI M 4 j = worL.getD j 0) ∧ (∀ j, j < gL g → mI M 0 j = gX g j) ∧ (∀ j, j < 108 → mI M 1 j = shpL.getD j 0) ∧ ∀ j, j < 16 → mJ M 2 j = powL.getD j 0
def Rp (g : GT) (M : fM) (H : Heap) : Prop := H.size + 6 = gB g + mN M ∧ 6 ≤ mN M ∧ stOK g M ∧ ∀ r sh, 6 ≤ r → mS M r = some sh → cellAt g M r sh H
def tysOf (g : GT) : List (ClassId × FieldType) := [(gC g 12, .int), (gC g 13, .long), (gC g 14, .boolean), (gC g 15, .object "OneStepMore$House"), (gC g 16, .object "OneStepMore$Text")]
/-- what stays below the world: static arrays and fields, the words' text, the nest's links -/
def Sta (g : GT) (U : State) (H : Heap) : Prop :=
  va_T .int (gT g 0) (gL g) (fun j => .int (gX g j)) (gA g) U H ∧ va_T .int (gT g 1) 108 (fun j => .int (shpL.getD j 0)) (gA g) U H ∧ va_T .long (gT g 2) 16 (fun j => .long (powL.getD j 0)) (gA g) U H ∧
  va_Z "OneStepMore" "SHAPES" "[I" (.ref (gT g 1)) (gA g) U H ∧ va_Z "OneStepMore" "POWERS" "[J" (.ref (gT g 2)) (gA g) U H ∧
  va_Z "java/lang/String" "COMPACT_STRINGS" "Z" (.int 1) (gA g) U H ∧ va_Z "jdk/internal/util/Preconditions" "SIOOBE_FORMATTER" "Ljava/util/function/BiFunction;" (tr g (fV g)) (gA g) U H ∧
  vk_S 1 [worL.length] [worL] (fun _ => gT g 3) (fun _ => gT g 4) (gA g) U H ∧
  (∀ w ∈ NW, va_Nw w U) ∧ va_AO "OneStepMore$House" U ∧ va_AO "OneStepMore$Text" U ∧ va_Nw (.castable "[I" "java/lang/Cloneable") U ∧ vk_R "OneStepMore$Tape" wIdx " none twice trips jar fall stair high mark rail one begin load drink step toe stop night long at of landing if end not or and who house steps drunk loaded nights nth height last " (gT g 3) U
theorem NW_warm {s U : State} (hW : s.WarmedH U.vm) (h : ∀ w ∈ NW, va_Nw w s) : ∀ w ∈ NW, va_Nw w U := by
  intro w hw
  have hn := (List.mem_filter.mp hw).2
  have h1 := h w hw
  cases w <;> first | exact va_Nw.warmM hW h1 | exact va_Nw.warmF hW h1 | (simp [isNest] at hn)
theorem Sta.moved {g : GT} {s U : State} {H H1 : Heap} (hW : s.WarmedH U.vm) (hq : ∀ a : Nat, a < H.size → ¬ gA g a → H1[a]? = H[a]?) (h : Sta g s H) : Sta g U H1 := by
  obtain ⟨a1, a2, a3, a4, a5, a6, a7, a8, a9, a10, a11, a12, a13⟩ := h
  have hv := hW.alike
  exact ⟨(a1.moved hv).kept hq, (a2.moved hv).kept hq, (a3.moved hv).kept hq, (a4.moved hv).kept hq, (a5.moved hv).kept hq, (a6.moved hv).kept hq, (a7.moved hv).kept hq, (a8.moved hv).kept hq, NW_warm hW a9, a10.moved hv, a11.moved hv, a12.warmC hW, a13.warm hW⟩
theorem Sta.sameVm {g : GT} {s U : State} {H : Heap} (hv : U.vm = s.vm) (h : Sta g s H) : Sta g U H := by
  obtain ⟨a1, a2, a3, a4, a5, a6, a7, a8, a9, a10, a11, a12, a13⟩ := h
  have ha : s.vm.Alike U.vm := by rw [hv]; exact Vm.Alike.refl _
  exact ⟨a1.moved ha, a2.moved ha, a3.moved ha, a4.moved ha, a5.moved ha, a6.moved ha, a7.moved ha, a8.moved ha, fun w hw => (a9 w hw).same (by have hn := (List.mem_filter.mp hw).2; cases w <;> first | rfl | (simp [isNest] at hn)) hv.symm, a10.moved ha, a11.moved ha, a12.same rfl hv.symm, a13.same hv⟩
abbrev MT : Type := MethodName × ByteArray × Nat × Option FieldType
def Cx (g : GT) (mt : MT) (d : Nat) (p : Program) (R : Room) (s : State) (m : MethodId) (args : Array Value) (meth : Method) (c : Code) : Prop :=
  p.tables.exec = Jvm.exec ∧ c.code = mt.2.1 ∧ c.maxLocals = mt.2.2.1 ∧ s.vm.findClass mt.1.cls = some m.cls ∧ (∀ w ∈ WS, w.before args s = true) ∧ (mt.1.name = "<init>" → meth.name = "<init>") ∧ va_K (gD g) vwCl (tysOf g) s ∧ Sta g s s.heap ∧ d ≤ R.frames ∧ 40 * d ≤ R.locals ∧ gB g ≤ s.heap.size
def retOK (ret : Option FieldType) (v : Option Value) (rI : Instr) : Prop := match v with
  | none => rI = .return_ ∧ ret = none
  | some (.int x) => rI = .ireturn ∧ (ret = some .int ∨ (ret = some .boolean ∧ narrow .boolean (.int x) = .int x) ∨ (ret = some .char ∧ narrow .char (.int x) = .int x) ∨ (ret = some .byte ∧ narrow .byte (.int x) = .int x))
  | some (.long _) => rI = .lreturn ∧ ret = some .long
  | some .null => rI = .areturn ∧ ∃ rt, ret = some rt ∧ ((∃ n, rt = .object n) ∨ ∃ t, rt = .array t)
  | some (.ref _) => rI = .areturn ∧ ∃ rt, ret = some rt ∧ ((∃ n, rt = .object n) ∨ ∃ t, rt = .array t)
  | _ => False
def Rt (g : GT) (mt : MT) (p : Program) (l : Launch) (e : Env) (R : Room) (s : State) (m : MethodId) (args : Array Value) (below : List Frame) (meth : Method) (c : Code) (Φ : Option Value → fM → Prop) (Q : State → Prop) : Prop :=
  ∀ (v : Option Value) (M' : fM) (H' : Heap) (locs' : List Loc) (cells' slots' pc' : Nat) (lsA' : Array Slot) (rI : Instr), Φ v M' → Rp g M' H' → va_S (gA g) s.heap H' locs' → cells' ≤ R.cells → slots' ≤ R.slots → retOK mt.2.2.2 v rI → decode mt.2.1 pc' = .ok (rI, 1) → W p l e R s m args below meth c H' locs' cells' slots' Q (F0 m pc' lsA' (v.map (tr g)).toList)
/-- from pc on, with these locals and this stack, over memory M, with room for bc cells of bs slots: the method returns, and Φ holds of its answer and the memory then -/
def FW (g : GT) (mt : MT) (d : Nat) (pc : Nat) (ls : List (Nat × Value)) (stk : List Value) (M : fM) (bc bs : Nat) (Φ : Option Value → fM → Prop) : Prop :=
  ∀ (p : Program) (l : Launch) (e : Env) (R : Room) (s : State) (m : MethodId) (args : Array Value) (below : List Frame) (meth : Method) (c : Code) (H : Heap) (locs : List Loc) (cells slots : Nat) (Q : State → Prop) (lsA : Array Slot),
    Cx g mt d p R s m args meth c → Rt g mt p l e R s m args below meth c Φ Q → cells + bc ≤ R.cells → slots + bs ≤ R.slots → va_S (gA g) s.heap H locs → Rp g M H → lv_has lsA mt.2.2.1 (ls.map (trL g)) → W p l e R s m args below meth c H locs cells slots Q (F0 m pc lsA (stk.map (tr g)))
def Gd (g : GT) (M : fM) (U : State) : Prop := va_K (gD g) vwCl (tysOf g) U ∧ Sta g U U.heap ∧ Rp g M U.heap
/-- a call of a method over memory M returns, at the depth d, with at most mc cells of ms slots made -/
def FC (g : GT) (mt : MT) (d : Nat) (av : List Value) (M : fM) (mc ms : Nat) (Φ : Option Value → fM → Prop) : Prop :=
  ∀ l : Launch, Met l mt.1 (Cond.code mt.1 mt.2.1 mt.2.2.1 mt.2.2.2 :: WS) { frames := d, cells := mc, slots := ms, locals := 40 * d } (va_Pc (av.map (tr g)) (Gd g M)) (fun _ st o t => (∃ v M', o = .returned (v.map (tr g)) ∧ Φ v M' ∧ Gd g M' t) ∧ va_F (gA g) st t) mc ms (gA g)
theorem FW.mono {g : GT} {mt : MT} {d pc : Nat} {ls : List (Nat × Value)} {stk : List Value} {M : fM} {bc bs : Nat} {Φ Ψ : Option Value → fM → Prop} (h : FW g mt d pc ls stk M bc bs Φ) (hi : ∀ v M', Φ v M' → Ψ v M') : FW g mt d pc ls stk M bc bs Ψ := by
  intro p l e R s m args below meth c H locs cells slots Q lsA hC hR h1 h2 hS hP hl
  exact h p l e R s m args below meth c H locs cells slots Q lsA hC (fun v M' H' locs' cells' slots' pc' lsA' rI q => hR v M' H' locs' cells' slots' pc' lsA' rI (hi v M' q)) h1 h2 hS hP hl
theorem FW.pure {g : GT} {mt : MT} {d pc pc' : Nat} {ls : List (Nat × Value)} {stk stk' : List Value} {M : fM} {bc bs : Nat} {Φ : Option Value → fM → Prop}
    (h : ∀ (p : Program) (l : Launch) (e : Env) (R : Room) (s : State) (m : MethodId) (args : Array Value) (below : List Frame) (meth : Method) (c : Code) (H : Heap) (locs : List Loc) (cells slots : Nat) (Q : State → Prop) (lsA : Array Slot), p.tables.exec = Jvm.exec → c.code = mt.2.1 → s.vm.findClass mt.1.cls = some m.cls → (∀ w ∈ WS, w.before args s = true) → lv_has lsA mt.2.2.1 (ls.map (trL g)) → W p l e R s m args below meth c H locs cells slots Q (F0 m pc' lsA (stk'.map (tr g))) → W p l e R s m args below meth c H locs cells slots Q (F0 m pc lsA (stk.map (tr g))))
    (k : FW g mt d pc' ls stk' M bc bs Φ) : FW g mt d pc ls stk M bc bs Φ := by
  intro p l e R s m args below meth c H locs cells slots Q lsA hC hR h1 h2 hS hP hl
  exact h p l e R s m args below meth c H locs cells slots Q lsA hC.1 hC.2.1 hC.2.2.2.1 hC.2.2.2.2.1 hl (k p l e R s m args below meth c H locs cells slots Q lsA hC hR h1 h2 hS hP hl)
theorem FW.store {g : GT} {mt : MT} {d pc pc' : Nat} {ls ls' : List (Nat × Value)} {stk stk' : List Value} {M : fM} {bc bs : Nat} {Φ : Option Value → fM → Prop}
    (h : ∀ (p : Program) (l : Launch) (e : Env) (R : Room) (s : State) (m : MethodId) (args : Array Value) (below : List Frame) (meth : Method) (c : Code) (H : Heap) (locs : List Loc) (cells slots : Nat) (Q : State → Prop) (lsA : Array Slot), p.tables.exec = Jvm.exec → c.code = mt.2.1 → lv_has lsA mt.2.2.1 (ls.map (trL g)) → (∀ lsB, lv_has lsB mt.2.2.1 (ls'.map (trL g)) → W p l e R s m args below meth c H locs cells slots Q (F0 m pc' lsB (stk'.map (tr g)))) → W p l e R s m args below meth c H locs cells slots Q (F0 m pc lsA (stk.map (tr g))))
    (k : FW g mt d pc' ls' stk' M bc bs Φ) : FW g mt d pc ls stk M bc bs Φ := by
  intro p l e R s m args below meth c H locs cells slots Q lsA hC hR h1 h2 hS hP hl
  exact h p l e R s m args below meth c H locs cells slots Q lsA hC.1 hC.2.1 hl (fun lsB hlB => k p l e R s m args below meth c H locs cells slots Q lsB hC hR h1 h2 hS hP hlB)
theorem FW.br {g : GT} {mt : MT} {d pc pc1 pc2 : Nat} {ls : List (Nat × Value)} {stk stk' : List Value} {M : fM} {bc bs : Nat} {Φ : Option Value → fM → Prop} {cnd : Prop}
    (h : ∀ (p : Program) (l : Launch) (e : Env) (R : Room) (s : State) (m : MethodId) (args : Array Value) (below : List Frame) (meth : Method) (c : Code) (H : Heap) (locs : List Loc) (cells slots : Nat) (Q : State → Prop) (lsA : Array Slot), p.tables.exec = Jvm.exec → c.code = mt.2.1 → (cnd → W p l e R s m args below meth c H locs cells slots Q (F0 m pc1 lsA (stk'.map (tr g)))) → (¬ cnd → W p l e R s m args below meth c H locs cells slots Q (F0 m pc2 lsA (stk'.map (tr g)))) → W p l e R s m args below meth c H locs cells slots Q (F0 m pc lsA (stk.map (tr g))))
    (k1 : cnd → FW g mt d pc1 ls stk' M bc bs Φ) (k2 : ¬ cnd → FW g mt d pc2 ls stk' M bc bs Φ) : FW g mt d pc ls stk M bc bs Φ := by
  intro p l e R s m args below meth c H locs cells slots Q lsA hC hR h1 h2 hS hP hl
  exact h p l e R s m args below meth c H locs cells slots Q lsA hC.1 hC.2.1 (fun hc => k1 hc p l e R s m args below meth c H locs cells slots Q lsA hC hR h1 h2 hS hP hl) (fun hc => k2 hc p l e R s m args below meth c H locs cells slots Q lsA hC hR h1 h2 hS hP hl)
theorem lv_pick_map (g : GT) (ls : List (Nat × Value)) (ks : List Nat) : lv_pick (ls.map (trL g)) ks = (lv_pick ls ks).map (trL g) := by
  unfold lv_pick
  rw [List.map_filterMap]
  congr 1
  funext k
  rw [List.getElem?_map]
theorem FW.sub {g : GT} {mt : MT} {d pc : Nat} {ls ls' : List (Nat × Value)} {stk : List Value} {M : fM} {bc bs : Nat} {Φ : Option Value → fM → Prop} (ks : List Nat) (hl : lv_pick ls ks = ls') (k : FW g mt d pc ls' stk M bc bs Φ) : FW g mt d pc ls stk M bc bs Φ := by
  intro p l e R s m args below meth c H locs cells slots Q lsA hC hR h1 h2 hS hP hl2
  exact k p l e R s m args below meth c H locs cells slots Q lsA hC hR h1 h2 hS hP (lv_sub hl2 ks (by rw [lv_pick_map, hl]))
/-- room to spare -/
theorem FW.room {g : GT} {mt : MT} {d pc : Nat} {ls : List (Nat × Value)} {stk : List Value} {M : fM} {bc bs bc' bs' : Nat} {Φ : Option Value → fM → Prop} (h1 : bc' ≤ bc) (h2 : bs' ≤ bs) (k : FW g mt d pc ls stk M bc' bs' Φ) : FW g mt d pc ls stk M bc bs Φ := by
  intro p l e R s m args below meth c H locs cells slots Q lsA hC hR g1 g2 hS hP hl2
  exact k p l e R s m args below meth c H locs cells slots Q lsA hC hR (by omega) (by omega) hS hP hl2
theorem trL_at {g : GT} {ls : List (Nat × Value)} {lsA : Array Slot} {nL k i : Nat} {v : Value} (hl : lv_has lsA nL (ls.map (trL g))) (hk : ls[k]? = some (i, v)) : lsA[i]? = some (.val (tr g v)) := lv_at hl k (by rw [List.getElem?_map, hk]; rfl)
theorem trL_f1 (g : GT) (i : Nat) (ls : List (Nat × Value)) : (ls.map (trL g)).filter (fun q => !(q.1 == i) && !(q.1 + 1 == i && q.2.category == 2)) = (ls.filter (fun q => !(q.1 == i) && !(q.1 + 1 == i && q.2.category == 2))).map (trL g) := by
  rw [List.filter_map]
  congr 1
  congr 1
  funext q
  simp [trL, tr_cat]
theorem trL_f2 (g : GT) (i : Nat) (ls : List (Nat × Value)) : (ls.map (trL g)).filter (fun q => !(q.1 == i) && (!(q.1 == i + 1) && !(q.1 + 1 == i && q.2.category == 2))) = (ls.filter (fun q => !(q.1 == i) && (!(q.1 == i + 1) && !(q.1 + 1 == i && q.2.category == 2)))).map (trL g) := by
  rw [List.filter_map]
  congr 1
  congr 1
  funext q
  simp [trL, tr_cat]
