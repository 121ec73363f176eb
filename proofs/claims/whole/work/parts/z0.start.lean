/-! THE CLAIM OUT OF ONE WALK OF THE LAW'S BODY. Your part is whole_start (and what it stands on); all else here is the same for every law, but numbers. -/
def R_law : String := "OneStepMoreLaw"
def lw_P (b : Addr) (xs : List Int32) (args : Array Value) (s : State) : Prop := args = #[.ref b] ∧ s.IntsAt b xs ∧ xs.length ≤ 3584 ∧ (Jvm.Cond.and given_1 narrow_1).before args s = true
def lw_Q (_ : Array Value) (s : State) (o : Outcome) (t : State) : Prop := o = .returned (some (.int 1)) ∧ Framed s o t [] 602115 7295903
def lw_Z (below : List Frame) (a : Array Value) (s : State) : State → Prop := fun t => ∃ o, t.status = .running ∧ Ended t below o ∧ lw_Q a s o t
/-- the law's own end, with 1 on the stack, nothing written that was there before, its room as the claim has it -/
theorem lw_ret {p : Program} {l : Launch} {e : Env} {s : State} {m : MethodId} {below : List Frame} {meth : Method} {c : Code} {b : Nat} (hx : p.tables.exec = Jvm.exec) (hb : c.code = code) (hr : meth.sig.returnType = ret) (hlocks : meth.locks = false) {pc : Nat} {H : Heap} {ls : Array Slot} (hdg : decode code pc = .ok (.ireturn, 1)) : W p l e room_1 s m #[Value.ref b] below meth c H [] 602115 7295903 (lw_Z below #[Value.ref b] s) (F0 m pc ls [.int 1]) := by
  intro T hT X
  obtain ⟨fs, hret, hrun, hended, hW, hframe⟩ := X.leave (v := some (.int 1)) (hlocks := hlocks) (fun h => by rw [hr] at h; cases h)
  have hmeth' : T.vm.method? m = some meth := X.method'
  refine ⟨T.setFrames fs, ?_, .returned (some (.int 1)), hrun, hended, rfl, ⟨_, rfl⟩, hW, hframe⟩
  jvm_step X.here [X.here.top, hx, hb, hdg, hmeth', hr, ret, narrow_b1]
  (try refine ⟨rfl, ?_⟩); (try refine ⟨rfl, ?_⟩)
  first | (intro acts; rw [hret _ acts rfl rfl rfl]) | rw [hret _ _ rfl rfl rfl]
  exact Steps.refl _
/-- what holds at the law's entry: the machine, the code, the tables' words (any of lw_tbl by 'hts w (by decide +kernel)'), the script of L ints xs at the cell b, what the Statement gives of the start (any of its parts by flat_of_before) -/
def lw_At (p : Program) (s : State) (m : MethodId) (meth : Method) (c : Code) (b L : Nat) (xs : Nat → Int32) : Prop :=
  p.tables.exec = Jvm.exec ∧ c.code = code ∧ meth.sig.returnType = ret ∧ c.maxLocals = 4 ∧ s.vm.findClass R_law = some m.cls ∧ (∀ w ∈ lw_tbl, w.before #[Value.ref b] s = true) ∧ va_X b L xs s s.heap ∧ b < s.heap.size ∧ meth.locks = false ∧ (Jvm.Cond.and given_1 narrow_1).before #[Value.ref b] s = true
/-! ===== the start: what the Statement gives, as the flat machine has it; the claim out of the flat law ===== -/
theorem TB_t1 {w : Cond} (i : Nat) (h : tables_1_1[i]? = some w) : w ∈ lw_tbl := List.mem_append_right _ (List.mem_append_left _ (List.mem_of_getElem? h))
theorem TB_t2 {w : Cond} (i : Nat) (h : tables_1_2[i]? = some w) : w ∈ lw_tbl := List.mem_append_right _ (List.mem_append_right _ (List.mem_append_left _ (List.mem_of_getElem? h)))
theorem TB_t3 {w : Cond} (i : Nat) (h : tables_1_3[i]? = some w) : w ∈ lw_tbl := List.mem_append_right _ (List.mem_append_right _ (List.mem_append_right _ (List.mem_append_left _ (List.mem_of_getElem? h))))
theorem TB_t4 {w : Cond} (i : Nat) (h : tables_1_4[i]? = some w) : w ∈ lw_tbl := List.mem_append_right _ (List.mem_append_right _ (List.mem_append_right _ (List.mem_append_right _ (List.mem_append_left _ (List.mem_of_getElem? h)))))
theorem TB_t5 {w : Cond} (i : Nat) (h : tables_1_5[i]? = some w) : w ∈ lw_tbl := List.mem_append_right _ (List.mem_append_right _ (List.mem_append_right _ (List.mem_append_right _ (List.mem_append_right _ (List.mem_append_left _ (List.mem_of_getElem? h))))))
theorem TB_t6 {w : Cond} (i : Nat) (h : tables_1_6[i]? = some w) : w ∈ lw_tbl := List.mem_append_right _ (List.mem_append_right _ (List.mem_append_right _ (List.mem_append_right _ (List.mem_append_right _ (List.mem_append_right _ (List.mem_append_left _ (List.mem_of_getElem? h)))))))
theorem TB_t7 {w : Cond} (i : Nat) (h : tables_1_7[i]? = some w) : w ∈ lw_tbl := List.mem_append_right _ (List.mem_append_right _ (List.mem_append_right _ (List.mem_append_right _ (List.mem_append_right _ (List.mem_append_right _ (List.mem_append_right _ (List.mem_append_left _ (List.mem_of_getElem? h))))))))
theorem TB_t8 {w : Cond} (i : Nat) (h : tables_1_8[i]? = some w) : w ∈ lw_tbl := List.mem_append_right _ (List.mem_append_right _ (List.mem_append_right _ (List.mem_append_right _ (List.mem_append_right _ (List.mem_append_right _ (List.mem_append_right _ (List.mem_append_right _ (List.mem_of_getElem? h))))))))
theorem WS_tbl {w : Cond} (h : w ∈ WS) : w ∈ lw_tbl := (List.mem_filter.mp h).1
theorem NW_tbl {w : Cond} (h : w ∈ NW) : w ∈ lw_tbl := (List.mem_filter.mp h).1
theorem inst_all : ∀ (k : Nat) (q : vw_C), vwCl[k]? = some q → Cond.instantiable q.1 q.2.2 ∈ lw_tbl
  | 0, _, h => by cases h; exact (TB_t1 61 rfl)
  | 1, _, h => by cases h; exact (TB_t1 29 rfl)
  | 2, _, h => by cases h; exact (TB_t2 99 rfl)
  | 3, _, h => by cases h; exact (TB_t2 35 rfl)
  | 4, _, h => by cases h; exact (TB_t1 211 rfl)
  | 5, _, h => by cases h; exact (TB_t1 52 rfl)
  | 6, _, h => by cases h; exact (TB_t2 83 rfl)
  | 7, _, h => by cases h; exact (TB_t1 182 rfl)
  | 8, _, h => by cases h; exact (TB_t3 180 rfl)
  | 9, _, h => by cases h; exact (TB_t2 22 rfl)
  | 10, _, h => by cases h; exact (TB_t1 21 rfl)
  | 11, _, h => by cases h; exact (TB_t6 51 rfl)
  | k + 12, _, h => by simp [vwCl] at h
def M0 (L : Nat) (xs : Nat → Int32) : fM := (fun r k => if r = 0 then xs k else if r = 1 then shpL.getD k 0 else if r = 4 then worL.getD k 0 else 0, fun r k => if r = 2 then powL.getD k 0 else 0, fun _ _ => none, [(12, L), (12, 108), (13, 16), (17, 0), (18, worL.length), (19, 0)])
theorem arrOf_spec {s : State} {cA comp : ClassId} {kA : Class} {ty : FieldType} (h2 : s.vm.classes[cA]? = some kA) (h3 : kA.kind = .array comp ty) : ArrOfT s cA ty := fun n z => ⟨fun k h => (by cases h), kA, h2, comp, h3⟩
set_option maxRecDepth 100000 in
theorem start_g {s : State} {b L : Nat} {xs : Nat → Int32} {args : Array Value} (hL : L ≤ 3584) (hts : ∀ w ∈ lw_tbl, w.before args s = true) (hX : va_X b L xs s s.heap) (hbl : b < s.heap.size) (hgv : (Jvm.Cond.and given_1 narrow_1).before args s = true) : ∃ g : GT, gB g = s.heap.size ∧ ad g 0 = b ∧ va_K (gD g) vwCl (tysOf g) s ∧ Sta g s s.heap ∧ Rp g (M0 L xs) s.heap := by
  have hs := flat_of_before _ hgv
  have hA : ∀ a : Nat, a < s.heap.size → ¬ (fun q : Nat => s.heap.size ≤ q) a := fun a h h2 => by
    have h2 : s.heap.size ≤ a := h2
    omega
  -- the classes
  have h0 : ∀ k : Nat, ∃ x : ClassId × (Nat → Nat), ∀ q, vwCl[k]? = some q → u_Kn s q.1 q.2.1 q.2.2 x.1 x.2 := by
    intro k
    cases hq : vwCl[k]? with
    | none => exact ⟨(0, fun _ => 0), fun q h => by cases h⟩
    | some q =>
      obtain ⟨⟨hin, -⟩, -⟩ := cls_all hq
      obtain ⟨cC, iS, h⟩ := u_known (ws := lw_tbl) (args := args) hts (fun w hw => WS_tbl (hin w hw)) (hts _ (inst_all k q hq))
      exact ⟨(cC, iS), fun q' h' => by cases h'; exact h⟩
  obtain ⟨DD, hDD⟩ := Classical.axiomOfChoice h0
  -- the arrays' classes
  obtain ⟨c12, k12, m12, f12, g12, e12⟩ := Cond.arrayClass_spec (hts _ (TB_t1 50 rfl))
  obtain ⟨c13, k13, m13, f13, g13, e13⟩ := Cond.arrayClass_spec (hts _ (TB_t2 81 rfl))
  obtain ⟨c14, k14, m14, f14, g14, e14⟩ := Cond.arrayClass_spec (hts _ (TB_t6 160 rfl))
  obtain ⟨m15, c15, k15, n15, -, g15, e15, f15⟩ := Cond.arrayOver_spec (hts _ (TB_t1 58 rfl))
  obtain ⟨m16, c16, k16, n16, -, g16, e16, f16⟩ := Cond.arrayOver_spec (hts _ (TB_t1 60 rfl))
  -- the statics
  obtain ⟨t1, ht1, hT1⟩ := va_Tof (s := s) (args := args) (tm := .static "OneStepMore" "SHAPES" "[I") (ty := .int) (N := 108) (f := fun j => .int (shpL.getD j 0)) (A := fun q => s.heap.size ≤ q) (by decide) (hs _ (by decide +kernel)) (va_eqt (hs _ (by decide +kernel))) (fun j hj => va_eqt (hs _ (elem_shp j hj))) hA
  obtain ⟨t2, ht2, hT2⟩ := va_Tof (s := s) (args := args) (tm := .static "OneStepMore" "POWERS" "[J") (ty := .long) (N := 16) (f := fun j => .long (powL.getD j 0)) (A := fun q => s.heap.size ≤ q) (by decide) (hs _ (by decide +kernel)) (va_eqt (hs _ (by decide +kernel))) (fun j hj => va_eqtl (hs _ (elem_pow j hj))) hA
  have hZ1 := va_Zof (hts _ (TB_t3 174 rfl)) (hts _ (TB_t1 1 rfl)) ht1 hA
  have hZ2 := va_Zof (hts _ (TB_t5 58 rfl)) (hts _ (TB_t1 1 rfl)) ht2 hA
  have hZ3 := va_Zof (C := "java/lang/String") (hts _ (TB_t3 51 rfl)) (hts _ (TB_t1 14 rfl)) (va_eqi (hs _ (by decide +kernel) : (Cond.eq (.static "java/lang/String" "COMPACT_STRINGS" "Z") (.int 1)).before args s = true)) hA
  have hZ4 : ∃ (t5 z5 : Nat), va_Z "jdk/internal/util/Preconditions" "SIOOBE_FORMATTER" "Ljava/util/function/BiFunction;" (if z5 = 0 then .null else .ref t5) (fun q => s.heap.size ≤ q) s s.heap := by
    rcases va_Zqof (C := "jdk/internal/util/Preconditions") (hts _ (TB_t3 67 rfl)) (hts _ (TB_t1 16 rfl)) (hs _ (by decide +kernel)) hA with h | ⟨t, h⟩
    · exact ⟨0, 0, h⟩
    · exact ⟨t, 1, h⟩
  obtain ⟨t5, z5, hZ4⟩ := hZ4
  obtain ⟨adK, adV, hSt, hev⟩ := vk_Sof (s := s) (args := args) (N := 1) (tm := fun _ => .string "OneStepMore$Tape" wIdx) (len := [worL.length]) (byt := [worL]) (A := fun q => s.heap.size ≤ q) (fun i hi => by (have h : i = 0 := by omega); subst h; decide) (fun i hi => hs _ (by decide +kernel)) (fun i hi => hs _ (by decide +kernel)) (fun i hi => hs _ (by decide +kernel)) (fun i hi => by (have h : i = 0 := by omega); subst h; exact hs _ (by decide +kernel))
    (fun i hi j hj => by (have h : i = 0 := by omega); subst h; exact hs _ (elem_wor j hj)) (fun i j hi hj hne => absurd (by omega : i = j) hne) hA
  -- the whole
  refine ⟨(s.heap.size, (fun k => (DD k).1, fun k => (DD k).2), (fun k => if k = 12 then c12 else if k = 13 then c13 else if k = 14 then c14 else if k = 15 then c15 else c16), (fun r => if r = 0 then b else if r = 1 then t1 else if r = 2 then t2 else if r = 3 then adK 0 else if r = 4 then adV 0 else if r = 5 then t5 else z5), L, xs), rfl, rfl, ⟨fun k q hq => hDD k q hq, fun k q hq => ?_⟩, ?_, ?_⟩
  · match k, hq with
    | 0, hq => cases hq; exact ⟨arrOf_spec g12 e12, f12⟩
    | 1, hq => cases hq; exact ⟨arrOf_spec g13 e13, f13⟩
    | 2, hq => cases hq; exact ⟨arrOf_spec g14 e14, f14⟩
    | 3, hq => cases hq; exact ⟨arrOf_spec g15 e15, ⟨k15, m15, g15, e15, n15, f15⟩⟩
    | 4, hq => cases hq; exact ⟨arrOf_spec g16 e16, ⟨k16, m16, g16, e16, n16, f16⟩⟩
    | k + 5, hq => simp [tysOf] at hq
  · obtain ⟨scr, x1, x2, x3, x4, x5⟩ := hX
    refine ⟨⟨scr, x1, x2, x3, by rw [x4]; exact Nat.le_refl _, by rw [x4]; rfl, x5, hA b hbl⟩, hT1, hT2, hZ1, hZ2, hZ3, ?_, ?_, fun w hw => va_Nw.of (by
      have hn := (List.mem_filter.mp hw).2
      cases w <;> first | rfl | (simp [isNest] at hn)) (hts w (NW_tbl hw)), va_AO.of (hts _ (TB_t1 58 rfl)), va_AO.of (hts _ (TB_t1 60 rfl)), va_Nw.of rfl (hts _ (TB_t3 189 rfl)), ?_⟩
    · have e : tr (s.heap.size, (fun k => (DD k).1, fun k => (DD k).2), (fun k => if k = 12 then c12 else if k = 13 then c13 else if k = 14 then c14 else if k = 15 then c15 else c16), (fun r => if r = 0 then b else if r = 1 then t1 else if r = 2 then t2 else if r = 3 then adK 0 else if r = 4 then adV 0 else if r = 5 then t5 else z5), L, xs) (fV (s.heap.size, (fun k => (DD k).1, fun k => (DD k).2), (fun k => if k = 12 then c12 else if k = 13 then c13 else if k = 14 then c14 else if k = 15 then c15 else c16), (fun r => if r = 0 then b else if r = 1 then t1 else if r = 2 then t2 else if r = 3 then adK 0 else if r = 4 then adV 0 else if r = 5 then t5 else z5), L, xs)) = (if z5 = 0 then Value.null else Value.ref t5) := by
        by_cases hz : z5 = 0
        · subst hz; rfl
        · unfold fV
          show tr _ (if z5 = 0 then Value.null else Value.ref 5) = _
          rw [if_neg hz, if_neg hz]
          rfl
      rw [e]
      exact hZ4
    · exact ⟨fun i hi => by (have h : i = 0 := by omega); subst h; exact hSt.1 0 (by decide), fun i j hi hj _ => by omega⟩
    · exact vk_R.of (hts _ (TB_t3 41 rfl)) (hev 0 (by decide))
  · refine ⟨rfl, (show 6 ≤ mN (M0 L xs) from Nat.le_refl 6), ⟨rfl, rfl, rfl, rfl, rfl, rfl, fun j _ => rfl, fun j _ => rfl, fun j _ => rfl, fun j _ => rfl⟩, fun r sh h6 h => ?_⟩
    have hlt := mS_lt h
    have e : mN (M0 L xs) = 6 := rfl
    omega
set_option maxRecDepth 100000 in
/-- the law's body comes to its end with true, if the flat law does -/
theorem start_of (hw : ∀ (L : Nat) (xs : Nat → Int32), L ≤ 3584 → w_L_law 0 (M0 L xs) (fun x _ => x = 1)) {p : Program} {e : Env} {s : State} {m : MethodId} {below : List Frame} {meth : Method} {c : Code} (l : Launch) {b L : Nat} {xs : Nat → Int32} (hL : L ≤ 3584) (C0 : lw_At p s m meth c b L xs) : W p l e room_1 s m #[Value.ref b] below meth c s.heap [] 0 0 (lw_Z below #[Value.ref b] s) (entryFrame m ([Value.ref b] : List Value).toArray 4) := by
  obtain ⟨hx, hb, hr, hml, hown, hts, hX, hbl, hlocks, hgv⟩ := id C0
  obtain ⟨g, hB, had, hK, hSt, hP⟩ := start_g hL hts hX hbl hgv
  have hl := lv_entry ([.ref b]) (n := 4) (Nat.le_of_ble_eq_true rfl)
  rw [lg_entry_eq]
  have h := s_L_law (g := g) (d := 100) (by decide) (hw L xs hL)
  refine h p l e room_1 s m #[Value.ref b] below meth c s.heap [] 0 0 (lw_Z below #[Value.ref b] s) _ ⟨hx, hb, hml, hown, fun w hw => hts w (WS_tbl hw), fun h => absurd h (by decide), hK, hSt, by decide, by decide, by rw [hB]; exact Nat.le_refl _⟩ ?_ (by decide) (by decide) va_S.rf hP (by rw [show List.map (trL g) [(0, Value.ref 0)] = [(0, Value.ref (ad g 0))] from rfl, had]; exact hl)
  rintro v M' H' locs' cells' slots' pc' lsA' rI ⟨x, rfl, rfl⟩ hP' hS' hc1 hc2 hret hd
  obtain ⟨rfl, -⟩ := hret
  refine va_forget (fun q hq => by
    have := hS'.2.2 q hq
    unfold gA at this
    rw [hB] at this
    exact this) ?_
  refine W.widen (k := 602115) (n := 7295903) hc1 hc2 ?_
  exact lw_ret hx hb hr hlocks hd
