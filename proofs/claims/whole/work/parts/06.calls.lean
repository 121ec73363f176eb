/-! ===== the flat machine: calls, a method's beginning and its end ===== -/
def QF (g : GT) (Ψ : Option Value → fM → Prop) : State → Outcome → State → Prop := fun st o t => (∃ v M', o = .returned (v.map (tr g)) ∧ Ψ v M' ∧ Gd g M' t) ∧ va_F (gA g) st t
theorem GoodIn_WS {ws : List Cond} (h : ∀ w ∈ ws, w ∈ WS) : GoodIn WS ws := fun w hw => WS_good w (h w hw)
theorem Gd_blind {g : GT} {M : fM} {av : List Value} : FrameBlind (va_Pc av (Gd g M)) := by
  intro a U gg mk h
  obtain ⟨h1, hK, hSt, hP⟩ := h
  exact ⟨h1, va_K.moved (u := U) (U := U.calling gg mk a) (Vm.Alike.refl U.vm) hK, Sta.sameVm (s := U) (U := U.calling gg mk a) rfl hSt, hP⟩
theorem Gd_pre {g : GT} {M : fM} {s U : State} {H : Heap} {locs : List Loc} (hK : va_K (gD g) vwCl (tysOf g) s) (hSt : Sta g s s.heap) (hS : va_S (gA g) s.heap H locs) (hP : Rp g M H) (hU : U.heap = H) (hW : s.WarmedH U.vm) : Gd g M U := ⟨va_K.moved hW.alike hK, by rw [hU]; exact hSt.moved hW hS.2.1, by rw [hU]; exact hP⟩
/-- the words and numbers of a method that is called -/
def mtW (mt' : MT) (n : Nat) : Prop := Cond.code mt'.1 mt'.2.1 mt'.2.2.1 mt'.2.2.2 ∈ WS ∧ Cond.initialized mt'.1.cls ∈ WS ∧ mt'.1.cls ≠ "java/lang/invoke/MethodHandle" ∧ mt'.1.cls ≠ "java/lang/invoke/VarHandle" ∧ (parseMethodDescriptor mt'.1.desc).map (fun d => d.parameters.length) = some n ∧ mt'.2.2.1 ≤ 21
def cvW (own : String) (idx : Nat) (mt' : MT) (n : Nat) : Prop := mtW mt' n ∧ Cond.methodLink own idx mt'.1 ∈ WS ∧ Cond.instanceMethod mt'.1 ∈ WS ∧ Cond.selects mt'.1.cls mt'.1 mt'.1 ∈ WS
def csW (own : String) (idx : Nat) (mt' : MT) (n : Nat) : Prop := mtW mt' n ∧ Cond.methodLink own idx mt'.1 ∈ WS ∧ Cond.static mt'.1 ∈ WS
def ciW (own : String) (idx : Nat) (mt' : MT) (n : Nat) : Prop := mtW mt' n ∧ Cond.methodLink own idx mt'.1 ∈ WS ∧ Cond.instanceMethod mt'.1 ∈ WS ∧ mt'.1.name = "<init>" ∧ mt'.2.2.2 = none
def nsW (own : String) (idx : Nat) (host : String) (mt' : MT) (n : Nat) : Prop := mtW mt' n ∧ Cond.methodLinkNest own idx mt'.1 host ∈ NW ∧ Cond.static mt'.1 ∈ WS
def niW (own : String) (idx : Nat) (host : String) (mt' : MT) (n : Nat) : Prop := mtW mt' n ∧ Cond.methodLinkNest own idx mt'.1 host ∈ NW ∧ Cond.instanceMethod mt'.1 ∈ WS ∧ mt'.1.name = "<init>" ∧ mt'.2.2.2 = none
section RW4
variable {g : GT} {mt mt' : MT} {d pc : Nat} {ls ls' : List (Nat × Value)} {rest : List Value} {M : fM} {bc bs mc ms : Nat} {Φ Ψ : Option Value → fM → Prop}
theorem FW.call {stk : List Value}
    (hrun : ∀ (p : Program) (l : Launch) (e : Env) (R : Room) (s : State) (m : MethodId) (args : Array Value) (below : List Frame) (meth : Method) (c : Code) (H : Heap) (locs : List Loc) (cells slots : Nat) (lsA : Array Slot), Cx g mt (d + 1) p R s m args meth c → cells + mc ≤ R.cells → slots + ms ≤ R.slots → va_S (gA g) s.heap H locs → Rp g M H → lv_has lsA mt.2.2.1 (ls.map (trL g)) → va_Run p l e R s m args below meth c H locs cells slots mc ms (F0 m pc lsA (stk.map (tr g))) (rest.map (tr g)) (QF g Ψ) (gA g))
    (hbc : mc ≤ bc) (hbs : ms ≤ bs) (k : ∀ v M', Ψ v M' → FW g mt (d + 1) (pc + 3) ls (v.toList ++ rest) M' (bc - mc) (bs - ms) Φ) : FW g mt (d + 1) pc ls stk M bc bs Φ := by
  intro p l e R s m args below meth c H locs cells slots Q lsA hC hR h1 h2 hS hP hl T hT X
  obtain ⟨v, st₀, t, T', L, h0, X', hL, e1, e2, ⟨⟨v', M', hv, hp, hG⟩, hz, hk⟩, st⟩ := hrun p l e R s m args below meth c H locs cells slots lsA hC (by omega) (by omega) hS hP hl T hT X
  have hv' : v = v'.map (tr g) := by cases hv; rfl
  subst hv'
  rw [h0] at hz hk
  have hS' : va_S (gA g) s.heap T'.heap (locs ++ L) := ⟨Nat.le_trans hS.1 (by rw [e1]; exact hz), fun q h1 h2 => by rw [e1, hk q (Nat.lt_of_lt_of_le h1 hS.1) h2]; exact hS.2.1 q h1 h2, fun q hq => by
      rcases List.mem_append.mp hq with h | h
      · exact hS.2.2 q h
      · exact hL q h⟩
  obtain ⟨t2, a1, b1⟩ := k v' M' hp p l e R s m args below meth c T'.heap (locs ++ L) (cells + mc) (slots + ms) Q lsA hC hR (by omega) (by omega) hS' (by rw [e1]; exact hG.2.2) hl T' rfl X'
  refine ⟨t2, st t2 ?_, b1⟩
  rw [List.map_append] at a1
  cases v' <;> exact a1
theorem fw_room8 {m : MethodId} {pc : Nat} {lsA : Array Slot} {stk : List Value} {rest : List Value} (h : (rest.map fun v => v.category).sum ≤ 8) : 2 * (F0 m pc lsA stk).monitorRoom + ((rest.map (tr g)).map fun v => v.category).sum ≤ 8 := by
  refine lv_room ?_
  rw [List.map_map]
  have e : (fun v : Value => v.category) ∘ tr g = fun v => v.category := by funext v; exact tr_cat g v
  rw [e]
  exact h
theorem fw_callV (n kd len : Nat) {idx r : Nat} {As : List Value} (hd : decode mt.2.1 pc = .ok (.invokevirtual idx, 3)) (hw : cvW mt.1.cls idx mt' n) (hk : ∃ q : vw_C, vwCl[kd]? = some q ∧ q.1 = mt'.1.cls) (hr : 6 ≤ r) (hs : mS M r = some (kd, len)) (hn : As.length = n) (h8 : (rest.map fun v => v.category).sum ≤ 8) (hcall : FC g mt' d (.ref r :: As) M mc ms Ψ) (hbc : mc ≤ bc) (hbs : ms ≤ bs)
    (k : ∀ v M', Ψ v M' → FW g mt (d + 1) (pc + 3) ls (v.toList ++ rest) M' (bc - mc) (bs - ms) Φ) : FW g mt (d + 1) pc ls (As.reverse ++ .ref r :: rest) M bc bs Φ := by
  refine FW.call (mc := mc) (ms := ms) (Ψ := Ψ) (rest := rest) (fun p l e R s m args below meth c H locs cells slots lsA hC h1 h2 hS hP hl => ?_) hbc hbs k
  obtain ⟨⟨w1, w2, w3, w4, w5, w6⟩, w7, w8, w9⟩ := hw
  obtain ⟨hx, hb, hml, hown, hts, hini, hK, hSt, hfr, hlo, hB⟩ := hC
  obtain ⟨q, hq, hqc⟩ := hk
  have h12 := (cls_all hq).2
  have hc := hP.2.2.2 r _ hr hs
  unfold cellAt at hc
  rw [if_pos h12] at hc
  obtain ⟨q', hq', cell, g1, g2, g3, -⟩ := hc
  have hrec : ∃ cellB : Cell, H[ad g r]? = some cellB ∧ cellB.vm.isStatics = false ∧ s.vm.findClass mt'.1.cls = some cellB.cls := ⟨cell, g1, by rw [g3]; rfl, by rw [g2, ← hqc]; exact (hK.1 kd q hq).2.1⟩
  exact va_runV (As := As.map (tr g)) (b := ad g r) (C := mt'.1.cls) (nL := mt.2.2.1) ⟨hx, hb, hml, hown, hts⟩ (hcall l) (cwV n hts (GoodIn_WS (fun w hw => by
      unfold wsV at hw
      rcases List.mem_append.mp hw with h | h
      · simp only [List.mem_cons, List.not_mem_nil, or_false] at h
        rcases h with h | h | h | h <;> subst h <;> assumption
      · rcases List.mem_cons.mp h with h | h
        · subst h; exact w1
        · exact h)) rfl rfl rfl ⟨rfl, w3, w4, w5⟩ ⟨hfr, by show 8 + (_ + 11) + 40 * d ≤ R.locals; omega⟩)
    ⟨Gd_blind, hrec, fun U hU hW => ⟨by simp [tr], Gd_pre hK hSt hS hP hU hW⟩⟩ rfl (by rw [List.length_map]; exact hn) hl.1 (by simp [tr]) (fw_room8 h8) hd ⟨h1, h2⟩
theorem fw_callS (n : Nat) {idx : Nat} {As : List Value} (hd : decode mt.2.1 pc = .ok (.invokestatic idx, 3)) (hw : csW mt.1.cls idx mt' n) (hn : As.length = n) (h8 : (rest.map fun v => v.category).sum ≤ 8) (hcall : FC g mt' d As M mc ms Ψ) (hbc : mc ≤ bc) (hbs : ms ≤ bs)
    (k : ∀ v M', Ψ v M' → FW g mt (d + 1) (pc + 3) ls (v.toList ++ rest) M' (bc - mc) (bs - ms) Φ) : FW g mt (d + 1) pc ls (As.reverse ++ rest) M bc bs Φ := by
  refine FW.call (mc := mc) (ms := ms) (Ψ := Ψ) (rest := rest) (fun p l e R s m args below meth c H locs cells slots lsA hC h1 h2 hS hP hl => ?_) hbc hbs k
  obtain ⟨⟨w1, w2, w3, w4, w5, w6⟩, w7, w8⟩ := hw
  obtain ⟨hx, hb, hml, hown, hts, hini, hK, hSt, hfr, hlo, hB⟩ := hC
  exact va_runS (As := As.map (tr g)) (nL := mt.2.2.1) ⟨hx, hb, hml, hown, hts⟩ (hcall l) (va_cwS n hts (GoodIn_WS (fun w hw => by
      unfold va_wsS at hw
      rcases List.mem_append.mp hw with h | h
      · simp only [List.mem_cons, List.not_mem_nil, or_false] at h
        rcases h with h | h | h <;> subst h <;> assumption
      · rcases List.mem_cons.mp h with h | h
        · subst h; exact w1
        · exact h)) rfl rfl rfl ⟨w3, w4, w5⟩ ⟨hfr, by show 8 + (_ + 11) + 40 * d ≤ R.locals; omega⟩)
    ⟨Gd_blind, fun U hU hW => ⟨rfl, Gd_pre hK hSt hS hP hU hW⟩⟩ rfl (by rw [List.length_map]; exact hn) hl.1 (by simp) (fw_room8 h8) hd ⟨h1, h2⟩
theorem fw_callI (n : Nat) {idx r : Nat} {As : List Value} (hd : decode mt.2.1 pc = .ok (.invokespecial idx, 3)) (hw : ciW mt.1.cls idx mt' n) (hn : As.length = n) (h8 : (rest.map fun v => v.category).sum ≤ 8) (hcall : FC g mt' d (.ref r :: As) M mc ms Ψ) (hbc : mc ≤ bc) (hbs : ms ≤ bs)
    (k : ∀ v M', Ψ v M' → FW g mt (d + 1) (pc + 3) ls (v.toList ++ rest) M' (bc - mc) (bs - ms) Φ) : FW g mt (d + 1) pc ls (As.reverse ++ .ref r :: rest) M bc bs Φ := by
  refine FW.call (mc := mc) (ms := ms) (Ψ := Ψ) (rest := rest) (fun p l e R s m args below meth c H locs cells slots lsA hC h1 h2 hS hP hl => ?_) hbc hbs k
  obtain ⟨⟨w1, w2, w3, w4, w5, w6⟩, w7, w8, w9, w10⟩ := hw
  obtain ⟨hx, hb, hml, hown, hts, hini, hK, hSt, hfr, hlo, hB⟩ := hC
  have hc := hcall l
  rw [w10] at hc w1
  exact va_runI (As := As.map (tr g)) (b := ad g r) (nL := mt.2.2.1) (bytes := mt'.2.1) (maxL := mt'.2.2.1) ⟨hx, hb, hml, hown, hts⟩ hc (cwI n hts (GoodIn_WS (fun w hw => by
      rcases List.mem_cons.mp hw with h | h
      · subst h; exact w1
      · exact h)) rfl rfl rfl (hts _ w2) (hts _ w7) (hts _ w8) w9 ⟨w3, w4, w5⟩ ⟨hfr, by show 8 + (_ + 11) + 40 * d ≤ R.locals; omega⟩)
    ⟨Gd_blind, fun U hU hW => ⟨by simp [tr], Gd_pre hK hSt hS hP hU hW⟩⟩ rfl (by rw [List.length_map]; exact hn) hl.1 (by simp [tr]) (fw_room8 h8) hd ⟨h1, h2⟩
theorem fw_callSN (n : Nat) (host : String) {idx : Nat} {As : List Value} (hd : decode mt.2.1 pc = .ok (.invokestatic idx, 3)) (hw : nsW mt.1.cls idx host mt' n) (hn : As.length = n) (h8 : (rest.map fun v => v.category).sum ≤ 8) (hcall : FC g mt' d As M mc ms Ψ) (hbc : mc ≤ bc) (hbs : ms ≤ bs)
    (k : ∀ v M', Ψ v M' → FW g mt (d + 1) (pc + 3) ls (v.toList ++ rest) M' (bc - mc) (bs - ms) Φ) : FW g mt (d + 1) pc ls (As.reverse ++ rest) M bc bs Φ := by
  refine FW.call (mc := mc) (ms := ms) (Ψ := Ψ) (rest := rest) (fun p l e R s m args below meth c H locs cells slots lsA hC h1 h2 hS hP hl => ?_) hbc hbs k
  obtain ⟨⟨w1, w2, w3, w4, w5, w6⟩, w7, w8⟩ := hw
  obtain ⟨hx, hb, hml, hown, hts, hini, hK, hSt, hfr, hlo, hB⟩ := hC
  obtain ⟨-, -, -, -, -, -, -, -, hNW, -⟩ := id hSt
  exact va_runSN (As := As.map (tr g)) (nL := mt.2.2.1) (host := host) (bytes := mt'.2.1) (maxL := mt'.2.2.1) (ret := mt'.2.2.2) ⟨hx, hb, hml, hown, hts⟩ (hcall l) ⟨va_cnB n hts (GoodIn_WS (fun w hw => by
      rcases List.mem_cons.mp hw with h | h
      · subst h; exact w1
      · exact h)) rfl rfl rfl (hNW _ w7) (hts _ w2) ⟨w3, w4, w5⟩ ⟨hfr, by show 8 + (_ + 11) + 40 * d ≤ R.locals; omega⟩, hts _ w8, trivial⟩
    ⟨Gd_blind, fun U hU hW => ⟨rfl, Gd_pre hK hSt hS hP hU hW⟩⟩ rfl (by rw [List.length_map]; exact hn) hl.1 (by simp) (fw_room8 h8) hd ⟨h1, h2⟩
theorem fw_callIN (n : Nat) (host : String) {idx r : Nat} {As : List Value} (hd : decode mt.2.1 pc = .ok (.invokespecial idx, 3)) (hw : niW mt.1.cls idx host mt' n) (hn : As.length = n) (h8 : (rest.map fun v => v.category).sum ≤ 8) (hcall : FC g mt' d (.ref r :: As) M mc ms Ψ) (hbc : mc ≤ bc) (hbs : ms ≤ bs)
    (k : ∀ v M', Ψ v M' → FW g mt (d + 1) (pc + 3) ls (v.toList ++ rest) M' (bc - mc) (bs - ms) Φ) : FW g mt (d + 1) pc ls (As.reverse ++ .ref r :: rest) M bc bs Φ := by
  refine FW.call (mc := mc) (ms := ms) (Ψ := Ψ) (rest := rest) (fun p l e R s m args below meth c H locs cells slots lsA hC h1 h2 hS hP hl => ?_) hbc hbs k
  obtain ⟨⟨w1, w2, w3, w4, w5, w6⟩, w7, w8, w9, w10⟩ := hw
  obtain ⟨hx, hb, hml, hown, hts, hini, hK, hSt, hfr, hlo, hB⟩ := hC
  obtain ⟨-, -, -, -, -, -, -, -, hNW, -⟩ := id hSt
  have hc := hcall l
  rw [w10] at hc w1
  exact va_runIN (As := As.map (tr g)) (b := ad g r) (nL := mt.2.2.1) (host := host) (bytes := mt'.2.1) (maxL := mt'.2.2.1) ⟨hx, hb, hml, hown, hts⟩ hc ⟨va_cnB n hts (GoodIn_WS (fun w hw => by
      rcases List.mem_cons.mp hw with h | h
      · subst h; exact w1
      · exact h)) rfl rfl rfl (hNW _ w7) (hts _ w2) ⟨w3, w4, w5⟩ ⟨hfr, by show 8 + (_ + 11) + 40 * d ≤ R.locals; omega⟩, w9, hts _ w8⟩
    ⟨Gd_blind, fun U hU hW => ⟨by simp [tr], Gd_pre hK hSt hS hP hU hW⟩⟩ rfl (by rw [List.length_map]; exact hn) hl.1 (by simp [tr]) (fw_room8 h8) hd ⟨h1, h2⟩
/-- String's own methods, on the words' text -/
theorem fw_callT (n : Nat) {idx : Nat} {As : List Value} (hd : decode mt.2.1 pc = .ok (.invokevirtual idx, 3)) (hw : cvW mt.1.cls idx mt' n) (hk : mt'.1.cls = "java/lang/String") (hn : As.length = n) (h8 : (rest.map fun v => v.category).sum ≤ 8) (hcall : FC g mt' d (.ref 3 :: As) M mc ms Ψ) (hbc : mc ≤ bc) (hbs : ms ≤ bs)
    (k : ∀ v M', Ψ v M' → FW g mt (d + 1) (pc + 3) ls (v.toList ++ rest) M' (bc - mc) (bs - ms) Φ) : FW g mt (d + 1) pc ls (As.reverse ++ .ref 3 :: rest) M bc bs Φ := by
  refine FW.call (mc := mc) (ms := ms) (Ψ := Ψ) (rest := rest) (fun p l e R s m args below meth c H locs cells slots lsA hC h1 h2 hS hP hl => ?_) hbc hbs k
  obtain ⟨⟨w1, w2, w3, w4, w5, w6⟩, w7, w8, w9⟩ := hw
  obtain ⟨hx, hb, hml, hown, hts, hini, hK, hSt, hfr, hlo, hB⟩ := hC
  have hrec : ∃ cellB : Cell, H[ad g 3]? = some cellB ∧ cellB.vm.isStatics = false ∧ s.vm.findClass mt'.1.cls = some cellB.cls := by
    obtain ⟨-, -, -, -, -, -, -, z1, -⟩ := id hSt
    rw [hk]
    exact vk_recv z1 (i := 0) (by decide) hS
  exact va_runV (As := As.map (tr g)) (b := ad g 3) (C := mt'.1.cls) (nL := mt.2.2.1) ⟨hx, hb, hml, hown, hts⟩ (hcall l) (cwV n hts (GoodIn_WS (fun w hw => by
      unfold wsV at hw
      rcases List.mem_append.mp hw with h | h
      · simp only [List.mem_cons, List.not_mem_nil, or_false] at h
        rcases h with h | h | h | h <;> subst h <;> assumption
      · rcases List.mem_cons.mp h with h | h
        · subst h; exact w1
        · exact h)) rfl rfl rfl ⟨rfl, w3, w4, w5⟩ ⟨hfr, by show 8 + (_ + 11) + 40 * d ≤ R.locals; omega⟩)
    ⟨Gd_blind, hrec, fun U hU hW => ⟨by simp [tr], Gd_pre hK hSt hS hP hU hW⟩⟩ rfl (by rw [List.length_map]; exact hn) hl.1 (by simp [tr]) (fw_room8 h8) hd ⟨h1, h2⟩
theorem fw_objInit {idx r : Nat} (hd : decode mt.2.1 pc = .ok (.invokespecial idx, 3)) (hw : Cond.methodLink mt.1.cls idx Lib.objectInit ∈ WS ∧ Cond.instanceMethod Lib.objectInit ∈ WS ∧ Cond.code Lib.objectInit ⟨#[0xb1]⟩ 1 none ∈ WS) (h8 : (rest.map fun v => v.category).sum ≤ 8) (k : FW g mt (d + 1) (pc + 3) ls rest M bc bs Φ) : FW g mt (d + 1) pc ls (.ref r :: rest) M bc bs Φ := by
  intro p l e R s m args below meth c H locs cells slots Q lsA hC hR h1 h2 hS hP hl
  have hts := hC.2.2.2.2.1
  have hfr := hC.2.2.2.2.2.2.2.2.1
  have hlo := hC.2.2.2.2.2.2.2.2.2.1
  refine W.objInit hC.1 hC.2.1 hC.2.2.2.1 (hts _ hw.1) (hts _ hw.2.1) (hts _ hw.2.2) rfl (by show lsA.size = _; rw [hl.1, hC.2.2.1]) rfl hd (by omega) ?_ (k p l e R s m args below meth c H locs cells slots Q lsA hC hR h1 h2 hS hP hl)
  have h := fw_room8 (g := g) (m := m) (pc := pc) (lsA := lsA) (stk := (Value.ref r :: rest).map (tr g)) h8
  have h3 : 2 * (F0 m pc lsA ((Value.ref r :: rest).map (tr g))).monitorRoom + ((rest.map (tr g)).map fun v => v.category).sum + 12 ≤ R.locals := by omega
  exact h3
def cpI (M : fM) (r0 r1 sp dp n : Nat) : fM := (fun r k => if r = r1 ∧ dp ≤ k ∧ k < dp + n then M.1 r0 (sp + (k - dp)) else M.1 r k, M.2)
theorem offM_cp (M : fM) (r0 r1 sp dp n : Nat) : offM M (cpI M r0 r1 sp dp n) r1 := ⟨rfl, fun r k h => ⟨by simp [mI, cpI, h], rfl, rfl⟩⟩
theorem fw_copy {idx r0 r1 n0 n1 : Nat} {sp dp n : Int32} (hd : decode mt.2.1 pc = .ok (.invokestatic idx, 3)) (hw : Cond.methodLink mt.1.cls idx arraycopyName ∈ WS ∧ Cond.native arraycopyName ∈ WS ∧ Cond.static arraycopyName ∈ WS ∧ Cond.initialized "java/lang/System" ∈ WS) (hr0 : 6 ≤ r0) (hs0 : mS M r0 = some (12, n0)) (hr1 : 6 ≤ r1) (hs1 : mS M r1 = some (12, n1)) (h1 : ¬ sp < 0) (h2 : ¬ dp < 0) (h3 : ¬ n < 0) (h4 : ix sp + ix n ≤ n0) (h5 : ix dp + ix n ≤ n1) (h8 : (rest.map fun v => v.category).sum ≤ 8)
    (k : FW g mt (d + 1) (pc + 3) ls rest (cpI M r0 r1 (ix sp) (ix dp) (ix n)) bc bs Φ) : FW g mt (d + 1) pc ls (.int n :: .int dp :: .ref r1 :: .int sp :: .ref r0 :: rest) M bc bs Φ := by
  intro p l e R s m args below meth c H locs cells slots Q lsA hC hR g1 g2 hS hP hl
  have hts := hC.2.2.2.2.1
  have hfr := hC.2.2.2.2.2.2.2.2.1
  have hlo := hC.2.2.2.2.2.2.2.2.2.1
  have hK := hC.2.2.2.2.2.2.1
  have nn : ∀ z : Int32, ¬ z < 0 → z.toInt = (z.toNatClampNeg : Int) := by
    intro z hz
    have hz0 : (0 : Int) ≤ z.toInt := by
      have := Int32.not_lt.mp hz
      simpa using Int32.le_iff_toInt_le.mp this
    show z.toInt = ((z.toInt.toNat : Nat) : Int)
    omega
  have ev : ∀ r, aval g M r 12 = fun j => Value.int (mI M r j) := fun r => by
    funext j
    unfold aval
    rw [if_neg (by decide), if_neg (by decide)]
  have hc0 := arrD hP (by decide) hr0 hs0
  have hc1 := arrD hP (by decide) hr1 hs1
  rw [ev] at hc0 hc1
  intro T hT X
  obtain ⟨-, k0, hk0, cm0, hkk0⟩ := (hK.2 0 _ rfl).1 n0 (fun j => .int (mI M r0 j))
  obtain ⟨-, k1, hk1, cm1, hkk1⟩ := (hK.2 0 _ rfl).1 n1 (fun j => .int (mI M r1 j))
  obtain ⟨vm', X', step⟩ := X.arraycopy hC.1 hC.2.2.2.1 (hts _ hw.1) (hts _ hw.2.1) (hts _ hw.2.2.1) (hts _ hw.2.2.2) (src := ad g r0) (dst := ad g r1) (cs := vp_cell (gC g 12) (n0, .inl (mI M r0))) (cd := vp_cell (gC g 12) (n1, .inl (mI M r1))) (srcPos := sp) (destPos := dp) (n := n) (by rw [hT]; exact hc0) (by rw [hT]; exact hc1)
    (fun _ h => by cases h) (fun _ h => by cases h) (fun h => by cases h) (fun h => by cases h) hk0 hk1 hkk0 hkk1 (by simp [refKind]) h1 h2 h3
    (by rw [nn sp h1, nn n h3]; show ¬ _ > ((arrV (gC g 12) n0 (fun j => .int (mI M r0 j))).slots.size : Int); rw [arrV_size]; unfold ix at h4; omega)
    (by rw [nn dp h2, nn n h3]; show ¬ _ > ((arrV (gC g 12) n1 (fun j => .int (mI M r1 j))).slots.size : Int); rw [arrV_size]; unfold ix at h5; omega)
    (fun vm₁ _ i hi => by
      have e : (vp_cell (gC g 12) (n0, .inl (mI M r0))).slots.getD (sp.toNatClampNeg + i) .null = .int (mI M r0 (sp.toNatClampNeg + i)) := by
        show (arrV (gC g 12) n0 (fun j => .int (mI M r0 j))).slots.getD _ _ = _
        rw [Array.getD_eq_getD_getElem?, arrV_read _ _ (by unfold ix at h4; omega)]
        rfl
      refine ⟨?_, ?_⟩
      · rw [e]
        rfl
      · rw [e]
        exact trivial)
    (g := F0 m pc lsA ((Value.int n :: .int dp :: .ref r1 :: .int sp :: .ref r0 :: rest).map (tr g))) rfl (by show lsA.size = _; rw [hl.1, hC.2.2.1]) (rest := rest.map (tr g)) rfl (by rw [hC.2.1]; exact hd) (by omega) (by
      have h := fw_room8 (g := g) (m := m) (pc := pc) (lsA := lsA) (stk := rest) h8
      have e5 : nativeFrameWords "java/lang/System" "arraycopy" 5 + 11 ≤ 32 := by decide
      have h6 : 2 * (F0 m pc lsA (rest.map (tr g))).monitorRoom + ((rest.map (tr g)).map fun v => v.category).sum + (nativeFrameWords "java/lang/System" "arraycopy" 5 + 11) ≤ R.locals := by
        have h7 : 2 * (F0 m pc lsA (rest.map (tr g))).monitorRoom + ((rest.map (tr g)).map fun v => v.category).sum ≤ 8 := h
        omega
      exact h6)
  have e1 : copied (vp_cell (gC g 12) (n0, .inl (mI M r0))) (vp_cell (gC g 12) (n1, .inl (mI M r1))) sp dp n = vp_cell (gC g 12) (n1, .inl (va_cpy (mI M r0) (mI M r1) sp.toNatClampNeg dp.toNatClampNeg n.toNatClampNeg)) := va_copied (fun z => .int z) (gC g 12) (gC g 12) (mI M r0) (mI M r1) h4
  rw [e1] at X' step
  have hl1 : ad g r1 < H.size := (Array.getElem?_eq_some_iff.mp hc1).1
  have hheap : ((T.setVm vm').setCell (ad g r1) (vp_cell (gC g 12) (n1, .inl (va_cpy (mI M r0) (mI M r1) sp.toNatClampNeg dp.toNatClampNeg n.toNatClampNeg)))).heap = H.setIfInBounds (ad g r1) (vp_cell (gC g 12) (n1, .inl (va_cpy (mI M r0) (mI M r1) sp.toNatClampNeg dp.toNatClampNeg n.toNatClampNeg))) := by rw [← hT]; rfl
  have oq : ∀ q : Nat, q ≠ ad g r1 → (H.setIfInBounds (ad g r1) (vp_cell (gC g 12) (n1, .inl (va_cpy (mI M r0) (mI M r1) sp.toNatClampNeg dp.toNatClampNeg n.toNatClampNeg))))[q]? = H[q]? := fun q hq => by simp [Array.getElem?_setIfInBounds, Ne.symm hq]
  have hA1 : gA g (ad g r1) := by rw [ad_dyn hr1]; exact Nat.le_add_right _ _
  have hP' : Rp g (cpI M r0 r1 (ix sp) (ix dp) (ix n)) (H.setIfInBounds (ad g r1) (vp_cell (gC g 12) (n1, .inl (va_cpy (mI M r0) (mI M r1) sp.toNatClampNeg dp.toNatClampNeg n.toNatClampNeg)))) := by
    refine hP.upd hr1 hs1 (offM_cp M r0 r1 _ _ _) (by simp) oq ?_
    unfold cellAt
    rw [if_neg (by show ¬ (12 < 12); decide)]
    have e2 : (H.setIfInBounds (ad g r1) (vp_cell (gC g 12) (n1, .inl (va_cpy (mI M r0) (mI M r1) sp.toNatClampNeg dp.toNatClampNeg n.toNatClampNeg))))[ad g r1]? = some (vp_cell (gC g 12) (n1, .inl (va_cpy (mI M r0) (mI M r1) sp.toNatClampNeg dp.toNatClampNeg n.toNatClampNeg))) := by simp [Array.getElem?_setIfInBounds, hl1]
    rw [e2, vp_cell_i]
    congr 2
    funext j
    unfold aval
    rw [if_neg (by show ¬ (12 = 13); decide), if_neg (by show ¬ (12 = 15 ∨ 12 = 16); decide)]
    simp [va_cpy, mI, cpI, ix]
  obtain ⟨t, a1, b1⟩ := k p l e R s m args below meth c _ _ cells slots Q lsA hC hR g1 g2 (⟨by simp; exact hS.1, fun q q1 q2 => by
      rw [oq q (fun e => q2 (by rw [e]; exact hA1))]
      exact hS.2.1 q q1 q2, fun q hq => by
      rcases List.mem_append.mp hq with h | h
      · exact hS.2.2 q h
      · obtain ⟨z, -, hz⟩ := List.mem_map.mp h
        rw [← hz]
        exact hA1⟩) hP' hl _ hheap X'
  exact ⟨t, step t a1, b1⟩
theorem fw_ldcS {idx : Nat} (hd : decode mt.2.1 pc = .ok (.ldc idx, 2)) (hw : mt.1.cls = "OneStepMore$Tape" ∧ idx = wIdx) (kk : FW g mt d (pc + 2) ls (.ref 3 :: rest) M bc bs Φ) : FW g mt d pc ls rest M bc bs Φ := by
  intro p l e R s m args below meth c H locs cells slots Q lsA hC hR h1 h2 hS hP hl
  obtain ⟨-, -, -, -, -, -, -, -, -, -, -, -, z1⟩ := hC.2.2.2.2.2.2.2.1
  obtain ⟨hw1, rfl⟩ := hw
  rw [← hw1] at z1
  exact va_ldcS hC.1 hC.2.1 hC.2.2.2.1 z1 hd (kk p l e R s m args below meth c H locs cells slots Q lsA hC hR h1 h2 hS hP hl)
theorem fw_getsN (host : String) {idx r : Nat} {n ds : String} (hd : decode mt.2.1 pc = .ok (.getstatic idx, 3)) (hk : (n = "SHAPES" ∧ ds = "[I" ∧ r = 1) ∨ (n = "POWERS" ∧ ds = "[J" ∧ r = 2)) (hw : Cond.fieldLinkNest mt.1.cls idx "OneStepMore" n ds host ∈ NW) (kk : FW g mt d (pc + 3) ls (.ref r :: rest) M bc bs Φ) : FW g mt d pc ls rest M bc bs Φ := by
  intro p l e R s m args below meth c H locs cells slots Q lsA hC hR h1 h2 hS hP hl
  obtain ⟨-, -, -, z1, z2, -, -, -, hNW, -⟩ := hC.2.2.2.2.2.2.2.1
  have kk' := kk p l e R s m args below meth c H locs cells slots Q lsA hC hR h1 h2 hS hP hl
  have hl' := va_Nw.use (A := args) rfl (hNW _ hw)
  rcases hk with ⟨rfl, rfl, rfl⟩ | ⟨rfl, rfl, rfl⟩
  · exact va_getsN hC.1 hC.2.1 z1 hS hC.2.2.2.1 hl' (fun _ h => h) hd kk'
  · exact va_getsN hC.1 hC.2.1 z2 hS hC.2.2.2.1 hl' (fun _ h => h) hd kk'
/-- a method, from its entry -/
theorem FC.intro (hy : plainName mt.1.cls = true) {av : List Value} {nL : Nat} (hnL : mt.2.2.1 = nL) (hsz : (lg_sl av).length ≤ nL) (k : FW g mt d 0 (lv_args 0 av) [] M mc ms Φ) : FC g mt d av M mc ms Φ := by
  intro l
  subst hnL
  refine Met.ofW (cc := mt.2.1) (maxL := mt.2.2.1) (ret := mt.2.2.2) hy rfl ?_
  intro p e s m args below meth c s₁ B hml hv
  obtain ⟨rfl, hK, hSt, hP⟩ := hv
  have hts := atoms_spec (ws := Cond.code mt.1 mt.2.1 mt.2.2.1 mt.2.2.2 :: WS) B.pre
  have hown : s.vm.findClass mt.1.cls = some m.cls := findClass_of_methodNamed B.named
  have hin : mt.1.name = "<init>" → meth.name = "<init>" := fun h => (name_of_methodNamed B.named B.method).1.trans h
  have hargs : ∀ (i : Nat) (vs : List Value), (lv_args i vs).map (trL g) = lv_args i (vs.map (tr g)) := by
    intro i vs
    induction vs generalizing i with
    | nil => rfl
    | cons v vs ih =>
      show (i, tr g v) :: (lv_args _ vs).map (trL g) = (i, tr g v) :: lv_args _ (vs.map (tr g))
      rw [ih, tr_cat]
  have hlen : (lg_sl (av.map (tr g))).length = (lg_sl av).length := by
    clear k hsz hP B hts
    induction av with
    | nil => rfl
    | cons v vs ih =>
      cases v <;> simp_all [lg_sl, tr, Value.category]
  have hBs : gB g ≤ s.heap.size := by
    have a1 := hP.1
    have a2 := hP.2.1
    omega
  have hl := lv_entry (av.map (tr g)) (n := mt.2.2.1) (by rw [hlen]; exact hsz)
  rw [lg_entry_eq]
  rw [← hargs] at hl
  refine k p l e _ s m _ below meth c s.heap [] 0 0 _ _ ⟨B.exec, B.bytes, hml, hown, fun w hw => hts w (List.mem_cons_of_mem _ hw), hin, hK, hSt, Nat.le_refl _, Nat.le_refl _, hBs⟩ ?_ (by show 0 + mc ≤ mc; omega) (by show 0 + ms ≤ ms; omega) va_S.rf hP hl
  intro v M' H' locs' cells' slots' pc' lsA' rI hΦ hP' hS' hc1 hc2 hr hd
  have hq : ∀ t : State, t.heap = H' → s.WarmedH t.vm → (∃ v_1 M', Outcome.returned (v.map (tr g)) = .returned (v_1.map (tr g)) ∧ Φ v_1 M' ∧ Gd g M' t) ∧ va_F (gA g) s t := fun t ht hW => ⟨⟨v, M', rfl, hΦ, Gd_pre hK hSt hS' hP' ht hW⟩, hS'.F ht⟩
  have hlocks := B.notSynchronized
  refine W.widen (k := mc) (n := ms) hc1 hc2 ?_
  have hret := B.returns
  revert hr hq
  match v with
  | none =>
    intro hr hq
    obtain ⟨rfl, hrt⟩ := hr
    exact W.vret B.exec B.bytes (hret.trans hrt) (fun t ht hW => hq t ht hW) hS'.2.2 hd
  | some (.int x) =>
    intro hr hq
    obtain ⟨rfl, hrt⟩ := hr
    rcases hrt with h | ⟨h, hn⟩ | ⟨h, hn⟩ | ⟨h, hn⟩
    · exact W.iret B.exec B.bytes (hret.trans h) (fun t ht hW => hq t ht hW) hS'.2.2 hd
    · exact W.zret B.exec B.bytes (hret.trans h) hn (fun t ht hW => hq t ht hW) hS'.2.2 hd
    · exact W.zret B.exec B.bytes (hret.trans h) hn (fun t ht hW => hq t ht hW) hS'.2.2 hd
    · exact W.zret B.exec B.bytes (hret.trans h) hn (fun t ht hW => hq t ht hW) hS'.2.2 hd
  | some (.long x) =>
    intro hr hq
    obtain ⟨rfl, hrt⟩ := hr
    exact W.lret B.exec B.bytes (hret.trans hrt) (fun t ht hW => hq t ht hW) hS'.2.2 hd
  | some .null =>
    intro hr hq
    obtain ⟨rfl, rt, hrt, hk⟩ := hr
    exact W.aret B.exec B.bytes (hret.trans hrt) hk (Or.inl rfl) (fun t ht hW => hq t ht hW) hS'.2.2 hd
  | some (.ref a) =>
    intro hr hq
    obtain ⟨rfl, rt, hrt, hk⟩ := hr
    exact W.aret B.exec B.bytes (hret.trans hrt) hk (Or.inr ⟨_, rfl⟩) (fun t ht hW => hq t ht hW) hS'.2.2 hd
  | some (.float _) => intro hr hq; exact hr.elim
  | some (.double _) => intro hr hq; exact hr.elim
  | some (.retAddr _) => intro hr hq; exact hr.elim
end RW4
