/-! ===== TEXT: the model's pile as a machine of its own ===== -/
def rk (o : Nat) : Nat := if 40 ≤ o then 0 else if o = 22 then 1 else if o = 21 then 2 else if o = 20 then 3 else if 10 ≤ o then 4 else if o = 3 then 7 else if 6 ≤ o then 6 else 5
def stl (l : Nat) : List Nat → List (Nat × Nat) → List Nat × List (Nat × Nat)
  | [], E => ([], E)
  | o :: P, E => if l ≤ rk o then stl l P (E ++ [(o, 0)]) else (o :: P, E)
def mkK (d : Nat) : List Nat → Nat
  | [] => d
  | o :: P => if 40 ≤ o then o else mkK d P
def cmpd : List Nat → Bool
  | [] => false
  | o :: P => if 4 < rk o then cmpd P else decide (rk o = 4)
def opn (o : Nat) : Nat := if 40 ≤ o ∨ o = 3 ∨ o = 20 then 1 else 0
def cnO : List Nat → Nat
  | [] => 0
  | o :: P => opn o + cnO P
def nmN (t : Nat) : Nat := if t = 8 then 9 else if 26 ≤ t ∧ t ≤ 34 then t - 26 else 99
def hdA : List Nat → Bool
  | [] => true
  | o :: _ => decide (o = 41 ∨ (1 ≤ rk o ∧ rk o ≤ 3))
def bwO (d t : Nat) (P : List Nat) : Nat := if t = 40 then 4 else if t = 41 then 5 else if t = 42 then 6 else if t = 43 then 7 else if mkK d P = 41 then (if cmpd P = true then (if t = 25 then 21 else if t = 24 then 22 else 99) else if 44 ≤ t ∧ t ≤ 49 then t - 34 else 99) else 99
abbrev St : Type := List Nat × List (Nat × Nat) × Bool × Nat
def opb (o : Nat) (P : List Nat) (E : List (Nat × Nat)) (i : Nat) : Nat × St := if cnO P = 8 then (3, (P, E, false, i)) else if 150 ≤ P.length then (9, (P, E, false, i)) else (0, (o :: P, E, false, i + 1))
def s1b (T V : Nat → Nat) (d so : Nat) (P : List Nat) (E : List (Nat × Nat)) (i : Nat) : Nat × St :=
  if T i = 60 ∧ 9999 < V i then (2, (P, E, false, i))
  else if nmN (T i) < 99 ∧ 6 ≤ nmN (T i) ∧ 2 < so then (5, (P, E, false, i))
  else if T i = 60 then (0, ((stl 7 P (E ++ [(0, V i)])).1, (stl 7 P (E ++ [(0, V i)])).2, true, i + 1))
  else if nmN (T i) < 99 then (0, ((stl 7 P (E ++ [(1, nmN (T i))])).1, (stl 7 P (E ++ [(1, nmN (T i))])).2, true, i + 1))
  else if T i = 50 then opb 40 P E i
  else if T i = 41 then opb 3 P E i
  else if T i = 21 then opb 41 P E i
  else if T i = 23 ∧ mkK d P = 41 ∧ hdA P = true then opb 20 P E i
  else (1, (P, E, false, i))
def clz (P : List Nat) (E : List (Nat × Nat)) (k : Nat) : List Nat × List (Nat × Nat) := stl 7 (stl 1 P E).1.tail (if k = 43 then (stl 1 P E).2 ++ [(2, 0)] else (stl 1 P E).2)
def s1w (T : Nat → Nat) (d : Nat) (P : List Nat) (E : List (Nat × Nat)) (i : Nat) : Nat × St :=
  if bwO d (T i) P < 99 then (if 150 ≤ (stl (rk (bwO d (T i) P)) P E).1.length then (9, (P, E, true, i)) else (0, (bwO d (T i) P :: (stl (rk (bwO d (T i) P)) P E).1, (stl (rk (bwO d (T i) P)) P E).2, false, i + 1)))
  else if (T i = 51 ∧ mkK 99 P = 40) ∨ (T i = 22 ∧ mkK 99 P = 43) then (0, ((clz P E (mkK 99 P)).1, (clz P E (mkK 99 P)).2, true, i + 1))
  else if (T i = 53 ∧ mkK 99 P = 41 ∧ cmpd P = true) ∨ (T i = 54 ∧ mkK 99 P = 42) then (0, ((mkK 99 P + 1) :: (stl 1 P E).1.tail, (stl 1 P E).2, false, i + 1))
  else (7, (P, E, true, i))
def s1 (T V : Nat → Nat) (d so : Nat) (x : St) : Nat × St := if x.2.2.1 = true then s1w T d x.1 x.2.1 x.2.2.2 else s1b T V d so x.1 x.2.1 x.2.2.2
def itr (T V : Nat → Nat) (d so : Nat) : Nat → St → Nat × St
  | 0, x => (0, x)
  | n + 1, x => if (s1 T V d so x).1 = 0 then itr T V d so n (s1 T V d so x).2 else s1 T V d so x
def Rc (T V : Nat → Nat) (d so : Nat) (x y : St) : Prop := ∃ n, itr T V d so n x = (0, y)
theorem itr_a {T V : Nat → Nat} {d so : Nat} {y : St} : ∀ (n : Nat) (x : St) (m : Nat), itr T V d so n x = (0, y) → itr T V d so (n + m) x = itr T V d so m y
  | 0, x, m, h => by
    have e : x = y := congrArg Prod.snd h
    rw [e, Nat.zero_add]
  | n + 1, x, m, h => by
    have h : (if (s1 T V d so x).1 = 0 then itr T V d so n (s1 T V d so x).2 else s1 T V d so x) = (0, y) := h
    rw [show n + 1 + m = n + m + 1 by omega]
    show (if (s1 T V d so x).1 = 0 then itr T V d so (n + m) (s1 T V d so x).2 else s1 T V d so x) = _
    by_cases e : (s1 T V d so x).1 = 0
    · rw [if_pos e] at h ⊢
      exact itr_a n _ m h
    · rw [if_neg e] at h
      exact absurd (congrArg Prod.fst h) e
theorem Rc.rf {T V : Nat → Nat} {d so : Nat} (x : St) : Rc T V d so x x := ⟨0, rfl⟩
theorem Rc.tr {T V : Nat → Nat} {d so : Nat} {x y z : St} (h : Rc T V d so x y) (h2 : Rc T V d so y z) : Rc T V d so x z := by
  obtain ⟨n, h⟩ := h
  obtain ⟨m, h2⟩ := h2
  exact ⟨n + m, (itr_a n x m h).trans h2⟩
theorem Rc.st {T V : Nat → Nat} {d so : Nat} {x y : St} (h : s1 T V d so x = (0, y)) : Rc T V d so x y := ⟨1, by
  show (if (s1 T V d so x).1 = 0 then (0, (s1 T V d so x).2) else s1 T V d so x) = (0, y)
  rw [h]
  rfl⟩
/-- the machine comes to a FAULT -/
def RF (T V : Nat → Nat) (d so : Nat) (x : St) (f j : Nat) : Prop := ∃ n c y, itr T V d so n x = (c, y) ∧ y.2.2.2 = j ∧ ((c = f ∧ (f = 1 ∨ f = 2 ∨ f = 3 ∨ f = 5)) ∨ (c = 7 ∧ f = 1 ∧ (mkK 99 y.1 ≠ 99 ∨ (d = 41 ∧ cmpd y.1 = false))))
theorem RF.tr {T V : Nat → Nat} {d so f j : Nat} {x y : St} (h : Rc T V d so x y) (h2 : RF T V d so y f j) : RF T V d so x f j := by
  obtain ⟨n, h⟩ := h
  obtain ⟨m, c, z, h2, h3⟩ := h2
  exact ⟨n + m, c, z, (itr_a n x m h).trans h2, h3⟩
theorem RF.st {T V : Nat → Nat} {d so f j : Nat} {x : St} {c : Nat} {y : St} (h : s1 T V d so x = (c, y)) (hj : y.2.2.2 = j) (hc : c = f) (hf : f = 1 ∨ f = 2 ∨ f = 3 ∨ f = 5) : RF T V d so x f j := by
  refine ⟨1, c, y, ?_, hj, Or.inl ⟨hc, hf⟩⟩
  show (if (s1 T V d so x).1 = 0 then (0, (s1 T V d so x).2) else s1 T V d so x) = (c, y)
  rw [h, if_neg (show ¬ c = 0 by omega)]
theorem RF.sp {T V : Nat → Nat} {d so j : Nat} {x y : St} (h : s1 T V d so x = (7, y)) (hj : y.2.2.2 = j) (hc : mkK 99 y.1 ≠ 99 ∨ (d = 41 ∧ cmpd y.1 = false)) : RF T V d so x 1 j := by
  refine ⟨1, 7, y, ?_, hj, Or.inr ⟨rfl, rfl, hc⟩⟩
  show (if (s1 T V d so x).1 = 0 then (0, (s1 T V d so x).2) else s1 T V d so x) = (7, y)
  rw [h]
  rfl
def zp (Q : List Nat) : List (Nat × Nat) := Q.map fun o => (o, 0)
theorem zp_a (Q R : List Nat) : zp (Q ++ R) = zp Q ++ zp R := List.map_append
/-- the top binds less than l -/
def tR : List Nat → Nat → Prop
  | [], _ => True
  | o :: _, l => rk o < l
theorem tR.mn {P : List Nat} {l l2 : Nat} (h : tR P l) (hl : l ≤ l2) : tR P l2 := by
  cases P with
  | nil => trivial
  | cons o P => exact Nat.lt_of_lt_of_le h hl
theorem stl_n {l : Nat} {P : List Nat} {E : List (Nat × Nat)} (h : tR P l) : stl l P E = (P, E) := by
  cases P with
  | nil => rfl
  | cons o P => exact if_neg (Nat.not_le.mpr h)
theorem stl_q {l : Nat} {P : List Nat} (h : tR P l) : ∀ (Q : List Nat) (E : List (Nat × Nat)), (∀ o ∈ Q, l ≤ rk o) → stl l (Q ++ P) E = (P, E ++ zp Q)
  | [], E, _ => by
    rw [List.nil_append, stl_n h]
    exact congrArg (Prod.mk P) (List.append_nil E).symm
  | o :: Q, E, hq => by
    show (if l ≤ rk o then stl l (Q ++ P) (E ++ [(o, 0)]) else (o :: (Q ++ P), E)) = _
    rw [if_pos (hq o List.mem_cons_self), stl_q h Q _ (fun x hx => hq x (List.mem_cons_of_mem _ hx)), List.append_assoc]
    rfl
theorem mkK_q {d : Nat} {P : List Nat} : ∀ (Q : List Nat), (∀ o ∈ Q, o < 40) → mkK d (Q ++ P) = mkK d P
  | [], _ => rfl
  | o :: Q, h => by
    show (if 40 ≤ o then o else mkK d (Q ++ P)) = _
    rw [if_neg (Nat.not_le.mpr (h o List.mem_cons_self)), mkK_q Q (fun x hx => h x (List.mem_cons_of_mem _ hx))]
theorem cmpd_q {P : List Nat} : ∀ (Q : List Nat), (∀ o ∈ Q, 5 ≤ rk o) → cmpd (Q ++ P) = cmpd P
  | [], _ => rfl
  | o :: Q, h => by
    have := h o List.mem_cons_self
    show (if 4 < rk o then cmpd (Q ++ P) else decide (rk o = 4)) = _
    rw [if_pos (by omega), cmpd_q Q (fun x hx => h x (List.mem_cons_of_mem _ hx))]
theorem mkK_99 {d : Nat} : ∀ {P : List Nat}, mkK d P = 41 → d = 41 ∨ mkK 99 P = 41
  | [], h => Or.inl h
  | o :: P, h => by
    have h : (if 40 ≤ o then o else mkK d P) = 41 := h
    show d = 41 ∨ (if 40 ≤ o then o else mkK 99 P) = 41
    by_cases e : 40 ≤ o
    · rw [if_pos e] at h ⊢
      exact Or.inr h
    · rw [if_neg e] at h ⊢
      exact mkK_99 h
theorem mkK_n {d : Nat} : ∀ {P : List Nat}, mkK d P = 41 → mkK 99 P = 41 ∨ mkK 99 P = 99
  | [], _ => Or.inr rfl
  | o :: P, h => by
    have h : (if 40 ≤ o then o else mkK d P) = 41 := h
    show (if 40 ≤ o then o else mkK 99 P) = 41 ∨ (if 40 ≤ o then o else mkK 99 P) = 99
    by_cases e : 40 ≤ o
    · rw [if_pos e] at h ⊢
      exact Or.inl h
    · rw [if_neg e] at h ⊢
      exact mkK_n h
theorem s1_w {T V : Nat → Nat} {d so : Nat} {P : List Nat} {E : List (Nat × Nat)} {i : Nat} : s1 T V d so (P, E, true, i) = s1w T d P E i := rfl
theorem s1_b {T V : Nat → Nat} {d so : Nat} {P : List Nat} {E : List (Nat × Nat)} {i : Nat} : s1 T V d so (P, E, false, i) = s1b T V d so P E i := rfl
/-- what was read so far: the machine's run -/
def OKr (T V : Nat → Nat) (d so : Nat) (P : List Nat) (i : Nat) (em : List (Nat × Nat)) (Q : List Nat) (j : Nat) : Prop := ∀ E0, ∃ E1, Rc T V d so (P, E0, false, i) (Q ++ P, E1, true, j) ∧ E1 ++ zp Q = E0 ++ em
/-- an operation between two, taken -/
theorem op_st {T V : Nat → Nat} {d so o j : Nat} {P Q : List Nat} {E1 : List (Nat × Nat)} (hb : bwO d (T j) (Q ++ P) = o) (ho : o < 99) (hq : ∀ x ∈ Q, rk o ≤ rk x) (ht : tR P (rk o)) (hl : P.length < 150) : Rc T V d so (Q ++ P, E1, true, j) (o :: P, E1 ++ zp Q, false, j + 1) := by
  refine Rc.st ?_
  rw [s1_w]
  unfold s1w
  rw [hb, if_pos ho, stl_q ht Q E1 hq, if_neg (Nat.not_le.mpr hl)]
theorem OKr.op {T V : Nat → Nat} {d so o i j j2 : Nat} {P Q Q2 : List Nat} {em em2 : List (Nat × Nat)} (h : OKr T V d so P i em Q j) (hb : bwO d (T j) (Q ++ P) = o) (ho : o < 99) (hq : ∀ x ∈ Q, rk o ≤ rk x) (ht : tR P (rk o)) (hl : P.length < 150) (h2 : OKr T V d so (o :: P) (j + 1) em2 Q2 j2) : OKr T V d so P i (em ++ em2 ++ [(o, 0)]) (Q2 ++ [o]) j2 := by
  intro E0
  obtain ⟨E1, r1, e1⟩ := h E0
  obtain ⟨E2, r2, e2⟩ := h2 (E1 ++ zp Q)
  refine ⟨E2, (r1.tr ((op_st hb ho hq ht hl).tr ?_)), ?_⟩
  · rw [List.append_assoc]
    exact r2
  · rw [zp_a, ← List.append_assoc, e2, e1, List.append_assoc, List.append_assoc, List.append_assoc]
    rfl
theorem OKr.opF {T V : Nat → Nat} {d so o i j f k : Nat} {P Q : List Nat} {em : List (Nat × Nat)} (h : OKr T V d so P i em Q j) (hb : bwO d (T j) (Q ++ P) = o) (ho : o < 99) (hq : ∀ x ∈ Q, rk o ≤ rk x) (ht : tR P (rk o)) (hl : P.length < 150) (h2 : ∀ E0, RF T V d so (o :: P, E0, false, j + 1) f k) (E0 : List (Nat × Nat)) : RF T V d so (P, E0, false, i) f k := by
  obtain ⟨E1, r1, -⟩ := h E0
  exact RF.tr (r1.tr (op_st hb ho hq ht hl)) (h2 _)
/-- one is read, from a pile that may wait for it -/
def OKo (T V : Nat → Nat) (d so : Nat) (P : List Nat) (i : Nat) (em : List (Nat × Nat)) (j : Nat) : Prop := ∀ E0, Rc T V d so (P, E0, false, i) ((stl 7 P (E0 ++ em)).1, (stl 7 P (E0 ++ em)).2, true, j)
theorem OKo.r {T V : Nat → Nat} {d so i j : Nat} {P : List Nat} {em : List (Nat × Nat)} (h : OKo T V d so P i em j) (ht : tR P 7) : OKr T V d so P i em [] j := by
  intro E0
  have q := h E0
  rw [stl_n ht] at q
  refine ⟨E0 ++ em, q, ?_⟩
  exact List.append_nil _
theorem ok_num {T V : Nat → Nat} {d so i : Nat} {P : List Nat} (h : T i = 60) (hv : V i ≤ 9999) : OKo T V d so P i [(0, V i)] (i + 1) := by
  intro E0
  refine Rc.st ?_
  rw [s1_b]
  unfold s1b
  rw [if_neg (by omega), h, show nmN 60 = 99 from rfl, if_neg (by omega), if_pos rfl]
theorem ok_name {T V : Nat → Nat} {d so i : Nat} {P : List Nat} (h0 : T i ≠ 60) (h : nmN (T i) < 99) (hs : ¬ (6 ≤ nmN (T i) ∧ 2 < so)) : OKo T V d so P i [(1, nmN (T i))] (i + 1) := by
  intro E0
  refine Rc.st ?_
  rw [s1_b]
  unfold s1b
  rw [if_neg (fun c => h0 c.1), if_neg (fun c => hs c.2), if_neg h0, if_pos h]
/-- an opening TOKEN: which pile's mark, if any -/
theorem op_opb {T V : Nat → Nat} {d so i o : Nat} {P : List Nat} {E : List (Nat × Nat)} (h : (T i = 50 ∧ o = 40) ∨ (T i = 41 ∧ o = 3) ∨ (T i = 21 ∧ o = 41) ∨ (T i = 23 ∧ o = 20 ∧ mkK d P = 41 ∧ hdA P = true)) : s1 T V d so (P, E, false, i) = opb o P E i := by
  rw [s1_b]
  unfold s1b
  rcases h with ⟨h, rfl⟩ | ⟨h, rfl⟩ | ⟨h, rfl⟩ | ⟨h, rfl, h2⟩
  · rw [h, if_neg (by omega), show nmN 50 = 99 from rfl, if_neg (by omega), if_neg (by omega), if_neg (by omega), if_pos rfl]
  · rw [h, if_neg (by omega), show nmN 41 = 99 from rfl, if_neg (by omega), if_neg (by omega), if_neg (by omega), if_neg (by omega), if_pos rfl]
  · rw [h, if_neg (by omega), show nmN 21 = 99 from rfl, if_neg (by omega), if_neg (by omega), if_neg (by omega), if_neg (by omega), if_neg (by omega), if_pos rfl]
  · rw [h, if_neg (by omega), show nmN 23 = 99 from rfl, if_neg (by omega), if_neg (by omega), if_neg (by omega), if_neg (by omega), if_neg (by omega), if_neg (by omega), if_pos ⟨rfl, h2⟩]
theorem opb_F {T V : Nat → Nat} {d so i o : Nat} {P : List Nat} {E : List (Nat × Nat)} (h : s1 T V d so (P, E, false, i) = opb o P E i) (h8 : cnO P = 8) : RF T V d so (P, E, false, i) 3 i := by
  refine RF.st (c := 3) (y := (P, E, false, i)) ?_ rfl rfl (by omega)
  rw [h]
  exact if_pos h8
theorem opb_R {T V : Nat → Nat} {d so i o : Nat} {P : List Nat} {E : List (Nat × Nat)} (h : s1 T V d so (P, E, false, i) = opb o P E i) (h8 : cnO P < 8) (hl : P.length < 150) : Rc T V d so (P, E, false, i) (o :: P, E, false, i + 1) := by
  refine Rc.st ?_
  rw [h]
  unfold opb
  rw [if_neg (by omega), if_neg (Nat.not_le.mpr hl)]
/-- strange, where one is due -/
theorem bad_1 {T V : Nat → Nat} {d so i : Nat} {P : List Nat} {E : List (Nat × Nat)} (h60 : T i ≠ 60) (hn : nmN (T i) = 99) (h50 : T i ≠ 50) (h41 : T i ≠ 41) (h21 : T i ≠ 21) (h23 : ¬ (T i = 23 ∧ mkK d P = 41 ∧ hdA P = true)) : RF T V d so (P, E, false, i) 1 i := by
  refine RF.st (c := 1) (y := (P, E, false, i)) ?_ rfl rfl (by omega)
  rw [s1_b]
  unfold s1b
  rw [if_neg (fun c => h60 c.1), hn, if_neg (by omega), if_neg h60, if_neg (by omega), if_neg h50, if_neg h41, if_neg h21, if_neg h23]
theorem bad_2 {T V : Nat → Nat} {d so i : Nat} {P : List Nat} {E : List (Nat × Nat)} (h60 : T i = 60) (hv : 9999 < V i) : RF T V d so (P, E, false, i) 2 i := by
  refine RF.st (c := 2) (y := (P, E, false, i)) ?_ rfl rfl (by omega)
  rw [s1_b]
  unfold s1b
  rw [if_pos ⟨h60, hv⟩]
theorem bad_5 {T V : Nat → Nat} {d so i : Nat} {P : List Nat} {E : List (Nat × Nat)} (h60 : T i ≠ 60) (h : nmN (T i) < 99) (h6 : 6 ≤ nmN (T i)) (hs : 2 < so) : RF T V d so (P, E, false, i) 5 i := by
  refine RF.st (c := 5) (y := (P, E, false, i)) ?_ rfl rfl (by omega)
  rw [s1_b]
  unfold s1b
  rw [if_neg (fun c => h60 c.1), if_pos ⟨h, h6, hs⟩]
/-- behind one, nothing goes on -/
theorem stop_1 {T V : Nat → Nat} {d so j : Nat} {P Q : List Nat} {E : List (Nat × Nat)} (hb : bwO d (T j) (Q ++ P) = 99) (h1 : ¬ ((T j = 51 ∧ mkK 99 (Q ++ P) = 40) ∨ (T j = 22 ∧ mkK 99 (Q ++ P) = 43))) (h2 : ¬ ((T j = 53 ∧ mkK 99 (Q ++ P) = 41 ∧ cmpd (Q ++ P) = true) ∨ (T j = 54 ∧ mkK 99 (Q ++ P) = 42))) (hc : mkK 99 (Q ++ P) ≠ 99 ∨ (d = 41 ∧ cmpd (Q ++ P) = false)) : RF T V d so (Q ++ P, E, true, j) 1 j := by
  refine RF.sp (y := (Q ++ P, E, true, j)) ?_ rfl hc
  rw [s1_w]
  unfold s1w
  rw [hb, if_neg (by omega), if_neg h1, if_neg h2]
theorem OKr.stop {T V : Nat → Nat} {d so i j : Nat} {P Q : List Nat} {em : List (Nat × Nat)} (h : OKr T V d so P i em Q j) (hb : bwO d (T j) (Q ++ P) = 99) (h1 : ¬ ((T j = 51 ∧ mkK 99 (Q ++ P) = 40) ∨ (T j = 22 ∧ mkK 99 (Q ++ P) = 43))) (h2 : ¬ ((T j = 53 ∧ mkK 99 (Q ++ P) = 41 ∧ cmpd (Q ++ P) = true) ∨ (T j = 54 ∧ mkK 99 (Q ++ P) = 42))) (hc : mkK 99 (Q ++ P) ≠ 99 ∨ (d = 41 ∧ cmpd (Q ++ P) = false)) (E0 : List (Nat × Nat)) : RF T V d so (P, E0, false, i) 1 j := by
  obtain ⟨E1, r1, -⟩ := h E0
  exact RF.tr r1 (stop_1 hb h1 h2 hc)
/-- what is open is closed -/
theorem OKr.cls {T V : Nat → Nat} {d so i j k : Nat} {P Q : List Nat} {em : List (Nat × Nat)} (h : OKr T V d so (k :: P) i em Q j) (hq : ∀ x ∈ Q, 1 ≤ rk x ∧ x < 40) (hb : bwO d (T j) (Q ++ k :: P) = 99) (hk : (T j = 51 ∧ k = 40) ∨ (T j = 22 ∧ k = 43)) (E0 : List (Nat × Nat)) : Rc T V d so (k :: P, E0, false, i) ((stl 7 P (E0 ++ (em ++ if k = 43 then [(2, 0)] else []))).1, (stl 7 P (E0 ++ (em ++ if k = 43 then [(2, 0)] else []))).2, true, j + 1) := by
  obtain ⟨E1, r1, e1⟩ := h E0
  refine r1.tr (Rc.st ?_)
  have k40 : 40 ≤ k := by omega
  have ek : mkK 99 (Q ++ k :: P) = k := (mkK_q Q fun x hx => (hq x hx).2).trans (if_pos k40)
  have rk0 : rk k = 0 := if_pos k40
  have es : stl 1 (Q ++ k :: P) E1 = (k :: P, E1 ++ zp Q) := stl_q (l := 1) (P := k :: P) (show rk k < 1 by omega) Q E1 fun x hx => (hq x hx).1
  rw [s1_w]
  unfold s1w
  rw [hb, if_neg (by omega), ek, if_pos hk]
  unfold clz
  rw [es]
  have e2 : (if k = 43 then (k :: P, E1 ++ zp Q).2 ++ [(2, 0)] else (k :: P, E1 ++ zp Q).2) = E0 ++ (em ++ if k = 43 then [(2, 0)] else []) := by
    show (if k = 43 then E1 ++ zp Q ++ [(2, 0)] else E1 ++ zp Q) = _
    rw [e1]
    split
    · exact List.append_assoc _ _ _
    · rw [List.append_nil]
  rw [e2]
  rfl
theorem OKr.trn {T V : Nat → Nat} {d so i j k : Nat} {P Q : List Nat} {em : List (Nat × Nat)} (h : OKr T V d so (k :: P) i em Q j) (hq : ∀ x ∈ Q, 1 ≤ rk x ∧ x < 40) (hb : bwO d (T j) (Q ++ k :: P) = 99) (hk : (T j = 53 ∧ k = 41 ∧ cmpd (Q ++ k :: P) = true) ∨ (T j = 54 ∧ k = 42)) (E0 : List (Nat × Nat)) : Rc T V d so (k :: P, E0, false, i) ((k + 1) :: P, E0 ++ em, false, j + 1) := by
  obtain ⟨E1, r1, e1⟩ := h E0
  refine r1.tr (Rc.st ?_)
  have k40 : 40 ≤ k := by omega
  have ek : mkK 99 (Q ++ k :: P) = k := (mkK_q Q fun x hx => (hq x hx).2).trans (if_pos k40)
  have rk0 : rk k = 0 := if_pos k40
  have es : stl 1 (Q ++ k :: P) E1 = (k :: P, E1 ++ zp Q) := stl_q (l := 1) (P := k :: P) (show rk k < 1 by omega) Q E1 fun x hx => (hq x hx).1
  rw [s1_w]
  unfold s1w
  rw [hb, if_neg (by omega), ek, if_neg (by omega), if_pos hk, es, ← e1]
  rfl
