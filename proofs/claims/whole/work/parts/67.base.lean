/-! ===== the pure part anew: the model's row as numbers (A), what the cells of the one are of it ===== -/
def fil (M : fM) (r a b : Nat) (v : Int32) : fM := (fun r' j => if r' = r ∧ a ≤ j ∧ j < b then v else M.1 r' j, M.2)
theorem mI_fil (M : fM) (r a b : Nat) (v : Int32) (r' j : Nat) : mI (fil M r a b v) r' j = if r' = r ∧ a ≤ j ∧ j < b then v else mI M r' j := rfl
theorem mI_cpI (M : fM) (r0 r1 sp dp n : Nat) (r k : Nat) : mI (cpI M r0 r1 sp dp n) r k = if r = r1 ∧ dp ≤ k ∧ k < dp + n then mI M r0 (sp + (k - dp)) else mI M r k := rfl
def up (A : Nat → Nat) (k v : Nat) : Nat → Nat := fun j => if j = k then v else A j
def Sts (X : Nat → Int32) (M : fM) : Prop := (∀ i, mI M 0 i = X i) ∧ (∀ j, j < 178 → mI M 4 j = worL.getD j 0) ∧ (∀ j, j < 108 → mI M 1 j = shpL.getD j 0) ∧ ∀ j, j < 16 → mJ M 2 j = powL.getD j 0
def Mdl (M : fM) (r : Nat) (A : Nat → Nat) : Prop := (∀ k, k < 2565 → k ≠ 4 → mI M r k = nI (A k)) ∧ mI M r 4 = nI (A 4) - 1
def RlH (M : fM) (b : Nat) (A : Nat → Nat) : Prop := ∀ h, h < 4 → mI M (b + 10 + 2 * h) 0 = nI (A (10 + 18 * h)) ∧ mI M (b + 10 + 2 * h) 2 = nI (A (10 + 18 * h + 1)) ∧ mI M (b + 10 + 2 * h) 3 = nI (A (10 + 18 * h + 2)) ∧ mI M (b + 10 + 2 * h) 4 = nI (A 7 / 2 ^ h % 2) ∧ ∀ j, j < 15 → mI M (b + 11 + 2 * h) j = nI (A (10 + 18 * h + 3 + j))
def RlP (M : fM) (b : Nat) (A : Nat → Nat) : Prop := ∀ p, p < 6 → mI M (b + 2) p = nI (A (82 + 3 * p)) ∧ mI M (b + 3) p = nI (A (82 + 3 * p + 1)) ∧ mI M (b + 4) p = nI (A (82 + 3 * p + 2))
def RlS (M : fM) (b : Nat) (A : Nat → Nat) : Prop := mI M b 4 = nI (A 0) ∧ mI M b 5 = nI (A 2) ∧ mI M b 6 = nI (A 1) ∧ mI M b 9 = nI (A 8) ∧ mI M b 11 = nI (A 5) ∧ mI M b 14 = nI (A 3) ∧ mI M b 15 = nI (A 4) - 1 ∧ mI M b 17 = nI (A 6)
def RlW (M : fM) (b : Nat) (A : Nat → Nat) : Prop := (A 108 = 1 → ∀ k, k < 8 → mI M (b + 5) k = nI (A (100 + k))) ∧ (A 108 = 0 → mI M (b + 5) 0 = -1)
def RlB (M : fM) (b : Nat) (A : Nat → Nat) : Prop := ∀ i, i < 256 → ∀ k, k < 8 → mI M (b + 6) (i * 8 + k) = nI (A (517 + 8 * i + k))
def RlG (M : fM) (b : Nat) (A : Nat → Nat) : Prop := ∀ i, i < 12 → ∀ k, k < 4 → mI M (b + 9) (i * 4 + k) = nI (A (109 + 4 * i + k))
def RlA (M : fM) (b : Nat) (A : Nat → Nat) (nx : Nat) : Prop := mI M b 12 = nI nx ∧ nx < 30 ∧ ∀ k, k < A 5 → (A (157 + 12 * k + 8) = 1 → ∀ j, j < 8 → mI M (b + 7) (slot nx (A 5) k * 11 + j) = nI (A (157 + 12 * k + j))) ∧ (A (157 + 12 * k + 8) = 0 → mI M (b + 7) (slot nx (A 5) k * 11 + 0) = -1) ∧ mI M (b + 7) (slot nx (A 5) k * 11 + 10) = nI (A (157 + 12 * k + 9)) ∧ mI M (b + 7) (slot nx (A 5) k * 11 + 8) = nI (A (157 + 12 * k + 10)) ∧ mI M (b + 7) (slot nx (A 5) k * 11 + 9) = nI (A (157 + 12 * k + 11))
/-- numbers within bounds -/
def OkS (B : Nat) (A : Nat → Nat) : Prop := A 0 ≤ 6 ∧ A 1 ≤ 999 ∧ A 2 < 30071 ∧ A 3 ≤ 4 ∧ A 4 ≤ A 3 ∧ A 5 ≤ 30 ∧ A 6 ≤ 12 ∧ A 7 < 16 ∧ A 8 ≤ B ∧ B ≤ 1000000
def OkH (A : Nat → Nat) : Prop := ∀ h, h < 4 → 1 ≤ A (10 + 18 * h) ∧ A (10 + 18 * h) ≤ 14 ∧ A (10 + 18 * h + 2) ≤ 14 ∧ A (10 + 18 * h + 3 + 0) = 5 ∧ ∀ j, j < 15 → 1 ≤ A (10 + 18 * h + 3 + j) ∧ A (10 + 18 * h + 3 + j) ≤ 9
def OkP (A : Nat → Nat) : Prop := ∀ p, p < A 0 → A (82 + 3 * p) + A (82 + 3 * p + 1) ≤ 10 ∧ A (82 + 3 * p + 2) ≤ 10
def OkW (A : Nat → Nat) : Prop := (A 108 = 0 ∨ A 108 = 1) ∧ A 101 < 4 ∧ (A 108 = 1 → A 100 < A 0 ∧ A 102 < 4 ∧ A 103 ≤ A (10 + 18 * A 101))
def OkA (B : Nat) (A : Nat → Nat) : Prop := ∀ k, k < A 5 → (A (157 + 12 * k + 8) = 0 ∨ A (157 + 12 * k + 8) = 1) ∧ A (157 + 12 * k + 1) < 4 ∧ (A (157 + 12 * k + 8) = 1 → A (157 + 12 * k + 0) < A 0 ∧ A (157 + 12 * k + 2) < 4 ∧ A (157 + 12 * k + 3) ≤ 14) ∧ A (157 + 12 * k + 9) ≤ B ∧ A (157 + 12 * k + 10) ≤ 999 ∧ A (157 + 12 * k + 11) < 30071
def OkG (A : Nat → Nat) : Prop := ∀ k, k < A 6 → A (109 + 4 * k + 0) < A 0 ∧ A (109 + 4 * k + 1) < 4 ∧ 1 ≤ A (109 + 4 * k + 2) ∧ A (109 + 4 * k + 2) ≤ 14 ∧ A (109 + 4 * k + 3) ≤ 1
def OkB (A : Nat → Nat) : Prop := ∀ i, i < 256 → A (517 + 8 * i + 1) < 4
def Okk (B : Nat) (A : Nat → Nat) : Prop := OkS B A ∧ OkH A ∧ OkP A ∧ OkW A ∧ OkA B A ∧ OkG A ∧ OkB A
/-- a State of the one, at b, holds these numbers -/
def Cls (M : fM) (b : Nat) (A : Nat → Nat) (nx : Nat) : Prop := RlH M b A ∧ RlP M b A ∧ RlS M b A ∧ RlW M b A ∧ RlB M b A ∧ RlG M b A ∧ RlA M b A nx
/-- codes of a TEXT: the model's pair, the one's number -/
def tok (o : Nat) : Nat := if o = 2 then 21 else if o = 3 then 70 else if o = 4 then 40 else if o = 5 then 41 else if o = 6 then 42 else if o = 7 then 43 else if o = 10 then 44 else if o = 11 then 45 else if o = 12 then 46 else if o = 13 then 47 else if o = 14 then 48 else if o = 15 then 49 else if o = 20 then 23 else if o = 21 then 25 else 24
def enc (x : Nat × Nat) : Int32 := if x.1 = 0 then nI x.2 else if x.1 = 1 then -100 - nI x.2 else -nI (tok x.1)
def tyS (t : List Bool) (o : Nat) : Option (List Bool) := if o ≤ 1 then some (false :: t) else match t with
  | false :: false :: true :: t2 => if o = 2 then some (false :: t2) else if 4 ≤ o ∧ o ≤ 7 then some (false :: true :: t2) else if 10 ≤ o ∧ o ≤ 15 then some (true :: true :: t2) else if o = 3 then some t else none
  | false :: false :: t2 => if 4 ≤ o ∧ o ≤ 7 then some (false :: t2) else if 10 ≤ o ∧ o ≤ 15 then some (true :: t2) else if o = 3 then some t else none
  | false :: _ => if o = 3 then some t else none
  | true :: true :: t2 => if o = 20 then some t else if o = 21 ∨ o = 22 then some (true :: t2) else none
  | true :: _ => if o = 20 then some t else none
  | [] => none
def tyR : List Bool → List (Nat × Nat) → Option (List Bool)
  | t, [] => some t
  | t, x :: l => match tyS t x.1 with
    | some t2 => tyR t2 l
    | none => none
def cdOk (s : Nat) (l : List (Nat × Nat)) : Prop := tyR [] l = some [decide (s = 2)] ∧ ∀ x ∈ l, (x.1 = 0 → x.2 ≤ 9999) ∧ (x.1 = 1 → x.2 < if s ≤ 2 then 10 else 6)
/-- how many numbers a CLAUSE has -/
def arN (s : Nat) : Nat := if s = 6 ∨ s = 9 then 3 else if s = 13 ∨ s = 14 ∨ s = 16 then 1 else if s = 15 then 0 else 2
/-- a TEXT of the one (its arrays' contents) and the model's row T of it -/
def TxC (cd : List (Nat × Nat)) (C S E D U : Nat → Int32) (cl : Nat) (T : Nat → Int32) : Prop :=
  T 0 = nI cl ∧ cl ≤ 24 ∧ cd.length ≤ 300 ∧ (∀ i x, cd[i]? = some x → C i = enc x ∧ T (97 + 2 * i) = nI x.1 ∧ T (98 + 2 * i) = nI x.2) ∧
  (∀ k, k < cl → ∃ s, s ≤ 16 ∧ D k = nI s ∧ T (1 + 4 * k) = nI s ∧ (s < 5 → ∃ a b, a < b ∧ b ≤ cd.length ∧ S s = nI a ∧ E s = nI b ∧ T (3 + 4 * k) = nI a ∧ T (4 + 4 * k) = nI b ∧ cdOk s ((cd.drop a).take (b - a))) ∧ (5 ≤ s → ∀ j, j < arN s → U (3 * k + j) = T (2 + 4 * k + j)) ∧ (s = 13 ∨ s = 14 ∨ s = 16 → ∃ n, 1 ≤ n ∧ n ≤ 99 ∧ T (2 + 4 * k) = nI n)) ∧
  (∀ k k', k < cl → k' < cl → D k = D k' → D k < 5 → k = k') ∧ ∀ s, s < 5 → (∀ k, k < cl → D k ≠ nI s) → E s = 0
def TxR (M : fM) (r i : Nat) : Prop := ∃ o c s e d u cd cl, mP M r i = some o ∧ 82 ≤ o ∧ mS M o = some (8, 5) ∧ mP M o 0 = some c ∧ mP M o 1 = some s ∧ mP M o 2 = some e ∧ mP M o 3 = some d ∧ mP M o 4 = some u ∧ 82 ≤ c ∧ 82 ≤ s ∧ 82 ≤ e ∧ 82 ≤ d ∧ 82 ≤ u ∧ mS M c = some (12, cd.length) ∧ mS M s = some (12, 5) ∧ mS M e = some (12, 5) ∧ mS M d = some (12, cl) ∧ mS M u = some (12, 3 * cl) ∧ TxC cd (mI M c) (mI M s) (mI M e) (mI M d) (mI M u) cl (fun k => mI M 73 (705 * i + k))
def Tap (M : fM) (tl : Nat) (tp : Nat → Nat) : Prop := tl ≤ 300 ∧ mI M 46 1 = nI tl ∧ mI M 70 4 = nI tl ∧ ∀ k, k < tl → tp k < 256 ∧ mI M 47 k = nI (tp k) ∧ mI M 74 k = nI (tp k)
def Flt (M : fM) : Prop := mI M 51 0 = mI M 70 5 ∧ mI M 51 1 = mI M 70 6
def Tex (M : fM) (A A' : Nat → Nat) : Prop := A' 3 ≤ A 3 ∧ (∀ i, i < A 3 → TxR M 18 i) ∧ (∀ i, i < A' 3 → mP M 36 i = mP M 18 i) ∧ ∀ r, r = 18 ∨ r = 36 → ∀ i, i < 4 → ∀ y, mP M r i = some y → isO M y 8
/-- the invariant of the law's loop -/
def IV (L : Nat) (X : Nat → Int32) (B : Nat) (A A' : Nat → Nat) (nx nx' tl : Nat) (tp : Nat → Nat) (M : fM) : Prop := Str L M ∧ Sts X M ∧ Cls M 10 A nx ∧ Mdl M 71 A ∧ Cls M 28 A' nx' ∧ Mdl M 72 A' ∧ Okk B A ∧ Okk B A' ∧ Tap M tl tp ∧ Flt M ∧ Tex M A A'
def Inv (L : Nat) (X : Nat → Int32) (B : Nat) (M : fM) : Prop := ∃ A A' nx nx' tl tp, IV L X B A A' nx nx' tl tp M
/-- what is left of the one's call: the model's answers the same, and the invariant holds again -/
def Mid {α : Type} (L : Nat) (X : Nat → Int32) (B : Nat) (w : fM → (α → fM → Prop) → Prop) (v : α) (M : fM) : Prop := Str L M ∧ Sts X M ∧ ∀ Ψ : α → fM → Prop, (∀ M2, Inv L X B M2 → Ψ v M2) → w M Ψ
/-- rows that nothing is kept in -/
def scr (r : Nat) : Prop := r = 7 ∨ r = 8 ∨ r = 9 ∨ (48 ≤ r ∧ r ≤ 50) ∨ (52 ≤ r ∧ r ≤ 69) ∨ (75 ≤ r ∧ r ≤ 81)
/-- rows that the one's calls write, and the model's -/
def clr (r : Nat) : Prop := (10 ≤ r ∧ r ≤ 27) ∨ scr r
def mdr (r : Nat) : Prop := r = 71 ∨ scr r
/-- shapes and pointers, but the TEXT that laws were asked by last -/
def nop (M : fM) : (Nat → Nat → Option Nat) × List (Nat × Nat) := (fun r k => if r = 7 ∧ k = 2 then none else M.2.2.1 r k, M.2.2.2)
def Frm (P : Nat → Prop) (M M2 : fM) : Prop := nop M2 = nop M ∧ (∀ k, mJ M2 2 k = mJ M 2 k) ∧ ∀ r, ¬ P r → ∀ k, (r = 70 → k < 7) → mI M2 r k = mI M r k
