/-! ===== the shape behind both constructors: cells 6 .. 69 the one, 70 .. 81 the model ===== -/
def SHL : List (Nat × Nat) := [(12, 108), (13, 16), (17, 0), (18, 178), (19, 0), (10, 8), (1, 5), (12, 10), (12, 300), (5, 18), (15, 4), (12, 6), (12, 6), (12, 6), (12, 8), (12, 2048), (12, 330), (16, 4), (12, 48), (0, 5), (12, 15), (0, 5), (12, 15), (0, 5), (12, 15), (0, 5), (12, 15), (5, 18), (15, 4), (12, 6), (12, 6), (12, 6), (12, 8), (12, 2048), (12, 330), (16, 4), (12, 48), (0, 5), (12, 15), (0, 5), (12, 15), (0, 5), (12, 15), (0, 5), (12, 15), (7, 6), (12, 300), (12, 301), (12, 301), (12, 301), (4, 14), (12, 300), (12, 5), (12, 5), (12, 24), (12, 72), (9, 2), (3, 13), (12, 15), (12, 15), (12, 15), (13, 480), (13, 10), (6, 3), (12, 4), (2, 5), (12, 160), (12, 160), (12, 10), (11, 32), (12, 2565), (12, 2565), (12, 2820), (12, 300), (12, 160), (12, 10), (13, 330), (14, 330), (13, 480), (13, 17), (12, 160)]
def PTL : List (Nat × Nat × Nat) := [(6, 0, 10), (6, 1, 28), (6, 2, 46), (6, 3, 51), (6, 4, 57), (6, 5, 58), (6, 6, 64), (6, 7, 66), (7, 0, 8), (7, 1, 9), (10, 0, 11), (10, 1, 12), (10, 2, 13), (10, 3, 14), (10, 7, 15), (10, 8, 16), (10, 10, 17), (10, 13, 18), (10, 16, 19), (20, 1, 21), (11, 0, 20), (22, 1, 23), (11, 1, 22), (24, 1, 25), (11, 2, 24), (26, 1, 27), (11, 3, 26), (28, 0, 29), (28, 1, 30), (28, 2, 31), (28, 3, 32), (28, 7, 33), (28, 8, 34), (28, 10, 35), (28, 13, 36), (28, 16, 37), (38, 1, 39), (29, 0, 38), (40, 1, 41), (29, 1, 40), (42, 1, 43), (29, 2, 42), (44, 1, 45), (29, 3, 44), (46, 0, 47), (46, 2, 48), (46, 3, 49), (46, 4, 50), (51, 3, 52), (51, 4, 53), (51, 5, 54), (51, 6, 55), (51, 7, 56), (51, 2, 46), (57, 0, 10), (57, 1, 7), (58, 1, 10), (58, 2, 7), (58, 7, 59), (58, 8, 60), (58, 9, 61), (58, 10, 62), (58, 11, 63), (64, 0, 10), (64, 1, 7), (64, 2, 65), (66, 0, 10), (66, 1, 7), (66, 2, 67), (66, 3, 68), (66, 4, 69), (70, 0, 71), (70, 1, 72), (70, 2, 73), (70, 3, 74), (70, 16, 75), (70, 21, 76), (70, 22, 77), (70, 23, 78), (70, 24, 79), (70, 30, 80), (70, 31, 81)]
def StrX (L : Nat) (X : (Nat → Nat → Option Nat) × List (Nat × Nat)) : Prop := (∃ ex, X.2 = (12, L) :: (SHL ++ ex)) ∧ ∀ t ∈ PTL, X.1 t.1 t.2.1 = some t.2.2
def Str (L : Nat) (M : fM) : Prop := StrX L M.2.2
theorem Str.pt {L : Nat} {M : fM} (h : Str L M) (i r k v : Nat) (hi : PTL[i]? = some (r, k, v)) : mP M r k = some v := h.2 (r, k, v) (List.mem_of_getElem? hi)
theorem Str.sh {L : Nat} {M : fM} (h : Str L M) (r : Nat) (s : Nat × Nat) (hi : SHL[r]? = some s) : mS M (r + 1) = some s := by
  obtain ⟨⟨ex, he⟩, -⟩ := h
  unfold mS
  rw [he, List.getElem?_cons_succ, List.getElem?_append_left (List.getElem?_eq_some_iff.mp hi).1]
  exact hi
theorem Str.sh0 {L : Nat} {M : fM} (h : Str L M) : mS M 0 = some (12, L) := by
  obtain ⟨⟨ex, he⟩, -⟩ := h
  unfold mS
  rw [he]
  rfl
theorem isO_of {M : fM} {r kd n : Nat} (h6 : 6 ≤ r) (h : mS M r = some (kd, n)) : isO M r kd := ⟨h6, n, h⟩
theorem inA_of {M : fM} {r kd n : Nat} {i : Int32} (h : mS M r = some (kd, n)) (hi : vp_in i n) : inA M r kd i := ⟨n, h, hi⟩
theorem lenA_of {M : fM} {r kd n : Nat} {A : Nat → Prop} (h : mS M r = some (kd, n)) (hA : A n) : lenA M r kd A := ⟨n, h, hA⟩
theorem dR_of {o : Option Nat} {y : Nat} {A : Nat → Prop} (h : o = some y) (hA : A y) : dR o A := by subst h; exact hA
theorem gN_of {o : Option Nat} {y : Nat} {A : Nat → Prop} {B : Prop} (h : o = some y) (hA : A y) : gN o A B := by subst h; exact hA
theorem gN_no {o : Option Nat} {A : Nat → Prop} {B : Prop} (h : o = none) (hB : B) : gN o A B := by subst h; exact hB
theorem nm_of {α : Type} {e : α} {A : α → Prop} (h : A e) : nm e A := fun x hx => by subst hx; exact h
theorem st_of {X : fM} {A : fM → Prop} (h : A X) : st X A := fun x hx => by subst hx; exact h
theorem iF_t {c A B : Prop} (hc : c) (h : A) : iF c A B := ⟨fun _ => h, fun n => absurd hc n⟩
theorem iF_f {c A B : Prop} (hc : ¬ c) (h : B) : iF c A B := ⟨fun y => absurd y hc, fun _ => h⟩
theorem iF_s {c A B : Prop} (h1 : c → A) (h2 : ¬ c → B) : iF c A B := ⟨h1, h2⟩
theorem sp_6_0 {L : Nat} {M : fM} (h : Str L M) : mP M 6 0 = some 10 := h.pt 0 6 0 10 rfl
theorem sp_6_1 {L : Nat} {M : fM} (h : Str L M) : mP M 6 1 = some 28 := h.pt 1 6 1 28 rfl
theorem sp_6_2 {L : Nat} {M : fM} (h : Str L M) : mP M 6 2 = some 46 := h.pt 2 6 2 46 rfl
theorem sp_6_3 {L : Nat} {M : fM} (h : Str L M) : mP M 6 3 = some 51 := h.pt 3 6 3 51 rfl
theorem sp_6_4 {L : Nat} {M : fM} (h : Str L M) : mP M 6 4 = some 57 := h.pt 4 6 4 57 rfl
theorem sp_6_5 {L : Nat} {M : fM} (h : Str L M) : mP M 6 5 = some 58 := h.pt 5 6 5 58 rfl
theorem sp_6_6 {L : Nat} {M : fM} (h : Str L M) : mP M 6 6 = some 64 := h.pt 6 6 6 64 rfl
theorem sp_6_7 {L : Nat} {M : fM} (h : Str L M) : mP M 6 7 = some 66 := h.pt 7 6 7 66 rfl
theorem sp_7_0 {L : Nat} {M : fM} (h : Str L M) : mP M 7 0 = some 8 := h.pt 8 7 0 8 rfl
theorem sp_7_1 {L : Nat} {M : fM} (h : Str L M) : mP M 7 1 = some 9 := h.pt 9 7 1 9 rfl
theorem sp_10_0 {L : Nat} {M : fM} (h : Str L M) : mP M 10 0 = some 11 := h.pt 10 10 0 11 rfl
theorem sp_10_1 {L : Nat} {M : fM} (h : Str L M) : mP M 10 1 = some 12 := h.pt 11 10 1 12 rfl
theorem sp_10_2 {L : Nat} {M : fM} (h : Str L M) : mP M 10 2 = some 13 := h.pt 12 10 2 13 rfl
theorem sp_10_3 {L : Nat} {M : fM} (h : Str L M) : mP M 10 3 = some 14 := h.pt 13 10 3 14 rfl
theorem sp_10_7 {L : Nat} {M : fM} (h : Str L M) : mP M 10 7 = some 15 := h.pt 14 10 7 15 rfl
theorem sp_10_8 {L : Nat} {M : fM} (h : Str L M) : mP M 10 8 = some 16 := h.pt 15 10 8 16 rfl
theorem sp_10_10 {L : Nat} {M : fM} (h : Str L M) : mP M 10 10 = some 17 := h.pt 16 10 10 17 rfl
theorem sp_10_13 {L : Nat} {M : fM} (h : Str L M) : mP M 10 13 = some 18 := h.pt 17 10 13 18 rfl
theorem sp_10_16 {L : Nat} {M : fM} (h : Str L M) : mP M 10 16 = some 19 := h.pt 18 10 16 19 rfl
theorem sp_20_1 {L : Nat} {M : fM} (h : Str L M) : mP M 20 1 = some 21 := h.pt 19 20 1 21 rfl
theorem sp_11_0 {L : Nat} {M : fM} (h : Str L M) : mP M 11 0 = some 20 := h.pt 20 11 0 20 rfl
theorem sp_22_1 {L : Nat} {M : fM} (h : Str L M) : mP M 22 1 = some 23 := h.pt 21 22 1 23 rfl
theorem sp_11_1 {L : Nat} {M : fM} (h : Str L M) : mP M 11 1 = some 22 := h.pt 22 11 1 22 rfl
theorem sp_24_1 {L : Nat} {M : fM} (h : Str L M) : mP M 24 1 = some 25 := h.pt 23 24 1 25 rfl
theorem sp_11_2 {L : Nat} {M : fM} (h : Str L M) : mP M 11 2 = some 24 := h.pt 24 11 2 24 rfl
theorem sp_26_1 {L : Nat} {M : fM} (h : Str L M) : mP M 26 1 = some 27 := h.pt 25 26 1 27 rfl
theorem sp_11_3 {L : Nat} {M : fM} (h : Str L M) : mP M 11 3 = some 26 := h.pt 26 11 3 26 rfl
theorem sp_28_0 {L : Nat} {M : fM} (h : Str L M) : mP M 28 0 = some 29 := h.pt 27 28 0 29 rfl
theorem sp_28_1 {L : Nat} {M : fM} (h : Str L M) : mP M 28 1 = some 30 := h.pt 28 28 1 30 rfl
theorem sp_28_2 {L : Nat} {M : fM} (h : Str L M) : mP M 28 2 = some 31 := h.pt 29 28 2 31 rfl
theorem sp_28_3 {L : Nat} {M : fM} (h : Str L M) : mP M 28 3 = some 32 := h.pt 30 28 3 32 rfl
theorem sp_28_7 {L : Nat} {M : fM} (h : Str L M) : mP M 28 7 = some 33 := h.pt 31 28 7 33 rfl
theorem sp_28_8 {L : Nat} {M : fM} (h : Str L M) : mP M 28 8 = some 34 := h.pt 32 28 8 34 rfl
theorem sp_28_10 {L : Nat} {M : fM} (h : Str L M) : mP M 28 10 = some 35 := h.pt 33 28 10 35 rfl
theorem sp_28_13 {L : Nat} {M : fM} (h : Str L M) : mP M 28 13 = some 36 := h.pt 34 28 13 36 rfl
theorem sp_28_16 {L : Nat} {M : fM} (h : Str L M) : mP M 28 16 = some 37 := h.pt 35 28 16 37 rfl
theorem sp_38_1 {L : Nat} {M : fM} (h : Str L M) : mP M 38 1 = some 39 := h.pt 36 38 1 39 rfl
theorem sp_29_0 {L : Nat} {M : fM} (h : Str L M) : mP M 29 0 = some 38 := h.pt 37 29 0 38 rfl
theorem sp_40_1 {L : Nat} {M : fM} (h : Str L M) : mP M 40 1 = some 41 := h.pt 38 40 1 41 rfl
theorem sp_29_1 {L : Nat} {M : fM} (h : Str L M) : mP M 29 1 = some 40 := h.pt 39 29 1 40 rfl
theorem sp_42_1 {L : Nat} {M : fM} (h : Str L M) : mP M 42 1 = some 43 := h.pt 40 42 1 43 rfl
theorem sp_29_2 {L : Nat} {M : fM} (h : Str L M) : mP M 29 2 = some 42 := h.pt 41 29 2 42 rfl
theorem sp_44_1 {L : Nat} {M : fM} (h : Str L M) : mP M 44 1 = some 45 := h.pt 42 44 1 45 rfl
theorem sp_29_3 {L : Nat} {M : fM} (h : Str L M) : mP M 29 3 = some 44 := h.pt 43 29 3 44 rfl
theorem sp_46_0 {L : Nat} {M : fM} (h : Str L M) : mP M 46 0 = some 47 := h.pt 44 46 0 47 rfl
theorem sp_46_2 {L : Nat} {M : fM} (h : Str L M) : mP M 46 2 = some 48 := h.pt 45 46 2 48 rfl
theorem sp_46_3 {L : Nat} {M : fM} (h : Str L M) : mP M 46 3 = some 49 := h.pt 46 46 3 49 rfl
theorem sp_46_4 {L : Nat} {M : fM} (h : Str L M) : mP M 46 4 = some 50 := h.pt 47 46 4 50 rfl
theorem sp_51_3 {L : Nat} {M : fM} (h : Str L M) : mP M 51 3 = some 52 := h.pt 48 51 3 52 rfl
theorem sp_51_4 {L : Nat} {M : fM} (h : Str L M) : mP M 51 4 = some 53 := h.pt 49 51 4 53 rfl
theorem sp_51_5 {L : Nat} {M : fM} (h : Str L M) : mP M 51 5 = some 54 := h.pt 50 51 5 54 rfl
theorem sp_51_6 {L : Nat} {M : fM} (h : Str L M) : mP M 51 6 = some 55 := h.pt 51 51 6 55 rfl
theorem sp_51_7 {L : Nat} {M : fM} (h : Str L M) : mP M 51 7 = some 56 := h.pt 52 51 7 56 rfl
theorem sp_51_2 {L : Nat} {M : fM} (h : Str L M) : mP M 51 2 = some 46 := h.pt 53 51 2 46 rfl
theorem sp_57_0 {L : Nat} {M : fM} (h : Str L M) : mP M 57 0 = some 10 := h.pt 54 57 0 10 rfl
theorem sp_57_1 {L : Nat} {M : fM} (h : Str L M) : mP M 57 1 = some 7 := h.pt 55 57 1 7 rfl
theorem sp_58_1 {L : Nat} {M : fM} (h : Str L M) : mP M 58 1 = some 10 := h.pt 56 58 1 10 rfl
theorem sp_58_2 {L : Nat} {M : fM} (h : Str L M) : mP M 58 2 = some 7 := h.pt 57 58 2 7 rfl
theorem sp_58_7 {L : Nat} {M : fM} (h : Str L M) : mP M 58 7 = some 59 := h.pt 58 58 7 59 rfl
theorem sp_58_8 {L : Nat} {M : fM} (h : Str L M) : mP M 58 8 = some 60 := h.pt 59 58 8 60 rfl
theorem sp_58_9 {L : Nat} {M : fM} (h : Str L M) : mP M 58 9 = some 61 := h.pt 60 58 9 61 rfl
theorem sp_58_10 {L : Nat} {M : fM} (h : Str L M) : mP M 58 10 = some 62 := h.pt 61 58 10 62 rfl
theorem sp_58_11 {L : Nat} {M : fM} (h : Str L M) : mP M 58 11 = some 63 := h.pt 62 58 11 63 rfl
theorem sp_64_0 {L : Nat} {M : fM} (h : Str L M) : mP M 64 0 = some 10 := h.pt 63 64 0 10 rfl
theorem sp_64_1 {L : Nat} {M : fM} (h : Str L M) : mP M 64 1 = some 7 := h.pt 64 64 1 7 rfl
theorem sp_64_2 {L : Nat} {M : fM} (h : Str L M) : mP M 64 2 = some 65 := h.pt 65 64 2 65 rfl
theorem sp_66_0 {L : Nat} {M : fM} (h : Str L M) : mP M 66 0 = some 10 := h.pt 66 66 0 10 rfl
theorem sp_66_1 {L : Nat} {M : fM} (h : Str L M) : mP M 66 1 = some 7 := h.pt 67 66 1 7 rfl
theorem sp_66_2 {L : Nat} {M : fM} (h : Str L M) : mP M 66 2 = some 67 := h.pt 68 66 2 67 rfl
theorem sp_66_3 {L : Nat} {M : fM} (h : Str L M) : mP M 66 3 = some 68 := h.pt 69 66 3 68 rfl
theorem sp_66_4 {L : Nat} {M : fM} (h : Str L M) : mP M 66 4 = some 69 := h.pt 70 66 4 69 rfl
theorem sp_70_0 {L : Nat} {M : fM} (h : Str L M) : mP M 70 0 = some 71 := h.pt 71 70 0 71 rfl
theorem sp_70_1 {L : Nat} {M : fM} (h : Str L M) : mP M 70 1 = some 72 := h.pt 72 70 1 72 rfl
theorem sp_70_2 {L : Nat} {M : fM} (h : Str L M) : mP M 70 2 = some 73 := h.pt 73 70 2 73 rfl
theorem sp_70_3 {L : Nat} {M : fM} (h : Str L M) : mP M 70 3 = some 74 := h.pt 74 70 3 74 rfl
theorem sp_70_16 {L : Nat} {M : fM} (h : Str L M) : mP M 70 16 = some 75 := h.pt 75 70 16 75 rfl
theorem sp_70_21 {L : Nat} {M : fM} (h : Str L M) : mP M 70 21 = some 76 := h.pt 76 70 21 76 rfl
theorem sp_70_22 {L : Nat} {M : fM} (h : Str L M) : mP M 70 22 = some 77 := h.pt 77 70 22 77 rfl
theorem sp_70_23 {L : Nat} {M : fM} (h : Str L M) : mP M 70 23 = some 78 := h.pt 78 70 23 78 rfl
theorem sp_70_24 {L : Nat} {M : fM} (h : Str L M) : mP M 70 24 = some 79 := h.pt 79 70 24 79 rfl
theorem sp_70_30 {L : Nat} {M : fM} (h : Str L M) : mP M 70 30 = some 80 := h.pt 80 70 30 80 rfl
theorem sp_70_31 {L : Nat} {M : fM} (h : Str L M) : mP M 70 31 = some 81 := h.pt 81 70 31 81 rfl
theorem ss_1 {L : Nat} {M : fM} (h : Str L M) : mS M 1 = some (12, 108) := h.sh 0 _ rfl
theorem ss_2 {L : Nat} {M : fM} (h : Str L M) : mS M 2 = some (13, 16) := h.sh 1 _ rfl
theorem ss_3 {L : Nat} {M : fM} (h : Str L M) : mS M 3 = some (17, 0) := h.sh 2 _ rfl
theorem ss_4 {L : Nat} {M : fM} (h : Str L M) : mS M 4 = some (18, 178) := h.sh 3 _ rfl
theorem ss_5 {L : Nat} {M : fM} (h : Str L M) : mS M 5 = some (19, 0) := h.sh 4 _ rfl
theorem ss_6 {L : Nat} {M : fM} (h : Str L M) : mS M 6 = some (10, 8) := h.sh 5 _ rfl
theorem ss_7 {L : Nat} {M : fM} (h : Str L M) : mS M 7 = some (1, 5) := h.sh 6 _ rfl
theorem ss_8 {L : Nat} {M : fM} (h : Str L M) : mS M 8 = some (12, 10) := h.sh 7 _ rfl
theorem ss_9 {L : Nat} {M : fM} (h : Str L M) : mS M 9 = some (12, 300) := h.sh 8 _ rfl
theorem ss_10 {L : Nat} {M : fM} (h : Str L M) : mS M 10 = some (5, 18) := h.sh 9 _ rfl
theorem ss_11 {L : Nat} {M : fM} (h : Str L M) : mS M 11 = some (15, 4) := h.sh 10 _ rfl
theorem ss_12 {L : Nat} {M : fM} (h : Str L M) : mS M 12 = some (12, 6) := h.sh 11 _ rfl
theorem ss_13 {L : Nat} {M : fM} (h : Str L M) : mS M 13 = some (12, 6) := h.sh 12 _ rfl
theorem ss_14 {L : Nat} {M : fM} (h : Str L M) : mS M 14 = some (12, 6) := h.sh 13 _ rfl
theorem ss_15 {L : Nat} {M : fM} (h : Str L M) : mS M 15 = some (12, 8) := h.sh 14 _ rfl
theorem ss_16 {L : Nat} {M : fM} (h : Str L M) : mS M 16 = some (12, 2048) := h.sh 15 _ rfl
theorem ss_17 {L : Nat} {M : fM} (h : Str L M) : mS M 17 = some (12, 330) := h.sh 16 _ rfl
theorem ss_18 {L : Nat} {M : fM} (h : Str L M) : mS M 18 = some (16, 4) := h.sh 17 _ rfl
theorem ss_19 {L : Nat} {M : fM} (h : Str L M) : mS M 19 = some (12, 48) := h.sh 18 _ rfl
theorem ss_20 {L : Nat} {M : fM} (h : Str L M) : mS M 20 = some (0, 5) := h.sh 19 _ rfl
theorem ss_21 {L : Nat} {M : fM} (h : Str L M) : mS M 21 = some (12, 15) := h.sh 20 _ rfl
theorem ss_22 {L : Nat} {M : fM} (h : Str L M) : mS M 22 = some (0, 5) := h.sh 21 _ rfl
theorem ss_23 {L : Nat} {M : fM} (h : Str L M) : mS M 23 = some (12, 15) := h.sh 22 _ rfl
theorem ss_24 {L : Nat} {M : fM} (h : Str L M) : mS M 24 = some (0, 5) := h.sh 23 _ rfl
theorem ss_25 {L : Nat} {M : fM} (h : Str L M) : mS M 25 = some (12, 15) := h.sh 24 _ rfl
theorem ss_26 {L : Nat} {M : fM} (h : Str L M) : mS M 26 = some (0, 5) := h.sh 25 _ rfl
theorem ss_27 {L : Nat} {M : fM} (h : Str L M) : mS M 27 = some (12, 15) := h.sh 26 _ rfl
theorem ss_28 {L : Nat} {M : fM} (h : Str L M) : mS M 28 = some (5, 18) := h.sh 27 _ rfl
theorem ss_29 {L : Nat} {M : fM} (h : Str L M) : mS M 29 = some (15, 4) := h.sh 28 _ rfl
theorem ss_30 {L : Nat} {M : fM} (h : Str L M) : mS M 30 = some (12, 6) := h.sh 29 _ rfl
theorem ss_31 {L : Nat} {M : fM} (h : Str L M) : mS M 31 = some (12, 6) := h.sh 30 _ rfl
theorem ss_32 {L : Nat} {M : fM} (h : Str L M) : mS M 32 = some (12, 6) := h.sh 31 _ rfl
theorem ss_33 {L : Nat} {M : fM} (h : Str L M) : mS M 33 = some (12, 8) := h.sh 32 _ rfl
theorem ss_34 {L : Nat} {M : fM} (h : Str L M) : mS M 34 = some (12, 2048) := h.sh 33 _ rfl
theorem ss_35 {L : Nat} {M : fM} (h : Str L M) : mS M 35 = some (12, 330) := h.sh 34 _ rfl
theorem ss_36 {L : Nat} {M : fM} (h : Str L M) : mS M 36 = some (16, 4) := h.sh 35 _ rfl
theorem ss_37 {L : Nat} {M : fM} (h : Str L M) : mS M 37 = some (12, 48) := h.sh 36 _ rfl
theorem ss_38 {L : Nat} {M : fM} (h : Str L M) : mS M 38 = some (0, 5) := h.sh 37 _ rfl
theorem ss_39 {L : Nat} {M : fM} (h : Str L M) : mS M 39 = some (12, 15) := h.sh 38 _ rfl
theorem ss_40 {L : Nat} {M : fM} (h : Str L M) : mS M 40 = some (0, 5) := h.sh 39 _ rfl
theorem ss_41 {L : Nat} {M : fM} (h : Str L M) : mS M 41 = some (12, 15) := h.sh 40 _ rfl
theorem ss_42 {L : Nat} {M : fM} (h : Str L M) : mS M 42 = some (0, 5) := h.sh 41 _ rfl
theorem ss_43 {L : Nat} {M : fM} (h : Str L M) : mS M 43 = some (12, 15) := h.sh 42 _ rfl
theorem ss_44 {L : Nat} {M : fM} (h : Str L M) : mS M 44 = some (0, 5) := h.sh 43 _ rfl
theorem ss_45 {L : Nat} {M : fM} (h : Str L M) : mS M 45 = some (12, 15) := h.sh 44 _ rfl
theorem ss_46 {L : Nat} {M : fM} (h : Str L M) : mS M 46 = some (7, 6) := h.sh 45 _ rfl
theorem ss_47 {L : Nat} {M : fM} (h : Str L M) : mS M 47 = some (12, 300) := h.sh 46 _ rfl
theorem ss_48 {L : Nat} {M : fM} (h : Str L M) : mS M 48 = some (12, 301) := h.sh 47 _ rfl
theorem ss_49 {L : Nat} {M : fM} (h : Str L M) : mS M 49 = some (12, 301) := h.sh 48 _ rfl
theorem ss_50 {L : Nat} {M : fM} (h : Str L M) : mS M 50 = some (12, 301) := h.sh 49 _ rfl
theorem ss_51 {L : Nat} {M : fM} (h : Str L M) : mS M 51 = some (4, 14) := h.sh 50 _ rfl
theorem ss_52 {L : Nat} {M : fM} (h : Str L M) : mS M 52 = some (12, 300) := h.sh 51 _ rfl
theorem ss_53 {L : Nat} {M : fM} (h : Str L M) : mS M 53 = some (12, 5) := h.sh 52 _ rfl
theorem ss_54 {L : Nat} {M : fM} (h : Str L M) : mS M 54 = some (12, 5) := h.sh 53 _ rfl
theorem ss_55 {L : Nat} {M : fM} (h : Str L M) : mS M 55 = some (12, 24) := h.sh 54 _ rfl
theorem ss_56 {L : Nat} {M : fM} (h : Str L M) : mS M 56 = some (12, 72) := h.sh 55 _ rfl
theorem ss_57 {L : Nat} {M : fM} (h : Str L M) : mS M 57 = some (9, 2) := h.sh 56 _ rfl
theorem ss_58 {L : Nat} {M : fM} (h : Str L M) : mS M 58 = some (3, 13) := h.sh 57 _ rfl
theorem ss_59 {L : Nat} {M : fM} (h : Str L M) : mS M 59 = some (12, 15) := h.sh 58 _ rfl
theorem ss_60 {L : Nat} {M : fM} (h : Str L M) : mS M 60 = some (12, 15) := h.sh 59 _ rfl
theorem ss_61 {L : Nat} {M : fM} (h : Str L M) : mS M 61 = some (12, 15) := h.sh 60 _ rfl
theorem ss_62 {L : Nat} {M : fM} (h : Str L M) : mS M 62 = some (13, 480) := h.sh 61 _ rfl
theorem ss_63 {L : Nat} {M : fM} (h : Str L M) : mS M 63 = some (13, 10) := h.sh 62 _ rfl
theorem ss_64 {L : Nat} {M : fM} (h : Str L M) : mS M 64 = some (6, 3) := h.sh 63 _ rfl
theorem ss_65 {L : Nat} {M : fM} (h : Str L M) : mS M 65 = some (12, 4) := h.sh 64 _ rfl
theorem ss_66 {L : Nat} {M : fM} (h : Str L M) : mS M 66 = some (2, 5) := h.sh 65 _ rfl
theorem ss_67 {L : Nat} {M : fM} (h : Str L M) : mS M 67 = some (12, 160) := h.sh 66 _ rfl
theorem ss_68 {L : Nat} {M : fM} (h : Str L M) : mS M 68 = some (12, 160) := h.sh 67 _ rfl
theorem ss_69 {L : Nat} {M : fM} (h : Str L M) : mS M 69 = some (12, 10) := h.sh 68 _ rfl
theorem ss_70 {L : Nat} {M : fM} (h : Str L M) : mS M 70 = some (11, 32) := h.sh 69 _ rfl
theorem ss_71 {L : Nat} {M : fM} (h : Str L M) : mS M 71 = some (12, 2565) := h.sh 70 _ rfl
theorem ss_72 {L : Nat} {M : fM} (h : Str L M) : mS M 72 = some (12, 2565) := h.sh 71 _ rfl
theorem ss_73 {L : Nat} {M : fM} (h : Str L M) : mS M 73 = some (12, 2820) := h.sh 72 _ rfl
theorem ss_74 {L : Nat} {M : fM} (h : Str L M) : mS M 74 = some (12, 300) := h.sh 73 _ rfl
theorem ss_75 {L : Nat} {M : fM} (h : Str L M) : mS M 75 = some (12, 160) := h.sh 74 _ rfl
theorem ss_76 {L : Nat} {M : fM} (h : Str L M) : mS M 76 = some (12, 10) := h.sh 75 _ rfl
theorem ss_77 {L : Nat} {M : fM} (h : Str L M) : mS M 77 = some (13, 330) := h.sh 76 _ rfl
theorem ss_78 {L : Nat} {M : fM} (h : Str L M) : mS M 78 = some (14, 330) := h.sh 77 _ rfl
theorem ss_79 {L : Nat} {M : fM} (h : Str L M) : mS M 79 = some (13, 480) := h.sh 78 _ rfl
theorem ss_80 {L : Nat} {M : fM} (h : Str L M) : mS M 80 = some (13, 17) := h.sh 79 _ rfl
theorem ss_81 {L : Nat} {M : fM} (h : Str L M) : mS M 81 = some (12, 160) := h.sh 80 _ rfl
theorem so_6 {L : Nat} {M : fM} (h : Str L M) : isO M 6 10 := isO_of (by decide) (ss_6 h)
theorem so_7 {L : Nat} {M : fM} (h : Str L M) : isO M 7 1 := isO_of (by decide) (ss_7 h)
theorem so_10 {L : Nat} {M : fM} (h : Str L M) : isO M 10 5 := isO_of (by decide) (ss_10 h)
theorem so_20 {L : Nat} {M : fM} (h : Str L M) : isO M 20 0 := isO_of (by decide) (ss_20 h)
theorem so_22 {L : Nat} {M : fM} (h : Str L M) : isO M 22 0 := isO_of (by decide) (ss_22 h)
theorem so_24 {L : Nat} {M : fM} (h : Str L M) : isO M 24 0 := isO_of (by decide) (ss_24 h)
theorem so_26 {L : Nat} {M : fM} (h : Str L M) : isO M 26 0 := isO_of (by decide) (ss_26 h)
theorem so_28 {L : Nat} {M : fM} (h : Str L M) : isO M 28 5 := isO_of (by decide) (ss_28 h)
theorem so_38 {L : Nat} {M : fM} (h : Str L M) : isO M 38 0 := isO_of (by decide) (ss_38 h)
theorem so_40 {L : Nat} {M : fM} (h : Str L M) : isO M 40 0 := isO_of (by decide) (ss_40 h)
theorem so_42 {L : Nat} {M : fM} (h : Str L M) : isO M 42 0 := isO_of (by decide) (ss_42 h)
theorem so_44 {L : Nat} {M : fM} (h : Str L M) : isO M 44 0 := isO_of (by decide) (ss_44 h)
theorem so_46 {L : Nat} {M : fM} (h : Str L M) : isO M 46 7 := isO_of (by decide) (ss_46 h)
theorem so_51 {L : Nat} {M : fM} (h : Str L M) : isO M 51 4 := isO_of (by decide) (ss_51 h)
theorem so_57 {L : Nat} {M : fM} (h : Str L M) : isO M 57 9 := isO_of (by decide) (ss_57 h)
theorem so_58 {L : Nat} {M : fM} (h : Str L M) : isO M 58 3 := isO_of (by decide) (ss_58 h)
theorem so_64 {L : Nat} {M : fM} (h : Str L M) : isO M 64 6 := isO_of (by decide) (ss_64 h)
theorem so_66 {L : Nat} {M : fM} (h : Str L M) : isO M 66 2 := isO_of (by decide) (ss_66 h)
theorem so_70 {L : Nat} {M : fM} (h : Str L M) : isO M 70 11 := isO_of (by decide) (ss_70 h)
