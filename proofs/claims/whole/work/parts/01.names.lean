-- ===== PART A: goes FIRST, ahead of the names: the tables' words, and 'selects' of the private methods out of them =====
/-- a private method of a class that the tables say can be made, by its rows of tables_1 -/
def lw_okq (q : MethodName × Nat) : Prop := (q.1.cls ≠ "java/lang/invoke/MethodHandle" ∧ q.1.cls ≠ "java/lang/invoke/VarHandle") ∧ Cond.instantiable q.1.cls q.2 ∈ tables_1 ∧ Cond.privateMethod q.1 ∈ tables_1 ∧ Cond.instanceMethod q.1 ∈ tables_1
theorem lw_p0 : lw_okq (⟨"OneStepMore$Tape", "skipBlanks", "()V"⟩, 6) := ⟨⟨by decide +kernel, by decide +kernel⟩, List.mem_of_getElem? (i := 182) (by decide +kernel), List.mem_of_getElem? (i := 490) (by decide +kernel), List.mem_of_getElem? (i := 491) (by decide +kernel)⟩
theorem lw_p1 : lw_okq (⟨"OneStepMore$Tape", "byteAt", "(I)I"⟩, 6) := ⟨⟨by decide +kernel, by decide +kernel⟩, List.mem_of_getElem? (i := 182) (by decide +kernel), List.mem_of_getElem? (i := 494) (by decide +kernel), List.mem_of_getElem? (i := 495) (by decide +kernel)⟩
theorem lw_p2 : lw_okq (⟨"OneStepMore$Tape", "scanToken", "(I)I"⟩, 6) := ⟨⟨by decide +kernel, by decide +kernel⟩, List.mem_of_getElem? (i := 182) (by decide +kernel), List.mem_of_getElem? (i := 501) (by decide +kernel), List.mem_of_getElem? (i := 502) (by decide +kernel)⟩
theorem lw_p3 : lw_okq (⟨"OneStepMore$Tape", "scanNumber", "()I"⟩, 6) := ⟨⟨by decide +kernel, by decide +kernel⟩, List.mem_of_getElem? (i := 182) (by decide +kernel), List.mem_of_getElem? (i := 508) (by decide +kernel), List.mem_of_getElem? (i := 509) (by decide +kernel)⟩
theorem lw_p4 : lw_okq (⟨"OneStepMore$Tape", "scanWord", "()I"⟩, 6) := ⟨⟨by decide +kernel, by decide +kernel⟩, List.mem_of_getElem? (i := 182) (by decide +kernel), List.mem_of_getElem? (i := 518) (by decide +kernel), List.mem_of_getElem? (i := 519) (by decide +kernel)⟩
theorem lw_p5 : lw_okq (⟨"OneStepMore$Tape", "isSpelled", "(II)Z"⟩, 6) := ⟨⟨by decide +kernel, by decide +kernel⟩, List.mem_of_getElem? (i := 182) (by decide +kernel), List.mem_of_getElem? (i := 571) (by decide +kernel), List.mem_of_getElem? (i := 572) (by decide +kernel)⟩
theorem lw_p6 : lw_okq (⟨"OneStepMore$Tape", "signOf", "(I)I"⟩, 6) := ⟨⟨by decide +kernel, by decide +kernel⟩, List.mem_of_getElem? (i := 182) (by decide +kernel), List.mem_of_getElem? (i := 575) (by decide +kernel), List.mem_of_getElem? (i := 576) (by decide +kernel)⟩
theorem lw_p7 : lw_okq (⟨"OneStepMore$Tape", "isSame", "()Z"⟩, 6) := ⟨⟨by decide +kernel, by decide +kernel⟩, List.mem_of_getElem? (i := 182) (by decide +kernel), List.mem_of_getElem? (i := 579) (by decide +kernel), List.mem_of_getElem? (i := 580) (by decide +kernel)⟩
theorem lw_p8 : lw_okq (⟨"OneStepMore$Reader", "advance", "()V"⟩, 14) := ⟨⟨by decide +kernel, by decide +kernel⟩, List.mem_of_getElem? (i := 211) (by decide +kernel), List.mem_of_getElem? (i := 583) (by decide +kernel), List.mem_of_getElem? (i := 584) (by decide +kernel)⟩
theorem lw_p9 : lw_okq (⟨"OneStepMore$Reader", "readClause", "()Z"⟩, 14) := ⟨⟨by decide +kernel, by decide +kernel⟩, List.mem_of_getElem? (i := 211) (by decide +kernel), List.mem_of_getElem? (i := 589) (by decide +kernel), List.mem_of_getElem? (i := 590) (by decide +kernel)⟩
theorem lw_p10 : lw_okq (⟨"OneStepMore$Reader", "faulty", "(I)Z"⟩, 14) := ⟨⟨by decide +kernel, by decide +kernel⟩, List.mem_of_getElem? (i := 211) (by decide +kernel), List.mem_of_getElem? (i := 593) (by decide +kernel), List.mem_of_getElem? (i := 594) (by decide +kernel)⟩
theorem lw_p11 : lw_okq (⟨"OneStepMore$Reader", "readLaw", "(I)Z"⟩, 14) := ⟨⟨by decide +kernel, by decide +kernel⟩, List.mem_of_getElem? (i := 211) (by decide +kernel), List.mem_of_getElem? (i := 597) (by decide +kernel), List.mem_of_getElem? (i := 598) (by decide +kernel)⟩
theorem lw_p12 : lw_okq (⟨"OneStepMore$Reader", "readEither", "(I)Z"⟩, 14) := ⟨⟨by decide +kernel, by decide +kernel⟩, List.mem_of_getElem? (i := 211) (by decide +kernel), List.mem_of_getElem? (i := 602) (by decide +kernel), List.mem_of_getElem? (i := 603) (by decide +kernel)⟩
theorem lw_p13 : lw_okq (⟨"OneStepMore$Reader", "readBoth", "(I)Z"⟩, 14) := ⟨⟨by decide +kernel, by decide +kernel⟩, List.mem_of_getElem? (i := 211) (by decide +kernel), List.mem_of_getElem? (i := 606) (by decide +kernel), List.mem_of_getElem? (i := 607) (by decide +kernel)⟩
theorem lw_p14 : lw_okq (⟨"OneStepMore$Reader", "readAsk", "(I)Z"⟩, 14) := ⟨⟨by decide +kernel, by decide +kernel⟩, List.mem_of_getElem? (i := 211) (by decide +kernel), List.mem_of_getElem? (i := 610) (by decide +kernel), List.mem_of_getElem? (i := 611) (by decide +kernel)⟩
theorem lw_p15 : lw_okq (⟨"OneStepMore$Reader", "opens", "(I)Z"⟩, 14) := ⟨⟨by decide +kernel, by decide +kernel⟩, List.mem_of_getElem? (i := 211) (by decide +kernel), List.mem_of_getElem? (i := 614) (by decide +kernel), List.mem_of_getElem? (i := 615) (by decide +kernel)⟩
def lw_privs_1 : List (MethodName × Nat) := [(⟨"OneStepMore$Tape", "skipBlanks", "()V"⟩, 6), (⟨"OneStepMore$Tape", "byteAt", "(I)I"⟩, 6), (⟨"OneStepMore$Tape", "scanToken", "(I)I"⟩, 6), (⟨"OneStepMore$Tape", "scanNumber", "()I"⟩, 6), (⟨"OneStepMore$Tape", "scanWord", "()I"⟩, 6), (⟨"OneStepMore$Tape", "isSpelled", "(II)Z"⟩, 6), (⟨"OneStepMore$Tape", "signOf", "(I)I"⟩, 6), (⟨"OneStepMore$Tape", "isSame", "()Z"⟩, 6), (⟨"OneStepMore$Reader", "advance", "()V"⟩, 14), (⟨"OneStepMore$Reader", "readClause", "()Z"⟩, 14), (⟨"OneStepMore$Reader", "faulty", "(I)Z"⟩, 14), (⟨"OneStepMore$Reader", "readLaw", "(I)Z"⟩, 14), (⟨"OneStepMore$Reader", "readEither", "(I)Z"⟩, 14), (⟨"OneStepMore$Reader", "readBoth", "(I)Z"⟩, 14), (⟨"OneStepMore$Reader", "readAsk", "(I)Z"⟩, 14), (⟨"OneStepMore$Reader", "opens", "(I)Z"⟩, 14)]
theorem lw_r1 : ∀ q ∈ lw_privs_1, lw_okq q := List.forall_mem_cons.mpr ⟨lw_p0, List.forall_mem_cons.mpr ⟨lw_p1, List.forall_mem_cons.mpr ⟨lw_p2, List.forall_mem_cons.mpr ⟨lw_p3, List.forall_mem_cons.mpr ⟨lw_p4, List.forall_mem_cons.mpr ⟨lw_p5, List.forall_mem_cons.mpr ⟨lw_p6, List.forall_mem_cons.mpr ⟨lw_p7, List.forall_mem_cons.mpr ⟨lw_p8, List.forall_mem_cons.mpr ⟨lw_p9, List.forall_mem_cons.mpr ⟨lw_p10, List.forall_mem_cons.mpr ⟨lw_p11, List.forall_mem_cons.mpr ⟨lw_p12, List.forall_mem_cons.mpr ⟨lw_p13, List.forall_mem_cons.mpr ⟨lw_p14, List.forall_mem_cons.mpr ⟨lw_p15, fun _ h => absurd h List.not_mem_nil⟩⟩⟩⟩⟩⟩⟩⟩⟩⟩⟩⟩⟩⟩⟩⟩
theorem lw_p16 : lw_okq (⟨"OneStepMore$Reader", "emit", "(I)V"⟩, 14) := ⟨⟨by decide +kernel, by decide +kernel⟩, List.mem_of_getElem? (i := 211) (by decide +kernel), List.mem_of_getElem? (i := 618) (by decide +kernel), List.mem_of_getElem? (i := 619) (by decide +kernel)⟩
theorem lw_p17 : lw_okq (⟨"OneStepMore$Reader", "readSum", "(I)Z"⟩, 14) := ⟨⟨by decide +kernel, by decide +kernel⟩, List.mem_of_getElem? (i := 211) (by decide +kernel), List.mem_of_getElem? (i := 622) (by decide +kernel), List.mem_of_getElem? (i := 623) (by decide +kernel)⟩
theorem lw_p18 : lw_okq (⟨"OneStepMore$Reader", "readProduct", "(I)Z"⟩, 14) := ⟨⟨by decide +kernel, by decide +kernel⟩, List.mem_of_getElem? (i := 211) (by decide +kernel), List.mem_of_getElem? (i := 626) (by decide +kernel), List.mem_of_getElem? (i := 627) (by decide +kernel)⟩
theorem lw_p19 : lw_okq (⟨"OneStepMore$Reader", "readOne", "(I)Z"⟩, 14) := ⟨⟨by decide +kernel, by decide +kernel⟩, List.mem_of_getElem? (i := 211) (by decide +kernel), List.mem_of_getElem? (i := 630) (by decide +kernel), List.mem_of_getElem? (i := 631) (by decide +kernel)⟩
theorem lw_p20 : lw_okq (⟨"OneStepMore$Reader", "readValue", "()Z"⟩, 14) := ⟨⟨by decide +kernel, by decide +kernel⟩, List.mem_of_getElem? (i := 211) (by decide +kernel), List.mem_of_getElem? (i := 634) (by decide +kernel), List.mem_of_getElem? (i := 635) (by decide +kernel)⟩
theorem lw_p21 : lw_okq (⟨"OneStepMore$Reader", "passes", "(I)Z"⟩, 14) := ⟨⟨by decide +kernel, by decide +kernel⟩, List.mem_of_getElem? (i := 211) (by decide +kernel), List.mem_of_getElem? (i := 638) (by decide +kernel), List.mem_of_getElem? (i := 639) (by decide +kernel)⟩
theorem lw_p22 : lw_okq (⟨"OneStepMore$Reader", "readChoice", "(I)Z"⟩, 14) := ⟨⟨by decide +kernel, by decide +kernel⟩, List.mem_of_getElem? (i := 211) (by decide +kernel), List.mem_of_getElem? (i := 642) (by decide +kernel), List.mem_of_getElem? (i := 643) (by decide +kernel)⟩
theorem lw_p23 : lw_okq (⟨"OneStepMore$Reader", "readName", "()Z"⟩, 14) := ⟨⟨by decide +kernel, by decide +kernel⟩, List.mem_of_getElem? (i := 211) (by decide +kernel), List.mem_of_getElem? (i := 646) (by decide +kernel), List.mem_of_getElem? (i := 647) (by decide +kernel)⟩
theorem lw_p24 : lw_okq (⟨"OneStepMore$Reader", "readDeed", "(I)Z"⟩, 14) := ⟨⟨by decide +kernel, by decide +kernel⟩, List.mem_of_getElem? (i := 211) (by decide +kernel), List.mem_of_getElem? (i := 650) (by decide +kernel), List.mem_of_getElem? (i := 651) (by decide +kernel)⟩
theorem lw_p25 : lw_okq (⟨"OneStepMore$Reader", "readNumber", "(III)Z"⟩, 14) := ⟨⟨by decide +kernel, by decide +kernel⟩, List.mem_of_getElem? (i := 211) (by decide +kernel), List.mem_of_getElem? (i := 656) (by decide +kernel), List.mem_of_getElem? (i := 657) (by decide +kernel)⟩
theorem lw_p26 : lw_okq (⟨"OneStepMore$Walk", "start", "(III)V"⟩, 2) := ⟨⟨by decide +kernel, by decide +kernel⟩, List.mem_of_getElem? (i := 262) (by decide +kernel), List.mem_of_getElem? (i := 735) (by decide +kernel), List.mem_of_getElem? (i := 736) (by decide +kernel)⟩
theorem lw_p27 : lw_okq (⟨"OneStepMore$Walk", "draw", "()I"⟩, 2) := ⟨⟨by decide +kernel, by decide +kernel⟩, List.mem_of_getElem? (i := 262) (by decide +kernel), List.mem_of_getElem? (i := 740) (by decide +kernel), List.mem_of_getElem? (i := 741) (by decide +kernel)⟩
theorem lw_p28 : lw_okq (⟨"OneStepMore$Walk", "stir", "()V"⟩, 2) := ⟨⟨by decide +kernel, by decide +kernel⟩, List.mem_of_getElem? (i := 262) (by decide +kernel), List.mem_of_getElem? (i := 744) (by decide +kernel), List.mem_of_getElem? (i := 745) (by decide +kernel)⟩
theorem lw_p29 : lw_okq (⟨"OneStepMore$Walk", "goOn", "(Z)I"⟩, 2) := ⟨⟨by decide +kernel, by decide +kernel⟩, List.mem_of_getElem? (i := 262) (by decide +kernel), List.mem_of_getElem? (i := 758) (by decide +kernel), List.mem_of_getElem? (i := 759) (by decide +kernel)⟩
theorem lw_p30 : lw_okq (⟨"OneStepMore$Walk", "turnToWay", "()V"⟩, 2) := ⟨⟨by decide +kernel, by decide +kernel⟩, List.mem_of_getElem? (i := 262) (by decide +kernel), List.mem_of_getElem? (i := 762) (by decide +kernel), List.mem_of_getElem? (i := 763) (by decide +kernel)⟩
theorem lw_p31 : lw_okq (⟨"OneStepMore$Laws", "rules", "(I)Z"⟩, 5) := ⟨⟨by decide +kernel, by decide +kernel⟩, List.mem_of_getElem? (i := 29) (by decide +kernel), List.mem_of_getElem? (i := 777) (by decide +kernel), List.mem_of_getElem? (i := 778) (by decide +kernel)⟩
def lw_privs_2 : List (MethodName × Nat) := [(⟨"OneStepMore$Reader", "emit", "(I)V"⟩, 14), (⟨"OneStepMore$Reader", "readSum", "(I)Z"⟩, 14), (⟨"OneStepMore$Reader", "readProduct", "(I)Z"⟩, 14), (⟨"OneStepMore$Reader", "readOne", "(I)Z"⟩, 14), (⟨"OneStepMore$Reader", "readValue", "()Z"⟩, 14), (⟨"OneStepMore$Reader", "passes", "(I)Z"⟩, 14), (⟨"OneStepMore$Reader", "readChoice", "(I)Z"⟩, 14), (⟨"OneStepMore$Reader", "readName", "()Z"⟩, 14), (⟨"OneStepMore$Reader", "readDeed", "(I)Z"⟩, 14), (⟨"OneStepMore$Reader", "readNumber", "(III)Z"⟩, 14), (⟨"OneStepMore$Walk", "start", "(III)V"⟩, 2), (⟨"OneStepMore$Walk", "draw", "()I"⟩, 2), (⟨"OneStepMore$Walk", "stir", "()V"⟩, 2), (⟨"OneStepMore$Walk", "goOn", "(Z)I"⟩, 2), (⟨"OneStepMore$Walk", "turnToWay", "()V"⟩, 2), (⟨"OneStepMore$Laws", "rules", "(I)Z"⟩, 5)]
theorem lw_r2 : ∀ q ∈ lw_privs_2, lw_okq q := List.forall_mem_cons.mpr ⟨lw_p16, List.forall_mem_cons.mpr ⟨lw_p17, List.forall_mem_cons.mpr ⟨lw_p18, List.forall_mem_cons.mpr ⟨lw_p19, List.forall_mem_cons.mpr ⟨lw_p20, List.forall_mem_cons.mpr ⟨lw_p21, List.forall_mem_cons.mpr ⟨lw_p22, List.forall_mem_cons.mpr ⟨lw_p23, List.forall_mem_cons.mpr ⟨lw_p24, List.forall_mem_cons.mpr ⟨lw_p25, List.forall_mem_cons.mpr ⟨lw_p26, List.forall_mem_cons.mpr ⟨lw_p27, List.forall_mem_cons.mpr ⟨lw_p28, List.forall_mem_cons.mpr ⟨lw_p29, List.forall_mem_cons.mpr ⟨lw_p30, List.forall_mem_cons.mpr ⟨lw_p31, fun _ h => absurd h List.not_mem_nil⟩⟩⟩⟩⟩⟩⟩⟩⟩⟩⟩⟩⟩⟩⟩⟩
theorem lw_p32 : lw_okq (⟨"OneStepMore$Laws", "worked", "(I)I"⟩, 5) := ⟨⟨by decide +kernel, by decide +kernel⟩, List.mem_of_getElem? (i := 29) (by decide +kernel), List.mem_of_getElem? (i := 781) (by decide +kernel), List.mem_of_getElem? (i := 782) (by decide +kernel)⟩
theorem lw_p33 : lw_okq (⟨"OneStepMore$Walk", "down", "(I)V"⟩, 2) := ⟨⟨by decide +kernel, by decide +kernel⟩, List.mem_of_getElem? (i := 262) (by decide +kernel), List.mem_of_getElem? (i := 798) (by decide +kernel), List.mem_of_getElem? (i := 799) (by decide +kernel)⟩
theorem lw_p34 : lw_okq (⟨"OneStepMore$Walk", "isDone", "(LOneStepMore$Text;I)Z"⟩, 2) := ⟨⟨by decide +kernel, by decide +kernel⟩, List.mem_of_getElem? (i := 262) (by decide +kernel), List.mem_of_getElem? (i := 872) (by decide +kernel), List.mem_of_getElem? (i := 873) (by decide +kernel)⟩
theorem lw_p35 : lw_okq (⟨"OneStepMore$Mind", "spreadFrom", "(III)V"⟩, 13) := ⟨⟨by decide +kernel, by decide +kernel⟩, List.mem_of_getElem? (i := 275) (by decide +kernel), List.mem_of_getElem? (i := 987) (by decide +kernel), List.mem_of_getElem? (i := 988) (by decide +kernel)⟩
theorem lw_p36 : lw_okq (⟨"OneStepMore$Mind", "add", "(IIJ)V"⟩, 13) := ⟨⟨by decide +kernel, by decide +kernel⟩, List.mem_of_getElem? (i := 275) (by decide +kernel), List.mem_of_getElem? (i := 994) (by decide +kernel), List.mem_of_getElem? (i := 995) (by decide +kernel)⟩
theorem lw_p37 : lw_okq (⟨"OneStepMore$Mind", "gather", "(I)V"⟩, 13) := ⟨⟨by decide +kernel, by decide +kernel⟩, List.mem_of_getElem? (i := 275) (by decide +kernel), List.mem_of_getElem? (i := 998) (by decide +kernel), List.mem_of_getElem? (i := 999) (by decide +kernel)⟩
theorem lw_p38 : lw_okq (⟨"OneStepMore$Mind", "chance", "(II)J"⟩, 13) := ⟨⟨by decide +kernel, by decide +kernel⟩, List.mem_of_getElem? (i := 275) (by decide +kernel), List.mem_of_getElem? (i := 1002) (by decide +kernel), List.mem_of_getElem? (i := 1003) (by decide +kernel)⟩
theorem lw_p39 : lw_okq (⟨"OneStepMore$Mind", "carry", "(I)V"⟩, 13) := ⟨⟨by decide +kernel, by decide +kernel⟩, List.mem_of_getElem? (i := 275) (by decide +kernel), List.mem_of_getElem? (i := 1007) (by decide +kernel), List.mem_of_getElem? (i := 1008) (by decide +kernel)⟩
theorem lw_p40 : lw_okq (⟨"OneStepMore$Mind", "evenChance", "(II)J"⟩, 13) := ⟨⟨by decide +kernel, by decide +kernel⟩, List.mem_of_getElem? (i := 275) (by decide +kernel), List.mem_of_getElem? (i := 1011) (by decide +kernel), List.mem_of_getElem? (i := 1012) (by decide +kernel)⟩
theorem lw_p41 : lw_okq (⟨"OneStepMore$Mind", "costOfToes", "()J"⟩, 13) := ⟨⟨by decide +kernel, by decide +kernel⟩, List.mem_of_getElem? (i := 275) (by decide +kernel), List.mem_of_getElem? (i := 1033) (by decide +kernel), List.mem_of_getElem? (i := 1034) (by decide +kernel)⟩
theorem lw_p42 : lw_okq (⟨"OneStepMore$Mind", "boldlyMore", "(I)J"⟩, 13) := ⟨⟨by decide +kernel, by decide +kernel⟩, List.mem_of_getElem? (i := 275) (by decide +kernel), List.mem_of_getElem? (i := 1037) (by decide +kernel), List.mem_of_getElem? (i := 1038) (by decide +kernel)⟩
theorem lw_p43 : lw_okq (⟨"OneStepMore$Mind", "chanceOfJar", "(I)J"⟩, 13) := ⟨⟨by decide +kernel, by decide +kernel⟩, List.mem_of_getElem? (i := 275) (by decide +kernel), List.mem_of_getElem? (i := 1088) (by decide +kernel), List.mem_of_getElem? (i := 1089) (by decide +kernel)⟩
theorem lw_p44 : lw_okq (⟨"OneStepMore$Tales", "counted", "(II)I"⟩, 3) := ⟨⟨by decide +kernel, by decide +kernel⟩, List.mem_of_getElem? (i := 323) (by decide +kernel), List.mem_of_getElem? (i := 1125) (by decide +kernel), List.mem_of_getElem? (i := 1126) (by decide +kernel)⟩
theorem lw_p45 : lw_okq (⟨"OneStepMore$Tales", "mostOften", "(I)I"⟩, 3) := ⟨⟨by decide +kernel, by decide +kernel⟩, List.mem_of_getElem? (i := 323) (by decide +kernel), List.mem_of_getElem? (i := 1137) (by decide +kernel), List.mem_of_getElem? (i := 1138) (by decide +kernel)⟩
theorem lw_p46 : lw_okq (⟨"OneStepMore$Tales", "allSeenBy", "(LOneStepMore$Text;)Z"⟩, 3) := ⟨⟨by decide +kernel, by decide +kernel⟩, List.mem_of_getElem? (i := 323) (by decide +kernel), List.mem_of_getElem? (i := 1168) (by decide +kernel), List.mem_of_getElem? (i := 1169) (by decide +kernel)⟩
theorem lw_p47 : lw_okq (⟨"OneStepMore$Leveller", "plan", "(LOneStepMore$House;IZ)V"⟩, 5) := ⟨⟨by decide +kernel, by decide +kernel⟩, List.mem_of_getElem? (i := 339) (by decide +kernel), List.mem_of_getElem? (i := 1182) (by decide +kernel), List.mem_of_getElem? (i := 1183) (by decide +kernel)⟩
def lw_privs_3 : List (MethodName × Nat) := [(⟨"OneStepMore$Laws", "worked", "(I)I"⟩, 5), (⟨"OneStepMore$Walk", "down", "(I)V"⟩, 2), (⟨"OneStepMore$Walk", "isDone", "(LOneStepMore$Text;I)Z"⟩, 2), (⟨"OneStepMore$Mind", "spreadFrom", "(III)V"⟩, 13), (⟨"OneStepMore$Mind", "add", "(IIJ)V"⟩, 13), (⟨"OneStepMore$Mind", "gather", "(I)V"⟩, 13), (⟨"OneStepMore$Mind", "chance", "(II)J"⟩, 13), (⟨"OneStepMore$Mind", "carry", "(I)V"⟩, 13), (⟨"OneStepMore$Mind", "evenChance", "(II)J"⟩, 13), (⟨"OneStepMore$Mind", "costOfToes", "()J"⟩, 13), (⟨"OneStepMore$Mind", "boldlyMore", "(I)J"⟩, 13), (⟨"OneStepMore$Mind", "chanceOfJar", "(I)J"⟩, 13), (⟨"OneStepMore$Tales", "counted", "(II)I"⟩, 3), (⟨"OneStepMore$Tales", "mostOften", "(I)I"⟩, 3), (⟨"OneStepMore$Tales", "allSeenBy", "(LOneStepMore$Text;)Z"⟩, 3), (⟨"OneStepMore$Leveller", "plan", "(LOneStepMore$House;IZ)V"⟩, 5)]
theorem lw_r3 : ∀ q ∈ lw_privs_3, lw_okq q := List.forall_mem_cons.mpr ⟨lw_p32, List.forall_mem_cons.mpr ⟨lw_p33, List.forall_mem_cons.mpr ⟨lw_p34, List.forall_mem_cons.mpr ⟨lw_p35, List.forall_mem_cons.mpr ⟨lw_p36, List.forall_mem_cons.mpr ⟨lw_p37, List.forall_mem_cons.mpr ⟨lw_p38, List.forall_mem_cons.mpr ⟨lw_p39, List.forall_mem_cons.mpr ⟨lw_p40, List.forall_mem_cons.mpr ⟨lw_p41, List.forall_mem_cons.mpr ⟨lw_p42, List.forall_mem_cons.mpr ⟨lw_p43, List.forall_mem_cons.mpr ⟨lw_p44, List.forall_mem_cons.mpr ⟨lw_p45, List.forall_mem_cons.mpr ⟨lw_p46, List.forall_mem_cons.mpr ⟨lw_p47, fun _ h => absurd h List.not_mem_nil⟩⟩⟩⟩⟩⟩⟩⟩⟩⟩⟩⟩⟩⟩⟩⟩
theorem lw_p48 : lw_okq (⟨"OneStepMore$Leveller", "weigh", "(LOneStepMore$House;IZ)V"⟩, 5) := ⟨⟨by decide +kernel, by decide +kernel⟩, List.mem_of_getElem? (i := 339) (by decide +kernel), List.mem_of_getElem? (i := 1187) (by decide +kernel), List.mem_of_getElem? (i := 1188) (by decide +kernel)⟩
theorem lw_p49 : lw_okq (⟨"OneStepMore$Leveller", "choose", "(LOneStepMore$House;III)V"⟩, 5) := ⟨⟨by decide +kernel, by decide +kernel⟩, List.mem_of_getElem? (i := 339) (by decide +kernel), List.mem_of_getElem? (i := 1197) (by decide +kernel), List.mem_of_getElem? (i := 1198) (by decide +kernel)⟩
theorem lw_p50 : lw_okq (⟨"OneStepMore$Leveller", "cheapest", "()I"⟩, 5) := ⟨⟨by decide +kernel, by decide +kernel⟩, List.mem_of_getElem? (i := 339) (by decide +kernel), List.mem_of_getElem? (i := 1201) (by decide +kernel), List.mem_of_getElem? (i := 1202) (by decide +kernel)⟩
theorem lw_p51 : lw_okq (⟨"OneStepMore$Leveller", "anyoneTrips", "(LOneStepMore$House;IIII)Z"⟩, 5) := ⟨⟨by decide +kernel, by decide +kernel⟩, List.mem_of_getElem? (i := 339) (by decide +kernel), List.mem_of_getElem? (i := 1205) (by decide +kernel), List.mem_of_getElem? (i := 1206) (by decide +kernel)⟩
theorem lw_p52 : lw_okq (⟨"OneStepMoreModel", "build", "(II)V"⟩, 32) := ⟨⟨by decide +kernel, by decide +kernel⟩, List.mem_of_getElem? (i := 1251) (by decide +kernel), List.mem_of_getElem? (i := 1257) (by decide +kernel), List.mem_of_getElem? (i := 1258) (by decide +kernel)⟩
theorem lw_p53 : lw_okq (⟨"OneStepMoreModel", "told", "(I)Z"⟩, 32) := ⟨⟨by decide +kernel, by decide +kernel⟩, List.mem_of_getElem? (i := 1251) (by decide +kernel), List.mem_of_getElem? (i := 1372) (by decide +kernel), List.mem_of_getElem? (i := 1373) (by decide +kernel)⟩
theorem lw_p54 : lw_okq (⟨"OneStepMoreModel", "isStep", "(II)Z"⟩, 32) := ⟨⟨by decide +kernel, by decide +kernel⟩, List.mem_of_getElem? (i := 1251) (by decide +kernel), List.mem_of_getElem? (i := 1380) (by decide +kernel), List.mem_of_getElem? (i := 1381) (by decide +kernel)⟩
theorem lw_p55 : lw_okq (⟨"OneStepMoreModel", "stepsOf", "(I)I"⟩, 32) := ⟨⟨by decide +kernel, by decide +kernel⟩, List.mem_of_getElem? (i := 1251) (by decide +kernel), List.mem_of_getElem? (i := 1384) (by decide +kernel), List.mem_of_getElem? (i := 1385) (by decide +kernel)⟩
theorem lw_p56 : lw_okq (⟨"OneStepMoreModel", "marksOf", "(I)I"⟩, 32) := ⟨⟨by decide +kernel, by decide +kernel⟩, List.mem_of_getElem? (i := 1251) (by decide +kernel), List.mem_of_getElem? (i := 1392) (by decide +kernel), List.mem_of_getElem? (i := 1393) (by decide +kernel)⟩
theorem lw_p57 : lw_okq (⟨"OneStepMoreModel", "four", "(I)V"⟩, 32) := ⟨⟨by decide +kernel, by decide +kernel⟩, List.mem_of_getElem? (i := 1251) (by decide +kernel), List.mem_of_getElem? (i := 1415) (by decide +kernel), List.mem_of_getElem? (i := 1416) (by decide +kernel)⟩
theorem lw_p58 : lw_okq (⟨"OneStepMoreModel", "readText", "()I"⟩, 32) := ⟨⟨by decide +kernel, by decide +kernel⟩, List.mem_of_getElem? (i := 1251) (by decide +kernel), List.mem_of_getElem? (i := 1427) (by decide +kernel), List.mem_of_getElem? (i := 1428) (by decide +kernel)⟩
theorem lw_p59 : lw_okq (⟨"OneStepMoreModel", "nextToken", "()V"⟩, 32) := ⟨⟨by decide +kernel, by decide +kernel⟩, List.mem_of_getElem? (i := 1251) (by decide +kernel), List.mem_of_getElem? (i := 1431) (by decide +kernel), List.mem_of_getElem? (i := 1432) (by decide +kernel)⟩
theorem lw_p60 : lw_okq (⟨"OneStepMoreModel", "byteAt", "(I)I"⟩, 32) := ⟨⟨by decide +kernel, by decide +kernel⟩, List.mem_of_getElem? (i := 1251) (by decide +kernel), List.mem_of_getElem? (i := 1435) (by decide +kernel), List.mem_of_getElem? (i := 1436) (by decide +kernel)⟩
theorem lw_p61 : lw_okq (⟨"OneStepMoreModel", "clause", "()I"⟩, 32) := ⟨⟨by decide +kernel, by decide +kernel⟩, List.mem_of_getElem? (i := 1251) (by decide +kernel), List.mem_of_getElem? (i := 1446) (by decide +kernel), List.mem_of_getElem? (i := 1447) (by decide +kernel)⟩
theorem lw_p62 : lw_okq (⟨"OneStepMoreModel", "sortOf", "()I"⟩, 32) := ⟨⟨by decide +kernel, by decide +kernel⟩, List.mem_of_getElem? (i := 1251) (by decide +kernel), List.mem_of_getElem? (i := 1450) (by decide +kernel), List.mem_of_getElem? (i := 1451) (by decide +kernel)⟩
theorem lw_p63 : lw_okq (⟨"OneStepMoreModel", "isWord", "(J)Z"⟩, 32) := ⟨⟨by decide +kernel, by decide +kernel⟩, List.mem_of_getElem? (i := 1251) (by decide +kernel), List.mem_of_getElem? (i := 1460) (by decide +kernel), List.mem_of_getElem? (i := 1461) (by decide +kernel)⟩
def lw_privs_4 : List (MethodName × Nat) := [(⟨"OneStepMore$Leveller", "weigh", "(LOneStepMore$House;IZ)V"⟩, 5), (⟨"OneStepMore$Leveller", "choose", "(LOneStepMore$House;III)V"⟩, 5), (⟨"OneStepMore$Leveller", "cheapest", "()I"⟩, 5), (⟨"OneStepMore$Leveller", "anyoneTrips", "(LOneStepMore$House;IIII)Z"⟩, 5), (⟨"OneStepMoreModel", "build", "(II)V"⟩, 32), (⟨"OneStepMoreModel", "told", "(I)Z"⟩, 32), (⟨"OneStepMoreModel", "isStep", "(II)Z"⟩, 32), (⟨"OneStepMoreModel", "stepsOf", "(I)I"⟩, 32), (⟨"OneStepMoreModel", "marksOf", "(I)I"⟩, 32), (⟨"OneStepMoreModel", "four", "(I)V"⟩, 32), (⟨"OneStepMoreModel", "readText", "()I"⟩, 32), (⟨"OneStepMoreModel", "nextToken", "()V"⟩, 32), (⟨"OneStepMoreModel", "byteAt", "(I)I"⟩, 32), (⟨"OneStepMoreModel", "clause", "()I"⟩, 32), (⟨"OneStepMoreModel", "sortOf", "()I"⟩, 32), (⟨"OneStepMoreModel", "isWord", "(J)Z"⟩, 32)]
theorem lw_r4 : ∀ q ∈ lw_privs_4, lw_okq q := List.forall_mem_cons.mpr ⟨lw_p48, List.forall_mem_cons.mpr ⟨lw_p49, List.forall_mem_cons.mpr ⟨lw_p50, List.forall_mem_cons.mpr ⟨lw_p51, List.forall_mem_cons.mpr ⟨lw_p52, List.forall_mem_cons.mpr ⟨lw_p53, List.forall_mem_cons.mpr ⟨lw_p54, List.forall_mem_cons.mpr ⟨lw_p55, List.forall_mem_cons.mpr ⟨lw_p56, List.forall_mem_cons.mpr ⟨lw_p57, List.forall_mem_cons.mpr ⟨lw_p58, List.forall_mem_cons.mpr ⟨lw_p59, List.forall_mem_cons.mpr ⟨lw_p60, List.forall_mem_cons.mpr ⟨lw_p61, List.forall_mem_cons.mpr ⟨lw_p62, List.forall_mem_cons.mpr ⟨lw_p63, fun _ h => absurd h List.not_mem_nil⟩⟩⟩⟩⟩⟩⟩⟩⟩⟩⟩⟩⟩⟩⟩⟩
theorem lw_p64 : lw_okq (⟨"OneStepMoreModel", "body", "(II)I"⟩, 32) := ⟨⟨by decide +kernel, by decide +kernel⟩, List.mem_of_getElem? (i := 1251) (by decide +kernel), List.mem_of_getElem? (i := 1467) (by decide +kernel), List.mem_of_getElem? (i := 1468) (by decide +kernel)⟩
theorem lw_p65 : lw_okq (⟨"OneStepMoreModel", "lawClause", "(II)I"⟩, 32) := ⟨⟨by decide +kernel, by decide +kernel⟩, List.mem_of_getElem? (i := 1251) (by decide +kernel), List.mem_of_getElem? (i := 1471) (by decide +kernel), List.mem_of_getElem? (i := 1472) (by decide +kernel)⟩
theorem lw_p66 : lw_okq (⟨"OneStepMoreModel", "parsed", "(Z)I"⟩, 32) := ⟨⟨by decide +kernel, by decide +kernel⟩, List.mem_of_getElem? (i := 1251) (by decide +kernel), List.mem_of_getElem? (i := 1475) (by decide +kernel), List.mem_of_getElem? (i := 1476) (by decide +kernel)⟩
theorem lw_p67 : lw_okq (⟨"OneStepMoreModel", "behindOne", "(Z)Z"⟩, 32) := ⟨⟨by decide +kernel, by decide +kernel⟩, List.mem_of_getElem? (i := 1251) (by decide +kernel), List.mem_of_getElem? (i := 1479) (by decide +kernel), List.mem_of_getElem? (i := 1480) (by decide +kernel)⟩
theorem lw_p68 : lw_okq (⟨"OneStepMoreModel", "betweenOf", "(Z)I"⟩, 32) := ⟨⟨by decide +kernel, by decide +kernel⟩, List.mem_of_getElem? (i := 1251) (by decide +kernel), List.mem_of_getElem? (i := 1483) (by decide +kernel), List.mem_of_getElem? (i := 1484) (by decide +kernel)⟩
theorem lw_p69 : lw_okq (⟨"OneStepMoreModel", "kindOpen", "(Z)I"⟩, 32) := ⟨⟨by decide +kernel, by decide +kernel⟩, List.mem_of_getElem? (i := 1251) (by decide +kernel), List.mem_of_getElem? (i := 1487) (by decide +kernel), List.mem_of_getElem? (i := 1488) (by decide +kernel)⟩
theorem lw_p70 : lw_okq (⟨"OneStepMoreModel", "marker", "()I"⟩, 32) := ⟨⟨by decide +kernel, by decide +kernel⟩, List.mem_of_getElem? (i := 1251) (by decide +kernel), List.mem_of_getElem? (i := 1491) (by decide +kernel), List.mem_of_getElem? (i := 1492) (by decide +kernel)⟩
theorem lw_p71 : lw_okq (⟨"OneStepMoreModel", "isCompared", "()Z"⟩, 32) := ⟨⟨by decide +kernel, by decide +kernel⟩, List.mem_of_getElem? (i := 1251) (by decide +kernel), List.mem_of_getElem? (i := 1495) (by decide +kernel), List.mem_of_getElem? (i := 1496) (by decide +kernel)⟩
theorem lw_p72 : lw_okq (⟨"OneStepMoreModel", "compareOf", "()I"⟩, 32) := ⟨⟨by decide +kernel, by decide +kernel⟩, List.mem_of_getElem? (i := 1251) (by decide +kernel), List.mem_of_getElem? (i := 1502) (by decide +kernel), List.mem_of_getElem? (i := 1503) (by decide +kernel)⟩
theorem lw_p73 : lw_okq (⟨"OneStepMoreModel", "settle", "(I)V"⟩, 32) := ⟨⟨by decide +kernel, by decide +kernel⟩, List.mem_of_getElem? (i := 1251) (by decide +kernel), List.mem_of_getElem? (i := 1507) (by decide +kernel), List.mem_of_getElem? (i := 1508) (by decide +kernel)⟩
theorem lw_p74 : lw_okq (⟨"OneStepMoreModel", "emit", "(II)V"⟩, 32) := ⟨⟨by decide +kernel, by decide +kernel⟩, List.mem_of_getElem? (i := 1251) (by decide +kernel), List.mem_of_getElem? (i := 1511) (by decide +kernel), List.mem_of_getElem? (i := 1512) (by decide +kernel)⟩
theorem lw_p75 : lw_okq (⟨"OneStepMoreModel", "push", "(I)V"⟩, 32) := ⟨⟨by decide +kernel, by decide +kernel⟩, List.mem_of_getElem? (i := 1251) (by decide +kernel), List.mem_of_getElem? (i := 1515) (by decide +kernel), List.mem_of_getElem? (i := 1516) (by decide +kernel)⟩
theorem lw_p76 : lw_okq (⟨"OneStepMoreModel", "whole", "()V"⟩, 32) := ⟨⟨by decide +kernel, by decide +kernel⟩, List.mem_of_getElem? (i := 1251) (by decide +kernel), List.mem_of_getElem? (i := 1519) (by decide +kernel), List.mem_of_getElem? (i := 1520) (by decide +kernel)⟩
theorem lw_p77 : lw_okq (⟨"OneStepMoreModel", "beginOne", "(Z)I"⟩, 32) := ⟨⟨by decide +kernel, by decide +kernel⟩, List.mem_of_getElem? (i := 1251) (by decide +kernel), List.mem_of_getElem? (i := 1523) (by decide +kernel), List.mem_of_getElem? (i := 1524) (by decide +kernel)⟩
theorem lw_p78 : lw_okq (⟨"OneStepMoreModel", "nameOf", "()I"⟩, 32) := ⟨⟨by decide +kernel, by decide +kernel⟩, List.mem_of_getElem? (i := 1251) (by decide +kernel), List.mem_of_getElem? (i := 1527) (by decide +kernel), List.mem_of_getElem? (i := 1528) (by decide +kernel)⟩
theorem lw_p79 : lw_okq (⟨"OneStepMoreModel", "isOf", "(I)Z"⟩, 32) := ⟨⟨by decide +kernel, by decide +kernel⟩, List.mem_of_getElem? (i := 1251) (by decide +kernel), List.mem_of_getElem? (i := 1534) (by decide +kernel), List.mem_of_getElem? (i := 1535) (by decide +kernel)⟩
def lw_privs_5 : List (MethodName × Nat) := [(⟨"OneStepMoreModel", "body", "(II)I"⟩, 32), (⟨"OneStepMoreModel", "lawClause", "(II)I"⟩, 32), (⟨"OneStepMoreModel", "parsed", "(Z)I"⟩, 32), (⟨"OneStepMoreModel", "behindOne", "(Z)Z"⟩, 32), (⟨"OneStepMoreModel", "betweenOf", "(Z)I"⟩, 32), (⟨"OneStepMoreModel", "kindOpen", "(Z)I"⟩, 32), (⟨"OneStepMoreModel", "marker", "()I"⟩, 32), (⟨"OneStepMoreModel", "isCompared", "()Z"⟩, 32), (⟨"OneStepMoreModel", "compareOf", "()I"⟩, 32), (⟨"OneStepMoreModel", "settle", "(I)V"⟩, 32), (⟨"OneStepMoreModel", "emit", "(II)V"⟩, 32), (⟨"OneStepMoreModel", "push", "(I)V"⟩, 32), (⟨"OneStepMoreModel", "whole", "()V"⟩, 32), (⟨"OneStepMoreModel", "beginOne", "(Z)I"⟩, 32), (⟨"OneStepMoreModel", "nameOf", "()I"⟩, 32), (⟨"OneStepMoreModel", "isOf", "(I)Z"⟩, 32)]
theorem lw_r5 : ∀ q ∈ lw_privs_5, lw_okq q := List.forall_mem_cons.mpr ⟨lw_p64, List.forall_mem_cons.mpr ⟨lw_p65, List.forall_mem_cons.mpr ⟨lw_p66, List.forall_mem_cons.mpr ⟨lw_p67, List.forall_mem_cons.mpr ⟨lw_p68, List.forall_mem_cons.mpr ⟨lw_p69, List.forall_mem_cons.mpr ⟨lw_p70, List.forall_mem_cons.mpr ⟨lw_p71, List.forall_mem_cons.mpr ⟨lw_p72, List.forall_mem_cons.mpr ⟨lw_p73, List.forall_mem_cons.mpr ⟨lw_p74, List.forall_mem_cons.mpr ⟨lw_p75, List.forall_mem_cons.mpr ⟨lw_p76, List.forall_mem_cons.mpr ⟨lw_p77, List.forall_mem_cons.mpr ⟨lw_p78, List.forall_mem_cons.mpr ⟨lw_p79, fun _ h => absurd h List.not_mem_nil⟩⟩⟩⟩⟩⟩⟩⟩⟩⟩⟩⟩⟩⟩⟩⟩
theorem lw_p80 : lw_okq (⟨"OneStepMoreModel", "opensBy", "(I)I"⟩, 32) := ⟨⟨by decide +kernel, by decide +kernel⟩, List.mem_of_getElem? (i := 1251) (by decide +kernel), List.mem_of_getElem? (i := 1538) (by decide +kernel), List.mem_of_getElem? (i := 1539) (by decide +kernel)⟩
theorem lw_p81 : lw_okq (⟨"OneStepMoreModel", "isAskAhead", "(Z)Z"⟩, 32) := ⟨⟨by decide +kernel, by decide +kernel⟩, List.mem_of_getElem? (i := 1251) (by decide +kernel), List.mem_of_getElem? (i := 1543) (by decide +kernel), List.mem_of_getElem? (i := 1544) (by decide +kernel)⟩
theorem lw_p82 : lw_okq (⟨"OneStepMoreModel", "highClause", "(I)I"⟩, 32) := ⟨⟨by decide +kernel, by decide +kernel⟩, List.mem_of_getElem? (i := 1251) (by decide +kernel), List.mem_of_getElem? (i := 1547) (by decide +kernel), List.mem_of_getElem? (i := 1548) (by decide +kernel)⟩
theorem lw_p83 : lw_okq (⟨"OneStepMoreModel", "figure", "(III)I"⟩, 32) := ⟨⟨by decide +kernel, by decide +kernel⟩, List.mem_of_getElem? (i := 1251) (by decide +kernel), List.mem_of_getElem? (i := 1551) (by decide +kernel), List.mem_of_getElem? (i := 1552) (by decide +kernel)⟩
theorem lw_p84 : lw_okq (⟨"OneStepMoreModel", "worded", "(JIII)I"⟩, 32) := ⟨⟨by decide +kernel, by decide +kernel⟩, List.mem_of_getElem? (i := 1251) (by decide +kernel), List.mem_of_getElem? (i := 1556) (by decide +kernel), List.mem_of_getElem? (i := 1557) (by decide +kernel)⟩
theorem lw_p85 : lw_okq (⟨"OneStepMoreModel", "ofHouse", "(I)I"⟩, 32) := ⟨⟨by decide +kernel, by decide +kernel⟩, List.mem_of_getElem? (i := 1251) (by decide +kernel), List.mem_of_getElem? (i := 1560) (by decide +kernel), List.mem_of_getElem? (i := 1561) (by decide +kernel)⟩
theorem lw_p86 : lw_okq (⟨"OneStepMoreModel", "oneClause", "(I)I"⟩, 32) := ⟨⟨by decide +kernel, by decide +kernel⟩, List.mem_of_getElem? (i := 1251) (by decide +kernel), List.mem_of_getElem? (i := 1565) (by decide +kernel), List.mem_of_getElem? (i := 1566) (by decide +kernel)⟩
theorem lw_p87 : lw_okq (⟨"OneStepMoreModel", "pair", "(II)I"⟩, 32) := ⟨⟨by decide +kernel, by decide +kernel⟩, List.mem_of_getElem? (i := 1251) (by decide +kernel), List.mem_of_getElem? (i := 1569) (by decide +kernel), List.mem_of_getElem? (i := 1570) (by decide +kernel)⟩
theorem lw_p88 : lw_okq (⟨"OneStepMoreModel", "isMind", "(III)Z"⟩, 32) := ⟨⟨by decide +kernel, by decide +kernel⟩, List.mem_of_getElem? (i := 1251) (by decide +kernel), List.mem_of_getElem? (i := 1585) (by decide +kernel), List.mem_of_getElem? (i := 1586) (by decide +kernel)⟩
theorem lw_p89 : lw_okq (⟨"OneStepMoreModel", "isPerson", "(I)Z"⟩, 32) := ⟨⟨by decide +kernel, by decide +kernel⟩, List.mem_of_getElem? (i := 1251) (by decide +kernel), List.mem_of_getElem? (i := 1589) (by decide +kernel), List.mem_of_getElem? (i := 1590) (by decide +kernel)⟩
theorem lw_p90 : lw_okq (⟨"OneStepMoreModel", "noneAt", "(IIII)I"⟩, 32) := ⟨⟨by decide +kernel, by decide +kernel⟩, List.mem_of_getElem? (i := 1251) (by decide +kernel), List.mem_of_getElem? (i := 1593) (by decide +kernel), List.mem_of_getElem? (i := 1594) (by decide +kernel)⟩
theorem lw_p91 : lw_okq (⟨"OneStepMoreModel", "nameAt", "(IIII)V"⟩, 32) := ⟨⟨by decide +kernel, by decide +kernel⟩, List.mem_of_getElem? (i := 1251) (by decide +kernel), List.mem_of_getElem? (i := 1597) (by decide +kernel), List.mem_of_getElem? (i := 1598) (by decide +kernel)⟩
theorem lw_p92 : lw_okq (⟨"OneStepMoreModel", "name", "(III)V"⟩, 32) := ⟨⟨by decide +kernel, by decide +kernel⟩, List.mem_of_getElem? (i := 1251) (by decide +kernel), List.mem_of_getElem? (i := 1601) (by decide +kernel), List.mem_of_getElem? (i := 1602) (by decide +kernel)⟩
theorem lw_p93 : lw_okq (⟨"OneStepMoreModel", "heightOf", "(II)I"⟩, 32) := ⟨⟨by decide +kernel, by decide +kernel⟩, List.mem_of_getElem? (i := 1251) (by decide +kernel), List.mem_of_getElem? (i := 1605) (by decide +kernel), List.mem_of_getElem? (i := 1606) (by decide +kernel)⟩
theorem lw_p94 : lw_okq (⟨"OneStepMoreModel", "nameStep", "(IIIII)V"⟩, 32) := ⟨⟨by decide +kernel, by decide +kernel⟩, List.mem_of_getElem? (i := 1251) (by decide +kernel), List.mem_of_getElem? (i := 1609) (by decide +kernel), List.mem_of_getElem? (i := 1610) (by decide +kernel)⟩
theorem lw_p95 : lw_okq (⟨"OneStepMoreModel", "railOf", "(I)I"⟩, 32) := ⟨⟨by decide +kernel, by decide +kernel⟩, List.mem_of_getElem? (i := 1251) (by decide +kernel), List.mem_of_getElem? (i := 1613) (by decide +kernel), List.mem_of_getElem? (i := 1614) (by decide +kernel)⟩
def lw_privs_6 : List (MethodName × Nat) := [(⟨"OneStepMoreModel", "opensBy", "(I)I"⟩, 32), (⟨"OneStepMoreModel", "isAskAhead", "(Z)Z"⟩, 32), (⟨"OneStepMoreModel", "highClause", "(I)I"⟩, 32), (⟨"OneStepMoreModel", "figure", "(III)I"⟩, 32), (⟨"OneStepMoreModel", "worded", "(JIII)I"⟩, 32), (⟨"OneStepMoreModel", "ofHouse", "(I)I"⟩, 32), (⟨"OneStepMoreModel", "oneClause", "(I)I"⟩, 32), (⟨"OneStepMoreModel", "pair", "(II)I"⟩, 32), (⟨"OneStepMoreModel", "isMind", "(III)Z"⟩, 32), (⟨"OneStepMoreModel", "isPerson", "(I)Z"⟩, 32), (⟨"OneStepMoreModel", "noneAt", "(IIII)I"⟩, 32), (⟨"OneStepMoreModel", "nameAt", "(IIII)V"⟩, 32), (⟨"OneStepMoreModel", "name", "(III)V"⟩, 32), (⟨"OneStepMoreModel", "heightOf", "(II)I"⟩, 32), (⟨"OneStepMoreModel", "nameStep", "(IIIII)V"⟩, 32), (⟨"OneStepMoreModel", "railOf", "(I)I"⟩, 32)]
theorem lw_r6 : ∀ q ∈ lw_privs_6, lw_okq q := List.forall_mem_cons.mpr ⟨lw_p80, List.forall_mem_cons.mpr ⟨lw_p81, List.forall_mem_cons.mpr ⟨lw_p82, List.forall_mem_cons.mpr ⟨lw_p83, List.forall_mem_cons.mpr ⟨lw_p84, List.forall_mem_cons.mpr ⟨lw_p85, List.forall_mem_cons.mpr ⟨lw_p86, List.forall_mem_cons.mpr ⟨lw_p87, List.forall_mem_cons.mpr ⟨lw_p88, List.forall_mem_cons.mpr ⟨lw_p89, List.forall_mem_cons.mpr ⟨lw_p90, List.forall_mem_cons.mpr ⟨lw_p91, List.forall_mem_cons.mpr ⟨lw_p92, List.forall_mem_cons.mpr ⟨lw_p93, List.forall_mem_cons.mpr ⟨lw_p94, List.forall_mem_cons.mpr ⟨lw_p95, fun _ h => absurd h List.not_mem_nil⟩⟩⟩⟩⟩⟩⟩⟩⟩⟩⟩⟩⟩⟩⟩⟩
theorem lw_p96 : lw_okq (⟨"OneStepMoreModel", "sumBy", "(III)I"⟩, 32) := ⟨⟨by decide +kernel, by decide +kernel⟩, List.mem_of_getElem? (i := 1251) (by decide +kernel), List.mem_of_getElem? (i := 1617) (by decide +kernel), List.mem_of_getElem? (i := 1618) (by decide +kernel)⟩
theorem lw_p97 : lw_okq (⟨"OneStepMoreModel", "clauseOf", "(II)I"⟩, 32) := ⟨⟨by decide +kernel, by decide +kernel⟩, List.mem_of_getElem? (i := 1251) (by decide +kernel), List.mem_of_getElem? (i := 1621) (by decide +kernel), List.mem_of_getElem? (i := 1622) (by decide +kernel)⟩
theorem lw_p98 : lw_okq (⟨"OneStepMoreModel", "work", "(II)V"⟩, 32) := ⟨⟨by decide +kernel, by decide +kernel⟩, List.mem_of_getElem? (i := 1251) (by decide +kernel), List.mem_of_getElem? (i := 1625) (by decide +kernel), List.mem_of_getElem? (i := 1626) (by decide +kernel)⟩
theorem lw_p99 : lw_okq (⟨"OneStepMoreModel", "twiceAt", "(IIII)I"⟩, 32) := ⟨⟨by decide +kernel, by decide +kernel⟩, List.mem_of_getElem? (i := 1251) (by decide +kernel), List.mem_of_getElem? (i := 1640) (by decide +kernel), List.mem_of_getElem? (i := 1641) (by decide +kernel)⟩
theorem lw_p100 : lw_okq (⟨"OneStepMoreModel", "tripsAt", "(IIII)Z"⟩, 32) := ⟨⟨by decide +kernel, by decide +kernel⟩, List.mem_of_getElem? (i := 1251) (by decide +kernel), List.mem_of_getElem? (i := 1644) (by decide +kernel), List.mem_of_getElem? (i := 1645) (by decide +kernel)⟩
theorem lw_p101 : lw_okq (⟨"OneStepMoreModel", "tripsBy", "(IIIIIII)Z"⟩, 32) := ⟨⟨by decide +kernel, by decide +kernel⟩, List.mem_of_getElem? (i := 1251) (by decide +kernel), List.mem_of_getElem? (i := 1648) (by decide +kernel), List.mem_of_getElem? (i := 1649) (by decide +kernel)⟩
theorem lw_p102 : lw_okq (⟨"OneStepMoreModel", "jarOf", "(III)I"⟩, 32) := ⟨⟨by decide +kernel, by decide +kernel⟩, List.mem_of_getElem? (i := 1251) (by decide +kernel), List.mem_of_getElem? (i := 1652) (by decide +kernel), List.mem_of_getElem? (i := 1653) (by decide +kernel)⟩
theorem lw_p103 : lw_okq (⟨"OneStepMoreModel", "fallOf", "(III)I"⟩, 32) := ⟨⟨by decide +kernel, by decide +kernel⟩, List.mem_of_getElem? (i := 1251) (by decide +kernel), List.mem_of_getElem? (i := 1656) (by decide +kernel), List.mem_of_getElem? (i := 1657) (by decide +kernel)⟩
theorem lw_p104 : lw_okq (⟨"OneStepMoreModel", "keep", "()V"⟩, 32) := ⟨⟨by decide +kernel, by decide +kernel⟩, List.mem_of_getElem? (i := 1251) (by decide +kernel), List.mem_of_getElem? (i := 1668) (by decide +kernel), List.mem_of_getElem? (i := 1669) (by decide +kernel)⟩
theorem lw_p105 : lw_okq (⟨"OneStepMoreModel", "beginNow", "(III)V"⟩, 32) := ⟨⟨by decide +kernel, by decide +kernel⟩, List.mem_of_getElem? (i := 1251) (by decide +kernel), List.mem_of_getElem? (i := 1672) (by decide +kernel), List.mem_of_getElem? (i := 1673) (by decide +kernel)⟩
theorem lw_p106 : lw_okq (⟨"OneStepMoreModel", "drawn", "()I"⟩, 32) := ⟨⟨by decide +kernel, by decide +kernel⟩, List.mem_of_getElem? (i := 1251) (by decide +kernel), List.mem_of_getElem? (i := 1676) (by decide +kernel), List.mem_of_getElem? (i := 1677) (by decide +kernel)⟩
theorem lw_p107 : lw_okq (⟨"OneStepMoreModel", "anew", "()V"⟩, 32) := ⟨⟨by decide +kernel, by decide +kernel⟩, List.mem_of_getElem? (i := 1251) (by decide +kernel), List.mem_of_getElem? (i := 1680) (by decide +kernel), List.mem_of_getElem? (i := 1681) (by decide +kernel)⟩
theorem lw_p108 : lw_okq (⟨"OneStepMoreModel", "stepNow", "()V"⟩, 32) := ⟨⟨by decide +kernel, by decide +kernel⟩, List.mem_of_getElem? (i := 1251) (by decide +kernel), List.mem_of_getElem? (i := 1688) (by decide +kernel), List.mem_of_getElem? (i := 1689) (by decide +kernel)⟩
theorem lw_p109 : lw_okq (⟨"OneStepMoreModel", "down", "(I)V"⟩, 32) := ⟨⟨by decide +kernel, by decide +kernel⟩, List.mem_of_getElem? (i := 1251) (by decide +kernel), List.mem_of_getElem? (i := 1692) (by decide +kernel), List.mem_of_getElem? (i := 1693) (by decide +kernel)⟩
theorem lw_p110 : lw_okq (⟨"OneStepMoreModel", "counted", "()V"⟩, 32) := ⟨⟨by decide +kernel, by decide +kernel⟩, List.mem_of_getElem? (i := 1251) (by decide +kernel), List.mem_of_getElem? (i := 1696) (by decide +kernel), List.mem_of_getElem? (i := 1697) (by decide +kernel)⟩
theorem lw_p111 : lw_okq (⟨"OneStepMoreModel", "toeNow", "()V"⟩, 32) := ⟨⟨by decide +kernel, by decide +kernel⟩, List.mem_of_getElem? (i := 1251) (by decide +kernel), List.mem_of_getElem? (i := 1704) (by decide +kernel), List.mem_of_getElem? (i := 1705) (by decide +kernel)⟩
def lw_privs_7 : List (MethodName × Nat) := [(⟨"OneStepMoreModel", "sumBy", "(III)I"⟩, 32), (⟨"OneStepMoreModel", "clauseOf", "(II)I"⟩, 32), (⟨"OneStepMoreModel", "work", "(II)V"⟩, 32), (⟨"OneStepMoreModel", "twiceAt", "(IIII)I"⟩, 32), (⟨"OneStepMoreModel", "tripsAt", "(IIII)Z"⟩, 32), (⟨"OneStepMoreModel", "tripsBy", "(IIIIIII)Z"⟩, 32), (⟨"OneStepMoreModel", "jarOf", "(III)I"⟩, 32), (⟨"OneStepMoreModel", "fallOf", "(III)I"⟩, 32), (⟨"OneStepMoreModel", "keep", "()V"⟩, 32), (⟨"OneStepMoreModel", "beginNow", "(III)V"⟩, 32), (⟨"OneStepMoreModel", "drawn", "()I"⟩, 32), (⟨"OneStepMoreModel", "anew", "()V"⟩, 32), (⟨"OneStepMoreModel", "stepNow", "()V"⟩, 32), (⟨"OneStepMoreModel", "down", "(I)V"⟩, 32), (⟨"OneStepMoreModel", "counted", "()V"⟩, 32), (⟨"OneStepMoreModel", "toeNow", "()V"⟩, 32)]
theorem lw_r7 : ∀ q ∈ lw_privs_7, lw_okq q := List.forall_mem_cons.mpr ⟨lw_p96, List.forall_mem_cons.mpr ⟨lw_p97, List.forall_mem_cons.mpr ⟨lw_p98, List.forall_mem_cons.mpr ⟨lw_p99, List.forall_mem_cons.mpr ⟨lw_p100, List.forall_mem_cons.mpr ⟨lw_p101, List.forall_mem_cons.mpr ⟨lw_p102, List.forall_mem_cons.mpr ⟨lw_p103, List.forall_mem_cons.mpr ⟨lw_p104, List.forall_mem_cons.mpr ⟨lw_p105, List.forall_mem_cons.mpr ⟨lw_p106, List.forall_mem_cons.mpr ⟨lw_p107, List.forall_mem_cons.mpr ⟨lw_p108, List.forall_mem_cons.mpr ⟨lw_p109, List.forall_mem_cons.mpr ⟨lw_p110, List.forall_mem_cons.mpr ⟨lw_p111, fun _ h => absurd h List.not_mem_nil⟩⟩⟩⟩⟩⟩⟩⟩⟩⟩⟩⟩⟩⟩⟩⟩
theorem lw_p112 : lw_okq (⟨"OneStepMoreModel", "nightNow", "()Z"⟩, 32) := ⟨⟨by decide +kernel, by decide +kernel⟩, List.mem_of_getElem? (i := 1251) (by decide +kernel), List.mem_of_getElem? (i := 1716) (by decide +kernel), List.mem_of_getElem? (i := 1717) (by decide +kernel)⟩
theorem lw_p113 : lw_okq (⟨"OneStepMoreModel", "isPlayed", "(I)Z"⟩, 32) := ⟨⟨by decide +kernel, by decide +kernel⟩, List.mem_of_getElem? (i := 1251) (by decide +kernel), List.mem_of_getElem? (i := 1724) (by decide +kernel), List.mem_of_getElem? (i := 1725) (by decide +kernel)⟩
theorem lw_p114 : lw_okq (⟨"OneStepMoreModel", "areDone", "(II)Z"⟩, 32) := ⟨⟨by decide +kernel, by decide +kernel⟩, List.mem_of_getElem? (i := 1251) (by decide +kernel), List.mem_of_getElem? (i := 1735) (by decide +kernel), List.mem_of_getElem? (i := 1736) (by decide +kernel)⟩
theorem lw_p115 : lw_okq (⟨"OneStepMoreModel", "shown", "()I"⟩, 32) := ⟨⟨by decide +kernel, by decide +kernel⟩, List.mem_of_getElem? (i := 1251) (by decide +kernel), List.mem_of_getElem? (i := 1757) (by decide +kernel), List.mem_of_getElem? (i := 1758) (by decide +kernel)⟩
theorem lw_p116 : lw_okq (⟨"OneStepMoreModel", "bookAt", "(II)I"⟩, 32) := ⟨⟨by decide +kernel, by decide +kernel⟩, List.mem_of_getElem? (i := 1251) (by decide +kernel), List.mem_of_getElem? (i := 1761) (by decide +kernel), List.mem_of_getElem? (i := 1762) (by decide +kernel)⟩
theorem lw_p117 : lw_okq (⟨"OneStepMoreModel", "start", "(IZZ)V"⟩, 32) := ⟨⟨by decide +kernel, by decide +kernel⟩, List.mem_of_getElem? (i := 1251) (by decide +kernel), List.mem_of_getElem? (i := 1770) (by decide +kernel), List.mem_of_getElem? (i := 1771) (by decide +kernel)⟩
theorem lw_p118 : lw_okq (⟨"OneStepMoreModel", "goAll", "(III)V"⟩, 32) := ⟨⟨by decide +kernel, by decide +kernel⟩, List.mem_of_getElem? (i := 1251) (by decide +kernel), List.mem_of_getElem? (i := 1774) (by decide +kernel), List.mem_of_getElem? (i := 1775) (by decide +kernel)⟩
theorem lw_p119 : lw_okq (⟨"OneStepMoreModel", "goOn", "(IIIIII)V"⟩, 32) := ⟨⟨by decide +kernel, by decide +kernel⟩, List.mem_of_getElem? (i := 1251) (by decide +kernel), List.mem_of_getElem? (i := 1781) (by decide +kernel), List.mem_of_getElem? (i := 1782) (by decide +kernel)⟩
theorem lw_p120 : lw_okq (⟨"OneStepMoreModel", "reckon", "(IIIII)V"⟩, 32) := ⟨⟨by decide +kernel, by decide +kernel⟩, List.mem_of_getElem? (i := 1251) (by decide +kernel), List.mem_of_getElem? (i := 1799) (by decide +kernel), List.mem_of_getElem? (i := 1800) (by decide +kernel)⟩
theorem lw_p121 : lw_okq (⟨"OneStepMoreModel", "best", "(IIII)I"⟩, 32) := ⟨⟨by decide +kernel, by decide +kernel⟩, List.mem_of_getElem? (i := 1251) (by decide +kernel), List.mem_of_getElem? (i := 1807) (by decide +kernel), List.mem_of_getElem? (i := 1808) (by decide +kernel)⟩
theorem lw_p122 : lw_okq (⟨"OneStepMoreModel", "jarred", "(IIIZ)J"⟩, 32) := ⟨⟨by decide +kernel, by decide +kernel⟩, List.mem_of_getElem? (i := 1251) (by decide +kernel), List.mem_of_getElem? (i := 1831) (by decide +kernel), List.mem_of_getElem? (i := 1832) (by decide +kernel)⟩
theorem lw_p123 : lw_okq (⟨"OneStepMoreModel", "legsOf", "(I)I"⟩, 32) := ⟨⟨by decide +kernel, by decide +kernel⟩, List.mem_of_getElem? (i := 1251) (by decide +kernel), List.mem_of_getElem? (i := 1855) (by decide +kernel), List.mem_of_getElem? (i := 1856) (by decide +kernel)⟩
theorem lw_p124 : lw_okq (⟨"OneStepMoreModel", "isSeenBy", "(I)Z"⟩, 32) := ⟨⟨by decide +kernel, by decide +kernel⟩, List.mem_of_getElem? (i := 1251) (by decide +kernel), List.mem_of_getElem? (i := 1871) (by decide +kernel), List.mem_of_getElem? (i := 1872) (by decide +kernel)⟩
theorem lw_p125 : lw_okq (⟨"OneStepMoreModel", "findWork", "(IZ)V"⟩, 32) := ⟨⟨by decide +kernel, by decide +kernel⟩, List.mem_of_getElem? (i := 1251) (by decide +kernel), List.mem_of_getElem? (i := 1879) (by decide +kernel), List.mem_of_getElem? (i := 1880) (by decide +kernel)⟩
theorem lw_p126 : lw_okq (⟨"OneStepMoreModel", "workBy", "(IIIIZ)I"⟩, 32) := ⟨⟨by decide +kernel, by decide +kernel⟩, List.mem_of_getElem? (i := 1251) (by decide +kernel), List.mem_of_getElem? (i := 1884) (by decide +kernel), List.mem_of_getElem? (i := 1885) (by decide +kernel)⟩
theorem lw_p127 : lw_okq (⟨"OneStepMoreModel", "isSmooth", "(IIII)Z"⟩, 32) := ⟨⟨by decide +kernel, by decide +kernel⟩, List.mem_of_getElem? (i := 1251) (by decide +kernel), List.mem_of_getElem? (i := 1888) (by decide +kernel), List.mem_of_getElem? (i := 1889) (by decide +kernel)⟩
def lw_privs_8 : List (MethodName × Nat) := [(⟨"OneStepMoreModel", "nightNow", "()Z"⟩, 32), (⟨"OneStepMoreModel", "isPlayed", "(I)Z"⟩, 32), (⟨"OneStepMoreModel", "areDone", "(II)Z"⟩, 32), (⟨"OneStepMoreModel", "shown", "()I"⟩, 32), (⟨"OneStepMoreModel", "bookAt", "(II)I"⟩, 32), (⟨"OneStepMoreModel", "start", "(IZZ)V"⟩, 32), (⟨"OneStepMoreModel", "goAll", "(III)V"⟩, 32), (⟨"OneStepMoreModel", "goOn", "(IIIIII)V"⟩, 32), (⟨"OneStepMoreModel", "reckon", "(IIIII)V"⟩, 32), (⟨"OneStepMoreModel", "best", "(IIII)I"⟩, 32), (⟨"OneStepMoreModel", "jarred", "(IIIZ)J"⟩, 32), (⟨"OneStepMoreModel", "legsOf", "(I)I"⟩, 32), (⟨"OneStepMoreModel", "isSeenBy", "(I)Z"⟩, 32), (⟨"OneStepMoreModel", "findWork", "(IZ)V"⟩, 32), (⟨"OneStepMoreModel", "workBy", "(IIIIZ)I"⟩, 32), (⟨"OneStepMoreModel", "isSmooth", "(IIII)Z"⟩, 32)]
theorem lw_r8 : ∀ q ∈ lw_privs_8, lw_okq q := List.forall_mem_cons.mpr ⟨lw_p112, List.forall_mem_cons.mpr ⟨lw_p113, List.forall_mem_cons.mpr ⟨lw_p114, List.forall_mem_cons.mpr ⟨lw_p115, List.forall_mem_cons.mpr ⟨lw_p116, List.forall_mem_cons.mpr ⟨lw_p117, List.forall_mem_cons.mpr ⟨lw_p118, List.forall_mem_cons.mpr ⟨lw_p119, List.forall_mem_cons.mpr ⟨lw_p120, List.forall_mem_cons.mpr ⟨lw_p121, List.forall_mem_cons.mpr ⟨lw_p122, List.forall_mem_cons.mpr ⟨lw_p123, List.forall_mem_cons.mpr ⟨lw_p124, List.forall_mem_cons.mpr ⟨lw_p125, List.forall_mem_cons.mpr ⟨lw_p126, List.forall_mem_cons.mpr ⟨lw_p127, fun _ h => absurd h List.not_mem_nil⟩⟩⟩⟩⟩⟩⟩⟩⟩⟩⟩⟩⟩⟩⟩⟩
theorem lw_p128 : lw_okq (⟨"OneStepMoreModel", "workOf", "(IIIZ)I"⟩, 32) := ⟨⟨by decide +kernel, by decide +kernel⟩, List.mem_of_getElem? (i := 1251) (by decide +kernel), List.mem_of_getElem? (i := 1892) (by decide +kernel), List.mem_of_getElem? (i := 1893) (by decide +kernel)⟩
def lw_privs_9 : List (MethodName × Nat) := [(⟨"OneStepMoreModel", "workOf", "(IIIZ)I"⟩, 32)]
theorem lw_r9 : ∀ q ∈ lw_privs_9, lw_okq q := List.forall_mem_cons.mpr ⟨lw_p128, fun _ h => absurd h List.not_mem_nil⟩
def lw_privs : List (MethodName × Nat) := lw_privs_1 ++ (lw_privs_2 ++ (lw_privs_3 ++ (lw_privs_4 ++ (lw_privs_5 ++ (lw_privs_6 ++ (lw_privs_7 ++ (lw_privs_8 ++ (lw_privs_9))))))))
def lw_tbl : List Cond := k2_sels lw_privs ++ tables_1
theorem lw_privs_ok : ∀ q ∈ lw_privs, lw_okq q := by
  show ∀ q ∈ lw_privs_1 ++ (lw_privs_2 ++ (lw_privs_3 ++ (lw_privs_4 ++ (lw_privs_5 ++ (lw_privs_6 ++ (lw_privs_7 ++ (lw_privs_8 ++ (lw_privs_9)))))))), lw_okq q
  exact List.forall_mem_append.mpr ⟨lw_r1, List.forall_mem_append.mpr ⟨lw_r2, List.forall_mem_append.mpr ⟨lw_r3, List.forall_mem_append.mpr ⟨lw_r4, List.forall_mem_append.mpr ⟨lw_r5, List.forall_mem_append.mpr ⟨lw_r6, List.forall_mem_append.mpr ⟨lw_r7, List.forall_mem_append.mpr ⟨lw_r8, lw_r9⟩⟩⟩⟩⟩⟩⟩⟩
-- ===== end of PART A; then your names; then what follows =====
/-! ===== BEGIN printed: names, fields, word lists, decode rows ===== -/
def RX0 : String := "OneStepMore$House"
def TX0 : u_T := fun k => match k with
  | 0 => ("OneStepMore$House", "n", "I", false)
  | 1 => ("OneStepMore$House", "heights", "[I", true)
  | 2 => ("OneStepMore$House", "marks", "I", false)
  | 3 => ("OneStepMore$House", "rail", "I", false)
  | _ => ("OneStepMore$House", "told", "Z", false)
def tyX0 : Nat → FieldType := fun k => match k with
  | 0 => .int
  | 1 => .array .int
  | 2 => .int
  | 3 => .int
  | _ => .boolean
theorem nmX0 : ∀ a, a < 5 → ∀ b, b < 5 → a ≠ b → (TX0 a).2.1 ≠ (TX0 b).2.1 := by decide +kernel
theorem tyX0_ok : ∀ k, k < 5 → parseFieldDescriptor (TX0 k).2.2.1 = some (tyX0 k) := by decide +kernel
abbrev cX0_init : ByteArray := prog_2_method_1_code
def yX0_init : MethodName := ⟨RX0, "<init>", "()V"⟩
abbrev cX0_build : ByteArray := prog_2_method_2_code
def yX0_build : MethodName := ⟨RX0, "build", "(I)V"⟩
abbrev cX0_hasStep : ByteArray := prog_2_method_3_code
def yX0_hasStep : MethodName := ⟨RX0, "hasStep", "(I)Z"⟩
abbrev cX0_hasMark : ByteArray := prog_2_method_4_code
def yX0_hasMark : MethodName := ⟨RX0, "hasMark", "(I)Z"⟩
abbrev cX0_highOf : ByteArray := prog_2_method_5_code
def yX0_highOf : MethodName := ⟨RX0, "highOf", "(I)I"⟩
abbrev cX0_become : ByteArray := prog_2_method_6_code
def yX0_become : MethodName := ⟨RX0, "become", "(LOneStepMore$House;)V"⟩
def RX1 : String := "OneStepMore$Laws"
def TX1 : u_T := fun k => match k with
  | 0 => ("OneStepMore$Laws", "names", "[I", true)
  | 1 => ("OneStepMore$Laws", "stack", "[I", true)
  | 2 => ("OneStepMore$Laws", "text", "LOneStepMore$Text;", false)
  | 3 => ("OneStepMore$Laws", "ownNone", "I", false)
  | _ => ("OneStepMore$Laws", "ownTwice", "I", false)
def tyX1 : Nat → FieldType := fun k => match k with
  | 0 => .array .int
  | 1 => .array .int
  | 2 => .object "OneStepMore$Text"
  | 3 => .int
  | _ => .int
theorem nmX1 : ∀ a, a < 5 → ∀ b, b < 5 → a ≠ b → (TX1 a).2.1 ≠ (TX1 b).2.1 := by decide +kernel
theorem tyX1_ok : ∀ k, k < 5 → parseFieldDescriptor (TX1 k).2.2.1 = some (tyX1 k) := by decide +kernel
abbrev cX1_init : ByteArray := prog_3_method_1_code
def yX1_init : MethodName := ⟨RX1, "<init>", "()V"⟩
abbrev cX1_turnTo : ByteArray := prog_3_method_2_code
def yX1_turnTo : MethodName := ⟨RX1, "turnTo", "(LOneStepMore$State;LOneStepMore$Text;III)V"⟩
abbrev cX1_face : ByteArray := prog_3_method_3_code
def yX1_face : MethodName := ⟨RX1, "face", "(LOneStepMore$House;I)V"⟩
abbrev cX1_suppose : ByteArray := prog_3_method_4_code
def yX1_suppose : MethodName := ⟨RX1, "suppose", "(II)V"⟩
abbrev cX1_noneNow : ByteArray := prog_3_method_5_code
def yX1_noneNow : MethodName := ⟨RX1, "noneNow", "()I"⟩
abbrev cX1_twiceNow : ByteArray := prog_3_method_6_code
def yX1_twiceNow : MethodName := ⟨RX1, "twiceNow", "(I)I"⟩
abbrev cX1_tripsNow : ByteArray := prog_3_method_7_code
def yX1_tripsNow : MethodName := ⟨RX1, "tripsNow", "()Z"⟩
abbrev cX1_jarNow : ByteArray := prog_3_method_8_code
def yX1_jarNow : MethodName := ⟨RX1, "jarNow", "()I"⟩
abbrev cX1_fallNow : ByteArray := prog_3_method_9_code
def yX1_fallNow : MethodName := ⟨RX1, "fallNow", "()I"⟩
abbrev cX1_rules : ByteArray := prog_3_method_10_code
def yX1_rules : MethodName := ⟨RX1, "rules", "(I)Z"⟩
abbrev cX1_worked : ByteArray := prog_3_method_11_code
def yX1_worked : MethodName := ⟨RX1, "worked", "(I)I"⟩
abbrev cX1_joined : ByteArray := prog_3_method_12_code
def yX1_joined : MethodName := ⟨RX1, "joined", "(IJJ)I"⟩
def RX2 : String := "OneStepMore$Leveller"
def TX2 : u_T := fun k => match k with
  | 0 => ("OneStepMore$Leveller", "s", "LOneStepMore$State;", true)
  | 1 => ("OneStepMore$Leveller", "rules", "LOneStepMore$Laws;", true)
  | 2 => ("OneStepMore$Leveller", "least", "[I", true)
  | 3 => ("OneStepMore$Leveller", "chosen", "[I", true)
  | _ => ("OneStepMore$Leveller", "works", "[I", true)
def tyX2 : Nat → FieldType := fun k => match k with
  | 0 => .object "OneStepMore$State"
  | 1 => .object "OneStepMore$Laws"
  | 2 => .array .int
  | 3 => .array .int
  | _ => .array .int
theorem nmX2 : ∀ a, a < 5 → ∀ b, b < 5 → a ≠ b → (TX2 a).2.1 ≠ (TX2 b).2.1 := by decide +kernel
theorem tyX2_ok : ∀ k, k < 5 → parseFieldDescriptor (TX2 k).2.2.1 = some (tyX2 k) := by decide +kernel
abbrev cX2_init : ByteArray := prog_4_method_1_code
def yX2_init : MethodName := ⟨RX2, "<init>", "(LOneStepMore$State;LOneStepMore$Laws;)V"⟩
abbrev cX2_levelled : ByteArray := prog_4_method_2_code
def yX2_levelled : MethodName := ⟨RX2, "levelled", "(IIZ)I"⟩
abbrev cX2_plan : ByteArray := prog_4_method_3_code
def yX2_plan : MethodName := ⟨RX2, "plan", "(LOneStepMore$House;IZ)V"⟩
abbrev cX2_weigh : ByteArray := prog_4_method_4_code
def yX2_weigh : MethodName := ⟨RX2, "weigh", "(LOneStepMore$House;IZ)V"⟩
abbrev cX2_choose : ByteArray := prog_4_method_5_code
def yX2_choose : MethodName := ⟨RX2, "choose", "(LOneStepMore$House;III)V"⟩
abbrev cX2_cheapest : ByteArray := prog_4_method_6_code
def yX2_cheapest : MethodName := ⟨RX2, "cheapest", "()I"⟩
abbrev cX2_anyoneTrips : ByteArray := prog_4_method_7_code
def yX2_anyoneTrips : MethodName := ⟨RX2, "anyoneTrips", "(LOneStepMore$House;IIII)Z"⟩
def RX3 : String := "OneStepMore$Mind"
def TX3 : u_T := fun k => match k with
  | 0 => ("OneStepMore$Mind", "bestFrom", "I", false)
  | 1 => ("OneStepMore$Mind", "s", "LOneStepMore$State;", true)
  | 2 => ("OneStepMore$Mind", "rules", "LOneStepMore$Laws;", true)
  | 3 => ("OneStepMore$Mind", "n", "I", false)
  | 4 => ("OneStepMore$Mind", "loaded", "Z", false)
  | 5 => ("OneStepMore$Mind", "marks", "I", false)
  | 6 => ("OneStepMore$Mind", "landing", "I", false)
  | 7 => ("OneStepMore$Mind", "none", "[I", true)
  | 8 => ("OneStepMore$Mind", "twice", "[I", true)
  | 9 => ("OneStepMore$Mind", "harm", "[I", true)
  | 10 => ("OneStepMore$Mind", "odds", "[J", true)
  | 11 => ("OneStepMore$Mind", "learnt", "[J", true)
  | _ => ("OneStepMore$Mind", "bestCost", "J", false)
def tyX3 : Nat → FieldType := fun k => match k with
  | 0 => .int
  | 1 => .object "OneStepMore$State"
  | 2 => .object "OneStepMore$Laws"
  | 3 => .int
  | 4 => .boolean
  | 5 => .int
  | 6 => .int
  | 7 => .array .int
  | 8 => .array .int
  | 9 => .array .int
  | 10 => .array .long
  | 11 => .array .long
  | _ => .long
theorem nmX3 : ∀ a, a < 13 → ∀ b, b < 13 → a ≠ b → (TX3 a).2.1 ≠ (TX3 b).2.1 := by decide +kernel
theorem tyX3_ok : ∀ k, k < 13 → parseFieldDescriptor (TX3 k).2.2.1 = some (tyX3 k) := by decide +kernel
abbrev cX3_init : ByteArray := prog_5_method_1_code
def yX3_init : MethodName := ⟨RX3, "<init>", "(LOneStepMore$State;LOneStepMore$Laws;)V"⟩
abbrev cX3_look : ByteArray := prog_5_method_2_code
def yX3_look : MethodName := ⟨RX3, "look", "(III)Z"⟩
abbrev cX3_spread : ByteArray := prog_5_method_3_code
def yX3_spread : MethodName := ⟨RX3, "spread", "()V"⟩
abbrev cX3_spreadFrom : ByteArray := prog_5_method_4_code
def yX3_spreadFrom : MethodName := ⟨RX3, "spreadFrom", "(III)V"⟩
abbrev cX3_gather : ByteArray := prog_5_method_5_code
def yX3_gather : MethodName := ⟨RX3, "gather", "(I)V"⟩
abbrev cX3_carry : ByteArray := prog_5_method_6_code
def yX3_carry : MethodName := ⟨RX3, "carry", "(I)V"⟩
abbrev cX3_chance : ByteArray := prog_5_method_7_code
def yX3_chance : MethodName := ⟨RX3, "chance", "(II)J"⟩
abbrev cX3_add : ByteArray := prog_5_method_8_code
def yX3_add : MethodName := ⟨RX3, "add", "(IIJ)V"⟩
abbrev cX3_evenChance : ByteArray := prog_5_method_9_code
def yX3_evenChance : MethodName := ⟨RX3, "evenChance", "(II)J"⟩
abbrev cX3_power : ByteArray := prog_5_method_10_code
def yX3_power : MethodName := ⟨RX3, "power", "(I)J"⟩
abbrev cX3_oddsAt : ByteArray := prog_5_method_11_code
def yX3_oddsAt : MethodName := ⟨RX3, "oddsAt", "(IIZ)J"⟩
abbrev cX3_costOfToes : ByteArray := prog_5_method_12_code
def yX3_costOfToes : MethodName := ⟨RX3, "costOfToes", "()J"⟩
abbrev cX3_boldlyMore : ByteArray := prog_5_method_13_code
def yX3_boldlyMore : MethodName := ⟨RX3, "boldlyMore", "(I)J"⟩
abbrev cX3_costFrom : ByteArray := prog_5_method_14_code
def yX3_costFrom : MethodName := ⟨RX3, "costFrom", "(IZ)J"⟩
abbrev cX3_chooseFrom : ByteArray := prog_5_method_15_code
def yX3_chooseFrom : MethodName := ⟨RX3, "chooseFrom", "()V"⟩
abbrev cX3_bestMark : ByteArray := prog_5_method_16_code
def yX3_bestMark : MethodName := ⟨RX3, "bestMark", "()I"⟩
abbrev cX3_goesWithLoad : ByteArray := prog_5_method_17_code
def yX3_goesWithLoad : MethodName := ⟨RX3, "goesWithLoad", "(II)I"⟩
abbrev cX3_lampNights : ByteArray := prog_5_method_18_code
def yX3_lampNights : MethodName := ⟨RX3, "lampNights", "(II)I"⟩
abbrev cX3_ceiling : ByteArray := prog_5_method_19_code
def yX3_ceiling : MethodName := ⟨RX3, "ceiling", "(JJ)J"⟩
abbrev cX3_chanceOfJar : ByteArray := prog_5_method_20_code
def yX3_chanceOfJar : MethodName := ⟨RX3, "chanceOfJar", "(I)J"⟩
abbrev cX3_oddsOfHouse : ByteArray := prog_5_method_21_code
def yX3_oddsOfHouse : MethodName := ⟨RX3, "oddsOfHouse", "(IIIZ)J"⟩
abbrev cX3_oddsOfLanding : ByteArray := prog_5_method_22_code
def yX3_oddsOfLanding : MethodName := ⟨RX3, "oddsOfLanding", "(IZ)J"⟩
abbrev cX3_oddsOfSure : ByteArray := prog_5_method_23_code
def yX3_oddsOfSure : MethodName := ⟨RX3, "oddsOfSure", "(IIIZ)J"⟩
def RX4 : String := "OneStepMore$Reader"
def TX4 : u_T := fun k => match k with
  | 0 => ("OneStepMore$Reader", "fault", "I", false)
  | 1 => ("OneStepMore$Reader", "place", "I", false)
  | 2 => ("OneStepMore$Reader", "tape", "LOneStepMore$Tape;", true)
  | 3 => ("OneStepMore$Reader", "code", "[I", true)
  | 4 => ("OneStepMore$Reader", "lawStarts", "[I", true)
  | 5 => ("OneStepMore$Reader", "lawEnds", "[I", true)
  | 6 => ("OneStepMore$Reader", "deeds", "[I", true)
  | 7 => ("OneStepMore$Reader", "numbers", "[I", true)
  | 8 => ("OneStepMore$Reader", "codes", "I", false)
  | 9 => ("OneStepMore$Reader", "clauses", "I", false)
  | 10 => ("OneStepMore$Reader", "law", "I", false)
  | 11 => ("OneStepMore$Reader", "at", "I", false)
  | 12 => ("OneStepMore$Reader", "token", "I", false)
  | _ => ("OneStepMore$Reader", "value", "I", false)
def tyX4 : Nat → FieldType := fun k => match k with
  | 0 => .int
  | 1 => .int
  | 2 => .object "OneStepMore$Tape"
  | 3 => .array .int
  | 4 => .array .int
  | 5 => .array .int
  | 6 => .array .int
  | 7 => .array .int
  | 8 => .int
  | 9 => .int
  | 10 => .int
  | 11 => .int
  | 12 => .int
  | _ => .int
theorem nmX4 : ∀ a, a < 14 → ∀ b, b < 14 → a ≠ b → (TX4 a).2.1 ≠ (TX4 b).2.1 := by decide +kernel
theorem tyX4_ok : ∀ k, k < 14 → parseFieldDescriptor (TX4 k).2.2.1 = some (tyX4 k) := by decide +kernel
abbrev cX4_init : ByteArray := prog_6_method_1_code
def yX4_init : MethodName := ⟨RX4, "<init>", "(LOneStepMore$Tape;)V"⟩
abbrev cX4_read : ByteArray := prog_6_method_2_code
def yX4_read : MethodName := ⟨RX4, "read", "()LOneStepMore$Text;"⟩
abbrev cX4_faulty : ByteArray := prog_6_method_3_code
def yX4_faulty : MethodName := ⟨RX4, "faulty", "(I)Z"⟩
abbrev cX4_readClause : ByteArray := prog_6_method_4_code
def yX4_readClause : MethodName := ⟨RX4, "readClause", "()Z"⟩
abbrev cX4_readLaw : ByteArray := prog_6_method_5_code
def yX4_readLaw : MethodName := ⟨RX4, "readLaw", "(I)Z"⟩
abbrev cX4_readDeed : ByteArray := prog_6_method_6_code
def yX4_readDeed : MethodName := ⟨RX4, "readDeed", "(I)Z"⟩
abbrev cX4_readNumber : ByteArray := prog_6_method_7_code
def yX4_readNumber : MethodName := ⟨RX4, "readNumber", "(III)Z"⟩
abbrev cX4_passes : ByteArray := prog_6_method_8_code
def yX4_passes : MethodName := ⟨RX4, "passes", "(I)Z"⟩
abbrev cX4_readEither : ByteArray := prog_6_method_9_code
def yX4_readEither : MethodName := ⟨RX4, "readEither", "(I)Z"⟩
abbrev cX4_readBoth : ByteArray := prog_6_method_10_code
def yX4_readBoth : MethodName := ⟨RX4, "readBoth", "(I)Z"⟩
abbrev cX4_readAsk : ByteArray := prog_6_method_11_code
def yX4_readAsk : MethodName := ⟨RX4, "readAsk", "(I)Z"⟩
abbrev cX4_readSum : ByteArray := prog_6_method_12_code
def yX4_readSum : MethodName := ⟨RX4, "readSum", "(I)Z"⟩
abbrev cX4_readProduct : ByteArray := prog_6_method_13_code
def yX4_readProduct : MethodName := ⟨RX4, "readProduct", "(I)Z"⟩
abbrev cX4_readOne : ByteArray := prog_6_method_14_code
def yX4_readOne : MethodName := ⟨RX4, "readOne", "(I)Z"⟩
abbrev cX4_readChoice : ByteArray := prog_6_method_15_code
def yX4_readChoice : MethodName := ⟨RX4, "readChoice", "(I)Z"⟩
abbrev cX4_readValue : ByteArray := prog_6_method_16_code
def yX4_readValue : MethodName := ⟨RX4, "readValue", "()Z"⟩
abbrev cX4_readName : ByteArray := prog_6_method_17_code
def yX4_readName : MethodName := ⟨RX4, "readName", "()Z"⟩
abbrev cX4_opens : ByteArray := prog_6_method_18_code
def yX4_opens : MethodName := ⟨RX4, "opens", "(I)Z"⟩
abbrev cX4_emit : ByteArray := prog_6_method_19_code
def yX4_emit : MethodName := ⟨RX4, "emit", "(I)V"⟩
abbrev cX4_advance : ByteArray := prog_6_method_20_code
def yX4_advance : MethodName := ⟨RX4, "advance", "()V"⟩
def RX5 : String := "OneStepMore$State"
def TX5 : u_T := fun k => match k with
  | 0 => ("OneStepMore$State", "houses", "[LOneStepMore$House;", true)
  | 1 => ("OneStepMore$State", "none", "[I", true)
  | 2 => ("OneStepMore$State", "twice", "[I", true)
  | 3 => ("OneStepMore$State", "landing", "[I", true)
  | 4 => ("OneStepMore$State", "people", "I", false)
  | 5 => ("OneStepMore$State", "x", "I", false)
  | 6 => ("OneStepMore$State", "night", "I", false)
  | 7 => ("OneStepMore$State", "way", "[I", true)
  | 8 => ("OneStepMore$State", "book", "[I", true)
  | 9 => ("OneStepMore$State", "written", "I", false)
  | 10 => ("OneStepMore$State", "past", "[I", true)
  | 11 => ("OneStepMore$State", "acts", "I", false)
  | 12 => ("OneStepMore$State", "nextAct", "I", false)
  | 13 => ("OneStepMore$State", "read", "[LOneStepMore$Text;", true)
  | 14 => ("OneStepMore$State", "texts", "I", false)
  | 15 => ("OneStepMore$State", "ruling", "I", false)
  | 16 => ("OneStepMore$State", "sights", "[I", true)
  | _ => ("OneStepMore$State", "seen", "I", false)
def tyX5 : Nat → FieldType := fun k => match k with
  | 0 => .array (.object "OneStepMore$House")
  | 1 => .array .int
  | 2 => .array .int
  | 3 => .array .int
  | 4 => .int
  | 5 => .int
  | 6 => .int
  | 7 => .array .int
  | 8 => .array .int
  | 9 => .int
  | 10 => .array .int
  | 11 => .int
  | 12 => .int
  | 13 => .array (.object "OneStepMore$Text")
  | 14 => .int
  | 15 => .int
  | 16 => .array .int
  | _ => .int
theorem nmX5 : ∀ a, a < 18 → ∀ b, b < 18 → a ≠ b → (TX5 a).2.1 ≠ (TX5 b).2.1 := by decide +kernel
theorem tyX5_ok : ∀ k, k < 18 → parseFieldDescriptor (TX5 k).2.2.1 = some (tyX5 k) := by decide +kernel
abbrev cX5_init : ByteArray := prog_7_method_1_code
def yX5_init : MethodName := ⟨RX5, "<init>", "()V"⟩
abbrev cX5_houseOf : ByteArray := prog_7_method_2_code
def yX5_houseOf : MethodName := ⟨RX5, "houseOf", "(I)LOneStepMore$House;"⟩
abbrev cX5_isPerson : ByteArray := prog_7_method_3_code
def yX5_isPerson : MethodName := ⟨RX5, "isPerson", "(I)Z"⟩
abbrev cX5_isOnWay : ByteArray := prog_7_method_4_code
def yX5_isOnWay : MethodName := ⟨RX5, "isOnWay", "()Z"⟩
abbrev cX5_wayOf : ByteArray := prog_7_method_5_code
def yX5_wayOf : MethodName := ⟨RX5, "wayOf", "(I)I"⟩
abbrev cX5_textOf : ByteArray := prog_7_method_6_code
def yX5_textOf : MethodName := ⟨RX5, "textOf", "(I)LOneStepMore$Text;"⟩
abbrev cX5_keepText : ByteArray := prog_7_method_7_code
def yX5_keepText : MethodName := ⟨RX5, "keepText", "(LOneStepMore$Text;)I"⟩
abbrev cX5_tellStairs : ByteArray := prog_7_method_8_code
def yX5_tellStairs : MethodName := ⟨RX5, "tellStairs", "(II)Z"⟩
abbrev cX5_tellHeight : ByteArray := prog_7_method_9_code
def yX5_tellHeight : MethodName := ⟨RX5, "tellHeight", "(III)Z"⟩
abbrev cX5_tellMark : ByteArray := prog_7_method_10_code
def yX5_tellMark : MethodName := ⟨RX5, "tellMark", "(IIZ)Z"⟩
abbrev cX5_turnMark : ByteArray := prog_7_method_11_code
def yX5_turnMark : MethodName := ⟨RX5, "turnMark", "(II)Z"⟩
abbrev cX5_tellRail : ByteArray := prog_7_method_12_code
def yX5_tellRail : MethodName := ⟨RX5, "tellRail", "(II)Z"⟩
abbrev cX5_tellPerson : ByteArray := prog_7_method_13_code
def yX5_tellPerson : MethodName := ⟨RX5, "tellPerson", "(III)I"⟩
abbrev cX5_toldHouses : ByteArray := prog_7_method_14_code
def yX5_toldHouses : MethodName := ⟨RX5, "toldHouses", "()I"⟩
abbrev cX5_aboutPerson : ByteArray := prog_7_method_15_code
def yX5_aboutPerson : MethodName := ⟨RX5, "aboutPerson", "(I)I"⟩
abbrev cX5_remember : ByteArray := prog_7_method_16_code
def yX5_remember : MethodName := ⟨RX5, "remember", "()V"⟩
abbrev cX5_takeBack : ByteArray := prog_7_method_17_code
def yX5_takeBack : MethodName := ⟨RX5, "takeBack", "()I"⟩
abbrev cX5_lines : ByteArray := prog_7_method_18_code
def yX5_lines : MethodName := ⟨RX5, "lines", "()I"⟩
abbrev cX5_lineOf : ByteArray := prog_7_method_19_code
def yX5_lineOf : MethodName := ⟨RX5, "lineOf", "(II)I"⟩
abbrev cX5_writeDown : ByteArray := prog_7_method_20_code
def yX5_writeDown : MethodName := ⟨RX5, "writeDown", "(I)V"⟩
abbrev cX5_become : ByteArray := prog_7_method_21_code
def yX5_become : MethodName := ⟨RX5, "become", "(LOneStepMore$State;)V"⟩
def RX6 : String := "OneStepMore$Tales"
def TX6 : u_T := fun k => match k with
  | 0 => ("OneStepMore$Tales", "s", "LOneStepMore$State;", true)
  | 1 => ("OneStepMore$Tales", "rules", "LOneStepMore$Laws;", true)
  | _ => ("OneStepMore$Tales", "often", "[I", true)
def tyX6 : Nat → FieldType := fun k => match k with
  | 0 => .object "OneStepMore$State"
  | 1 => .object "OneStepMore$Laws"
  | _ => .array .int
theorem nmX6 : ∀ a, a < 3 → ∀ b, b < 3 → a ≠ b → (TX6 a).2.1 ≠ (TX6 b).2.1 := by decide +kernel
theorem tyX6_ok : ∀ k, k < 3 → parseFieldDescriptor (TX6 k).2.2.1 = some (tyX6 k) := by decide +kernel
abbrev cX6_init : ByteArray := prog_8_method_1_code
def yX6_init : MethodName := ⟨RX6, "<init>", "(LOneStepMore$State;LOneStepMore$Laws;)V"⟩
abbrev cX6_saidOf : ByteArray := prog_8_method_2_code
def yX6_saidOf : MethodName := ⟨RX6, "saidOf", "(IIIII)I"⟩
abbrev cX6_tallied : ByteArray := prog_8_method_3_code
def yX6_tallied : MethodName := ⟨RX6, "tallied", "(II)I"⟩
abbrev cX6_counted : ByteArray := prog_8_method_4_code
def yX6_counted : MethodName := ⟨RX6, "counted", "(II)I"⟩
abbrev cX6_legsOf : ByteArray := prog_8_method_5_code
def yX6_legsOf : MethodName := ⟨RX6, "legsOf", "(II)I"⟩
abbrev cX6_mostOften : ByteArray := prog_8_method_6_code
def yX6_mostOften : MethodName := ⟨RX6, "mostOften", "(I)I"⟩
abbrev cX6_trippersAt : ByteArray := prog_8_method_7_code
def yX6_trippersAt : MethodName := ⟨RX6, "trippersAt", "(III)I"⟩
abbrev cX6_see : ByteArray := prog_8_method_8_code
def yX6_see : MethodName := ⟨RX6, "see", "(IIIZ)I"⟩
abbrev cX6_lawsOfSeen : ByteArray := prog_8_method_9_code
def yX6_lawsOfSeen : MethodName := ⟨RX6, "lawsOfSeen", "()I"⟩
abbrev cX6_allSeenBy : ByteArray := prog_8_method_10_code
def yX6_allSeenBy : MethodName := ⟨RX6, "allSeenBy", "(LOneStepMore$Text;)Z"⟩
def RX7 : String := "OneStepMore$Tape"
def TX7 : u_T := fun k => match k with
  | 0 => ("OneStepMore$Tape", "bytes", "[I", true)
  | 1 => ("OneStepMore$Tape", "length", "I", false)
  | 2 => ("OneStepMore$Tape", "tokens", "[I", true)
  | 3 => ("OneStepMore$Tape", "starts", "[I", true)
  | 4 => ("OneStepMore$Tape", "values", "[I", true)
  | _ => ("OneStepMore$Tape", "at", "I", false)
def tyX7 : Nat → FieldType := fun k => match k with
  | 0 => .array .int
  | 1 => .int
  | 2 => .array .int
  | 3 => .array .int
  | 4 => .array .int
  | _ => .int
theorem nmX7 : ∀ a, a < 6 → ∀ b, b < 6 → a ≠ b → (TX7 a).2.1 ≠ (TX7 b).2.1 := by decide +kernel
theorem tyX7_ok : ∀ k, k < 6 → parseFieldDescriptor (TX7 k).2.2.1 = some (tyX7 k) := by decide +kernel
abbrev cX7_init : ByteArray := prog_9_method_1_code
def yX7_init : MethodName := ⟨RX7, "<init>", "()V"⟩
abbrev cX7_hasRoom : ByteArray := prog_9_method_2_code
def yX7_hasRoom : MethodName := ⟨RX7, "hasRoom", "()Z"⟩
abbrev cX7_take : ByteArray := prog_9_method_3_code
def yX7_take : MethodName := ⟨RX7, "take", "(I)V"⟩
abbrev cX7_scan : ByteArray := prog_9_method_4_code
def yX7_scan : MethodName := ⟨RX7, "scan", "()V"⟩
abbrev cX7_byteAt : ByteArray := prog_9_method_5_code
def yX7_byteAt : MethodName := ⟨RX7, "byteAt", "(I)I"⟩
abbrev cX7_skipBlanks : ByteArray := prog_9_method_6_code
def yX7_skipBlanks : MethodName := ⟨RX7, "skipBlanks", "()V"⟩
abbrev cX7_scanToken : ByteArray := prog_9_method_7_code
def yX7_scanToken : MethodName := ⟨RX7, "scanToken", "(I)I"⟩
abbrev cX7_scanNumber : ByteArray := prog_9_method_8_code
def yX7_scanNumber : MethodName := ⟨RX7, "scanNumber", "()I"⟩
abbrev cX7_scanWord : ByteArray := prog_9_method_9_code
def yX7_scanWord : MethodName := ⟨RX7, "scanWord", "()I"⟩
abbrev cX7_isSpelled : ByteArray := prog_9_method_10_code
def yX7_isSpelled : MethodName := ⟨RX7, "isSpelled", "(II)Z"⟩
abbrev cX7_signOf : ByteArray := prog_9_method_11_code
def yX7_signOf : MethodName := ⟨RX7, "signOf", "(I)I"⟩
abbrev cX7_isSame : ByteArray := prog_9_method_12_code
def yX7_isSame : MethodName := ⟨RX7, "isSame", "()Z"⟩
abbrev cX7_isDigit : ByteArray := prog_9_method_13_code
def yX7_isDigit : MethodName := ⟨RX7, "isDigit", "(I)Z"⟩
abbrev cX7_isLetter : ByteArray := prog_9_method_14_code
def yX7_isLetter : MethodName := ⟨RX7, "isLetter", "(I)Z"⟩
def RX8 : String := "OneStepMore$Text"
def TX8 : u_T := fun k => match k with
  | 0 => ("OneStepMore$Text", "code", "[I", true)
  | 1 => ("OneStepMore$Text", "lawStarts", "[I", true)
  | 2 => ("OneStepMore$Text", "lawEnds", "[I", true)
  | 3 => ("OneStepMore$Text", "deeds", "[I", true)
  | _ => ("OneStepMore$Text", "numbers", "[I", true)
def tyX8 : Nat → FieldType := fun k => match k with
  | 0 => .array .int
  | 1 => .array .int
  | 2 => .array .int
  | 3 => .array .int
  | _ => .array .int
theorem nmX8 : ∀ a, a < 5 → ∀ b, b < 5 → a ≠ b → (TX8 a).2.1 ≠ (TX8 b).2.1 := by decide +kernel
theorem tyX8_ok : ∀ k, k < 5 → parseFieldDescriptor (TX8 k).2.2.1 = some (tyX8 k) := by decide +kernel
abbrev cX8_init : ByteArray := prog_10_method_1_code
def yX8_init : MethodName := ⟨RX8, "<init>", "([I[I[I[I[I)V"⟩
abbrev cX8_numberOf : ByteArray := prog_10_method_2_code
def yX8_numberOf : MethodName := ⟨RX8, "numberOf", "(II)I"⟩
def RX9 : String := "OneStepMore$Walk"
def TX9 : u_T := fun k => match k with
  | 0 => ("OneStepMore$Walk", "s", "LOneStepMore$State;", true)
  | _ => ("OneStepMore$Walk", "rules", "LOneStepMore$Laws;", true)
def tyX9 : Nat → FieldType := fun k => match k with
  | 0 => .object "OneStepMore$State"
  | _ => .object "OneStepMore$Laws"
theorem nmX9 : ∀ a, a < 2 → ∀ b, b < 2 → a ≠ b → (TX9 a).2.1 ≠ (TX9 b).2.1 := by decide +kernel
theorem tyX9_ok : ∀ k, k < 2 → parseFieldDescriptor (TX9 k).2.2.1 = some (tyX9 k) := by decide +kernel
abbrev cX9_init : ByteArray := prog_11_method_1_code
def yX9_init : MethodName := ⟨RX9, "<init>", "(LOneStepMore$State;LOneStepMore$Laws;)V"⟩
abbrev cX9_beginAct : ByteArray := prog_11_method_2_code
def yX9_beginAct : MethodName := ⟨RX9, "beginAct", "(III)I"⟩
abbrev cX9_stepAct : ByteArray := prog_11_method_3_code
def yX9_stepAct : MethodName := ⟨RX9, "stepAct", "()I"⟩
abbrev cX9_toeAct : ByteArray := prog_11_method_4_code
def yX9_toeAct : MethodName := ⟨RX9, "toeAct", "()I"⟩
abbrev cX9_stopAct : ByteArray := prog_11_method_5_code
def yX9_stopAct : MethodName := ⟨RX9, "stopAct", "()I"⟩
abbrev cX9_nightAct : ByteArray := prog_11_method_6_code
def yX9_nightAct : MethodName := ⟨RX9, "nightAct", "()I"⟩
abbrev cX9_weekAct : ByteArray := prog_11_method_7_code
def yX9_weekAct : MethodName := ⟨RX9, "weekAct", "(II)I"⟩
abbrev cX9_playedBy : ByteArray := prog_11_method_8_code
def yX9_playedBy : MethodName := ⟨RX9, "playedBy", "(LOneStepMore$Text;)I"⟩
abbrev cX9_isDone : ByteArray := prog_11_method_9_code
def yX9_isDone : MethodName := ⟨RX9, "isDone", "(LOneStepMore$Text;I)Z"⟩
abbrev cX9_stir : ByteArray := prog_11_method_10_code
def yX9_stir : MethodName := ⟨RX9, "stir", "()V"⟩
abbrev cX9_draw : ByteArray := prog_11_method_11_code
def yX9_draw : MethodName := ⟨RX9, "draw", "()I"⟩
abbrev cX9_start : ByteArray := prog_11_method_12_code
def yX9_start : MethodName := ⟨RX9, "start", "(III)V"⟩
abbrev cX9_turnToWay : ByteArray := prog_11_method_13_code
def yX9_turnToWay : MethodName := ⟨RX9, "turnToWay", "()V"⟩
abbrev cX9_goOn : ByteArray := prog_11_method_14_code
def yX9_goOn : MethodName := ⟨RX9, "goOn", "(Z)I"⟩
abbrev cX9_down : ByteArray := prog_11_method_15_code
def yX9_down : MethodName := ⟨RX9, "down", "(I)V"⟩
def RX10 : String := "OneStepMore"
def TX10 : u_T := fun k => match k with
  | 0 => ("OneStepMore", "now", "LOneStepMore$State;", true)
  | 1 => ("OneStepMore", "kept", "LOneStepMore$State;", true)
  | 2 => ("OneStepMore", "tape", "LOneStepMore$Tape;", true)
  | 3 => ("OneStepMore", "reader", "LOneStepMore$Reader;", true)
  | 4 => ("OneStepMore", "walk", "LOneStepMore$Walk;", true)
  | 5 => ("OneStepMore", "mind", "LOneStepMore$Mind;", true)
  | 6 => ("OneStepMore", "tales", "LOneStepMore$Tales;", true)
  | _ => ("OneStepMore", "leveller", "LOneStepMore$Leveller;", true)
def tyX10 : Nat → FieldType := fun k => match k with
  | 0 => .object "OneStepMore$State"
  | 1 => .object "OneStepMore$State"
  | 2 => .object "OneStepMore$Tape"
  | 3 => .object "OneStepMore$Reader"
  | 4 => .object "OneStepMore$Walk"
  | 5 => .object "OneStepMore$Mind"
  | 6 => .object "OneStepMore$Tales"
  | _ => .object "OneStepMore$Leveller"
theorem nmX10 : ∀ a, a < 8 → ∀ b, b < 8 → a ≠ b → (TX10 a).2.1 ≠ (TX10 b).2.1 := by decide +kernel
theorem tyX10_ok : ∀ k, k < 8 → parseFieldDescriptor (TX10 k).2.2.1 = some (tyX10 k) := by decide +kernel
abbrev cX10_init : ByteArray := prog_1_method_1_code
def yX10_init : MethodName := ⟨RX10, "<init>", "()V"⟩
abbrev cX10_stair : ByteArray := prog_1_method_2_code
def yX10_stair : MethodName := ⟨RX10, "stair", "(II)Z"⟩
abbrev cX10_height : ByteArray := prog_1_method_3_code
def yX10_height : MethodName := ⟨RX10, "height", "(III)Z"⟩
abbrev cX10_mark : ByteArray := prog_1_method_4_code
def yX10_mark : MethodName := ⟨RX10, "mark", "(IIZ)Z"⟩
abbrev cX10_rail : ByteArray := prog_1_method_5_code
def yX10_rail : MethodName := ⟨RX10, "rail", "(II)Z"⟩
abbrev cX10_person : ByteArray := prog_1_method_6_code
def yX10_person : MethodName := ⟨RX10, "person", "(III)I"⟩
abbrev cX10_seed : ByteArray := prog_1_method_7_code
def yX10_seed : MethodName := ⟨RX10, "seed", "(I)Z"⟩
abbrev cX10_feed : ByteArray := prog_1_method_8_code
def yX10_feed : MethodName := ⟨RX10, "feed", "(IIIII)I"⟩
abbrev cX10_end : ByteArray := prog_1_method_9_code
def yX10_end : MethodName := ⟨RX10, "end", "(I)I"⟩
abbrev cX10_text : ByteArray := prog_1_method_10_code
def yX10_text : MethodName := ⟨RX10, "text", "()I"⟩
abbrev cX10_fault : ByteArray := prog_1_method_11_code
def yX10_fault : MethodName := ⟨RX10, "fault", "(I)I"⟩
abbrev cX10_by : ByteArray := prog_1_method_12_code
def yX10_by : MethodName := ⟨RX10, "by", "(I)Z"⟩
abbrev cX10_begin : ByteArray := prog_1_method_13_code
def yX10_begin : MethodName := ⟨RX10, "begin", "(III)I"⟩
abbrev cX10_step : ByteArray := prog_1_method_14_code
def yX10_step : MethodName := ⟨RX10, "step", "()I"⟩
abbrev cX10_toe : ByteArray := prog_1_method_15_code
def yX10_toe : MethodName := ⟨RX10, "toe", "()I"⟩
abbrev cX10_stop : ByteArray := prog_1_method_16_code
def yX10_stop : MethodName := ⟨RX10, "stop", "()I"⟩
abbrev cX10_night : ByteArray := prog_1_method_17_code
def yX10_night : MethodName := ⟨RX10, "night", "(I)I"⟩
abbrev cX10_played : ByteArray := prog_1_method_18_code
def yX10_played : MethodName := ⟨RX10, "played", "(I)I"⟩
abbrev cX10_week : ByteArray := prog_1_method_19_code
def yX10_week : MethodName := ⟨RX10, "week", "(II)I"⟩
abbrev cX10_undo : ByteArray := prog_1_method_20_code
def yX10_undo : MethodName := ⟨RX10, "undo", "()I"⟩
abbrev cX10_way : ByteArray := prog_1_method_21_code
def yX10_way : MethodName := ⟨RX10, "way", "(I)I"⟩
abbrev cX10_house : ByteArray := prog_1_method_22_code
def yX10_house : MethodName := ⟨RX10, "house", "(II)I"⟩
abbrev cX10_says : ByteArray := prog_1_method_23_code
def yX10_says : MethodName := ⟨RX10, "says", "(IIIII)I"⟩
abbrev cX10_book : ByteArray := prog_1_method_24_code
def yX10_book : MethodName := ⟨RX10, "book", "(II)I"⟩
abbrev cX10_where : ByteArray := prog_1_method_25_code
def yX10_where : MethodName := ⟨RX10, "where", "(IIIIIZ)J"⟩
abbrev cX10_cost : ByteArray := prog_1_method_26_code
def yX10_cost : MethodName := ⟨RX10, "cost", "(IIIIZ)J"⟩
abbrev cX10_from : ByteArray := prog_1_method_27_code
def yX10_from : MethodName := ⟨RX10, "from", "(III)I"⟩
abbrev cX10_worth : ByteArray := prog_1_method_28_code
def yX10_worth : MethodName := ⟨RX10, "worth", "(III)I"⟩
abbrev cX10_goes : ByteArray := prog_1_method_29_code
def yX10_goes : MethodName := ⟨RX10, "goes", "(II)I"⟩
abbrev cX10_lamp : ByteArray := prog_1_method_30_code
def yX10_lamp : MethodName := ⟨RX10, "lamp", "(IIII)I"⟩
abbrev cX10_which : ByteArray := prog_1_method_31_code
def yX10_which : MethodName := ⟨RX10, "which", "(IIIZ)J"⟩
abbrev cX10_whether : ByteArray := prog_1_method_32_code
def yX10_whether : MethodName := ⟨RX10, "whether", "(IIIZ)J"⟩
abbrev cX10_sure : ByteArray := prog_1_method_33_code
def yX10_sure : MethodName := ⟨RX10, "sure", "(IIIZ)J"⟩
abbrev cX10_average : ByteArray := prog_1_method_34_code
def yX10_average : MethodName := ⟨RX10, "average", "(IIZ)I"⟩
abbrev cX10_tally : ByteArray := prog_1_method_35_code
def yX10_tally : MethodName := ⟨RX10, "tally", "(II)I"⟩
abbrev cX10_legs : ByteArray := prog_1_method_36_code
def yX10_legs : MethodName := ⟨RX10, "legs", "(II)I"⟩
abbrev cX10_trippers : ByteArray := prog_1_method_37_code
def yX10_trippers : MethodName := ⟨RX10, "trippers", "(III)I"⟩
abbrev cX10_seen : ByteArray := prog_1_method_38_code
def yX10_seen : MethodName := ⟨RX10, "seen", "(IIIZ)I"⟩
abbrev cX10_laws : ByteArray := prog_1_method_39_code
def yX10_laws : MethodName := ⟨RX10, "laws", "()I"⟩
abbrev cX10_alike : ByteArray := prog_1_method_40_code
def yX10_alike : MethodName := ⟨RX10, "alike", "(IIZ)I"⟩
abbrev cX10_image : ByteArray := prog_1_method_41_code
def yX10_image : MethodName := ⟨RX10, "image", "()I"⟩
abbrev cX10_back : ByteArray := prog_1_method_42_code
def yX10_back : MethodName := ⟨RX10, "back", "()I"⟩
abbrev cX10_about : ByteArray := prog_1_method_43_code
def yX10_about : MethodName := ⟨RX10, "about", "(I)I"⟩
abbrev cX10_isSeed : ByteArray := prog_1_method_44_code
def yX10_isSeed : MethodName := ⟨RX10, "isSeed", "(I)Z"⟩
abbrev cX10_seeded : ByteArray := prog_1_method_45_code
def yX10_seeded : MethodName := ⟨RX10, "seeded", "(I)I"⟩
abbrev cX10_part : ByteArray := prog_1_method_46_code
def yX10_part : MethodName := ⟨RX10, "part", "(JJZ)J"⟩
abbrev cX10_copy : ByteArray := prog_1_method_47_code
def yX10_copy : MethodName := ⟨RX10, "copy", "([I[I)V"⟩
abbrev cX10_cell : ByteArray := prog_1_method_48_code
def yX10_cell : MethodName := ⟨RX10, "cell", "([II)I"⟩
abbrev cX10_put : ByteArray := prog_1_method_49_code
def yX10_put : MethodName := ⟨RX10, "put", "([III)V"⟩
abbrev cX10_between : ByteArray := prog_1_method_50_code
def yX10_between : MethodName := ⟨RX10, "between", "(III)I"⟩
def RX11 : String := "OneStepMoreModel"
def TX11 : u_T := fun k => match k with
  | 0 => ("OneStepMoreModel", "a", "[I", true)
  | 1 => ("OneStepMoreModel", "image", "[I", true)
  | 2 => ("OneStepMoreModel", "texts", "[I", true)
  | 3 => ("OneStepMoreModel", "tape", "[I", true)
  | 4 => ("OneStepMoreModel", "taped", "I", false)
  | 5 => ("OneStepMoreModel", "fault", "I", false)
  | 6 => ("OneStepMoreModel", "faultPlace", "I", false)
  | 7 => ("OneStepMoreModel", "at", "I", false)
  | 8 => ("OneStepMoreModel", "place", "I", false)
  | 9 => ("OneStepMoreModel", "token", "I", false)
  | 10 => ("OneStepMoreModel", "number", "I", false)
  | 11 => ("OneStepMoreModel", "word", "J", false)
  | 12 => ("OneStepMoreModel", "text0", "I", false)
  | 13 => ("OneStepMoreModel", "clauses", "I", false)
  | 14 => ("OneStepMoreModel", "written", "I", false)
  | 15 => ("OneStepMoreModel", "came", "I", false)
  | 16 => ("OneStepMoreModel", "pile", "[I", true)
  | 17 => ("OneStepMoreModel", "piled", "I", false)
  | 18 => ("OneStepMoreModel", "opens", "I", false)
  | 19 => ("OneStepMoreModel", "isWhole", "Z", false)
  | 20 => ("OneStepMoreModel", "sort0", "I", false)
  | 21 => ("OneStepMoreModel", "named", "[I", true)
  | 22 => ("OneStepMoreModel", "values", "[J", true)
  | 23 => ("OneStepMoreModel", "truth", "[Z", true)
  | 24 => ("OneStepMoreModel", "weights", "[J", true)
  | 25 => ("OneStepMoreModel", "costs", "J", false)
  | 26 => ("OneStepMoreModel", "harms", "J", false)
  | 27 => ("OneStepMoreModel", "extra", "I", false)
  | 28 => ("OneStepMoreModel", "leastCosts", "J", false)
  | 29 => ("OneStepMoreModel", "leastHarms", "J", false)
  | 30 => ("OneStepMoreModel", "learnt", "[J", true)
  | _ => ("OneStepMoreModel", "leastWork", "[I", true)
def tyX11 : Nat → FieldType := fun k => match k with
  | 0 => .array .int
  | 1 => .array .int
  | 2 => .array .int
  | 3 => .array .int
  | 4 => .int
  | 5 => .int
  | 6 => .int
  | 7 => .int
  | 8 => .int
  | 9 => .int
  | 10 => .int
  | 11 => .long
  | 12 => .int
  | 13 => .int
  | 14 => .int
  | 15 => .int
  | 16 => .array .int
  | 17 => .int
  | 18 => .int
  | 19 => .boolean
  | 20 => .int
  | 21 => .array .int
  | 22 => .array .long
  | 23 => .array .boolean
  | 24 => .array .long
  | 25 => .long
  | 26 => .long
  | 27 => .int
  | 28 => .long
  | 29 => .long
  | 30 => .array .long
  | _ => .array .int
theorem nmX11 : ∀ a, a < 32 → ∀ b, b < 32 → a ≠ b → (TX11 a).2.1 ≠ (TX11 b).2.1 := by decide +kernel
theorem tyX11_ok : ∀ k, k < 32 → parseFieldDescriptor (TX11 k).2.2.1 = some (tyX11 k) := by decide +kernel
abbrev cX11_init : ByteArray := prog_13_method_1_code
def yX11_init : MethodName := ⟨RX11, "<init>", "()V"⟩
abbrev cX11_copy : ByteArray := prog_13_method_2_code
def yX11_copy : MethodName := ⟨RX11, "copy", "([I[I)V"⟩
abbrev cX11_isIn : ByteArray := prog_13_method_3_code
def yX11_isIn : MethodName := ⟨RX11, "isIn", "(III)Z"⟩
abbrev cX11_has : ByteArray := prog_13_method_4_code
def yX11_has : MethodName := ⟨RX11, "has", "(II)Z"⟩
abbrev cX11_tenTo : ByteArray := prog_13_method_5_code
def yX11_tenTo : MethodName := ⟨RX11, "tenTo", "(I)J"⟩
abbrev cX11_common : ByteArray := prog_13_method_6_code
def yX11_common : MethodName := ⟨RX11, "common", "(JJ)J"⟩
abbrev cX11_part : ByteArray := prog_13_method_7_code
def yX11_part : MethodName := ⟨RX11, "part", "(JJZ)J"⟩
abbrev cX11_isHouse : ByteArray := prog_13_method_8_code
def yX11_isHouse : MethodName := ⟨RX11, "isHouse", "(I)Z"⟩
abbrev cX11_isPerson : ByteArray := prog_13_method_9_code
def yX11_isPerson : MethodName := ⟨RX11, "isPerson", "(I)Z"⟩
abbrev cX11_stepsOf : ByteArray := prog_13_method_10_code
def yX11_stepsOf : MethodName := ⟨RX11, "stepsOf", "(I)I"⟩
abbrev cX11_marksOf : ByteArray := prog_13_method_11_code
def yX11_marksOf : MethodName := ⟨RX11, "marksOf", "(I)I"⟩
abbrev cX11_railOf : ByteArray := prog_13_method_12_code
def yX11_railOf : MethodName := ⟨RX11, "railOf", "(I)I"⟩
abbrev cX11_heightOf : ByteArray := prog_13_method_13_code
def yX11_heightOf : MethodName := ⟨RX11, "heightOf", "(II)I"⟩
abbrev cX11_build : ByteArray := prog_13_method_14_code
def yX11_build : MethodName := ⟨RX11, "build", "(II)V"⟩
abbrev cX11_isStep : ByteArray := prog_13_method_15_code
def yX11_isStep : MethodName := ⟨RX11, "isStep", "(II)Z"⟩
abbrev cX11_told : ByteArray := prog_13_method_16_code
def yX11_told : MethodName := ⟨RX11, "told", "(I)Z"⟩
abbrev cX11_stair : ByteArray := prog_13_method_17_code
def yX11_stair : MethodName := ⟨RX11, "stair", "(II)Z"⟩
abbrev cX11_height : ByteArray := prog_13_method_18_code
def yX11_height : MethodName := ⟨RX11, "height", "(III)Z"⟩
abbrev cX11_mark : ByteArray := prog_13_method_19_code
def yX11_mark : MethodName := ⟨RX11, "mark", "(IIZ)Z"⟩
abbrev cX11_rail : ByteArray := prog_13_method_20_code
def yX11_rail : MethodName := ⟨RX11, "rail", "(II)Z"⟩
abbrev cX11_person : ByteArray := prog_13_method_21_code
def yX11_person : MethodName := ⟨RX11, "person", "(III)I"⟩
abbrev cX11_seed : ByteArray := prog_13_method_22_code
def yX11_seed : MethodName := ⟨RX11, "seed", "(I)Z"⟩
abbrev cX11_four : ByteArray := prog_13_method_23_code
def yX11_four : MethodName := ⟨RX11, "four", "(I)V"⟩
abbrev cX11_feed : ByteArray := prog_13_method_24_code
def yX11_feed : MethodName := ⟨RX11, "feed", "(IIIII)I"⟩
abbrev cX11_end : ByteArray := prog_13_method_25_code
def yX11_end : MethodName := ⟨RX11, "end", "(I)I"⟩
abbrev cX11_byteAt : ByteArray := prog_13_method_26_code
def yX11_byteAt : MethodName := ⟨RX11, "byteAt", "(I)I"⟩
abbrev cX11_isLetter : ByteArray := prog_13_method_27_code
def yX11_isLetter : MethodName := ⟨RX11, "isLetter", "(I)Z"⟩
abbrev cX11_isDigit : ByteArray := prog_13_method_28_code
def yX11_isDigit : MethodName := ⟨RX11, "isDigit", "(I)Z"⟩
abbrev cX11_nextToken : ByteArray := prog_13_method_29_code
def yX11_nextToken : MethodName := ⟨RX11, "nextToken", "()V"⟩
abbrev cX11_w3 : ByteArray := prog_13_method_30_code
def yX11_w3 : MethodName := ⟨RX11, "w3", "(III)J"⟩
abbrev cX11_w5 : ByteArray := prog_13_method_31_code
def yX11_w5 : MethodName := ⟨RX11, "w5", "(IIIII)J"⟩
abbrev cX11_w4 : ByteArray := prog_13_method_32_code
def yX11_w4 : MethodName := ⟨RX11, "w4", "(IIII)J"⟩
abbrev cX11_w6 : ByteArray := prog_13_method_33_code
def yX11_w6 : MethodName := ⟨RX11, "w6", "(IIIIII)J"⟩
abbrev cX11_isWord : ByteArray := prog_13_method_34_code
def yX11_isWord : MethodName := ⟨RX11, "isWord", "(J)Z"⟩
abbrev cX11_emit : ByteArray := prog_13_method_35_code
def yX11_emit : MethodName := ⟨RX11, "emit", "(II)V"⟩
abbrev cX11_push : ByteArray := prog_13_method_36_code
def yX11_push : MethodName := ⟨RX11, "push", "(I)V"⟩
abbrev cX11_nameOf : ByteArray := prog_13_method_37_code
def yX11_nameOf : MethodName := ⟨RX11, "nameOf", "()I"⟩
abbrev cX11_isOf : ByteArray := prog_13_method_38_code
def yX11_isOf : MethodName := ⟨RX11, "isOf", "(I)Z"⟩
abbrev cX11_rank : ByteArray := prog_13_method_39_code
def yX11_rank : MethodName := ⟨RX11, "rank", "(I)I"⟩
abbrev cX11_settle : ByteArray := prog_13_method_40_code
def yX11_settle : MethodName := ⟨RX11, "settle", "(I)V"⟩
abbrev cX11_whole : ByteArray := prog_13_method_41_code
def yX11_whole : MethodName := ⟨RX11, "whole", "()V"⟩
abbrev cX11_marker : ByteArray := prog_13_method_42_code
def yX11_marker : MethodName := ⟨RX11, "marker", "()I"⟩
abbrev cX11_kindOpen : ByteArray := prog_13_method_43_code
def yX11_kindOpen : MethodName := ⟨RX11, "kindOpen", "(Z)I"⟩
abbrev cX11_isCompared : ByteArray := prog_13_method_44_code
def yX11_isCompared : MethodName := ⟨RX11, "isCompared", "()Z"⟩
abbrev cX11_isAskAhead : ByteArray := prog_13_method_45_code
def yX11_isAskAhead : MethodName := ⟨RX11, "isAskAhead", "(Z)Z"⟩
abbrev cX11_opensBy : ByteArray := prog_13_method_46_code
def yX11_opensBy : MethodName := ⟨RX11, "opensBy", "(I)I"⟩
abbrev cX11_beginOne : ByteArray := prog_13_method_47_code
def yX11_beginOne : MethodName := ⟨RX11, "beginOne", "(Z)I"⟩
abbrev cX11_compareOf : ByteArray := prog_13_method_48_code
def yX11_compareOf : MethodName := ⟨RX11, "compareOf", "()I"⟩
abbrev cX11_betweenOf : ByteArray := prog_13_method_49_code
def yX11_betweenOf : MethodName := ⟨RX11, "betweenOf", "(Z)I"⟩
abbrev cX11_behindOne : ByteArray := prog_13_method_50_code
def yX11_behindOne : MethodName := ⟨RX11, "behindOne", "(Z)Z"⟩
abbrev cX11_parsed : ByteArray := prog_13_method_51_code
def yX11_parsed : MethodName := ⟨RX11, "parsed", "(Z)I"⟩
abbrev cX11_sortOf : ByteArray := prog_13_method_52_code
def yX11_sortOf : MethodName := ⟨RX11, "sortOf", "()I"⟩
abbrev cX11_figure : ByteArray := prog_13_method_53_code
def yX11_figure : MethodName := ⟨RX11, "figure", "(III)I"⟩
abbrev cX11_worded : ByteArray := prog_13_method_54_code
def yX11_worded : MethodName := ⟨RX11, "worded", "(JIII)I"⟩
abbrev cX11_ofHouse : ByteArray := prog_13_method_55_code
def yX11_ofHouse : MethodName := ⟨RX11, "ofHouse", "(I)I"⟩
abbrev cX11_lawClause : ByteArray := prog_13_method_56_code
def yX11_lawClause : MethodName := ⟨RX11, "lawClause", "(II)I"⟩
abbrev cX11_highClause : ByteArray := prog_13_method_57_code
def yX11_highClause : MethodName := ⟨RX11, "highClause", "(I)I"⟩
abbrev cX11_oneClause : ByteArray := prog_13_method_58_code
def yX11_oneClause : MethodName := ⟨RX11, "oneClause", "(I)I"⟩
abbrev cX11_pair : ByteArray := prog_13_method_59_code
def yX11_pair : MethodName := ⟨RX11, "pair", "(II)I"⟩
abbrev cX11_body : ByteArray := prog_13_method_60_code
def yX11_body : MethodName := ⟨RX11, "body", "(II)I"⟩
abbrev cX11_clause : ByteArray := prog_13_method_61_code
def yX11_clause : MethodName := ⟨RX11, "clause", "()I"⟩
abbrev cX11_readText : ByteArray := prog_13_method_62_code
def yX11_readText : MethodName := ⟨RX11, "readText", "()I"⟩
abbrev cX11_text : ByteArray := prog_13_method_63_code
def yX11_text : MethodName := ⟨RX11, "text", "()I"⟩
abbrev cX11_fault : ByteArray := prog_13_method_64_code
def yX11_fault : MethodName := ⟨RX11, "fault", "(I)I"⟩
abbrev cX11_by : ByteArray := prog_13_method_65_code
def yX11_by : MethodName := ⟨RX11, "by", "(I)Z"⟩
abbrev cX11_clip : ByteArray := prog_13_method_66_code
def yX11_clip : MethodName := ⟨RX11, "clip", "(J)J"⟩
abbrev cX11_two : ByteArray := prog_13_method_67_code
def yX11_two : MethodName := ⟨RX11, "two", "(IJJ)J"⟩
abbrev cX11_isAsked : ByteArray := prog_13_method_68_code
def yX11_isAsked : MethodName := ⟨RX11, "isAsked", "(IJJ)Z"⟩
abbrev cX11_work : ByteArray := prog_13_method_69_code
def yX11_work : MethodName := ⟨RX11, "work", "(II)V"⟩
abbrev cX11_clauseOf : ByteArray := prog_13_method_70_code
def yX11_clauseOf : MethodName := ⟨RX11, "clauseOf", "(II)I"⟩
abbrev cX11_name : ByteArray := prog_13_method_71_code
def yX11_name : MethodName := ⟨RX11, "name", "(III)V"⟩
abbrev cX11_nameStep : ByteArray := prog_13_method_72_code
def yX11_nameStep : MethodName := ⟨RX11, "nameStep", "(IIIII)V"⟩
abbrev cX11_sumBy : ByteArray := prog_13_method_73_code
def yX11_sumBy : MethodName := ⟨RX11, "sumBy", "(III)I"⟩
abbrev cX11_nameAt : ByteArray := prog_13_method_74_code
def yX11_nameAt : MethodName := ⟨RX11, "nameAt", "(IIII)V"⟩
abbrev cX11_noneAt : ByteArray := prog_13_method_75_code
def yX11_noneAt : MethodName := ⟨RX11, "noneAt", "(IIII)I"⟩
abbrev cX11_twiceAt : ByteArray := prog_13_method_76_code
def yX11_twiceAt : MethodName := ⟨RX11, "twiceAt", "(IIII)I"⟩
abbrev cX11_tripsBy : ByteArray := prog_13_method_77_code
def yX11_tripsBy : MethodName := ⟨RX11, "tripsBy", "(IIIIIII)Z"⟩
abbrev cX11_tripsAt : ByteArray := prog_13_method_78_code
def yX11_tripsAt : MethodName := ⟨RX11, "tripsAt", "(IIII)Z"⟩
abbrev cX11_jarOf : ByteArray := prog_13_method_79_code
def yX11_jarOf : MethodName := ⟨RX11, "jarOf", "(III)I"⟩
abbrev cX11_fallOf : ByteArray := prog_13_method_80_code
def yX11_fallOf : MethodName := ⟨RX11, "fallOf", "(III)I"⟩
abbrev cX11_isMind : ByteArray := prog_13_method_81_code
def yX11_isMind : MethodName := ⟨RX11, "isMind", "(III)Z"⟩
abbrev cX11_says : ByteArray := prog_13_method_82_code
def yX11_says : MethodName := ⟨RX11, "says", "(IIIII)I"⟩
abbrev cX11_keep : ByteArray := prog_13_method_83_code
def yX11_keep : MethodName := ⟨RX11, "keep", "()V"⟩
abbrev cX11_undo : ByteArray := prog_13_method_84_code
def yX11_undo : MethodName := ⟨RX11, "undo", "()I"⟩
abbrev cX11_anew : ByteArray := prog_13_method_85_code
def yX11_anew : MethodName := ⟨RX11, "anew", "()V"⟩
abbrev cX11_drawn : ByteArray := prog_13_method_86_code
def yX11_drawn : MethodName := ⟨RX11, "drawn", "()I"⟩
abbrev cX11_beginNow : ByteArray := prog_13_method_87_code
def yX11_beginNow : MethodName := ⟨RX11, "beginNow", "(III)V"⟩
abbrev cX11_down : ByteArray := prog_13_method_88_code
def yX11_down : MethodName := ⟨RX11, "down", "(I)V"⟩
abbrev cX11_counted : ByteArray := prog_13_method_89_code
def yX11_counted : MethodName := ⟨RX11, "counted", "()V"⟩
abbrev cX11_stepNow : ByteArray := prog_13_method_90_code
def yX11_stepNow : MethodName := ⟨RX11, "stepNow", "()V"⟩
abbrev cX11_toeNow : ByteArray := prog_13_method_91_code
def yX11_toeNow : MethodName := ⟨RX11, "toeNow", "()V"⟩
abbrev cX11_begin : ByteArray := prog_13_method_92_code
def yX11_begin : MethodName := ⟨RX11, "begin", "(III)I"⟩
abbrev cX11_step : ByteArray := prog_13_method_93_code
def yX11_step : MethodName := ⟨RX11, "step", "()I"⟩
abbrev cX11_toe : ByteArray := prog_13_method_94_code
def yX11_toe : MethodName := ⟨RX11, "toe", "()I"⟩
abbrev cX11_stop : ByteArray := prog_13_method_95_code
def yX11_stop : MethodName := ⟨RX11, "stop", "()I"⟩
abbrev cX11_nightNow : ByteArray := prog_13_method_96_code
def yX11_nightNow : MethodName := ⟨RX11, "nightNow", "()Z"⟩
abbrev cX11_night : ByteArray := prog_13_method_97_code
def yX11_night : MethodName := ⟨RX11, "night", "(I)I"⟩
abbrev cX11_areDone : ByteArray := prog_13_method_98_code
def yX11_areDone : MethodName := ⟨RX11, "areDone", "(II)Z"⟩
abbrev cX11_isPlayed : ByteArray := prog_13_method_99_code
def yX11_isPlayed : MethodName := ⟨RX11, "isPlayed", "(I)Z"⟩
abbrev cX11_played : ByteArray := prog_13_method_100_code
def yX11_played : MethodName := ⟨RX11, "played", "(I)I"⟩
abbrev cX11_week : ByteArray := prog_13_method_101_code
def yX11_week : MethodName := ⟨RX11, "week", "(II)I"⟩
abbrev cX11_way : ByteArray := prog_13_method_102_code
def yX11_way : MethodName := ⟨RX11, "way", "(I)I"⟩
abbrev cX11_house : ByteArray := prog_13_method_103_code
def yX11_house : MethodName := ⟨RX11, "house", "(II)I"⟩
abbrev cX11_shown : ByteArray := prog_13_method_104_code
def yX11_shown : MethodName := ⟨RX11, "shown", "()I"⟩
abbrev cX11_bookAt : ByteArray := prog_13_method_105_code
def yX11_bookAt : MethodName := ⟨RX11, "bookAt", "(II)I"⟩
abbrev cX11_book : ByteArray := prog_13_method_106_code
def yX11_book : MethodName := ⟨RX11, "book", "(II)I"⟩
abbrev cX11_cell : ByteArray := prog_13_method_107_code
def yX11_cell : MethodName := ⟨RX11, "cell", "(II)I"⟩
abbrev cX11_start : ByteArray := prog_13_method_108_code
def yX11_start : MethodName := ⟨RX11, "start", "(IZZ)V"⟩
abbrev cX11_goOn : ByteArray := prog_13_method_109_code
def yX11_goOn : MethodName := ⟨RX11, "goOn", "(IIIIII)V"⟩
abbrev cX11_goAll : ByteArray := prog_13_method_110_code
def yX11_goAll : MethodName := ⟨RX11, "goAll", "(III)V"⟩
abbrev cX11_reckon : ByteArray := prog_13_method_111_code
def yX11_reckon : MethodName := ⟨RX11, "reckon", "(IIIII)V"⟩
abbrev cX11_where : ByteArray := prog_13_method_112_code
def yX11_where : MethodName := ⟨RX11, "where", "(IIIIIZ)J"⟩
abbrev cX11_cost : ByteArray := prog_13_method_113_code
def yX11_cost : MethodName := ⟨RX11, "cost", "(IIIIZ)J"⟩
abbrev cX11_best : ByteArray := prog_13_method_114_code
def yX11_best : MethodName := ⟨RX11, "best", "(IIII)I"⟩
abbrev cX11_from : ByteArray := prog_13_method_115_code
def yX11_from : MethodName := ⟨RX11, "from", "(III)I"⟩
abbrev cX11_worth : ByteArray := prog_13_method_116_code
def yX11_worth : MethodName := ⟨RX11, "worth", "(III)I"⟩
abbrev cX11_goes : ByteArray := prog_13_method_117_code
def yX11_goes : MethodName := ⟨RX11, "goes", "(II)I"⟩
abbrev cX11_isNoLess : ByteArray := prog_13_method_118_code
def yX11_isNoLess : MethodName := ⟨RX11, "isNoLess", "(JJJJ)Z"⟩
abbrev cX11_lamp : ByteArray := prog_13_method_119_code
def yX11_lamp : MethodName := ⟨RX11, "lamp", "(IIII)I"⟩
abbrev cX11_jarred : ByteArray := prog_13_method_120_code
def yX11_jarred : MethodName := ⟨RX11, "jarred", "(IIIZ)J"⟩
abbrev cX11_which : ByteArray := prog_13_method_121_code
def yX11_which : MethodName := ⟨RX11, "which", "(IIIZ)J"⟩
abbrev cX11_whether : ByteArray := prog_13_method_122_code
def yX11_whether : MethodName := ⟨RX11, "whether", "(IIIZ)J"⟩
abbrev cX11_sure : ByteArray := prog_13_method_123_code
def yX11_sure : MethodName := ⟨RX11, "sure", "(IIIZ)J"⟩
abbrev cX11_average : ByteArray := prog_13_method_124_code
def yX11_average : MethodName := ⟨RX11, "average", "(IIZ)I"⟩
abbrev cX11_tally : ByteArray := prog_13_method_125_code
def yX11_tally : MethodName := ⟨RX11, "tally", "(II)I"⟩
abbrev cX11_legsOf : ByteArray := prog_13_method_126_code
def yX11_legsOf : MethodName := ⟨RX11, "legsOf", "(I)I"⟩
abbrev cX11_legs : ByteArray := prog_13_method_127_code
def yX11_legs : MethodName := ⟨RX11, "legs", "(II)I"⟩
abbrev cX11_trippers : ByteArray := prog_13_method_128_code
def yX11_trippers : MethodName := ⟨RX11, "trippers", "(III)I"⟩
abbrev cX11_seen : ByteArray := prog_13_method_129_code
def yX11_seen : MethodName := ⟨RX11, "seen", "(IIIZ)I"⟩
abbrev cX11_isSeenBy : ByteArray := prog_13_method_130_code
def yX11_isSeenBy : MethodName := ⟨RX11, "isSeenBy", "(I)Z"⟩
abbrev cX11_laws : ByteArray := prog_13_method_131_code
def yX11_laws : MethodName := ⟨RX11, "laws", "()I"⟩
abbrev cX11_isSmooth : ByteArray := prog_13_method_132_code
def yX11_isSmooth : MethodName := ⟨RX11, "isSmooth", "(IIII)Z"⟩
abbrev cX11_workOf : ByteArray := prog_13_method_133_code
def yX11_workOf : MethodName := ⟨RX11, "workOf", "(IIIZ)I"⟩
abbrev cX11_workBy : ByteArray := prog_13_method_134_code
def yX11_workBy : MethodName := ⟨RX11, "workBy", "(IIIIZ)I"⟩
abbrev cX11_findWork : ByteArray := prog_13_method_135_code
def yX11_findWork : MethodName := ⟨RX11, "findWork", "(IZ)V"⟩
abbrev cX11_alike : ByteArray := prog_13_method_136_code
def yX11_alike : MethodName := ⟨RX11, "alike", "(IIZ)I"⟩
abbrev cX11_image : ByteArray := prog_13_method_137_code
def yX11_image : MethodName := ⟨RX11, "image", "()I"⟩
abbrev cX11_back : ByteArray := prog_13_method_138_code
def yX11_back : MethodName := ⟨RX11, "back", "()I"⟩
abbrev cX11_about : ByteArray := prog_13_method_139_code
def yX11_about : MethodName := ⟨RX11, "about", "(I)I"⟩
def RJx145de : String := "java/io/Serializable"
def TJx145de : u_T := fun k => match k with
  | _ => ("", "", "", false)
def tyJx145de : Nat → FieldType := fun k => match k with
  | _ => .int
abbrev wsJx145de0 : List Cond := u_ws RJx145de TJx145de 0
theorem nmJx145de : ∀ a, a < 0 → ∀ b, b < 0 → a ≠ b → (TJx145de a).2.1 ≠ (TJx145de b).2.1 := by decide +kernel
theorem tyJx145de_ok : ∀ k, k < 0 → parseFieldDescriptor (TJx145de k).2.2.1 = some (tyJx145de k) := by decide +kernel
def RJx9f9b0 : String := "java/lang/CharSequence"
def TJx9f9b0 : u_T := fun k => match k with
  | _ => ("", "", "", false)
def tyJx9f9b0 : Nat → FieldType := fun k => match k with
  | _ => .int
abbrev wsJx9f9b00 : List Cond := u_ws RJx9f9b0 TJx9f9b0 0
theorem nmJx9f9b0 : ∀ a, a < 0 → ∀ b, b < 0 → a ≠ b → (TJx9f9b0 a).2.1 ≠ (TJx9f9b0 b).2.1 := by decide +kernel
theorem tyJx9f9b0_ok : ∀ k, k < 0 → parseFieldDescriptor (TJx9f9b0 k).2.2.1 = some (tyJx9f9b0 k) := by decide +kernel
def RJx8e188 : String := "java/lang/Cloneable"
def TJx8e188 : u_T := fun k => match k with
  | _ => ("", "", "", false)
def tyJx8e188 : Nat → FieldType := fun k => match k with
  | _ => .int
abbrev wsJx8e1880 : List Cond := u_ws RJx8e188 TJx8e188 0
theorem nmJx8e188 : ∀ a, a < 0 → ∀ b, b < 0 → a ≠ b → (TJx8e188 a).2.1 ≠ (TJx8e188 b).2.1 := by decide +kernel
theorem tyJx8e188_ok : ∀ k, k < 0 → parseFieldDescriptor (TJx8e188 k).2.2.1 = some (tyJx8e188 k) := by decide +kernel
def RJxb160c : String := "java/lang/Comparable"
def TJxb160c : u_T := fun k => match k with
  | _ => ("", "", "", false)
def tyJxb160c : Nat → FieldType := fun k => match k with
  | _ => .int
abbrev wsJxb160c0 : List Cond := u_ws RJxb160c TJxb160c 0
theorem nmJxb160c : ∀ a, a < 0 → ∀ b, b < 0 → a ≠ b → (TJxb160c a).2.1 ≠ (TJxb160c b).2.1 := by decide +kernel
theorem tyJxb160c_ok : ∀ k, k < 0 → parseFieldDescriptor (TJxb160c k).2.2.1 = some (tyJxb160c k) := by decide +kernel
def RJ9 : String := "java/lang/Math"
def TJ9 : u_T := fun k => match k with
  | _ => ("", "", "", false)
def tyJ9 : Nat → FieldType := fun k => match k with
  | _ => .int
theorem nmJ9 : ∀ a, a < 0 → ∀ b, b < 0 → a ≠ b → (TJ9 a).2.1 ≠ (TJ9 b).2.1 := by decide +kernel
theorem tyJ9_ok : ∀ k, k < 0 → parseFieldDescriptor (TJ9 k).2.2.1 = some (tyJ9 k) := by decide +kernel
abbrev cJ9_abs_0f7a4 : ByteArray := prog_15_method_59_code
def yJ9_abs_0f7a4 : MethodName := ⟨RJ9, "abs", "(I)I"⟩
abbrev cJ9_max_7cf53 : ByteArray := prog_15_method_65_code
def yJ9_max_7cf53 : MethodName := ⟨RJ9, "max", "(II)I"⟩
abbrev cJ9_min_7cf53 : ByteArray := prog_15_method_69_code
def yJ9_min_7cf53 : MethodName := ⟨RJ9, "min", "(II)I"⟩
def RJ0 : String := "java/lang/String"
def TJ0 : u_T := fun k => match k with
  | _ => ("", "", "", false)
def tyJ0 : Nat → FieldType := fun k => match k with
  | _ => .int
theorem nmJ0 : ∀ a, a < 0 → ∀ b, b < 0 → a ≠ b → (TJ0 a).2.1 ≠ (TJ0 b).2.1 := by decide +kernel
theorem tyJ0_ok : ∀ k, k < 0 → parseFieldDescriptor (TJ0 k).2.2.1 = some (tyJ0 k) := by decide +kernel
abbrev cJ0_length_8abf5 : ByteArray := prog_16_method_54_code
def yJ0_length_8abf5 : MethodName := ⟨RJ0, "length", "()I"⟩
abbrev cJ0_charAt_5068e : ByteArray := prog_16_method_56_code
def yJ0_charAt_5068e : MethodName := ⟨RJ0, "charAt", "(I)C"⟩
abbrev cJ0_coder_7d493 : ByteArray := prog_16_method_152_code
def yJ0_coder_7d493 : MethodName := ⟨RJ0, "coder", "()B"⟩
abbrev cJ0_isLatin1_aae02 : ByteArray := prog_16_method_154_code
def yJ0_isLatin1_aae02 : MethodName := ⟨RJ0, "isLatin1", "()Z"⟩
abbrev cJ0_checkIndex_df160 : ByteArray := prog_16_method_155_code
def yJ0_checkIndex_df160 : MethodName := ⟨RJ0, "checkIndex", "(II)V"⟩
def RJ1 : String := "java/lang/StringLatin1"
def TJ1 : u_T := fun k => match k with
  | _ => ("", "", "", false)
def tyJ1 : Nat → FieldType := fun k => match k with
  | _ => .int
theorem nmJ1 : ∀ a, a < 0 → ∀ b, b < 0 → a ≠ b → (TJ1 a).2.1 ≠ (TJ1 b).2.1 := by decide +kernel
theorem tyJ1_ok : ∀ k, k < 0 → parseFieldDescriptor (TJ1 k).2.2.1 = some (tyJ1 k) := by decide +kernel
abbrev cJ1_charAt_3b067 : ByteArray := prog_17_method_2_code
def yJ1_charAt_3b067 : MethodName := ⟨RJ1, "charAt", "([BI)C"⟩
def RJ2 : String := "java/lang/StringUTF16"
def TJ2 : u_T := fun k => match k with
  | _ => ("", "", "", false)
def tyJ2 : Nat → FieldType := fun k => match k with
  | _ => .int
theorem nmJ2 : ∀ a, a < 0 → ∀ b, b < 0 → a ≠ b → (TJ2 a).2.1 ≠ (TJ2 b).2.1 := by decide +kernel
theorem tyJ2_ok : ∀ k, k < 0 → parseFieldDescriptor (TJ2 k).2.2.1 = some (tyJ2 k) := by decide +kernel
abbrev cJ2_getChar_3b067 : ByteArray := prog_18_method_5_code
def yJ2_getChar_3b067 : MethodName := ⟨RJ2, "getChar", "([BI)C"⟩
abbrev cJ2_length_9d52b : ByteArray := prog_18_method_6_code
def yJ2_length_9d52b : MethodName := ⟨RJ2, "length", "([B)I"⟩
abbrev cJ2_charAt_3b067 : ByteArray := prog_18_method_83_code
def yJ2_charAt_3b067 : MethodName := ⟨RJ2, "charAt", "([BI)C"⟩
abbrev cJ2_checkIndex_2214a : ByteArray := prog_18_method_91_code
def yJ2_checkIndex_2214a : MethodName := ⟨RJ2, "checkIndex", "(I[B)V"⟩
def RJ10 : String := "java/lang/System"
def TJ10 : u_T := fun k => match k with
  | _ => ("", "", "", false)
def tyJ10 : Nat → FieldType := fun k => match k with
  | _ => .int
theorem nmJ10 : ∀ a, a < 0 → ∀ b, b < 0 → a ≠ b → (TJ10 a).2.1 ≠ (TJ10 b).2.1 := by decide +kernel
theorem tyJ10_ok : ∀ k, k < 0 → parseFieldDescriptor (TJ10 k).2.2.1 = some (tyJ10 k) := by decide +kernel
def RJxfd54e : String := "java/lang/constant/Constable"
def TJxfd54e : u_T := fun k => match k with
  | _ => ("", "", "", false)
def tyJxfd54e : Nat → FieldType := fun k => match k with
  | _ => .int
abbrev wsJxfd54e0 : List Cond := u_ws RJxfd54e TJxfd54e 0
theorem nmJxfd54e : ∀ a, a < 0 → ∀ b, b < 0 → a ≠ b → (TJxfd54e a).2.1 ≠ (TJxfd54e b).2.1 := by decide +kernel
theorem tyJxfd54e_ok : ∀ k, k < 0 → parseFieldDescriptor (TJxfd54e k).2.2.1 = some (tyJxfd54e k) := by decide +kernel
def RJx3cf43 : String := "java/lang/constant/ConstantDesc"
def TJx3cf43 : u_T := fun k => match k with
  | _ => ("", "", "", false)
def tyJx3cf43 : Nat → FieldType := fun k => match k with
  | _ => .int
abbrev wsJx3cf430 : List Cond := u_ws RJx3cf43 TJx3cf43 0
theorem nmJx3cf43 : ∀ a, a < 0 → ∀ b, b < 0 → a ≠ b → (TJx3cf43 a).2.1 ≠ (TJx3cf43 b).2.1 := by decide +kernel
theorem tyJx3cf43_ok : ∀ k, k < 0 → parseFieldDescriptor (TJx3cf43 k).2.2.1 = some (tyJx3cf43 k) := by decide +kernel
def RJ7 : String := "java/util/Arrays"
def TJ7 : u_T := fun k => match k with
  | _ => ("", "", "", false)
def tyJ7 : Nat → FieldType := fun k => match k with
  | _ => .int
theorem nmJ7 : ∀ a, a < 0 → ∀ b, b < 0 → a ≠ b → (TJ7 a).2.1 ≠ (TJ7 b).2.1 := by decide +kernel
theorem tyJ7_ok : ∀ k, k < 0 → parseFieldDescriptor (TJ7 k).2.2.1 = some (tyJ7 k) := by decide +kernel
abbrev cJ7_fill_d0a16 : ByteArray := prog_20_method_101_code
def yJ7_fill_d0a16 : MethodName := ⟨RJ7, "fill", "([JJ)V"⟩
abbrev cJ7_fill_53178 : ByteArray := prog_20_method_103_code
def yJ7_fill_53178 : MethodName := ⟨RJ7, "fill", "([II)V"⟩
abbrev cJ7_copyOf_59c91 : ByteArray := prog_20_method_123_code
def yJ7_copyOf_59c91 : MethodName := ⟨RJ7, "copyOf", "([II)[I"⟩
def RJ3 : String := "jdk/internal/util/Preconditions"
def TJ3 : u_T := fun k => match k with
  | _ => ("", "", "", false)
def tyJ3 : Nat → FieldType := fun k => match k with
  | _ => .int
theorem nmJ3 : ∀ a, a < 0 → ∀ b, b < 0 → a ≠ b → (TJ3 a).2.1 ≠ (TJ3 b).2.1 := by decide +kernel
theorem tyJ3_ok : ∀ k, k < 0 → parseFieldDescriptor (TJ3 k).2.2.1 = some (tyJ3 k) := by decide +kernel
abbrev cJ3_checkIndex_8e157 : ByteArray := prog_21_method_11_code
def yJ3_checkIndex_8e157 : MethodName := ⟨RJ3, "checkIndex", "(IILjava/util/function/BiFunction;)I"⟩
def RL : String := "OneStepMoreLaw"
abbrev cL_law : ByteArray := code
def yL_law : MethodName := ⟨RL, "law", "([I)Z"⟩
abbrev vwCl : List vw_C := [(RX0, TX0, 5), (RX1, TX1, 5), (RX2, TX2, 5), (RX3, TX3, 13), (RX4, TX4, 14), (RX5, TX5, 18), (RX6, TX6, 3), (RX7, TX7, 6), (RX8, TX8, 5), (RX9, TX9, 2), (RX10, TX10, 8), (RX11, TX11, 32)]
