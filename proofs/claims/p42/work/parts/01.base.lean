section
-- ===== PART A: goes FIRST, ahead of the names: the tables' words, and 'selects' of the private methods out of them =====
/-- a private method of a class that the tables say can be made, by its rows of tables_1 -/
def lw_okq (q : MethodName × Nat) : Prop := (q.1.cls ≠ "java/lang/invoke/MethodHandle" ∧ q.1.cls ≠ "java/lang/invoke/VarHandle") ∧ Cond.instantiable q.1.cls q.2 ∈ tables_1 ∧ Cond.privateMethod q.1 ∈ tables_1 ∧ Cond.instanceMethod q.1 ∈ tables_1
theorem tm_1 {c : Cond} (h : c ∈ tables_1_1) : c ∈ tables_1 := List.mem_append_left _ h
theorem tm_2 {c : Cond} (h : c ∈ tables_1_2) : c ∈ tables_1 := List.mem_append_right _ (List.mem_append_left _ h)
theorem tm_3 {c : Cond} (h : c ∈ tables_1_3) : c ∈ tables_1 := List.mem_append_right _ (List.mem_append_right _ (List.mem_append_left _ h))
theorem tm_4 {c : Cond} (h : c ∈ tables_1_4) : c ∈ tables_1 := List.mem_append_right _ (List.mem_append_right _ (List.mem_append_right _ (List.mem_append_left _ h)))
theorem tm_5 {c : Cond} (h : c ∈ tables_1_5) : c ∈ tables_1 := List.mem_append_right _ (List.mem_append_right _ (List.mem_append_right _ (List.mem_append_right _ (List.mem_append_left _ h))))
theorem tm_6 {c : Cond} (h : c ∈ tables_1_6) : c ∈ tables_1 := List.mem_append_right _ (List.mem_append_right _ (List.mem_append_right _ (List.mem_append_right _ (List.mem_append_right _ (List.mem_append_left _ h)))))
theorem tm_7 {c : Cond} (h : c ∈ tables_1_7) : c ∈ tables_1 := List.mem_append_right _ (List.mem_append_right _ (List.mem_append_right _ (List.mem_append_right _ (List.mem_append_right _ (List.mem_append_right _ (List.mem_append_left _ h))))))
theorem tm_8 {c : Cond} (h : c ∈ tables_1_8) : c ∈ tables_1 := List.mem_append_right _ (List.mem_append_right _ (List.mem_append_right _ (List.mem_append_right _ (List.mem_append_right _ (List.mem_append_right _ (List.mem_append_right _ (List.mem_append_left _ h)))))))
theorem tm_9 {c : Cond} (h : c ∈ tables_1_9) : c ∈ tables_1 := List.mem_append_right _ (List.mem_append_right _ (List.mem_append_right _ (List.mem_append_right _ (List.mem_append_right _ (List.mem_append_right _ (List.mem_append_right _ (List.mem_append_right _ h)))))))
theorem lw_p0 : lw_okq (⟨"RodRings$Rod", "goTogether", "(IZ)Z"⟩, 18) := ⟨⟨by decide +kernel, by decide +kernel⟩, tm_1 (List.mem_of_getElem? (i := 70) (by decide +kernel)), tm_2 (List.mem_of_getElem? (i := 225) (by decide +kernel)), tm_2 (List.mem_of_getElem? (i := 226) (by decide +kernel))⟩
theorem lw_p1 : lw_okq (⟨"RodRings$Rod", "isStopped", "(IZ)Z"⟩, 18) := ⟨⟨by decide +kernel, by decide +kernel⟩, tm_1 (List.mem_of_getElem? (i := 70) (by decide +kernel)), tm_2 (List.mem_of_getElem? (i := 229) (by decide +kernel)), tm_2 (List.mem_of_getElem? (i := 230) (by decide +kernel))⟩
theorem lw_p2 : lw_okq (⟨"RodRings$Pulls", "stepsToShade", "(LRodRings$Rod;II)I"⟩, 7) := ⟨⟨by decide +kernel, by decide +kernel⟩, tm_2 (List.mem_of_getElem? (i := 70) (by decide +kernel)), tm_3 (List.mem_of_getElem? (i := 5) (by decide +kernel)), tm_3 (List.mem_of_getElem? (i := 6) (by decide +kernel))⟩
theorem lw_p3 : lw_okq (⟨"RodRings$Clock", "fadeAll", "(LRodRings$Rod;)V"⟩, 2) := ⟨⟨by decide +kernel, by decide +kernel⟩, tm_2 (List.mem_of_getElem? (i := 57) (by decide +kernel)), tm_3 (List.mem_of_getElem? (i := 75) (by decide +kernel)), tm_3 (List.mem_of_getElem? (i := 76) (by decide +kernel))⟩
theorem lw_p4 : lw_okq (⟨"RodRings$Law", "holds", "(ILRodRings$Rod;I)Z"⟩, 9) := ⟨⟨by decide +kernel, by decide +kernel⟩, tm_1 (List.mem_of_getElem? (i := 207) (by decide +kernel)), tm_3 (List.mem_of_getElem? (i := 87) (by decide +kernel)), tm_3 (List.mem_of_getElem? (i := 88) (by decide +kernel))⟩
theorem lw_p5 : lw_okq (⟨"RodRings$Law", "push", "(I)V"⟩, 9) := ⟨⟨by decide +kernel, by decide +kernel⟩, tm_1 (List.mem_of_getElem? (i := 207) (by decide +kernel)), tm_3 (List.mem_of_getElem? (i := 99) (by decide +kernel)), tm_3 (List.mem_of_getElem? (i := 100) (by decide +kernel))⟩
theorem lw_p6 : lw_okq (⟨"RodRings$Law", "pop", "()I"⟩, 9) := ⟨⟨by decide +kernel, by decide +kernel⟩, tm_1 (List.mem_of_getElem? (i := 207) (by decide +kernel)), tm_3 (List.mem_of_getElem? (i := 103) (by decide +kernel)), tm_3 (List.mem_of_getElem? (i := 104) (by decide +kernel))⟩
theorem lw_p7 : lw_okq (⟨"RodRings$Tape", "scanThing", "(I)I"⟩, 7) := ⟨⟨by decide +kernel, by decide +kernel⟩, tm_1 (List.mem_of_getElem? (i := 38) (by decide +kernel)), tm_3 (List.mem_of_getElem? (i := 219) (by decide +kernel)), tm_3 (List.mem_of_getElem? (i := 220) (by decide +kernel))⟩
theorem lw_p8 : lw_okq (⟨"RodRings$Tape", "endOfRow", "(III)I"⟩, 7) := ⟨⟨by decide +kernel, by decide +kernel⟩, tm_1 (List.mem_of_getElem? (i := 38) (by decide +kernel)), tm_3 (List.mem_of_getElem? (i := 223) (by decide +kernel)), tm_3 (List.mem_of_getElem? (i := 224) (by decide +kernel))⟩
theorem lw_p9 : lw_okq (⟨"RodRings$Tape", "wordBetween", "(II)I"⟩, 7) := ⟨⟨by decide +kernel, by decide +kernel⟩, tm_1 (List.mem_of_getElem? (i := 38) (by decide +kernel)), tm_3 (List.mem_of_getElem? (i := 227) (by decide +kernel)), tm_3 (List.mem_of_getElem? (i := 228) (by decide +kernel))⟩
theorem lw_p10 : lw_okq (⟨"RodRings$Tape", "standsAt", "(III)Z"⟩, 7) := ⟨⟨by decide +kernel, by decide +kernel⟩, tm_1 (List.mem_of_getElem? (i := 38) (by decide +kernel)), tm_4 (List.mem_of_getElem? (i := 40) (by decide +kernel)), tm_4 (List.mem_of_getElem? (i := 41) (by decide +kernel))⟩
theorem lw_p11 : lw_okq (⟨"RodRings$Tape", "numberBetween", "(II)I"⟩, 7) := ⟨⟨by decide +kernel, by decide +kernel⟩, tm_1 (List.mem_of_getElem? (i := 38) (by decide +kernel)), tm_4 (List.mem_of_getElem? (i := 44) (by decide +kernel)), tm_4 (List.mem_of_getElem? (i := 45) (by decide +kernel))⟩
theorem lw_p12 : lw_okq (⟨"RodRings$LawReader", "readCondition", "(I)Z"⟩, 3) := ⟨⟨by decide +kernel, by decide +kernel⟩, tm_2 (List.mem_of_getElem? (i := 45) (by decide +kernel)), tm_4 (List.mem_of_getElem? (i := 75) (by decide +kernel)), tm_4 (List.mem_of_getElem? (i := 76) (by decide +kernel))⟩
theorem lw_p13 : lw_okq (⟨"RodRings$LawReader", "readAtom", "(I)Z"⟩, 3) := ⟨⟨by decide +kernel, by decide +kernel⟩, tm_2 (List.mem_of_getElem? (i := 45) (by decide +kernel)), tm_4 (List.mem_of_getElem? (i := 79) (by decide +kernel)), tm_4 (List.mem_of_getElem? (i := 80) (by decide +kernel))⟩
theorem lw_p14 : lw_okq (⟨"RodRings$LawReader", "readComparison", "()Z"⟩, 3) := ⟨⟨by decide +kernel, by decide +kernel⟩, tm_2 (List.mem_of_getElem? (i := 45) (by decide +kernel)), tm_4 (List.mem_of_getElem? (i := 87) (by decide +kernel)), tm_4 (List.mem_of_getElem? (i := 88) (by decide +kernel))⟩
theorem lw_p15 : lw_okq (⟨"RodRings$LawReader", "readSum", "()Z"⟩, 3) := ⟨⟨by decide +kernel, by decide +kernel⟩, tm_2 (List.mem_of_getElem? (i := 45) (by decide +kernel)), tm_4 (List.mem_of_getElem? (i := 91) (by decide +kernel)), tm_4 (List.mem_of_getElem? (i := 92) (by decide +kernel))⟩
def lw_privs_1 : List (MethodName × Nat) := [(⟨"RodRings$Rod", "goTogether", "(IZ)Z"⟩, 18), (⟨"RodRings$Rod", "isStopped", "(IZ)Z"⟩, 18), (⟨"RodRings$Pulls", "stepsToShade", "(LRodRings$Rod;II)I"⟩, 7), (⟨"RodRings$Clock", "fadeAll", "(LRodRings$Rod;)V"⟩, 2), (⟨"RodRings$Law", "holds", "(ILRodRings$Rod;I)Z"⟩, 9), (⟨"RodRings$Law", "push", "(I)V"⟩, 9), (⟨"RodRings$Law", "pop", "()I"⟩, 9), (⟨"RodRings$Tape", "scanThing", "(I)I"⟩, 7), (⟨"RodRings$Tape", "endOfRow", "(III)I"⟩, 7), (⟨"RodRings$Tape", "wordBetween", "(II)I"⟩, 7), (⟨"RodRings$Tape", "standsAt", "(III)Z"⟩, 7), (⟨"RodRings$Tape", "numberBetween", "(II)I"⟩, 7), (⟨"RodRings$LawReader", "readCondition", "(I)Z"⟩, 3), (⟨"RodRings$LawReader", "readAtom", "(I)Z"⟩, 3), (⟨"RodRings$LawReader", "readComparison", "()Z"⟩, 3), (⟨"RodRings$LawReader", "readSum", "()Z"⟩, 3)]
theorem lw_r1 : ∀ q ∈ lw_privs_1, lw_okq q := List.forall_mem_cons.mpr ⟨lw_p0, List.forall_mem_cons.mpr ⟨lw_p1, List.forall_mem_cons.mpr ⟨lw_p2, List.forall_mem_cons.mpr ⟨lw_p3, List.forall_mem_cons.mpr ⟨lw_p4, List.forall_mem_cons.mpr ⟨lw_p5, List.forall_mem_cons.mpr ⟨lw_p6, List.forall_mem_cons.mpr ⟨lw_p7, List.forall_mem_cons.mpr ⟨lw_p8, List.forall_mem_cons.mpr ⟨lw_p9, List.forall_mem_cons.mpr ⟨lw_p10, List.forall_mem_cons.mpr ⟨lw_p11, List.forall_mem_cons.mpr ⟨lw_p12, List.forall_mem_cons.mpr ⟨lw_p13, List.forall_mem_cons.mpr ⟨lw_p14, List.forall_mem_cons.mpr ⟨lw_p15, fun _ h => absurd h List.not_mem_nil⟩⟩⟩⟩⟩⟩⟩⟩⟩⟩⟩⟩⟩⟩⟩⟩
theorem lw_p16 : lw_okq (⟨"RodRings$RodReader", "readRing", "()Z"⟩, 3) := ⟨⟨by decide +kernel, by decide +kernel⟩, tm_2 (List.mem_of_getElem? (i := 22) (by decide +kernel)), tm_4 (List.mem_of_getElem? (i := 103) (by decide +kernel)), tm_4 (List.mem_of_getElem? (i := 104) (by decide +kernel))⟩
theorem lw_p17 : lw_okq (⟨"RodRings$RodReader", "readMore", "(I[III)Z"⟩, 3) := ⟨⟨by decide +kernel, by decide +kernel⟩, tm_2 (List.mem_of_getElem? (i := 22) (by decide +kernel)), tm_4 (List.mem_of_getElem? (i := 123) (by decide +kernel)), tm_4 (List.mem_of_getElem? (i := 124) (by decide +kernel))⟩
theorem lw_p18 : lw_okq (⟨"RodRings$RodReader", "readNumber", "(I)I"⟩, 3) := ⟨⟨by decide +kernel, by decide +kernel⟩, tm_2 (List.mem_of_getElem? (i := 22) (by decide +kernel)), tm_4 (List.mem_of_getElem? (i := 127) (by decide +kernel)), tm_4 (List.mem_of_getElem? (i := 128) (by decide +kernel))⟩
theorem lw_p19 : lw_okq (⟨"RodRings$RodReader", "keepNumber", "(II)V"⟩, 3) := ⟨⟨by decide +kernel, by decide +kernel⟩, tm_2 (List.mem_of_getElem? (i := 22) (by decide +kernel)), tm_4 (List.mem_of_getElem? (i := 131) (by decide +kernel)), tm_4 (List.mem_of_getElem? (i := 132) (by decide +kernel))⟩
theorem lw_p20 : lw_okq (⟨"java/lang/Throwable", "fillInStackTrace", "(I)Ljava/lang/Throwable;"⟩, 6) := ⟨⟨by decide +kernel, by decide +kernel⟩, tm_4 (List.mem_of_getElem? (i := 180) (by decide +kernel)), tm_4 (List.mem_of_getElem? (i := 178) (by decide +kernel)), tm_4 (List.mem_of_getElem? (i := 179) (by decide +kernel))⟩
theorem lw_p21 : lw_okq (⟨"RodRings", "requireRing", "(I)V"⟩, 13) := ⟨⟨by decide +kernel, by decide +kernel⟩, tm_1 (List.mem_of_getElem? (i := 30) (by decide +kernel)), tm_5 (List.mem_of_getElem? (i := 8) (by decide +kernel)), tm_5 (List.mem_of_getElem? (i := 9) (by decide +kernel))⟩
theorem lw_p22 : lw_okq (⟨"RodRings", "requireNumber", "(III)V"⟩, 13) := ⟨⟨by decide +kernel, by decide +kernel⟩, tm_1 (List.mem_of_getElem? (i := 30) (by decide +kernel)), tm_5 (List.mem_of_getElem? (i := 64) (by decide +kernel)), tm_5 (List.mem_of_getElem? (i := 65) (by decide +kernel))⟩
theorem lw_p23 : lw_okq (⟨"RodRings", "requirePlace", "(I)V"⟩, 13) := ⟨⟨by decide +kernel, by decide +kernel⟩, tm_1 (List.mem_of_getElem? (i := 30) (by decide +kernel)), tm_5 (List.mem_of_getElem? (i := 130) (by decide +kernel)), tm_5 (List.mem_of_getElem? (i := 131) (by decide +kernel))⟩
theorem lw_p24 : lw_okq (⟨"RodRings$Clock", "catchSome", "(LRodRings$Rod;)I"⟩, 2) := ⟨⟨by decide +kernel, by decide +kernel⟩, tm_2 (List.mem_of_getElem? (i := 57) (by decide +kernel)), tm_5 (List.mem_of_getElem? (i := 164) (by decide +kernel)), tm_5 (List.mem_of_getElem? (i := 165) (by decide +kernel))⟩
theorem lw_p25 : lw_okq (⟨"RodRings$Clock", "dropSome", "(LRodRings$Rod;)I"⟩, 2) := ⟨⟨by decide +kernel, by decide +kernel⟩, tm_2 (List.mem_of_getElem? (i := 57) (by decide +kernel)), tm_5 (List.mem_of_getElem? (i := 176) (by decide +kernel)), tm_5 (List.mem_of_getElem? (i := 177) (by decide +kernel))⟩
theorem lw_p26 : lw_okq (⟨"RodRings", "readSnags", "()V"⟩, 13) := ⟨⟨by decide +kernel, by decide +kernel⟩, tm_1 (List.mem_of_getElem? (i := 30) (by decide +kernel)), tm_5 (List.mem_of_getElem? (i := 209) (by decide +kernel)), tm_5 (List.mem_of_getElem? (i := 210) (by decide +kernel))⟩
theorem lw_p27 : lw_okq (⟨"RodRings$Pulls", "isFitting", "(LRodRings$Rod;I)Z"⟩, 7) := ⟨⟨by decide +kernel, by decide +kernel⟩, tm_2 (List.mem_of_getElem? (i := 70) (by decide +kernel)), tm_5 (List.mem_of_getElem? (i := 222) (by decide +kernel)), tm_5 (List.mem_of_getElem? (i := 223) (by decide +kernel))⟩
theorem lw_p28 : lw_okq (⟨"RodRings$Pulls", "farWith", "(LRodRings$Rod;IIZI)I"⟩, 7) := ⟨⟨by decide +kernel, by decide +kernel⟩, tm_2 (List.mem_of_getElem? (i := 70) (by decide +kernel)), tm_5 (List.mem_of_getElem? (i := 226) (by decide +kernel)), tm_5 (List.mem_of_getElem? (i := 227) (by decide +kernel))⟩
theorem lw_p29 : lw_okq (⟨"RodRings$Pulls", "greatestPart", "(LRodRings$Rod;I)I"⟩, 7) := ⟨⟨by decide +kernel, by decide +kernel⟩, tm_2 (List.mem_of_getElem? (i := 70) (by decide +kernel)), tm_6 (List.mem_of_getElem? (i := 6) (by decide +kernel)), tm_6 (List.mem_of_getElem? (i := 7) (by decide +kernel))⟩
theorem lw_p30 : lw_okq (⟨"RodRingsModel", "readAll", "(Z)I"⟩, 22) := ⟨⟨by decide +kernel, by decide +kernel⟩, tm_6 (List.mem_of_getElem? (i := 150) (by decide +kernel)), tm_7 (List.mem_of_getElem? (i := 12) (by decide +kernel)), tm_7 (List.mem_of_getElem? (i := 13) (by decide +kernel))⟩
theorem lw_p31 : lw_okq (⟨"RodRingsModel", "uses", "()V"⟩, 22) := ⟨⟨by decide +kernel, by decide +kernel⟩, tm_6 (List.mem_of_getElem? (i := 150) (by decide +kernel)), tm_7 (List.mem_of_getElem? (i := 16) (by decide +kernel)), tm_7 (List.mem_of_getElem? (i := 17) (by decide +kernel))⟩
def lw_privs_2 : List (MethodName × Nat) := [(⟨"RodRings$RodReader", "readRing", "()Z"⟩, 3), (⟨"RodRings$RodReader", "readMore", "(I[III)Z"⟩, 3), (⟨"RodRings$RodReader", "readNumber", "(I)I"⟩, 3), (⟨"RodRings$RodReader", "keepNumber", "(II)V"⟩, 3), (⟨"java/lang/Throwable", "fillInStackTrace", "(I)Ljava/lang/Throwable;"⟩, 6), (⟨"RodRings", "requireRing", "(I)V"⟩, 13), (⟨"RodRings", "requireNumber", "(III)V"⟩, 13), (⟨"RodRings", "requirePlace", "(I)V"⟩, 13), (⟨"RodRings$Clock", "catchSome", "(LRodRings$Rod;)I"⟩, 2), (⟨"RodRings$Clock", "dropSome", "(LRodRings$Rod;)I"⟩, 2), (⟨"RodRings", "readSnags", "()V"⟩, 13), (⟨"RodRings$Pulls", "isFitting", "(LRodRings$Rod;I)Z"⟩, 7), (⟨"RodRings$Pulls", "farWith", "(LRodRings$Rod;IIZI)I"⟩, 7), (⟨"RodRings$Pulls", "greatestPart", "(LRodRings$Rod;I)I"⟩, 7), (⟨"RodRingsModel", "readAll", "(Z)I"⟩, 22), (⟨"RodRingsModel", "uses", "()V"⟩, 22)]
theorem lw_r2 : ∀ q ∈ lw_privs_2, lw_okq q := List.forall_mem_cons.mpr ⟨lw_p16, List.forall_mem_cons.mpr ⟨lw_p17, List.forall_mem_cons.mpr ⟨lw_p18, List.forall_mem_cons.mpr ⟨lw_p19, List.forall_mem_cons.mpr ⟨lw_p20, List.forall_mem_cons.mpr ⟨lw_p21, List.forall_mem_cons.mpr ⟨lw_p22, List.forall_mem_cons.mpr ⟨lw_p23, List.forall_mem_cons.mpr ⟨lw_p24, List.forall_mem_cons.mpr ⟨lw_p25, List.forall_mem_cons.mpr ⟨lw_p26, List.forall_mem_cons.mpr ⟨lw_p27, List.forall_mem_cons.mpr ⟨lw_p28, List.forall_mem_cons.mpr ⟨lw_p29, List.forall_mem_cons.mpr ⟨lw_p30, List.forall_mem_cons.mpr ⟨lw_p31, fun _ h => absurd h List.not_mem_nil⟩⟩⟩⟩⟩⟩⟩⟩⟩⟩⟩⟩⟩⟩⟩⟩
theorem lw_p32 : lw_okq (⟨"RodRingsModel", "blanks", "()V"⟩, 22) := ⟨⟨by decide +kernel, by decide +kernel⟩, tm_6 (List.mem_of_getElem? (i := 150) (by decide +kernel)), tm_7 (List.mem_of_getElem? (i := 20) (by decide +kernel)), tm_7 (List.mem_of_getElem? (i := 21) (by decide +kernel))⟩
theorem lw_p33 : lw_okq (⟨"RodRingsModel", "isAt", "(II)Z"⟩, 22) := ⟨⟨by decide +kernel, by decide +kernel⟩, tm_6 (List.mem_of_getElem? (i := 150) (by decide +kernel)), tm_7 (List.mem_of_getElem? (i := 24) (by decide +kernel)), tm_7 (List.mem_of_getElem? (i := 25) (by decide +kernel))⟩
theorem lw_p34 : lw_okq (⟨"RodRingsModel", "readLine", "(ZI)Z"⟩, 22) := ⟨⟨by decide +kernel, by decide +kernel⟩, tm_6 (List.mem_of_getElem? (i := 150) (by decide +kernel)), tm_7 (List.mem_of_getElem? (i := 28) (by decide +kernel)), tm_7 (List.mem_of_getElem? (i := 29) (by decide +kernel))⟩
theorem lw_p35 : lw_okq (⟨"RodRingsModel", "letters", "()V"⟩, 22) := ⟨⟨by decide +kernel, by decide +kernel⟩, tm_6 (List.mem_of_getElem? (i := 150) (by decide +kernel)), tm_7 (List.mem_of_getElem? (i := 32) (by decide +kernel)), tm_7 (List.mem_of_getElem? (i := 33) (by decide +kernel))⟩
theorem lw_p36 : lw_okq (⟨"RodRingsModel", "readPoleLine", "()Z"⟩, 22) := ⟨⟨by decide +kernel, by decide +kernel⟩, tm_6 (List.mem_of_getElem? (i := 150) (by decide +kernel)), tm_7 (List.mem_of_getElem? (i := 36) (by decide +kernel)), tm_7 (List.mem_of_getElem? (i := 37) (by decide +kernel))⟩
theorem lw_p37 : lw_okq (⟨"RodRingsModel", "isWord", "(Ljava/lang/String;)Z"⟩, 22) := ⟨⟨by decide +kernel, by decide +kernel⟩, tm_6 (List.mem_of_getElem? (i := 150) (by decide +kernel)), tm_7 (List.mem_of_getElem? (i := 41) (by decide +kernel)), tm_7 (List.mem_of_getElem? (i := 42) (by decide +kernel))⟩
theorem lw_p38 : lw_okq (⟨"RodRingsModel", "readRing", "()Z"⟩, 22) := ⟨⟨by decide +kernel, by decide +kernel⟩, tm_6 (List.mem_of_getElem? (i := 150) (by decide +kernel)), tm_7 (List.mem_of_getElem? (i := 47) (by decide +kernel)), tm_7 (List.mem_of_getElem? (i := 48) (by decide +kernel))⟩
theorem lw_p39 : lw_okq (⟨"RodRingsModel", "rings", "()I"⟩, 22) := ⟨⟨by decide +kernel, by decide +kernel⟩, tm_6 (List.mem_of_getElem? (i := 150) (by decide +kernel)), tm_7 (List.mem_of_getElem? (i := 51) (by decide +kernel)), tm_7 (List.mem_of_getElem? (i := 52) (by decide +kernel))⟩
theorem lw_p40 : lw_okq (⟨"RodRingsModel", "leastPlace", "()I"⟩, 22) := ⟨⟨by decide +kernel, by decide +kernel⟩, tm_6 (List.mem_of_getElem? (i := 150) (by decide +kernel)), tm_7 (List.mem_of_getElem? (i := 56) (by decide +kernel)), tm_7 (List.mem_of_getElem? (i := 57) (by decide +kernel))⟩
theorem lw_p41 : lw_okq (⟨"RodRingsModel", "lastRing", "()I"⟩, 22) := ⟨⟨by decide +kernel, by decide +kernel⟩, tm_6 (List.mem_of_getElem? (i := 150) (by decide +kernel)), tm_7 (List.mem_of_getElem? (i := 60) (by decide +kernel)), tm_7 (List.mem_of_getElem? (i := 61) (by decide +kernel))⟩
theorem lw_p42 : lw_okq (⟨"RodRingsModel", "of", "(II)I"⟩, 22) := ⟨⟨by decide +kernel, by decide +kernel⟩, tm_6 (List.mem_of_getElem? (i := 150) (by decide +kernel)), tm_7 (List.mem_of_getElem? (i := 64) (by decide +kernel)), tm_7 (List.mem_of_getElem? (i := 65) (by decide +kernel))⟩
theorem lw_p43 : lw_okq (⟨"RodRingsModel", "mostPlace", "()I"⟩, 22) := ⟨⟨by decide +kernel, by decide +kernel⟩, tm_6 (List.mem_of_getElem? (i := 150) (by decide +kernel)), tm_7 (List.mem_of_getElem? (i := 71) (by decide +kernel)), tm_7 (List.mem_of_getElem? (i := 72) (by decide +kernel))⟩
theorem lw_p44 : lw_okq (⟨"RodRingsModel", "after", "(Ljava/lang/String;II)I"⟩, 22) := ⟨⟨by decide +kernel, by decide +kernel⟩, tm_6 (List.mem_of_getElem? (i := 150) (by decide +kernel)), tm_7 (List.mem_of_getElem? (i := 76) (by decide +kernel)), tm_7 (List.mem_of_getElem? (i := 77) (by decide +kernel))⟩
theorem lw_p45 : lw_okq (⟨"RodRingsModel", "number", "(II)I"⟩, 22) := ⟨⟨by decide +kernel, by decide +kernel⟩, tm_6 (List.mem_of_getElem? (i := 150) (by decide +kernel)), tm_7 (List.mem_of_getElem? (i := 80) (by decide +kernel)), tm_7 (List.mem_of_getElem? (i := 81) (by decide +kernel))⟩
theorem lw_p46 : lw_okq (⟨"RodRingsModel", "passes", "(Ljava/lang/String;)Z"⟩, 22) := ⟨⟨by decide +kernel, by decide +kernel⟩, tm_6 (List.mem_of_getElem? (i := 150) (by decide +kernel)), tm_7 (List.mem_of_getElem? (i := 86) (by decide +kernel)), tm_7 (List.mem_of_getElem? (i := 87) (by decide +kernel))⟩
theorem lw_p47 : lw_okq (⟨"RodRingsModel", "hangs", "(II)V"⟩, 22) := ⟨⟨by decide +kernel, by decide +kernel⟩, tm_6 (List.mem_of_getElem? (i := 150) (by decide +kernel)), tm_7 (List.mem_of_getElem? (i := 93) (by decide +kernel)), tm_7 (List.mem_of_getElem? (i := 94) (by decide +kernel))⟩
def lw_privs_3 : List (MethodName × Nat) := [(⟨"RodRingsModel", "blanks", "()V"⟩, 22), (⟨"RodRingsModel", "isAt", "(II)Z"⟩, 22), (⟨"RodRingsModel", "readLine", "(ZI)Z"⟩, 22), (⟨"RodRingsModel", "letters", "()V"⟩, 22), (⟨"RodRingsModel", "readPoleLine", "()Z"⟩, 22), (⟨"RodRingsModel", "isWord", "(Ljava/lang/String;)Z"⟩, 22), (⟨"RodRingsModel", "readRing", "()Z"⟩, 22), (⟨"RodRingsModel", "rings", "()I"⟩, 22), (⟨"RodRingsModel", "leastPlace", "()I"⟩, 22), (⟨"RodRingsModel", "lastRing", "()I"⟩, 22), (⟨"RodRingsModel", "of", "(II)I"⟩, 22), (⟨"RodRingsModel", "mostPlace", "()I"⟩, 22), (⟨"RodRingsModel", "after", "(Ljava/lang/String;II)I"⟩, 22), (⟨"RodRingsModel", "number", "(II)I"⟩, 22), (⟨"RodRingsModel", "passes", "(Ljava/lang/String;)Z"⟩, 22), (⟨"RodRingsModel", "hangs", "(II)V"⟩, 22)]
theorem lw_r3 : ∀ q ∈ lw_privs_3, lw_okq q := List.forall_mem_cons.mpr ⟨lw_p32, List.forall_mem_cons.mpr ⟨lw_p33, List.forall_mem_cons.mpr ⟨lw_p34, List.forall_mem_cons.mpr ⟨lw_p35, List.forall_mem_cons.mpr ⟨lw_p36, List.forall_mem_cons.mpr ⟨lw_p37, List.forall_mem_cons.mpr ⟨lw_p38, List.forall_mem_cons.mpr ⟨lw_p39, List.forall_mem_cons.mpr ⟨lw_p40, List.forall_mem_cons.mpr ⟨lw_p41, List.forall_mem_cons.mpr ⟨lw_p42, List.forall_mem_cons.mpr ⟨lw_p43, List.forall_mem_cons.mpr ⟨lw_p44, List.forall_mem_cons.mpr ⟨lw_p45, List.forall_mem_cons.mpr ⟨lw_p46, List.forall_mem_cons.mpr ⟨lw_p47, fun _ h => absurd h List.not_mem_nil⟩⟩⟩⟩⟩⟩⟩⟩⟩⟩⟩⟩⟩⟩⟩⟩
theorem lw_p48 : lw_okq (⟨"RodRingsModel", "readCaught", "()Z"⟩, 22) := ⟨⟨by decide +kernel, by decide +kernel⟩, tm_6 (List.mem_of_getElem? (i := 150) (by decide +kernel)), tm_7 (List.mem_of_getElem? (i := 98) (by decide +kernel)), tm_7 (List.mem_of_getElem? (i := 99) (by decide +kernel))⟩
theorem lw_p49 : lw_okq (⟨"RodRingsModel", "readChair", "()Z"⟩, 22) := ⟨⟨by decide +kernel, by decide +kernel⟩, tm_6 (List.mem_of_getElem? (i := 150) (by decide +kernel)), tm_7 (List.mem_of_getElem? (i := 103) (by decide +kernel)), tm_7 (List.mem_of_getElem? (i := 104) (by decide +kernel))⟩
theorem lw_p50 : lw_okq (⟨"RodRingsModel", "readNumber", "(III)Z"⟩, 22) := ⟨⟨by decide +kernel, by decide +kernel⟩, tm_6 (List.mem_of_getElem? (i := 150) (by decide +kernel)), tm_7 (List.mem_of_getElem? (i := 108) (by decide +kernel)), tm_7 (List.mem_of_getElem? (i := 109) (by decide +kernel))⟩
theorem lw_p51 : lw_okq (⟨"RodRingsModel", "readLawLine", "(I)Z"⟩, 22) := ⟨⟨by decide +kernel, by decide +kernel⟩, tm_6 (List.mem_of_getElem? (i := 150) (by decide +kernel)), tm_7 (List.mem_of_getElem? (i := 115) (by decide +kernel)), tm_7 (List.mem_of_getElem? (i := 116) (by decide +kernel))⟩
theorem lw_p52 : lw_okq (⟨"RodRingsModel", "readCond", "()Z"⟩, 22) := ⟨⟨by decide +kernel, by decide +kernel⟩, tm_6 (List.mem_of_getElem? (i := 150) (by decide +kernel)), tm_7 (List.mem_of_getElem? (i := 122) (by decide +kernel)), tm_7 (List.mem_of_getElem? (i := 123) (by decide +kernel))⟩
theorem lw_p53 : lw_okq (⟨"RodRingsModel", "readAllOf", "()Z"⟩, 22) := ⟨⟨by decide +kernel, by decide +kernel⟩, tm_6 (List.mem_of_getElem? (i := 150) (by decide +kernel)), tm_7 (List.mem_of_getElem? (i := 126) (by decide +kernel)), tm_7 (List.mem_of_getElem? (i := 127) (by decide +kernel))⟩
theorem lw_p54 : lw_okq (⟨"RodRingsModel", "readAtom", "()Z"⟩, 22) := ⟨⟨by decide +kernel, by decide +kernel⟩, tm_6 (List.mem_of_getElem? (i := 150) (by decide +kernel)), tm_7 (List.mem_of_getElem? (i := 130) (by decide +kernel)), tm_7 (List.mem_of_getElem? (i := 131) (by decide +kernel))⟩
theorem lw_p55 : lw_okq (⟨"RodRingsModel", "sign", "(I)Z"⟩, 22) := ⟨⟨by decide +kernel, by decide +kernel⟩, tm_6 (List.mem_of_getElem? (i := 150) (by decide +kernel)), tm_7 (List.mem_of_getElem? (i := 134) (by decide +kernel)), tm_7 (List.mem_of_getElem? (i := 135) (by decide +kernel))⟩
theorem lw_p56 : lw_okq (⟨"RodRingsModel", "emits", "(II)V"⟩, 22) := ⟨⟨by decide +kernel, by decide +kernel⟩, tm_6 (List.mem_of_getElem? (i := 150) (by decide +kernel)), tm_7 (List.mem_of_getElem? (i := 139) (by decide +kernel)), tm_7 (List.mem_of_getElem? (i := 140) (by decide +kernel))⟩
theorem lw_p57 : lw_okq (⟨"RodRingsModel", "readTag", "()Z"⟩, 22) := ⟨⟨by decide +kernel, by decide +kernel⟩, tm_6 (List.mem_of_getElem? (i := 150) (by decide +kernel)), tm_7 (List.mem_of_getElem? (i := 143) (by decide +kernel)), tm_7 (List.mem_of_getElem? (i := 144) (by decide +kernel))⟩
theorem lw_p58 : lw_okq (⟨"RodRingsModel", "readSum", "()Z"⟩, 22) := ⟨⟨by decide +kernel, by decide +kernel⟩, tm_6 (List.mem_of_getElem? (i := 150) (by decide +kernel)), tm_7 (List.mem_of_getElem? (i := 149) (by decide +kernel)), tm_7 (List.mem_of_getElem? (i := 150) (by decide +kernel))⟩
theorem lw_p59 : lw_okq (⟨"RodRingsModel", "readPart", "()Z"⟩, 22) := ⟨⟨by decide +kernel, by decide +kernel⟩, tm_6 (List.mem_of_getElem? (i := 150) (by decide +kernel)), tm_7 (List.mem_of_getElem? (i := 153) (by decide +kernel)), tm_7 (List.mem_of_getElem? (i := 154) (by decide +kernel))⟩
theorem lw_p60 : lw_okq (⟨"RodRingsModel", "wordOfPart", "()I"⟩, 22) := ⟨⟨by decide +kernel, by decide +kernel⟩, tm_6 (List.mem_of_getElem? (i := 150) (by decide +kernel)), tm_7 (List.mem_of_getElem? (i := 157) (by decide +kernel)), tm_7 (List.mem_of_getElem? (i := 158) (by decide +kernel))⟩
theorem lw_p61 : lw_okq (⟨"RodRingsModel", "throwsIf", "(ZI)Z"⟩, 22) := ⟨⟨by decide +kernel, by decide +kernel⟩, tm_6 (List.mem_of_getElem? (i := 150) (by decide +kernel)), tm_7 (List.mem_of_getElem? (i := 165) (by decide +kernel)), tm_7 (List.mem_of_getElem? (i := 166) (by decide +kernel))⟩
theorem lw_p62 : lw_okq (⟨"RodRingsModel", "noRing", "(I)Z"⟩, 22) := ⟨⟨by decide +kernel, by decide +kernel⟩, tm_6 (List.mem_of_getElem? (i := 150) (by decide +kernel)), tm_7 (List.mem_of_getElem? (i := 177) (by decide +kernel)), tm_7 (List.mem_of_getElem? (i := 178) (by decide +kernel))⟩
theorem lw_p63 : lw_okq (⟨"RodRingsModel", "gapOf", "(I)I"⟩, 22) := ⟨⟨by decide +kernel, by decide +kernel⟩, tm_6 (List.mem_of_getElem? (i := 150) (by decide +kernel)), tm_7 (List.mem_of_getElem? (i := 184) (by decide +kernel)), tm_7 (List.mem_of_getElem? (i := 185) (by decide +kernel))⟩
def lw_privs_4 : List (MethodName × Nat) := [(⟨"RodRingsModel", "readCaught", "()Z"⟩, 22), (⟨"RodRingsModel", "readChair", "()Z"⟩, 22), (⟨"RodRingsModel", "readNumber", "(III)Z"⟩, 22), (⟨"RodRingsModel", "readLawLine", "(I)Z"⟩, 22), (⟨"RodRingsModel", "readCond", "()Z"⟩, 22), (⟨"RodRingsModel", "readAllOf", "()Z"⟩, 22), (⟨"RodRingsModel", "readAtom", "()Z"⟩, 22), (⟨"RodRingsModel", "sign", "(I)Z"⟩, 22), (⟨"RodRingsModel", "emits", "(II)V"⟩, 22), (⟨"RodRingsModel", "readTag", "()Z"⟩, 22), (⟨"RodRingsModel", "readSum", "()Z"⟩, 22), (⟨"RodRingsModel", "readPart", "()Z"⟩, 22), (⟨"RodRingsModel", "wordOfPart", "()I"⟩, 22), (⟨"RodRingsModel", "throwsIf", "(ZI)Z"⟩, 22), (⟨"RodRingsModel", "noRing", "(I)Z"⟩, 22), (⟨"RodRingsModel", "gapOf", "(I)I"⟩, 22)]
theorem lw_r4 : ∀ q ∈ lw_privs_4, lw_okq q := List.forall_mem_cons.mpr ⟨lw_p48, List.forall_mem_cons.mpr ⟨lw_p49, List.forall_mem_cons.mpr ⟨lw_p50, List.forall_mem_cons.mpr ⟨lw_p51, List.forall_mem_cons.mpr ⟨lw_p52, List.forall_mem_cons.mpr ⟨lw_p53, List.forall_mem_cons.mpr ⟨lw_p54, List.forall_mem_cons.mpr ⟨lw_p55, List.forall_mem_cons.mpr ⟨lw_p56, List.forall_mem_cons.mpr ⟨lw_p57, List.forall_mem_cons.mpr ⟨lw_p58, List.forall_mem_cons.mpr ⟨lw_p59, List.forall_mem_cons.mpr ⟨lw_p60, List.forall_mem_cons.mpr ⟨lw_p61, List.forall_mem_cons.mpr ⟨lw_p62, List.forall_mem_cons.mpr ⟨lw_p63, fun _ h => absurd h List.not_mem_nil⟩⟩⟩⟩⟩⟩⟩⟩⟩⟩⟩⟩⟩⟩⟩⟩
theorem lw_p64 : lw_okq (⟨"RodRingsModel", "byLaw", "(II)I"⟩, 22) := ⟨⟨by decide +kernel, by decide +kernel⟩, tm_6 (List.mem_of_getElem? (i := 150) (by decide +kernel)), tm_7 (List.mem_of_getElem? (i := 188) (by decide +kernel)), tm_7 (List.mem_of_getElem? (i := 189) (by decide +kernel))⟩
theorem lw_p65 : lw_okq (⟨"RodRingsModel", "sumOf", "(II)I"⟩, 22) := ⟨⟨by decide +kernel, by decide +kernel⟩, tm_6 (List.mem_of_getElem? (i := 150) (by decide +kernel)), tm_7 (List.mem_of_getElem? (i := 192) (by decide +kernel)), tm_7 (List.mem_of_getElem? (i := 193) (by decide +kernel))⟩
theorem lw_p66 : lw_okq (⟨"RodRingsModel", "holdsLine", "(II)Z"⟩, 22) := ⟨⟨by decide +kernel, by decide +kernel⟩, tm_6 (List.mem_of_getElem? (i := 150) (by decide +kernel)), tm_7 (List.mem_of_getElem? (i := 196) (by decide +kernel)), tm_7 (List.mem_of_getElem? (i := 197) (by decide +kernel))⟩
theorem lw_p67 : lw_okq (⟨"RodRingsModel", "factOf", "(III)I"⟩, 22) := ⟨⟨by decide +kernel, by decide +kernel⟩, tm_6 (List.mem_of_getElem? (i := 150) (by decide +kernel)), tm_7 (List.mem_of_getElem? (i := 200) (by decide +kernel)), tm_7 (List.mem_of_getElem? (i := 201) (by decide +kernel))⟩
theorem lw_p68 : lw_okq (⟨"RodRingsModel", "isLit", "(II)Z"⟩, 22) := ⟨⟨by decide +kernel, by decide +kernel⟩, tm_6 (List.mem_of_getElem? (i := 150) (by decide +kernel)), tm_7 (List.mem_of_getElem? (i := 204) (by decide +kernel)), tm_7 (List.mem_of_getElem? (i := 205) (by decide +kernel))⟩
theorem lw_p69 : lw_okq (⟨"RodRingsModel", "hangsOn", "(I)I"⟩, 22) := ⟨⟨by decide +kernel, by decide +kernel⟩, tm_6 (List.mem_of_getElem? (i := 150) (by decide +kernel)), tm_7 (List.mem_of_getElem? (i := 208) (by decide +kernel)), tm_7 (List.mem_of_getElem? (i := 209) (by decide +kernel))⟩
theorem lw_p70 : lw_okq (⟨"RodRingsModel", "is", "(II)Z"⟩, 22) := ⟨⟨by decide +kernel, by decide +kernel⟩, tm_6 (List.mem_of_getElem? (i := 150) (by decide +kernel)), tm_7 (List.mem_of_getElem? (i := 212) (by decide +kernel)), tm_7 (List.mem_of_getElem? (i := 213) (by decide +kernel))⟩
theorem lw_p71 : lw_okq (⟨"RodRingsModel", "shareOf", "(I)I"⟩, 22) := ⟨⟨by decide +kernel, by decide +kernel⟩, tm_6 (List.mem_of_getElem? (i := 150) (by decide +kernel)), tm_7 (List.mem_of_getElem? (i := 218) (by decide +kernel)), tm_7 (List.mem_of_getElem? (i := 219) (by decide +kernel))⟩
theorem lw_p72 : lw_okq (⟨"RodRingsModel", "fadesOfAll", "()I"⟩, 22) := ⟨⟨by decide +kernel, by decide +kernel⟩, tm_6 (List.mem_of_getElem? (i := 150) (by decide +kernel)), tm_7 (List.mem_of_getElem? (i := 222) (by decide +kernel)), tm_7 (List.mem_of_getElem? (i := 223) (by decide +kernel))⟩
theorem lw_p73 : lw_okq (⟨"RodRingsModel", "remembers", "()V"⟩, 22) := ⟨⟨by decide +kernel, by decide +kernel⟩, tm_6 (List.mem_of_getElem? (i := 150) (by decide +kernel)), tm_7 (List.mem_of_getElem? (i := 233) (by decide +kernel)), tm_7 (List.mem_of_getElem? (i := 234) (by decide +kernel))⟩
theorem lw_p74 : lw_okq (⟨"RodRingsModel", "pulls", "(IZI)I"⟩, 22) := ⟨⟨by decide +kernel, by decide +kernel⟩, tm_6 (List.mem_of_getElem? (i := 150) (by decide +kernel)), tm_7 (List.mem_of_getElem? (i := 237) (by decide +kernel)), tm_7 (List.mem_of_getElem? (i := 238) (by decide +kernel))⟩
theorem lw_p75 : lw_okq (⟨"RodRingsModel", "goesOne", "(IZ)Z"⟩, 22) := ⟨⟨by decide +kernel, by decide +kernel⟩, tm_6 (List.mem_of_getElem? (i := 150) (by decide +kernel)), tm_8 (List.mem_of_getElem? (i := 1) (by decide +kernel)), tm_8 (List.mem_of_getElem? (i := 2) (by decide +kernel))⟩
theorem lw_p76 : lw_okq (⟨"RodRingsModel", "goingBy", "(IZ)I"⟩, 22) := ⟨⟨by decide +kernel, by decide +kernel⟩, tm_6 (List.mem_of_getElem? (i := 150) (by decide +kernel)), tm_8 (List.mem_of_getElem? (i := 5) (by decide +kernel)), tm_8 (List.mem_of_getElem? (i := 6) (by decide +kernel))⟩
theorem lw_p77 : lw_okq (⟨"RodRingsModel", "allWith", "(IZ)I"⟩, 22) := ⟨⟨by decide +kernel, by decide +kernel⟩, tm_6 (List.mem_of_getElem? (i := 150) (by decide +kernel)), tm_8 (List.mem_of_getElem? (i := 9) (by decide +kernel)), tm_8 (List.mem_of_getElem? (i := 10) (by decide +kernel))⟩
theorem lw_p78 : lw_okq (⟨"RodRingsModel", "takesAlong", "(IIZ)Z"⟩, 22) := ⟨⟨by decide +kernel, by decide +kernel⟩, tm_6 (List.mem_of_getElem? (i := 150) (by decide +kernel)), tm_8 (List.mem_of_getElem? (i := 16) (by decide +kernel)), tm_8 (List.mem_of_getElem? (i := 17) (by decide +kernel))⟩
theorem lw_p79 : lw_okq (⟨"RodRingsModel", "mayGo", "(IZ)Z"⟩, 22) := ⟨⟨by decide +kernel, by decide +kernel⟩, tm_6 (List.mem_of_getElem? (i := 150) (by decide +kernel)), tm_8 (List.mem_of_getElem? (i := 20) (by decide +kernel)), tm_8 (List.mem_of_getElem? (i := 21) (by decide +kernel))⟩
def lw_privs_5 : List (MethodName × Nat) := [(⟨"RodRingsModel", "byLaw", "(II)I"⟩, 22), (⟨"RodRingsModel", "sumOf", "(II)I"⟩, 22), (⟨"RodRingsModel", "holdsLine", "(II)Z"⟩, 22), (⟨"RodRingsModel", "factOf", "(III)I"⟩, 22), (⟨"RodRingsModel", "isLit", "(II)Z"⟩, 22), (⟨"RodRingsModel", "hangsOn", "(I)I"⟩, 22), (⟨"RodRingsModel", "is", "(II)Z"⟩, 22), (⟨"RodRingsModel", "shareOf", "(I)I"⟩, 22), (⟨"RodRingsModel", "fadesOfAll", "()I"⟩, 22), (⟨"RodRingsModel", "remembers", "()V"⟩, 22), (⟨"RodRingsModel", "pulls", "(IZI)I"⟩, 22), (⟨"RodRingsModel", "goesOne", "(IZ)Z"⟩, 22), (⟨"RodRingsModel", "goingBy", "(IZ)I"⟩, 22), (⟨"RodRingsModel", "allWith", "(IZ)I"⟩, 22), (⟨"RodRingsModel", "takesAlong", "(IIZ)Z"⟩, 22), (⟨"RodRingsModel", "mayGo", "(IZ)Z"⟩, 22)]
theorem lw_r5 : ∀ q ∈ lw_privs_5, lw_okq q := List.forall_mem_cons.mpr ⟨lw_p64, List.forall_mem_cons.mpr ⟨lw_p65, List.forall_mem_cons.mpr ⟨lw_p66, List.forall_mem_cons.mpr ⟨lw_p67, List.forall_mem_cons.mpr ⟨lw_p68, List.forall_mem_cons.mpr ⟨lw_p69, List.forall_mem_cons.mpr ⟨lw_p70, List.forall_mem_cons.mpr ⟨lw_p71, List.forall_mem_cons.mpr ⟨lw_p72, List.forall_mem_cons.mpr ⟨lw_p73, List.forall_mem_cons.mpr ⟨lw_p74, List.forall_mem_cons.mpr ⟨lw_p75, List.forall_mem_cons.mpr ⟨lw_p76, List.forall_mem_cons.mpr ⟨lw_p77, List.forall_mem_cons.mpr ⟨lw_p78, List.forall_mem_cons.mpr ⟨lw_p79, fun _ h => absurd h List.not_mem_nil⟩⟩⟩⟩⟩⟩⟩⟩⟩⟩⟩⟩⟩⟩⟩⟩
theorem lw_p80 : lw_okq (⟨"RodRingsModel", "tells", "(III)V"⟩, 22) := ⟨⟨by decide +kernel, by decide +kernel⟩, tm_6 (List.mem_of_getElem? (i := 150) (by decide +kernel)), tm_8 (List.mem_of_getElem? (i := 27) (by decide +kernel)), tm_8 (List.mem_of_getElem? (i := 28) (by decide +kernel))⟩
theorem lw_p81 : lw_okq (⟨"RodRingsModel", "goesOn", "(IZ)I"⟩, 22) := ⟨⟨by decide +kernel, by decide +kernel⟩, tm_6 (List.mem_of_getElem? (i := 150) (by decide +kernel)), tm_8 (List.mem_of_getElem? (i := 59) (by decide +kernel)), tm_8 (List.mem_of_getElem? (i := 60) (by decide +kernel))⟩
theorem lw_p82 : lw_okq (⟨"RodRingsModel", "oneHour", "(Z)I"⟩, 22) := ⟨⟨by decide +kernel, by decide +kernel⟩, tm_6 (List.mem_of_getElem? (i := 150) (by decide +kernel)), tm_8 (List.mem_of_getElem? (i := 63) (by decide +kernel)), tm_8 (List.mem_of_getElem? (i := 64) (by decide +kernel))⟩
theorem lw_p83 : lw_okq (⟨"RodRingsModel", "catches", "()I"⟩, 22) := ⟨⟨by decide +kernel, by decide +kernel⟩, tm_6 (List.mem_of_getElem? (i := 150) (by decide +kernel)), tm_8 (List.mem_of_getElem? (i := 67) (by decide +kernel)), tm_8 (List.mem_of_getElem? (i := 68) (by decide +kernel))⟩
theorem lw_p84 : lw_okq (⟨"RodRingsModel", "drawn", "(I)I"⟩, 22) := ⟨⟨by decide +kernel, by decide +kernel⟩, tm_6 (List.mem_of_getElem? (i := 150) (by decide +kernel)), tm_8 (List.mem_of_getElem? (i := 71) (by decide +kernel)), tm_8 (List.mem_of_getElem? (i := 72) (by decide +kernel))⟩
theorem lw_p85 : lw_okq (⟨"RodRingsModel", "falls", "()I"⟩, 22) := ⟨⟨by decide +kernel, by decide +kernel⟩, tm_6 (List.mem_of_getElem? (i := 150) (by decide +kernel)), tm_8 (List.mem_of_getElem? (i := 76) (by decide +kernel)), tm_8 (List.mem_of_getElem? (i := 77) (by decide +kernel))⟩
theorem lw_p86 : lw_okq (⟨"RodRingsModel", "keepsAll", "()V"⟩, 22) := ⟨⟨by decide +kernel, by decide +kernel⟩, tm_6 (List.mem_of_getElem? (i := 150) (by decide +kernel)), tm_8 (List.mem_of_getElem? (i := 87) (by decide +kernel)), tm_8 (List.mem_of_getElem? (i := 88) (by decide +kernel))⟩
theorem lw_p87 : lw_okq (⟨"RodRingsModel", "bringsBack", "()V"⟩, 22) := ⟨⟨by decide +kernel, by decide +kernel⟩, tm_6 (List.mem_of_getElem? (i := 150) (by decide +kernel)), tm_8 (List.mem_of_getElem? (i := 91) (by decide +kernel)), tm_8 (List.mem_of_getElem? (i := 92) (by decide +kernel))⟩
theorem lw_p88 : lw_okq (⟨"RodRingsModel", "somePale", "()Z"⟩, 22) := ⟨⟨by decide +kernel, by decide +kernel⟩, tm_6 (List.mem_of_getElem? (i := 150) (by decide +kernel)), tm_8 (List.mem_of_getElem? (i := 103) (by decide +kernel)), tm_8 (List.mem_of_getElem? (i := 104) (by decide +kernel))⟩
theorem lw_p89 : lw_okq (⟨"RodRingsModel", "shadeNow", "()I"⟩, 22) := ⟨⟨by decide +kernel, by decide +kernel⟩, tm_6 (List.mem_of_getElem? (i := 150) (by decide +kernel)), tm_8 (List.mem_of_getElem? (i := 111) (by decide +kernel)), tm_8 (List.mem_of_getElem? (i := 112) (by decide +kernel))⟩
theorem lw_p90 : lw_okq (⟨"RodRingsModel", "darkNow", "()I"⟩, 22) := ⟨⟨by decide +kernel, by decide +kernel⟩, tm_6 (List.mem_of_getElem? (i := 150) (by decide +kernel)), tm_8 (List.mem_of_getElem? (i := 119) (by decide +kernel)), tm_8 (List.mem_of_getElem? (i := 120) (by decide +kernel))⟩
theorem lw_p91 : lw_okq (⟨"RodRingsModel", "shadesAll", "(I)Z"⟩, 22) := ⟨⟨by decide +kernel, by decide +kernel⟩, tm_6 (List.mem_of_getElem? (i := 150) (by decide +kernel)), tm_8 (List.mem_of_getElem? (i := 149) (by decide +kernel)), tm_8 (List.mem_of_getElem? (i := 150) (by decide +kernel))⟩
theorem lw_p92 : lw_okq (⟨"RodRingsModel", "fewestTo", "(IZ)I"⟩, 22) := ⟨⟨by decide +kernel, by decide +kernel⟩, tm_6 (List.mem_of_getElem? (i := 150) (by decide +kernel)), tm_8 (List.mem_of_getElem? (i := 153) (by decide +kernel)), tm_8 (List.mem_of_getElem? (i := 154) (by decide +kernel))⟩
theorem lw_p93 : lw_okq (⟨"RodRingsModel", "stepsTo", "(IIZ)I"⟩, 22) := ⟨⟨by decide +kernel, by decide +kernel⟩, tm_6 (List.mem_of_getElem? (i := 150) (by decide +kernel)), tm_8 (List.mem_of_getElem? (i := 157) (by decide +kernel)), tm_8 (List.mem_of_getElem? (i := 158) (by decide +kernel))⟩
theorem lw_p94 : lw_okq (⟨"RodRingsModel", "isTold", "()Z"⟩, 22) := ⟨⟨by decide +kernel, by decide +kernel⟩, tm_6 (List.mem_of_getElem? (i := 150) (by decide +kernel)), tm_8 (List.mem_of_getElem? (i := 169) (by decide +kernel)), tm_8 (List.mem_of_getElem? (i := 170) (by decide +kernel))⟩
theorem lw_p95 : lw_okq (⟨"RodRingsModel", "thatCanCatch", "()I"⟩, 22) := ⟨⟨by decide +kernel, by decide +kernel⟩, tm_6 (List.mem_of_getElem? (i := 150) (by decide +kernel)), tm_8 (List.mem_of_getElem? (i := 173) (by decide +kernel)), tm_8 (List.mem_of_getElem? (i := 174) (by decide +kernel))⟩
def lw_privs_6 : List (MethodName × Nat) := [(⟨"RodRingsModel", "tells", "(III)V"⟩, 22), (⟨"RodRingsModel", "goesOn", "(IZ)I"⟩, 22), (⟨"RodRingsModel", "oneHour", "(Z)I"⟩, 22), (⟨"RodRingsModel", "catches", "()I"⟩, 22), (⟨"RodRingsModel", "drawn", "(I)I"⟩, 22), (⟨"RodRingsModel", "falls", "()I"⟩, 22), (⟨"RodRingsModel", "keepsAll", "()V"⟩, 22), (⟨"RodRingsModel", "bringsBack", "()V"⟩, 22), (⟨"RodRingsModel", "somePale", "()Z"⟩, 22), (⟨"RodRingsModel", "shadeNow", "()I"⟩, 22), (⟨"RodRingsModel", "darkNow", "()I"⟩, 22), (⟨"RodRingsModel", "shadesAll", "(I)Z"⟩, 22), (⟨"RodRingsModel", "fewestTo", "(IZ)I"⟩, 22), (⟨"RodRingsModel", "stepsTo", "(IIZ)I"⟩, 22), (⟨"RodRingsModel", "isTold", "()Z"⟩, 22), (⟨"RodRingsModel", "thatCanCatch", "()I"⟩, 22)]
theorem lw_r6 : ∀ q ∈ lw_privs_6, lw_okq q := List.forall_mem_cons.mpr ⟨lw_p80, List.forall_mem_cons.mpr ⟨lw_p81, List.forall_mem_cons.mpr ⟨lw_p82, List.forall_mem_cons.mpr ⟨lw_p83, List.forall_mem_cons.mpr ⟨lw_p84, List.forall_mem_cons.mpr ⟨lw_p85, List.forall_mem_cons.mpr ⟨lw_p86, List.forall_mem_cons.mpr ⟨lw_p87, List.forall_mem_cons.mpr ⟨lw_p88, List.forall_mem_cons.mpr ⟨lw_p89, List.forall_mem_cons.mpr ⟨lw_p90, List.forall_mem_cons.mpr ⟨lw_p91, List.forall_mem_cons.mpr ⟨lw_p92, List.forall_mem_cons.mpr ⟨lw_p93, List.forall_mem_cons.mpr ⟨lw_p94, List.forall_mem_cons.mpr ⟨lw_p95, fun _ h => absurd h List.not_mem_nil⟩⟩⟩⟩⟩⟩⟩⟩⟩⟩⟩⟩⟩⟩⟩⟩
theorem lw_p96 : lw_okq (⟨"RodRingsModel", "fits", "(I)Z"⟩, 22) := ⟨⟨by decide +kernel, by decide +kernel⟩, tm_6 (List.mem_of_getElem? (i := 150) (by decide +kernel)), tm_8 (List.mem_of_getElem? (i := 177) (by decide +kernel)), tm_8 (List.mem_of_getElem? (i := 178) (by decide +kernel))⟩
theorem lw_p97 : lw_okq (⟨"RodRingsModel", "wentWith", "(IIZI)I"⟩, 22) := ⟨⟨by decide +kernel, by decide +kernel⟩, tm_6 (List.mem_of_getElem? (i := 150) (by decide +kernel)), tm_8 (List.mem_of_getElem? (i := 181) (by decide +kernel)), tm_8 (List.mem_of_getElem? (i := 182) (by decide +kernel))⟩
theorem lw_p98 : lw_okq (⟨"RodRingsModel", "areCaught", "(I)V"⟩, 22) := ⟨⟨by decide +kernel, by decide +kernel⟩, tm_6 (List.mem_of_getElem? (i := 150) (by decide +kernel)), tm_8 (List.mem_of_getElem? (i := 185) (by decide +kernel)), tm_8 (List.mem_of_getElem? (i := 186) (by decide +kernel))⟩
theorem lw_p99 : lw_okq (⟨"RodRingsModel", "partBy", "(IZ)I"⟩, 22) := ⟨⟨by decide +kernel, by decide +kernel⟩, tm_6 (List.mem_of_getElem? (i := 150) (by decide +kernel)), tm_8 (List.mem_of_getElem? (i := 193) (by decide +kernel)), tm_8 (List.mem_of_getElem? (i := 194) (by decide +kernel))⟩
theorem lw_p100 : lw_okq (⟨"RodRingsModel", "ringsThat", "(I)I"⟩, 22) := ⟨⟨by decide +kernel, by decide +kernel⟩, tm_6 (List.mem_of_getElem? (i := 150) (by decide +kernel)), tm_8 (List.mem_of_getElem? (i := 201) (by decide +kernel)), tm_8 (List.mem_of_getElem? (i := 202) (by decide +kernel))⟩
theorem lw_p101 : lw_okq (⟨"RodRingsModel", "litIn", "(I)I"⟩, 22) := ⟨⟨by decide +kernel, by decide +kernel⟩, tm_6 (List.mem_of_getElem? (i := 150) (by decide +kernel)), tm_8 (List.mem_of_getElem? (i := 229) (by decide +kernel)), tm_8 (List.mem_of_getElem? (i := 230) (by decide +kernel))⟩
theorem lw_p102 : lw_okq (⟨"RodRingsModel", "eachHas", "(III)I"⟩, 22) := ⟨⟨by decide +kernel, by decide +kernel⟩, tm_6 (List.mem_of_getElem? (i := 150) (by decide +kernel)), tm_9 (List.mem_of_getElem? (i := 9) (by decide +kernel)), tm_9 (List.mem_of_getElem? (i := 10) (by decide +kernel))⟩
theorem lw_p103 : lw_okq (⟨"RodRingsModel", "looseOnes", "()I"⟩, 22) := ⟨⟨by decide +kernel, by decide +kernel⟩, tm_6 (List.mem_of_getElem? (i := 150) (by decide +kernel)), tm_9 (List.mem_of_getElem? (i := 25) (by decide +kernel)), tm_9 (List.mem_of_getElem? (i := 26) (by decide +kernel))⟩
theorem lw_p104 : lw_okq (⟨"RodRingsModel", "likens", "(II)Z"⟩, 22) := ⟨⟨by decide +kernel, by decide +kernel⟩, tm_6 (List.mem_of_getElem? (i := 150) (by decide +kernel)), tm_9 (List.mem_of_getElem? (i := 41) (by decide +kernel)), tm_9 (List.mem_of_getElem? (i := 42) (by decide +kernel))⟩
theorem lw_p105 : lw_okq (⟨"RodRingsModel", "ofLog", "(II)I"⟩, 22) := ⟨⟨by decide +kernel, by decide +kernel⟩, tm_6 (List.mem_of_getElem? (i := 150) (by decide +kernel)), tm_9 (List.mem_of_getElem? (i := 57) (by decide +kernel)), tm_9 (List.mem_of_getElem? (i := 58) (by decide +kernel))⟩
def lw_privs_7 : List (MethodName × Nat) := [(⟨"RodRingsModel", "fits", "(I)Z"⟩, 22), (⟨"RodRingsModel", "wentWith", "(IIZI)I"⟩, 22), (⟨"RodRingsModel", "areCaught", "(I)V"⟩, 22), (⟨"RodRingsModel", "partBy", "(IZ)I"⟩, 22), (⟨"RodRingsModel", "ringsThat", "(I)I"⟩, 22), (⟨"RodRingsModel", "litIn", "(I)I"⟩, 22), (⟨"RodRingsModel", "eachHas", "(III)I"⟩, 22), (⟨"RodRingsModel", "looseOnes", "()I"⟩, 22), (⟨"RodRingsModel", "likens", "(II)Z"⟩, 22), (⟨"RodRingsModel", "ofLog", "(II)I"⟩, 22)]
theorem lw_r7 : ∀ q ∈ lw_privs_7, lw_okq q := List.forall_mem_cons.mpr ⟨lw_p96, List.forall_mem_cons.mpr ⟨lw_p97, List.forall_mem_cons.mpr ⟨lw_p98, List.forall_mem_cons.mpr ⟨lw_p99, List.forall_mem_cons.mpr ⟨lw_p100, List.forall_mem_cons.mpr ⟨lw_p101, List.forall_mem_cons.mpr ⟨lw_p102, List.forall_mem_cons.mpr ⟨lw_p103, List.forall_mem_cons.mpr ⟨lw_p104, List.forall_mem_cons.mpr ⟨lw_p105, fun _ h => absurd h List.not_mem_nil⟩⟩⟩⟩⟩⟩⟩⟩⟩⟩
def lw_privs : List (MethodName × Nat) := lw_privs_1 ++ (lw_privs_2 ++ (lw_privs_3 ++ (lw_privs_4 ++ (lw_privs_5 ++ (lw_privs_6 ++ (lw_privs_7))))))
def lw_tbl : List Cond := k2_sels lw_privs ++ tables_1
theorem lw_privs_ok : ∀ q ∈ lw_privs, lw_okq q := by
  show ∀ q ∈ lw_privs_1 ++ (lw_privs_2 ++ (lw_privs_3 ++ (lw_privs_4 ++ (lw_privs_5 ++ (lw_privs_6 ++ (lw_privs_7)))))), lw_okq q
  exact List.forall_mem_append.mpr ⟨lw_r1, List.forall_mem_append.mpr ⟨lw_r2, List.forall_mem_append.mpr ⟨lw_r3, List.forall_mem_append.mpr ⟨lw_r4, List.forall_mem_append.mpr ⟨lw_r5, List.forall_mem_append.mpr ⟨lw_r6, lw_r7⟩⟩⟩⟩⟩⟩
/-! ===== BEGIN words of one list among another's, by their places ===== -/
theorem goodIn_r {big : List Cond} (ws : List Cond) (ps : List Nat) (hp : ws = ps.filterMap (fun i => big[i]?)) (h : ws.all goodWord = true) : GoodIn big ws := by
  intro w hw
  have h1 := List.all_eq_true.mp h w hw
  rw [hp] at hw
  obtain ⟨i, -, hi⟩ := List.mem_filterMap.mp hw
  have hm : w ∈ big := by first | exact List.mem_of_getElem? hi | exact List.getElem?_mem hi
  exact ⟨hm, good_of_word h1⟩
theorem goodIn_app {big a b : List Cond} (ha : GoodIn big a) (hb : GoodIn big b) : GoodIn big (a ++ b) := fun w h => (List.mem_append.mp h).elim (ha w) (hb w)
theorem goodIn_ca {big a b : List Cond} {c : Cond} (ha : GoodIn big (c :: a)) (hb : GoodIn big b) : GoodIn big (c :: (a ++ b)) := fun w h => (List.mem_cons.mp h).elim (fun e => ha w (List.mem_cons.mpr (Or.inl e))) (fun h => (List.mem_append.mp h).elim (fun h => ha w (List.mem_cons.mpr (Or.inr h))) (hb w))
theorem goodIn_sub {big ws : List Cond} (hm : ∀ w ∈ ws, w ∈ big) (h : ws.all goodWord = true) : GoodIn big ws := fun w hw => ⟨hm w hw, good_of_word (List.all_eq_true.mp h w hw)⟩
/-! ===== END ===== -/

/-! ===== BEGIN exceptions that leave a method, and their catching by the caller (launches without stack traces) ===== -/
section VXA
/-! The laws vx_back, vx_callV, vx_callS, vx_callSW, vx_throw0, vx_throwS follow proofs of the library, with one case more: JvmDerived/Free/Laws.lean (Back.of_free), Shelf42/LK1.lean (callV, callS), Shelf/KitTraced.lean (throwNew0V, throwNewS). -/
/-- where a method has thrown q: the class by its name, the cell, what was written, the world -/
def vx_T (XC : String → State → State → Prop) (st : State) (q : Addr) (t : State) (mc ms : Nat) (free : Addr → Prop) : Prop :=
  ∃ (E : String) (ce : Cell) (L : List Loc), XC E st t ∧ t.heap[q]? = some ce ∧ ce.vm = .none ∧ st.vm.findClass E = some ce.cls ∧ st.WarmedH t.vm ∧ st.sameButNew ({ t with vm := st.vm } : State) L mc ms ∧ ∀ z ∈ L, free z.base
def vx_Q (Qc : Array Value → State → Outcome → State → Prop) (XC : String → State → State → Prop) (mc ms : Nat) (free : Addr → Prop) : Array Value → State → Outcome → State → Prop := fun a st o t =>
  (Qc a st o t ∧ ∃ L, FrameEnd st o t L mc ms ∧ ∀ q ∈ L, free q.base) ∨ ∃ q, o = .threw q ∧ vx_T XC st q t mc ms free
/-- a callee that returns or throws -/
def vx_Met (l : Launch) (y : MethodName) (ws : List Cond) (rm : Room) (Pc : Array Value → State → Prop) (Qc : Array Value → State → Outcome → State → Prop) (XC : String → State → State → Prop) (mc ms : Nat) (free : Addr → Prop) : Prop :=
  MetFree l y (headSpec ws rm) Pc (fun _ _ _ _ _ => True) (vx_Q Qc XC mc ms free)
def vx_Post (XC : String → State → State → Prop) (mc ms : Nat) (free : Addr → Prop) : Pt → Array Value → Addr → Pt → Prop := fun A a q B =>
  ∃ (g : JFrame) (mk : MethodId) (t : State) (L : List Loc) (E : String) (ce : Cell), B.U.heap = t.heap ∧ B.U.vm = t.vm ∧ XC E (A.U.calling g mk a) t ∧ t.heap[q]? = some ce ∧ ce.vm = .none ∧ A.U.vm.findClass E = some ce.cls ∧ B.locs = A.locs ++ L ∧ (∀ z ∈ L, free z.base) ∧ B.cells = A.cells + mc ∧ B.slots = A.slots + ms
def vx_Back (l : Launch) (R : Room) (p : Program) (e : Env) (below : List Frame) (s : State) (sargs : Array Value) (y : MethodName) (len W9 : Nat)
    (Pre : Pt → Array Value → Prop) (Post : Pt → Array Value → Option Value → Pt → Prop) (PostX : Pt → Array Value → Addr → Pt → Prop) : Prop :=
  ∀ (m : MethodId) (meth : Method) (c : Code) (A : Pt) (g : JFrame) (ig : Instr) (mk : MethodId) (a : Array Value),
    Stand p l e R s m sargs below meth c A.U A.locs A.cells A.slots → g.method = m → g.locals.size = c.maxLocals → decode c.code g.pc = .ok (ig, len) →
    2 * g.monitorRoom + (g.stack.map fun v => v.category).sum ≤ W9 → A.U.methodNamed? y = some mk → Pre A a →
    (∃ (v : Option Value) (B : Pt), Stand p l e R s m sargs below meth c B.U B.locs B.cells B.slots ∧ Post A a v B ∧
      Steps p.tables e below (doInvoke e (A.U.setTop g) [] mk a).1 (B.U.setTop { g with pc := g.pc + len, stack := v.toList ++ g.stack })) ∨
    (∃ (q : Addr) (B : Pt), Stand p l e R s m sargs below meth c B.U B.locs B.cells B.slots ∧ PostX A a q B ∧
      Steps p.tables e below (doInvoke e (A.U.setTop g) [] mk a).1 ((B.U.setTop g).pushFrame (.throwing q)))
section Payer
variable {l : Launch} {R : Room} {p : Program} {e : Env} {below : List Frame} {s : State} {sargs : Array Value} {y : MethodName} {len W9 : Nat}
theorem vx_back {ws : List Cond} {rm : Room} {Pc : Array Value → State → Prop} {Qc : Array Value → State → Outcome → State → Prop} {XC : String → State → State → Prop} {mc ms : Nat} {free : Addr → Prop} {bytes : ByteArray} {maxL : Nat} {ret : Option FieldType}
    (hM : vx_Met l y ws rm Pc Qc XC mc ms free) (hblind : FrameBlind Pc) (hrc : rm.cells = mc) (hrs : rm.slots = ms)
    (hframes : rm.frames + 1 ≤ R.frames) (hlocals : W9 + (maxL + 11) + rm.locals ≤ R.locals)
    (hws : ∀ w ∈ ws, ∀ a' U, s.WarmedH U.vm → w.before a' U = true) (hcode : Cond.code y bytes maxL ret ∈ ws) (hinit : ∀ a' U, s.WarmedH U.vm → (Cond.initialized y.cls).before a' U = true) :
    vx_Back l R p e below s sargs y len W9 (PreOf R mc ms Pc) (PostOf Qc mc ms free) (vx_Post XC mc ms free) := by
  intro m meth c A g ig mk a X hg hsize hdg hW hn hp
  have h1 : (headSpec ws rm).pre.before a A.U = true := atoms_intro fun w hw => hws w hw _ _ X.warmed
  have h2 : (Cond.code y bytes maxL ret).before a A.U = true := hws _ hcode _ _ X.warmed
  have h3 : (Cond.initialized y.cls).before a A.U = true := hinit _ _ X.warmed
  have h4 : A.cells + (headSpec ws rm).room.cells ≤ R.cells := by rw [show (headSpec ws rm).room.cells = mc from hrc]; exact hp.1
  have h5 : A.slots + (headSpec ws rm).room.slots ≤ R.slots := by rw [show (headSpec ws rm).room.slots = ms from hrs]; exact hp.2.1
  have hPc : Pc a (A.U.calling g mk a) := hblind _ _ _ _ hp.2.2
  obtain ⟨U, Ls, c0, s0⟩ := A
  dsimp only [Pt.U, Pt.locs, Pt.cells, Pt.slots] at h1 h2 h3 h4 h5 X hn hPc ⊢
  obtain ⟨methY, cY, hmY, hcY, -, hlY, -, -, -, -⟩ := Cond.code_spec hn h2
  obtain ⟨kY, hkY, -⟩ := className_of_methodNamed hn
  have hinitY : kY.init = .initialized := Cond.initialized_spec (findClass_of_methodNamed hn) hkY h3
  have h : At U g.method c below := by rw [hg]; exact X.here
  have hlocals9 : W9 + (maxL + 11) + (headSpec ws rm).room.locals ≤ R.locals := hlocals
  have happ : (headSpec ws rm).appliesLoose y e.platform (U.calling g mk a) = true :=
    Spec.appliesLoose_calling (g := g) h hdg hn hkY hinitY
      (X.room_calling (g := g) (R' := (headSpec ws rm).room) hsize hmY hcY hframes (by rw [hlY]; omega) h4 h5) h1
  obtain ⟨mid, hmid⟩ := h.above
  have hfr : (U.setTop g).frames = (.java g :: mid) ++ below := by rw [State.frames_setTop' g h.top, hmid]; rfl
  obtain ⟨o, s₂, hsteps, -, hend, hq⟩ := Steps.callFree hM p X.admits X.cas X.clock (acts := []) hfr happ hPc trivial
  have hq' : vx_Q Qc XC mc ms free a (U.calling g mk a) o s₂ := hq
  rw [State.frames_setTop' g h.top] at hend
  obtain ⟨g₀, hg0⟩ := Option.isSome_iff_exists.mp h.top
  obtain ⟨r, hr⟩ := State.topJava?_eq_some.mp hg0
  have hr' : (({ U with heap := s₂.heap, slotsUsed := s₂.slotsUsed } : State).setVm s₂.vm).frames = .java g₀ :: r := hr
  rcases hq' with ⟨hqc, L, hfe, hL⟩ | ⟨q, rfl, E, ce, L, hx, hce, hcv, hcl, hW₂, hsm, hL⟩
  · obtain ⟨⟨v, rfl⟩, hW₂, e2, q2, q3, q4, q5, q6⟩ := id hfe
    have e3 : s₂ = ({ (U.calling g mk a).setFrames s₂.frames with heap := s₂.heap, slotsUsed := s₂.slotsUsed } : State).setVm s₂.vm := by
      have : s₂ = ({ s₂ with vm := (U.calling g mk a).vm } : State).setVm s₂.vm := rfl
      rw [e2] at this
      exact this
    obtain ⟨c₂, i₂, len₂, hc₂, hd₂, hf₂⟩ := hend
    have hW' : U.WarmedH s₂.vm := hW₂
    have hcc : c₂ = c := by
      have h1 : s₂.code? g.method = U.code? g.method := by
        rw [State.code?_eq, State.code?_eq, hW'.alike.method?]
      exact Option.some.inj (hc₂.symm.trans (h1.trans h.code))
    subst hcc
    have hlen : len₂ = len := by rw [hdg] at hd₂; cases hd₂; rfl
    subst hlen
    have hs₂ : s₂ = (({ U with heap := s₂.heap, slotsUsed := s₂.slotsUsed } : State).setVm s₂.vm).setTop { g with pc := g.pc + len₂, stack := v.toList ++ g.stack } := by
      refine e3.trans ?_
      rw [hf₂, State.calling_eq h.top, State.setFrames_setFrames, State.setTop_of_frames _ hr', hr]
      rfl
    have hsame : U.sameButNew ({ U with heap := s₂.heap, slotsUsed := s₂.slotsUsed } : State) L mc ms := by
      refine ⟨?_, q2, q3, q4, q5, q6⟩
      obtain ⟨t, ht, -⟩ := State.frames_cons hr
      show ({ U with heap := s₂.heap, slotsUsed := s₂.slotsUsed } : State) = { U.setFrames U.frames with heap := s₂.heap, slotsUsed := s₂.slotsUsed }
      rw [State.setFrames_self ht]
    subst hg
    refine Or.inl ⟨v, ⟨(({ U with heap := s₂.heap, slotsUsed := s₂.slotsUsed } : State).setVm s₂.vm), Ls ++ L, c0 + mc, s0 + ms⟩,
      ⟨X.admits, X.cas, X.clock, X.frames, X.room, X.hears, X.method, X.code, (X.here.setHeapUsed s₂.heap s₂.slotsUsed).setVm hW'.alike, X.tail, State.WarmedH.trans X.warmed hW', X.limits, X.bytes, X.same.trans (hsame.setVm s.vm)⟩,
      ⟨g, mk, s₂, L, rfl, rfl, hqc, rfl, hL, rfl, rfl⟩, ?_⟩
    show Steps p.tables e below _ ((({ U with heap := s₂.heap, slotsUsed := s₂.slotsUsed } : State).setVm s₂.vm).setTop { g with pc := g.pc + len₂, stack := v.toList ++ g.stack })
    rw [← hs₂]
    exact hsteps
  · obtain ⟨e2, q2, q3, q4, q5, q6⟩ := id hsm
    have e3 : s₂ = ({ (U.calling g mk a).setFrames s₂.frames with heap := s₂.heap, slotsUsed := s₂.slotsUsed } : State).setVm s₂.vm := by
      have : s₂ = ({ s₂ with vm := (U.calling g mk a).vm } : State).setVm s₂.vm := rfl
      rw [e2] at this
      exact this
    have hf₂ : s₂.frames = .throwing q :: .java g :: U.frames.tail := hend
    have hW' : U.WarmedH s₂.vm := hW₂
    have hs₂ : s₂ = ((({ U with heap := s₂.heap, slotsUsed := s₂.slotsUsed } : State).setVm s₂.vm).setTop g).pushFrame (.throwing q) := by
      refine e3.trans ?_
      rw [hf₂, State.calling_eq h.top, State.setFrames_setFrames, State.pushFrame, State.frames_setTop _ hr', State.setTop_of_frames _ hr', State.setFrames_setFrames, hr]
      rfl
    have hsame : U.sameButNew ({ U with heap := s₂.heap, slotsUsed := s₂.slotsUsed } : State) L mc ms := by
      refine ⟨?_, q2, q3, q4, q5, q6⟩
      obtain ⟨t, ht, -⟩ := State.frames_cons hr
      show ({ U with heap := s₂.heap, slotsUsed := s₂.slotsUsed } : State) = { U.setFrames U.frames with heap := s₂.heap, slotsUsed := s₂.slotsUsed }
      rw [State.setFrames_self ht]
    subst hg
    refine Or.inr ⟨q, ⟨(({ U with heap := s₂.heap, slotsUsed := s₂.slotsUsed } : State).setVm s₂.vm), Ls ++ L, c0 + mc, s0 + ms⟩,
      ⟨X.admits, X.cas, X.clock, X.frames, X.room, X.hears, X.method, X.code, (X.here.setHeapUsed s₂.heap s₂.slotsUsed).setVm hW'.alike, X.tail, State.WarmedH.trans X.warmed hW', X.limits, X.bytes, X.same.trans (hsame.setVm s.vm)⟩,
      ⟨g, mk, s₂, L, E, ce, rfl, rfl, hx, hce, hcv, hcl, rfl, hL, rfl, rfl⟩, ?_⟩
    show Steps p.tables e below _ (((({ U with heap := s₂.heap, slotsUsed := s₂.slotsUsed } : State).setVm s₂.vm).setTop g).pushFrame (.throwing q))
    rw [← hs₂]
    exact hsteps
end Payer
section Calls
variable {p : Program} {l : Launch} {e : Env} {R : Room} {s : State} {m : MethodId} {args : Array Value} {below : List Frame} {meth : Method} {c : Code} {T : State} {locs : List Loc} {cells slots : Nat}
theorem vx_callV (X : Stand p l e R s m args below meth c T locs cells slots) (hexec : p.tables.exec = Jvm.exec) {own C : String} {index : Nat} {y : MethodName} {bytes : ByteArray} {maxL : Nat} {ret : Option FieldType}
    (hown : s.vm.findClass own = some m.cls) (hlink : (Cond.methodLink own index y).before args s = true) (hinst : (Cond.instanceMethod y).before args s = true) (hsel : (Cond.selects C y y).before args s = true)
    (hcode : (Cond.code y bytes maxL ret).before args s = true) (hy : y.cls ≠ "java/lang/invoke/MethodHandle" ∧ y.cls ≠ "java/lang/invoke/VarHandle")
    {W9 : Nat} {Pre : Pt → Array Value → Prop} {Post : Pt → Array Value → Option Value → Pt → Prop} {PostX : Pt → Array Value → Addr → Pt → Prop} (hK : vx_Back l R p e below s args y 3 W9 Pre Post PostX)
    {b : Addr} {cellB : Cell} (hcell : T.heap[b]? = some cellB) (hobj : cellB.vm.isStatics = false) (hcls : s.vm.findClass C = some cellB.cls)
    {g : JFrame} (hg : g.method = m) (hsize : g.locals.size = c.maxLocals) {argsL rest : List Value} (hlen : ∀ sig, parseMethodDescriptor y.desc = some sig → argsL.length = sig.parameters.length)
    (hstack : g.stack = argsL.reverse ++ .ref b :: rest) (hW : 2 * g.monitorRoom + (rest.map fun v => v.category).sum ≤ W9) (hdg : decode c.code g.pc = .ok (.invokevirtual index, 3))
    (hpre : ∀ vm₁, s.WarmedH vm₁ → Pre ⟨T.setVm vm₁, locs, cells, slots⟩ (Value.ref b :: argsL).toArray) :
    (∃ (v : Option Value) (vm₁ : Vm) (B : Pt), s.WarmedH vm₁ ∧ Stand p l e R s m args below meth c B.U B.locs B.cells B.slots ∧ Post ⟨T.setVm vm₁, locs, cells, slots⟩ (Value.ref b :: argsL).toArray v B ∧
      ∀ target, Steps p.tables e below (B.U.setTop { g with pc := g.pc + 3, stack := v.toList ++ rest }) target → Steps p.tables e below (T.setTop g) target) ∨
    (∃ (q : Addr) (vm₁ : Vm) (B : Pt), s.WarmedH vm₁ ∧ Stand p l e R s m args below meth c B.U B.locs B.cells B.slots ∧ PostX ⟨T.setVm vm₁, locs, cells, slots⟩ (Value.ref b :: argsL).toArray q B ∧
      Steps p.tables e below (T.setTop g) ((B.U.setTop { g with stack := rest }).pushFrame (.throwing q))) := by
  obtain ⟨mk, methM, hnamed, hmethM, hstM, habM⟩ := Cond.instanceMethod_spec hinst
  obtain ⟨methM', cM, hmethM', -, -, -, -, -, -, hsigM⟩ := Cond.code_spec hnamed hcode
  cases hmethM.symm.trans hmethM'
  obtain ⟨c2, r2, m2, q1, q2, q3, q4, kP, hkP, hkPi⟩ := Cond.selects_spec hsel
  cases hcls.symm.trans q1
  cases (State.methodFound?_of_named hnamed hy).symm.trans q2
  cases hnamed.symm.trans q3
  have hselP : selectMethod e.platform s.vm cellB.cls mk = .method mk := by rw [Launch.admits_selectMethod X.admits]; exact q4
  obtain ⟨vm₁, X₁, hstep₁⟩ := X.invokevirtual hexec hown hlink hnamed hmethM hstM hkP hkPi hy (a := b) (cell := cellB) hcell
    (fun z h => by rw [h] at hobj; cases hobj) hselP hmethM habM hkP hkPi (g := g) hg (argsL := argsL) (rest := rest) (hlen _ hsigM) hstack hdg
  rcases hK m meth c ⟨T.setVm vm₁, locs, cells, slots⟩ { g with stack := rest } (.invokevirtual index) mk (Value.ref b :: argsL).toArray X₁ hg hsize hdg hW (X₁.named hnamed) (hpre vm₁ X₁.warmed) with ⟨v, B, X', hpost, hsteps⟩ | ⟨q, B, X', hpost, hsteps⟩
  · exact Or.inl ⟨v, vm₁, B, X₁.warmed, X', hpost, fun target h => hstep₁ _ fun acts => by rw [doInvoke_state]; exact hsteps.trans h⟩
  · exact Or.inr ⟨q, vm₁, B, X₁.warmed, X', hpost, hstep₁ _ fun acts => by rw [doInvoke_state]; exact hsteps⟩
theorem vx_callS (X : Stand p l e R s m args below meth c T locs cells slots) (hexec : p.tables.exec = Jvm.exec) {own : String} {index : Nat} {y : MethodName} {bytes : ByteArray} {maxL : Nat} {ret : Option FieldType}
    (hown : s.vm.findClass own = some m.cls) (hlink : (Cond.methodLink own index y).before args s = true) (hstat : (Cond.static y).before args s = true) (hinit : (Cond.initialized y.cls).before args s = true)
    (hcode : (Cond.code y bytes maxL ret).before args s = true) (hy : y.cls ≠ "java/lang/invoke/MethodHandle" ∧ y.cls ≠ "java/lang/invoke/VarHandle")
    {W9 : Nat} {Pre : Pt → Array Value → Prop} {Post : Pt → Array Value → Option Value → Pt → Prop} {PostX : Pt → Array Value → Addr → Pt → Prop} (hK : vx_Back l R p e below s args y 3 W9 Pre Post PostX)
    {g : JFrame} (hg : g.method = m) (hsize : g.locals.size = c.maxLocals) {argsL rest : List Value} (hlen : ∀ sig, parseMethodDescriptor y.desc = some sig → argsL.length = sig.parameters.length)
    (hstack : g.stack = argsL.reverse ++ rest) (hW : 2 * g.monitorRoom + (rest.map fun v => v.category).sum ≤ W9) (hdg : decode c.code g.pc = .ok (.invokestatic index, 3))
    (hpre : ∀ vm₁, s.WarmedH vm₁ → Pre ⟨T.setVm vm₁, locs, cells, slots⟩ argsL.toArray) :
    (∃ (v : Option Value) (vm₁ : Vm) (B : Pt), s.WarmedH vm₁ ∧ Stand p l e R s m args below meth c B.U B.locs B.cells B.slots ∧ Post ⟨T.setVm vm₁, locs, cells, slots⟩ argsL.toArray v B ∧
      ∀ target, Steps p.tables e below (B.U.setTop { g with pc := g.pc + 3, stack := v.toList ++ rest }) target → Steps p.tables e below (T.setTop g) target) ∨
    (∃ (q : Addr) (vm₁ : Vm) (B : Pt), s.WarmedH vm₁ ∧ Stand p l e R s m args below meth c B.U B.locs B.cells B.slots ∧ PostX ⟨T.setVm vm₁, locs, cells, slots⟩ argsL.toArray q B ∧
      Steps p.tables e below (T.setTop g) ((B.U.setTop { g with stack := rest }).pushFrame (.throwing q))) := by
  obtain ⟨mk, hnamed⟩ := Cond.code_named hcode
  obtain ⟨methM, cM, hmethM, -, -, -, -, -, -, hsigM⟩ := Cond.code_spec hnamed hcode
  have hstatic : methM.isStatic = true := Cond.static_spec hnamed hmethM hstat
  obtain ⟨kP, hkP, -⟩ := className_of_methodNamed hnamed
  have hinitP : kP.init = .initialized := Cond.initialized_spec (findClass_of_methodNamed hnamed) hkP hinit
  obtain ⟨vm₁, X₁, hstep₁⟩ := X.invokestatic hexec hown hlink hnamed hmethM hstatic hkP hinitP hy (g := g) hg (argsL := argsL) (rest := rest) (hlen _ hsigM) hstack hdg
  rcases hK m meth c ⟨T.setVm vm₁, locs, cells, slots⟩ { g with stack := rest } (.invokestatic index) mk argsL.toArray X₁ hg hsize hdg hW (X₁.named hnamed) (hpre vm₁ X₁.warmed) with ⟨v, B, X', hpost, hsteps⟩ | ⟨q, B, X', hpost, hsteps⟩
  · exact Or.inl ⟨v, vm₁, B, X₁.warmed, X', hpost, fun target h => hstep₁ _ fun acts => by rw [doInvoke_state]; exact hsteps.trans h⟩
  · exact Or.inr ⟨q, vm₁, B, X₁.warmed, X', hpost, hstep₁ _ fun acts => by rw [doInvoke_state]; exact hsteps⟩
end Calls
theorem vx_cls {s : State} {T : State} {vm₁ : Vm} {E : String} {k : ClassId} (hW : s.WarmedH vm₁) (h : (T.setVm vm₁).vm.findClass E = some k) : s.vm.findClass E = some k := by
  have h1 : vm₁.findClass E = some k := h
  rw [hW.alike.findClass] at h1
  exact h1
/-- the method's frame g, with q thrown over it -/
def vx_W (p : Program) (l : Launch) (e : Env) (R : Room) (s : State) (m : MethodId) (args : Array Value) (below : List Frame) (meth : Method) (c : Code) (H : Heap) (locs : List Loc) (cells slots : Nat) (Q : State → Prop) (g : JFrame) (q : Addr) : Prop :=
  ∀ T : State, T.heap = H → Stand p l e R s m args below meth c T locs cells slots → ∃ t, Steps p.tables e below ((T.setTop g).pushFrame (.throwing q)) t ∧ Q t
def vx_Run (p : Program) (l : Launch) (e : Env) (R : Room) (s : State) (m : MethodId) (args : Array Value) (below : List Frame) (meth : Method) (c : Code) (H : Heap) (locs : List Loc) (cells slots mc ms : Nat) (g : JFrame) (rest : List Value) (Qa : State → Outcome → State → Prop) (XC : String → State → State → Prop) (free : Addr → Prop) : Prop :=
  ∀ T : State, T.heap = H → Stand p l e R s m args below meth c T locs cells slots →
    (∃ (v : Option Value) (st₀ t T' : State) (L : List Loc), st₀.heap = H ∧ Stand p l e R s m args below meth c T' (locs ++ L) (cells + mc) (slots + ms) ∧ (∀ q ∈ L, free q.base) ∧ T'.heap = t.heap ∧ T'.vm = t.vm ∧ Qa st₀ (.returned v) t ∧
      Goes p e below T g T' { g with pc := g.pc + 3, stack := v.toList ++ rest }) ∨
    (∃ (q : Addr) (st₀ t T' : State) (L : List Loc) (E : String) (ce : Cell), st₀.heap = H ∧ Stand p l e R s m args below meth c T' (locs ++ L) (cells + mc) (slots + ms) ∧ (∀ z ∈ L, free z.base) ∧ T'.heap = t.heap ∧ T'.vm = t.vm ∧ XC E st₀ t ∧ t.heap[q]? = some ce ∧ ce.vm = .none ∧ s.vm.findClass E = some ce.cls ∧
      Steps p.tables e below (T.setTop g) ((T'.setTop { g with stack := rest }).pushFrame (.throwing q)))
def vx_X {S : Type} (px : S → Prop) (B : String → S → State → Prop) (A : Nat → Prop) : String → State → State → Prop := fun E st t => ∃ u : S, px u ∧ B E u t ∧ va_F A st t
section Runs
variable {p : Program} {l : Launch} {e : Env} {R : Room} {s : State} {m : MethodId} {args : Array Value} {below : List Frame} {meth : Method} {c : Code} {H : Heap} {locs : List Loc} {cells slots : Nat}
variable {y : MethodName} {bytes cc : ByteArray} {maxL nL mc ms n index : Nat} {ret : Option FieldType} {ws : List Cond} {rm : Room} {Pc : Array Value → State → Prop} {Qc : Array Value → State → Outcome → State → Prop} {XC : String → State → State → Prop} {free : Addr → Prop} {Ts : List Cond} {own C : String} {b : Addr} {As rest : List Value} {g : JFrame}
theorem vx_callBack (cb : CallB R s args own index y bytes maxL ret ws rm mc ms n) (hM : vx_Met l y ws rm Pc Qc XC mc ms free) (hbl : FrameBlind Pc) : vx_Back l R p e below s args y 3 8 (PreOf R mc ms Pc) (PostOf Qc mc ms free) (vx_Post XC mc ms free) := by
  obtain ⟨hrc, hrs, hfr, hlo, hws, hcw, -, hini, -⟩ := cb
  exact vx_back (bytes := bytes) (maxL := maxL) (ret := ret) hM hbl hrc hrs hfr hlo hws hcw (fun a' U hW => word_at hW (Or.inl (by first | rfl | simp [Cond.onTables, Cond.keeps, Cond.steady])) hini)
theorem vx_runV (S : CallFix p m c cc nL s args Ts own) (hM : vx_Met l y ws rm Pc Qc XC mc ms free) (cw : CallW R s args own C index y bytes maxL ret ws rm mc ms n) (hp : PreV s H C b Pc As)
    (hg : g.method = m) (hn : As.length = n) (hsize : g.locals.size = nL) (hstack : g.stack = As.reverse ++ .ref b :: rest) (hW : 2 * g.monitorRoom + (rest.map fun v => v.category).sum ≤ 8) (hdg : decode cc g.pc = .ok (.invokevirtual index, 3)) (hf : cells + mc ≤ R.cells ∧ slots + ms ≤ R.slots) :
    vx_Run p l e R s m args below meth c H locs cells slots mc ms g rest (Qc (Value.ref b :: As).toArray) XC free := by
  have hK : vx_Back l R p e below s args y 3 8 (PreOf R mc ms Pc) (PostOf Qc mc ms free) (vx_Post XC mc ms free) := vx_callBack cw.1 hM hp.1
  obtain ⟨⟨-, -, -, -, -, -, hcode, -, hy, hlen, hl⟩, hin, hse⟩ := cw
  obtain ⟨hx, hb, hml, ho, -⟩ := S
  obtain ⟨-, ⟨cellB, hcB, hoB, hclB⟩, hPc⟩ := hp
  intro T hT X
  rcases vx_callV X hx (C := C) (bytes := bytes) (maxL := maxL) (ret := ret) ho hl hin hse hcode hy hK (by rw [hT]; exact hcB) hoB hclB hg (hsize.trans hml.symm) (argsL := As) (rest := rest) (fun sig h => hn.trans (hlen sig h)) hstack hW (by rw [hb]; exact hdg)
    (fun vm₁ hW₁ => ⟨hf.1, hf.2, hPc (T.setVm vm₁) hT hW₁⟩) with ⟨v, vm₁, ⟨U', l2, c2, s2⟩, hW₁, X', ⟨g', mk, t, L, e1, e2, hq, h1, hL, h2, h3⟩, st⟩ | ⟨q, vm₁, ⟨U', l2, c2, s2⟩, hW₁, X', ⟨g', mk, t, L, E, ce, e1, e2, hq, hce, hcv, hcl, h1, hL, h2, h3⟩, st⟩
  · dsimp only [Pt.U, Pt.locs, Pt.cells, Pt.slots] at X' e1 e2 h1 h2 h3 st
    subst h1; subst h2; subst h3
    exact Or.inl ⟨v, (T.setVm vm₁).calling g' mk (Value.ref b :: As).toArray, t, U', L, hT, X', hL, e1, e2, hq, st⟩
  · dsimp only [Pt.U, Pt.locs, Pt.cells, Pt.slots] at X' e1 e2 h1 h2 h3 st hcl
    subst h1; subst h2; subst h3
    exact Or.inr ⟨q, (T.setVm vm₁).calling g' mk (Value.ref b :: As).toArray, t, U', L, E, ce, hT, X', hL, e1, e2, hq, hce, hcv, vx_cls hW₁ hcl, st⟩
theorem vx_runS (S : CallFix p m c cc nL s args Ts own) (hM : vx_Met l y ws rm Pc Qc XC mc ms free) (cw : CallB R s args own index y bytes maxL ret ws rm mc ms n ∧ (Cond.static y).before args s = true) (hp : PreS s H Pc As)
    (hg : g.method = m) (hn : As.length = n) (hsize : g.locals.size = nL) (hstack : g.stack = As.reverse ++ rest) (hW : 2 * g.monitorRoom + (rest.map fun v => v.category).sum ≤ 8) (hdg : decode cc g.pc = .ok (.invokestatic index, 3)) (hf : cells + mc ≤ R.cells ∧ slots + ms ≤ R.slots) :
    vx_Run p l e R s m args below meth c H locs cells slots mc ms g rest (Qc As.toArray) XC free := by
  have hK : vx_Back l R p e below s args y 3 8 (PreOf R mc ms Pc) (PostOf Qc mc ms free) (vx_Post XC mc ms free) := vx_callBack cw.1 hM hp.1
  obtain ⟨⟨-, -, -, -, -, -, hcode, hini, hy, hlen, hl⟩, hstt⟩ := cw
  obtain ⟨hx, hb, hml, ho, -⟩ := S
  intro T hT X
  rcases vx_callS X hx (bytes := bytes) (maxL := maxL) (ret := ret) ho hl hstt hini hcode hy hK hg (hsize.trans hml.symm) (argsL := As) (rest := rest) (fun sig h => hn.trans (hlen sig h)) hstack hW (by rw [hb]; exact hdg)
    (fun vm₁ hW₁ => ⟨hf.1, hf.2, hp.2 (T.setVm vm₁) hT hW₁⟩) with ⟨v, vm₁, ⟨U', l2, c2, s2⟩, hW₁, X', ⟨g', mk, t, L, e1, e2, hq, h1, hL, h2, h3⟩, st⟩ | ⟨q, vm₁, ⟨U', l2, c2, s2⟩, hW₁, X', ⟨g', mk, t, L, E, ce, e1, e2, hq, hce, hcv, hcl, h1, hL, h2, h3⟩, st⟩
  · dsimp only [Pt.U, Pt.locs, Pt.cells, Pt.slots] at X' e1 e2 h1 h2 h3 st
    subst h1; subst h2; subst h3
    exact Or.inl ⟨v, (T.setVm vm₁).calling g' mk As.toArray, t, U', L, hT, X', hL, e1, e2, hq, st⟩
  · dsimp only [Pt.U, Pt.locs, Pt.cells, Pt.slots] at X' e1 e2 h1 h2 h3 st hcl
    subst h1; subst h2; subst h3
    exact Or.inr ⟨q, (T.setVm vm₁).calling g' mk As.toArray, t, U', L, E, ce, hT, X', hL, e1, e2, hq, hce, hcv, vx_cls hW₁ hcl, st⟩
end Runs
section Rows
variable {p : Program} {l : Launch} {e : Env} {R : Room} {s : State} {m : MethodId} {args : Array Value} {below : List Frame} {meth : Method} {c : Code} {H : Heap} {locs : List Loc} {cells slots : Nat} {Q : State → Prop}
variable {mc ms : Nat} {free : Addr → Prop} {A0 A1 : Nat → Prop} {H0 : Heap} {a : Array Value} {pc : Nat} {ls : Array Slot} {st0 rest : List Value}
theorem vx_keep {st₀ t T' : State} {L : List Loc} (h0 : st₀.heap = H) (e1 : T'.heap = t.heap) (hS : va_S A0 H0 H locs) (hA : ∀ q, q < H.size → A1 q → A0 q) (hf : ∀ q, free q → A0 q) (hL : ∀ q ∈ L, free q.base) (hF : va_F A1 st₀ t) :
    H.size ≤ T'.heap.size ∧ (∀ q : Nat, q < H.size → ¬ A1 q → T'.heap[q]? = H[q]?) ∧ va_S A0 H0 T'.heap (locs ++ L) := by
  obtain ⟨hz, hk⟩ := hF
  rw [h0] at hz hk
  exact ⟨by rw [e1]; exact hz, fun q h1 h2 => by rw [e1]; exact hk q h1 h2,
    ⟨Nat.le_trans hS.1 (by rw [e1]; exact hz), fun q h1 h2 => by rw [e1, hk q (Nat.lt_of_lt_of_le h1 hS.1) (fun z => h2 (hA q (Nat.lt_of_lt_of_le h1 hS.1) z))]; exact hS.2.1 q h1 h2, fun q hq => by
      rcases List.mem_append.mp hq with h | h
      · exact hS.2.2 q h
      · exact hf _ (hL q h)⟩⟩
theorem vx_calli {S SX : Type} {post : Int32 → S → Prop} {px : SX → Prop} {B : S → State → Prop} {BX : String → SX → State → Prop} {AX : Nat → Prop} (hr : vx_Run p l e R s m args below meth c H locs cells slots mc ms (F0 m pc ls st0) rest (va_Qi post B A1 a) (vx_X px BX AX) free) (hS : va_S A0 H0 H locs) (hA : ∀ q, q < H.size → A1 q → A0 q) (hf : ∀ q, free q → A0 q) (hAX : ∀ q, q < H.size → AX q → A0 q)
    (kx : ∀ (E : String) (ce : Cell) (q9 : Addr) (u : SX) (t : State) (H1 : Heap) (locs1 : List Loc), t.heap = H1 → s.vm.Alike t.vm → px u → BX E u t → H.size ≤ H1.size → (∀ q : Nat, q < H.size → ¬ AX q → H1[q]? = H[q]?) → va_S A0 H0 H1 locs1 → H1[q9]? = some ce → ce.vm = .none → s.vm.findClass E = some ce.cls → vx_W p l e R s m args below meth c H1 locs1 (cells + mc) (slots + ms) Q (F0 m pc ls rest) q9)
    (kk : ∀ (r : Int32) (u : S) (t : State) (H1 : Heap) (locs1 : List Loc), t.heap = H1 → s.vm.Alike t.vm → post r u → B u t → H.size ≤ H1.size → (∀ q : Nat, q < H.size → ¬ A1 q → H1[q]? = H[q]?) → va_S A0 H0 H1 locs1 → W p l e R s m args below meth c H1 locs1 (cells + mc) (slots + ms) Q (F0 m (pc + 3) ls (.int r :: rest))) : W p l e R s m args below meth c H locs cells slots Q (F0 m pc ls st0) := by
  intro T hT X
  rcases hr T hT X with ⟨v, st₀, t, T', L, h0, X', hL, e1, e2, ⟨⟨r, u, hv, hp, hb⟩, hF⟩, st⟩ | ⟨q, st₀, t, T', L, E, ce, h0, X', hL, e1, e2, ⟨u, hp, hb, hF⟩, hce, hcv, hcl, st⟩
  · cases hv
    obtain ⟨k1, k2, k3⟩ := vx_keep h0 e1 hS hA hf hL hF
    obtain ⟨t2, a1, b1⟩ := kk r u t T'.heap (locs ++ L) e1.symm (by rw [← e2]; exact X'.warmed.alike) hp hb k1 k2 k3 T' rfl X'
    exact ⟨t2, st t2 a1, b1⟩
  · obtain ⟨k1, k2, k3⟩ := vx_keep h0 e1 hS hAX hf hL hF
    obtain ⟨t2, a1, b1⟩ := kx E ce q u t T'.heap (locs ++ L) e1.symm (by rw [← e2]; exact X'.warmed.alike) hp hb k1 k2 k3 (by rw [e1]; exact hce) hcv hcl T' rfl X'
    exact ⟨t2, st.trans a1, b1⟩
theorem vx_calll {S SX : Type} {post : Int64 → S → Prop} {px : SX → Prop} {B : S → State → Prop} {BX : String → SX → State → Prop} {AX : Nat → Prop} (hr : vx_Run p l e R s m args below meth c H locs cells slots mc ms (F0 m pc ls st0) rest (va_Ql post B A1 a) (vx_X px BX AX) free) (hS : va_S A0 H0 H locs) (hA : ∀ q, q < H.size → A1 q → A0 q) (hf : ∀ q, free q → A0 q) (hAX : ∀ q, q < H.size → AX q → A0 q)
    (kx : ∀ (E : String) (ce : Cell) (q9 : Addr) (u : SX) (t : State) (H1 : Heap) (locs1 : List Loc), t.heap = H1 → s.vm.Alike t.vm → px u → BX E u t → H.size ≤ H1.size → (∀ q : Nat, q < H.size → ¬ AX q → H1[q]? = H[q]?) → va_S A0 H0 H1 locs1 → H1[q9]? = some ce → ce.vm = .none → s.vm.findClass E = some ce.cls → vx_W p l e R s m args below meth c H1 locs1 (cells + mc) (slots + ms) Q (F0 m pc ls rest) q9)
    (kk : ∀ (r : Int64) (u : S) (t : State) (H1 : Heap) (locs1 : List Loc), t.heap = H1 → s.vm.Alike t.vm → post r u → B u t → H.size ≤ H1.size → (∀ q : Nat, q < H.size → ¬ A1 q → H1[q]? = H[q]?) → va_S A0 H0 H1 locs1 → W p l e R s m args below meth c H1 locs1 (cells + mc) (slots + ms) Q (F0 m (pc + 3) ls (.long r :: rest))) : W p l e R s m args below meth c H locs cells slots Q (F0 m pc ls st0) := by
  intro T hT X
  rcases hr T hT X with ⟨v, st₀, t, T', L, h0, X', hL, e1, e2, ⟨⟨r, u, hv, hp, hb⟩, hF⟩, st⟩ | ⟨q, st₀, t, T', L, E, ce, h0, X', hL, e1, e2, ⟨u, hp, hb, hF⟩, hce, hcv, hcl, st⟩
  · cases hv
    obtain ⟨k1, k2, k3⟩ := vx_keep h0 e1 hS hA hf hL hF
    obtain ⟨t2, a1, b1⟩ := kk r u t T'.heap (locs ++ L) e1.symm (by rw [← e2]; exact X'.warmed.alike) hp hb k1 k2 k3 T' rfl X'
    exact ⟨t2, st t2 a1, b1⟩
  · obtain ⟨k1, k2, k3⟩ := vx_keep h0 e1 hS hAX hf hL hF
    obtain ⟨t2, a1, b1⟩ := kx E ce q u t T'.heap (locs ++ L) e1.symm (by rw [← e2]; exact X'.warmed.alike) hp hb k1 k2 k3 (by rw [e1]; exact hce) hcv hcl T' rfl X'
    exact ⟨t2, st.trans a1, b1⟩
theorem vx_callf {S SX : Type} {post : UInt32 → S → Prop} {px : SX → Prop} {B : S → State → Prop} {BX : String → SX → State → Prop} {AX : Nat → Prop} (hr : vx_Run p l e R s m args below meth c H locs cells slots mc ms (F0 m pc ls st0) rest (va_Qf post B A1 a) (vx_X px BX AX) free) (hS : va_S A0 H0 H locs) (hA : ∀ q, q < H.size → A1 q → A0 q) (hf : ∀ q, free q → A0 q) (hAX : ∀ q, q < H.size → AX q → A0 q)
    (kx : ∀ (E : String) (ce : Cell) (q9 : Addr) (u : SX) (t : State) (H1 : Heap) (locs1 : List Loc), t.heap = H1 → s.vm.Alike t.vm → px u → BX E u t → H.size ≤ H1.size → (∀ q : Nat, q < H.size → ¬ AX q → H1[q]? = H[q]?) → va_S A0 H0 H1 locs1 → H1[q9]? = some ce → ce.vm = .none → s.vm.findClass E = some ce.cls → vx_W p l e R s m args below meth c H1 locs1 (cells + mc) (slots + ms) Q (F0 m pc ls rest) q9)
    (kk : ∀ (r : UInt32) (u : S) (t : State) (H1 : Heap) (locs1 : List Loc), t.heap = H1 → s.vm.Alike t.vm → post r u → B u t → H.size ≤ H1.size → (∀ q : Nat, q < H.size → ¬ A1 q → H1[q]? = H[q]?) → va_S A0 H0 H1 locs1 → W p l e R s m args below meth c H1 locs1 (cells + mc) (slots + ms) Q (F0 m (pc + 3) ls (.float r :: rest))) : W p l e R s m args below meth c H locs cells slots Q (F0 m pc ls st0) := by
  intro T hT X
  rcases hr T hT X with ⟨v, st₀, t, T', L, h0, X', hL, e1, e2, ⟨⟨r, u, hv, hp, hb⟩, hF⟩, st⟩ | ⟨q, st₀, t, T', L, E, ce, h0, X', hL, e1, e2, ⟨u, hp, hb, hF⟩, hce, hcv, hcl, st⟩
  · cases hv
    obtain ⟨k1, k2, k3⟩ := vx_keep h0 e1 hS hA hf hL hF
    obtain ⟨t2, a1, b1⟩ := kk r u t T'.heap (locs ++ L) e1.symm (by rw [← e2]; exact X'.warmed.alike) hp hb k1 k2 k3 T' rfl X'
    exact ⟨t2, st t2 a1, b1⟩
  · obtain ⟨k1, k2, k3⟩ := vx_keep h0 e1 hS hAX hf hL hF
    obtain ⟨t2, a1, b1⟩ := kx E ce q u t T'.heap (locs ++ L) e1.symm (by rw [← e2]; exact X'.warmed.alike) hp hb k1 k2 k3 (by rw [e1]; exact hce) hcv hcl T' rfl X'
    exact ⟨t2, st.trans a1, b1⟩
theorem vx_calld {S SX : Type} {post : UInt64 → S → Prop} {px : SX → Prop} {B : S → State → Prop} {BX : String → SX → State → Prop} {AX : Nat → Prop} (hr : vx_Run p l e R s m args below meth c H locs cells slots mc ms (F0 m pc ls st0) rest (va_Qd post B A1 a) (vx_X px BX AX) free) (hS : va_S A0 H0 H locs) (hA : ∀ q, q < H.size → A1 q → A0 q) (hf : ∀ q, free q → A0 q) (hAX : ∀ q, q < H.size → AX q → A0 q)
    (kx : ∀ (E : String) (ce : Cell) (q9 : Addr) (u : SX) (t : State) (H1 : Heap) (locs1 : List Loc), t.heap = H1 → s.vm.Alike t.vm → px u → BX E u t → H.size ≤ H1.size → (∀ q : Nat, q < H.size → ¬ AX q → H1[q]? = H[q]?) → va_S A0 H0 H1 locs1 → H1[q9]? = some ce → ce.vm = .none → s.vm.findClass E = some ce.cls → vx_W p l e R s m args below meth c H1 locs1 (cells + mc) (slots + ms) Q (F0 m pc ls rest) q9)
    (kk : ∀ (r : UInt64) (u : S) (t : State) (H1 : Heap) (locs1 : List Loc), t.heap = H1 → s.vm.Alike t.vm → post r u → B u t → H.size ≤ H1.size → (∀ q : Nat, q < H.size → ¬ A1 q → H1[q]? = H[q]?) → va_S A0 H0 H1 locs1 → W p l e R s m args below meth c H1 locs1 (cells + mc) (slots + ms) Q (F0 m (pc + 3) ls (.double r :: rest))) : W p l e R s m args below meth c H locs cells slots Q (F0 m pc ls st0) := by
  intro T hT X
  rcases hr T hT X with ⟨v, st₀, t, T', L, h0, X', hL, e1, e2, ⟨⟨r, u, hv, hp, hb⟩, hF⟩, st⟩ | ⟨q, st₀, t, T', L, E, ce, h0, X', hL, e1, e2, ⟨u, hp, hb, hF⟩, hce, hcv, hcl, st⟩
  · cases hv
    obtain ⟨k1, k2, k3⟩ := vx_keep h0 e1 hS hA hf hL hF
    obtain ⟨t2, a1, b1⟩ := kk r u t T'.heap (locs ++ L) e1.symm (by rw [← e2]; exact X'.warmed.alike) hp hb k1 k2 k3 T' rfl X'
    exact ⟨t2, st t2 a1, b1⟩
  · obtain ⟨k1, k2, k3⟩ := vx_keep h0 e1 hS hAX hf hL hF
    obtain ⟨t2, a1, b1⟩ := kx E ce q u t T'.heap (locs ++ L) e1.symm (by rw [← e2]; exact X'.warmed.alike) hp hb k1 k2 k3 (by rw [e1]; exact hce) hcv hcl T' rfl X'
    exact ⟨t2, st.trans a1, b1⟩
theorem vx_callv {S SX : Type} {post : S → Prop} {px : SX → Prop} {B : S → State → Prop} {BX : String → SX → State → Prop} {AX : Nat → Prop} (hr : vx_Run p l e R s m args below meth c H locs cells slots mc ms (F0 m pc ls st0) rest (va_Qv post B A1 a) (vx_X px BX AX) free) (hS : va_S A0 H0 H locs) (hA : ∀ q, q < H.size → A1 q → A0 q) (hf : ∀ q, free q → A0 q) (hAX : ∀ q, q < H.size → AX q → A0 q)
    (kx : ∀ (E : String) (ce : Cell) (q9 : Addr) (u : SX) (t : State) (H1 : Heap) (locs1 : List Loc), t.heap = H1 → s.vm.Alike t.vm → px u → BX E u t → H.size ≤ H1.size → (∀ q : Nat, q < H.size → ¬ AX q → H1[q]? = H[q]?) → va_S A0 H0 H1 locs1 → H1[q9]? = some ce → ce.vm = .none → s.vm.findClass E = some ce.cls → vx_W p l e R s m args below meth c H1 locs1 (cells + mc) (slots + ms) Q (F0 m pc ls rest) q9)
    (kk : ∀ (u : S) (t : State) (H1 : Heap) (locs1 : List Loc), t.heap = H1 → s.vm.Alike t.vm → post u → B u t → H.size ≤ H1.size → (∀ q : Nat, q < H.size → ¬ A1 q → H1[q]? = H[q]?) → va_S A0 H0 H1 locs1 → W p l e R s m args below meth c H1 locs1 (cells + mc) (slots + ms) Q (F0 m (pc + 3) ls (rest))) : W p l e R s m args below meth c H locs cells slots Q (F0 m pc ls st0) := by
  intro T hT X
  rcases hr T hT X with ⟨v, st₀, t, T', L, h0, X', hL, e1, e2, ⟨⟨u, hv, hp, hb⟩, hF⟩, st⟩ | ⟨q, st₀, t, T', L, E, ce, h0, X', hL, e1, e2, ⟨u, hp, hb, hF⟩, hce, hcv, hcl, st⟩
  · cases hv
    obtain ⟨k1, k2, k3⟩ := vx_keep h0 e1 hS hA hf hL hF
    obtain ⟨t2, a1, b1⟩ := kk u t T'.heap (locs ++ L) e1.symm (by rw [← e2]; exact X'.warmed.alike) hp hb k1 k2 k3 T' rfl X'
    exact ⟨t2, st t2 a1, b1⟩
  · obtain ⟨k1, k2, k3⟩ := vx_keep h0 e1 hS hAX hf hL hF
    obtain ⟨t2, a1, b1⟩ := kx E ce q u t T'.heap (locs ++ L) e1.symm (by rw [← e2]; exact X'.warmed.alike) hp hb k1 k2 k3 (by rw [e1]; exact hce) hcv hcl T' rfl X'
    exact ⟨t2, st.trans a1, b1⟩
/-- caught by the row x of this method's table; the rows ahead don't take it -/
theorem vx_catch {own name : String} {E : String} {ce : Cell} {q : Addr} (hown : s.vm.findClass own = some m.cls) (pre : List ExceptionTableEntry) (x : ExceptionTableEntry) (suf : List ExceptionTableEntry) (hsplit : c.exceptionTable.toList = pre ++ x :: suf)
    (hpass : ∀ z ∈ pre, covers z pc = false ∨ (z.catchType ≠ 0 ∧ ∃ nm : String, (Cond.classLink own z.catchType nm).before args s = true ∧ va_Nc E nm s)) (hx : covers x pc = true) (h0 : x.catchType ≠ 0)
    (hlink : (Cond.classLink own x.catchType name).before args s = true) (hcast : (Cond.castable E name).before args s = true) (hcell : H[q]? = some ce) (hv : ce.vm = .none) (hcl : s.vm.findClass E = some ce.cls)
    (kk : W p l e R s m args below meth c H locs cells slots Q (F0 m x.handlerPc ls [.ref q])) : vx_W p l e R s m args below meth c H locs cells slots Q (F0 m pc ls rest) q := by
  intro T hT X
  have hpl : e.platform.magicAccessors = ({} : Platform).magicAccessors := by rw [X.admits.platform]
  obtain ⟨c3, c4, hc3, hc4, hasg⟩ := Cond.castable_spec hcast
  cases Option.some.inj (hc3.symm.trans hcl)
  obtain ⟨c5, hc5, hcl5⟩ := Cond.classLink_spec hown hlink e.platform hpl
  cases Option.some.inj (hc4.symm.trans hc5)
  obtain ⟨vm', X', st⟩ := X.thenCaughtThrough q (g := F0 m pc ls rest) rfl (Steps.refl _) (by rw [hT]; exact hcell) (by rw [hv]; rfl) (by obtain ⟨k9, h9, -⟩ := Vm.findClass_spec hcl; exact ⟨k9, h9⟩) pre x suf hsplit
    (fun z hz => by
      rcases hpass z hz with h | ⟨hz0, nm, hl1, hn1⟩
      · exact Or.inl h
      · obtain ⟨c6, hc6, hcl6⟩ := Cond.classLink_spec hown hl1 e.platform hpl
        obtain ⟨a8, b8, h1, h2, h3⟩ := hn1
        cases Option.some.inj (h1.symm.trans hcl)
        cases Option.some.inj (h2.symm.trans hc6)
        exact Or.inr ⟨hz0, _, hcl6, h3⟩) hx (Or.inr ⟨h0, c4, hcl5, hasg⟩)
  obtain ⟨t, a1, b1⟩ := kk (T.setVm vm') hT X'
  exact ⟨t, st.trans a1, b1⟩
end Rows
section Ends
variable {p : Program} {l : Launch} {e : Env} {R : Room} {s : State} {m : MethodId} {args : Array Value} {below : List Frame} {meth : Method} {c : Code} {H : Heap} {locs : List Loc} {cells slots : Nat} {Q : State → Prop}
variable {mc ms : Nat} {free : Addr → Prop} {A0 A1 : Nat → Prop} {H0 : Heap} {a : Array Value} {ls : Array Slot} {st0 rest : List Value}
variable {Qc : Array Value → State → Outcome → State → Prop} {XC : String → State → State → Prop}
/-- what a body that may throw owes at its end -/
def vx_MQ (below : List Frame) (Qc : Array Value → State → Outcome → State → Prop) (XC : String → State → State → Prop) (a : Array Value) (s : State) (mc ms : Nat) (free : Addr → Prop) : State → Prop := fun t =>
  ∃ o, t.status = .running ∧ Ended t below o ∧ vx_Q Qc XC mc ms free a s o t
theorem vx_ret {g : JFrame} {mc ms : Nat} (k : W p l e R s m args below meth c H locs cells slots (MQ below Qc args s mc ms free) g) : W p l e R s m args below meth c H locs cells slots (vx_MQ below Qc XC args s mc ms free) g := by
  intro T hT X
  obtain ⟨t, a1, o, b1, b2, b3, b4⟩ := k T hT X
  exact ⟨t, a1, o, b1, b2, Or.inl ⟨b3, b4⟩⟩
/-- not caught here: it goes on to the caller -/
theorem vx_widen {g : JFrame} {q : Addr} {k n : Nat} (h1 : cells ≤ k) (h2 : slots ≤ n) (kk : vx_W p l e R s m args below meth c H locs k n Q g q) : vx_W p l e R s m args below meth c H locs cells slots Q g q := fun T hT X => kk T hT (stand_widen X h1 h2)
theorem vx_out {pc : Nat} {E : String} {ce : Cell} {q : Addr} {mc ms : Nat} (hout : ∀ x ∈ c.exceptionTable.toList, covers x pc = false) (hlocks : meth.locks = false) (hcell : H[q]? = some ce) (hv : ce.vm = .none) (hcl : s.vm.findClass E = some ce.cls)
    (hx : ∀ t : State, t.heap = H → s.vm.Alike t.vm → XC E s t) (hf : ∀ z ∈ locs, free z.base) (hc : cells ≤ mc) (hs : slots ≤ ms) :
    vx_W p l e R s m args below meth c H locs cells slots (vx_MQ below Qc XC args s mc ms free) (F0 m pc ls rest) q := by
  intro T hT X
  obtain ⟨st1, hrun, hend, hW, hsm⟩ := X.leaveThrown q (g := F0 m pc ls rest) rfl rfl rfl hout hlocks
  have hcell9 : (T.setFrames (.throwing q :: below)).heap[q]? = some ce := by
    show T.heap[q]? = some ce
    rw [hT]; exact hcell
  exact ⟨_, st1, .threw q, hrun, hend, Or.inr ⟨q, rfl, E, ce, locs, hx _ hT hW.alike, hcell9, hv, hcl, hW, hsm.mono hc hs, hf⟩⟩
theorem vx_frame {U : State} {k n : Nat} (h : s.sameButNew ({ U with vm := s.vm } : State) locs k n) : s.heap.size ≤ U.heap.size ∧ ∀ q : Nat, q < s.heap.size → (∀ z ∈ locs, z.base ≠ q) → U.heap[q]? = s.heap[q]? := by
  obtain ⟨-, h2, -, -, -, h6⟩ := h
  refine ⟨h2, fun q hq hz => ?_⟩
  obtain ⟨c9, e1, e2, e3, e4⟩ := h6 q _ (Array.getElem?_eq_getElem hq)
  have hs : c9.slots = (s.heap[q]).slots := Array.ext_getElem? fun i => e4 i fun hm => hz _ hm rfl
  have h9 : c9 = s.heap[q] := by
    rw [hs] at e2
    exact e2
  have e5 : U.heap[q]? = some c9 := e1
  rw [e5, h9, Array.getElem?_eq_getElem hq]
/-- the words of a throw but the four that speak of the heap -/
def vx_no (w : Cond) : Bool := decide (w ≠ .isRef (.static Bundle.tN "UNASSIGNED_STACK" Bundle.steD)) && decide (w ≠ .isRef (.static Bundle.tN "SUPPRESSED_SENTINEL" Bundle.listD)) && decide (w ≠ .laysStatic Bundle.tN "UNASSIGNED_STACK" Bundle.steD) && decide (w ≠ .laysStatic Bundle.tN "SUPPRESSED_SENTINEL" Bundle.listD)
def vx_at0 (own : String) (ic : Nat) (X : String) (names : List String) : List Cond := (Bundle.ownAtoms0 own ic X names).filter vx_no
def vx_atS (own : String) (ic : Nat) (X : String) (names : List String) : List Cond := (Bundle.ownAtoms own ic X names).filter vx_no
/-- a word that the tables alone decide, or a good one -/
def vx_ot (w : Cond) : Bool := w.onTables || goodWord w
theorem vx_ot_at {args a' : Array Value} {s U : State} {w : Cond} (hW : s.WarmedH U.vm) (hvm : s.vm = U.vm) (hg : vx_ot w = true) (h : w.before args s = true) : w.before a' U = true := by
  simp only [vx_ot, Bool.or_eq_true] at hg
  rcases hg with hg | hg
  · exact va_tabs hg hvm h
  · exact word_at hW (good_of_word hg) h
/-- a list's words: the good ones out of the method's own list, the others by premises of their own -/
theorem vx_hat {args : Array Value} {s : State} {L B : List Cond} (h1 : ∀ w ∈ L.filter goodWord, w.before args s = true) (h2 : ∀ w ∈ L.filter (fun w => !goodWord w), w ∈ B) (h3 : ∀ w ∈ B, w.before args s = true) : ∀ w ∈ L, w.before args s = true := by
  intro w hw
  by_cases g : goodWord w = true
  · exact h1 w (List.mem_filter.mpr ⟨hw, g⟩)
  · refine h3 w (h2 w (List.mem_filter.mpr ⟨hw, ?_⟩))
    show (!goodWord w) = true
    cases hgw : goodWord w
    · rfl
    · exact absurd hgw g
theorem vx_c {args : Array Value} {s : State} {w : Cond} {B : List Cond} (h : w.before args s = true) (t : ∀ w ∈ B, w.before args s = true) : ∀ w' ∈ w :: B, w'.before args s = true := fun w' h' => (List.mem_cons.mp h').elim (fun e => by rw [e]; exact h) (t w')
theorem vx_n {args : Array Value} {s : State} : ∀ w ∈ ([] : List Cond), w.before args s = true := fun _ h => nomatch h
theorem vx_own {args : Array Value} {s : State} {L : List Cond} (h1 : ∀ w ∈ L.filter vx_no, w.before args s = true)
    (hU : (Cond.isRef (.static Bundle.tN "UNASSIGNED_STACK" Bundle.steD)).before args s = true) (hN : (Cond.isRef (.static Bundle.tN "SUPPRESSED_SENTINEL" Bundle.listD)).before args s = true)
    (lU : (Cond.laysStatic Bundle.tN "UNASSIGNED_STACK" Bundle.steD).before args s = true) (lN : (Cond.laysStatic Bundle.tN "SUPPRESSED_SENTINEL" Bundle.listD).before args s = true) : ∀ w ∈ L, w.before args s = true := by
  intro w hw
  by_cases e1 : w = .isRef (.static Bundle.tN "UNASSIGNED_STACK" Bundle.steD)
  · rw [e1]; exact hU
  · by_cases e2 : w = .isRef (.static Bundle.tN "SUPPRESSED_SENTINEL" Bundle.listD)
    · rw [e2]; exact hN
    · by_cases e3 : w = .laysStatic Bundle.tN "UNASSIGNED_STACK" Bundle.steD
      · rw [e3]; exact lU
      · by_cases e4 : w = .laysStatic Bundle.tN "SUPPRESSED_SENTINEL" Bundle.listD
        · rw [e4]; exact lN
        · exact h1 w (List.mem_filter.mpr ⟨hw, by unfold vx_no; rw [decide_eq_true e1, decide_eq_true e2, decide_eq_true e3, decide_eq_true e4]; rfl⟩)
/-- where a static field lies, its class's statics cell in H -/
def vx_L (C n d : String) (A : Nat → Prop) (U : State) (H : Heap) : Prop := ∃ (c : ClassId) (k : Class) (i : Nat) (f : Field) (a : Nat) (cell : Cell), U.vm.findClass C = some c ∧ U.fieldFound? C n d = some (c, k, i, f) ∧ f.isStatic = true ∧ k.statics = some a ∧ H[a]? = some cell ∧ cell.vm.isStatics = true ∧ cell.cls = c ∧ f.slot < cell.slots.size ∧ k.staticTypes[f.slot]? = some f.type ∧ ¬ A a
theorem vx_L.moved {C n d : String} {A : Nat → Prop} {u U : State} {H : Heap} (hvm : u.vm.Alike U.vm) (h : vx_L C n d A u H) : vx_L C n d A U H := by
  obtain ⟨c, k, i, f, a, cell, h1, h2, h3, h4, h5, h6, h7, h8, h9, h10⟩ := h
  obtain ⟨k', hi', he⟩ := State.fieldFound?_setVm hvm h2
  exact ⟨c, k', i, f, a, cell, by rw [hvm.findClass]; exact h1, hi', h3, by rw [he]; exact h4, h5, h6, h7, h8, by rw [he]; exact h9, h10⟩
theorem vx_L.kept {C n d : String} {A : Nat → Prop} {U : State} {H H1 : Heap} (h : vx_L C n d A U H) (hq : ∀ a : Nat, a < H.size → ¬ A a → H1[a]? = H[a]?) : vx_L C n d A U H1 := by
  obtain ⟨c, k, i, f, a, cell, h1, h2, h3, h4, h5, h6, h7, h8, h9, h10⟩ := h
  exact ⟨c, k, i, f, a, cell, h1, h2, h3, h4, by rw [hq a (Array.getElem?_eq_some_iff.mp h5).1 h10]; exact h5, h6, h7, h8, h9, h10⟩
theorem vx_L.narrow {C n d : String} {A B : Nat → Prop} {U : State} {H : Heap} (h : vx_L C n d A U H) (hAB : ∀ q, B q → A q) : vx_L C n d B U H := by
  obtain ⟨c, k, i, f, a, cell, h1, h2, h3, h4, h5, h6, h7, h8, h9, h10⟩ := h
  exact ⟨c, k, i, f, a, cell, h1, h2, h3, h4, h5, h6, h7, h8, h9, fun z => h10 (hAB _ z)⟩
theorem vx_L.word {C n d : String} {A : Nat → Prop} {s : State} {args : Array Value} (h : vx_L C n d A s s.heap) : (Cond.laysStatic C n d).before args s = true := by
  obtain ⟨c, k, i, f, a, cell, h1, h2, h3, h4, h5, h6, h7, h8, h9, -⟩ := h
  show (Cond.laysStatic C n d).holds args s none s [] = true
  exact Cond.laysStatic_of h1 h2 h3 h4 h5 h6 h7 h8 h9
/-- .. and what it holds: null or some reference -/
def vx_Zq (C n d : String) (A : Nat → Prop) (U : State) (H : Heap) : Prop := va_Zq C n d A U H ∧ vx_L C n d A U H
theorem vx_Zq.moved {C n d : String} {A : Nat → Prop} {u U : State} {H : Heap} (hvm : u.vm.Alike U.vm) (h : vx_Zq C n d A u H) : vx_Zq C n d A U H := ⟨va_Zq.moved hvm h.1, vx_L.moved hvm h.2⟩
theorem vx_Zq.kept {C n d : String} {A : Nat → Prop} {U : State} {H H1 : Heap} (h : vx_Zq C n d A U H) (hq : ∀ a : Nat, a < H.size → ¬ A a → H1[a]? = H[a]?) : vx_Zq C n d A U H1 := ⟨va_Zq.kept h.1 hq, vx_L.kept h.2 hq⟩
theorem vx_Zq.narrow {C n d : String} {A B : Nat → Prop} {U : State} {H : Heap} (h : vx_Zq C n d A U H) (hAB : ∀ q, B q → A q) : vx_Zq C n d B U H := ⟨va_Zq.narrow h.1 hAB, vx_L.narrow h.2 hAB⟩
theorem vx_Zqof {args : Array Value} {s : State} {C n d : String} {A : Nat → Prop} (hl : (Cond.laysStatic C n d).before args s = true) (hini : (Cond.initialized C).before args s = true) (h : (Cond.isRef (.static C n d)).before args s = true) (hA : ∀ a : Nat, a < s.heap.size → ¬ A a) : vx_Zq C n d A s s.heap := by
  refine ⟨va_Zqof hl hini h hA, ?_⟩
  obtain ⟨c, k, i, f, a, cell, h1, h2, h3, h4, h5, h6, h7, h8, h9⟩ := Cond.laysStatic_spec hl
  exact ⟨c, k, i, f, a, cell, h1, h2, h3, h4, h5, h6, h7, h8, h9, hA a (Array.getElem?_eq_some_iff.mp h5).1⟩
theorem vx_isRef {C n d : String} {v : Value} {A : Nat → Prop} {s : State} {args : Array Value} (h : va_Z C n d v A s s.heap) (hv : v.isRef = true) : (Cond.isRef (.static C n d)).before args s = true := by
  obtain ⟨cf, kf, fi, f, a, cell, h1, h2, h3, h4, h5, h6, h7, -⟩ := h
  have he : (Term.static C n d).eval args s none [] s = some v := by
    simp [Term.eval, State.fieldNamed?, h1, h2, h4, h5, h6, h7]
  simp only [Cond.before, Cond.holds, Cond.value, he]
  cases v <;> simp_all [Value.isRef]
theorem vx_isRefq {C n d : String} {A : Nat → Prop} {s : State} {args : Array Value} (h : va_Zq C n d A s s.heap) : (Cond.isRef (.static C n d)).before args s = true := by
  rcases h with h | ⟨t, h⟩
  · exact vx_isRef h rfl
  · exact vx_isRef h rfl
/-- the same frame, seen from here: as if the method were called anew in this heap -/
theorem vx_rebase {T : State} (X : Stand p l e R s m args below meth c T locs cells slots) {R' : Room} (hf : R'.frames ≤ R.frames) (hl : R'.locals ≤ R.locals) (hc : cells + R'.cells ≤ R.cells) (hs : slots + R'.slots ≤ R.slots) :
    Stand p l e R' ((T.setVm s.vm).setFrames (.invoking m args :: below)) m args below meth c T [] 0 0 := by
  have htop : (T.setVm s.vm).topJava?.isSome := X.here.top
  have hF : ((T.setVm s.vm).setFrames (.invoking m args :: below)).frames = .invoking m args :: below := State.frames_setFrames _ (State.cur_lt_of_top htop)
  obtain ⟨g₀, hg0⟩ := Option.isSome_iff_exists.mp htop
  obtain ⟨r, hr⟩ := State.topJava?_eq_some.mp hg0
  have hl9 : e.platform.stackLimits (T.setVm s.vm).me = e.platform.stackLimits s.me := X.limits
  have hb9 : (T.setVm s.vm).me.stackBytes = s.me.stackBytes := X.bytes
  refine ⟨X.admits, X.cas, X.clock, hF, ?_, X.hears, X.method, X.code, X.here, X.tail, X.warmed, ?_, ?_, ?_⟩
  · have h := X.room
    have hU : ((T.setVm s.vm).setFrames (.invoking m args :: below)).localsInUse = s.localsInUse := by
      rw [State.localsInUse_invoking hF (meth := meth) (c := c) X.method X.code, State.localsInUse_invoking X.frames X.method X.code]
    simp only [State.hasRoom, Bool.and_eq_true, decide_eq_true_eq] at h ⊢
    obtain ⟨⟨⟨⟨h1, h2, h3, h4, h5, h6⟩, h7⟩, h8⟩, h9⟩ := h
    rw [X.frames, List.length_cons] at h2 h3
    have q1 := X.heapSize
    have q2 := X.used
    simp only [hF, hU, List.length_cons, State.stackLimits_setFrames, State.stackBytes_setFrames, hl9, hb9]
    refine ⟨⟨⟨⟨by omega, by omega, by omega, by omega, by omega, h6⟩, ?_⟩, ?_⟩, X.book⟩
    · show T.heap.size + R'.cells ≤ e.platform.maxCells
      omega
    · show T.slotsUsed + R'.slots ≤ e.platform.maxSlots
      omega
  · rw [State.stackLimits_setFrames]; rfl
  · rw [State.stackBytes_setFrames]; rfl
  · refine ⟨?_, Nat.le_refl _, Nat.le_refl _, ?_, ?_, fun a c9 h9 => ⟨c9, h9, rfl, rfl, fun _ _ => rfl⟩⟩
    · obtain ⟨t, ht, -⟩ := State.frames_cons hr
      show T.setVm s.vm = { ((T.setVm s.vm).setFrames (.invoking m args :: below)).setFrames (T.setVm s.vm).frames with heap := T.heap, slotsUsed := T.slotsUsed }
      rw [State.setFrames_setFrames, State.setFrames_self ht]
      rfl
    · show T.slotsUsed = T.slotsUsed + ((T.heap.toList.drop T.heap.size).map (·.slots.size)).sum
      rw [List.drop_eq_nil_of_le (Nat.le_of_eq Array.length_toList)]
      rfl
    · show ((T.heap.toList.drop T.heap.size).map (·.slots.size)).sum ≤ 0
      rw [List.drop_eq_nil_of_le (Nat.le_of_eq Array.length_toList)]
      exact Nat.le_refl _
/-- 'throw new E()': new; dup; invokespecial; athrow -/
theorem vx_throw0 {cc : ByteArray} {pc : Nat} (hexec : p.tables.exec = Jvm.exec) (hb : c.code = cc) (hl : l.stackTraces = false) {own cls : String} {names : List String} {ik ic mc ms : Nat} {A : Nat → Prop}
    (hown : s.vm.findClass own = some m.cls) (hcls : Bundle.fit cls = true) (hnames : ∀ n ∈ names, Bundle.fit n = true)
    (hk : (Cond.classLink own ik cls).before args s = true) (hini : (Cond.initialized cls).before args s = true) (hat : ∀ w ∈ vx_at0 own ic cls names, w.before args s = true)
    (hgood : ∀ w ∈ Cond.classLink own ik cls :: Cond.initialized cls :: vx_at0 own ic cls names, vx_ot w = true)
    (hU : vx_Zq Bundle.tN "UNASSIGNED_STACK" Bundle.steD A s s.heap) (hN : vx_Zq Bundle.tN "SUPPRESSED_SENTINEL" Bundle.listD A s s.heap) (hS : va_S A s.heap H locs) (hsize : ls.size = c.maxLocals)
    (d0 : decode cc pc = .ok (.new ik, 3)) (d3 : decode cc (pc + 3) = .ok (.dup, 1)) (d4 : decode cc (pc + 4) = .ok (.invokespecial ic, 3)) (d7 : decode cc (pc + 7) = .ok (.athrow, 1))
    (hout : ∀ x ∈ c.exceptionTable.toList, covers x (pc + 7) = false)
    (hRframes : names.length + 3 < R.frames) (hRlocals : (rest.map fun v => v.category).sum + (13 * (names.length + 1) + 42) ≤ R.locals) (hRcells : cells + 1 ≤ R.cells) (hRslots : slots + 6 ≤ R.slots) (hlocks : meth.locks = false)
    (hx : ∀ t : State, s.vm.Alike t.vm → H.size ≤ t.heap.size → (∀ q : Nat, q < H.size → t.heap[q]? = H[q]?) → XC cls s t)
    (hf : ∀ z ∈ locs, free z.base) (hc : cells + 1 ≤ mc) (hs : slots + 6 ≤ ms) :
    W p l e R s m args below meth c H locs cells slots (vx_MQ below Qc XC args s mc ms free) (F0 m pc ls rest) := by
  intro T hT X
  have htr : e.platform.stackTraces = false := (show e.platform.stackTraces = l.stackTraces by rw [X.admits.platform]).trans hl
  have Y := vx_rebase X (R' := { frames := R.frames, locals := R.locals, cells := 1, slots := 6 }) (Nat.le_refl _) (Nat.le_refl _) hRcells hRslots
  obtain ⟨s', hA⟩ : ∃ z, z = (T.setVm s.vm).setFrames (.invoking m args :: below) := ⟨_, rfl⟩
  rw [← hA] at Y
  have hvm : s'.vm = s.vm := by rw [hA]; rfl
  have hhp : s'.heap = H := by rw [hA]; exact hT
  have hW0 : s.WarmedH s'.vm := by rw [hvm]; exact State.WarmedH.refl s
  have hat' : ∀ w ∈ vx_at0 own ic cls names, w.before args s' = true := fun w hw => vx_ot_at hW0 hvm.symm (hgood w (List.mem_cons_of_mem _ (List.mem_cons_of_mem _ hw))) (hat w hw)
  have hk' : (Cond.classLink own ik cls).before args s' = true := vx_ot_at hW0 hvm.symm (hgood _ List.mem_cons_self) hk
  have hini' : (Cond.initialized cls).before args s' = true := vx_ot_at hW0 hvm.symm (hgood _ (List.mem_cons_of_mem _ List.mem_cons_self)) hini
  have hU' : vx_Zq Bundle.tN "UNASSIGNED_STACK" Bundle.steD A s' s'.heap := by rw [hhp]; exact vx_Zq.moved hW0.alike (hU.kept hS.2.1)
  have hN' : vx_Zq Bundle.tN "SUPPRESSED_SENTINEL" Bundle.listD A s' s'.heap := by rw [hhp]; exact vx_Zq.moved hW0.alike (hN.kept hS.2.1)
  have h : ∀ w ∈ Bundle.ownAtoms0 own ic cls names, w.before args s' = true := vx_own hat' (vx_isRefq hU'.1) (vx_isRefq hN'.1) hU'.2.word hN'.2.word
  have hown' : s'.vm.findClass own = some m.cls := by rw [hvm]; exact hown
  have hins : (Cond.instantiable cls 6).before args s' = true := h _ (by simp [Bundle.ownAtoms0])
  obtain ⟨vm₁, cX, kX, hfX, hkX, -, -, X₁, st1⟩ := Y.newCold hexec (own := own) (C := cls) (index := ik) (n := 6) hown' hk' hins hini'
    (g := F0 m pc ls rest) rfl (by rw [hb]; exact d0) (Nat.le_refl _) (Nat.le_refl _)
  generalize hT1 : (T.setVm vm₁).pushCell { cls := cX, slots := kX.instanceTypes.map defaultValue, vm := .none } = T1 at X₁ st1
  have hcat : (Value.ref T.heap.size).category = 1 := rfl
  have hcellA : T1.heap[T.heap.size]? = some (freshCell cX kX) := by rw [← hT1]; exact State.heap_pushCell_size _ _
  have d3' : decode c.code (pc + 3) = .ok (.dup, 1) := by rw [hb]; exact d3
  obtain ⟨U, hsteps, hrun, hend, hW, hsame, ce, hce, hO⟩ := X₁.ctorThrow0 hexec htr (own := own) (cls := cls) (names := names) (ic := ic) hown' hcls hnames h (fun x hx => nomatch hx) hfX hkX hcellA (by rw [hhp, hT]; exact Nat.le_refl _)
    (g := { method := m, pc := pc + 4, locals := ls, stack := .ref T.heap.size :: .ref T.heap.size :: rest, locked := none }) rfl hsize rfl rfl (rest := rest) rfl
    (by rw [hb]; exact d4) (by rw [hb]; exact d7) hout hRframes (by simp only [List.map_cons, List.sum_cons, hcat]; omega) hlocks
  obtain ⟨f1, f2⟩ := vx_frame hsame
  rw [hhp] at f1 f2
  have hWs : s.WarmedH U.vm := State.WarmedH.trans hW0 hW
  have hcl : s.vm.findClass cls = some ce.cls := by
    have h9 := hO.cls
    rw [hvm] at h9
    exact h9
  have hall : s.sameButNew ({ U with vm := s.vm } : State) locs mc ms := by
    subst hA
    obtain ⟨e1, e2⟩ := hsame
    rw [State.setFrames_setFrames] at e1
    have h2 : (T.setVm s.vm).sameButNew ({ U with vm := s.vm } : State) [] (0 + 1) (0 + 6) := ⟨e1, e2⟩
    have h3 := X.same.trans h2
    rw [List.append_nil] at h3
    exact h3.mono hc hs
  refine ⟨U, ?_, .threw T.heap.size, hrun, hend, Or.inr ⟨T.heap.size, rfl, cls, ce, locs, hx U hWs.alike f1 (fun q hq => f2 q hq (fun z hz => nomatch hz)), hce, hO.vm, hcl, hWs, hall, hf⟩⟩
  refine st1 _ ?_
  show Steps p.tables e below (T1.setTop { method := m, pc := pc + 3, locals := ls, stack := .ref T.heap.size :: rest, locked := none }) _
  jvm_step X₁.here [X₁.here.top, hexec, d3', Value.category]
  exact hsteps
/-- 'throw new E("text")': new; dup; ldc; invokespecial; athrow -/
theorem vx_throwS {cc : ByteArray} {pc : Nat} (hexec : p.tables.exec = Jvm.exec) (hb : c.code = cc) (hl : l.stackTraces = false) {own cls text : String} {names : List String} {ik is ic mc ms sa : Nat} {A : Nat → Prop}
    (hown : s.vm.findClass own = some m.cls) (hcls : Bundle.fit cls = true) (hnames : ∀ n ∈ names, Bundle.fit n = true)
    (hk : (Cond.classLink own ik cls).before args s = true) (hini : (Cond.initialized cls).before args s = true) (hstr : vk_R own is text sa s) (hat : ∀ w ∈ vx_atS own ic cls names, w.before args s = true)
    (hgood : ∀ w ∈ Cond.classLink own ik cls :: Cond.initialized cls :: vx_atS own ic cls names, vx_ot w = true)
    (hU : vx_Zq Bundle.tN "UNASSIGNED_STACK" Bundle.steD A s s.heap) (hN : vx_Zq Bundle.tN "SUPPRESSED_SENTINEL" Bundle.listD A s s.heap) (hS : va_S A s.heap H locs) (hsize : ls.size = c.maxLocals)
    (d0 : decode cc pc = .ok (.new ik, 3)) (d3 : decode cc (pc + 3) = .ok (.dup, 1)) (d4 : decode cc (pc + 4) = .ok (.ldc is, 2)) (d6 : decode cc (pc + 6) = .ok (.invokespecial ic, 3)) (d9 : decode cc (pc + 9) = .ok (.athrow, 1))
    (hout : ∀ x ∈ c.exceptionTable.toList, covers x (pc + 9) = false)
    (hRframes : names.length + 3 < R.frames) (hRlocals : (rest.map fun v => v.category).sum + (13 * (names.length + 1) + 43) ≤ R.locals) (hRcells : cells + 1 ≤ R.cells) (hRslots : slots + 6 ≤ R.slots) (hlocks : meth.locks = false)
    (hx : ∀ t : State, s.vm.Alike t.vm → H.size ≤ t.heap.size → (∀ q : Nat, q < H.size → t.heap[q]? = H[q]?) → XC cls s t)
    (hf : ∀ z ∈ locs, free z.base) (hc : cells + 1 ≤ mc) (hs : slots + 6 ≤ ms) :
    W p l e R s m args below meth c H locs cells slots (vx_MQ below Qc XC args s mc ms free) (F0 m pc ls rest) := by
  intro T hT X
  have htr : e.platform.stackTraces = false := (show e.platform.stackTraces = l.stackTraces by rw [X.admits.platform]).trans hl
  have Y := vx_rebase X (R' := { frames := R.frames, locals := R.locals, cells := 1, slots := 6 }) (Nat.le_refl _) (Nat.le_refl _) hRcells hRslots
  obtain ⟨s', hA⟩ : ∃ z, z = (T.setVm s.vm).setFrames (.invoking m args :: below) := ⟨_, rfl⟩
  rw [← hA] at Y
  have hvm : s'.vm = s.vm := by rw [hA]; rfl
  have hhp : s'.heap = H := by rw [hA]; exact hT
  have hW0 : s.WarmedH s'.vm := by rw [hvm]; exact State.WarmedH.refl s
  have hat' : ∀ w ∈ vx_atS own ic cls names, w.before args s' = true := fun w hw => vx_ot_at hW0 hvm.symm (hgood w (List.mem_cons_of_mem _ (List.mem_cons_of_mem _ hw))) (hat w hw)
  have hk' : (Cond.classLink own ik cls).before args s' = true := vx_ot_at hW0 hvm.symm (hgood _ List.mem_cons_self) hk
  have hini' : (Cond.initialized cls).before args s' = true := vx_ot_at hW0 hvm.symm (hgood _ (List.mem_cons_of_mem _ List.mem_cons_self)) hini
  have hU' : vx_Zq Bundle.tN "UNASSIGNED_STACK" Bundle.steD A s' s'.heap := by rw [hhp]; exact vx_Zq.moved hW0.alike (hU.kept hS.2.1)
  have hN' : vx_Zq Bundle.tN "SUPPRESSED_SENTINEL" Bundle.listD A s' s'.heap := by rw [hhp]; exact vx_Zq.moved hW0.alike (hN.kept hS.2.1)
  have h : ∀ w ∈ Bundle.ownAtoms own ic cls names, w.before args s' = true := vx_own hat' (vx_isRefq hU'.1) (vx_isRefq hN'.1) hU'.2.word hN'.2.word
  have hown' : s'.vm.findClass own = some m.cls := by rw [hvm]; exact hown
  have hins : (Cond.instantiable cls 6).before args s' = true := h _ (by simp [Bundle.ownAtoms])
  obtain ⟨vm₁, cX, kX, hfX, hkX, -, -, X₁, st1⟩ := Y.newCold hexec (own := own) (C := cls) (index := ik) (n := 6) hown' hk' hins hini'
    (g := F0 m pc ls rest) rfl (by rw [hb]; exact d0) (Nat.le_refl _) (Nat.le_refl _)
  generalize hT1 : (T.setVm vm₁).pushCell { cls := cX, slots := kX.instanceTypes.map defaultValue, vm := .none } = T1 at X₁ st1
  have hcat : (Value.ref T.heap.size).category = 1 := rfl
  have hcellA : T1.heap[T.heap.size]? = some (freshCell cX kX) := by rw [← hT1]; exact State.heap_pushCell_size _ _
  have d3' : decode c.code (pc + 3) = .ok (.dup, 1) := by rw [hb]; exact d3
  have d4' : decode c.code (pc + 4) = .ok (.ldc is, 2) := by rw [hb]; exact d4
  have hstr' : vk_R own is text sa s' := vk_R.warm hW0 hstr
  obtain ⟨U, hsteps, hrun, hend, hW, hsame, ce, hce, hO⟩ := X₁.ctorThrowS hexec htr (own := own) (cls := cls) (names := names) (ic := ic) hown' hcls hnames h (fun x hx => nomatch hx) hfX hkX hcellA (by rw [hhp, hT]; exact Nat.le_refl _) (msg := .ref sa) rfl
    (g := { method := m, pc := pc + 6, locals := ls, stack := .ref sa :: .ref T.heap.size :: .ref T.heap.size :: rest, locked := none }) rfl hsize rfl rfl (rest := rest) rfl
    (by rw [hb]; exact d6) (by rw [hb]; exact d9) hout hRframes (by simp only [List.map_cons, List.sum_cons, hcat]; omega) hlocks
  obtain ⟨f1, f2⟩ := vx_frame hsame
  rw [hhp] at f1 f2
  have hWs : s.WarmedH U.vm := State.WarmedH.trans hW0 hW
  have hcl : s.vm.findClass cls = some ce.cls := by
    have h9 := hO.cls
    rw [hvm] at h9
    exact h9
  have hall : s.sameButNew ({ U with vm := s.vm } : State) locs mc ms := by
    subst hA
    obtain ⟨e1, e2⟩ := hsame
    rw [State.setFrames_setFrames] at e1
    have h2 : (T.setVm s.vm).sameButNew ({ U with vm := s.vm } : State) [] (0 + 1) (0 + 6) := ⟨e1, e2⟩
    have h3 := X.same.trans h2
    rw [List.append_nil] at h3
    exact h3.mono hc hs
  refine ⟨U, ?_, .threw T.heap.size, hrun, hend, Or.inr ⟨T.heap.size, rfl, cls, ce, locs, hx U hWs.alike f1 (fun q hq => f2 q hq (fun z hz => nomatch hz)), hce, hO.vm, hcl, hWs, hall, hf⟩⟩
  refine st1 _ ?_
  show Steps p.tables e below (T1.setTop { method := m, pc := pc + 3, locals := ls, stack := .ref T.heap.size :: rest, locked := none }) _
  jvm_step X₁.here [X₁.here.top, hexec, d3', Value.category]
  exact X₁.ldcString hexec (own := own) (text := text) (index := is) (a := sa) hown' hstr'.1 hstr'.2
    (g := { method := m, pc := pc + 4, locals := ls, stack := .ref T.heap.size :: .ref T.heap.size :: rest, locked := none }) rfl d4' _ hsteps
/-- 'throw new E("text")', the text by a wide index -/
theorem vx_throwSW {cc : ByteArray} {pc : Nat} (hexec : p.tables.exec = Jvm.exec) (hb : c.code = cc) (hl : l.stackTraces = false) {own cls text : String} {names : List String} {ik is ic mc ms sa : Nat} {A : Nat → Prop}
    (hown : s.vm.findClass own = some m.cls) (hcls : Bundle.fit cls = true) (hnames : ∀ n ∈ names, Bundle.fit n = true)
    (hk : (Cond.classLink own ik cls).before args s = true) (hini : (Cond.initialized cls).before args s = true) (hstr : vk_R own is text sa s) (hat : ∀ w ∈ vx_atS own ic cls names, w.before args s = true)
    (hgood : ∀ w ∈ Cond.classLink own ik cls :: Cond.initialized cls :: vx_atS own ic cls names, vx_ot w = true)
    (hU : vx_Zq Bundle.tN "UNASSIGNED_STACK" Bundle.steD A s s.heap) (hN : vx_Zq Bundle.tN "SUPPRESSED_SENTINEL" Bundle.listD A s s.heap) (hS : va_S A s.heap H locs) (hsize : ls.size = c.maxLocals)
    (d0 : decode cc pc = .ok (.new ik, 3)) (d3 : decode cc (pc + 3) = .ok (.dup, 1)) (d4 : decode cc (pc + 4) = .ok (.ldc_w is, 3)) (d7 : decode cc (pc + 7) = .ok (.invokespecial ic, 3)) (d10 : decode cc (pc + 10) = .ok (.athrow, 1))
    (hout : ∀ x ∈ c.exceptionTable.toList, covers x (pc + 10) = false)
    (hRframes : names.length + 3 < R.frames) (hRlocals : (rest.map fun v => v.category).sum + (13 * (names.length + 1) + 43) ≤ R.locals) (hRcells : cells + 1 ≤ R.cells) (hRslots : slots + 6 ≤ R.slots) (hlocks : meth.locks = false)
    (hx : ∀ t : State, s.vm.Alike t.vm → H.size ≤ t.heap.size → (∀ q : Nat, q < H.size → t.heap[q]? = H[q]?) → XC cls s t)
    (hf : ∀ z ∈ locs, free z.base) (hc : cells + 1 ≤ mc) (hs : slots + 6 ≤ ms) :
    W p l e R s m args below meth c H locs cells slots (vx_MQ below Qc XC args s mc ms free) (F0 m pc ls rest) := by
  intro T hT X
  have htr : e.platform.stackTraces = false := (show e.platform.stackTraces = l.stackTraces by rw [X.admits.platform]).trans hl
  have Y := vx_rebase X (R' := { frames := R.frames, locals := R.locals, cells := 1, slots := 6 }) (Nat.le_refl _) (Nat.le_refl _) hRcells hRslots
  obtain ⟨s', hA⟩ : ∃ z, z = (T.setVm s.vm).setFrames (.invoking m args :: below) := ⟨_, rfl⟩
  rw [← hA] at Y
  have hvm : s'.vm = s.vm := by rw [hA]; rfl
  have hhp : s'.heap = H := by rw [hA]; exact hT
  have hW0 : s.WarmedH s'.vm := by rw [hvm]; exact State.WarmedH.refl s
  have hat' : ∀ w ∈ vx_atS own ic cls names, w.before args s' = true := fun w hw => vx_ot_at hW0 hvm.symm (hgood w (List.mem_cons_of_mem _ (List.mem_cons_of_mem _ hw))) (hat w hw)
  have hk' : (Cond.classLink own ik cls).before args s' = true := vx_ot_at hW0 hvm.symm (hgood _ List.mem_cons_self) hk
  have hini' : (Cond.initialized cls).before args s' = true := vx_ot_at hW0 hvm.symm (hgood _ (List.mem_cons_of_mem _ List.mem_cons_self)) hini
  have hU' : vx_Zq Bundle.tN "UNASSIGNED_STACK" Bundle.steD A s' s'.heap := by rw [hhp]; exact vx_Zq.moved hW0.alike (hU.kept hS.2.1)
  have hN' : vx_Zq Bundle.tN "SUPPRESSED_SENTINEL" Bundle.listD A s' s'.heap := by rw [hhp]; exact vx_Zq.moved hW0.alike (hN.kept hS.2.1)
  have h : ∀ w ∈ Bundle.ownAtoms own ic cls names, w.before args s' = true := vx_own hat' (vx_isRefq hU'.1) (vx_isRefq hN'.1) hU'.2.word hN'.2.word
  have hown' : s'.vm.findClass own = some m.cls := by rw [hvm]; exact hown
  have hins : (Cond.instantiable cls 6).before args s' = true := h _ (by simp [Bundle.ownAtoms])
  obtain ⟨vm₁, cX, kX, hfX, hkX, -, -, X₁, st1⟩ := Y.newCold hexec (own := own) (C := cls) (index := ik) (n := 6) hown' hk' hins hini'
    (g := F0 m pc ls rest) rfl (by rw [hb]; exact d0) (Nat.le_refl _) (Nat.le_refl _)
  generalize hT1 : (T.setVm vm₁).pushCell { cls := cX, slots := kX.instanceTypes.map defaultValue, vm := .none } = T1 at X₁ st1
  have hcat : (Value.ref T.heap.size).category = 1 := rfl
  have hcellA : T1.heap[T.heap.size]? = some (freshCell cX kX) := by rw [← hT1]; exact State.heap_pushCell_size _ _
  have d3' : decode c.code (pc + 3) = .ok (.dup, 1) := by rw [hb]; exact d3
  have d4' : decode c.code (pc + 4) = .ok (.ldc_w is, 3) := by rw [hb]; exact d4
  have hstr' : vk_R own is text sa s' := vk_R.warm hW0 hstr
  obtain ⟨U, hsteps, hrun, hend, hW, hsame, ce, hce, hO⟩ := X₁.ctorThrowS hexec htr (own := own) (cls := cls) (names := names) (ic := ic) hown' hcls hnames h (fun x hx => nomatch hx) hfX hkX hcellA (by rw [hhp, hT]; exact Nat.le_refl _) (msg := .ref sa) rfl
    (g := { method := m, pc := pc + 7, locals := ls, stack := .ref sa :: .ref T.heap.size :: .ref T.heap.size :: rest, locked := none }) rfl hsize rfl rfl (rest := rest) rfl
    (by rw [hb]; exact d7) (by rw [hb]; exact d10) hout hRframes (by simp only [List.map_cons, List.sum_cons, hcat]; omega) hlocks
  obtain ⟨f1, f2⟩ := vx_frame hsame
  rw [hhp] at f1 f2
  have hWs : s.WarmedH U.vm := State.WarmedH.trans hW0 hW
  have hcl : s.vm.findClass cls = some ce.cls := by
    have h9 := hO.cls
    rw [hvm] at h9
    exact h9
  have hall : s.sameButNew ({ U with vm := s.vm } : State) locs mc ms := by
    subst hA
    obtain ⟨e1, e2⟩ := hsame
    rw [State.setFrames_setFrames] at e1
    have h2 : (T.setVm s.vm).sameButNew ({ U with vm := s.vm } : State) [] (0 + 1) (0 + 6) := ⟨e1, e2⟩
    have h3 := X.same.trans h2
    rw [List.append_nil] at h3
    exact h3.mono hc hs
  refine ⟨U, ?_, .threw T.heap.size, hrun, hend, Or.inr ⟨T.heap.size, rfl, cls, ce, locs, hx U hWs.alike f1 (fun q hq => f2 q hq (fun z hz => nomatch hz)), hce, hO.vm, hcl, hWs, hall, hf⟩⟩
  refine st1 _ ?_
  show Steps p.tables e below (T1.setTop { method := m, pc := pc + 3, locals := ls, stack := .ref T.heap.size :: rest, locked := none }) _
  jvm_step X₁.here [X₁.here.top, hexec, d3', Value.category]
  exact X₁.ldcStringW hexec (own := own) (text := text) (index := is) (a := sa) hown' hstr'.1 hstr'.2
    (g := { method := m, pc := pc + 4, locals := ls, stack := .ref T.heap.size :: .ref T.heap.size :: rest, locked := none }) rfl d4' _ hsteps
end Ends
section Bodies
variable {l : Launch}
theorem vx_ofW {y : MethodName} {ws ws' : List Cond} {rm : Room} {Pc : Array Value → State → Prop} {Qc : Array Value → State → Outcome → State → Prop} {XC : String → State → State → Prop} {mc ms : Nat} {free : Addr → Prop} {cc : ByteArray} {maxL : Nat} {ret : Option FieldType}
    (hy : plainName y.cls = true) (hw : ws = Cond.code y cc maxL ret :: ws')
    (body : ∀ p e s m args below meth c s₁, BodyLoose p l y (headSpec ws rm) cc maxL ret e s m args below meth c s₁ → c.maxLocals = maxL → (∀ x ∈ c.exceptionTable.toList, False) → Pc args s →
      W p l e (headSpec ws rm).room s m args below meth c s.heap [] 0 0 (vx_MQ below Qc XC args s mc ms free) (entryFrame m args maxL)) : vx_Met l y ws rm Pc Qc XC mc ms free := by
  refine MetFree.of_bodyS (code := cc) (maxLocals := maxL) (ret := ret) hy ?_ ?_
  · intro args s m h hn
    obtain ⟨meth, c, h1, h2, h3, h4, h5, h6, -, -⟩ := Cond.code_spec hn (atoms_spec (ws := ws) h _ (by rw [hw]; exact List.mem_cons_self))
    exact ⟨meth, c, h1, h2, h3, h4, h5, h6⟩
  · intro p e s m args below meth c s₁ B hml hP _
    have hh0 : s₁.heap = s.heap := by rw [B.state]; rfl
    have ht : ∀ x ∈ c.exceptionTable.toList, False := by
      obtain ⟨meth9, c9, h1, h2, -, -, -, -, h7, -⟩ := Cond.code_spec B.named (atoms_spec (ws := ws) B.pre _ (by rw [hw]; exact List.mem_cons_self))
      cases Option.some.inj (h1.symm.trans B.method)
      cases Option.some.inj (h2.symm.trans (Stand.of_body B).code)
      intro x hx
      rw [Array.isEmpty_iff.mp h7] at hx
      cases hx
    obtain ⟨t, a1, o, b1, b2, b3⟩ := body p e s m args below meth c s₁ B hml ht hP s₁ hh0 (Stand.of_body B)
    exact ⟨t, o, a1, b1, b2, b3⟩
/-- the table of a body with handlers -/
theorem vx_table {p : Program} {x y : MethodName} {S : Spec} {cc bytes : ByteArray} {maxL maxL' : Nat} {ret ret' : Option FieldType} {e : Env} {s s₁ : State} {m : MethodId} {args : Array Value} {below : List Frame} {meth : Method} {c : Code} {hh : List (Nat × Nat × Nat × Nat)}
    (B : BodyLoose p l y S cc maxL ret e s m args below meth c s₁) (h : (Cond.codeWith y bytes maxL' ret' hh).before args s = true) : c.exceptionTable.toList = tableOf hh := by
  obtain ⟨m9, meth9, c9, hn9, h1, h2, -, -, h6, -⟩ := Cond.codeWith_spec h
  cases Option.some.inj (hn9.symm.trans B.named)
  cases Option.some.inj (h1.symm.trans B.method)
  cases Option.some.inj (h2.symm.trans (Stand.of_body B).code)
  rw [← h6, table_eq]
end Bodies
end VXA
/-! ===== END ===== -/
/-! ===== BEGIN a static call of a method with an exception table ===== -/
section VXS
variable {p : Program} {l : Launch} {e : Env} {R : Room} {s : State} {m : MethodId} {args : Array Value} {below : List Frame} {meth : Method} {c : Code} {T : State} {H : Heap} {locs : List Loc} {cells slots : Nat}
abbrev vx_CSW (R : Room) (s : State) (args : Array Value) (own : String) (index : Nat) (y : MethodName) (bytes : ByteArray) (maxL : Nat) (ret : Option FieldType) (hh : List (Nat × Nat × Nat × Nat)) (ws : List Cond) (rm : Room) (mc ms n : Nat) : Prop :=
  (rm.cells = mc ∧ rm.slots = ms ∧ rm.frames + 1 ≤ R.frames ∧ 8 + (maxL + 11) + rm.locals ≤ R.locals ∧ (∀ w ∈ ws, ∀ (a' : Array Value) (U : State), s.WarmedH U.vm → w.before a' U = true) ∧ Cond.codeWith y bytes maxL ret hh ∈ ws) ∧
  (Cond.codeWith y bytes maxL ret hh).before args s = true ∧ (Cond.initialized y.cls).before args s = true ∧ (y.cls ≠ "java/lang/invoke/MethodHandle" ∧ y.cls ≠ "java/lang/invoke/VarHandle") ∧
  (∀ sig, parseMethodDescriptor y.desc = some sig → n = sig.parameters.length) ∧ (Cond.methodLink own index y).before args s = true ∧ (Cond.static y).before args s = true
theorem vx_cwSW {own : String} {index maxL mc ms : Nat} {y : MethodName} {bytes : ByteArray} {ret : Option FieldType} {hh : List (Nat × Nat × Nat × Nat)} {Ts ws ws' : List Cond} {rm : Room} (n : Nat) (ht : ∀ w ∈ Ts, w.before args s = true) (hT : GoodIn Ts (va_wsS own index y ws)) (hw : ws = Cond.codeWith y bytes maxL ret hh :: ws') (hrc : rm.cells = mc) (hrs : rm.slots = ms)
    (hd : y.cls ≠ "java/lang/invoke/MethodHandle" ∧ y.cls ≠ "java/lang/invoke/VarHandle" ∧ (parseMethodDescriptor y.desc).map (fun d => d.parameters.length) = some n) (hR : rm.frames + 1 ≤ R.frames ∧ 8 + (maxL + 11) + rm.locals ≤ R.locals) :
    vx_CSW R s args own index y bytes maxL ret hh ws rm mc ms n := by
  have ok : ∀ w ∈ va_wsS own index y ws, w.before args s = true := fun w h => ht w (hT w h).1
  have hG : GoodIn Ts ws := fun w h => hT w (by unfold va_wsS; exact List.mem_append_right _ h)
  have hc : Cond.codeWith y bytes maxL ret hh ∈ ws := by rw [hw]; exact List.mem_cons_self
  refine ⟨⟨hrc, hrs, hR.1, hR.2, pay_in ht hG, hc⟩, ht _ (hG _ hc).1, ok _ (by simp [va_wsS]), ⟨hd.1, hd.2.1⟩, fun sig h => ?_, ok _ (by simp [va_wsS]), ok _ (by simp [va_wsS])⟩
  have h2 := hd.2.2
  rw [h] at h2
  exact (Option.some.inj h2).symm
theorem vx_callSW (X : Stand p l e R s m args below meth c T locs cells slots) (hexec : p.tables.exec = Jvm.exec) {own : String} {index : Nat} {y : MethodName} {bytes : ByteArray} {maxL : Nat} {ret : Option FieldType} {hh : List (Nat × Nat × Nat × Nat)}
    (hown : s.vm.findClass own = some m.cls) (hlink : (Cond.methodLink own index y).before args s = true) (hstat : (Cond.static y).before args s = true) (hinit : (Cond.initialized y.cls).before args s = true)
    (hcode : (Cond.codeWith y bytes maxL ret hh).before args s = true) (hy : y.cls ≠ "java/lang/invoke/MethodHandle" ∧ y.cls ≠ "java/lang/invoke/VarHandle")
    {W9 : Nat} {Pre : Pt → Array Value → Prop} {Post : Pt → Array Value → Option Value → Pt → Prop} (hK : Back l R p e below s args y 3 W9 Pre Post)
    {g : JFrame} (hg : g.method = m) (hsize : g.locals.size = c.maxLocals) {argsL rest : List Value} (hlen : ∀ sig, parseMethodDescriptor y.desc = some sig → argsL.length = sig.parameters.length)
    (hstack : g.stack = argsL.reverse ++ rest) (hW : 2 * g.monitorRoom + (rest.map fun v => v.category).sum ≤ W9) (hdg : decode c.code g.pc = .ok (.invokestatic index, 3))
    (hpre : ∀ vm₁, s.WarmedH vm₁ → Pre ⟨T.setVm vm₁, locs, cells, slots⟩ argsL.toArray) :
    ∃ (v : Option Value) (vm₁ : Vm) (B : Pt), s.WarmedH vm₁ ∧ Stand p l e R s m args below meth c B.U B.locs B.cells B.slots ∧ Post ⟨T.setVm vm₁, locs, cells, slots⟩ argsL.toArray v B ∧
      ∀ target, Steps p.tables e below (B.U.setTop { g with pc := g.pc + 3, stack := v.toList ++ rest }) target → Steps p.tables e below (T.setTop g) target := by
  obtain ⟨mk, methM, cM, hnamed, hmethM, -, -, -, -, -, -, hsigM⟩ := Cond.codeWith_spec hcode
  have hstatic : methM.isStatic = true := Cond.static_spec hnamed hmethM hstat
  obtain ⟨kP, hkP, -⟩ := className_of_methodNamed hnamed
  have hinitP : kP.init = .initialized := Cond.initialized_spec (findClass_of_methodNamed hnamed) hkP hinit
  obtain ⟨vm₁, X₁, hstep₁⟩ := X.invokestatic hexec hown hlink hnamed hmethM hstatic hkP hinitP hy (g := g) hg (argsL := argsL) (rest := rest) (hlen _ hsigM) hstack hdg
  obtain ⟨v, B, X', hpost, hsteps⟩ := hK m meth c ⟨T.setVm vm₁, locs, cells, slots⟩ { g with stack := rest } (.invokestatic index) mk argsL.toArray X₁ hg hsize hdg hW (X₁.named hnamed) (hpre vm₁ X₁.warmed)
  exact ⟨v, vm₁, B, X₁.warmed, X', hpost, fun target h => hstep₁ _ fun acts => by rw [doInvoke_state]; exact hsteps.trans h⟩
theorem vx_runSW {y : MethodName} {bytes cc : ByteArray} {maxL nL mc ms n index : Nat} {ret : Option FieldType} {hh : List (Nat × Nat × Nat × Nat)} {ws : List Cond} {rm : Room} {Pc : Array Value → State → Prop} {Qc : Array Value → State → Outcome → State → Prop} {free : Addr → Prop} {Ts : List Cond} {own : String} {As rest : List Value} {g : JFrame}
    (S : CallFix p m c cc nL s args Ts own) (hM : Met l y ws rm Pc Qc mc ms free) (cw : vx_CSW R s args own index y bytes maxL ret hh ws rm mc ms n) (hp : PreS s H Pc As)
    (hg : g.method = m) (hn : As.length = n) (hsize : g.locals.size = nL) (hstack : g.stack = As.reverse ++ rest) (hW : 2 * g.monitorRoom + (rest.map fun v => v.category).sum ≤ 8) (hdg : decode cc g.pc = .ok (.invokestatic index, 3)) (hf : cells + mc ≤ R.cells ∧ slots + ms ≤ R.slots) :
    va_Run p l e R s m args below meth c H locs cells slots mc ms g rest (Qc As.toArray) (free) := by
  obtain ⟨⟨hrc, hrs, hfr, hlo, hws, hcw⟩, hcode, hini, hy, hlen, hl, hstt⟩ := cw
  have hK : Back l R p e below s args y 3 8 (PreOf R mc ms Pc) (PostOf Qc mc ms free) := va_backW (hh := hh) (bytes := bytes) (maxL := maxL) (ret := ret) hM hp.1 hrc hrs hfr hlo hws hcw (fun a' U hW => word_at hW (Or.inl (by first | rfl | simp [Cond.onTables, Cond.keeps, Cond.steady])) hini)
  obtain ⟨hx, hb, hml, ho, -⟩ := S
  intro T hT X
  obtain ⟨v, vm₁, ⟨U', l2, c2, s2⟩, hW₁, X', ⟨g', mk, t, L, e1, e2, hq, h1, hL, h2, h3⟩, st⟩ := vx_callSW X hx (hh := hh) (bytes := bytes) (maxL := maxL) (ret := ret) ho hl hstt hini hcode hy hK hg (hsize.trans hml.symm) (argsL := As) (rest := rest) (fun sig h => hn.trans (hlen sig h)) hstack hW (by rw [hb]; exact hdg)
    (fun vm₁ hW₁ => ⟨hf.1, hf.2, hp.2 (T.setVm vm₁) hT hW₁⟩)
  dsimp only [Pt.U, Pt.locs, Pt.cells, Pt.slots] at X' e1 e2 h1 h2 h3 st
  subst h1; subst h2; subst h3
  exact ⟨v, (T.setVm vm₁).calling g' mk As.toArray, t, U', L, hT, X', hL, e1, e2, hq, st⟩
/-- not caught here, past rows that name other classes: it goes on to the caller -/
theorem vx_outP {p : Program} {l : Launch} {e : Env} {R : Room} {s : State} {m : MethodId} {args : Array Value} {below : List Frame} {meth : Method} {c : Code} {H : Heap} {locs : List Loc} {cells slots : Nat} {free : Addr → Prop} {ls : Array Slot} {rest : List Value} {Qc : Array Value → State → Outcome → State → Prop} {XC : String → State → State → Prop}
    {pc : Nat} {own E : String} {ce : Cell} {q : Addr} {mc ms : Nat} (hown : s.vm.findClass own = some m.cls) (hlocks : meth.locks = false)
    (hpass : ∀ z ∈ c.exceptionTable.toList, covers z pc = false ∨ (z.catchType ≠ 0 ∧ ∃ nm : String, (Cond.classLink own z.catchType nm).before args s = true ∧ va_Nc E nm s)) (hcell : H[q]? = some ce) (hv : ce.vm = .none) (hcl : s.vm.findClass E = some ce.cls)
    (hx : ∀ t : State, t.heap = H → s.vm.Alike t.vm → XC E s t) (hf : ∀ z ∈ locs, free z.base) (hc : cells ≤ mc) (hs : slots ≤ ms) :
    vx_W p l e R s m args below meth c H locs cells slots (vx_MQ below Qc XC args s mc ms free) (F0 m pc ls rest) q := by
  intro T hT X
  have hpl : e.platform.magicAccessors = ({} : Platform).magicAccessors := by rw [X.admits.platform]
  obtain ⟨vm', hW', X', st⟩ := X.outThrough hlocks q (g := F0 m pc ls rest) rfl rfl rfl (cell := ce) (by rw [hT]; exact hcell) (by rw [hv]; rfl)
    (by obtain ⟨k9, h9, -⟩ := Vm.findClass_spec hcl; exact ⟨k9, h9⟩) (fun z hz => by
      rcases hpass z hz with h | ⟨hz0, nm, hl1, hn1⟩
      · exact Or.inl h
      · obtain ⟨c6, hc6, hcl6⟩ := Cond.classLink_spec hown hl1 e.platform hpl
        obtain ⟨a8, b8, h1, h2, h3⟩ := hn1
        cases Option.some.inj (h1.symm.trans hcl)
        cases Option.some.inj (h2.symm.trans hc6)
        exact Or.inr ⟨hz0, _, hcl6, h3⟩)
  obtain ⟨g₀, hfr⟩ := X'.frames_eq
  have hcell9 : ((T.setVm vm').setFrames (.throwing q :: below)).heap[q]? = some ce := by
    show T.heap[q]? = some ce
    rw [hT]; exact hcell
  have hend : Ended ((T.setVm vm').setFrames (.throwing q :: below)) below (.threw q) := State.frames_setFrames _ (State.cur_lt_of_frames hfr)
  refine ⟨(T.setVm vm').setFrames (.throwing q :: below), ?_, .threw q, X'.here.running, hend, Or.inr ⟨q, rfl, E, ce, locs, hx _ hT (X'.ends _).1.alike, hcell9, hv, hcl, (X'.ends _).1, (X'.ends _).2.mono hc hs, hf⟩⟩
  rw [X.pushThrowing_eq]
  exact st
/-- a thing of a world lies in the heap -/
theorem vx_lt {D : va_G} {cl : List vw_C} {ws : va_W} {H1 : Heap} (h : va_P D cl ws H1) {k : Nat} {q : Nat × va_E} (hk : ws[k]? = some q) : q.1 < H1.size := (h k q hk).lt
end VXS
/-! ===== END ===== -/
/-! ===== BEGIN methods with a table of their own: called by a name, returning or throwing ===== -/
section VXH
/-! vx_backW, vx_callVX, vx_callSX, vx_callVW, vx_runVW, vx_runVX, vx_runSX, vx_ofWH follow the same proofs as their sisters above (Free/Laws.lean, Shelf42/LK1.lean); vx_outP calls Shelf42/NT130.lean (outThrough). -/
section
variable {l : Launch} {R : Room} {p : Program} {e : Env} {below : List Frame} {s : State} {sargs : Array Value} {y : MethodName} {len W9 : Nat}
theorem vx_backW {ws : List Cond} {rm : Room} {Pc : Array Value → State → Prop} {Qc : Array Value → State → Outcome → State → Prop} {XC : String → State → State → Prop} {mc ms : Nat} {free : Addr → Prop} {bytes : ByteArray} {maxL : Nat} {ret : Option FieldType} {hh : List (Nat × Nat × Nat × Nat)}
    (hM : vx_Met l y ws rm Pc Qc XC mc ms free) (hblind : FrameBlind Pc) (hrc : rm.cells = mc) (hrs : rm.slots = ms)
    (hframes : rm.frames + 1 ≤ R.frames) (hlocals : W9 + (maxL + 11) + rm.locals ≤ R.locals)
    (hws : ∀ w ∈ ws, ∀ a' U, s.WarmedH U.vm → w.before a' U = true) (hcode : Cond.codeWith y bytes maxL ret hh ∈ ws) (hinit : ∀ a' U, s.WarmedH U.vm → (Cond.initialized y.cls).before a' U = true) :
    vx_Back l R p e below s sargs y len W9 (PreOf R mc ms Pc) (PostOf Qc mc ms free) (vx_Post XC mc ms free) := by
  intro m meth c A g ig mk a X hg hsize hdg hW hn hp
  have h1 : (headSpec ws rm).pre.before a A.U = true := atoms_intro fun w hw => hws w hw _ _ X.warmed
  have h2 : (Cond.codeWith y bytes maxL ret hh).before a A.U = true := hws _ hcode _ _ X.warmed
  have h3 : (Cond.initialized y.cls).before a A.U = true := hinit _ _ X.warmed
  have h4 : A.cells + (headSpec ws rm).room.cells ≤ R.cells := by rw [show (headSpec ws rm).room.cells = mc from hrc]; exact hp.1
  have h5 : A.slots + (headSpec ws rm).room.slots ≤ R.slots := by rw [show (headSpec ws rm).room.slots = ms from hrs]; exact hp.2.1
  have hPc : Pc a (A.U.calling g mk a) := hblind _ _ _ _ hp.2.2
  obtain ⟨U, Ls, c0, s0⟩ := A
  dsimp only [Pt.U, Pt.locs, Pt.cells, Pt.slots] at h1 h2 h3 h4 h5 X hn hPc ⊢
  obtain ⟨m9, methY, cY, hn9, hmY, hcY, -, hlY, -⟩ := Cond.codeWith_spec h2
  cases Option.some.inj (hn9.symm.trans hn)
  obtain ⟨kY, hkY, -⟩ := className_of_methodNamed hn
  have hinitY : kY.init = .initialized := Cond.initialized_spec (findClass_of_methodNamed hn) hkY h3
  have h : At U g.method c below := by rw [hg]; exact X.here
  have hlocals9 : W9 + (maxL + 11) + (headSpec ws rm).room.locals ≤ R.locals := hlocals
  have happ : (headSpec ws rm).appliesLoose y e.platform (U.calling g mk a) = true :=
    Spec.appliesLoose_calling (g := g) h hdg hn hkY hinitY
      (X.room_calling (g := g) (R' := (headSpec ws rm).room) hsize hmY hcY hframes (by rw [hlY]; omega) h4 h5) h1
  obtain ⟨mid, hmid⟩ := h.above
  have hfr : (U.setTop g).frames = (.java g :: mid) ++ below := by rw [State.frames_setTop' g h.top, hmid]; rfl
  obtain ⟨o, s₂, hsteps, -, hend, hq⟩ := Steps.callFree hM p X.admits X.cas X.clock (acts := []) hfr happ hPc trivial
  have hq' : vx_Q Qc XC mc ms free a (U.calling g mk a) o s₂ := hq
  rw [State.frames_setTop' g h.top] at hend
  obtain ⟨g₀, hg0⟩ := Option.isSome_iff_exists.mp h.top
  obtain ⟨r, hr⟩ := State.topJava?_eq_some.mp hg0
  have hr' : (({ U with heap := s₂.heap, slotsUsed := s₂.slotsUsed } : State).setVm s₂.vm).frames = .java g₀ :: r := hr
  rcases hq' with ⟨hqc, L, hfe, hL⟩ | ⟨q, rfl, E, ce, L, hx, hce, hcv, hcl, hW₂, hsm, hL⟩
  · obtain ⟨⟨v, rfl⟩, hW₂, e2, q2, q3, q4, q5, q6⟩ := id hfe
    have e3 : s₂ = ({ (U.calling g mk a).setFrames s₂.frames with heap := s₂.heap, slotsUsed := s₂.slotsUsed } : State).setVm s₂.vm := by
      have : s₂ = ({ s₂ with vm := (U.calling g mk a).vm } : State).setVm s₂.vm := rfl
      rw [e2] at this
      exact this
    obtain ⟨c₂, i₂, len₂, hc₂, hd₂, hf₂⟩ := hend
    have hW' : U.WarmedH s₂.vm := hW₂
    have hcc : c₂ = c := by
      have h1 : s₂.code? g.method = U.code? g.method := by
        rw [State.code?_eq, State.code?_eq, hW'.alike.method?]
      exact Option.some.inj (hc₂.symm.trans (h1.trans h.code))
    subst hcc
    have hlen : len₂ = len := by rw [hdg] at hd₂; cases hd₂; rfl
    subst hlen
    have hs₂ : s₂ = (({ U with heap := s₂.heap, slotsUsed := s₂.slotsUsed } : State).setVm s₂.vm).setTop { g with pc := g.pc + len₂, stack := v.toList ++ g.stack } := by
      refine e3.trans ?_
      rw [hf₂, State.calling_eq h.top, State.setFrames_setFrames, State.setTop_of_frames _ hr', hr]
      rfl
    have hsame : U.sameButNew ({ U with heap := s₂.heap, slotsUsed := s₂.slotsUsed } : State) L mc ms := by
      refine ⟨?_, q2, q3, q4, q5, q6⟩
      obtain ⟨t, ht, -⟩ := State.frames_cons hr
      show ({ U with heap := s₂.heap, slotsUsed := s₂.slotsUsed } : State) = { U.setFrames U.frames with heap := s₂.heap, slotsUsed := s₂.slotsUsed }
      rw [State.setFrames_self ht]
    subst hg
    refine Or.inl ⟨v, ⟨(({ U with heap := s₂.heap, slotsUsed := s₂.slotsUsed } : State).setVm s₂.vm), Ls ++ L, c0 + mc, s0 + ms⟩,
      ⟨X.admits, X.cas, X.clock, X.frames, X.room, X.hears, X.method, X.code, (X.here.setHeapUsed s₂.heap s₂.slotsUsed).setVm hW'.alike, X.tail, State.WarmedH.trans X.warmed hW', X.limits, X.bytes, X.same.trans (hsame.setVm s.vm)⟩,
      ⟨g, mk, s₂, L, rfl, rfl, hqc, rfl, hL, rfl, rfl⟩, ?_⟩
    show Steps p.tables e below _ ((({ U with heap := s₂.heap, slotsUsed := s₂.slotsUsed } : State).setVm s₂.vm).setTop { g with pc := g.pc + len₂, stack := v.toList ++ g.stack })
    rw [← hs₂]
    exact hsteps
  · obtain ⟨e2, q2, q3, q4, q5, q6⟩ := id hsm
    have e3 : s₂ = ({ (U.calling g mk a).setFrames s₂.frames with heap := s₂.heap, slotsUsed := s₂.slotsUsed } : State).setVm s₂.vm := by
      have : s₂ = ({ s₂ with vm := (U.calling g mk a).vm } : State).setVm s₂.vm := rfl
      rw [e2] at this
      exact this
    have hf₂ : s₂.frames = .throwing q :: .java g :: U.frames.tail := hend
    have hW' : U.WarmedH s₂.vm := hW₂
    have hs₂ : s₂ = ((({ U with heap := s₂.heap, slotsUsed := s₂.slotsUsed } : State).setVm s₂.vm).setTop g).pushFrame (.throwing q) := by
      refine e3.trans ?_
      rw [hf₂, State.calling_eq h.top, State.setFrames_setFrames, State.pushFrame, State.frames_setTop _ hr', State.setTop_of_frames _ hr', State.setFrames_setFrames, hr]
      rfl
    have hsame : U.sameButNew ({ U with heap := s₂.heap, slotsUsed := s₂.slotsUsed } : State) L mc ms := by
      refine ⟨?_, q2, q3, q4, q5, q6⟩
      obtain ⟨t, ht, -⟩ := State.frames_cons hr
      show ({ U with heap := s₂.heap, slotsUsed := s₂.slotsUsed } : State) = { U.setFrames U.frames with heap := s₂.heap, slotsUsed := s₂.slotsUsed }
      rw [State.setFrames_self ht]
    subst hg
    refine Or.inr ⟨q, ⟨(({ U with heap := s₂.heap, slotsUsed := s₂.slotsUsed } : State).setVm s₂.vm), Ls ++ L, c0 + mc, s0 + ms⟩,
      ⟨X.admits, X.cas, X.clock, X.frames, X.room, X.hears, X.method, X.code, (X.here.setHeapUsed s₂.heap s₂.slotsUsed).setVm hW'.alike, X.tail, State.WarmedH.trans X.warmed hW', X.limits, X.bytes, X.same.trans (hsame.setVm s.vm)⟩,
      ⟨g, mk, s₂, L, E, ce, rfl, rfl, hx, hce, hcv, hcl, rfl, hL, rfl, rfl⟩, ?_⟩
    show Steps p.tables e below _ (((({ U with heap := s₂.heap, slotsUsed := s₂.slotsUsed } : State).setVm s₂.vm).setTop g).pushFrame (.throwing q))
    rw [← hs₂]
    exact hsteps
end
variable {p : Program} {l : Launch} {e : Env} {R : Room} {s : State} {m : MethodId} {args : Array Value} {below : List Frame} {meth : Method} {c : Code} {T : State} {H : Heap} {locs : List Loc} {cells slots : Nat}
theorem vx_callVX (X : Stand p l e R s m args below meth c T locs cells slots) (hexec : p.tables.exec = Jvm.exec) {own C : String} {index : Nat} {y : MethodName} {bytes : ByteArray} {maxL : Nat} {ret : Option FieldType} {hh : List (Nat × Nat × Nat × Nat)}
    (hown : s.vm.findClass own = some m.cls) (hlink : (Cond.methodLink own index y).before args s = true) (hinst : (Cond.instanceMethod y).before args s = true) (hsel : (Cond.selects C y y).before args s = true)
    (hcode : (Cond.codeWith y bytes maxL ret hh).before args s = true) (hy : y.cls ≠ "java/lang/invoke/MethodHandle" ∧ y.cls ≠ "java/lang/invoke/VarHandle")
    {W9 : Nat} {Pre : Pt → Array Value → Prop} {Post : Pt → Array Value → Option Value → Pt → Prop} {PostX : Pt → Array Value → Addr → Pt → Prop} (hK : vx_Back l R p e below s args y 3 W9 Pre Post PostX)
    {b : Addr} {cellB : Cell} (hcell : T.heap[b]? = some cellB) (hobj : cellB.vm.isStatics = false) (hcls : s.vm.findClass C = some cellB.cls)
    {g : JFrame} (hg : g.method = m) (hsize : g.locals.size = c.maxLocals) {argsL rest : List Value} (hlen : ∀ sig, parseMethodDescriptor y.desc = some sig → argsL.length = sig.parameters.length)
    (hstack : g.stack = argsL.reverse ++ .ref b :: rest) (hW : 2 * g.monitorRoom + (rest.map fun v => v.category).sum ≤ W9) (hdg : decode c.code g.pc = .ok (.invokevirtual index, 3))
    (hpre : ∀ vm₁, s.WarmedH vm₁ → Pre ⟨T.setVm vm₁, locs, cells, slots⟩ (Value.ref b :: argsL).toArray) :
    (∃ (v : Option Value) (vm₁ : Vm) (B : Pt), s.WarmedH vm₁ ∧ Stand p l e R s m args below meth c B.U B.locs B.cells B.slots ∧ Post ⟨T.setVm vm₁, locs, cells, slots⟩ (Value.ref b :: argsL).toArray v B ∧
      ∀ target, Steps p.tables e below (B.U.setTop { g with pc := g.pc + 3, stack := v.toList ++ rest }) target → Steps p.tables e below (T.setTop g) target) ∨
    (∃ (q : Addr) (vm₁ : Vm) (B : Pt), s.WarmedH vm₁ ∧ Stand p l e R s m args below meth c B.U B.locs B.cells B.slots ∧ PostX ⟨T.setVm vm₁, locs, cells, slots⟩ (Value.ref b :: argsL).toArray q B ∧
      Steps p.tables e below (T.setTop g) ((B.U.setTop { g with stack := rest }).pushFrame (.throwing q))) := by
  obtain ⟨mk, methM, hnamed, hmethM, hstM, habM⟩ := Cond.instanceMethod_spec hinst
  obtain ⟨m8, methM', cM, hn8, hmethM', -, -, -, -, -, -, hsigM⟩ := Cond.codeWith_spec hcode
  cases Option.some.inj (hn8.symm.trans hnamed)
  cases hmethM.symm.trans hmethM'
  obtain ⟨c2, r2, m2, q1, q2, q3, q4, kP, hkP, hkPi⟩ := Cond.selects_spec hsel
  cases hcls.symm.trans q1
  cases (State.methodFound?_of_named hnamed hy).symm.trans q2
  cases hnamed.symm.trans q3
  have hselP : selectMethod e.platform s.vm cellB.cls mk = .method mk := by rw [Launch.admits_selectMethod X.admits]; exact q4
  obtain ⟨vm₁, X₁, hstep₁⟩ := X.invokevirtual hexec hown hlink hnamed hmethM hstM hkP hkPi hy (a := b) (cell := cellB) hcell
    (fun z h => by rw [h] at hobj; cases hobj) hselP hmethM habM hkP hkPi (g := g) hg (argsL := argsL) (rest := rest) (hlen _ hsigM) hstack hdg
  rcases hK m meth c ⟨T.setVm vm₁, locs, cells, slots⟩ { g with stack := rest } (.invokevirtual index) mk (Value.ref b :: argsL).toArray X₁ hg hsize hdg hW (X₁.named hnamed) (hpre vm₁ X₁.warmed) with ⟨v, B, X', hpost, hsteps⟩ | ⟨q, B, X', hpost, hsteps⟩
  · exact Or.inl ⟨v, vm₁, B, X₁.warmed, X', hpost, fun target h => hstep₁ _ fun acts => by rw [doInvoke_state]; exact hsteps.trans h⟩
  · exact Or.inr ⟨q, vm₁, B, X₁.warmed, X', hpost, hstep₁ _ fun acts => by rw [doInvoke_state]; exact hsteps⟩
theorem vx_callSX (X : Stand p l e R s m args below meth c T locs cells slots) (hexec : p.tables.exec = Jvm.exec) {own : String} {index : Nat} {y : MethodName} {bytes : ByteArray} {maxL : Nat} {ret : Option FieldType} {hh : List (Nat × Nat × Nat × Nat)}
    (hown : s.vm.findClass own = some m.cls) (hlink : (Cond.methodLink own index y).before args s = true) (hstat : (Cond.static y).before args s = true) (hinit : (Cond.initialized y.cls).before args s = true)
    (hcode : (Cond.codeWith y bytes maxL ret hh).before args s = true) (hy : y.cls ≠ "java/lang/invoke/MethodHandle" ∧ y.cls ≠ "java/lang/invoke/VarHandle")
    {W9 : Nat} {Pre : Pt → Array Value → Prop} {Post : Pt → Array Value → Option Value → Pt → Prop} {PostX : Pt → Array Value → Addr → Pt → Prop} (hK : vx_Back l R p e below s args y 3 W9 Pre Post PostX)
    {g : JFrame} (hg : g.method = m) (hsize : g.locals.size = c.maxLocals) {argsL rest : List Value} (hlen : ∀ sig, parseMethodDescriptor y.desc = some sig → argsL.length = sig.parameters.length)
    (hstack : g.stack = argsL.reverse ++ rest) (hW : 2 * g.monitorRoom + (rest.map fun v => v.category).sum ≤ W9) (hdg : decode c.code g.pc = .ok (.invokestatic index, 3))
    (hpre : ∀ vm₁, s.WarmedH vm₁ → Pre ⟨T.setVm vm₁, locs, cells, slots⟩ argsL.toArray) :
    (∃ (v : Option Value) (vm₁ : Vm) (B : Pt), s.WarmedH vm₁ ∧ Stand p l e R s m args below meth c B.U B.locs B.cells B.slots ∧ Post ⟨T.setVm vm₁, locs, cells, slots⟩ argsL.toArray v B ∧
      ∀ target, Steps p.tables e below (B.U.setTop { g with pc := g.pc + 3, stack := v.toList ++ rest }) target → Steps p.tables e below (T.setTop g) target) ∨
    (∃ (q : Addr) (vm₁ : Vm) (B : Pt), s.WarmedH vm₁ ∧ Stand p l e R s m args below meth c B.U B.locs B.cells B.slots ∧ PostX ⟨T.setVm vm₁, locs, cells, slots⟩ argsL.toArray q B ∧
      Steps p.tables e below (T.setTop g) ((B.U.setTop { g with stack := rest }).pushFrame (.throwing q))) := by
  obtain ⟨mk, methM, cM, hnamed, hmethM, -, -, -, -, -, -, hsigM⟩ := Cond.codeWith_spec hcode
  have hstatic : methM.isStatic = true := Cond.static_spec hnamed hmethM hstat
  obtain ⟨kP, hkP, -⟩ := className_of_methodNamed hnamed
  have hinitP : kP.init = .initialized := Cond.initialized_spec (findClass_of_methodNamed hnamed) hkP hinit
  obtain ⟨vm₁, X₁, hstep₁⟩ := X.invokestatic hexec hown hlink hnamed hmethM hstatic hkP hinitP hy (g := g) hg (argsL := argsL) (rest := rest) (hlen _ hsigM) hstack hdg
  rcases hK m meth c ⟨T.setVm vm₁, locs, cells, slots⟩ { g with stack := rest } (.invokestatic index) mk argsL.toArray X₁ hg hsize hdg hW (X₁.named hnamed) (hpre vm₁ X₁.warmed) with ⟨v, B, X', hpost, hsteps⟩ | ⟨q, B, X', hpost, hsteps⟩
  · exact Or.inl ⟨v, vm₁, B, X₁.warmed, X', hpost, fun target h => hstep₁ _ fun acts => by rw [doInvoke_state]; exact hsteps.trans h⟩
  · exact Or.inr ⟨q, vm₁, B, X₁.warmed, X', hpost, hstep₁ _ fun acts => by rw [doInvoke_state]; exact hsteps⟩
theorem vx_callVW (X : Stand p l e R s m args below meth c T locs cells slots) (hexec : p.tables.exec = Jvm.exec) {own C : String} {index : Nat} {y : MethodName} {bytes : ByteArray} {maxL : Nat} {ret : Option FieldType} {hh : List (Nat × Nat × Nat × Nat)}
    (hown : s.vm.findClass own = some m.cls) (hlink : (Cond.methodLink own index y).before args s = true) (hinst : (Cond.instanceMethod y).before args s = true) (hsel : (Cond.selects C y y).before args s = true)
    (hcode : (Cond.codeWith y bytes maxL ret hh).before args s = true) (hy : y.cls ≠ "java/lang/invoke/MethodHandle" ∧ y.cls ≠ "java/lang/invoke/VarHandle")
    {W9 : Nat} {Pre : Pt → Array Value → Prop} {Post : Pt → Array Value → Option Value → Pt → Prop} (hK : Back l R p e below s args y 3 W9 Pre Post)
    {b : Addr} {cellB : Cell} (hcell : T.heap[b]? = some cellB) (hobj : cellB.vm.isStatics = false) (hcls : s.vm.findClass C = some cellB.cls)
    {g : JFrame} (hg : g.method = m) (hsize : g.locals.size = c.maxLocals) {argsL rest : List Value} (hlen : ∀ sig, parseMethodDescriptor y.desc = some sig → argsL.length = sig.parameters.length)
    (hstack : g.stack = argsL.reverse ++ .ref b :: rest) (hW : 2 * g.monitorRoom + (rest.map fun v => v.category).sum ≤ W9) (hdg : decode c.code g.pc = .ok (.invokevirtual index, 3))
    (hpre : ∀ vm₁, s.WarmedH vm₁ → Pre ⟨T.setVm vm₁, locs, cells, slots⟩ (Value.ref b :: argsL).toArray) :
    ∃ (v : Option Value) (vm₁ : Vm) (B : Pt), s.WarmedH vm₁ ∧ Stand p l e R s m args below meth c B.U B.locs B.cells B.slots ∧ Post ⟨T.setVm vm₁, locs, cells, slots⟩ (Value.ref b :: argsL).toArray v B ∧
      ∀ target, Steps p.tables e below (B.U.setTop { g with pc := g.pc + 3, stack := v.toList ++ rest }) target → Steps p.tables e below (T.setTop g) target := by
  obtain ⟨mk, methM, hnamed, hmethM, hstM, habM⟩ := Cond.instanceMethod_spec hinst
  obtain ⟨m8, methM', cM, hn8, hmethM', -, -, -, -, -, -, hsigM⟩ := Cond.codeWith_spec hcode
  cases Option.some.inj (hn8.symm.trans hnamed)
  cases hmethM.symm.trans hmethM'
  obtain ⟨c2, r2, m2, q1, q2, q3, q4, kP, hkP, hkPi⟩ := Cond.selects_spec hsel
  cases hcls.symm.trans q1
  cases (State.methodFound?_of_named hnamed hy).symm.trans q2
  cases hnamed.symm.trans q3
  have hselP : selectMethod e.platform s.vm cellB.cls mk = .method mk := by rw [Launch.admits_selectMethod X.admits]; exact q4
  obtain ⟨vm₁, X₁, hstep₁⟩ := X.invokevirtual hexec hown hlink hnamed hmethM hstM hkP hkPi hy (a := b) (cell := cellB) hcell
    (fun z h => by rw [h] at hobj; cases hobj) hselP hmethM habM hkP hkPi (g := g) hg (argsL := argsL) (rest := rest) (hlen _ hsigM) hstack hdg
  obtain ⟨v, B, X', hpost, hsteps⟩ := hK m meth c ⟨T.setVm vm₁, locs, cells, slots⟩ { g with stack := rest } (.invokevirtual index) mk (Value.ref b :: argsL).toArray X₁ hg hsize hdg hW (X₁.named hnamed) (hpre vm₁ X₁.warmed)
  exact ⟨v, vm₁, B, X₁.warmed, X', hpost, fun target h => hstep₁ _ fun acts => by rw [doInvoke_state]; exact hsteps.trans h⟩
abbrev vx_CVW (R : Room) (s : State) (args : Array Value) (own C : String) (index : Nat) (y : MethodName) (bytes : ByteArray) (maxL : Nat) (ret : Option FieldType) (hh : List (Nat × Nat × Nat × Nat)) (ws : List Cond) (rm : Room) (mc ms n : Nat) : Prop :=
  (rm.cells = mc ∧ rm.slots = ms ∧ rm.frames + 1 ≤ R.frames ∧ 8 + (maxL + 11) + rm.locals ≤ R.locals ∧ (∀ w ∈ ws, ∀ (a' : Array Value) (U : State), s.WarmedH U.vm → w.before a' U = true) ∧ Cond.codeWith y bytes maxL ret hh ∈ ws) ∧
  (Cond.codeWith y bytes maxL ret hh).before args s = true ∧ (Cond.initialized y.cls).before args s = true ∧ (y.cls ≠ "java/lang/invoke/MethodHandle" ∧ y.cls ≠ "java/lang/invoke/VarHandle") ∧
  (∀ sig, parseMethodDescriptor y.desc = some sig → n = sig.parameters.length) ∧ (Cond.methodLink own index y).before args s = true ∧ (Cond.instanceMethod y).before args s = true ∧ (Cond.selects C y y).before args s = true
theorem vx_cwVW {own C : String} {index maxL mc ms : Nat} {y : MethodName} {bytes : ByteArray} {ret : Option FieldType} {hh : List (Nat × Nat × Nat × Nat)} {Ts ws ws' : List Cond} {rm : Room} (n : Nat) (ht : ∀ w ∈ Ts, w.before args s = true) (hT : GoodIn Ts (wsV own index C y ws)) (hw : ws = Cond.codeWith y bytes maxL ret hh :: ws') (hrc : rm.cells = mc) (hrs : rm.slots = ms)
    (hd : y.cls = C ∧ y.cls ≠ "java/lang/invoke/MethodHandle" ∧ y.cls ≠ "java/lang/invoke/VarHandle" ∧ (parseMethodDescriptor y.desc).map (fun d => d.parameters.length) = some n) (hR : rm.frames + 1 ≤ R.frames ∧ 8 + (maxL + 11) + rm.locals ≤ R.locals) :
    vx_CVW R s args own C index y bytes maxL ret hh ws rm mc ms n := by
  obtain ⟨hC, hd⟩ := hd
  subst hC
  have ok : ∀ w ∈ wsV own index y.cls y ws, w.before args s = true := fun w h => ht w (hT w h).1
  have hG : GoodIn Ts ws := fun w h => hT w (by unfold wsV; exact List.mem_append_right _ h)
  have hc : Cond.codeWith y bytes maxL ret hh ∈ ws := by rw [hw]; exact List.mem_cons_self
  refine ⟨⟨hrc, hrs, hR.1, hR.2, pay_in ht hG, hc⟩, ht _ (hG _ hc).1, ok _ (by simp [wsV]), ⟨hd.1, hd.2.1⟩, fun sig h => ?_, ok _ (by simp [wsV]), ok _ (by simp [wsV]), ok _ (by simp [wsV])⟩
  have h2 := hd.2.2
  rw [h] at h2
  exact (Option.some.inj h2).symm
theorem vx_runVW {y : MethodName} {bytes cc : ByteArray} {maxL nL mc ms n index : Nat} {ret : Option FieldType} {hh : List (Nat × Nat × Nat × Nat)} {ws : List Cond} {rm : Room} {Pc : Array Value → State → Prop} {Qc : Array Value → State → Outcome → State → Prop} {free : Addr → Prop} {Ts : List Cond} {own C : String} {b : Addr} {As rest : List Value} {g : JFrame}
    (S : CallFix p m c cc nL s args Ts own) (hM : Met l y ws rm Pc Qc mc ms free) (cw : vx_CVW R s args own C index y bytes maxL ret hh ws rm mc ms n) (hp : PreV s H C b Pc As)
    (hg : g.method = m) (hn : As.length = n) (hsize : g.locals.size = nL) (hstack : g.stack = As.reverse ++ .ref b :: rest) (hW : 2 * g.monitorRoom + (rest.map fun v => v.category).sum ≤ 8) (hdg : decode cc g.pc = .ok (.invokevirtual index, 3)) (hf : cells + mc ≤ R.cells ∧ slots + ms ≤ R.slots) :
    va_Run p l e R s m args below meth c H locs cells slots mc ms g rest (Qc (Value.ref b :: As).toArray) free := by
  obtain ⟨⟨hrc, hrs, hfr, hlo, hws, hcw⟩, hcode, hini, hy, hlen, hl, hin, hse⟩ := cw
  have hK : Back l R p e below s args y 3 8 (PreOf R mc ms Pc) (PostOf Qc mc ms free) := va_backW (hh := hh) (bytes := bytes) (maxL := maxL) (ret := ret) hM hp.1 hrc hrs hfr hlo hws hcw (fun a' U hW => word_at hW (Or.inl (by first | rfl | simp [Cond.onTables, Cond.keeps, Cond.steady])) hini)
  obtain ⟨hx, hb, hml, ho, -⟩ := S
  obtain ⟨-, ⟨cellB, hcB, hoB, hclB⟩, hPc⟩ := hp
  intro T hT X
  obtain ⟨v, vm₁, ⟨U', l2, c2, s2⟩, hW₁, X', ⟨g', mk, t, L, e1, e2, hq, h1, hL, h2, h3⟩, st⟩ := vx_callVW X hx (C := C) (hh := hh) (bytes := bytes) (maxL := maxL) (ret := ret) ho hl hin hse hcode hy hK (by rw [hT]; exact hcB) hoB hclB hg (hsize.trans hml.symm) (argsL := As) (rest := rest) (fun sig h => hn.trans (hlen sig h)) hstack hW (by rw [hb]; exact hdg)
    (fun vm₁ hW₁ => ⟨hf.1, hf.2, hPc (T.setVm vm₁) hT hW₁⟩)
  dsimp only [Pt.U, Pt.locs, Pt.cells, Pt.slots] at X' e1 e2 h1 h2 h3 st
  subst h1; subst h2; subst h3
  exact ⟨v, (T.setVm vm₁).calling g' mk (Value.ref b :: As).toArray, t, U', L, hT, X', hL, e1, e2, hq, st⟩
section
variable {y : MethodName} {bytes cc : ByteArray} {maxL nL mc ms n index : Nat} {ret : Option FieldType} {ws : List Cond} {rm : Room} {Pc : Array Value → State → Prop} {Qc : Array Value → State → Outcome → State → Prop} {XC : String → State → State → Prop} {free : Addr → Prop} {Ts : List Cond} {own C : String} {b : Addr} {As rest : List Value} {g : JFrame}
theorem vx_runVX {hh : List (Nat × Nat × Nat × Nat)} (S : CallFix p m c cc nL s args Ts own) (hM : vx_Met l y ws rm Pc Qc XC mc ms free) (cw : vx_CVW R s args own C index y bytes maxL ret hh ws rm mc ms n) (hp : PreV s H C b Pc As)
    (hg : g.method = m) (hn : As.length = n) (hsize : g.locals.size = nL) (hstack : g.stack = As.reverse ++ .ref b :: rest) (hW : 2 * g.monitorRoom + (rest.map fun v => v.category).sum ≤ 8) (hdg : decode cc g.pc = .ok (.invokevirtual index, 3)) (hf : cells + mc ≤ R.cells ∧ slots + ms ≤ R.slots) :
    vx_Run p l e R s m args below meth c H locs cells slots mc ms g rest (Qc (Value.ref b :: As).toArray) XC free := by
  obtain ⟨⟨hrc, hrs, hfr, hlo, hws, hcw⟩, hcode, hini, hy, hlen, hl, hin, hse⟩ := cw
  have hK : vx_Back l R p e below s args y 3 8 (PreOf R mc ms Pc) (PostOf Qc mc ms free) (vx_Post XC mc ms free) := vx_backW (hh := hh) (bytes := bytes) (maxL := maxL) (ret := ret) hM hp.1 hrc hrs hfr hlo hws hcw (fun a' U hW => word_at hW (Or.inl (by first | rfl | simp [Cond.onTables, Cond.keeps, Cond.steady])) hini)
  obtain ⟨hx, hb, hml, ho, -⟩ := S
  obtain ⟨-, ⟨cellB, hcB, hoB, hclB⟩, hPc⟩ := hp
  intro T hT X
  rcases vx_callVX X hx (C := C) (hh := hh) (bytes := bytes) (maxL := maxL) (ret := ret) ho hl hin hse hcode hy hK (by rw [hT]; exact hcB) hoB hclB hg (hsize.trans hml.symm) (argsL := As) (rest := rest) (fun sig h => hn.trans (hlen sig h)) hstack hW (by rw [hb]; exact hdg)
    (fun vm₁ hW₁ => ⟨hf.1, hf.2, hPc (T.setVm vm₁) hT hW₁⟩) with ⟨v, vm₁, ⟨U', l2, c2, s2⟩, hW₁, X', ⟨g', mk, t, L, e1, e2, hq, h1, hL, h2, h3⟩, st⟩ | ⟨q, vm₁, ⟨U', l2, c2, s2⟩, hW₁, X', ⟨g', mk, t, L, E, ce, e1, e2, hq, hce, hcv, hcl, h1, hL, h2, h3⟩, st⟩
  · dsimp only [Pt.U, Pt.locs, Pt.cells, Pt.slots] at X' e1 e2 h1 h2 h3 st
    subst h1; subst h2; subst h3
    exact Or.inl ⟨v, (T.setVm vm₁).calling g' mk (Value.ref b :: As).toArray, t, U', L, hT, X', hL, e1, e2, hq, st⟩
  · dsimp only [Pt.U, Pt.locs, Pt.cells, Pt.slots] at X' e1 e2 h1 h2 h3 st hcl
    subst h1; subst h2; subst h3
    exact Or.inr ⟨q, (T.setVm vm₁).calling g' mk (Value.ref b :: As).toArray, t, U', L, E, ce, hT, X', hL, e1, e2, hq, hce, hcv, vx_cls hW₁ hcl, st⟩
theorem vx_runSX {hh : List (Nat × Nat × Nat × Nat)} (S : CallFix p m c cc nL s args Ts own) (hM : vx_Met l y ws rm Pc Qc XC mc ms free) (cw : vx_CSW R s args own index y bytes maxL ret hh ws rm mc ms n) (hp : PreS s H Pc As)
    (hg : g.method = m) (hn : As.length = n) (hsize : g.locals.size = nL) (hstack : g.stack = As.reverse ++ rest) (hW : 2 * g.monitorRoom + (rest.map fun v => v.category).sum ≤ 8) (hdg : decode cc g.pc = .ok (.invokestatic index, 3)) (hf : cells + mc ≤ R.cells ∧ slots + ms ≤ R.slots) :
    vx_Run p l e R s m args below meth c H locs cells slots mc ms g rest (Qc As.toArray) XC free := by
  obtain ⟨⟨hrc, hrs, hfr, hlo, hws, hcw⟩, hcode, hini, hy, hlen, hl, hstt⟩ := cw
  have hK : vx_Back l R p e below s args y 3 8 (PreOf R mc ms Pc) (PostOf Qc mc ms free) (vx_Post XC mc ms free) := vx_backW (hh := hh) (bytes := bytes) (maxL := maxL) (ret := ret) hM hp.1 hrc hrs hfr hlo hws hcw (fun a' U hW => word_at hW (Or.inl (by first | rfl | simp [Cond.onTables, Cond.keeps, Cond.steady])) hini)
  obtain ⟨hx, hb, hml, ho, -⟩ := S
  intro T hT X
  rcases vx_callSX X hx (hh := hh) (bytes := bytes) (maxL := maxL) (ret := ret) ho hl hstt hini hcode hy hK hg (hsize.trans hml.symm) (argsL := As) (rest := rest) (fun sig h => hn.trans (hlen sig h)) hstack hW (by rw [hb]; exact hdg)
    (fun vm₁ hW₁ => ⟨hf.1, hf.2, hp.2 (T.setVm vm₁) hT hW₁⟩) with ⟨v, vm₁, ⟨U', l2, c2, s2⟩, hW₁, X', ⟨g', mk, t, L, e1, e2, hq, h1, hL, h2, h3⟩, st⟩ | ⟨q, vm₁, ⟨U', l2, c2, s2⟩, hW₁, X', ⟨g', mk, t, L, E, ce, e1, e2, hq, hce, hcv, hcl, h1, hL, h2, h3⟩, st⟩
  · dsimp only [Pt.U, Pt.locs, Pt.cells, Pt.slots] at X' e1 e2 h1 h2 h3 st
    subst h1; subst h2; subst h3
    exact Or.inl ⟨v, (T.setVm vm₁).calling g' mk As.toArray, t, U', L, hT, X', hL, e1, e2, hq, st⟩
  · dsimp only [Pt.U, Pt.locs, Pt.cells, Pt.slots] at X' e1 e2 h1 h2 h3 st hcl
    subst h1; subst h2; subst h3
    exact Or.inr ⟨q, (T.setVm vm₁).calling g' mk As.toArray, t, U', L, E, ce, hT, X', hL, e1, e2, hq, hce, hcv, vx_cls hW₁ hcl, st⟩
end
end VXH
theorem vx_ofWH {l : Launch} {y : MethodName} {ws ws' : List Cond} {rm : Room} {Pc : Array Value → State → Prop} {Qc : Array Value → State → Outcome → State → Prop} {XC : String → State → State → Prop} {mc ms : Nat} {free : Addr → Prop} {cc : ByteArray} {maxL : Nat} {ret : Option FieldType} {hh : List (Nat × Nat × Nat × Nat)}
    (hy : plainName y.cls = true) (hw : ws = Cond.codeWith y cc maxL ret hh :: ws')
    (body : ∀ p e s m args below meth c s₁, BodyLoose p l y (headSpec ws rm) cc maxL ret e s m args below meth c s₁ → c.maxLocals = maxL → Pc args s →
      W p l e (headSpec ws rm).room s m args below meth c s.heap [] 0 0 (vx_MQ below Qc XC args s mc ms free) (entryFrame m args maxL)) : vx_Met l y ws rm Pc Qc XC mc ms free := by
  refine MetFree.of_bodyS (code := cc) (maxLocals := maxL) (ret := ret) hy ?_ ?_
  · intro args s m h hn
    obtain ⟨m9, meth, c, hn9, h1, h2, h3, h4, -, h5, h6, -⟩ := Cond.codeWith_spec (atoms_spec (ws := ws) h _ (by rw [hw]; exact List.mem_cons_self))
    cases hn.symm.trans hn9
    exact ⟨meth, c, h1, h2, h3, h4, h5, h6⟩
  · intro p e s m args below meth c s₁ B hml hP _
    have hh0 : s₁.heap = s.heap := by rw [B.state]; rfl
    obtain ⟨t, a1, o, b1, b2, b3⟩ := body p e s m args below meth c s₁ B hml hP s₁ hh0 (Stand.of_body B)
    exact ⟨t, o, a1, b1, b2, b3⟩
/-! ===== END ===== -/
end
section
def RX0 : String := "RodRings$Acts"
def TX0 : u_T := fun k => match k with
  | 0 => ("RodRings$Acts", "before", "[LRodRings$Rod;", true)
  | 1 => ("RodRings$Acts", "next", "I", false)
  | _ => ("RodRings$Acts", "size", "I", false)
def tyX0 : Nat → FieldType := fun k => match k with
  | 0 => .array (.object "RodRings$Rod")
  | 1 => .int
  | _ => .int
abbrev wsX00 : List Cond := u_ws RX0 TX0 3
theorem nmX0 : ∀ a, a < 3 → ∀ b, b < 3 → a ≠ b → (TX0 a).2.1 ≠ (TX0 b).2.1 := by decide +kernel
theorem tyX0_ok : ∀ k, k < 3 → parseFieldDescriptor (TX0 k).2.2.1 = some (tyX0 k) := by decide +kernel
abbrev cX0_init : ByteArray := prog_2_method_1_code
def yX0_init : MethodName := ⟨RX0, "<init>", "()V"⟩
abbrev cX0_remember : ByteArray := prog_2_method_2_code
def yX0_remember : MethodName := ⟨RX0, "remember", "(LRodRings$Rod;)V"⟩
abbrev cX0_takeBack : ByteArray := prog_2_method_3_code
def yX0_takeBack : MethodName := ⟨RX0, "takeBack", "(LRodRings$Rod;)Z"⟩
abbrev cX0_forget : ByteArray := prog_2_method_4_code
def yX0_forget : MethodName := ⟨RX0, "forget", "()V"⟩
def RX1 : String := "RodRings$Clock"
def TX1 : u_T := fun k => match k with
  | 0 => ("RodRings$Clock", "law", "LRodRings$Law;", true)
  | _ => ("RodRings$Clock", "draft", "LRodRings$Rod;", true)
def tyX1 : Nat → FieldType := fun k => match k with
  | 0 => .object "RodRings$Law"
  | _ => .object "RodRings$Rod"
abbrev wsX10 : List Cond := u_ws RX1 TX1 2
theorem nmX1 : ∀ a, a < 2 → ∀ b, b < 2 → a ≠ b → (TX1 a).2.1 ≠ (TX1 b).2.1 := by decide +kernel
theorem tyX1_ok : ∀ k, k < 2 → parseFieldDescriptor (TX1 k).2.2.1 = some (tyX1 k) := by decide +kernel
abbrev cX1_init : ByteArray := prog_3_method_1_code
def yX1_init : MethodName := ⟨RX1, "<init>", "(LRodRings$Law;LRodRings$Rod;)V"⟩
abbrev cX1_run : ByteArray := prog_3_method_2_code
def yX1_run : MethodName := ⟨RX1, "run", "(LRodRings$Rod;I)I"⟩
abbrev cX1_tryHours : ByteArray := prog_3_method_3_code
def yX1_tryHours : MethodName := ⟨RX1, "tryHours", "(LRodRings$Rod;II)V"⟩
abbrev cX1_goAhead : ByteArray := prog_3_method_4_code
def yX1_goAhead : MethodName := ⟨RX1, "goAhead", "(LRodRings$Rod;I)V"⟩
abbrev cX1_firstPale : ByteArray := prog_3_method_5_code
def yX1_firstPale : MethodName := ⟨RX1, "firstPale", "(LRodRings$Rod;)I"⟩
abbrev cX1_oddsToStay : ByteArray := prog_3_method_6_code
def yX1_oddsToStay : MethodName := ⟨RX1, "oddsToStay", "(LRodRings$Rod;II)I"⟩
abbrev cX1_isSomePale : ByteArray := prog_3_method_7_code
def yX1_isSomePale : MethodName := ⟨RX1, "isSomePale", "(LRodRings$Rod;)Z"⟩
abbrev cX1_fadeAll : ByteArray := prog_3_method_8_code
def yX1_fadeAll : MethodName := ⟨RX1, "fadeAll", "(LRodRings$Rod;)V"⟩
abbrev cX1_catchSome : ByteArray := prog_3_method_9_code
def yX1_catchSome : MethodName := ⟨RX1, "catchSome", "(LRodRings$Rod;)I"⟩
abbrev cX1_dropSome : ByteArray := prog_3_method_10_code
def yX1_dropSome : MethodName := ⟨RX1, "dropSome", "(LRodRings$Rod;)I"⟩
abbrev cX1_draw : ByteArray := prog_3_method_11_code
def yX1_draw : MethodName := ⟨RX1, "draw", "(LRodRings$Rod;)I"⟩
abbrev cX1_turn : ByteArray := prog_3_method_12_code
def yX1_turn : MethodName := ⟨RX1, "turn", "(LRodRings$Rod;)V"⟩
def RX2 : String := "RodRings$Law"
def TX2 : u_T := fun k => match k with
  | 0 => ("RodRings$Law", "kinds", "[I", true)
  | 1 => ("RodRings$Law", "amounts", "[I", true)
  | 2 => ("RodRings$Law", "stops", "[I", true)
  | 3 => ("RodRings$Law", "codes", "[I", true)
  | 4 => ("RodRings$Law", "stack", "[I", true)
  | 5 => ("RodRings$Law", "depth", "I", false)
  | 6 => ("RodRings$Law", "size", "I", false)
  | 7 => ("RodRings$Law", "told", "Z", false)
  | _ => ("RodRings$Law", "lines", "I", false)
def tyX2 : Nat → FieldType := fun k => match k with
  | 0 => .array .int
  | 1 => .array .int
  | 2 => .array .int
  | 3 => .array .int
  | 4 => .array .int
  | 5 => .int
  | 6 => .int
  | 7 => .boolean
  | _ => .int
abbrev wsX20 : List Cond := u_ws RX2 TX2 9
theorem nmX2 : ∀ a, a < 9 → ∀ b, b < 9 → a ≠ b → (TX2 a).2.1 ≠ (TX2 b).2.1 := by decide +kernel
theorem tyX2_ok : ∀ k, k < 9 → parseFieldDescriptor (TX2 k).2.2.1 = some (tyX2 k) := by decide +kernel
abbrev cX2_init : ByteArray := prog_4_method_1_code
def yX2_init : MethodName := ⟨RX2, "<init>", "()V"⟩
abbrev cX2_begin : ByteArray := prog_4_method_2_code
def yX2_begin : MethodName := ⟨RX2, "begin", "()V"⟩
abbrev cX2_copyFrom : ByteArray := prog_4_method_3_code
def yX2_copyFrom : MethodName := ⟨RX2, "copyFrom", "(LRodRings$Law;)V"⟩
abbrev cX2_addLine : ByteArray := prog_4_method_4_code
def yX2_addLine : MethodName := ⟨RX2, "addLine", "(II)V"⟩
abbrev cX2_addCode : ByteArray := prog_4_method_5_code
def yX2_addCode : MethodName := ⟨RX2, "addCode", "(I)V"⟩
abbrev cX2_amount : ByteArray := prog_4_method_6_code
def yX2_amount : MethodName := ⟨RX2, "amount", "(ILRodRings$Rod;I)I"⟩
abbrev cX2_untoldAmount : ByteArray := prog_4_method_7_code
def yX2_untoldAmount : MethodName := ⟨RX2, "untoldAmount", "(ILRodRings$Rod;I)I"⟩
abbrev cX2_holds : ByteArray := prog_4_method_8_code
def yX2_holds : MethodName := ⟨RX2, "holds", "(ILRodRings$Rod;I)Z"⟩
abbrev cX2_isValue : ByteArray := prog_4_method_9_code
def yX2_isValue : MethodName := ⟨RX2, "isValue", "(I)Z"⟩
abbrev cX2_push : ByteArray := prog_4_method_10_code
def yX2_push : MethodName := ⟨RX2, "push", "(I)V"⟩
abbrev cX2_pop : ByteArray := prog_4_method_11_code
def yX2_pop : MethodName := ⟨RX2, "pop", "()I"⟩
abbrev cX2_value : ByteArray := prog_4_method_12_code
def yX2_value : MethodName := ⟨RX2, "value", "(ILRodRings$Rod;I)I"⟩
abbrev cX2_joined : ByteArray := prog_4_method_13_code
def yX2_joined : MethodName := ⟨RX2, "joined", "(III)I"⟩
def RX3 : String := "RodRings$LawReader"
def TX3 : u_T := fun k => match k with
  | 0 => ("RodRings$LineReader", "tape", "LRodRings$Tape;", true)
  | 1 => ("RodRings$LineReader", "mostLines", "I", true)
  | _ => ("RodRings$LawReader", "draft", "LRodRings$Law;", true)
def tyX3 : Nat → FieldType := fun k => match k with
  | 0 => .object "RodRings$Tape"
  | 1 => .int
  | _ => .object "RodRings$Law"
abbrev wsX30 : List Cond := u_ws RX3 TX3 3
theorem nmX3 : ∀ a, a < 3 → ∀ b, b < 3 → a ≠ b → (TX3 a).2.1 ≠ (TX3 b).2.1 := by decide +kernel
theorem tyX3_ok : ∀ k, k < 3 → parseFieldDescriptor (TX3 k).2.2.1 = some (tyX3 k) := by decide +kernel
abbrev cX3_init : ByteArray := prog_5_method_1_code
def yX3_init : MethodName := ⟨RX3, "<init>", "(LRodRings$Tape;LRodRings$Law;)V"⟩
abbrev cX3_readLine : ByteArray := prog_5_method_2_code
def yX3_readLine : MethodName := ⟨RX3, "readLine", "()Z"⟩
abbrev cX3_readCondition : ByteArray := prog_5_method_3_code
def yX3_readCondition : MethodName := ⟨RX3, "readCondition", "(I)Z"⟩
abbrev cX3_readAtom : ByteArray := prog_5_method_4_code
def yX3_readAtom : MethodName := ⟨RX3, "readAtom", "(I)Z"⟩
abbrev cX3_readComparison : ByteArray := prog_5_method_5_code
def yX3_readComparison : MethodName := ⟨RX3, "readComparison", "()Z"⟩
abbrev cX3_readSum : ByteArray := prog_5_method_6_code
def yX3_readSum : MethodName := ⟨RX3, "readSum", "()Z"⟩
def RX4 : String := "RodRings$LineReader"
def TX4 : u_T := fun k => match k with
  | _ => ("", "", "", false)
def tyX4 : Nat → FieldType := fun k => match k with
  | _ => .int
abbrev wsX40 : List Cond := u_ws RX4 TX4 0
theorem nmX4 : ∀ a, a < 0 → ∀ b, b < 0 → a ≠ b → (TX4 a).2.1 ≠ (TX4 b).2.1 := by decide +kernel
theorem tyX4_ok : ∀ k, k < 0 → parseFieldDescriptor (TX4 k).2.2.1 = some (tyX4 k) := by decide +kernel
abbrev cX4_init : ByteArray := prog_6_method_1_code
def yX4_init : MethodName := ⟨RX4, "<init>", "(LRodRings$Tape;I)V"⟩
abbrev cX4_read : ByteArray := prog_6_method_3_code
def yX4_read : MethodName := ⟨RX4, "read", "()I"⟩
def RX5 : String := "RodRings$Log"
def TX5 : u_T := fun k => match k with
  | 0 => ("RodRings$Log", "rows", "[I", true)
  | 1 => ("RodRings$Log", "size", "I", false)
  | _ => ("RodRings$Log", "next", "I", false)
def tyX5 : Nat → FieldType := fun k => match k with
  | 0 => .array .int
  | 1 => .int
  | _ => .int
abbrev wsX50 : List Cond := u_ws RX5 TX5 3
theorem nmX5 : ∀ a, a < 3 → ∀ b, b < 3 → a ≠ b → (TX5 a).2.1 ≠ (TX5 b).2.1 := by decide +kernel
theorem tyX5_ok : ∀ k, k < 3 → parseFieldDescriptor (TX5 k).2.2.1 = some (tyX5 k) := by decide +kernel
abbrev cX5_init : ByteArray := prog_7_method_1_code
def yX5_init : MethodName := ⟨RX5, "<init>", "()V"⟩
abbrev cX5_copyFrom : ByteArray := prog_7_method_2_code
def yX5_copyFrom : MethodName := ⟨RX5, "copyFrom", "(LRodRings$Log;)V"⟩
abbrev cX5_add : ByteArray := prog_7_method_3_code
def yX5_add : MethodName := ⟨RX5, "add", "(LRodRings$Rod;III)V"⟩
abbrev cX5_read : ByteArray := prog_7_method_4_code
def yX5_read : MethodName := ⟨RX5, "read", "(II)I"⟩
abbrev cX5_rowsOf : ByteArray := prog_7_method_5_code
def yX5_rowsOf : MethodName := ⟨RX5, "rowsOf", "(I)I"⟩
abbrev cX5_latestPlace : ByteArray := prog_7_method_6_code
def yX5_latestPlace : MethodName := ⟨RX5, "latestPlace", "(I)I"⟩
def RX6 : String := "RodRings$Looks"
def TX6 : u_T := fun k => match k with
  | _ => ("", "", "", false)
def tyX6 : Nat → FieldType := fun k => match k with
  | _ => .int
abbrev wsX60 : List Cond := u_ws RX6 TX6 0
theorem nmX6 : ∀ a, a < 0 → ∀ b, b < 0 → a ≠ b → (TX6 a).2.1 ≠ (TX6 b).2.1 := by decide +kernel
theorem tyX6_ok : ∀ k, k < 0 → parseFieldDescriptor (TX6 k).2.2.1 = some (tyX6 k) := by decide +kernel
abbrev cX6_hangsBy : ByteArray := prog_8_method_2_code
def yX6_hangsBy : MethodName := ⟨RX6, "hangsBy", "(LRodRings$Rod;I)I"⟩
abbrev cX6_share : ByteArray := prog_8_method_3_code
def yX6_share : MethodName := ⟨RX6, "share", "(LRodRings$Rod;I)I"⟩
abbrev cX6_outOfOrder : ByteArray := prog_8_method_4_code
def yX6_outOfOrder : MethodName := ⟨RX6, "outOfOrder", "(LRodRings$Rod;)I"⟩
abbrev cX6_isInOrder : ByteArray := prog_8_method_5_code
def yX6_isInOrder : MethodName := ⟨RX6, "isInOrder", "(LRodRings$Rod;I)Z"⟩
abbrev cX6_tightest : ByteArray := prog_8_method_6_code
def yX6_tightest : MethodName := ⟨RX6, "tightest", "(LRodRings$Rod;I)I"⟩
abbrev cX6_spareCloth : ByteArray := prog_8_method_7_code
def yX6_spareCloth : MethodName := ⟨RX6, "spareCloth", "(LRodRings$Rod;)I"⟩
abbrev cX6_tautRings : ByteArray := prog_8_method_8_code
def yX6_tautRings : MethodName := ⟨RX6, "tautRings", "(LRodRings$Rod;)I"⟩
abbrev cX6_litRings : ByteArray := prog_8_method_9_code
def yX6_litRings : MethodName := ⟨RX6, "litRings", "(LRodRings$Rod;I)I"⟩
abbrev cX6_sunniest : ByteArray := prog_8_method_10_code
def yX6_sunniest : MethodName := ⟨RX6, "sunniest", "(LRodRings$Rod;)I"⟩
abbrev cX6_litHours : ByteArray := prog_8_method_11_code
def yX6_litHours : MethodName := ⟨RX6, "litHours", "(LRodRings$Rod;I)I"⟩
abbrev cX6_evenLength : ByteArray := prog_8_method_12_code
def yX6_evenLength : MethodName := ⟨RX6, "evenLength", "(LRodRings$Rod;II)I"⟩
abbrev cX6_enviousPairs : ByteArray := prog_8_method_13_code
def yX6_enviousPairs : MethodName := ⟨RX6, "enviousPairs", "(LRodRings$Rod;)I"⟩
abbrev cX6_restingChoices : ByteArray := prog_8_method_14_code
def yX6_restingChoices : MethodName := ⟨RX6, "restingChoices", "(LRodRings$Rod;I)I"⟩
abbrev cX6_gain : ByteArray := prog_8_method_15_code
def yX6_gain : MethodName := ⟨RX6, "gain", "(LRodRings$Rod;II)I"⟩
abbrev cX6_largestBunch : ByteArray := prog_8_method_16_code
def yX6_largestBunch : MethodName := ⟨RX6, "largestBunch", "(LRodRings$Rod;)I"⟩
abbrev cX6_thickBeyondJoin : ByteArray := prog_8_method_17_code
def yX6_thickBeyondJoin : MethodName := ⟨RX6, "thickBeyondJoin", "(LRodRings$Rod;)I"⟩
abbrev cX6_likePairs : ByteArray := prog_8_method_18_code
def yX6_likePairs : MethodName := ⟨RX6, "likePairs", "(LRodRings$Rod;)I"⟩
def RX7 : String := "RodRings$Pulls"
def TX7 : u_T := fun k => match k with
  | 0 => ("RodRings$Pulls", "tape", "LRodRings$Tape;", true)
  | 1 => ("RodRings$Pulls", "draft", "LRodRings$Rod;", true)
  | 2 => ("RodRings$Pulls", "fitting", "[I", true)
  | 3 => ("RodRings$Pulls", "parts", "[I", true)
  | 4 => ("RodRings$Pulls", "fits", "I", false)
  | 5 => ("RodRings$Pulls", "steps", "I", false)
  | _ => ("RodRings$Pulls", "mover", "I", false)
def tyX7 : Nat → FieldType := fun k => match k with
  | 0 => .object "RodRings$Tape"
  | 1 => .object "RodRings$Rod"
  | 2 => .array .int
  | 3 => .array .int
  | 4 => .int
  | 5 => .int
  | _ => .int
abbrev wsX70 : List Cond := u_ws RX7 TX7 7
theorem nmX7 : ∀ a, a < 7 → ∀ b, b < 7 → a ≠ b → (TX7 a).2.1 ≠ (TX7 b).2.1 := by decide +kernel
theorem tyX7_ok : ∀ k, k < 7 → parseFieldDescriptor (TX7 k).2.2.1 = some (tyX7 k) := by decide +kernel
abbrev cX7_init : ByteArray := prog_9_method_1_code
def yX7_init : MethodName := ⟨RX7, "<init>", "(LRodRings$Tape;LRodRings$Rod;)V"⟩
abbrev cX7_shadiest : ByteArray := prog_9_method_2_code
def yX7_shadiest : MethodName := ⟨RX7, "shadiest", "(LRodRings$Rod;)I"⟩
abbrev cX7_seekShade : ByteArray := prog_9_method_3_code
def yX7_seekShade : MethodName := ⟨RX7, "seekShade", "(LRodRings$Rod;I)V"⟩
abbrev cX7_stepsToShade : ByteArray := prog_9_method_4_code
def yX7_stepsToShade : MethodName := ⟨RX7, "stepsToShade", "(LRodRings$Rod;II)I"⟩
abbrev cX7_fewestFreed : ByteArray := prog_9_method_5_code
def yX7_fewestFreed : MethodName := ⟨RX7, "fewestFreed", "(LRodRings$Rod;IZI)I"⟩
abbrev cX7_farWith : ByteArray := prog_9_method_6_code
def yX7_farWith : MethodName := ⟨RX7, "farWith", "(LRodRings$Rod;IIZI)I"⟩
abbrev cX7_areRows : ByteArray := prog_9_method_7_code
def yX7_areRows : MethodName := ⟨RX7, "areRows", "(I)Z"⟩
abbrev cX7_seekSnags : ByteArray := prog_9_method_8_code
def yX7_seekSnags : MethodName := ⟨RX7, "seekSnags", "(LRodRings$Rod;)V"⟩
abbrev cX7_isFitting : ByteArray := prog_9_method_9_code
def yX7_isFitting : MethodName := ⟨RX7, "isFitting", "(LRodRings$Rod;I)Z"⟩
abbrev cX7_inAllFitting : ByteArray := prog_9_method_10_code
def yX7_inAllFitting : MethodName := ⟨RX7, "inAllFitting", "()I"⟩
abbrev cX7_partingPull : ByteArray := prog_9_method_11_code
def yX7_partingPull : MethodName := ⟨RX7, "partingPull", "(LRodRings$Rod;)I"⟩
abbrev cX7_greatestPart : ByteArray := prog_9_method_12_code
def yX7_greatestPart : MethodName := ⟨RX7, "greatestPart", "(LRodRings$Rod;I)I"⟩
def RX8 : String := "RodRings$Rod"
def TX8 : u_T := fun k => match k with
  | 0 => ("RodRings$Rod", "place", "[I", true)
  | 1 => ("RodRings$Rod", "cloth", "[I", true)
  | 2 => ("RodRings$Rod", "fade", "[I", true)
  | 3 => ("RodRings$Rod", "length", "[I", true)
  | 4 => ("RodRings$Rod", "log", "LRodRings$Log;", true)
  | 5 => ("RodRings$Rod", "count", "I", false)
  | 6 => ("RodRings$Rod", "thick", "I", false)
  | 7 => ("RodRings$Rod", "wood", "I", false)
  | 8 => ("RodRings$Rod", "hooked", "I", false)
  | 9 => ("RodRings$Rod", "snagged", "I", false)
  | 10 => ("RodRings$Rod", "chairs", "I", false)
  | 11 => ("RodRings$Rod", "join", "I", false)
  | 12 => ("RodRings$Rod", "wide", "I", false)
  | 13 => ("RodRings$Rod", "hour", "I", false)
  | 14 => ("RodRings$Rod", "day", "I", false)
  | 15 => ("RodRings$Rod", "noise", "I", false)
  | 16 => ("RodRings$Rod", "seed", "I", false)
  | _ => ("RodRings$Rod", "texts", "I", false)
def tyX8 : Nat → FieldType := fun k => match k with
  | 0 => .array .int
  | 1 => .array .int
  | 2 => .array .int
  | 3 => .array .int
  | 4 => .object "RodRings$Log"
  | 5 => .int
  | 6 => .int
  | 7 => .int
  | 8 => .int
  | 9 => .int
  | 10 => .int
  | 11 => .int
  | 12 => .int
  | 13 => .int
  | 14 => .int
  | 15 => .int
  | 16 => .int
  | _ => .int
abbrev wsX80 : List Cond := u_ws RX8 TX8 18
theorem nmX8 : ∀ a, a < 18 → ∀ b, b < 18 → a ≠ b → (TX8 a).2.1 ≠ (TX8 b).2.1 := by decide +kernel
theorem tyX8_ok : ∀ k, k < 18 → parseFieldDescriptor (TX8 k).2.2.1 = some (tyX8 k) := by decide +kernel
abbrev cX8_init : ByteArray := prog_10_method_1_code
def yX8_init : MethodName := ⟨RX8, "<init>", "()V"⟩
abbrev cX8_copyFrom : ByteArray := prog_10_method_2_code
def yX8_copyFrom : MethodName := ⟨RX8, "copyFrom", "(LRodRings$Rod;)V"⟩
abbrev cX8_hangAs : ByteArray := prog_10_method_3_code
def yX8_hangAs : MethodName := ⟨RX8, "hangAs", "(LRodRings$Rod;)V"⟩
abbrev cX8_nearestNew : ByteArray := prog_10_method_4_code
def yX8_nearestNew : MethodName := ⟨RX8, "nearestNew", "()I"⟩
abbrev cX8_farthestNew : ByteArray := prog_10_method_5_code
def yX8_farthestNew : MethodName := ⟨RX8, "farthestNew", "()I"⟩
abbrev cX8_add : ByteArray := prog_10_method_6_code
def yX8_add : MethodName := ⟨RX8, "add", "(II)V"⟩
abbrev cX8_gap : ByteArray := prog_10_method_7_code
def yX8_gap : MethodName := ⟨RX8, "gap", "(II)I"⟩
abbrev cX8_isLit : ByteArray := prog_10_method_8_code
def yX8_isLit : MethodName := ⟨RX8, "isLit", "(II)Z"⟩
abbrev cX8_unhooked : ByteArray := prog_10_method_9_code
def yX8_unhooked : MethodName := ⟨RX8, "unhooked", "()I"⟩
abbrev cX8_allFades : ByteArray := prog_10_method_10_code
def yX8_allFades : MethodName := ⟨RX8, "allFades", "()I"⟩
abbrev cX8_shadow : ByteArray := prog_10_method_11_code
def yX8_shadow : MethodName := ⟨RX8, "shadow", "()I"⟩
abbrev cX8_shadedChairs : ByteArray := prog_10_method_12_code
def yX8_shadedChairs : MethodName := ⟨RX8, "shadedChairs", "()I"⟩
abbrev cX8_goers : ByteArray := prog_10_method_13_code
def yX8_goers : MethodName := ⟨RX8, "goers", "(IZ)I"⟩
abbrev cX8_goTogether : ByteArray := prog_10_method_14_code
def yX8_goTogether : MethodName := ⟨RX8, "goTogether", "(IZ)Z"⟩
abbrev cX8_isStopped : ByteArray := prog_10_method_15_code
def yX8_isStopped : MethodName := ⟨RX8, "isStopped", "(IZ)Z"⟩
abbrev cX8_move : ByteArray := prog_10_method_16_code
def yX8_move : MethodName := ⟨RX8, "move", "(IZI)I"⟩
def RX9 : String := "RodRings$RodReader"
def TX9 : u_T := fun k => match k with
  | 0 => ("RodRings$LineReader", "tape", "LRodRings$Tape;", true)
  | 1 => ("RodRings$LineReader", "mostLines", "I", true)
  | _ => ("RodRings$RodReader", "draft", "LRodRings$Rod;", true)
def tyX9 : Nat → FieldType := fun k => match k with
  | 0 => .object "RodRings$Tape"
  | 1 => .int
  | _ => .object "RodRings$Rod"
abbrev wsX90 : List Cond := u_ws RX9 TX9 3
theorem nmX9 : ∀ a, a < 3 → ∀ b, b < 3 → a ≠ b → (TX9 a).2.1 ≠ (TX9 b).2.1 := by decide +kernel
theorem tyX9_ok : ∀ k, k < 3 → parseFieldDescriptor (TX9 k).2.2.1 = some (tyX9 k) := by decide +kernel
abbrev cX9_init : ByteArray := prog_11_method_1_code
def yX9_init : MethodName := ⟨RX9, "<init>", "(LRodRings$Tape;LRodRings$Rod;)V"⟩
abbrev cX9_readLine : ByteArray := prog_11_method_2_code
def yX9_readLine : MethodName := ⟨RX9, "readLine", "()Z"⟩
abbrev cX9_beginsLine : ByteArray := prog_11_method_3_code
def yX9_beginsLine : MethodName := ⟨RX9, "beginsLine", "(I)Z"⟩
abbrev cX9_readNumber : ByteArray := prog_11_method_4_code
def yX9_readNumber : MethodName := ⟨RX9, "readNumber", "(I)I"⟩
abbrev cX9_keepNumber : ByteArray := prog_11_method_5_code
def yX9_keepNumber : MethodName := ⟨RX9, "keepNumber", "(II)V"⟩
abbrev cX9_readRing : ByteArray := prog_11_method_6_code
def yX9_readRing : MethodName := ⟨RX9, "readRing", "()Z"⟩
abbrev cX9_readMore : ByteArray := prog_11_method_7_code
def yX9_readMore : MethodName := ⟨RX9, "readMore", "(I[III)Z"⟩
def RX10 : String := "RodRings$Tape"
def TX10 : u_T := fun k => match k with
  | 0 => ("RodRings$Tape", "bytes", "[B", true)
  | 1 => ("RodRings$Tape", "kinds", "[I", true)
  | 2 => ("RodRings$Tape", "starts", "[I", true)
  | 3 => ("RodRings$Tape", "numbers", "[I", true)
  | 4 => ("RodRings$Tape", "things", "I", false)
  | 5 => ("RodRings$Tape", "next", "I", false)
  | _ => ("RodRings$Tape", "length", "I", false)
def tyX10 : Nat → FieldType := fun k => match k with
  | 0 => .array .byte
  | 1 => .array .int
  | 2 => .array .int
  | 3 => .array .int
  | 4 => .int
  | 5 => .int
  | _ => .int
abbrev wsX100 : List Cond := u_ws RX10 TX10 7
theorem nmX10 : ∀ a, a < 7 → ∀ b, b < 7 → a ≠ b → (TX10 a).2.1 ≠ (TX10 b).2.1 := by decide +kernel
theorem tyX10_ok : ∀ k, k < 7 → parseFieldDescriptor (TX10 k).2.2.1 = some (tyX10 k) := by decide +kernel
abbrev cX10_init : ByteArray := prog_12_method_1_code
def yX10_init : MethodName := ⟨RX10, "<init>", "()V"⟩
abbrev cX10_hasRoom : ByteArray := prog_12_method_2_code
def yX10_hasRoom : MethodName := ⟨RX10, "hasRoom", "()Z"⟩
abbrev cX10_put : ByteArray := prog_12_method_3_code
def yX10_put : MethodName := ⟨RX10, "put", "(I)V"⟩
abbrev cX10_at : ByteArray := prog_12_method_4_code
def yX10_at : MethodName := ⟨RX10, "at", "(I)I"⟩
abbrev cX10_scan : ByteArray := prog_12_method_5_code
def yX10_scan : MethodName := ⟨RX10, "scan", "()V"⟩
abbrev cX10_scanThing : ByteArray := prog_12_method_6_code
def yX10_scanThing : MethodName := ⟨RX10, "scanThing", "(I)I"⟩
abbrev cX10_endOfRow : ByteArray := prog_12_method_7_code
def yX10_endOfRow : MethodName := ⟨RX10, "endOfRow", "(III)I"⟩
abbrev cX10_numberBetween : ByteArray := prog_12_method_8_code
def yX10_numberBetween : MethodName := ⟨RX10, "numberBetween", "(II)I"⟩
abbrev cX10_wordBetween : ByteArray := prog_12_method_9_code
def yX10_wordBetween : MethodName := ⟨RX10, "wordBetween", "(II)I"⟩
abbrev cX10_standsAt : ByteArray := prog_12_method_10_code
def yX10_standsAt : MethodName := ⟨RX10, "standsAt", "(III)Z"⟩
abbrev cX10_kind : ByteArray := prog_12_method_11_code
def yX10_kind : MethodName := ⟨RX10, "kind", "()I"⟩
abbrev cX10_start : ByteArray := prog_12_method_12_code
def yX10_start : MethodName := ⟨RX10, "start", "()I"⟩
abbrev cX10_skip : ByteArray := prog_12_method_13_code
def yX10_skip : MethodName := ⟨RX10, "skip", "()V"⟩
abbrev cX10_take : ByteArray := prog_12_method_14_code
def yX10_take : MethodName := ⟨RX10, "take", "(I)Z"⟩
abbrev cX10_takeNumber : ByteArray := prog_12_method_15_code
def yX10_takeNumber : MethodName := ⟨RX10, "takeNumber", "(II)I"⟩
def RX11 : String := "RodRings"
def TX11 : u_T := fun k => match k with
  | 0 => ("RodRings", "tape", "LRodRings$Tape;", true)
  | 1 => ("RodRings", "rod", "LRodRings$Rod;", true)
  | 2 => ("RodRings", "law", "LRodRings$Law;", true)
  | 3 => ("RodRings", "acts", "LRodRings$Acts;", true)
  | 4 => ("RodRings", "draft", "LRodRings$Rod;", true)
  | 5 => ("RodRings", "draftLaw", "LRodRings$Law;", true)
  | 6 => ("RodRings", "rodReader", "LRodRings$RodReader;", true)
  | 7 => ("RodRings", "lawReader", "LRodRings$LawReader;", true)
  | 8 => ("RodRings", "clock", "LRodRings$Clock;", true)
  | 9 => ("RodRings", "pulls", "LRodRings$Pulls;", true)
  | 10 => ("RodRings", "keptRod", "LRodRings$Rod;", false)
  | 11 => ("RodRings", "keptLaw", "LRodRings$Law;", false)
  | _ => ("RodRings", "wrongByte", "I", false)
def tyX11 : Nat → FieldType := fun k => match k with
  | 0 => .object "RodRings$Tape"
  | 1 => .object "RodRings$Rod"
  | 2 => .object "RodRings$Law"
  | 3 => .object "RodRings$Acts"
  | 4 => .object "RodRings$Rod"
  | 5 => .object "RodRings$Law"
  | 6 => .object "RodRings$RodReader"
  | 7 => .object "RodRings$LawReader"
  | 8 => .object "RodRings$Clock"
  | 9 => .object "RodRings$Pulls"
  | 10 => .object "RodRings$Rod"
  | 11 => .object "RodRings$Law"
  | _ => .int
abbrev wsX110 : List Cond := u_ws RX11 TX11 13
theorem nmX11 : ∀ a, a < 13 → ∀ b, b < 13 → a ≠ b → (TX11 a).2.1 ≠ (TX11 b).2.1 := by decide +kernel
theorem tyX11_ok : ∀ k, k < 13 → parseFieldDescriptor (TX11 k).2.2.1 = some (tyX11 k) := by decide +kernel
abbrev cX11_init : ByteArray := prog_1_method_1_code
def yX11_init : MethodName := ⟨RX11, "<init>", "()V"⟩
abbrev cX11_feed : ByteArray := prog_1_method_2_code
def yX11_feed : MethodName := ⟨RX11, "feed", "(IIIII)I"⟩
abbrev cX11_end : ByteArray := prog_1_method_3_code
def yX11_end : MethodName := ⟨RX11, "end", "(I)Z"⟩
abbrev cX11_pole : ByteArray := prog_1_method_4_code
def yX11_pole : MethodName := ⟨RX11, "pole", "()I"⟩
abbrev cX11_law : ByteArray := prog_1_method_5_code
def yX11_law : MethodName := ⟨RX11, "law", "()I"⟩
abbrev cX11_fault : ByteArray := prog_1_method_6_code
def yX11_fault : MethodName := ⟨RX11, "fault", "()I"⟩
abbrev cX11_ring : ByteArray := prog_1_method_7_code
def yX11_ring : MethodName := ⟨RX11, "ring", "(II)I"⟩
abbrev cX11_pull : ByteArray := prog_1_method_8_code
def yX11_pull : MethodName := ⟨RX11, "pull", "(IZI)I"⟩
abbrev cX11_free : ByteArray := prog_1_method_9_code
def yX11_free : MethodName := ⟨RX11, "free", "(I)I"⟩
abbrev cX11_snag : ByteArray := prog_1_method_10_code
def yX11_snag : MethodName := ⟨RX11, "snag", "(I)I"⟩
abbrev cX11_hook : ByteArray := prog_1_method_11_code
def yX11_hook : MethodName := ⟨RX11, "hook", "(IZ)Z"⟩
abbrev cX11_sew : ByteArray := prog_1_method_12_code
def yX11_sew : MethodName := ⟨RX11, "sew", "(II)I"⟩
abbrev cX11_let : ByteArray := prog_1_method_13_code
def yX11_let : MethodName := ⟨RX11, "let", "(II)I"⟩
abbrev cX11_chair : ByteArray := prog_1_method_14_code
def yX11_chair : MethodName := ⟨RX11, "chair", "(IZ)Z"⟩
abbrev cX11_hours : ByteArray := prog_1_method_15_code
def yX11_hours : MethodName := ⟨RX11, "hours", "(I)I"⟩
abbrev cX11_shade : ByteArray := prog_1_method_16_code
def yX11_shade : MethodName := ⟨RX11, "shade", "()I"⟩
abbrev cX11_dark : ByteArray := prog_1_method_17_code
def yX11_dark : MethodName := ⟨RX11, "dark", "()I"⟩
abbrev cX11_bare : ByteArray := prog_1_method_18_code
def yX11_bare : MethodName := ⟨RX11, "bare", "()I"⟩
abbrev cX11_goes : ByteArray := prog_1_method_19_code
def yX11_goes : MethodName := ⟨RX11, "goes", "(IZ)I"⟩
abbrev cX11_with : ByteArray := prog_1_method_20_code
def yX11_with : MethodName := ⟨RX11, "with", "(IZ)I"⟩
abbrev cX11_would : ByteArray := prog_1_method_21_code
def yX11_would : MethodName := ⟨RX11, "would", "(IZIZ)I"⟩
abbrev cX11_best : ByteArray := prog_1_method_22_code
def yX11_best : MethodName := ⟨RX11, "best", "()I"⟩
abbrev cX11_fewest : ByteArray := prog_1_method_23_code
def yX11_fewest : MethodName := ⟨RX11, "fewest", "(I)I"⟩
abbrev cX11_first : ByteArray := prog_1_method_24_code
def yX11_first : MethodName := ⟨RX11, "first", "(I)I"⟩
abbrev cX11_snags : ByteArray := prog_1_method_25_code
def yX11_snags : MethodName := ⟨RX11, "snags", "(Z)I"⟩
abbrev cX11_tries : ByteArray := prog_1_method_26_code
def yX11_tries : MethodName := ⟨RX11, "tries", "()I"⟩
abbrev cX11_loosen : ByteArray := prog_1_method_27_code
def yX11_loosen : MethodName := ⟨RX11, "loosen", "(IZI)I"⟩
abbrev cX11_order : ByteArray := prog_1_method_28_code
def yX11_order : MethodName := ⟨RX11, "order", "()I"⟩
abbrev cX11_tight : ByteArray := prog_1_method_29_code
def yX11_tight : MethodName := ⟨RX11, "tight", "(I)I"⟩
abbrev cX11_slack : ByteArray := prog_1_method_30_code
def yX11_slack : MethodName := ⟨RX11, "slack", "()I"⟩
abbrev cX11_taut : ByteArray := prog_1_method_31_code
def yX11_taut : MethodName := ⟨RX11, "taut", "()I"⟩
abbrev cX11_lit : ByteArray := prog_1_method_32_code
def yX11_lit : MethodName := ⟨RX11, "lit", "(I)I"⟩
abbrev cX11_sunny : ByteArray := prog_1_method_33_code
def yX11_sunny : MethodName := ⟨RX11, "sunny", "()I"⟩
abbrev cX11_faded : ByteArray := prog_1_method_34_code
def yX11_faded : MethodName := ⟨RX11, "faded", "(I)I"⟩
abbrev cX11_pale : ByteArray := prog_1_method_35_code
def yX11_pale : MethodName := ⟨RX11, "pale", "()I"⟩
abbrev cX11_lets : ByteArray := prog_1_method_36_code
def yX11_lets : MethodName := ⟨RX11, "lets", "(II)I"⟩
abbrev cX11_envy : ByteArray := prog_1_method_37_code
def yX11_envy : MethodName := ⟨RX11, "envy", "()I"⟩
abbrev cX11_rests : ByteArray := prog_1_method_38_code
def yX11_rests : MethodName := ⟨RX11, "rests", "(I)I"⟩
abbrev cX11_bunch : ByteArray := prog_1_method_39_code
def yX11_bunch : MethodName := ⟨RX11, "bunch", "()I"⟩
abbrev cX11_wooden : ByteArray := prog_1_method_40_code
def yX11_wooden : MethodName := ⟨RX11, "wooden", "()I"⟩
abbrev cX11_caught : ByteArray := prog_1_method_41_code
def yX11_caught : MethodName := ⟨RX11, "caught", "()I"⟩
abbrev cX11_loose : ByteArray := prog_1_method_42_code
def yX11_loose : MethodName := ⟨RX11, "loose", "()I"⟩
abbrev cX11_beyond : ByteArray := prog_1_method_43_code
def yX11_beyond : MethodName := ⟨RX11, "beyond", "()I"⟩
abbrev cX11_odds : ByteArray := prog_1_method_44_code
def yX11_odds : MethodName := ⟨RX11, "odds", "(II)I"⟩
abbrev cX11_twins : ByteArray := prog_1_method_45_code
def yX11_twins : MethodName := ⟨RX11, "twins", "()I"⟩
abbrev cX11_ahead : ByteArray := prog_1_method_46_code
def yX11_ahead : MethodName := ⟨RX11, "ahead", "(II)I"⟩
abbrev cX11_trial : ByteArray := prog_1_method_47_code
def yX11_trial : MethodName := ⟨RX11, "trial", "(IZ)I"⟩
abbrev cX11_span : ByteArray := prog_1_method_48_code
def yX11_span : MethodName := ⟨RX11, "span", "(IZ)I"⟩
abbrev cX11_led : ByteArray := prog_1_method_49_code
def yX11_led : MethodName := ⟨RX11, "led", "(IZ)I"⟩
abbrev cX11_log : ByteArray := prog_1_method_50_code
def yX11_log : MethodName := ⟨RX11, "log", "(II)I"⟩
abbrev cX11_seed : ByteArray := prog_1_method_51_code
def yX11_seed : MethodName := ⟨RX11, "seed", "(I)I"⟩
abbrev cX11_undo : ByteArray := prog_1_method_52_code
def yX11_undo : MethodName := ⟨RX11, "undo", "()Z"⟩
abbrev cX11_image : ByteArray := prog_1_method_53_code
def yX11_image : MethodName := ⟨RX11, "image", "()V"⟩
abbrev cX11_back : ByteArray := prog_1_method_54_code
def yX11_back : MethodName := ⟨RX11, "back", "()Z"⟩
abbrev cX11_count : ByteArray := prog_1_method_55_code
def yX11_count : MethodName := ⟨RX11, "count", "(I)I"⟩
abbrev cX11_requireRing : ByteArray := prog_1_method_56_code
def yX11_requireRing : MethodName := ⟨RX11, "requireRing", "(I)V"⟩
abbrev cX11_requirePlace : ByteArray := prog_1_method_57_code
def yX11_requirePlace : MethodName := ⟨RX11, "requirePlace", "(I)V"⟩
abbrev cX11_requireNumber : ByteArray := prog_1_method_58_code
def yX11_requireNumber : MethodName := ⟨RX11, "requireNumber", "(III)V"⟩
abbrev cX11_readSnags : ByteArray := prog_1_method_59_code
def yX11_readSnags : MethodName := ⟨RX11, "readSnags", "()V"⟩
abbrev cX11_bit : ByteArray := prog_1_method_60_code
def yX11_bit : MethodName := ⟨RX11, "bit", "(II)I"⟩
abbrev cX11_withBit : ByteArray := prog_1_method_61_code
def yX11_withBit : MethodName := ⟨RX11, "withBit", "(IIZ)I"⟩
def RX12 : String := "RodRingsModel"
def TX12 : u_T := fun k => match k with
  | 0 => ("RodRingsModel", "thrown", "I", false)
  | 1 => ("RodRingsModel", "world", "[I", true)
  | 2 => ("RodRingsModel", "image", "[I", true)
  | 3 => ("RodRingsModel", "earlier", "[I", true)
  | 4 => ("RodRingsModel", "trial", "[I", true)
  | 5 => ("RodRingsModel", "acts", "[I", true)
  | 6 => ("RodRingsModel", "hasImage", "Z", false)
  | 7 => ("RodRingsModel", "remembered", "I", false)
  | 8 => ("RodRingsModel", "tape", "[B", true)
  | 9 => ("RodRingsModel", "taped", "I", false)
  | 10 => ("RodRingsModel", "point", "I", false)
  | 11 => ("RodRingsModel", "end", "I", false)
  | 12 => ("RodRingsModel", "begin", "I", false)
  | 13 => ("RodRingsModel", "deep", "I", false)
  | 14 => ("RodRingsModel", "faultAt", "I", false)
  | 15 => ("RodRingsModel", "five", "[I", true)
  | 16 => ("RodRingsModel", "steps", "I", false)
  | 17 => ("RodRingsModel", "value", "[I", true)
  | 18 => ("RodRingsModel", "sound", "I", false)
  | 19 => ("RodRingsModel", "fitting", "[Z", true)
  | 20 => ("RodRingsModel", "parts", "[I", true)
  | _ => ("RodRingsModel", "stays", "[I", true)
def tyX12 : Nat → FieldType := fun k => match k with
  | 0 => .int
  | 1 => .array .int
  | 2 => .array .int
  | 3 => .array .int
  | 4 => .array .int
  | 5 => .array .int
  | 6 => .boolean
  | 7 => .int
  | 8 => .array .byte
  | 9 => .int
  | 10 => .int
  | 11 => .int
  | 12 => .int
  | 13 => .int
  | 14 => .int
  | 15 => .array .int
  | 16 => .int
  | 17 => .array .int
  | 18 => .int
  | 19 => .array .boolean
  | 20 => .array .int
  | _ => .array .int
abbrev wsX120 : List Cond := u_ws RX12 TX12 22
theorem nmX12 : ∀ a, a < 22 → ∀ b, b < 22 → a ≠ b → (TX12 a).2.1 ≠ (TX12 b).2.1 := by decide +kernel
theorem tyX12_ok : ∀ k, k < 22 → parseFieldDescriptor (TX12 k).2.2.1 = some (tyX12 k) := by decide +kernel
abbrev cX12_throwsIf : ByteArray := prog_14_method_2_code
def yX12_throwsIf : MethodName := ⟨RX12, "throwsIf", "(ZI)Z"⟩
abbrev cX12_in : ByteArray := prog_14_method_3_code
def yX12_in : MethodName := ⟨RX12, "in", "(III)Z"⟩
abbrev cX12_has : ByteArray := prog_14_method_4_code
def yX12_has : MethodName := ⟨RX12, "has", "(II)Z"⟩
abbrev cX12_init : ByteArray := prog_14_method_5_code
def yX12_init : MethodName := ⟨RX12, "<init>", "()V"⟩
abbrev cX12_image : ByteArray := prog_14_method_6_code
def yX12_image : MethodName := ⟨RX12, "image", "()V"⟩
abbrev cX12_back : ByteArray := prog_14_method_7_code
def yX12_back : MethodName := ⟨RX12, "back", "()Z"⟩
abbrev cX12_remembers : ByteArray := prog_14_method_8_code
def yX12_remembers : MethodName := ⟨RX12, "remembers", "()V"⟩
abbrev cX12_undo : ByteArray := prog_14_method_9_code
def yX12_undo : MethodName := ⟨RX12, "undo", "()Z"⟩
abbrev cX12_rings : ByteArray := prog_14_method_10_code
def yX12_rings : MethodName := ⟨RX12, "rings", "()I"⟩
abbrev cX12_lastRing : ByteArray := prog_14_method_11_code
def yX12_lastRing : MethodName := ⟨RX12, "lastRing", "()I"⟩
abbrev cX12_at : ByteArray := prog_14_method_12_code
def yX12_at : MethodName := ⟨RX12, "at", "(II)I"⟩
abbrev cX12_of : ByteArray := prog_14_method_13_code
def yX12_of : MethodName := ⟨RX12, "of", "(II)I"⟩
abbrev cX12_is : ByteArray := prog_14_method_14_code
def yX12_is : MethodName := ⟨RX12, "is", "(II)Z"⟩
abbrev cX12_gapOf : ByteArray := prog_14_method_15_code
def yX12_gapOf : MethodName := ⟨RX12, "gapOf", "(I)I"⟩
abbrev cX12_ringsThat : ByteArray := prog_14_method_16_code
def yX12_ringsThat : MethodName := ⟨RX12, "ringsThat", "(I)I"⟩
abbrev cX12_noRing : ByteArray := prog_14_method_17_code
def yX12_noRing : MethodName := ⟨RX12, "noRing", "(I)Z"⟩
abbrev cX12_noPlace : ByteArray := prog_14_method_18_code
def yX12_noPlace : MethodName := ⟨RX12, "noPlace", "(I)Z"⟩
abbrev cX12_noSteps : ByteArray := prog_14_method_19_code
def yX12_noSteps : MethodName := ⟨RX12, "noSteps", "(I)Z"⟩
abbrev cX12_drawn : ByteArray := prog_14_method_20_code
def yX12_drawn : MethodName := ⟨RX12, "drawn", "(I)I"⟩
abbrev cX12_feed : ByteArray := prog_14_method_21_code
def yX12_feed : MethodName := ⟨RX12, "feed", "(IIIII)I"⟩
abbrev cX12_end : ByteArray := prog_14_method_22_code
def yX12_end : MethodName := ⟨RX12, "end", "(I)Z"⟩
abbrev cX12_isAt : ByteArray := prog_14_method_23_code
def yX12_isAt : MethodName := ⟨RX12, "isAt", "(II)Z"⟩
abbrev cX12_blanks : ByteArray := prog_14_method_24_code
def yX12_blanks : MethodName := ⟨RX12, "blanks", "()V"⟩
abbrev cX12_letters : ByteArray := prog_14_method_25_code
def yX12_letters : MethodName := ⟨RX12, "letters", "()V"⟩
abbrev cX12_isWord : ByteArray := prog_14_method_26_code
def yX12_isWord : MethodName := ⟨RX12, "isWord", "(Ljava/lang/String;)Z"⟩
abbrev cX12_passes : ByteArray := prog_14_method_27_code
def yX12_passes : MethodName := ⟨RX12, "passes", "(Ljava/lang/String;)Z"⟩
abbrev cX12_sign : ByteArray := prog_14_method_28_code
def yX12_sign : MethodName := ⟨RX12, "sign", "(I)Z"⟩
abbrev cX12_number : ByteArray := prog_14_method_29_code
def yX12_number : MethodName := ⟨RX12, "number", "(II)I"⟩
abbrev cX12_after : ByteArray := prog_14_method_30_code
def yX12_after : MethodName := ⟨RX12, "after", "(Ljava/lang/String;II)I"⟩
abbrev cX12_fault : ByteArray := prog_14_method_31_code
def yX12_fault : MethodName := ⟨RX12, "fault", "()I"⟩
abbrev cX12_uses : ByteArray := prog_14_method_32_code
def yX12_uses : MethodName := ⟨RX12, "uses", "()V"⟩
abbrev cX12_readNumber : ByteArray := prog_14_method_33_code
def yX12_readNumber : MethodName := ⟨RX12, "readNumber", "(III)Z"⟩
abbrev cX12_leastPlace : ByteArray := prog_14_method_34_code
def yX12_leastPlace : MethodName := ⟨RX12, "leastPlace", "()I"⟩
abbrev cX12_mostPlace : ByteArray := prog_14_method_35_code
def yX12_mostPlace : MethodName := ⟨RX12, "mostPlace", "()I"⟩
abbrev cX12_hangs : ByteArray := prog_14_method_36_code
def yX12_hangs : MethodName := ⟨RX12, "hangs", "(II)V"⟩
abbrev cX12_readRing : ByteArray := prog_14_method_37_code
def yX12_readRing : MethodName := ⟨RX12, "readRing", "()Z"⟩
abbrev cX12_readCaught : ByteArray := prog_14_method_38_code
def yX12_readCaught : MethodName := ⟨RX12, "readCaught", "()Z"⟩
abbrev cX12_readChair : ByteArray := prog_14_method_39_code
def yX12_readChair : MethodName := ⟨RX12, "readChair", "()Z"⟩
abbrev cX12_readPoleLine : ByteArray := prog_14_method_40_code
def yX12_readPoleLine : MethodName := ⟨RX12, "readPoleLine", "()Z"⟩
abbrev cX12_emits : ByteArray := prog_14_method_41_code
def yX12_emits : MethodName := ⟨RX12, "emits", "(II)V"⟩
abbrev cX12_wordOfPart : ByteArray := prog_14_method_42_code
def yX12_wordOfPart : MethodName := ⟨RX12, "wordOfPart", "()I"⟩
abbrev cX12_readPart : ByteArray := prog_14_method_43_code
def yX12_readPart : MethodName := ⟨RX12, "readPart", "()Z"⟩
abbrev cX12_readSum : ByteArray := prog_14_method_44_code
def yX12_readSum : MethodName := ⟨RX12, "readSum", "()Z"⟩
abbrev cX12_readTag : ByteArray := prog_14_method_45_code
def yX12_readTag : MethodName := ⟨RX12, "readTag", "()Z"⟩
abbrev cX12_readAtom : ByteArray := prog_14_method_46_code
def yX12_readAtom : MethodName := ⟨RX12, "readAtom", "()Z"⟩
abbrev cX12_readAllOf : ByteArray := prog_14_method_47_code
def yX12_readAllOf : MethodName := ⟨RX12, "readAllOf", "()Z"⟩
abbrev cX12_readCond : ByteArray := prog_14_method_48_code
def yX12_readCond : MethodName := ⟨RX12, "readCond", "()Z"⟩
abbrev cX12_readLawLine : ByteArray := prog_14_method_49_code
def yX12_readLawLine : MethodName := ⟨RX12, "readLawLine", "(I)Z"⟩
abbrev cX12_readLine : ByteArray := prog_14_method_50_code
def yX12_readLine : MethodName := ⟨RX12, "readLine", "(ZI)Z"⟩
abbrev cX12_readAll : ByteArray := prog_14_method_51_code
def yX12_readAll : MethodName := ⟨RX12, "readAll", "(Z)I"⟩
abbrev cX12_pole : ByteArray := prog_14_method_52_code
def yX12_pole : MethodName := ⟨RX12, "pole", "()I"⟩
abbrev cX12_law : ByteArray := prog_14_method_53_code
def yX12_law : MethodName := ⟨RX12, "law", "()I"⟩
abbrev cX12_isLit : ByteArray := prog_14_method_54_code
def yX12_isLit : MethodName := ⟨RX12, "isLit", "(II)Z"⟩
abbrev cX12_factOf : ByteArray := prog_14_method_55_code
def yX12_factOf : MethodName := ⟨RX12, "factOf", "(III)I"⟩
abbrev cX12_holdsLine : ByteArray := prog_14_method_56_code
def yX12_holdsLine : MethodName := ⟨RX12, "holdsLine", "(II)Z"⟩
abbrev cX12_sumOf : ByteArray := prog_14_method_57_code
def yX12_sumOf : MethodName := ⟨RX12, "sumOf", "(II)I"⟩
abbrev cX12_byLaw : ByteArray := prog_14_method_58_code
def yX12_byLaw : MethodName := ⟨RX12, "byLaw", "(II)I"⟩
abbrev cX12_fadesOfAll : ByteArray := prog_14_method_59_code
def yX12_fadesOfAll : MethodName := ⟨RX12, "fadesOfAll", "()I"⟩
abbrev cX12_shareOf : ByteArray := prog_14_method_60_code
def yX12_shareOf : MethodName := ⟨RX12, "shareOf", "(I)I"⟩
abbrev cX12_hangsOn : ByteArray := prog_14_method_61_code
def yX12_hangsOn : MethodName := ⟨RX12, "hangsOn", "(I)I"⟩
abbrev cX12_ring : ByteArray := prog_14_method_62_code
def yX12_ring : MethodName := ⟨RX12, "ring", "(II)I"⟩
abbrev cX12_takesAlong : ByteArray := prog_14_method_63_code
def yX12_takesAlong : MethodName := ⟨RX12, "takesAlong", "(IIZ)Z"⟩
abbrev cX12_allWith : ByteArray := prog_14_method_64_code
def yX12_allWith : MethodName := ⟨RX12, "allWith", "(IZ)I"⟩
abbrev cX12_mayGo : ByteArray := prog_14_method_65_code
def yX12_mayGo : MethodName := ⟨RX12, "mayGo", "(IZ)Z"⟩
abbrev cX12_goingBy : ByteArray := prog_14_method_66_code
def yX12_goingBy : MethodName := ⟨RX12, "goingBy", "(IZ)I"⟩
abbrev cX12_goesOne : ByteArray := prog_14_method_67_code
def yX12_goesOne : MethodName := ⟨RX12, "goesOne", "(IZ)Z"⟩
abbrev cX12_pulls : ByteArray := prog_14_method_68_code
def yX12_pulls : MethodName := ⟨RX12, "pulls", "(IZI)I"⟩
abbrev cX12_tells : ByteArray := prog_14_method_69_code
def yX12_tells : MethodName := ⟨RX12, "tells", "(III)V"⟩
abbrev cX12_pull : ByteArray := prog_14_method_70_code
def yX12_pull : MethodName := ⟨RX12, "pull", "(IZI)I"⟩
abbrev cX12_free : ByteArray := prog_14_method_71_code
def yX12_free : MethodName := ⟨RX12, "free", "(I)I"⟩
abbrev cX12_snag : ByteArray := prog_14_method_72_code
def yX12_snag : MethodName := ⟨RX12, "snag", "(I)I"⟩
abbrev cX12_hook : ByteArray := prog_14_method_73_code
def yX12_hook : MethodName := ⟨RX12, "hook", "(IZ)Z"⟩
abbrev cX12_sew : ByteArray := prog_14_method_74_code
def yX12_sew : MethodName := ⟨RX12, "sew", "(II)I"⟩
abbrev cX12_let : ByteArray := prog_14_method_75_code
def yX12_let : MethodName := ⟨RX12, "let", "(II)I"⟩
abbrev cX12_chair : ByteArray := prog_14_method_76_code
def yX12_chair : MethodName := ⟨RX12, "chair", "(IZ)Z"⟩
abbrev cX12_catches : ByteArray := prog_14_method_77_code
def yX12_catches : MethodName := ⟨RX12, "catches", "()I"⟩
abbrev cX12_falls : ByteArray := prog_14_method_78_code
def yX12_falls : MethodName := ⟨RX12, "falls", "()I"⟩
abbrev cX12_oneHour : ByteArray := prog_14_method_79_code
def yX12_oneHour : MethodName := ⟨RX12, "oneHour", "(Z)I"⟩
abbrev cX12_goesOn : ByteArray := prog_14_method_80_code
def yX12_goesOn : MethodName := ⟨RX12, "goesOn", "(IZ)I"⟩
abbrev cX12_keepsAll : ByteArray := prog_14_method_81_code
def yX12_keepsAll : MethodName := ⟨RX12, "keepsAll", "()V"⟩
abbrev cX12_bringsBack : ByteArray := prog_14_method_82_code
def yX12_bringsBack : MethodName := ⟨RX12, "bringsBack", "()V"⟩
abbrev cX12_hours : ByteArray := prog_14_method_83_code
def yX12_hours : MethodName := ⟨RX12, "hours", "(I)I"⟩
abbrev cX12_noAhead : ByteArray := prog_14_method_84_code
def yX12_noAhead : MethodName := ⟨RX12, "noAhead", "(I)Z"⟩
abbrev cX12_ahead : ByteArray := prog_14_method_85_code
def yX12_ahead : MethodName := ⟨RX12, "ahead", "(II)I"⟩
abbrev cX12_faded : ByteArray := prog_14_method_86_code
def yX12_faded : MethodName := ⟨RX12, "faded", "(I)I"⟩
abbrev cX12_somePale : ByteArray := prog_14_method_87_code
def yX12_somePale : MethodName := ⟨RX12, "somePale", "()Z"⟩
abbrev cX12_pale : ByteArray := prog_14_method_88_code
def yX12_pale : MethodName := ⟨RX12, "pale", "()I"⟩
abbrev cX12_shadeNow : ByteArray := prog_14_method_89_code
def yX12_shadeNow : MethodName := ⟨RX12, "shadeNow", "()I"⟩
abbrev cX12_darkNow : ByteArray := prog_14_method_90_code
def yX12_darkNow : MethodName := ⟨RX12, "darkNow", "()I"⟩
abbrev cX12_shade : ByteArray := prog_14_method_91_code
def yX12_shade : MethodName := ⟨RX12, "shade", "()I"⟩
abbrev cX12_dark : ByteArray := prog_14_method_92_code
def yX12_dark : MethodName := ⟨RX12, "dark", "()I"⟩
abbrev cX12_bare : ByteArray := prog_14_method_93_code
def yX12_bare : MethodName := ⟨RX12, "bare", "()I"⟩
abbrev cX12_goes : ByteArray := prog_14_method_94_code
def yX12_goes : MethodName := ⟨RX12, "goes", "(IZ)I"⟩
abbrev cX12_with : ByteArray := prog_14_method_95_code
def yX12_with : MethodName := ⟨RX12, "with", "(IZ)I"⟩
abbrev cX12_would : ByteArray := prog_14_method_96_code
def yX12_would : MethodName := ⟨RX12, "would", "(IZIZ)I"⟩
abbrev cX12_best : ByteArray := prog_14_method_97_code
def yX12_best : MethodName := ⟨RX12, "best", "()I"⟩
abbrev cX12_shadesAll : ByteArray := prog_14_method_98_code
def yX12_shadesAll : MethodName := ⟨RX12, "shadesAll", "(I)Z"⟩
abbrev cX12_stepsTo : ByteArray := prog_14_method_99_code
def yX12_stepsTo : MethodName := ⟨RX12, "stepsTo", "(IIZ)I"⟩
abbrev cX12_fewestTo : ByteArray := prog_14_method_100_code
def yX12_fewestTo : MethodName := ⟨RX12, "fewestTo", "(IZ)I"⟩
abbrev cX12_fewest : ByteArray := prog_14_method_101_code
def yX12_fewest : MethodName := ⟨RX12, "fewest", "(I)I"⟩
abbrev cX12_first : ByteArray := prog_14_method_102_code
def yX12_first : MethodName := ⟨RX12, "first", "(I)I"⟩
abbrev cX12_isTold : ByteArray := prog_14_method_103_code
def yX12_isTold : MethodName := ⟨RX12, "isTold", "()Z"⟩
abbrev cX12_thatCanCatch : ByteArray := prog_14_method_104_code
def yX12_thatCanCatch : MethodName := ⟨RX12, "thatCanCatch", "()I"⟩
abbrev cX12_areCaught : ByteArray := prog_14_method_105_code
def yX12_areCaught : MethodName := ⟨RX12, "areCaught", "(I)V"⟩
abbrev cX12_wentWith : ByteArray := prog_14_method_106_code
def yX12_wentWith : MethodName := ⟨RX12, "wentWith", "(IIZI)I"⟩
abbrev cX12_fits : ByteArray := prog_14_method_107_code
def yX12_fits : MethodName := ⟨RX12, "fits", "(I)Z"⟩
abbrev cX12_snags : ByteArray := prog_14_method_108_code
def yX12_snags : MethodName := ⟨RX12, "snags", "(Z)I"⟩
abbrev cX12_partBy : ByteArray := prog_14_method_109_code
def yX12_partBy : MethodName := ⟨RX12, "partBy", "(IZ)I"⟩
abbrev cX12_tries : ByteArray := prog_14_method_110_code
def yX12_tries : MethodName := ⟨RX12, "tries", "()I"⟩
abbrev cX12_loosen : ByteArray := prog_14_method_111_code
def yX12_loosen : MethodName := ⟨RX12, "loosen", "(IZI)I"⟩
abbrev cX12_order : ByteArray := prog_14_method_112_code
def yX12_order : MethodName := ⟨RX12, "order", "()I"⟩
abbrev cX12_tight : ByteArray := prog_14_method_113_code
def yX12_tight : MethodName := ⟨RX12, "tight", "(I)I"⟩
abbrev cX12_slack : ByteArray := prog_14_method_114_code
def yX12_slack : MethodName := ⟨RX12, "slack", "()I"⟩
abbrev cX12_taut : ByteArray := prog_14_method_115_code
def yX12_taut : MethodName := ⟨RX12, "taut", "()I"⟩
abbrev cX12_bunch : ByteArray := prog_14_method_116_code
def yX12_bunch : MethodName := ⟨RX12, "bunch", "()I"⟩
abbrev cX12_litIn : ByteArray := prog_14_method_117_code
def yX12_litIn : MethodName := ⟨RX12, "litIn", "(I)I"⟩
abbrev cX12_lit : ByteArray := prog_14_method_118_code
def yX12_lit : MethodName := ⟨RX12, "lit", "(I)I"⟩
abbrev cX12_sunny : ByteArray := prog_14_method_119_code
def yX12_sunny : MethodName := ⟨RX12, "sunny", "()I"⟩
abbrev cX12_lets : ByteArray := prog_14_method_120_code
def yX12_lets : MethodName := ⟨RX12, "lets", "(II)I"⟩
abbrev cX12_envy : ByteArray := prog_14_method_121_code
def yX12_envy : MethodName := ⟨RX12, "envy", "()I"⟩
abbrev cX12_eachHas : ByteArray := prog_14_method_122_code
def yX12_eachHas : MethodName := ⟨RX12, "eachHas", "(III)I"⟩
abbrev cX12_rests : ByteArray := prog_14_method_123_code
def yX12_rests : MethodName := ⟨RX12, "rests", "(I)I"⟩
abbrev cX12_wooden : ByteArray := prog_14_method_124_code
def yX12_wooden : MethodName := ⟨RX12, "wooden", "()I"⟩
abbrev cX12_caught : ByteArray := prog_14_method_125_code
def yX12_caught : MethodName := ⟨RX12, "caught", "()I"⟩
abbrev cX12_looseOnes : ByteArray := prog_14_method_126_code
def yX12_looseOnes : MethodName := ⟨RX12, "looseOnes", "()I"⟩
abbrev cX12_loose : ByteArray := prog_14_method_127_code
def yX12_loose : MethodName := ⟨RX12, "loose", "()I"⟩
abbrev cX12_beyond : ByteArray := prog_14_method_128_code
def yX12_beyond : MethodName := ⟨RX12, "beyond", "()I"⟩
abbrev cX12_odds : ByteArray := prog_14_method_129_code
def yX12_odds : MethodName := ⟨RX12, "odds", "(II)I"⟩
abbrev cX12_likens : ByteArray := prog_14_method_130_code
def yX12_likens : MethodName := ⟨RX12, "likens", "(II)Z"⟩
abbrev cX12_twins : ByteArray := prog_14_method_131_code
def yX12_twins : MethodName := ⟨RX12, "twins", "()I"⟩
abbrev cX12_trial : ByteArray := prog_14_method_132_code
def yX12_trial : MethodName := ⟨RX12, "trial", "(IZ)I"⟩
abbrev cX12_span : ByteArray := prog_14_method_133_code
def yX12_span : MethodName := ⟨RX12, "span", "(IZ)I"⟩
abbrev cX12_ofLog : ByteArray := prog_14_method_134_code
def yX12_ofLog : MethodName := ⟨RX12, "ofLog", "(II)I"⟩
abbrev cX12_led : ByteArray := prog_14_method_135_code
def yX12_led : MethodName := ⟨RX12, "led", "(IZ)I"⟩
abbrev cX12_log : ByteArray := prog_14_method_136_code
def yX12_log : MethodName := ⟨RX12, "log", "(II)I"⟩
abbrev cX12_seed : ByteArray := prog_14_method_137_code
def yX12_seed : MethodName := ⟨RX12, "seed", "(I)I"⟩
abbrev cX12_count : ByteArray := prog_14_method_138_code
def yX12_count : MethodName := ⟨RX12, "count", "(I)I"⟩
def RJx145de : String := "java/io/Serializable"
def TJx145de : u_T := fun k => match k with
  | _ => ("", "", "", false)
def tyJx145de : Nat → FieldType := fun k => match k with
  | _ => .int
abbrev wsJx145de0 : List Cond := u_ws RJx145de TJx145de 0
theorem nmJx145de : ∀ a, a < 0 → ∀ b, b < 0 → a ≠ b → (TJx145de a).2.1 ≠ (TJx145de b).2.1 := by decide +kernel
theorem tyJx145de_ok : ∀ k, k < 0 → parseFieldDescriptor (TJx145de k).2.2.1 = some (tyJx145de k) := by decide +kernel
def RJx9f9b0 : String := "java/lang/CharSequence"
def TJx9f9b0 : u_T := fun k => match k with
  | _ => ("", "", "", false)
def tyJx9f9b0 : Nat → FieldType := fun k => match k with
  | _ => .int
abbrev wsJx9f9b00 : List Cond := u_ws RJx9f9b0 TJx9f9b0 0
theorem nmJx9f9b0 : ∀ a, a < 0 → ∀ b, b < 0 → a ≠ b → (TJx9f9b0 a).2.1 ≠ (TJx9f9b0 b).2.1 := by decide +kernel
theorem tyJx9f9b0_ok : ∀ k, k < 0 → parseFieldDescriptor (TJx9f9b0 k).2.2.1 = some (tyJx9f9b0 k) := by decide +kernel
def RJxb160c : String := "java/lang/Comparable"
def TJxb160c : u_T := fun k => match k with
  | _ => ("", "", "", false)
def tyJxb160c : Nat → FieldType := fun k => match k with
  | _ => .int
abbrev wsJxb160c0 : List Cond := u_ws RJxb160c TJxb160c 0
theorem nmJxb160c : ∀ a, a < 0 → ∀ b, b < 0 → a ≠ b → (TJxb160c a).2.1 ≠ (TJxb160c b).2.1 := by decide +kernel
theorem tyJxb160c_ok : ∀ k, k < 0 → parseFieldDescriptor (TJxb160c k).2.2.1 = some (tyJxb160c k) := by decide +kernel
def RJ6 : String := "java/lang/Integer"
def TJ6 : u_T := fun k => match k with
  | _ => ("", "", "", false)
def tyJ6 : Nat → FieldType := fun k => match k with
  | _ => .int
abbrev wsJ60 : List Cond := u_ws RJ6 TJ6 0
theorem nmJ6 : ∀ a, a < 0 → ∀ b, b < 0 → a ≠ b → (TJ6 a).2.1 ≠ (TJ6 b).2.1 := by decide +kernel
theorem tyJ6_ok : ∀ k, k < 0 → parseFieldDescriptor (TJ6 k).2.2.1 = some (tyJ6 k) := by decide +kernel
abbrev cJ6_bitCount_0f7a4 : ByteArray := prog_22_method_49_code
def yJ6_bitCount_0f7a4 : MethodName := ⟨RJ6, "bitCount", "(I)I"⟩
def RJ9 : String := "java/lang/Math"
def TJ9 : u_T := fun k => match k with
  | _ => ("", "", "", false)
def tyJ9 : Nat → FieldType := fun k => match k with
  | _ => .int
abbrev wsJ90 : List Cond := u_ws RJ9 TJ9 0
theorem nmJ9 : ∀ a, a < 0 → ∀ b, b < 0 → a ≠ b → (TJ9 a).2.1 ≠ (TJ9 b).2.1 := by decide +kernel
theorem tyJ9_ok : ∀ k, k < 0 → parseFieldDescriptor (TJ9 k).2.2.1 = some (tyJ9 k) := by decide +kernel
abbrev cJ9_floorMod_7cf53 : ByteArray := prog_23_method_50_code
def yJ9_floorMod_7cf53 : MethodName := ⟨RJ9, "floorMod", "(II)I"⟩
abbrev cJ9_abs_0f7a4 : ByteArray := prog_23_method_59_code
def yJ9_abs_0f7a4 : MethodName := ⟨RJ9, "abs", "(I)I"⟩
abbrev cJ9_max_7cf53 : ByteArray := prog_23_method_65_code
def yJ9_max_7cf53 : MethodName := ⟨RJ9, "max", "(II)I"⟩
abbrev cJ9_min_7cf53 : ByteArray := prog_23_method_69_code
def yJ9_min_7cf53 : MethodName := ⟨RJ9, "min", "(II)I"⟩
def RJ0 : String := "java/lang/String"
def TJ0 : u_T := fun k => match k with
  | _ => ("", "", "", false)
def tyJ0 : Nat → FieldType := fun k => match k with
  | _ => .int
abbrev wsJ00 : List Cond := u_ws RJ0 TJ0 0
theorem nmJ0 : ∀ a, a < 0 → ∀ b, b < 0 → a ≠ b → (TJ0 a).2.1 ≠ (TJ0 b).2.1 := by decide +kernel
theorem tyJ0_ok : ∀ k, k < 0 → parseFieldDescriptor (TJ0 k).2.2.1 = some (tyJ0 k) := by decide +kernel
abbrev cJ0_length_8abf5 : ByteArray := prog_25_method_54_code
def yJ0_length_8abf5 : MethodName := ⟨RJ0, "length", "()I"⟩
abbrev cJ0_charAt_5068e : ByteArray := prog_25_method_56_code
def yJ0_charAt_5068e : MethodName := ⟨RJ0, "charAt", "(I)C"⟩
abbrev cJ0_coder_7d493 : ByteArray := prog_25_method_152_code
def yJ0_coder_7d493 : MethodName := ⟨RJ0, "coder", "()B"⟩
abbrev cJ0_isLatin1_aae02 : ByteArray := prog_25_method_154_code
def yJ0_isLatin1_aae02 : MethodName := ⟨RJ0, "isLatin1", "()Z"⟩
abbrev cJ0_checkIndex_df160 : ByteArray := prog_25_method_155_code
def yJ0_checkIndex_df160 : MethodName := ⟨RJ0, "checkIndex", "(II)V"⟩
def RJ1 : String := "java/lang/StringLatin1"
def TJ1 : u_T := fun k => match k with
  | _ => ("", "", "", false)
def tyJ1 : Nat → FieldType := fun k => match k with
  | _ => .int
abbrev wsJ10 : List Cond := u_ws RJ1 TJ1 0
theorem nmJ1 : ∀ a, a < 0 → ∀ b, b < 0 → a ≠ b → (TJ1 a).2.1 ≠ (TJ1 b).2.1 := by decide +kernel
theorem tyJ1_ok : ∀ k, k < 0 → parseFieldDescriptor (TJ1 k).2.2.1 = some (tyJ1 k) := by decide +kernel
abbrev cJ1_charAt_3b067 : ByteArray := prog_26_method_2_code
def yJ1_charAt_3b067 : MethodName := ⟨RJ1, "charAt", "([BI)C"⟩
def RJ2 : String := "java/lang/StringUTF16"
def TJ2 : u_T := fun k => match k with
  | _ => ("", "", "", false)
def tyJ2 : Nat → FieldType := fun k => match k with
  | _ => .int
abbrev wsJ20 : List Cond := u_ws RJ2 TJ2 0
theorem nmJ2 : ∀ a, a < 0 → ∀ b, b < 0 → a ≠ b → (TJ2 a).2.1 ≠ (TJ2 b).2.1 := by decide +kernel
theorem tyJ2_ok : ∀ k, k < 0 → parseFieldDescriptor (TJ2 k).2.2.1 = some (tyJ2 k) := by decide +kernel
abbrev cJ2_getChar_3b067 : ByteArray := prog_27_method_5_code
def yJ2_getChar_3b067 : MethodName := ⟨RJ2, "getChar", "([BI)C"⟩
abbrev cJ2_length_9d52b : ByteArray := prog_27_method_6_code
def yJ2_length_9d52b : MethodName := ⟨RJ2, "length", "([B)I"⟩
abbrev cJ2_charAt_3b067 : ByteArray := prog_27_method_83_code
def yJ2_charAt_3b067 : MethodName := ⟨RJ2, "charAt", "([BI)C"⟩
abbrev cJ2_checkIndex_2214a : ByteArray := prog_27_method_91_code
def yJ2_checkIndex_2214a : MethodName := ⟨RJ2, "checkIndex", "(I[B)V"⟩
def RJ10 : String := "java/lang/System"
def TJ10 : u_T := fun k => match k with
  | _ => ("", "", "", false)
def tyJ10 : Nat → FieldType := fun k => match k with
  | _ => .int
abbrev wsJ100 : List Cond := u_ws RJ10 TJ10 0
theorem nmJ10 : ∀ a, a < 0 → ∀ b, b < 0 → a ≠ b → (TJ10 a).2.1 ≠ (TJ10 b).2.1 := by decide +kernel
theorem tyJ10_ok : ∀ k, k < 0 → parseFieldDescriptor (TJ10 k).2.2.1 = some (tyJ10 k) := by decide +kernel
def RJxfd54e : String := "java/lang/constant/Constable"
def TJxfd54e : u_T := fun k => match k with
  | _ => ("", "", "", false)
def tyJxfd54e : Nat → FieldType := fun k => match k with
  | _ => .int
abbrev wsJxfd54e0 : List Cond := u_ws RJxfd54e TJxfd54e 0
theorem nmJxfd54e : ∀ a, a < 0 → ∀ b, b < 0 → a ≠ b → (TJxfd54e a).2.1 ≠ (TJxfd54e b).2.1 := by decide +kernel
theorem tyJxfd54e_ok : ∀ k, k < 0 → parseFieldDescriptor (TJxfd54e k).2.2.1 = some (tyJxfd54e k) := by decide +kernel
def RJx3cf43 : String := "java/lang/constant/ConstantDesc"
def TJx3cf43 : u_T := fun k => match k with
  | _ => ("", "", "", false)
def tyJx3cf43 : Nat → FieldType := fun k => match k with
  | _ => .int
abbrev wsJx3cf430 : List Cond := u_ws RJx3cf43 TJx3cf43 0
theorem nmJx3cf43 : ∀ a, a < 0 → ∀ b, b < 0 → a ≠ b → (TJx3cf43 a).2.1 ≠ (TJx3cf43 b).2.1 := by decide +kernel
theorem tyJx3cf43_ok : ∀ k, k < 0 → parseFieldDescriptor (TJx3cf43 k).2.2.1 = some (tyJx3cf43 k) := by decide +kernel
def RJ3 : String := "jdk/internal/util/Preconditions"
def TJ3 : u_T := fun k => match k with
  | _ => ("", "", "", false)
def tyJ3 : Nat → FieldType := fun k => match k with
  | _ => .int
abbrev wsJ30 : List Cond := u_ws RJ3 TJ3 0
theorem nmJ3 : ∀ a, a < 0 → ∀ b, b < 0 → a ≠ b → (TJ3 a).2.1 ≠ (TJ3 b).2.1 := by decide +kernel
theorem tyJ3_ok : ∀ k, k < 0 → parseFieldDescriptor (TJ3 k).2.2.1 = some (tyJ3 k) := by decide +kernel
abbrev cJ3_checkIndex_8e157 : ByteArray := prog_34_method_11_code
def yJ3_checkIndex_8e157 : MethodName := ⟨RJ3, "checkIndex", "(IILjava/util/function/BiFunction;)I"⟩
def RL : String := "RodRingsLaw"
abbrev cL_pole : ByteArray := method_3_code
def yL_pole : MethodName := ⟨RL, "pole", "(LRodRings;[J)I"⟩
abbrev cL_law : ByteArray := method_4_code
def yL_law : MethodName := ⟨RL, "law", "(LRodRings;[J)I"⟩
abbrev cL_ring : ByteArray := method_5_code
def yL_ring : MethodName := ⟨RL, "ring", "(LRodRings;II[J)I"⟩
abbrev cL_pull : ByteArray := method_6_code
def yL_pull : MethodName := ⟨RL, "pull", "(LRodRings;IZI[J)I"⟩
abbrev cL_free : ByteArray := method_7_code
def yL_free : MethodName := ⟨RL, "free", "(LRodRings;I[J)I"⟩
abbrev cL_snag : ByteArray := method_8_code
def yL_snag : MethodName := ⟨RL, "snag", "(LRodRings;I[J)I"⟩
abbrev cL_hook : ByteArray := method_9_code
def yL_hook : MethodName := ⟨RL, "hook", "(LRodRings;IZ[J)I"⟩
abbrev cL_sew : ByteArray := method_10_code
def yL_sew : MethodName := ⟨RL, "sew", "(LRodRings;II[J)I"⟩
abbrev cL_let : ByteArray := method_11_code
def yL_let : MethodName := ⟨RL, "let", "(LRodRings;II[J)I"⟩
abbrev cL_chair : ByteArray := method_12_code
def yL_chair : MethodName := ⟨RL, "chair", "(LRodRings;IZ[J)I"⟩
abbrev cL_hours : ByteArray := method_13_code
def yL_hours : MethodName := ⟨RL, "hours", "(LRodRings;I[J)I"⟩
abbrev cL_goes : ByteArray := method_14_code
def yL_goes : MethodName := ⟨RL, "goes", "(LRodRings;IZ[J)I"⟩
abbrev cL_with : ByteArray := method_15_code
def yL_with : MethodName := ⟨RL, "with", "(LRodRings;IZ[J)I"⟩
abbrev cL_would : ByteArray := method_16_code
def yL_would : MethodName := ⟨RL, "would", "(LRodRings;IZIZ[J)I"⟩
abbrev cL_snags : ByteArray := method_17_code
def yL_snags : MethodName := ⟨RL, "snags", "(LRodRings;Z[J)I"⟩
abbrev cL_tries : ByteArray := method_18_code
def yL_tries : MethodName := ⟨RL, "tries", "(LRodRings;[J)I"⟩
abbrev cL_loosen : ByteArray := method_19_code
def yL_loosen : MethodName := ⟨RL, "loosen", "(LRodRings;IZI[J)I"⟩
abbrev cL_tight : ByteArray := method_20_code
def yL_tight : MethodName := ⟨RL, "tight", "(LRodRings;I[J)I"⟩
abbrev cL_lit : ByteArray := method_21_code
def yL_lit : MethodName := ⟨RL, "lit", "(LRodRings;I[J)I"⟩
abbrev cL_faded : ByteArray := method_22_code
def yL_faded : MethodName := ⟨RL, "faded", "(LRodRings;I[J)I"⟩
abbrev cL_lets : ByteArray := method_23_code
def yL_lets : MethodName := ⟨RL, "lets", "(LRodRings;II[J)I"⟩
abbrev cL_rests : ByteArray := method_24_code
def yL_rests : MethodName := ⟨RL, "rests", "(LRodRings;I[J)I"⟩
abbrev cL_odds : ByteArray := method_25_code
def yL_odds : MethodName := ⟨RL, "odds", "(LRodRings;II[J)I"⟩
abbrev cL_ahead : ByteArray := method_26_code
def yL_ahead : MethodName := ⟨RL, "ahead", "(LRodRings;II[J)I"⟩
abbrev cL_trial : ByteArray := method_27_code
def yL_trial : MethodName := ⟨RL, "trial", "(LRodRings;IZ[J)I"⟩
abbrev cL_span : ByteArray := method_28_code
def yL_span : MethodName := ⟨RL, "span", "(LRodRings;IZ[J)I"⟩
abbrev cL_led : ByteArray := method_29_code
def yL_led : MethodName := ⟨RL, "led", "(LRodRings;IZ[J)I"⟩
abbrev cL_log : ByteArray := method_30_code
def yL_log : MethodName := ⟨RL, "log", "(LRodRings;II[J)I"⟩
abbrev cL_law_ : ByteArray := code
def yL_law_ : MethodName := ⟨RL, "law", "([I)Z"⟩
abbrev vwCl : List vw_C := [(RX0, TX0, 3), (RX1, TX1, 2), (RX2, TX2, 9), (RX3, TX3, 3), (RX5, TX5, 3), (RX7, TX7, 7), (RX8, TX8, 18), (RX9, TX9, 3), (RX10, TX10, 7), (RX11, TX11, 13), (RX12, TX12, 22)]
theorem wsX00_tb : ∀ w ∈ wsX00, w ∈ lw_tbl := by decide +kernel
theorem wsX10_tb : ∀ w ∈ wsX10, w ∈ lw_tbl := by decide +kernel
theorem wsX20_tb : ∀ w ∈ wsX20, w ∈ lw_tbl := by decide +kernel
theorem wsX30_tb : ∀ w ∈ wsX30, w ∈ lw_tbl := by decide +kernel
theorem wsX50_tb : ∀ w ∈ wsX50, w ∈ lw_tbl := by decide +kernel
theorem wsX70_tb : ∀ w ∈ wsX70, w ∈ lw_tbl := by decide +kernel
theorem wsX80_tb : ∀ w ∈ wsX80, w ∈ lw_tbl := by decide +kernel
theorem wsX90_tb : ∀ w ∈ wsX90, w ∈ lw_tbl := by decide +kernel
theorem wsX100_tb : ∀ w ∈ wsX100, w ∈ lw_tbl := by decide +kernel
theorem wsX110_tb : ∀ w ∈ wsX110, w ∈ lw_tbl := by decide +kernel
theorem wsX120_tb : ∀ w ∈ wsX120, w ∈ lw_tbl := by decide +kernel
end
