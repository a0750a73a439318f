-- ===== PART A: goes FIRST, ahead of the names: the tables' words, and 'selects' of the private methods out of them =====
/-- a private method of a class that the tables say can be made, by its rows of tables_1 -/
def lw_okq (q : MethodName × Nat) : Prop := (q.1.cls ≠ "java/lang/invoke/MethodHandle" ∧ q.1.cls ≠ "java/lang/invoke/VarHandle") ∧ Cond.instantiable q.1.cls q.2 ∈ tables_1 ∧ Cond.privateMethod q.1 ∈ tables_1 ∧ Cond.instanceMethod q.1 ∈ tables_1
theorem tm_1 {w : Cond} (h : w ∈ tables_1_1) : w ∈ tables_1 := (List.mem_append_left _ h)
theorem tm_2 {w : Cond} (h : w ∈ tables_1_2) : w ∈ tables_1 := (List.mem_append_right _ (List.mem_append_left _ h))
theorem tm_3 {w : Cond} (h : w ∈ tables_1_3) : w ∈ tables_1 := (List.mem_append_right _ (List.mem_append_right _ (List.mem_append_left _ h)))
theorem tm_4 {w : Cond} (h : w ∈ tables_1_4) : w ∈ tables_1 := (List.mem_append_right _ (List.mem_append_right _ (List.mem_append_right _ (List.mem_append_left _ h))))
theorem tm_5 {w : Cond} (h : w ∈ tables_1_5) : w ∈ tables_1 := (List.mem_append_right _ (List.mem_append_right _ (List.mem_append_right _ (List.mem_append_right _ (List.mem_append_left _ h)))))
theorem tm_6 {w : Cond} (h : w ∈ tables_1_6) : w ∈ tables_1 := (List.mem_append_right _ (List.mem_append_right _ (List.mem_append_right _ (List.mem_append_right _ (List.mem_append_right _ h)))))
set_option maxRecDepth 100000 in
theorem lw_p0 : lw_okq (⟨"OpenPots$Sheets", "rowFault", "(II)I"⟩, 3) := ⟨⟨by decide +kernel, by decide +kernel⟩, tm_1 (List.mem_of_getElem? (i := 26) rfl), tm_2 (List.mem_of_getElem? (i := 153) rfl), tm_2 (List.mem_of_getElem? (i := 154) rfl)⟩
set_option maxRecDepth 100000 in
theorem lw_p1 : lw_okq (⟨"OpenPots", "faulted", "(I)I"⟩, 14) := ⟨⟨by decide +kernel, by decide +kernel⟩, tm_1 (List.mem_of_getElem? (i := 18) rfl), tm_2 (List.mem_of_getElem? (i := 157) rfl), tm_2 (List.mem_of_getElem? (i := 158) rfl)⟩
set_option maxRecDepth 100000 in
theorem lw_p2 : lw_okq (⟨"OpenPots$Text", "forget", "()V"⟩, 7) := ⟨⟨by decide +kernel, by decide +kernel⟩, tm_1 (List.mem_of_getElem? (i := 47) rfl), tm_2 (List.mem_of_getElem? (i := 165) rfl), tm_2 (List.mem_of_getElem? (i := 166) rfl)⟩
set_option maxRecDepth 100000 in
theorem lw_p3 : lw_okq (⟨"OpenPots$Text", "step", "(II)I"⟩, 7) := ⟨⟨by decide +kernel, by decide +kernel⟩, tm_1 (List.mem_of_getElem? (i := 47) rfl), tm_2 (List.mem_of_getElem? (i := 169) rfl), tm_2 (List.mem_of_getElem? (i := 170) rfl)⟩
set_option maxRecDepth 100000 in
theorem lw_p4 : lw_okq (⟨"OpenPots$Text", "beginItem", "(I)I"⟩, 7) := ⟨⟨by decide +kernel, by decide +kernel⟩, tm_1 (List.mem_of_getElem? (i := 47) rfl), tm_2 (List.mem_of_getElem? (i := 173) rfl), tm_2 (List.mem_of_getElem? (i := 174) rfl)⟩
set_option maxRecDepth 100000 in
theorem lw_p5 : lw_okq (⟨"OpenPots$Text", "takeNeed", "(I)I"⟩, 7) := ⟨⟨by decide +kernel, by decide +kernel⟩, tm_1 (List.mem_of_getElem? (i := 47) rfl), tm_2 (List.mem_of_getElem? (i := 177) rfl), tm_2 (List.mem_of_getElem? (i := 178) rfl)⟩
set_option maxRecDepth 100000 in
theorem lw_p6 : lw_okq (⟨"OpenPots$Text", "goOnInWork", "(I)I"⟩, 7) := ⟨⟨by decide +kernel, by decide +kernel⟩, tm_1 (List.mem_of_getElem? (i := 47) rfl), tm_2 (List.mem_of_getElem? (i := 181) rfl), tm_2 (List.mem_of_getElem? (i := 182) rfl)⟩
set_option maxRecDepth 100000 in
theorem lw_p7 : lw_okq (⟨"OpenPots$Text", "endItem", "(I)I"⟩, 7) := ⟨⟨by decide +kernel, by decide +kernel⟩, tm_1 (List.mem_of_getElem? (i := 47) rfl), tm_2 (List.mem_of_getElem? (i := 185) rfl), tm_2 (List.mem_of_getElem? (i := 186) rfl)⟩
set_option maxRecDepth 100000 in
theorem lw_p8 : lw_okq (⟨"OpenPots$Text", "takeBefore", "(I)I"⟩, 7) := ⟨⟨by decide +kernel, by decide +kernel⟩, tm_1 (List.mem_of_getElem? (i := 47) rfl), tm_2 (List.mem_of_getElem? (i := 189) rfl), tm_2 (List.mem_of_getElem? (i := 190) rfl)⟩
set_option maxRecDepth 100000 in
theorem lw_p9 : lw_okq (⟨"OpenPots$Text", "takeSized", "(I)I"⟩, 7) := ⟨⟨by decide +kernel, by decide +kernel⟩, tm_1 (List.mem_of_getElem? (i := 47) rfl), tm_2 (List.mem_of_getElem? (i := 193) rfl), tm_2 (List.mem_of_getElem? (i := 194) rfl)⟩
set_option maxRecDepth 100000 in
theorem lw_p10 : lw_okq (⟨"OpenPots$Text", "takeSize", "(I)I"⟩, 7) := ⟨⟨by decide +kernel, by decide +kernel⟩, tm_1 (List.mem_of_getElem? (i := 47) rfl), tm_2 (List.mem_of_getElem? (i := 197) rfl), tm_2 (List.mem_of_getElem? (i := 198) rfl)⟩
set_option maxRecDepth 100000 in
theorem lw_p11 : lw_okq (⟨"OpenPots", "refusalOfSpare", "(I)I"⟩, 14) := ⟨⟨by decide +kernel, by decide +kernel⟩, tm_1 (List.mem_of_getElem? (i := 18) rfl), tm_3 (List.mem_of_getElem? (i := 28) rfl), tm_3 (List.mem_of_getElem? (i := 29) rfl)⟩
set_option maxRecDepth 100000 in
theorem lw_p12 : lw_okq (⟨"OpenPots$Gauge", "fillNeededFromHereOn", "([I)V"⟩, 5) := ⟨⟨by decide +kernel, by decide +kernel⟩, tm_1 (List.mem_of_getElem? (i := 167) rfl), tm_3 (List.mem_of_getElem? (i := 36) rfl), tm_3 (List.mem_of_getElem? (i := 37) rfl)⟩
set_option maxRecDepth 100000 in
theorem lw_p13 : lw_okq (⟨"OpenPots", "atPlace", "(II)I"⟩, 14) := ⟨⟨by decide +kernel, by decide +kernel⟩, tm_1 (List.mem_of_getElem? (i := 18) rfl), tm_3 (List.mem_of_getElem? (i := 61) rfl), tm_3 (List.mem_of_getElem? (i := 62) rfl)⟩
set_option maxRecDepth 100000 in
theorem lw_p14 : lw_okq (⟨"OpenPots$Search", "load", "(I)V"⟩, 10) := ⟨⟨by decide +kernel, by decide +kernel⟩, tm_1 (List.mem_of_getElem? (i := 198) rfl), tm_3 (List.mem_of_getElem? (i := 80) rfl), tm_3 (List.mem_of_getElem? (i := 81) rfl)⟩
set_option maxRecDepth 100000 in
theorem lw_p15 : lw_okq (⟨"OpenPots$Search", "squeeze", "(II)I"⟩, 10) := ⟨⟨by decide +kernel, by decide +kernel⟩, tm_1 (List.mem_of_getElem? (i := 198) rfl), tm_3 (List.mem_of_getElem? (i := 84) rfl), tm_3 (List.mem_of_getElem? (i := 85) rfl)⟩
def lw_privs_1 : List (MethodName × Nat) := [(⟨"OpenPots$Sheets", "rowFault", "(II)I"⟩, 3), (⟨"OpenPots", "faulted", "(I)I"⟩, 14), (⟨"OpenPots$Text", "forget", "()V"⟩, 7), (⟨"OpenPots$Text", "step", "(II)I"⟩, 7), (⟨"OpenPots$Text", "beginItem", "(I)I"⟩, 7), (⟨"OpenPots$Text", "takeNeed", "(I)I"⟩, 7), (⟨"OpenPots$Text", "goOnInWork", "(I)I"⟩, 7), (⟨"OpenPots$Text", "endItem", "(I)I"⟩, 7), (⟨"OpenPots$Text", "takeBefore", "(I)I"⟩, 7), (⟨"OpenPots$Text", "takeSized", "(I)I"⟩, 7), (⟨"OpenPots$Text", "takeSize", "(I)I"⟩, 7), (⟨"OpenPots", "refusalOfSpare", "(I)I"⟩, 14), (⟨"OpenPots$Gauge", "fillNeededFromHereOn", "([I)V"⟩, 5), (⟨"OpenPots", "atPlace", "(II)I"⟩, 14), (⟨"OpenPots$Search", "load", "(I)V"⟩, 10), (⟨"OpenPots$Search", "squeeze", "(II)I"⟩, 10)]
theorem lw_r1 : ∀ q ∈ lw_privs_1, lw_okq q := List.forall_mem_cons.mpr ⟨lw_p0, List.forall_mem_cons.mpr ⟨lw_p1, List.forall_mem_cons.mpr ⟨lw_p2, List.forall_mem_cons.mpr ⟨lw_p3, List.forall_mem_cons.mpr ⟨lw_p4, List.forall_mem_cons.mpr ⟨lw_p5, List.forall_mem_cons.mpr ⟨lw_p6, List.forall_mem_cons.mpr ⟨lw_p7, List.forall_mem_cons.mpr ⟨lw_p8, List.forall_mem_cons.mpr ⟨lw_p9, List.forall_mem_cons.mpr ⟨lw_p10, List.forall_mem_cons.mpr ⟨lw_p11, List.forall_mem_cons.mpr ⟨lw_p12, List.forall_mem_cons.mpr ⟨lw_p13, List.forall_mem_cons.mpr ⟨lw_p14, List.forall_mem_cons.mpr ⟨lw_p15, fun _ h => absurd h List.not_mem_nil⟩⟩⟩⟩⟩⟩⟩⟩⟩⟩⟩⟩⟩⟩⟩⟩
set_option maxRecDepth 100000 in
theorem lw_p16 : lw_okq (⟨"OpenPots$Search", "fillLeast", "(I)V"⟩, 10) := ⟨⟨by decide +kernel, by decide +kernel⟩, tm_1 (List.mem_of_getElem? (i := 198) rfl), tm_3 (List.mem_of_getElem? (i := 88) rfl), tm_3 (List.mem_of_getElem? (i := 89) rfl)⟩
set_option maxRecDepth 100000 in
theorem lw_p17 : lw_okq (⟨"OpenPots$Search", "mayCome", "(II)Z"⟩, 10) := ⟨⟨by decide +kernel, by decide +kernel⟩, tm_1 (List.mem_of_getElem? (i := 198) rfl), tm_3 (List.mem_of_getElem? (i := 92) rfl), tm_3 (List.mem_of_getElem? (i := 93) rfl)⟩
set_option maxRecDepth 100000 in
theorem lw_p18 : lw_okq (⟨"OpenPots$Search", "wide", "(II)I"⟩, 10) := ⟨⟨by decide +kernel, by decide +kernel⟩, tm_1 (List.mem_of_getElem? (i := 198) rfl), tm_3 (List.mem_of_getElem? (i := 96) rfl), tm_3 (List.mem_of_getElem? (i := 97) rfl)⟩
set_option maxRecDepth 100000 in
theorem lw_p19 : lw_okq (⟨"OpenPots$Search", "fillLongs", "(I)V"⟩, 10) := ⟨⟨by decide +kernel, by decide +kernel⟩, tm_1 (List.mem_of_getElem? (i := 198) rfl), tm_3 (List.mem_of_getElem? (i := 113) rfl), tm_3 (List.mem_of_getElem? (i := 114) rfl)⟩
set_option maxRecDepth 100000 in
theorem lw_p20 : lw_okq (⟨"OpenPots$Search", "leastLong", "(I)I"⟩, 10) := ⟨⟨by decide +kernel, by decide +kernel⟩, tm_1 (List.mem_of_getElem? (i := 198) rfl), tm_3 (List.mem_of_getElem? (i := 117) rfl), tm_3 (List.mem_of_getElem? (i := 118) rfl)⟩
set_option maxRecDepth 100000 in
theorem lw_p21 : lw_okq (⟨"OpenPots$Search", "nextBehind", "(I)I"⟩, 10) := ⟨⟨by decide +kernel, by decide +kernel⟩, tm_1 (List.mem_of_getElem? (i := 198) rfl), tm_3 (List.mem_of_getElem? (i := 125) rfl), tm_3 (List.mem_of_getElem? (i := 126) rfl)⟩
set_option maxRecDepth 100000 in
theorem lw_p22 : lw_okq (⟨"OpenPots$Bounds", "fillCrossings", "()V"⟩, 6) := ⟨⟨by decide +kernel, by decide +kernel⟩, tm_1 (List.mem_of_getElem? (i := 235) rfl), tm_3 (List.mem_of_getElem? (i := 161) rfl), tm_3 (List.mem_of_getElem? (i := 162) rfl)⟩
set_option maxRecDepth 100000 in
theorem lw_p23 : lw_okq (⟨"OpenPots$Bounds", "findKnot", "()V"⟩, 6) := ⟨⟨by decide +kernel, by decide +kernel⟩, tm_1 (List.mem_of_getElem? (i := 235) rfl), tm_3 (List.mem_of_getElem? (i := 175) rfl), tm_3 (List.mem_of_getElem? (i := 176) rfl)⟩
set_option maxRecDepth 100000 in
theorem lw_p24 : lw_okq (⟨"OpenPots$Bounds", "fillJoined", "()V"⟩, 6) := ⟨⟨by decide +kernel, by decide +kernel⟩, tm_1 (List.mem_of_getElem? (i := 235) rfl), tm_3 (List.mem_of_getElem? (i := 179) rfl), tm_3 (List.mem_of_getElem? (i := 180) rfl)⟩
set_option maxRecDepth 100000 in
theorem lw_p25 : lw_okq (⟨"OpenPots$Bounds", "isKnot", "(I)Z"⟩, 6) := ⟨⟨by decide +kernel, by decide +kernel⟩, tm_1 (List.mem_of_getElem? (i := 235) rfl), tm_3 (List.mem_of_getElem? (i := 183) rfl), tm_3 (List.mem_of_getElem? (i := 184) rfl)⟩
set_option maxRecDepth 100000 in
theorem lw_p26 : lw_okq (⟨"OpenPots$Bounds", "isWithin", "(II)Z"⟩, 6) := ⟨⟨by decide +kernel, by decide +kernel⟩, tm_1 (List.mem_of_getElem? (i := 235) rfl), tm_3 (List.mem_of_getElem? (i := 228) rfl), tm_3 (List.mem_of_getElem? (i := 229) rfl)⟩
set_option maxRecDepth 100000 in
theorem lw_p27 : lw_okq (⟨"OpenPots$Works", "score", "(III)I"⟩, 6) := ⟨⟨by decide +kernel, by decide +kernel⟩, tm_1 (List.mem_of_getElem? (i := 79) rfl), tm_4 (List.mem_of_getElem? (i := 1) rfl), tm_4 (List.mem_of_getElem? (i := 2) rfl)⟩
set_option maxRecDepth 100000 in
theorem lw_p28 : lw_okq (⟨"OpenPots", "isLawful", "(I)Z"⟩, 14) := ⟨⟨by decide +kernel, by decide +kernel⟩, tm_1 (List.mem_of_getElem? (i := 18) rfl), tm_4 (List.mem_of_getElem? (i := 11) rfl), tm_4 (List.mem_of_getElem? (i := 12) rfl)⟩
set_option maxRecDepth 100000 in
theorem lw_p29 : lw_okq (⟨"OpenPots$Mover", "doFirstMove", "()Z"⟩, 6) := ⟨⟨by decide +kernel, by decide +kernel⟩, tm_2 (List.mem_of_getElem? (i := 23) rfl), tm_4 (List.mem_of_getElem? (i := 22) rfl), tm_4 (List.mem_of_getElem? (i := 23) rfl)⟩
set_option maxRecDepth 100000 in
theorem lw_p30 : lw_okq (⟨"OpenPots$Mover", "isGood", "(II)Z"⟩, 6) := ⟨⟨by decide +kernel, by decide +kernel⟩, tm_2 (List.mem_of_getElem? (i := 23) rfl), tm_4 (List.mem_of_getElem? (i := 26) rfl), tm_4 (List.mem_of_getElem? (i := 27) rfl)⟩
set_option maxRecDepth 100000 in
theorem lw_p31 : lw_okq (⟨"OpenPots$Room", "goOn", "([III)V"⟩, 4) := ⟨⟨by decide +kernel, by decide +kernel⟩, tm_2 (List.mem_of_getElem? (i := 49) rfl), tm_4 (List.mem_of_getElem? (i := 43) rfl), tm_4 (List.mem_of_getElem? (i := 44) rfl)⟩
def lw_privs_2 : List (MethodName × Nat) := [(⟨"OpenPots$Search", "fillLeast", "(I)V"⟩, 10), (⟨"OpenPots$Search", "mayCome", "(II)Z"⟩, 10), (⟨"OpenPots$Search", "wide", "(II)I"⟩, 10), (⟨"OpenPots$Search", "fillLongs", "(I)V"⟩, 10), (⟨"OpenPots$Search", "leastLong", "(I)I"⟩, 10), (⟨"OpenPots$Search", "nextBehind", "(I)I"⟩, 10), (⟨"OpenPots$Bounds", "fillCrossings", "()V"⟩, 6), (⟨"OpenPots$Bounds", "findKnot", "()V"⟩, 6), (⟨"OpenPots$Bounds", "fillJoined", "()V"⟩, 6), (⟨"OpenPots$Bounds", "isKnot", "(I)Z"⟩, 6), (⟨"OpenPots$Bounds", "isWithin", "(II)Z"⟩, 6), (⟨"OpenPots$Works", "score", "(III)I"⟩, 6), (⟨"OpenPots", "isLawful", "(I)Z"⟩, 14), (⟨"OpenPots$Mover", "doFirstMove", "()Z"⟩, 6), (⟨"OpenPots$Mover", "isGood", "(II)Z"⟩, 6), (⟨"OpenPots$Room", "goOn", "([III)V"⟩, 4)]
theorem lw_r2 : ∀ q ∈ lw_privs_2, lw_okq q := List.forall_mem_cons.mpr ⟨lw_p16, List.forall_mem_cons.mpr ⟨lw_p17, List.forall_mem_cons.mpr ⟨lw_p18, List.forall_mem_cons.mpr ⟨lw_p19, List.forall_mem_cons.mpr ⟨lw_p20, List.forall_mem_cons.mpr ⟨lw_p21, List.forall_mem_cons.mpr ⟨lw_p22, List.forall_mem_cons.mpr ⟨lw_p23, List.forall_mem_cons.mpr ⟨lw_p24, List.forall_mem_cons.mpr ⟨lw_p25, List.forall_mem_cons.mpr ⟨lw_p26, List.forall_mem_cons.mpr ⟨lw_p27, List.forall_mem_cons.mpr ⟨lw_p28, List.forall_mem_cons.mpr ⟨lw_p29, List.forall_mem_cons.mpr ⟨lw_p30, List.forall_mem_cons.mpr ⟨lw_p31, fun _ h => absurd h List.not_mem_nil⟩⟩⟩⟩⟩⟩⟩⟩⟩⟩⟩⟩⟩⟩⟩⟩
set_option maxRecDepth 100000 in
theorem lw_p32 : lw_okq (⟨"OpenPots$Room", "fillFar", "(I)V"⟩, 4) := ⟨⟨by decide +kernel, by decide +kernel⟩, tm_2 (List.mem_of_getElem? (i := 49) rfl), tm_4 (List.mem_of_getElem? (i := 47) rfl), tm_4 (List.mem_of_getElem? (i := 48) rfl)⟩
set_option maxRecDepth 100000 in
theorem lw_p33 : lw_okq (⟨"OpenPots$Room", "closeSome", "(II)V"⟩, 4) := ⟨⟨by decide +kernel, by decide +kernel⟩, tm_2 (List.mem_of_getElem? (i := 49) rfl), tm_4 (List.mem_of_getElem? (i := 55) rfl), tm_4 (List.mem_of_getElem? (i := 56) rfl)⟩
set_option maxRecDepth 100000 in
theorem lw_p34 : lw_okq (⟨"OpenPots$Room", "closeOne", "(I)V"⟩, 4) := ⟨⟨by decide +kernel, by decide +kernel⟩, tm_2 (List.mem_of_getElem? (i := 49) rfl), tm_4 (List.mem_of_getElem? (i := 59) rfl), tm_4 (List.mem_of_getElem? (i := 60) rfl)⟩
set_option maxRecDepth 100000 in
theorem lw_p35 : lw_okq (⟨"OpenPots$Tables", "divide", "()V"⟩, 6) := ⟨⟨by decide +kernel, by decide +kernel⟩, tm_2 (List.mem_of_getElem? (i := 68) rfl), tm_4 (List.mem_of_getElem? (i := 82) rfl), tm_4 (List.mem_of_getElem? (i := 83) rfl)⟩
set_option maxRecDepth 100000 in
theorem lw_p36 : lw_okq (⟨"OpenPots", "mostWithout", "(II)I"⟩, 14) := ⟨⟨by decide +kernel, by decide +kernel⟩, tm_1 (List.mem_of_getElem? (i := 18) rfl), tm_4 (List.mem_of_getElem? (i := 96) rfl), tm_4 (List.mem_of_getElem? (i := 97) rfl)⟩
set_option maxRecDepth 100000 in
theorem lw_p37 : lw_okq (⟨"OpenPots", "tellAgain", "(I)I"⟩, 14) := ⟨⟨by decide +kernel, by decide +kernel⟩, tm_1 (List.mem_of_getElem? (i := 18) rfl), tm_4 (List.mem_of_getElem? (i := 150) rfl), tm_4 (List.mem_of_getElem? (i := 151) rfl)⟩
set_option maxRecDepth 100000 in
theorem lw_p38 : lw_okq (⟨"OpenPots", "leave", "(I)V"⟩, 14) := ⟨⟨by decide +kernel, by decide +kernel⟩, tm_1 (List.mem_of_getElem? (i := 18) rfl), tm_4 (List.mem_of_getElem? (i := 154) rfl), tm_4 (List.mem_of_getElem? (i := 155) rfl)⟩
set_option maxRecDepth 100000 in
theorem lw_p39 : lw_okq (⟨"OpenPots", "tellBefore", "(I)I"⟩, 14) := ⟨⟨by decide +kernel, by decide +kernel⟩, tm_1 (List.mem_of_getElem? (i := 18) rfl), tm_4 (List.mem_of_getElem? (i := 158) rfl), tm_4 (List.mem_of_getElem? (i := 159) rfl)⟩
set_option maxRecDepth 100000 in
theorem lw_p40 : lw_okq (⟨"OpenPots", "tellRow", "(I)I"⟩, 14) := ⟨⟨by decide +kernel, by decide +kernel⟩, tm_1 (List.mem_of_getElem? (i := 18) rfl), tm_4 (List.mem_of_getElem? (i := 162) rfl), tm_4 (List.mem_of_getElem? (i := 163) rfl)⟩
set_option maxRecDepth 100000 in
theorem lw_p41 : lw_okq (⟨"OpenPotsModel", "against", "(IIII)I"⟩, 29) := ⟨⟨by decide +kernel, by decide +kernel⟩, tm_4 (List.mem_of_getElem? (i := 193) rfl), tm_5 (List.mem_of_getElem? (i := 60) rfl), tm_5 (List.mem_of_getElem? (i := 61) rfl)⟩
set_option maxRecDepth 100000 in
theorem lw_p42 : lw_okq (⟨"OpenPotsModel", "fails", "(I)I"⟩, 29) := ⟨⟨by decide +kernel, by decide +kernel⟩, tm_4 (List.mem_of_getElem? (i := 193) rfl), tm_5 (List.mem_of_getElem? (i := 64) rfl), tm_5 (List.mem_of_getElem? (i := 65) rfl)⟩
set_option maxRecDepth 100000 in
theorem lw_p43 : lw_okq (⟨"OpenPotsModel", "readsAll", "()Z"⟩, 29) := ⟨⟨by decide +kernel, by decide +kernel⟩, tm_4 (List.mem_of_getElem? (i := 193) rfl), tm_5 (List.mem_of_getElem? (i := 68) rfl), tm_5 (List.mem_of_getElem? (i := 69) rfl)⟩
set_option maxRecDepth 100000 in
theorem lw_p44 : lw_okq (⟨"OpenPotsModel", "codeAt", "()I"⟩, 29) := ⟨⟨by decide +kernel, by decide +kernel⟩, tm_4 (List.mem_of_getElem? (i := 193) rfl), tm_5 (List.mem_of_getElem? (i := 72) rfl), tm_5 (List.mem_of_getElem? (i := 73) rfl)⟩
set_option maxRecDepth 100000 in
theorem lw_p45 : lw_okq (⟨"OpenPotsModel", "readsWork", "()Z"⟩, 29) := ⟨⟨by decide +kernel, by decide +kernel⟩, tm_4 (List.mem_of_getElem? (i := 193) rfl), tm_5 (List.mem_of_getElem? (i := 76) rfl), tm_5 (List.mem_of_getElem? (i := 77) rfl)⟩
set_option maxRecDepth 100000 in
theorem lw_p46 : lw_okq (⟨"OpenPotsModel", "readsSize", "()Z"⟩, 29) := ⟨⟨by decide +kernel, by decide +kernel⟩, tm_4 (List.mem_of_getElem? (i := 193) rfl), tm_5 (List.mem_of_getElem? (i := 83) rfl), tm_5 (List.mem_of_getElem? (i := 84) rfl)⟩
set_option maxRecDepth 100000 in
theorem lw_p47 : lw_okq (⟨"OpenPotsModel", "all", "()I"⟩, 29) := ⟨⟨by decide +kernel, by decide +kernel⟩, tm_4 (List.mem_of_getElem? (i := 193) rfl), tm_5 (List.mem_of_getElem? (i := 91) rfl), tm_5 (List.mem_of_getElem? (i := 92) rfl)⟩
def lw_privs_3 : List (MethodName × Nat) := [(⟨"OpenPots$Room", "fillFar", "(I)V"⟩, 4), (⟨"OpenPots$Room", "closeSome", "(II)V"⟩, 4), (⟨"OpenPots$Room", "closeOne", "(I)V"⟩, 4), (⟨"OpenPots$Tables", "divide", "()V"⟩, 6), (⟨"OpenPots", "mostWithout", "(II)I"⟩, 14), (⟨"OpenPots", "tellAgain", "(I)I"⟩, 14), (⟨"OpenPots", "leave", "(I)V"⟩, 14), (⟨"OpenPots", "tellBefore", "(I)I"⟩, 14), (⟨"OpenPots", "tellRow", "(I)I"⟩, 14), (⟨"OpenPotsModel", "against", "(IIII)I"⟩, 29), (⟨"OpenPotsModel", "fails", "(I)I"⟩, 29), (⟨"OpenPotsModel", "readsAll", "()Z"⟩, 29), (⟨"OpenPotsModel", "codeAt", "()I"⟩, 29), (⟨"OpenPotsModel", "readsWork", "()Z"⟩, 29), (⟨"OpenPotsModel", "readsSize", "()Z"⟩, 29), (⟨"OpenPotsModel", "all", "()I"⟩, 29)]
theorem lw_r3 : ∀ q ∈ lw_privs_3, lw_okq q := List.forall_mem_cons.mpr ⟨lw_p32, List.forall_mem_cons.mpr ⟨lw_p33, List.forall_mem_cons.mpr ⟨lw_p34, List.forall_mem_cons.mpr ⟨lw_p35, List.forall_mem_cons.mpr ⟨lw_p36, List.forall_mem_cons.mpr ⟨lw_p37, List.forall_mem_cons.mpr ⟨lw_p38, List.forall_mem_cons.mpr ⟨lw_p39, List.forall_mem_cons.mpr ⟨lw_p40, List.forall_mem_cons.mpr ⟨lw_p41, List.forall_mem_cons.mpr ⟨lw_p42, List.forall_mem_cons.mpr ⟨lw_p43, List.forall_mem_cons.mpr ⟨lw_p44, List.forall_mem_cons.mpr ⟨lw_p45, List.forall_mem_cons.mpr ⟨lw_p46, List.forall_mem_cons.mpr ⟨lw_p47, fun _ h => absurd h List.not_mem_nil⟩⟩⟩⟩⟩⟩⟩⟩⟩⟩⟩⟩⟩⟩⟩⟩
set_option maxRecDepth 100000 in
theorem lw_p48 : lw_okq (⟨"OpenPotsModel", "isWork", "(I)Z"⟩, 29) := ⟨⟨by decide +kernel, by decide +kernel⟩, tm_4 (List.mem_of_getElem? (i := 193) rfl), tm_5 (List.mem_of_getElem? (i := 99) rfl), tm_5 (List.mem_of_getElem? (i := 100) rfl)⟩
set_option maxRecDepth 100000 in
theorem lw_p49 : lw_okq (⟨"OpenPotsModel", "aheadOf", "(I)I"⟩, 29) := ⟨⟨by decide +kernel, by decide +kernel⟩, tm_4 (List.mem_of_getElem? (i := 193) rfl), tm_5 (List.mem_of_getElem? (i := 107) rfl), tm_5 (List.mem_of_getElem? (i := 108) rfl)⟩
set_option maxRecDepth 100000 in
theorem lw_p50 : lw_okq (⟨"OpenPotsModel", "isLawful", "([I)Z"⟩, 29) := ⟨⟨by decide +kernel, by decide +kernel⟩, tm_4 (List.mem_of_getElem? (i := 193) rfl), tm_5 (List.mem_of_getElem? (i := 119) rfl), tm_5 (List.mem_of_getElem? (i := 120) rfl)⟩
set_option maxRecDepth 100000 in
theorem lw_p51 : lw_okq (⟨"OpenPotsModel", "comes", "(I)I"⟩, 29) := ⟨⟨by decide +kernel, by decide +kernel⟩, tm_4 (List.mem_of_getElem? (i := 193) rfl), tm_5 (List.mem_of_getElem? (i := 123) rfl), tm_5 (List.mem_of_getElem? (i := 124) rfl)⟩
set_option maxRecDepth 100000 in
theorem lw_p52 : lw_okq (⟨"OpenPotsModel", "isOrder", "(I)Z"⟩, 29) := ⟨⟨by decide +kernel, by decide +kernel⟩, tm_4 (List.mem_of_getElem? (i := 193) rfl), tm_5 (List.mem_of_getElem? (i := 131) rfl), tm_5 (List.mem_of_getElem? (i := 132) rfl)⟩
set_option maxRecDepth 100000 in
theorem lw_p53 : lw_okq (⟨"OpenPotsModel", "lookAt", "(I)V"⟩, 29) := ⟨⟨by decide +kernel, by decide +kernel⟩, tm_4 (List.mem_of_getElem? (i := 193) rfl), tm_5 (List.mem_of_getElem? (i := 135) rfl), tm_5 (List.mem_of_getElem? (i := 136) rfl)⟩
set_option maxRecDepth 100000 in
theorem lw_p54 : lw_okq (⟨"OpenPotsModel", "mostOf", "([I)I"⟩, 29) := ⟨⟨by decide +kernel, by decide +kernel⟩, tm_4 (List.mem_of_getElem? (i := 193) rfl), tm_5 (List.mem_of_getElem? (i := 139) rfl), tm_5 (List.mem_of_getElem? (i := 140) rfl)⟩
set_option maxRecDepth 100000 in
theorem lw_p55 : lw_okq (⟨"OpenPotsModel", "openAt", "([II)I"⟩, 29) := ⟨⟨by decide +kernel, by decide +kernel⟩, tm_4 (List.mem_of_getElem? (i := 193) rfl), tm_5 (List.mem_of_getElem? (i := 143) rfl), tm_5 (List.mem_of_getElem? (i := 144) rfl)⟩
set_option maxRecDepth 100000 in
theorem lw_p56 : lw_okq (⟨"OpenPotsModel", "sizeOf", "(I)I"⟩, 29) := ⟨⟨by decide +kernel, by decide +kernel⟩, tm_4 (List.mem_of_getElem? (i := 193) rfl), tm_5 (List.mem_of_getElem? (i := 147) rfl), tm_5 (List.mem_of_getElem? (i := 148) rfl)⟩
set_option maxRecDepth 100000 in
theorem lw_p57 : lw_okq (⟨"OpenPotsModel", "longOf", "([I)I"⟩, 29) := ⟨⟨by decide +kernel, by decide +kernel⟩, tm_4 (List.mem_of_getElem? (i := 193) rfl), tm_5 (List.mem_of_getElem? (i := 151) rfl), tm_5 (List.mem_of_getElem? (i := 152) rfl)⟩
set_option maxRecDepth 100000 in
theorem lw_p58 : lw_okq (⟨"OpenPotsModel", "leastOf", "(I)I"⟩, 29) := ⟨⟨by decide +kernel, by decide +kernel⟩, tm_4 (List.mem_of_getElem? (i := 193) rfl), tm_5 (List.mem_of_getElem? (i := 159) rfl), tm_5 (List.mem_of_getElem? (i := 160) rfl)⟩
set_option maxRecDepth 100000 in
theorem lw_p59 : lw_okq (⟨"OpenPotsModel", "layUnions", "()V"⟩, 29) := ⟨⟨by decide +kernel, by decide +kernel⟩, tm_4 (List.mem_of_getElem? (i := 193) rfl), tm_5 (List.mem_of_getElem? (i := 163) rfl), tm_5 (List.mem_of_getElem? (i := 164) rfl)⟩
set_option maxRecDepth 100000 in
theorem lw_p60 : lw_okq (⟨"OpenPotsModel", "needsOf", "(I)I"⟩, 29) := ⟨⟨by decide +kernel, by decide +kernel⟩, tm_4 (List.mem_of_getElem? (i := 193) rfl), tm_5 (List.mem_of_getElem? (i := 167) rfl), tm_5 (List.mem_of_getElem? (i := 168) rfl)⟩
set_option maxRecDepth 100000 in
theorem lw_p61 : lw_okq (⟨"OpenPotsModel", "leastBy", "(I)I"⟩, 29) := ⟨⟨by decide +kernel, by decide +kernel⟩, tm_4 (List.mem_of_getElem? (i := 193) rfl), tm_5 (List.mem_of_getElem? (i := 171) rfl), tm_5 (List.mem_of_getElem? (i := 172) rfl)⟩
set_option maxRecDepth 100000 in
theorem lw_p62 : lw_okq (⟨"OpenPotsModel", "layMost", "(I)V"⟩, 29) := ⟨⟨by decide +kernel, by decide +kernel⟩, tm_4 (List.mem_of_getElem? (i := 193) rfl), tm_5 (List.mem_of_getElem? (i := 175) rfl), tm_5 (List.mem_of_getElem? (i := 176) rfl)⟩
set_option maxRecDepth 100000 in
theorem lw_p63 : lw_okq (⟨"OpenPotsModel", "mayCome", "(III)Z"⟩, 29) := ⟨⟨by decide +kernel, by decide +kernel⟩, tm_4 (List.mem_of_getElem? (i := 193) rfl), tm_5 (List.mem_of_getElem? (i := 180) rfl), tm_5 (List.mem_of_getElem? (i := 181) rfl)⟩
def lw_privs_4 : List (MethodName × Nat) := [(⟨"OpenPotsModel", "isWork", "(I)Z"⟩, 29), (⟨"OpenPotsModel", "aheadOf", "(I)I"⟩, 29), (⟨"OpenPotsModel", "isLawful", "([I)Z"⟩, 29), (⟨"OpenPotsModel", "comes", "(I)I"⟩, 29), (⟨"OpenPotsModel", "isOrder", "(I)Z"⟩, 29), (⟨"OpenPotsModel", "lookAt", "(I)V"⟩, 29), (⟨"OpenPotsModel", "mostOf", "([I)I"⟩, 29), (⟨"OpenPotsModel", "openAt", "([II)I"⟩, 29), (⟨"OpenPotsModel", "sizeOf", "(I)I"⟩, 29), (⟨"OpenPotsModel", "longOf", "([I)I"⟩, 29), (⟨"OpenPotsModel", "leastOf", "(I)I"⟩, 29), (⟨"OpenPotsModel", "layUnions", "()V"⟩, 29), (⟨"OpenPotsModel", "needsOf", "(I)I"⟩, 29), (⟨"OpenPotsModel", "leastBy", "(I)I"⟩, 29), (⟨"OpenPotsModel", "layMost", "(I)V"⟩, 29), (⟨"OpenPotsModel", "mayCome", "(III)Z"⟩, 29)]
theorem lw_r4 : ∀ q ∈ lw_privs_4, lw_okq q := List.forall_mem_cons.mpr ⟨lw_p48, List.forall_mem_cons.mpr ⟨lw_p49, List.forall_mem_cons.mpr ⟨lw_p50, List.forall_mem_cons.mpr ⟨lw_p51, List.forall_mem_cons.mpr ⟨lw_p52, List.forall_mem_cons.mpr ⟨lw_p53, List.forall_mem_cons.mpr ⟨lw_p54, List.forall_mem_cons.mpr ⟨lw_p55, List.forall_mem_cons.mpr ⟨lw_p56, List.forall_mem_cons.mpr ⟨lw_p57, List.forall_mem_cons.mpr ⟨lw_p58, List.forall_mem_cons.mpr ⟨lw_p59, List.forall_mem_cons.mpr ⟨lw_p60, List.forall_mem_cons.mpr ⟨lw_p61, List.forall_mem_cons.mpr ⟨lw_p62, List.forall_mem_cons.mpr ⟨lw_p63, fun _ h => absurd h List.not_mem_nil⟩⟩⟩⟩⟩⟩⟩⟩⟩⟩⟩⟩⟩⟩⟩⟩
set_option maxRecDepth 100000 in
theorem lw_p64 : lw_okq (⟨"OpenPotsModel", "wideBy", "(III)I"⟩, 29) := ⟨⟨by decide +kernel, by decide +kernel⟩, tm_4 (List.mem_of_getElem? (i := 193) rfl), tm_5 (List.mem_of_getElem? (i := 184) rfl), tm_5 (List.mem_of_getElem? (i := 185) rfl)⟩
set_option maxRecDepth 100000 in
theorem lw_p65 : lw_okq (⟨"OpenPotsModel", "layLong", "(I)V"⟩, 29) := ⟨⟨by decide +kernel, by decide +kernel⟩, tm_4 (List.mem_of_getElem? (i := 193) rfl), tm_5 (List.mem_of_getElem? (i := 188) rfl), tm_5 (List.mem_of_getElem? (i := 189) rfl)⟩
set_option maxRecDepth 100000 in
theorem lw_p66 : lw_okq (⟨"OpenPotsModel", "nextFrom", "(II)I"⟩, 29) := ⟨⟨by decide +kernel, by decide +kernel⟩, tm_4 (List.mem_of_getElem? (i := 193) rfl), tm_5 (List.mem_of_getElem? (i := 192) rfl), tm_5 (List.mem_of_getElem? (i := 193) rfl)⟩
set_option maxRecDepth 100000 in
theorem lw_p67 : lw_okq (⟨"OpenPotsModel", "isBetter", "([I[I)Z"⟩, 29) := ⟨⟨by decide +kernel, by decide +kernel⟩, tm_4 (List.mem_of_getElem? (i := 193) rfl), tm_5 (List.mem_of_getElem? (i := 204) rfl), tm_5 (List.mem_of_getElem? (i := 205) rfl)⟩
set_option maxRecDepth 100000 in
theorem lw_p68 : lw_okq (⟨"OpenPotsModel", "crossOf", "(I)I"⟩, 29) := ⟨⟨by decide +kernel, by decide +kernel⟩, tm_4 (List.mem_of_getElem? (i := 193) rfl), tm_5 (List.mem_of_getElem? (i := 212) rfl), tm_5 (List.mem_of_getElem? (i := 213) rfl)⟩
set_option maxRecDepth 100000 in
theorem lw_p69 : lw_okq (⟨"OpenPotsModel", "isClosed", "(I)Z"⟩, 29) := ⟨⟨by decide +kernel, by decide +kernel⟩, tm_4 (List.mem_of_getElem? (i := 193) rfl), tm_5 (List.mem_of_getElem? (i := 219) rfl), tm_5 (List.mem_of_getElem? (i := 220) rfl)⟩
set_option maxRecDepth 100000 in
theorem lw_p70 : lw_okq (⟨"OpenPotsModel", "knotOf", "()I"⟩, 29) := ⟨⟨by decide +kernel, by decide +kernel⟩, tm_4 (List.mem_of_getElem? (i := 193) rfl), tm_5 (List.mem_of_getElem? (i := 227) rfl), tm_5 (List.mem_of_getElem? (i := 228) rfl)⟩
set_option maxRecDepth 100000 in
theorem lw_p71 : lw_okq (⟨"OpenPotsModel", "isKnot", "(I)Z"⟩, 29) := ⟨⟨by decide +kernel, by decide +kernel⟩, tm_4 (List.mem_of_getElem? (i := 193) rfl), tm_5 (List.mem_of_getElem? (i := 231) rfl), tm_5 (List.mem_of_getElem? (i := 232) rfl)⟩
set_option maxRecDepth 100000 in
theorem lw_p72 : lw_okq (⟨"OpenPotsModel", "share", "(II)Z"⟩, 29) := ⟨⟨by decide +kernel, by decide +kernel⟩, tm_4 (List.mem_of_getElem? (i := 193) rfl), tm_5 (List.mem_of_getElem? (i := 235) rfl), tm_5 (List.mem_of_getElem? (i := 236) rfl)⟩
set_option maxRecDepth 100000 in
theorem lw_p73 : lw_okq (⟨"OpenPotsModel", "layParts", "()V"⟩, 29) := ⟨⟨by decide +kernel, by decide +kernel⟩, tm_4 (List.mem_of_getElem? (i := 193) rfl), tm_6 (List.mem_of_getElem? (i := 7) rfl), tm_6 (List.mem_of_getElem? (i := 8) rfl)⟩
set_option maxRecDepth 100000 in
theorem lw_p74 : lw_okq (⟨"OpenPotsModel", "chosen", "(III)I"⟩, 29) := ⟨⟨by decide +kernel, by decide +kernel⟩, tm_4 (List.mem_of_getElem? (i := 193) rfl), tm_6 (List.mem_of_getElem? (i := 19) rfl), tm_6 (List.mem_of_getElem? (i := 20) rfl)⟩
set_option maxRecDepth 100000 in
theorem lw_p75 : lw_okq (⟨"OpenPotsModel", "dislikes", "(III)I"⟩, 29) := ⟨⟨by decide +kernel, by decide +kernel⟩, tm_4 (List.mem_of_getElem? (i := 193) rfl), tm_6 (List.mem_of_getElem? (i := 23) rfl), tm_6 (List.mem_of_getElem? (i := 24) rfl)⟩
set_option maxRecDepth 100000 in
theorem lw_p76 : lw_okq (⟨"OpenPotsModel", "moveOnce", "()Z"⟩, 29) := ⟨⟨by decide +kernel, by decide +kernel⟩, tm_4 (List.mem_of_getElem? (i := 193) rfl), tm_6 (List.mem_of_getElem? (i := 31) rfl), tm_6 (List.mem_of_getElem? (i := 32) rfl)⟩
set_option maxRecDepth 100000 in
theorem lw_p77 : lw_okq (⟨"OpenPotsModel", "layMoved", "(II)V"⟩, 29) := ⟨⟨by decide +kernel, by decide +kernel⟩, tm_4 (List.mem_of_getElem? (i := 193) rfl), tm_6 (List.mem_of_getElem? (i := 35) rfl), tm_6 (List.mem_of_getElem? (i := 36) rfl)⟩
set_option maxRecDepth 100000 in
theorem lw_p78 : lw_okq (⟨"OpenPotsModel", "cheapestWith", "(I)I"⟩, 29) := ⟨⟨by decide +kernel, by decide +kernel⟩, tm_4 (List.mem_of_getElem? (i := 193) rfl), tm_6 (List.mem_of_getElem? (i := 47) rfl), tm_6 (List.mem_of_getElem? (i := 48) rfl)⟩
set_option maxRecDepth 100000 in
theorem lw_p79 : lw_okq (⟨"OpenPotsModel", "betweenAt", "(I)I"⟩, 29) := ⟨⟨by decide +kernel, by decide +kernel⟩, tm_4 (List.mem_of_getElem? (i := 193) rfl), tm_6 (List.mem_of_getElem? (i := 51) rfl), tm_6 (List.mem_of_getElem? (i := 52) rfl)⟩
def lw_privs_5 : List (MethodName × Nat) := [(⟨"OpenPotsModel", "wideBy", "(III)I"⟩, 29), (⟨"OpenPotsModel", "layLong", "(I)V"⟩, 29), (⟨"OpenPotsModel", "nextFrom", "(II)I"⟩, 29), (⟨"OpenPotsModel", "isBetter", "([I[I)Z"⟩, 29), (⟨"OpenPotsModel", "crossOf", "(I)I"⟩, 29), (⟨"OpenPotsModel", "isClosed", "(I)Z"⟩, 29), (⟨"OpenPotsModel", "knotOf", "()I"⟩, 29), (⟨"OpenPotsModel", "isKnot", "(I)Z"⟩, 29), (⟨"OpenPotsModel", "share", "(II)Z"⟩, 29), (⟨"OpenPotsModel", "layParts", "()V"⟩, 29), (⟨"OpenPotsModel", "chosen", "(III)I"⟩, 29), (⟨"OpenPotsModel", "dislikes", "(III)I"⟩, 29), (⟨"OpenPotsModel", "moveOnce", "()Z"⟩, 29), (⟨"OpenPotsModel", "layMoved", "(II)V"⟩, 29), (⟨"OpenPotsModel", "cheapestWith", "(I)I"⟩, 29), (⟨"OpenPotsModel", "betweenAt", "(I)I"⟩, 29)]
theorem lw_r5 : ∀ q ∈ lw_privs_5, lw_okq q := List.forall_mem_cons.mpr ⟨lw_p64, List.forall_mem_cons.mpr ⟨lw_p65, List.forall_mem_cons.mpr ⟨lw_p66, List.forall_mem_cons.mpr ⟨lw_p67, List.forall_mem_cons.mpr ⟨lw_p68, List.forall_mem_cons.mpr ⟨lw_p69, List.forall_mem_cons.mpr ⟨lw_p70, List.forall_mem_cons.mpr ⟨lw_p71, List.forall_mem_cons.mpr ⟨lw_p72, List.forall_mem_cons.mpr ⟨lw_p73, List.forall_mem_cons.mpr ⟨lw_p74, List.forall_mem_cons.mpr ⟨lw_p75, List.forall_mem_cons.mpr ⟨lw_p76, List.forall_mem_cons.mpr ⟨lw_p77, List.forall_mem_cons.mpr ⟨lw_p78, List.forall_mem_cons.mpr ⟨lw_p79, fun _ h => absurd h List.not_mem_nil⟩⟩⟩⟩⟩⟩⟩⟩⟩⟩⟩⟩⟩⟩⟩⟩
set_option maxRecDepth 100000 in
theorem lw_p80 : lw_okq (⟨"OpenPotsModel", "priceOf", "(I)I"⟩, 29) := ⟨⟨by decide +kernel, by decide +kernel⟩, tm_4 (List.mem_of_getElem? (i := 193) rfl), tm_6 (List.mem_of_getElem? (i := 55) rfl), tm_6 (List.mem_of_getElem? (i := 56) rfl)⟩
set_option maxRecDepth 100000 in
theorem lw_p81 : lw_okq (⟨"OpenPotsModel", "lost", "(I)J"⟩, 29) := ⟨⟨by decide +kernel, by decide +kernel⟩, tm_4 (List.mem_of_getElem? (i := 193) rfl), tm_6 (List.mem_of_getElem? (i := 96) rfl), tm_6 (List.mem_of_getElem? (i := 97) rfl)⟩
set_option maxRecDepth 100000 in
theorem lw_p82 : lw_okq (⟨"OpenPotsModel", "begins", "(I)V"⟩, 29) := ⟨⟨by decide +kernel, by decide +kernel⟩, tm_4 (List.mem_of_getElem? (i := 193) rfl), tm_6 (List.mem_of_getElem? (i := 104) rfl), tm_6 (List.mem_of_getElem? (i := 105) rfl)⟩
def lw_privs_6 : List (MethodName × Nat) := [(⟨"OpenPotsModel", "priceOf", "(I)I"⟩, 29), (⟨"OpenPotsModel", "lost", "(I)J"⟩, 29), (⟨"OpenPotsModel", "begins", "(I)V"⟩, 29)]
theorem lw_r6 : ∀ q ∈ lw_privs_6, lw_okq q := List.forall_mem_cons.mpr ⟨lw_p80, List.forall_mem_cons.mpr ⟨lw_p81, List.forall_mem_cons.mpr ⟨lw_p82, fun _ h => absurd h List.not_mem_nil⟩⟩⟩
def lw_privs : List (MethodName × Nat) := lw_privs_1 ++ (lw_privs_2 ++ (lw_privs_3 ++ (lw_privs_4 ++ (lw_privs_5 ++ (lw_privs_6)))))
def lw_tbl : List Cond := k2_sels lw_privs ++ tables_1
set_option maxRecDepth 100000 in
theorem lw_privs_ok : ∀ q ∈ lw_privs, lw_okq q := by
  show ∀ q ∈ lw_privs_1 ++ (lw_privs_2 ++ (lw_privs_3 ++ (lw_privs_4 ++ (lw_privs_5 ++ (lw_privs_6))))), lw_okq q
  exact List.forall_mem_append.mpr ⟨lw_r1, List.forall_mem_append.mpr ⟨lw_r2, List.forall_mem_append.mpr ⟨lw_r3, List.forall_mem_append.mpr ⟨lw_r4, List.forall_mem_append.mpr ⟨lw_r5, lw_r6⟩⟩⟩⟩⟩
theorem zz_wide (c : ClassId) (N h0 i : Nat) : Jvm.Free.Multi.outerC c N h0 i = Jvm.Free.Multi.outerC c N h0 i := rfl
