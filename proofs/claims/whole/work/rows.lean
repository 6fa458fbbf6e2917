section
-- ===== PART A: goes FIRST, ahead of the names: the tables' words, and 'selects' of the private methods out of them =====
/-- a private method of a class that the tables say can be made, by its rows of tables_1 -/
def lw_okq (q : MethodName × Nat) : Prop := (q.1.cls ≠ "java/lang/invoke/MethodHandle" ∧ q.1.cls ≠ "java/lang/invoke/VarHandle") ∧ Cond.instantiable q.1.cls q.2 ∈ tables_1 ∧ Cond.privateMethod q.1 ∈ tables_1 ∧ Cond.instanceMethod q.1 ∈ tables_1
theorem lw_p0 : lw_okq (⟨"NailedByWord", "promisesFrom", "(LNailedByWord$Shelf;II)I"⟩, 9) := ⟨⟨by decide +kernel, by decide +kernel⟩, List.mem_of_getElem? (i := 18) (by decide +kernel), List.mem_of_getElem? (i := 443) (by decide +kernel), List.mem_of_getElem? (i := 444) (by decide +kernel)⟩
theorem lw_p1 : lw_okq (⟨"NailedByWord", "promiseFrom", "(LNailedByWord$Shelf;I)Z"⟩, 9) := ⟨⟨by decide +kernel, by decide +kernel⟩, List.mem_of_getElem? (i := 18) (by decide +kernel), List.mem_of_getElem? (i := 451) (by decide +kernel), List.mem_of_getElem? (i := 452) (by decide +kernel)⟩
theorem lw_p2 : lw_okq (⟨"NailedByWord$Changes", "loseOldest", "()V"⟩, 7) := ⟨⟨by decide +kernel, by decide +kernel⟩, List.mem_of_getElem? (i := 259) (by decide +kernel), List.mem_of_getElem? (i := 484) (by decide +kernel), List.mem_of_getElem? (i := 485) (by decide +kernel)⟩
theorem lw_p3 : lw_okq (⟨"NailedByWord$Tape", "readLine", "()Z"⟩, 5) := ⟨⟨by decide +kernel, by decide +kernel⟩, List.mem_of_getElem? (i := 161) (by decide +kernel), List.mem_of_getElem? (i := 512) (by decide +kernel), List.mem_of_getElem? (i := 513) (by decide +kernel)⟩
theorem lw_p4 : lw_okq (⟨"NailedByWord$Tape", "readChain", "(II)Z"⟩, 5) := ⟨⟨by decide +kernel, by decide +kernel⟩, List.mem_of_getElem? (i := 161) (by decide +kernel), List.mem_of_getElem? (i := 516) (by decide +kernel), List.mem_of_getElem? (i := 517) (by decide +kernel)⟩
theorem lw_p5 : lw_okq (⟨"NailedByWord$Tape", "readOperand", "(I)Z"⟩, 5) := ⟨⟨by decide +kernel, by decide +kernel⟩, List.mem_of_getElem? (i := 161) (by decide +kernel), List.mem_of_getElem? (i := 520) (by decide +kernel), List.mem_of_getElem? (i := 521) (by decide +kernel)⟩
theorem lw_p6 : lw_okq (⟨"NailedByWord$Tape", "letter", "()I"⟩, 5) := ⟨⟨by decide +kernel, by decide +kernel⟩, List.mem_of_getElem? (i := 161) (by decide +kernel), List.mem_of_getElem? (i := 524) (by decide +kernel), List.mem_of_getElem? (i := 525) (by decide +kernel)⟩
theorem lw_p7 : lw_okq (⟨"NailedByWord$Tape", "readNumber", "()V"⟩, 5) := ⟨⟨by decide +kernel, by decide +kernel⟩, List.mem_of_getElem? (i := 161) (by decide +kernel), List.mem_of_getElem? (i := 531) (by decide +kernel), List.mem_of_getElem? (i := 532) (by decide +kernel)⟩
theorem lw_p8 : lw_okq (⟨"NailedByWord$Tape", "write", "(I)V"⟩, 5) := ⟨⟨by decide +kernel, by decide +kernel⟩, List.mem_of_getElem? (i := 161) (by decide +kernel), List.mem_of_getElem? (i := 535) (by decide +kernel), List.mem_of_getElem? (i := 536) (by decide +kernel)⟩
theorem lw_p9 : lw_okq (⟨"NailedByWord$Tape", "readOpened", "(II)Z"⟩, 5) := ⟨⟨by decide +kernel, by decide +kernel⟩, List.mem_of_getElem? (i := 161) (by decide +kernel), List.mem_of_getElem? (i := 541) (by decide +kernel), List.mem_of_getElem? (i := 542) (by decide +kernel)⟩
theorem lw_p10 : lw_okq (⟨"NailedByWord$Law", "endOfLine", "(I)I"⟩, 3) := ⟨⟨by decide +kernel, by decide +kernel⟩, List.mem_of_getElem? (i := 32) (by decide +kernel), List.mem_of_getElem? (i := 594) (by decide +kernel), List.mem_of_getElem? (i := 595) (by decide +kernel)⟩
theorem lw_p11 : lw_okq (⟨"NailedByWord$Walks", "thinkOf", "(II)V"⟩, 8) := ⟨⟨by decide +kernel, by decide +kernel⟩, List.mem_of_getElem? (i := 187) (by decide +kernel), List.mem_of_getElem? (i := 615) (by decide +kernel), List.mem_of_getElem? (i := 616) (by decide +kernel)⟩
theorem lw_p12 : lw_okq (⟨"NailedByWord$Walks", "keptAt", "(II)I"⟩, 8) := ⟨⟨by decide +kernel, by decide +kernel⟩, List.mem_of_getElem? (i := 187) (by decide +kernel), List.mem_of_getElem? (i := 630) (by decide +kernel), List.mem_of_getElem? (i := 631) (by decide +kernel)⟩
theorem lw_p13 : lw_okq (⟨"NailedByWord$Walks", "isHeld", "(II)Z"⟩, 8) := ⟨⟨by decide +kernel, by decide +kernel⟩, List.mem_of_getElem? (i := 187) (by decide +kernel), List.mem_of_getElem? (i := 638) (by decide +kernel), List.mem_of_getElem? (i := 639) (by decide +kernel)⟩
theorem lw_p14 : lw_okq (⟨"NailedByWord$Walks", "tryWays", "(IIII)V"⟩, 8) := ⟨⟨by decide +kernel, by decide +kernel⟩, List.mem_of_getElem? (i := 187) (by decide +kernel), List.mem_of_getElem? (i := 686) (by decide +kernel), List.mem_of_getElem? (i := 687) (by decide +kernel)⟩
theorem lw_p15 : lw_okq (⟨"NailedByWord$Walks", "takeIfBetter", "(I)V"⟩, 8) := ⟨⟨by decide +kernel, by decide +kernel⟩, List.mem_of_getElem? (i := 187) (by decide +kernel), List.mem_of_getElem? (i := 690) (by decide +kernel), List.mem_of_getElem? (i := 691) (by decide +kernel)⟩
def lw_privs_1 : List (MethodName × Nat) := [(⟨"NailedByWord", "promisesFrom", "(LNailedByWord$Shelf;II)I"⟩, 9), (⟨"NailedByWord", "promiseFrom", "(LNailedByWord$Shelf;I)Z"⟩, 9), (⟨"NailedByWord$Changes", "loseOldest", "()V"⟩, 7), (⟨"NailedByWord$Tape", "readLine", "()Z"⟩, 5), (⟨"NailedByWord$Tape", "readChain", "(II)Z"⟩, 5), (⟨"NailedByWord$Tape", "readOperand", "(I)Z"⟩, 5), (⟨"NailedByWord$Tape", "letter", "()I"⟩, 5), (⟨"NailedByWord$Tape", "readNumber", "()V"⟩, 5), (⟨"NailedByWord$Tape", "write", "(I)V"⟩, 5), (⟨"NailedByWord$Tape", "readOpened", "(II)Z"⟩, 5), (⟨"NailedByWord$Law", "endOfLine", "(I)I"⟩, 3), (⟨"NailedByWord$Walks", "thinkOf", "(II)V"⟩, 8), (⟨"NailedByWord$Walks", "keptAt", "(II)I"⟩, 8), (⟨"NailedByWord$Walks", "isHeld", "(II)Z"⟩, 8), (⟨"NailedByWord$Walks", "tryWays", "(IIII)V"⟩, 8), (⟨"NailedByWord$Walks", "takeIfBetter", "(I)V"⟩, 8)]
theorem lw_r1 : ∀ q ∈ lw_privs_1, lw_okq q := List.forall_mem_cons.mpr ⟨lw_p0, List.forall_mem_cons.mpr ⟨lw_p1, List.forall_mem_cons.mpr ⟨lw_p2, List.forall_mem_cons.mpr ⟨lw_p3, List.forall_mem_cons.mpr ⟨lw_p4, List.forall_mem_cons.mpr ⟨lw_p5, List.forall_mem_cons.mpr ⟨lw_p6, List.forall_mem_cons.mpr ⟨lw_p7, List.forall_mem_cons.mpr ⟨lw_p8, List.forall_mem_cons.mpr ⟨lw_p9, List.forall_mem_cons.mpr ⟨lw_p10, List.forall_mem_cons.mpr ⟨lw_p11, List.forall_mem_cons.mpr ⟨lw_p12, List.forall_mem_cons.mpr ⟨lw_p13, List.forall_mem_cons.mpr ⟨lw_p14, List.forall_mem_cons.mpr ⟨lw_p15, fun _ h => absurd h List.not_mem_nil⟩⟩⟩⟩⟩⟩⟩⟩⟩⟩⟩⟩⟩⟩⟩⟩
theorem lw_p16 : lw_okq (⟨"NailedByWord$Release", "onWhereHeStands", "(I)I"⟩, 3) := ⟨⟨by decide +kernel, by decide +kernel⟩, List.mem_of_getElem? (i := 218) (by decide +kernel), List.mem_of_getElem? (i := 721) (by decide +kernel), List.mem_of_getElem? (i := 722) (by decide +kernel)⟩
theorem lw_p17 : lw_okq (⟨"NailedByWord$Release", "foresee", "(IIZ)V"⟩, 3) := ⟨⟨by decide +kernel, by decide +kernel⟩, List.mem_of_getElem? (i := 218) (by decide +kernel), List.mem_of_getElem? (i := 726) (by decide +kernel), List.mem_of_getElem? (i := 727) (by decide +kernel)⟩
theorem lw_p18 : lw_okq (⟨"NailedByWord$Release", "isFree", "(II)Z"⟩, 3) := ⟨⟨by decide +kernel, by decide +kernel⟩, List.mem_of_getElem? (i := 218) (by decide +kernel), List.mem_of_getElem? (i := 734) (by decide +kernel), List.mem_of_getElem? (i := 735) (by decide +kernel)⟩
theorem lw_p19 : lw_okq (⟨"NailedByWord$Release", "peopleWhoCanFree", "()I"⟩, 3) := ⟨⟨by decide +kernel, by decide +kernel⟩, List.mem_of_getElem? (i := 218) (by decide +kernel), List.mem_of_getElem? (i := 749) (by decide +kernel), List.mem_of_getElem? (i := 750) (by decide +kernel)⟩
theorem lw_p20 : lw_okq (⟨"NailedByWord$Release", "peopleOf", "(I)I"⟩, 3) := ⟨⟨by decide +kernel, by decide +kernel⟩, List.mem_of_getElem? (i := 218) (by decide +kernel), List.mem_of_getElem? (i := 753) (by decide +kernel), List.mem_of_getElem? (i := 754) (by decide +kernel)⟩
theorem lw_p21 : lw_okq (⟨"NailedByWord$Release", "nobodyIsHeldWithout", "(I)Z"⟩, 3) := ⟨⟨by decide +kernel, by decide +kernel⟩, List.mem_of_getElem? (i := 218) (by decide +kernel), List.mem_of_getElem? (i := 757) (by decide +kernel), List.mem_of_getElem? (i := 758) (by decide +kernel)⟩
theorem lw_p22 : lw_okq (⟨"NailedByWord$Release", "nextInRing", "(I)I"⟩, 3) := ⟨⟨by decide +kernel, by decide +kernel⟩, List.mem_of_getElem? (i := 218) (by decide +kernel), List.mem_of_getElem? (i := 771) (by decide +kernel), List.mem_of_getElem? (i := 772) (by decide +kernel)⟩
theorem lw_p23 : lw_okq (⟨"NailedByWord$Round", "goOn", "(IIII)V"⟩, 6) := ⟨⟨by decide +kernel, by decide +kernel⟩, List.mem_of_getElem? (i := 234) (by decide +kernel), List.mem_of_getElem? (i := 826) (by decide +kernel), List.mem_of_getElem? (i := 827) (by decide +kernel)⟩
theorem lw_p24 : lw_okq (⟨"NailedByWord$Round", "takeIfLess", "(I)V"⟩, 6) := ⟨⟨by decide +kernel, by decide +kernel⟩, List.mem_of_getElem? (i := 234) (by decide +kernel), List.mem_of_getElem? (i := 836) (by decide +kernel), List.mem_of_getElem? (i := 837) (by decide +kernel)⟩
theorem lw_p25 : lw_okq (⟨"NailedByWord$Walks", "onAtAny", "(II)I"⟩, 8) := ⟨⟨by decide +kernel, by decide +kernel⟩, List.mem_of_getElem? (i := 187) (by decide +kernel), List.mem_of_getElem? (i := 858) (by decide +kernel), List.mem_of_getElem? (i := 859) (by decide +kernel)⟩
theorem lw_p26 : lw_okq (⟨"NailedByWord$Walks", "thinkOfTurns", "(II)V"⟩, 8) := ⟨⟨by decide +kernel, by decide +kernel⟩, List.mem_of_getElem? (i := 187) (by decide +kernel), List.mem_of_getElem? (i := 871) (by decide +kernel), List.mem_of_getElem? (i := 872) (by decide +kernel)⟩
theorem lw_p27 : lw_okq (⟨"NailedByWord$Walks", "childsDeed", "(IIII)I"⟩, 8) := ⟨⟨by decide +kernel, by decide +kernel⟩, List.mem_of_getElem? (i := 187) (by decide +kernel), List.mem_of_getElem? (i := 879) (by decide +kernel), List.mem_of_getElem? (i := 880) (by decide +kernel)⟩
theorem lw_p28 : lw_okq (⟨"NailedByWord$Walks", "mansDeed", "(IIII)I"⟩, 8) := ⟨⟨by decide +kernel, by decide +kernel⟩, List.mem_of_getElem? (i := 187) (by decide +kernel), List.mem_of_getElem? (i := 884) (by decide +kernel), List.mem_of_getElem? (i := 885) (by decide +kernel)⟩
theorem lw_p29 : lw_okq (⟨"NailedByWord$Bodies", "run", "(IIII)I"⟩, 5) := ⟨⟨by decide +kernel, by decide +kernel⟩, List.mem_of_getElem? (i := 323) (by decide +kernel), List.mem_of_getElem? (i := 984) (by decide +kernel), List.mem_of_getElem? (i := 985) (by decide +kernel)⟩
theorem lw_p30 : lw_okq (⟨"NailedByWord$Bodies", "workedOut", "(IIII)I"⟩, 5) := ⟨⟨by decide +kernel, by decide +kernel⟩, List.mem_of_getElem? (i := 323) (by decide +kernel), List.mem_of_getElem? (i := 993) (by decide +kernel), List.mem_of_getElem? (i := 994) (by decide +kernel)⟩
theorem lw_p31 : lw_okq (⟨"NailedByWord$Bodies", "own", "(III)I"⟩, 5) := ⟨⟨by decide +kernel, by decide +kernel⟩, List.mem_of_getElem? (i := 323) (by decide +kernel), List.mem_of_getElem? (i := 997) (by decide +kernel), List.mem_of_getElem? (i := 998) (by decide +kernel)⟩
def lw_privs_2 : List (MethodName × Nat) := [(⟨"NailedByWord$Release", "onWhereHeStands", "(I)I"⟩, 3), (⟨"NailedByWord$Release", "foresee", "(IIZ)V"⟩, 3), (⟨"NailedByWord$Release", "isFree", "(II)Z"⟩, 3), (⟨"NailedByWord$Release", "peopleWhoCanFree", "()I"⟩, 3), (⟨"NailedByWord$Release", "peopleOf", "(I)I"⟩, 3), (⟨"NailedByWord$Release", "nobodyIsHeldWithout", "(I)Z"⟩, 3), (⟨"NailedByWord$Release", "nextInRing", "(I)I"⟩, 3), (⟨"NailedByWord$Round", "goOn", "(IIII)V"⟩, 6), (⟨"NailedByWord$Round", "takeIfLess", "(I)V"⟩, 6), (⟨"NailedByWord$Walks", "onAtAny", "(II)I"⟩, 8), (⟨"NailedByWord$Walks", "thinkOfTurns", "(II)V"⟩, 8), (⟨"NailedByWord$Walks", "childsDeed", "(IIII)I"⟩, 8), (⟨"NailedByWord$Walks", "mansDeed", "(IIII)I"⟩, 8), (⟨"NailedByWord$Bodies", "run", "(IIII)I"⟩, 5), (⟨"NailedByWord$Bodies", "workedOut", "(IIII)I"⟩, 5), (⟨"NailedByWord$Bodies", "own", "(III)I"⟩, 5)]
theorem lw_r2 : ∀ q ∈ lw_privs_2, lw_okq q := List.forall_mem_cons.mpr ⟨lw_p16, List.forall_mem_cons.mpr ⟨lw_p17, List.forall_mem_cons.mpr ⟨lw_p18, List.forall_mem_cons.mpr ⟨lw_p19, List.forall_mem_cons.mpr ⟨lw_p20, List.forall_mem_cons.mpr ⟨lw_p21, List.forall_mem_cons.mpr ⟨lw_p22, List.forall_mem_cons.mpr ⟨lw_p23, List.forall_mem_cons.mpr ⟨lw_p24, List.forall_mem_cons.mpr ⟨lw_p25, List.forall_mem_cons.mpr ⟨lw_p26, List.forall_mem_cons.mpr ⟨lw_p27, List.forall_mem_cons.mpr ⟨lw_p28, List.forall_mem_cons.mpr ⟨lw_p29, List.forall_mem_cons.mpr ⟨lw_p30, List.forall_mem_cons.mpr ⟨lw_p31, fun _ h => absurd h List.not_mem_nil⟩⟩⟩⟩⟩⟩⟩⟩⟩⟩⟩⟩⟩⟩⟩⟩
theorem lw_p32 : lw_okq (⟨"NailedByWord$Shelf", "narrowed", "(J)J"⟩, 4) := ⟨⟨by decide +kernel, by decide +kernel⟩, List.mem_of_getElem? (i := 348) (by decide +kernel), List.mem_of_getElem? (i := 1044) (by decide +kernel), List.mem_of_getElem? (i := 1045) (by decide +kernel)⟩
theorem lw_p33 : lw_okq (⟨"NailedByWord$Shelf", "hasPart", "(II)Z"⟩, 4) := ⟨⟨by decide +kernel, by decide +kernel⟩, List.mem_of_getElem? (i := 348) (by decide +kernel), List.mem_of_getElem? (i := 1060) (by decide +kernel), List.mem_of_getElem? (i := 1061) (by decide +kernel)⟩
theorem lw_p34 : lw_okq (⟨"NailedByWordModel", "areTwo", "(II)Z"⟩, 67) := ⟨⟨by decide +kernel, by decide +kernel⟩, List.mem_of_getElem? (i := 1081) (by decide +kernel), List.mem_of_getElem? (i := 1304) (by decide +kernel), List.mem_of_getElem? (i := 1305) (by decide +kernel)⟩
theorem lw_p35 : lw_okq (⟨"NailedByWordModel", "isOne", "(I)Z"⟩, 67) := ⟨⟨by decide +kernel, by decide +kernel⟩, List.mem_of_getElem? (i := 1081) (by decide +kernel), List.mem_of_getElem? (i := 1308) (by decide +kernel), List.mem_of_getElem? (i := 1309) (by decide +kernel)⟩
theorem lw_p36 : lw_okq (⟨"NailedByWordModel", "addPromise", "(IIIII)I"⟩, 67) := ⟨⟨by decide +kernel, by decide +kernel⟩, List.mem_of_getElem? (i := 1081) (by decide +kernel), List.mem_of_getElem? (i := 1312) (by decide +kernel), List.mem_of_getElem? (i := 1313) (by decide +kernel)⟩
theorem lw_p37 : lw_okq (⟨"NailedByWordModel", "lays", "(III)V"⟩, 67) := ⟨⟨by decide +kernel, by decide +kernel⟩, List.mem_of_getElem? (i := 1081) (by decide +kernel), List.mem_of_getElem? (i := 1328) (by decide +kernel), List.mem_of_getElem? (i := 1329) (by decide +kernel)⟩
theorem lw_p38 : lw_okq (⟨"NailedByWordModel", "isPlace", "(II)Z"⟩, 67) := ⟨⟨by decide +kernel, by decide +kernel⟩, List.mem_of_getElem? (i := 1081) (by decide +kernel), List.mem_of_getElem? (i := 1340) (by decide +kernel), List.mem_of_getElem? (i := 1341) (by decide +kernel)⟩
theorem lw_p39 : lw_okq (⟨"NailedByWordModel", "isPromise", "(I)Z"⟩, 67) := ⟨⟨by decide +kernel, by decide +kernel⟩, List.mem_of_getElem? (i := 1081) (by decide +kernel), List.mem_of_getElem? (i := 1344) (by decide +kernel), List.mem_of_getElem? (i := 1345) (by decide +kernel)⟩
theorem lw_p40 : lw_okq (⟨"NailedByWordModel", "changes", "(III)I"⟩, 67) := ⟨⟨by decide +kernel, by decide +kernel⟩, List.mem_of_getElem? (i := 1081) (by decide +kernel), List.mem_of_getElem? (i := 1351) (by decide +kernel), List.mem_of_getElem? (i := 1352) (by decide +kernel)⟩
theorem lw_p41 : lw_okq (⟨"NailedByWordModel", "valueAt", "(II)I"⟩, 67) := ⟨⟨by decide +kernel, by decide +kernel⟩, List.mem_of_getElem? (i := 1081) (by decide +kernel), List.mem_of_getElem? (i := 1355) (by decide +kernel), List.mem_of_getElem? (i := 1356) (by decide +kernel)⟩
theorem lw_p42 : lw_okq (⟨"NailedByWordModel", "readText", "(I)I"⟩, 67) := ⟨⟨by decide +kernel, by decide +kernel⟩, List.mem_of_getElem? (i := 1081) (by decide +kernel), List.mem_of_getElem? (i := 1371) (by decide +kernel), List.mem_of_getElem? (i := 1372) (by decide +kernel)⟩
theorem lw_p43 : lw_okq (⟨"NailedByWordModel", "line", "()V"⟩, 67) := ⟨⟨by decide +kernel, by decide +kernel⟩, List.mem_of_getElem? (i := 1081) (by decide +kernel), List.mem_of_getElem? (i := 1375) (by decide +kernel), List.mem_of_getElem? (i := 1376) (by decide +kernel)⟩
theorem lw_p44 : lw_okq (⟨"NailedByWordModel", "either", "()V"⟩, 67) := ⟨⟨by decide +kernel, by decide +kernel⟩, List.mem_of_getElem? (i := 1081) (by decide +kernel), List.mem_of_getElem? (i := 1379) (by decide +kernel), List.mem_of_getElem? (i := 1380) (by decide +kernel)⟩
theorem lw_p45 : lw_okq (⟨"NailedByWordModel", "both", "()V"⟩, 67) := ⟨⟨by decide +kernel, by decide +kernel⟩, List.mem_of_getElem? (i := 1081) (by decide +kernel), List.mem_of_getElem? (i := 1383) (by decide +kernel), List.mem_of_getElem? (i := 1384) (by decide +kernel)⟩
theorem lw_p46 : lw_okq (⟨"NailedByWordModel", "compared", "()V"⟩, 67) := ⟨⟨by decide +kernel, by decide +kernel⟩, List.mem_of_getElem? (i := 1081) (by decide +kernel), List.mem_of_getElem? (i := 1387) (by decide +kernel), List.mem_of_getElem? (i := 1388) (by decide +kernel)⟩
theorem lw_p47 : lw_okq (⟨"NailedByWordModel", "sum", "()V"⟩, 67) := ⟨⟨by decide +kernel, by decide +kernel⟩, List.mem_of_getElem? (i := 1081) (by decide +kernel), List.mem_of_getElem? (i := 1391) (by decide +kernel), List.mem_of_getElem? (i := 1392) (by decide +kernel)⟩
def lw_privs_3 : List (MethodName × Nat) := [(⟨"NailedByWord$Shelf", "narrowed", "(J)J"⟩, 4), (⟨"NailedByWord$Shelf", "hasPart", "(II)Z"⟩, 4), (⟨"NailedByWordModel", "areTwo", "(II)Z"⟩, 67), (⟨"NailedByWordModel", "isOne", "(I)Z"⟩, 67), (⟨"NailedByWordModel", "addPromise", "(IIIII)I"⟩, 67), (⟨"NailedByWordModel", "lays", "(III)V"⟩, 67), (⟨"NailedByWordModel", "isPlace", "(II)Z"⟩, 67), (⟨"NailedByWordModel", "isPromise", "(I)Z"⟩, 67), (⟨"NailedByWordModel", "changes", "(III)I"⟩, 67), (⟨"NailedByWordModel", "valueAt", "(II)I"⟩, 67), (⟨"NailedByWordModel", "readText", "(I)I"⟩, 67), (⟨"NailedByWordModel", "line", "()V"⟩, 67), (⟨"NailedByWordModel", "either", "()V"⟩, 67), (⟨"NailedByWordModel", "both", "()V"⟩, 67), (⟨"NailedByWordModel", "compared", "()V"⟩, 67), (⟨"NailedByWordModel", "sum", "()V"⟩, 67)]
theorem lw_r3 : ∀ q ∈ lw_privs_3, lw_okq q := List.forall_mem_cons.mpr ⟨lw_p32, List.forall_mem_cons.mpr ⟨lw_p33, List.forall_mem_cons.mpr ⟨lw_p34, List.forall_mem_cons.mpr ⟨lw_p35, List.forall_mem_cons.mpr ⟨lw_p36, List.forall_mem_cons.mpr ⟨lw_p37, List.forall_mem_cons.mpr ⟨lw_p38, List.forall_mem_cons.mpr ⟨lw_p39, List.forall_mem_cons.mpr ⟨lw_p40, List.forall_mem_cons.mpr ⟨lw_p41, List.forall_mem_cons.mpr ⟨lw_p42, List.forall_mem_cons.mpr ⟨lw_p43, List.forall_mem_cons.mpr ⟨lw_p44, List.forall_mem_cons.mpr ⟨lw_p45, List.forall_mem_cons.mpr ⟨lw_p46, List.forall_mem_cons.mpr ⟨lw_p47, fun _ h => absurd h List.not_mem_nil⟩⟩⟩⟩⟩⟩⟩⟩⟩⟩⟩⟩⟩⟩⟩⟩
theorem lw_p48 : lw_okq (⟨"NailedByWordModel", "product", "()V"⟩, 67) := ⟨⟨by decide +kernel, by decide +kernel⟩, List.mem_of_getElem? (i := 1081) (by decide +kernel), List.mem_of_getElem? (i := 1395) (by decide +kernel), List.mem_of_getElem? (i := 1396) (by decide +kernel)⟩
theorem lw_p49 : lw_okq (⟨"NailedByWordModel", "operand", "()V"⟩, 67) := ⟨⟨by decide +kernel, by decide +kernel⟩, List.mem_of_getElem? (i := 1081) (by decide +kernel), List.mem_of_getElem? (i := 1399) (by decide +kernel), List.mem_of_getElem? (i := 1400) (by decide +kernel)⟩
theorem lw_p50 : lw_okq (⟨"NailedByWordModel", "look", "()I"⟩, 67) := ⟨⟨by decide +kernel, by decide +kernel⟩, List.mem_of_getElem? (i := 1081) (by decide +kernel), List.mem_of_getElem? (i := 1403) (by decide +kernel), List.mem_of_getElem? (i := 1404) (by decide +kernel)⟩
theorem lw_p51 : lw_okq (⟨"NailedByWordModel", "addStep", "(II)V"⟩, 67) := ⟨⟨by decide +kernel, by decide +kernel⟩, List.mem_of_getElem? (i := 1081) (by decide +kernel), List.mem_of_getElem? (i := 1410) (by decide +kernel), List.mem_of_getElem? (i := 1411) (by decide +kernel)⟩
theorem lw_p52 : lw_okq (⟨"NailedByWordModel", "opens", "()Z"⟩, 67) := ⟨⟨by decide +kernel, by decide +kernel⟩, List.mem_of_getElem? (i := 1081) (by decide +kernel), List.mem_of_getElem? (i := 1414) (by decide +kernel), List.mem_of_getElem? (i := 1415) (by decide +kernel)⟩
theorem lw_p53 : lw_okq (⟨"NailedByWordModel", "wrong", "()V"⟩, 67) := ⟨⟨by decide +kernel, by decide +kernel⟩, List.mem_of_getElem? (i := 1081) (by decide +kernel), List.mem_of_getElem? (i := 1418) (by decide +kernel), List.mem_of_getElem? (i := 1419) (by decide +kernel)⟩
theorem lw_p54 : lw_okq (⟨"NailedByWordModel", "figure", "()V"⟩, 67) := ⟨⟨by decide +kernel, by decide +kernel⟩, List.mem_of_getElem? (i := 1081) (by decide +kernel), List.mem_of_getElem? (i := 1422) (by decide +kernel), List.mem_of_getElem? (i := 1423) (by decide +kernel)⟩
theorem lw_p55 : lw_okq (⟨"NailedByWordModel", "hardOn", "(II)I"⟩, 67) := ⟨⟨by decide +kernel, by decide +kernel⟩, List.mem_of_getElem? (i := 1081) (by decide +kernel), List.mem_of_getElem? (i := 1430) (by decide +kernel), List.mem_of_getElem? (i := 1431) (by decide +kernel)⟩
theorem lw_p56 : lw_okq (⟨"NailedByWordModel", "othersWith", "(II)I"⟩, 67) := ⟨⟨by decide +kernel, by decide +kernel⟩, List.mem_of_getElem? (i := 1081) (by decide +kernel), List.mem_of_getElem? (i := 1434) (by decide +kernel), List.mem_of_getElem? (i := 1435) (by decide +kernel)⟩
theorem lw_p57 : lw_okq (⟨"NailedByWordModel", "isOn", "(II)Z"⟩, 67) := ⟨⟨by decide +kernel, by decide +kernel⟩, List.mem_of_getElem? (i := 1081) (by decide +kernel), List.mem_of_getElem? (i := 1438) (by decide +kernel), List.mem_of_getElem? (i := 1439) (by decide +kernel)⟩
theorem lw_p58 : lw_okq (⟨"NailedByWordModel", "gives", "(I)I"⟩, 67) := ⟨⟨by decide +kernel, by decide +kernel⟩, List.mem_of_getElem? (i := 1081) (by decide +kernel), List.mem_of_getElem? (i := 1442) (by decide +kernel), List.mem_of_getElem? (i := 1443) (by decide +kernel)⟩
theorem lw_p59 : lw_okq (⟨"NailedByWordModel", "worked", "(III)I"⟩, 67) := ⟨⟨by decide +kernel, by decide +kernel⟩, List.mem_of_getElem? (i := 1081) (by decide +kernel), List.mem_of_getElem? (i := 1446) (by decide +kernel), List.mem_of_getElem? (i := 1447) (by decide +kernel)⟩
theorem lw_p60 : lw_okq (⟨"NailedByWordModel", "heldBy", "(III)I"⟩, 67) := ⟨⟨by decide +kernel, by decide +kernel⟩, List.mem_of_getElem? (i := 1081) (by decide +kernel), List.mem_of_getElem? (i := 1457) (by decide +kernel), List.mem_of_getElem? (i := 1458) (by decide +kernel)⟩
theorem lw_p61 : lw_okq (⟨"NailedByWordModel", "holdsAt", "(III)Z"⟩, 67) := ⟨⟨by decide +kernel, by decide +kernel⟩, List.mem_of_getElem? (i := 1081) (by decide +kernel), List.mem_of_getElem? (i := 1461) (by decide +kernel), List.mem_of_getElem? (i := 1462) (by decide +kernel)⟩
theorem lw_p62 : lw_okq (⟨"NailedByWordModel", "hardestNow", "(I)I"⟩, 67) := ⟨⟨by decide +kernel, by decide +kernel⟩, List.mem_of_getElem? (i := 1081) (by decide +kernel), List.mem_of_getElem? (i := 1465) (by decide +kernel), List.mem_of_getElem? (i := 1466) (by decide +kernel)⟩
theorem lw_p63 : lw_okq (⟨"NailedByWordModel", "rowFault", "(I)I"⟩, 67) := ⟨⟨by decide +kernel, by decide +kernel⟩, List.mem_of_getElem? (i := 1081) (by decide +kernel), List.mem_of_getElem? (i := 1473) (by decide +kernel), List.mem_of_getElem? (i := 1474) (by decide +kernel)⟩
def lw_privs_4 : List (MethodName × Nat) := [(⟨"NailedByWordModel", "product", "()V"⟩, 67), (⟨"NailedByWordModel", "operand", "()V"⟩, 67), (⟨"NailedByWordModel", "look", "()I"⟩, 67), (⟨"NailedByWordModel", "addStep", "(II)V"⟩, 67), (⟨"NailedByWordModel", "opens", "()Z"⟩, 67), (⟨"NailedByWordModel", "wrong", "()V"⟩, 67), (⟨"NailedByWordModel", "figure", "()V"⟩, 67), (⟨"NailedByWordModel", "hardOn", "(II)I"⟩, 67), (⟨"NailedByWordModel", "othersWith", "(II)I"⟩, 67), (⟨"NailedByWordModel", "isOn", "(II)Z"⟩, 67), (⟨"NailedByWordModel", "gives", "(I)I"⟩, 67), (⟨"NailedByWordModel", "worked", "(III)I"⟩, 67), (⟨"NailedByWordModel", "heldBy", "(III)I"⟩, 67), (⟨"NailedByWordModel", "holdsAt", "(III)Z"⟩, 67), (⟨"NailedByWordModel", "hardestNow", "(I)I"⟩, 67), (⟨"NailedByWordModel", "rowFault", "(I)I"⟩, 67)]
theorem lw_r4 : ∀ q ∈ lw_privs_4, lw_okq q := List.forall_mem_cons.mpr ⟨lw_p48, List.forall_mem_cons.mpr ⟨lw_p49, List.forall_mem_cons.mpr ⟨lw_p50, List.forall_mem_cons.mpr ⟨lw_p51, List.forall_mem_cons.mpr ⟨lw_p52, List.forall_mem_cons.mpr ⟨lw_p53, List.forall_mem_cons.mpr ⟨lw_p54, List.forall_mem_cons.mpr ⟨lw_p55, List.forall_mem_cons.mpr ⟨lw_p56, List.forall_mem_cons.mpr ⟨lw_p57, List.forall_mem_cons.mpr ⟨lw_p58, List.forall_mem_cons.mpr ⟨lw_p59, List.forall_mem_cons.mpr ⟨lw_p60, List.forall_mem_cons.mpr ⟨lw_p61, List.forall_mem_cons.mpr ⟨lw_p62, List.forall_mem_cons.mpr ⟨lw_p63, fun _ h => absurd h List.not_mem_nil⟩⟩⟩⟩⟩⟩⟩⟩⟩⟩⟩⟩⟩⟩⟩⟩
theorem lw_p64 : lw_okq (⟨"NailedByWordModel", "stepsOf", "(I)I"⟩, 67) := ⟨⟨by decide +kernel, by decide +kernel⟩, List.mem_of_getElem? (i := 1081) (by decide +kernel), List.mem_of_getElem? (i := 1477) (by decide +kernel), List.mem_of_getElem? (i := 1478) (by decide +kernel)⟩
theorem lw_p65 : lw_okq (⟨"NailedByWordModel", "at", "(II)I"⟩, 67) := ⟨⟨by decide +kernel, by decide +kernel⟩, List.mem_of_getElem? (i := 1081) (by decide +kernel), List.mem_of_getElem? (i := 1481) (by decide +kernel), List.mem_of_getElem? (i := 1482) (by decide +kernel)⟩
theorem lw_p66 : lw_okq (⟨"NailedByWordModel", "keptAt", "(III)I"⟩, 67) := ⟨⟨by decide +kernel, by decide +kernel⟩, List.mem_of_getElem? (i := 1081) (by decide +kernel), List.mem_of_getElem? (i := 1485) (by decide +kernel), List.mem_of_getElem? (i := 1486) (by decide +kernel)⟩
theorem lw_p67 : lw_okq (⟨"NailedByWordModel", "dayOn", "(I)I"⟩, 67) := ⟨⟨by decide +kernel, by decide +kernel⟩, List.mem_of_getElem? (i := 1081) (by decide +kernel), List.mem_of_getElem? (i := 1489) (by decide +kernel), List.mem_of_getElem? (i := 1490) (by decide +kernel)⟩
theorem lw_p68 : lw_okq (⟨"NailedByWordModel", "isHeld", "(III)Z"⟩, 67) := ⟨⟨by decide +kernel, by decide +kernel⟩, List.mem_of_getElem? (i := 1081) (by decide +kernel), List.mem_of_getElem? (i := 1493) (by decide +kernel), List.mem_of_getElem? (i := 1494) (by decide +kernel)⟩
theorem lw_p69 : lw_okq (⟨"NailedByWordModel", "weightsOf", "(I)I"⟩, 67) := ⟨⟨by decide +kernel, by decide +kernel⟩, List.mem_of_getElem? (i := 1081) (by decide +kernel), List.mem_of_getElem? (i := 1500) (by decide +kernel), List.mem_of_getElem? (i := 1501) (by decide +kernel)⟩
theorem lw_p70 : lw_okq (⟨"NailedByWordModel", "goBest", "(IIIII)V"⟩, 67) := ⟨⟨by decide +kernel, by decide +kernel⟩, List.mem_of_getElem? (i := 1081) (by decide +kernel), List.mem_of_getElem? (i := 1511) (by decide +kernel), List.mem_of_getElem? (i := 1512) (by decide +kernel)⟩
theorem lw_p71 : lw_okq (⟨"NailedByWordModel", "dayFrom", "(III)I"⟩, 67) := ⟨⟨by decide +kernel, by decide +kernel⟩, List.mem_of_getElem? (i := 1081) (by decide +kernel), List.mem_of_getElem? (i := 1519) (by decide +kernel), List.mem_of_getElem? (i := 1520) (by decide +kernel)⟩
theorem lw_p72 : lw_okq (⟨"NailedByWordModel", "hereOf", "(I)I"⟩, 67) := ⟨⟨by decide +kernel, by decide +kernel⟩, List.mem_of_getElem? (i := 1081) (by decide +kernel), List.mem_of_getElem? (i := 1531) (by decide +kernel), List.mem_of_getElem? (i := 1532) (by decide +kernel)⟩
theorem lw_p73 : lw_okq (⟨"NailedByWordModel", "freesBy", "(III)Z"⟩, 67) := ⟨⟨by decide +kernel, by decide +kernel⟩, List.mem_of_getElem? (i := 1081) (by decide +kernel), List.mem_of_getElem? (i := 1538) (by decide +kernel), List.mem_of_getElem? (i := 1539) (by decide +kernel)⟩
theorem lw_p74 : lw_okq (⟨"NailedByWordModel", "allFree", "(I)Z"⟩, 67) := ⟨⟨by decide +kernel, by decide +kernel⟩, List.mem_of_getElem? (i := 1081) (by decide +kernel), List.mem_of_getElem? (i := 1550) (by decide +kernel), List.mem_of_getElem? (i := 1551) (by decide +kernel)⟩
theorem lw_p75 : lw_okq (⟨"NailedByWordModel", "promisedTo", "(I)I"⟩, 67) := ⟨⟨by decide +kernel, by decide +kernel⟩, List.mem_of_getElem? (i := 1081) (by decide +kernel), List.mem_of_getElem? (i := 1554) (by decide +kernel), List.mem_of_getElem? (i := 1555) (by decide +kernel)⟩
theorem lw_p76 : lw_okq (⟨"NailedByWordModel", "nobodyHeld", "()Z"⟩, 67) := ⟨⟨by decide +kernel, by decide +kernel⟩, List.mem_of_getElem? (i := 1081) (by decide +kernel), List.mem_of_getElem? (i := 1558) (by decide +kernel), List.mem_of_getElem? (i := 1559) (by decide +kernel)⟩
theorem lw_p77 : lw_okq (⟨"NailedByWordModel", "heldToward", "(I)I"⟩, 67) := ⟨⟨by decide +kernel, by decide +kernel⟩, List.mem_of_getElem? (i := 1081) (by decide +kernel), List.mem_of_getElem? (i := 1566) (by decide +kernel), List.mem_of_getElem? (i := 1567) (by decide +kernel)⟩
theorem lw_p78 : lw_okq (⟨"NailedByWordModel", "canBe", "(II)Z"⟩, 67) := ⟨⟨by decide +kernel, by decide +kernel⟩, List.mem_of_getElem? (i := 1081) (by decide +kernel), List.mem_of_getElem? (i := 1581) (by decide +kernel), List.mem_of_getElem? (i := 1582) (by decide +kernel)⟩
theorem lw_p79 : lw_okq (⟨"NailedByWordModel", "goRound", "(IIIII)V"⟩, 67) := ⟨⟨by decide +kernel, by decide +kernel⟩, List.mem_of_getElem? (i := 1081) (by decide +kernel), List.mem_of_getElem? (i := 1593) (by decide +kernel), List.mem_of_getElem? (i := 1594) (by decide +kernel)⟩
def lw_privs_5 : List (MethodName × Nat) := [(⟨"NailedByWordModel", "stepsOf", "(I)I"⟩, 67), (⟨"NailedByWordModel", "at", "(II)I"⟩, 67), (⟨"NailedByWordModel", "keptAt", "(III)I"⟩, 67), (⟨"NailedByWordModel", "dayOn", "(I)I"⟩, 67), (⟨"NailedByWordModel", "isHeld", "(III)Z"⟩, 67), (⟨"NailedByWordModel", "weightsOf", "(I)I"⟩, 67), (⟨"NailedByWordModel", "goBest", "(IIIII)V"⟩, 67), (⟨"NailedByWordModel", "dayFrom", "(III)I"⟩, 67), (⟨"NailedByWordModel", "hereOf", "(I)I"⟩, 67), (⟨"NailedByWordModel", "freesBy", "(III)Z"⟩, 67), (⟨"NailedByWordModel", "allFree", "(I)Z"⟩, 67), (⟨"NailedByWordModel", "promisedTo", "(I)I"⟩, 67), (⟨"NailedByWordModel", "nobodyHeld", "()Z"⟩, 67), (⟨"NailedByWordModel", "heldToward", "(I)I"⟩, 67), (⟨"NailedByWordModel", "canBe", "(II)Z"⟩, 67), (⟨"NailedByWordModel", "goRound", "(IIIII)V"⟩, 67)]
theorem lw_r5 : ∀ q ∈ lw_privs_5, lw_okq q := List.forall_mem_cons.mpr ⟨lw_p64, List.forall_mem_cons.mpr ⟨lw_p65, List.forall_mem_cons.mpr ⟨lw_p66, List.forall_mem_cons.mpr ⟨lw_p67, List.forall_mem_cons.mpr ⟨lw_p68, List.forall_mem_cons.mpr ⟨lw_p69, List.forall_mem_cons.mpr ⟨lw_p70, List.forall_mem_cons.mpr ⟨lw_p71, List.forall_mem_cons.mpr ⟨lw_p72, List.forall_mem_cons.mpr ⟨lw_p73, List.forall_mem_cons.mpr ⟨lw_p74, List.forall_mem_cons.mpr ⟨lw_p75, List.forall_mem_cons.mpr ⟨lw_p76, List.forall_mem_cons.mpr ⟨lw_p77, List.forall_mem_cons.mpr ⟨lw_p78, List.forall_mem_cons.mpr ⟨lw_p79, fun _ h => absurd h List.not_mem_nil⟩⟩⟩⟩⟩⟩⟩⟩⟩⟩⟩⟩⟩⟩⟩⟩
theorem lw_p80 : lw_okq (⟨"NailedByWordModel", "goForgot", "(III)V"⟩, 67) := ⟨⟨by decide +kernel, by decide +kernel⟩, List.mem_of_getElem? (i := 1081) (by decide +kernel), List.mem_of_getElem? (i := 1605) (by decide +kernel), List.mem_of_getElem? (i := 1606) (by decide +kernel)⟩
theorem lw_p81 : lw_okq (⟨"NailedByWordModel", "manBest", "(III)I"⟩, 67) := ⟨⟨by decide +kernel, by decide +kernel⟩, List.mem_of_getElem? (i := 1081) (by decide +kernel), List.mem_of_getElem? (i := 1620) (by decide +kernel), List.mem_of_getElem? (i := 1621) (by decide +kernel)⟩
theorem lw_p82 : lw_okq (⟨"NailedByWordModel", "byStep", "(IIII)I"⟩, 67) := ⟨⟨by decide +kernel, by decide +kernel⟩, List.mem_of_getElem? (i := 1081) (by decide +kernel), List.mem_of_getElem? (i := 1624) (by decide +kernel), List.mem_of_getElem? (i := 1625) (by decide +kernel)⟩
theorem lw_p83 : lw_okq (⟨"NailedByWordModel", "childBest", "(III)I"⟩, 67) := ⟨⟨by decide +kernel, by decide +kernel⟩, List.mem_of_getElem? (i := 1081) (by decide +kernel), List.mem_of_getElem? (i := 1628) (by decide +kernel), List.mem_of_getElem? (i := 1629) (by decide +kernel)⟩
theorem lw_p84 : lw_okq (⟨"NailedByWordModel", "leastToForget", "()I"⟩, 67) := ⟨⟨by decide +kernel, by decide +kernel⟩, List.mem_of_getElem? (i := 1081) (by decide +kernel), List.mem_of_getElem? (i := 1632) (by decide +kernel), List.mem_of_getElem? (i := 1633) (by decide +kernel)⟩
theorem lw_p85 : lw_okq (⟨"NailedByWordModel", "isBody", "(I)Z"⟩, 67) := ⟨⟨by decide +kernel, by decide +kernel⟩, List.mem_of_getElem? (i := 1081) (by decide +kernel), List.mem_of_getElem? (i := 1685) (by decide +kernel), List.mem_of_getElem? (i := 1686) (by decide +kernel)⟩
theorem lw_p86 : lw_okq (⟨"NailedByWordModel", "holding", "(II)I"⟩, 67) := ⟨⟨by decide +kernel, by decide +kernel⟩, List.mem_of_getElem? (i := 1081) (by decide +kernel), List.mem_of_getElem? (i := 1689) (by decide +kernel), List.mem_of_getElem? (i := 1690) (by decide +kernel)⟩
theorem lw_p87 : lw_okq (⟨"NailedByWordModel", "ran", "(I)V"⟩, 67) := ⟨⟨by decide +kernel, by decide +kernel⟩, List.mem_of_getElem? (i := 1081) (by decide +kernel), List.mem_of_getElem? (i := 1696) (by decide +kernel), List.mem_of_getElem? (i := 1697) (by decide +kernel)⟩
theorem lw_p88 : lw_okq (⟨"NailedByWordModel", "plainHolds", "(II)I"⟩, 67) := ⟨⟨by decide +kernel, by decide +kernel⟩, List.mem_of_getElem? (i := 1081) (by decide +kernel), List.mem_of_getElem? (i := 1700) (by decide +kernel), List.mem_of_getElem? (i := 1701) (by decide +kernel)⟩
theorem lw_p89 : lw_okq (⟨"NailedByWordModel", "pittHolds", "(II)I"⟩, 67) := ⟨⟨by decide +kernel, by decide +kernel⟩, List.mem_of_getElem? (i := 1081) (by decide +kernel), List.mem_of_getElem? (i := 1704) (by decide +kernel), List.mem_of_getElem? (i := 1705) (by decide +kernel)⟩
theorem lw_p90 : lw_okq (⟨"NailedByWordModel", "pulling", "(II)I"⟩, 67) := ⟨⟨by decide +kernel, by decide +kernel⟩, List.mem_of_getElem? (i := 1081) (by decide +kernel), List.mem_of_getElem? (i := 1708) (by decide +kernel), List.mem_of_getElem? (i := 1709) (by decide +kernel)⟩
theorem lw_p91 : lw_okq (⟨"NailedByWordModel", "lacePulls", "(II)I"⟩, 67) := ⟨⟨by decide +kernel, by decide +kernel⟩, List.mem_of_getElem? (i := 1081) (by decide +kernel), List.mem_of_getElem? (i := 1712) (by decide +kernel), List.mem_of_getElem? (i := 1713) (by decide +kernel)⟩
theorem lw_p92 : lw_okq (⟨"NailedByWordModel", "plainPulls", "(II)I"⟩, 67) := ⟨⟨by decide +kernel, by decide +kernel⟩, List.mem_of_getElem? (i := 1081) (by decide +kernel), List.mem_of_getElem? (i := 1716) (by decide +kernel), List.mem_of_getElem? (i := 1717) (by decide +kernel)⟩
theorem lw_p93 : lw_okq (⟨"NailedByWordModel", "freeing", "(II)I"⟩, 67) := ⟨⟨by decide +kernel, by decide +kernel⟩, List.mem_of_getElem? (i := 1081) (by decide +kernel), List.mem_of_getElem? (i := 1720) (by decide +kernel), List.mem_of_getElem? (i := 1721) (by decide +kernel)⟩
theorem lw_p94 : lw_okq (⟨"NailedByWordModel", "heelFrees", "(II)I"⟩, 67) := ⟨⟨by decide +kernel, by decide +kernel⟩, List.mem_of_getElem? (i := 1081) (by decide +kernel), List.mem_of_getElem? (i := 1724) (by decide +kernel), List.mem_of_getElem? (i := 1725) (by decide +kernel)⟩
theorem lw_p95 : lw_okq (⟨"NailedByWordModel", "plainFrees", "(II)I"⟩, 67) := ⟨⟨by decide +kernel, by decide +kernel⟩, List.mem_of_getElem? (i := 1081) (by decide +kernel), List.mem_of_getElem? (i := 1728) (by decide +kernel), List.mem_of_getElem? (i := 1729) (by decide +kernel)⟩
def lw_privs_6 : List (MethodName × Nat) := [(⟨"NailedByWordModel", "goForgot", "(III)V"⟩, 67), (⟨"NailedByWordModel", "manBest", "(III)I"⟩, 67), (⟨"NailedByWordModel", "byStep", "(IIII)I"⟩, 67), (⟨"NailedByWordModel", "childBest", "(III)I"⟩, 67), (⟨"NailedByWordModel", "leastToForget", "()I"⟩, 67), (⟨"NailedByWordModel", "isBody", "(I)Z"⟩, 67), (⟨"NailedByWordModel", "holding", "(II)I"⟩, 67), (⟨"NailedByWordModel", "ran", "(I)V"⟩, 67), (⟨"NailedByWordModel", "plainHolds", "(II)I"⟩, 67), (⟨"NailedByWordModel", "pittHolds", "(II)I"⟩, 67), (⟨"NailedByWordModel", "pulling", "(II)I"⟩, 67), (⟨"NailedByWordModel", "lacePulls", "(II)I"⟩, 67), (⟨"NailedByWordModel", "plainPulls", "(II)I"⟩, 67), (⟨"NailedByWordModel", "freeing", "(II)I"⟩, 67), (⟨"NailedByWordModel", "heelFrees", "(II)I"⟩, 67), (⟨"NailedByWordModel", "plainFrees", "(II)I"⟩, 67)]
theorem lw_r6 : ∀ q ∈ lw_privs_6, lw_okq q := List.forall_mem_cons.mpr ⟨lw_p80, List.forall_mem_cons.mpr ⟨lw_p81, List.forall_mem_cons.mpr ⟨lw_p82, List.forall_mem_cons.mpr ⟨lw_p83, List.forall_mem_cons.mpr ⟨lw_p84, List.forall_mem_cons.mpr ⟨lw_p85, List.forall_mem_cons.mpr ⟨lw_p86, List.forall_mem_cons.mpr ⟨lw_p87, List.forall_mem_cons.mpr ⟨lw_p88, List.forall_mem_cons.mpr ⟨lw_p89, List.forall_mem_cons.mpr ⟨lw_p90, List.forall_mem_cons.mpr ⟨lw_p91, List.forall_mem_cons.mpr ⟨lw_p92, List.forall_mem_cons.mpr ⟨lw_p93, List.forall_mem_cons.mpr ⟨lw_p94, List.forall_mem_cons.mpr ⟨lw_p95, fun _ h => absurd h List.not_mem_nil⟩⟩⟩⟩⟩⟩⟩⟩⟩⟩⟩⟩⟩⟩⟩⟩
theorem lw_p96 : lw_okq (⟨"NailedByWordModel", "telling", "(II)I"⟩, 67) := ⟨⟨by decide +kernel, by decide +kernel⟩, List.mem_of_getElem? (i := 1081) (by decide +kernel), List.mem_of_getElem? (i := 1732) (by decide +kernel), List.mem_of_getElem? (i := 1733) (by decide +kernel)⟩
theorem lw_p97 : lw_okq (⟨"NailedByWordModel", "plainTells", "(II)I"⟩, 67) := ⟨⟨by decide +kernel, by decide +kernel⟩, List.mem_of_getElem? (i := 1081) (by decide +kernel), List.mem_of_getElem? (i := 1736) (by decide +kernel), List.mem_of_getElem? (i := 1737) (by decide +kernel)⟩
theorem lw_p98 : lw_okq (⟨"NailedByWordModel", "whyNoPlace", "(II)I"⟩, 67) := ⟨⟨by decide +kernel, by decide +kernel⟩, List.mem_of_getElem? (i := 1081) (by decide +kernel), List.mem_of_getElem? (i := 1756) (by decide +kernel), List.mem_of_getElem? (i := 1757) (by decide +kernel)⟩
def lw_privs_7 : List (MethodName × Nat) := [(⟨"NailedByWordModel", "telling", "(II)I"⟩, 67), (⟨"NailedByWordModel", "plainTells", "(II)I"⟩, 67), (⟨"NailedByWordModel", "whyNoPlace", "(II)I"⟩, 67)]
theorem lw_r7 : ∀ q ∈ lw_privs_7, lw_okq q := List.forall_mem_cons.mpr ⟨lw_p96, List.forall_mem_cons.mpr ⟨lw_p97, List.forall_mem_cons.mpr ⟨lw_p98, fun _ h => absurd h List.not_mem_nil⟩⟩⟩
def lw_privs : List (MethodName × Nat) := lw_privs_1 ++ (lw_privs_2 ++ (lw_privs_3 ++ (lw_privs_4 ++ (lw_privs_5 ++ (lw_privs_6 ++ (lw_privs_7))))))
def lw_tbl : List Cond := k2_sels lw_privs ++ tables_1
theorem lw_privs_ok : ∀ q ∈ lw_privs, lw_okq q := by
  show ∀ q ∈ lw_privs_1 ++ (lw_privs_2 ++ (lw_privs_3 ++ (lw_privs_4 ++ (lw_privs_5 ++ (lw_privs_6 ++ (lw_privs_7)))))), lw_okq q
  exact List.forall_mem_append.mpr ⟨lw_r1, List.forall_mem_append.mpr ⟨lw_r2, List.forall_mem_append.mpr ⟨lw_r3, List.forall_mem_append.mpr ⟨lw_r4, List.forall_mem_append.mpr ⟨lw_r5, List.forall_mem_append.mpr ⟨lw_r6, lw_r7⟩⟩⟩⟩⟩⟩
end
section
def RX0 : String := "NailedByWord$Bodies"
def TX0 : u_T := fun k => match k with
  | 0 => ("NailedByWord$Bodies", "kinds", "[I", true)
  | 1 => ("NailedByWord$Bodies", "trace", "[I", true)
  | 2 => ("NailedByWord$Bodies", "kept", "I", false)
  | 3 => ("NailedByWord$Bodies", "ran", "I", false)
  | _ => ("NailedByWord$Bodies", "self", "I", false)
def tyX0 : Nat → FieldType := fun k => match k with
  | 0 => .array .int
  | 1 => .array .int
  | 2 => .int
  | 3 => .int
  | _ => .int
abbrev wsX00 : List Cond := u_ws RX0 TX0 5
theorem nmX0 : ∀ a, a < 5 → ∀ b, b < 5 → a ≠ b → (TX0 a).2.1 ≠ (TX0 b).2.1 := by decide +kernel
theorem tyX0_ok : ∀ k, k < 5 → parseFieldDescriptor (TX0 k).2.2.1 = some (tyX0 k) := by decide +kernel
abbrev cX0_init : ByteArray := prog_2_method_1_code
def yX0_init : MethodName := ⟨RX0, "<init>", "()V"⟩
abbrev cX0_add : ByteArray := prog_2_method_2_code
def yX0_add : MethodName := ⟨RX0, "add", "(I)I"⟩
abbrev cX0_has : ByteArray := prog_2_method_3_code
def yX0_has : MethodName := ⟨RX0, "has", "(I)Z"⟩
abbrev cX0_kindOf : ByteArray := prog_2_method_4_code
def yX0_kindOf : MethodName := ⟨RX0, "kindOf", "(I)I"⟩
abbrev cX0_isUnder : ByteArray := prog_2_method_5_code
def yX0_isUnder : MethodName := ⟨RX0, "isUnder", "(II)Z"⟩
abbrev cX0_traced : ByteArray := prog_2_method_6_code
def yX0_traced : MethodName := ⟨RX0, "traced", "(I)I"⟩
abbrev cX0_perform : ByteArray := prog_2_method_7_code
def yX0_perform : MethodName := ⟨RX0, "perform", "(III)I"⟩
abbrev cX0_own : ByteArray := prog_2_method_8_code
def yX0_own : MethodName := ⟨RX0, "own", "(III)I"⟩
abbrev cX0_run : ByteArray := prog_2_method_9_code
def yX0_run : MethodName := ⟨RX0, "run", "(IIII)I"⟩
abbrev cX0_workedOut : ByteArray := prog_2_method_10_code
def yX0_workedOut : MethodName := ⟨RX0, "workedOut", "(IIII)I"⟩
def RX1 : String := "NailedByWord$Changes"
def TX1 : u_T := fun k => match k with
  | 0 => ("NailedByWord$Changes", "town", "LNailedByWord$Town;", true)
  | 1 => ("NailedByWord$Changes", "numbers", "[I", true)
  | 2 => ("NailedByWord$Changes", "whats", "[I", true)
  | 3 => ("NailedByWord$Changes", "before", "[I", true)
  | 4 => ("NailedByWord$Changes", "behind", "[I", true)
  | 5 => ("NailedByWord$Changes", "done", "I", false)
  | _ => ("NailedByWord$Changes", "size", "I", false)
def tyX1 : Nat → FieldType := fun k => match k with
  | 0 => .object "NailedByWord$Town"
  | 1 => .array .int
  | 2 => .array .int
  | 3 => .array .int
  | 4 => .array .int
  | 5 => .int
  | _ => .int
abbrev wsX10 : List Cond := u_ws RX1 TX1 7
theorem nmX1 : ∀ a, a < 7 → ∀ b, b < 7 → a ≠ b → (TX1 a).2.1 ≠ (TX1 b).2.1 := by decide +kernel
theorem tyX1_ok : ∀ k, k < 7 → parseFieldDescriptor (TX1 k).2.2.1 = some (tyX1 k) := by decide +kernel
abbrev cX1_init : ByteArray := prog_3_method_1_code
def yX1_init : MethodName := ⟨RX1, "<init>", "(LNailedByWord$Town;)V"⟩
abbrev cX1_add : ByteArray := prog_3_method_2_code
def yX1_add : MethodName := ⟨RX1, "add", "(IIII)V"⟩
abbrev cX1_loseOldest : ByteArray := prog_3_method_3_code
def yX1_loseOldest : MethodName := ⟨RX1, "loseOldest", "()V"⟩
abbrev cX1_takeBack : ByteArray := prog_3_method_4_code
def yX1_takeBack : MethodName := ⟨RX1, "takeBack", "()I"⟩
abbrev cX1_doAgain : ByteArray := prog_3_method_5_code
def yX1_doAgain : MethodName := ⟨RX1, "doAgain", "()I"⟩
def RX2 : String := "NailedByWord$Image"
def TX2 : u_T := fun k => match k with
  | 0 => ("NailedByWord$Image", "place", "[I", true)
  | 1 => ("NailedByWord$Image", "boots", "[I", true)
  | 2 => ("NailedByWord$Image", "led", "[I", true)
  | 3 => ("NailedByWord$Image", "people", "I", false)
  | 4 => ("NailedByWord$Image", "promises", "I", false)
  | 5 => ("NailedByWord$Image", "forgot", "I", false)
  | 6 => ("NailedByWord$Image", "gone", "I", false)
  | 7 => ("NailedByWord$Image", "day", "I", false)
  | _ => ("NailedByWord$Image", "taken", "Z", false)
def tyX2 : Nat → FieldType := fun k => match k with
  | 0 => .array .int
  | 1 => .array .int
  | 2 => .array .int
  | 3 => .int
  | 4 => .int
  | 5 => .int
  | 6 => .int
  | 7 => .int
  | _ => .boolean
abbrev wsX20 : List Cond := u_ws RX2 TX2 9
theorem nmX2 : ∀ a, a < 9 → ∀ b, b < 9 → a ≠ b → (TX2 a).2.1 ≠ (TX2 b).2.1 := by decide +kernel
theorem tyX2_ok : ∀ k, k < 9 → parseFieldDescriptor (TX2 k).2.2.1 = some (tyX2 k) := by decide +kernel
abbrev cX2_init : ByteArray := prog_4_method_1_code
def yX2_init : MethodName := ⟨RX2, "<init>", "()V"⟩
abbrev cX2_take : ByteArray := prog_4_method_2_code
def yX2_take : MethodName := ⟨RX2, "take", "(LNailedByWord$Town;)V"⟩
abbrev cX2_layBack : ByteArray := prog_4_method_3_code
def yX2_layBack : MethodName := ⟨RX2, "layBack", "(LNailedByWord$Town;)V"⟩
abbrev cX2_copy : ByteArray := prog_4_method_4_code
def yX2_copy : MethodName := ⟨RX2, "copy", "([I[II)V"⟩
def RX3 : String := "NailedByWord$Law"
def TX3 : u_T := fun k => match k with
  | 0 => ("NailedByWord$Law", "codes", "[I", true)
  | 1 => ("NailedByWord$Law", "stack", "[I", true)
  | _ => ("NailedByWord$Law", "length", "I", false)
def tyX3 : Nat → FieldType := fun k => match k with
  | 0 => .array .int
  | 1 => .array .int
  | _ => .int
abbrev wsX30 : List Cond := u_ws RX3 TX3 3
theorem nmX3 : ∀ a, a < 3 → ∀ b, b < 3 → a ≠ b → (TX3 a).2.1 ≠ (TX3 b).2.1 := by decide +kernel
theorem tyX3_ok : ∀ k, k < 3 → parseFieldDescriptor (TX3 k).2.2.1 = some (tyX3 k) := by decide +kernel
abbrev cX3_init : ByteArray := prog_5_method_1_code
def yX3_init : MethodName := ⟨RX3, "<init>", "()V"⟩
abbrev cX3_isTold : ByteArray := prog_5_method_2_code
def yX3_isTold : MethodName := ⟨RX3, "isTold", "()Z"⟩
abbrev cX3_become : ByteArray := prog_5_method_3_code
def yX3_become : MethodName := ⟨RX3, "become", "([II)V"⟩
abbrev cX3_worth : ByteArray := prog_5_method_4_code
def yX3_worth : MethodName := ⟨RX3, "worth", "([I)I"⟩
abbrev cX3_endOfLine : ByteArray := prog_5_method_5_code
def yX3_endOfLine : MethodName := ⟨RX3, "endOfLine", "(I)I"⟩
abbrev cX3_joined : ByteArray := prog_5_method_6_code
def yX3_joined : MethodName := ⟨RX3, "joined", "(III)I"⟩
def RX4 : String := "NailedByWord$Moment"
def TX4 : u_T := fun k => match k with
  | 0 => ("NailedByWord$Moment", "day", "I", false)
  | 1 => ("NailedByWord$Moment", "gone", "I", false)
  | 2 => ("NailedByWord$Moment", "forgot", "I", false)
  | _ => ("NailedByWord$Moment", "bootsLess", "I", false)
def tyX4 : Nat → FieldType := fun k => match k with
  | 0 => .int
  | 1 => .int
  | 2 => .int
  | _ => .int
abbrev wsX40 : List Cond := u_ws RX4 TX4 4
theorem nmX4 : ∀ a, a < 4 → ∀ b, b < 4 → a ≠ b → (TX4 a).2.1 ≠ (TX4 b).2.1 := by decide +kernel
theorem tyX4_ok : ∀ k, k < 4 → parseFieldDescriptor (TX4 k).2.2.1 = some (tyX4 k) := by decide +kernel
abbrev cX4_init : ByteArray := prog_6_method_1_code
def yX4_init : MethodName := ⟨RX4, "<init>", "()V"⟩
def RX5 : String := "NailedByWord$Release"
def TX5 : u_T := fun k => match k with
  | 0 => ("NailedByWord$Release", "town", "LNailedByWord$Town;", true)
  | 1 => ("NailedByWord$Release", "gripsLess", "[I", true)
  | _ => ("NailedByWord$Release", "heldTo", "[I", true)
def tyX5 : Nat → FieldType := fun k => match k with
  | 0 => .object "NailedByWord$Town"
  | 1 => .array .int
  | _ => .array .int
abbrev wsX50 : List Cond := u_ws RX5 TX5 3
theorem nmX5 : ∀ a, a < 3 → ∀ b, b < 3 → a ≠ b → (TX5 a).2.1 ≠ (TX5 b).2.1 := by decide +kernel
theorem tyX5_ok : ∀ k, k < 3 → parseFieldDescriptor (TX5 k).2.2.1 = some (tyX5 k) := by decide +kernel
abbrev cX5_init : ByteArray := prog_7_method_1_code
def yX5_init : MethodName := ⟨RX5, "<init>", "(LNailedByWord$Town;)V"⟩
abbrev cX5_onWhereHeStands : ByteArray := prog_7_method_2_code
def yX5_onWhereHeStands : MethodName := ⟨RX5, "onWhereHeStands", "(I)I"⟩
abbrev cX5_foresee : ByteArray := prog_7_method_3_code
def yX5_foresee : MethodName := ⟨RX5, "foresee", "(IIZ)V"⟩
abbrev cX5_isFree : ByteArray := prog_7_method_4_code
def yX5_isFree : MethodName := ⟨RX5, "isFree", "(II)Z"⟩
abbrev cX5_fewestWords : ByteArray := prog_7_method_5_code
def yX5_fewestWords : MethodName := ⟨RX5, "fewestWords", "(I)I"⟩
abbrev cX5_leastRued : ByteArray := prog_7_method_6_code
def yX5_leastRued : MethodName := ⟨RX5, "leastRued", "(I)I"⟩
abbrev cX5_nextPart : ByteArray := prog_7_method_7_code
def yX5_nextPart : MethodName := ⟨RX5, "nextPart", "(II)I"⟩
abbrev cX5_fewestPeople : ByteArray := prog_7_method_8_code
def yX5_fewestPeople : MethodName := ⟨RX5, "fewestPeople", "()I"⟩
abbrev cX5_peopleWhoCanFree : ByteArray := prog_7_method_9_code
def yX5_peopleWhoCanFree : MethodName := ⟨RX5, "peopleWhoCanFree", "()I"⟩
abbrev cX5_nobodyIsHeldWithout : ByteArray := prog_7_method_10_code
def yX5_nobodyIsHeldWithout : MethodName := ⟨RX5, "nobodyIsHeldWithout", "(I)Z"⟩
abbrev cX5_shortestRing : ByteArray := prog_7_method_11_code
def yX5_shortestRing : MethodName := ⟨RX5, "shortestRing", "()I"⟩
abbrev cX5_peopleOf : ByteArray := prog_7_method_12_code
def yX5_peopleOf : MethodName := ⟨RX5, "peopleOf", "(I)I"⟩
abbrev cX5_nextInRing : ByteArray := prog_7_method_13_code
def yX5_nextInRing : MethodName := ⟨RX5, "nextInRing", "(I)I"⟩
abbrev cX5_chance : ByteArray := prog_7_method_14_code
def yX5_chance : MethodName := ⟨RX5, "chance", "(II)J"⟩
def RX6 : String := "NailedByWord$Round"
def TX6 : u_T := fun k => match k with
  | 0 => ("NailedByWord$Round", "stops", "[I", true)
  | 1 => ("NailedByWord$Round", "trail", "[I", true)
  | 2 => ("NailedByWord$Round", "bestTrail", "[I", true)
  | 3 => ("NailedByWord$Round", "size", "I", false)
  | 4 => ("NailedByWord$Round", "start", "I", false)
  | _ => ("NailedByWord$Round", "least", "I", false)
def tyX6 : Nat → FieldType := fun k => match k with
  | 0 => .array .int
  | 1 => .array .int
  | 2 => .array .int
  | 3 => .int
  | 4 => .int
  | _ => .int
abbrev wsX60 : List Cond := u_ws RX6 TX6 6
theorem nmX6 : ∀ a, a < 6 → ∀ b, b < 6 → a ≠ b → (TX6 a).2.1 ≠ (TX6 b).2.1 := by decide +kernel
theorem tyX6_ok : ∀ k, k < 6 → parseFieldDescriptor (TX6 k).2.2.1 = some (tyX6 k) := by decide +kernel
abbrev cX6_init : ByteArray := prog_8_method_1_code
def yX6_init : MethodName := ⟨RX6, "<init>", "()V"⟩
abbrev cX6_leastWay : ByteArray := prog_8_method_2_code
def yX6_leastWay : MethodName := ⟨RX6, "leastWay", "(III)I"⟩
abbrev cX6_goOn : ByteArray := prog_8_method_3_code
def yX6_goOn : MethodName := ⟨RX6, "goOn", "(IIII)V"⟩
abbrev cX6_takeIfLess : ByteArray := prog_8_method_4_code
def yX6_takeIfLess : MethodName := ⟨RX6, "takeIfLess", "(I)V"⟩
def RX7 : String := "NailedByWord$Shelf"
def TX7 : u_T := fun k => match k with
  | 0 => ("NailedByWord$Shelf", "elements", "[J", true)
  | 1 => ("NailedByWord$Shelf", "body", "I", false)
  | 2 => ("NailedByWord$Shelf", "sort", "I", false)
  | _ => ("NailedByWord$Shelf", "length", "I", false)
def tyX7 : Nat → FieldType := fun k => match k with
  | 0 => .array .long
  | 1 => .int
  | 2 => .int
  | _ => .int
abbrev wsX70 : List Cond := u_ws RX7 TX7 4
theorem nmX7 : ∀ a, a < 4 → ∀ b, b < 4 → a ≠ b → (TX7 a).2.1 ≠ (TX7 b).2.1 := by decide +kernel
theorem tyX7_ok : ∀ k, k < 4 → parseFieldDescriptor (TX7 k).2.2.1 = some (tyX7 k) := by decide +kernel
abbrev cX7_init : ByteArray := prog_9_method_1_code
def yX7_init : MethodName := ⟨RX7, "<init>", "()V"⟩
abbrev cX7_isEmpty : ByteArray := prog_9_method_2_code
def yX7_isEmpty : MethodName := ⟨RX7, "isEmpty", "()Z"⟩
abbrev cX7_holdBody : ByteArray := prog_9_method_3_code
def yX7_holdBody : MethodName := ⟨RX7, "holdBody", "(I)V"⟩
abbrev cX7_holdRow : ByteArray := prog_9_method_4_code
def yX7_holdRow : MethodName := ⟨RX7, "holdRow", "(II)V"⟩
abbrev cX7_refusalAsBytes : ByteArray := prog_9_method_5_code
def yX7_refusalAsBytes : MethodName := ⟨RX7, "refusalAsBytes", "()I"⟩
abbrev cX7_refusalOfElement : ByteArray := prog_9_method_6_code
def yX7_refusalOfElement : MethodName := ⟨RX7, "refusalOfElement", "(I)I"⟩
abbrev cX7_number : ByteArray := prog_9_method_7_code
def yX7_number : MethodName := ⟨RX7, "number", "(I)I"⟩
abbrev cX7_hasFive : ByteArray := prog_9_method_8_code
def yX7_hasFive : MethodName := ⟨RX7, "hasFive", "(II)Z"⟩
abbrev cX7_steps : ByteArray := prog_9_method_9_code
def yX7_steps : MethodName := ⟨RX7, "steps", "()I"⟩
abbrev cX7_setElement : ByteArray := prog_9_method_10_code
def yX7_setElement : MethodName := ⟨RX7, "setElement", "(IJ)V"⟩
abbrev cX7_narrowed : ByteArray := prog_9_method_11_code
def yX7_narrowed : MethodName := ⟨RX7, "narrowed", "(J)J"⟩
abbrev cX7_takeFrom : ByteArray := prog_9_method_12_code
def yX7_takeFrom : MethodName := ⟨RX7, "takeFrom", "(LNailedByWord$Shelf;III)I"⟩
abbrev cX7_hasPart : ByteArray := prog_9_method_13_code
def yX7_hasPart : MethodName := ⟨RX7, "hasPart", "(II)Z"⟩
def RX8 : String := "NailedByWord$Tape"
def TX8 : u_T := fun k => match k with
  | 0 => ("NailedByWord$Tape", "letters", "[I", true)
  | 1 => ("NailedByWord$Tape", "codes", "[I", true)
  | 2 => ("NailedByWord$Tape", "length", "I", false)
  | 3 => ("NailedByWord$Tape", "at", "I", false)
  | _ => ("NailedByWord$Tape", "written", "I", false)
def tyX8 : Nat → FieldType := fun k => match k with
  | 0 => .array .int
  | 1 => .array .int
  | 2 => .int
  | 3 => .int
  | _ => .int
abbrev wsX80 : List Cond := u_ws RX8 TX8 5
theorem nmX8 : ∀ a, a < 5 → ∀ b, b < 5 → a ≠ b → (TX8 a).2.1 ≠ (TX8 b).2.1 := by decide +kernel
theorem tyX8_ok : ∀ k, k < 5 → parseFieldDescriptor (TX8 k).2.2.1 = some (tyX8 k) := by decide +kernel
abbrev cX8_init : ByteArray := prog_10_method_1_code
def yX8_init : MethodName := ⟨RX8, "<init>", "()V"⟩
abbrev cX8_addLetter : ByteArray := prog_10_method_2_code
def yX8_addLetter : MethodName := ⟨RX8, "addLetter", "(I)I"⟩
abbrev cX8_letter : ByteArray := prog_10_method_3_code
def yX8_letter : MethodName := ⟨RX8, "letter", "()I"⟩
abbrev cX8_write : ByteArray := prog_10_method_4_code
def yX8_write : MethodName := ⟨RX8, "write", "(I)V"⟩
abbrev cX8_readText : ByteArray := prog_10_method_5_code
def yX8_readText : MethodName := ⟨RX8, "readText", "()Z"⟩
abbrev cX8_readLine : ByteArray := prog_10_method_6_code
def yX8_readLine : MethodName := ⟨RX8, "readLine", "()Z"⟩
abbrev cX8_readChain : ByteArray := prog_10_method_7_code
def yX8_readChain : MethodName := ⟨RX8, "readChain", "(II)Z"⟩
abbrev cX8_operatorOf : ByteArray := prog_10_method_8_code
def yX8_operatorOf : MethodName := ⟨RX8, "operatorOf", "(II)I"⟩
abbrev cX8_readOperand : ByteArray := prog_10_method_9_code
def yX8_readOperand : MethodName := ⟨RX8, "readOperand", "(I)Z"⟩
abbrev cX8_readOpened : ByteArray := prog_10_method_10_code
def yX8_readOpened : MethodName := ⟨RX8, "readOpened", "(II)Z"⟩
abbrev cX8_isDigit : ByteArray := prog_10_method_11_code
def yX8_isDigit : MethodName := ⟨RX8, "isDigit", "(I)Z"⟩
abbrev cX8_readNumber : ByteArray := prog_10_method_12_code
def yX8_readNumber : MethodName := ⟨RX8, "readNumber", "()V"⟩
def RX9 : String := "NailedByWord$Town"
def TX9 : u_T := fun k => match k with
  | 0 => ("NailedByWord$Town", "place", "[I", true)
  | 1 => ("NailedByWord$Town", "boots", "[I", true)
  | 2 => ("NailedByWord$Town", "by", "[I", true)
  | 3 => ("NailedByWord$Town", "to", "[I", true)
  | 4 => ("NailedByWord$Town", "at", "[I", true)
  | 5 => ("NailedByWord$Town", "weight", "[I", true)
  | 6 => ("NailedByWord$Town", "from", "[I", true)
  | 7 => ("NailedByWord$Town", "till", "[I", true)
  | 8 => ("NailedByWord$Town", "led", "[I", true)
  | 9 => ("NailedByWord$Town", "facts", "[I", true)
  | 10 => ("NailedByWord$Town", "law", "LNailedByWord$Law;", true)
  | 11 => ("NailedByWord$Town", "moment", "LNailedByWord$Moment;", true)
  | 12 => ("NailedByWord$Town", "people", "I", false)
  | 13 => ("NailedByWord$Town", "promises", "I", false)
  | 14 => ("NailedByWord$Town", "forgot", "I", false)
  | 15 => ("NailedByWord$Town", "gone", "I", false)
  | 16 => ("NailedByWord$Town", "holds", "I", false)
  | _ => ("NailedByWord$Town", "day", "I", false)
def tyX9 : Nat → FieldType := fun k => match k with
  | 0 => .array .int
  | 1 => .array .int
  | 2 => .array .int
  | 3 => .array .int
  | 4 => .array .int
  | 5 => .array .int
  | 6 => .array .int
  | 7 => .array .int
  | 8 => .array .int
  | 9 => .array .int
  | 10 => .object "NailedByWord$Law"
  | 11 => .object "NailedByWord$Moment"
  | 12 => .int
  | 13 => .int
  | 14 => .int
  | 15 => .int
  | 16 => .int
  | _ => .int
abbrev wsX90 : List Cond := u_ws RX9 TX9 18
theorem nmX9 : ∀ a, a < 18 → ∀ b, b < 18 → a ≠ b → (TX9 a).2.1 ≠ (TX9 b).2.1 := by decide +kernel
theorem tyX9_ok : ∀ k, k < 18 → parseFieldDescriptor (TX9 k).2.2.1 = some (tyX9 k) := by decide +kernel
abbrev cX9_init : ByteArray := prog_11_method_1_code
def yX9_init : MethodName := ⟨RX9, "<init>", "()V"⟩
abbrev cX9_hasPerson : ByteArray := prog_11_method_2_code
def yX9_hasPerson : MethodName := ⟨RX9, "hasPerson", "(I)Z"⟩
abbrev cX9_hasPromise : ByteArray := prog_11_method_3_code
def yX9_hasPromise : MethodName := ⟨RX9, "hasPromise", "(I)Z"⟩
abbrev cX9_addPerson : ByteArray := prog_11_method_4_code
def yX9_addPerson : MethodName := ⟨RX9, "addPerson", "(I)I"⟩
abbrev cX9_mayPromise : ByteArray := prog_11_method_5_code
def yX9_mayPromise : MethodName := ⟨RX9, "mayPromise", "(IIIII)Z"⟩
abbrev cX9_addPromise : ByteArray := prog_11_method_6_code
def yX9_addPromise : MethodName := ⟨RX9, "addPromise", "(IIIII)I"⟩
abbrev cX9_hasNumber : ByteArray := prog_11_method_7_code
def yX9_hasNumber : MethodName := ⟨RX9, "hasNumber", "(II)Z"⟩
abbrev cX9_numberOf : ByteArray := prog_11_method_8_code
def yX9_numberOf : MethodName := ⟨RX9, "numberOf", "(II)I"⟩
abbrev cX9_setNumber : ByteArray := prog_11_method_9_code
def yX9_setNumber : MethodName := ⟨RX9, "setNumber", "(III)V"⟩
abbrev cX9_now : ByteArray := prog_11_method_10_code
def yX9_now : MethodName := ⟨RX9, "now", "()LNailedByWord$Moment;"⟩
abbrev cX9_isOn : ByteArray := prog_11_method_11_code
def yX9_isOn : MethodName := ⟨RX9, "isOn", "(III)Z"⟩
abbrev cX9_othersOn : ByteArray := prog_11_method_12_code
def yX9_othersOn : MethodName := ⟨RX9, "othersOn", "(ILNailedByWord$Moment;)I"⟩
abbrev cX9_hardness : ByteArray := prog_11_method_13_code
def yX9_hardness : MethodName := ⟨RX9, "hardness", "(IILNailedByWord$Moment;)I"⟩
abbrev cX9_within : ByteArray := prog_11_method_14_code
def yX9_within : MethodName := ⟨RX9, "within", "(I)I"⟩
abbrev cX9_gripsAt : ByteArray := prog_11_method_15_code
def yX9_gripsAt : MethodName := ⟨RX9, "gripsAt", "(IILNailedByWord$Moment;)I"⟩
abbrev cX9_gripsNow : ByteArray := prog_11_method_16_code
def yX9_gripsNow : MethodName := ⟨RX9, "gripsNow", "(I)I"⟩
abbrev cX9_gripPlaces : ByteArray := prog_11_method_17_code
def yX9_gripPlaces : MethodName := ⟨RX9, "gripPlaces", "(ILNailedByWord$Moment;)I"⟩
abbrev cX9_onAt : ByteArray := prog_11_method_18_code
def yX9_onAt : MethodName := ⟨RX9, "onAt", "(III)I"⟩
abbrev cX9_hardestNow : ByteArray := prog_11_method_19_code
def yX9_hardestNow : MethodName := ⟨RX9, "hardestNow", "(I)I"⟩
abbrev cX9_placesOfHeld : ByteArray := prog_11_method_20_code
def yX9_placesOfHeld : MethodName := ⟨RX9, "placesOfHeld", "()I"⟩
abbrev cX9_weightOf : ByteArray := prog_11_method_21_code
def yX9_weightOf : MethodName := ⟨RX9, "weightOf", "(I)I"⟩
def RX10 : String := "NailedByWord$Walks"
def TX10 : u_T := fun k => match k with
  | 0 => ("NailedByWord$Walks", "town", "LNailedByWord$Town;", true)
  | 1 => ("NailedByWord$Walks", "gripped", "[I", true)
  | 2 => ("NailedByWord$Walks", "ways", "[I", true)
  | 3 => ("NailedByWord$Walks", "bestWays", "[I", true)
  | 4 => ("NailedByWord$Walks", "bestWeight", "I", false)
  | 5 => ("NailedByWord$Walks", "one", "I", false)
  | 6 => ("NailedByWord$Walks", "goal", "I", false)
  | _ => ("NailedByWord$Walks", "mostForgotten", "I", false)
def tyX10 : Nat → FieldType := fun k => match k with
  | 0 => .object "NailedByWord$Town"
  | 1 => .array .int
  | 2 => .array .int
  | 3 => .array .int
  | 4 => .int
  | 5 => .int
  | 6 => .int
  | _ => .int
abbrev wsX100 : List Cond := u_ws RX10 TX10 8
theorem nmX10 : ∀ a, a < 8 → ∀ b, b < 8 → a ≠ b → (TX10 a).2.1 ≠ (TX10 b).2.1 := by decide +kernel
theorem tyX10_ok : ∀ k, k < 8 → parseFieldDescriptor (TX10 k).2.2.1 = some (tyX10 k) := by decide +kernel
abbrev cX10_init : ByteArray := prog_12_method_1_code
def yX10_init : MethodName := ⟨RX10, "<init>", "(LNailedByWord$Town;)V"⟩
abbrev cX10_thinkOf : ByteArray := prog_12_method_2_code
def yX10_thinkOf : MethodName := ⟨RX10, "thinkOf", "(II)V"⟩
abbrev cX10_isHeld : ByteArray := prog_12_method_3_code
def yX10_isHeld : MethodName := ⟨RX10, "isHeld", "(II)Z"⟩
abbrev cX10_keptAt : ByteArray := prog_12_method_4_code
def yX10_keptAt : MethodName := ⟨RX10, "keptAt", "(II)I"⟩
abbrev cX10_alongRoute : ByteArray := prog_12_method_5_code
def yX10_alongRoute : MethodName := ⟨RX10, "alongRoute", "(LNailedByWord$Shelf;III)I"⟩
abbrev cX10_bestSteps : ByteArray := prog_12_method_6_code
def yX10_bestSteps : MethodName := ⟨RX10, "bestSteps", "(III)I"⟩
abbrev cX10_tryWays : ByteArray := prog_12_method_7_code
def yX10_tryWays : MethodName := ⟨RX10, "tryWays", "(IIII)V"⟩
abbrev cX10_takeIfBetter : ByteArray := prog_12_method_8_code
def yX10_takeIfBetter : MethodName := ⟨RX10, "takeIfBetter", "(I)V"⟩
abbrev cX10_daysTo : ByteArray := prog_12_method_9_code
def yX10_daysTo : MethodName := ⟨RX10, "daysTo", "(II)I"⟩
abbrev cX10_neverKept : ByteArray := prog_12_method_10_code
def yX10_neverKept : MethodName := ⟨RX10, "neverKept", "(II)I"⟩
abbrev cX10_onAtAny : ByteArray := prog_12_method_11_code
def yX10_onAtAny : MethodName := ⟨RX10, "onAtAny", "(II)I"⟩
abbrev cX10_firstWrong : ByteArray := prog_12_method_12_code
def yX10_firstWrong : MethodName := ⟨RX10, "firstWrong", "(LNailedByWord$Shelf;LNailedByWord$Shelf;I)I"⟩
abbrev cX10_fits : ByteArray := prog_12_method_13_code
def yX10_fits : MethodName := ⟨RX10, "fits", "(LNailedByWord$Shelf;I)Z"⟩
abbrev cX10_placesSeen : ByteArray := prog_12_method_14_code
def yX10_placesSeen : MethodName := ⟨RX10, "placesSeen", "(I)I"⟩
abbrev cX10_withChild : ByteArray := prog_12_method_15_code
def yX10_withChild : MethodName := ⟨RX10, "withChild", "(IIIII)I"⟩
abbrev cX10_thinkOfTurns : ByteArray := prog_12_method_16_code
def yX10_thinkOfTurns : MethodName := ⟨RX10, "thinkOfTurns", "(II)V"⟩
abbrev cX10_mansDeed : ByteArray := prog_12_method_17_code
def yX10_mansDeed : MethodName := ⟨RX10, "mansDeed", "(IIII)I"⟩
abbrev cX10_childsDeed : ByteArray := prog_12_method_18_code
def yX10_childsDeed : MethodName := ⟨RX10, "childsDeed", "(IIII)I"⟩
abbrev cX10_yearsByDraws : ByteArray := prog_12_method_19_code
def yX10_yearsByDraws : MethodName := ⟨RX10, "yearsByDraws", "(IIIII)I"⟩
def RX11 : String := "NailedByWord"
def TX11 : u_T := fun k => match k with
  | 0 => ("NailedByWord", "town", "LNailedByWord$Town;", true)
  | 1 => ("NailedByWord", "tape", "LNailedByWord$Tape;", true)
  | 2 => ("NailedByWord", "walks", "LNailedByWord$Walks;", true)
  | 3 => ("NailedByWord", "release", "LNailedByWord$Release;", true)
  | 4 => ("NailedByWord", "round", "LNailedByWord$Round;", true)
  | 5 => ("NailedByWord", "changes", "LNailedByWord$Changes;", true)
  | 6 => ("NailedByWord", "kept", "LNailedByWord$Image;", true)
  | 7 => ("NailedByWord", "bodies", "LNailedByWord$Bodies;", true)
  | _ => ("NailedByWord", "shelves", "[LNailedByWord$Shelf;", true)
def tyX11 : Nat → FieldType := fun k => match k with
  | 0 => .object "NailedByWord$Town"
  | 1 => .object "NailedByWord$Tape"
  | 2 => .object "NailedByWord$Walks"
  | 3 => .object "NailedByWord$Release"
  | 4 => .object "NailedByWord$Round"
  | 5 => .object "NailedByWord$Changes"
  | 6 => .object "NailedByWord$Image"
  | 7 => .object "NailedByWord$Bodies"
  | _ => .array (.object "NailedByWord$Shelf")
abbrev wsX110 : List Cond := u_ws RX11 TX11 9
theorem nmX11 : ∀ a, a < 9 → ∀ b, b < 9 → a ≠ b → (TX11 a).2.1 ≠ (TX11 b).2.1 := by decide +kernel
theorem tyX11_ok : ∀ k, k < 9 → parseFieldDescriptor (TX11 k).2.2.1 = some (tyX11 k) := by decide +kernel
abbrev cX11_init : ByteArray := prog_1_method_1_code
def yX11_init : MethodName := ⟨RX11, "<init>", "()V"⟩
abbrev cX11_person : ByteArray := prog_1_method_2_code
def yX11_person : MethodName := ⟨RX11, "person", "(I)I"⟩
abbrev cX11_promise : ByteArray := prog_1_method_3_code
def yX11_promise : MethodName := ⟨RX11, "promise", "(II)I"⟩
abbrev cX11_promises : ByteArray := prog_1_method_4_code
def yX11_promises : MethodName := ⟨RX11, "promises", "(III)I"⟩
abbrev cX11_promisesFrom : ByteArray := prog_1_method_5_code
def yX11_promisesFrom : MethodName := ⟨RX11, "promisesFrom", "(LNailedByWord$Shelf;II)I"⟩
abbrev cX11_promiseFrom : ByteArray := prog_1_method_6_code
def yX11_promiseFrom : MethodName := ⟨RX11, "promiseFrom", "(LNailedByWord$Shelf;I)Z"⟩
abbrev cX11_mend : ByteArray := prog_1_method_7_code
def yX11_mend : MethodName := ⟨RX11, "mend", "(III)I"⟩
abbrev cX11_of : ByteArray := prog_1_method_8_code
def yX11_of : MethodName := ⟨RX11, "of", "(II)I"⟩
abbrev cX11_feed : ByteArray := prog_1_method_9_code
def yX11_feed : MethodName := ⟨RX11, "feed", "(I)I"⟩
abbrev cX11_law : ByteArray := prog_1_method_10_code
def yX11_law : MethodName := ⟨RX11, "law", "()I"⟩
abbrev cX11_hard : ByteArray := prog_1_method_11_code
def yX11_hard : MethodName := ⟨RX11, "hard", "(I)I"⟩
abbrev cX11_route : ByteArray := prog_1_method_12_code
def yX11_route : MethodName := ⟨RX11, "route", "(IIII)I"⟩
abbrev cX11_held : ByteArray := prog_1_method_13_code
def yX11_held : MethodName := ⟨RX11, "held", "(II)I"⟩
abbrev cX11_best : ByteArray := prog_1_method_14_code
def yX11_best : MethodName := ⟨RX11, "best", "(III)I"⟩
abbrev cX11_soonest : ByteArray := prog_1_method_15_code
def yX11_soonest : MethodName := ⟨RX11, "soonest", "(II)I"⟩
abbrev cX11_free : ByteArray := prog_1_method_16_code
def yX11_free : MethodName := ⟨RX11, "free", "(I)I"⟩
abbrev cX11_words : ByteArray := prog_1_method_17_code
def yX11_words : MethodName := ⟨RX11, "words", "(II)I"⟩
abbrev cX11_all : ByteArray := prog_1_method_18_code
def yX11_all : MethodName := ⟨RX11, "all", "(I)I"⟩
abbrev cX11_ring : ByteArray := prog_1_method_19_code
def yX11_ring : MethodName := ⟨RX11, "ring", "()I"⟩
abbrev cX11_breaks : ByteArray := prog_1_method_20_code
def yX11_breaks : MethodName := ⟨RX11, "breaks", "(II)I"⟩
abbrev cX11_judge : ByteArray := prog_1_method_21_code
def yX11_judge : MethodName := ⟨RX11, "judge", "(II)I"⟩
abbrev cX11_can : ByteArray := prog_1_method_22_code
def yX11_can : MethodName := ⟨RX11, "can", "(II)I"⟩
abbrev cX11_who : ByteArray := prog_1_method_23_code
def yX11_who : MethodName := ⟨RX11, "who", "(I)I"⟩
abbrev cX11_feeds : ByteArray := prog_1_method_24_code
def yX11_feeds : MethodName := ⟨RX11, "feeds", "(II)I"⟩
abbrev cX11_odds : ByteArray := prog_1_method_25_code
def yX11_odds : MethodName := ⟨RX11, "odds", "(II)J"⟩
abbrev cX11_rued : ByteArray := prog_1_method_26_code
def yX11_rued : MethodName := ⟨RX11, "rued", "(II)I"⟩
abbrev cX11_byTurns : ByteArray := prog_1_method_27_code
def yX11_byTurns : MethodName := ⟨RX11, "byTurns", "(IIII)I"⟩
abbrev cX11_drawn : ByteArray := prog_1_method_28_code
def yX11_drawn : MethodName := ⟨RX11, "drawn", "(IIII)I"⟩
abbrev cX11_step : ByteArray := prog_1_method_29_code
def yX11_step : MethodName := ⟨RX11, "step", "(II)I"⟩
abbrev cX11_pull : ByteArray := prog_1_method_30_code
def yX11_pull : MethodName := ⟨RX11, "pull", "(I)I"⟩
abbrev cX11_letOff : ByteArray := prog_1_method_31_code
def yX11_letOff : MethodName := ⟨RX11, "letOff", "(I)I"⟩
abbrev cX11_forget : ByteArray := prog_1_method_32_code
def yX11_forget : MethodName := ⟨RX11, "forget", "(I)I"⟩
abbrev cX11_day : ByteArray := prog_1_method_33_code
def yX11_day : MethodName := ⟨RX11, "day", "()I"⟩
abbrev cX11_led : ByteArray := prog_1_method_34_code
def yX11_led : MethodName := ⟨RX11, "led", "(I)I"⟩
abbrev cX11_image : ByteArray := prog_1_method_35_code
def yX11_image : MethodName := ⟨RX11, "image", "()I"⟩
abbrev cX11_back : ByteArray := prog_1_method_36_code
def yX11_back : MethodName := ⟨RX11, "back", "()I"⟩
abbrev cX11_undo : ByteArray := prog_1_method_37_code
def yX11_undo : MethodName := ⟨RX11, "undo", "()I"⟩
abbrev cX11_redo : ByteArray := prog_1_method_38_code
def yX11_redo : MethodName := ⟨RX11, "redo", "()I"⟩
abbrev cX11_body : ByteArray := prog_1_method_39_code
def yX11_body : MethodName := ⟨RX11, "body", "(I)I"⟩
abbrev cX11_act : ByteArray := prog_1_method_40_code
def yX11_act : MethodName := ⟨RX11, "act", "(III)I"⟩
abbrev cX11_trace : ByteArray := prog_1_method_41_code
def yX11_trace : MethodName := ⟨RX11, "trace", "(I)I"⟩
abbrev cX11_keep : ByteArray := prog_1_method_42_code
def yX11_keep : MethodName := ⟨RX11, "keep", "(II)I"⟩
abbrev cX11_row : ByteArray := prog_1_method_43_code
def yX11_row : MethodName := ⟨RX11, "row", "(III)I"⟩
abbrev cX11_put : ByteArray := prog_1_method_44_code
def yX11_put : MethodName := ⟨RX11, "put", "(IIJ)I"⟩
abbrev cX11_element : ByteArray := prog_1_method_45_code
def yX11_element : MethodName := ⟨RX11, "element", "(II)J"⟩
abbrev cX11_shift : ByteArray := prog_1_method_46_code
def yX11_shift : MethodName := ⟨RX11, "shift", "(IIIII)I"⟩
abbrev cX11_taken : ByteArray := prog_1_method_47_code
def yX11_taken : MethodName := ⟨RX11, "taken", "(II)I"⟩
abbrev cX11_count : ByteArray := prog_1_method_48_code
def yX11_count : MethodName := ⟨RX11, "count", "(I)I"⟩
abbrev cX11_isBit : ByteArray := prog_1_method_49_code
def yX11_isBit : MethodName := ⟨RX11, "isBit", "(I)Z"⟩
abbrev cX11_hasBit : ByteArray := prog_1_method_50_code
def yX11_hasBit : MethodName := ⟨RX11, "hasBit", "(II)Z"⟩
abbrev cX11_isPlace : ByteArray := prog_1_method_51_code
def yX11_isPlace : MethodName := ⟨RX11, "isPlace", "(I)Z"⟩
abbrev cX11_isShelf : ByteArray := prog_1_method_52_code
def yX11_isShelf : MethodName := ⟨RX11, "isShelf", "(I)Z"⟩
abbrev cX11_isKind : ByteArray := prog_1_method_53_code
def yX11_isKind : MethodName := ⟨RX11, "isKind", "(I)Z"⟩
abbrev cX11_dayBehind : ByteArray := prog_1_method_54_code
def yX11_dayBehind : MethodName := ⟨RX11, "dayBehind", "(II)I"⟩
abbrev cX11_stepped : ByteArray := prog_1_method_55_code
def yX11_stepped : MethodName := ⟨RX11, "stepped", "(II)I"⟩
abbrev cX11_distance : ByteArray := prog_1_method_56_code
def yX11_distance : MethodName := ⟨RX11, "distance", "(II)I"⟩
abbrev cX11_spread : ByteArray := prog_1_method_57_code
def yX11_spread : MethodName := ⟨RX11, "spread", "(II)I"⟩
def RX12 : String := "NailedByWordModel"
def TX12 : u_T := fun k => match k with
  | 0 => ("NailedByWordModel", "code", "I", false)
  | 1 => ("NailedByWordModel", "many", "I", false)
  | 2 => ("NailedByWordModel", "placeOf", "[I", true)
  | 3 => ("NailedByWordModel", "bootsOf", "[I", true)
  | 4 => ("NailedByWordModel", "promiseMany", "I", false)
  | 5 => ("NailedByWordModel", "byOf", "[I", true)
  | 6 => ("NailedByWordModel", "toOf", "[I", true)
  | 7 => ("NailedByWordModel", "atOf", "[I", true)
  | 8 => ("NailedByWordModel", "weightOf", "[I", true)
  | 9 => ("NailedByWordModel", "fromOf", "[I", true)
  | 10 => ("NailedByWordModel", "tillOf", "[I", true)
  | 11 => ("NailedByWordModel", "forgotOf", "[I", true)
  | 12 => ("NailedByWordModel", "goneOf", "[I", true)
  | 13 => ("NailedByWordModel", "holdsFrom", "I", false)
  | 14 => ("NailedByWordModel", "today", "I", false)
  | 15 => ("NailedByWordModel", "ledOf", "[I", true)
  | 16 => ("NailedByWordModel", "doneMany", "I", false)
  | 17 => ("NailedByWordModel", "undoneMany", "I", false)
  | 18 => ("NailedByWordModel", "changeOf", "[I", true)
  | 19 => ("NailedByWordModel", "changeAt", "[I", true)
  | 20 => ("NailedByWordModel", "before", "[I", true)
  | 21 => ("NailedByWordModel", "behind", "[I", true)
  | 22 => ("NailedByWordModel", "tape", "[B", true)
  | 23 => ("NailedByWordModel", "taped", "I", false)
  | 24 => ("NailedByWordModel", "here", "I", false)
  | 25 => ("NailedByWordModel", "fault", "I", false)
  | 26 => ("NailedByWordModel", "open", "I", false)
  | 27 => ("NailedByWordModel", "laid", "I", false)
  | 28 => ("NailedByWordModel", "act", "[B", true)
  | 29 => ("NailedByWordModel", "with", "[I", true)
  | 30 => ("NailedByWordModel", "lineMany", "[I", true)
  | 31 => ("NailedByWordModel", "testEnd", "[S", true)
  | 32 => ("NailedByWordModel", "lineEnd", "[S", true)
  | 33 => ("NailedByWordModel", "facts", "[I", true)
  | 34 => ("NailedByWordModel", "pile", "[I", true)
  | 35 => ("NailedByWordModel", "hasLaw", "Z", false)
  | 36 => ("NailedByWordModel", "heldDays", "I", false)
  | 37 => ("NailedByWordModel", "keptBits", "I", false)
  | 38 => ("NailedByWordModel", "tried", "[I", true)
  | 39 => ("NailedByWordModel", "bestTried", "[I", true)
  | 40 => ("NailedByWordModel", "mostKept", "I", false)
  | 41 => ("NailedByWordModel", "rounds", "[I", true)
  | 42 => ("NailedByWordModel", "bestRound", "[I", true)
  | 43 => ("NailedByWordModel", "roundMany", "I", false)
  | 44 => ("NailedByWordModel", "leastFar", "I", false)
  | 45 => ("NailedByWordModel", "freeWays", "J", false)
  | 46 => ("NailedByWordModel", "allWays", "J", false)
  | 47 => ("NailedByWordModel", "man", "I", false)
  | 48 => ("NailedByWordModel", "child", "I", false)
  | 49 => ("NailedByWordModel", "goal", "I", false)
  | 50 => ("NailedByWordModel", "hasImage", "Z", false)
  | 51 => ("NailedByWordModel", "keptDay", "I", false)
  | 52 => ("NailedByWordModel", "keptMany", "I", false)
  | 53 => ("NailedByWordModel", "keptPromises", "I", false)
  | 54 => ("NailedByWordModel", "keptPlaces", "[I", true)
  | 55 => ("NailedByWordModel", "keptBoots", "[I", true)
  | 56 => ("NailedByWordModel", "keptForgot", "[I", true)
  | 57 => ("NailedByWordModel", "keptGone", "[I", true)
  | 58 => ("NailedByWordModel", "keptLed", "[I", true)
  | 59 => ("NailedByWordModel", "bodies", "I", false)
  | 60 => ("NailedByWordModel", "kind", "[I", true)
  | 61 => ("NailedByWordModel", "traces", "I", false)
  | 62 => ("NailedByWordModel", "traced", "[I", true)
  | 63 => ("NailedByWordModel", "holds", "[I", true)
  | 64 => ("NailedByWordModel", "size", "[I", true)
  | 65 => ("NailedByWordModel", "elements", "[J", true)
  | _ => ("NailedByWordModel", "shifted", "[J", true)
def tyX12 : Nat → FieldType := fun k => match k with
  | 0 => .int
  | 1 => .int
  | 2 => .array .int
  | 3 => .array .int
  | 4 => .int
  | 5 => .array .int
  | 6 => .array .int
  | 7 => .array .int
  | 8 => .array .int
  | 9 => .array .int
  | 10 => .array .int
  | 11 => .array .int
  | 12 => .array .int
  | 13 => .int
  | 14 => .int
  | 15 => .array .int
  | 16 => .int
  | 17 => .int
  | 18 => .array .int
  | 19 => .array .int
  | 20 => .array .int
  | 21 => .array .int
  | 22 => .array .byte
  | 23 => .int
  | 24 => .int
  | 25 => .int
  | 26 => .int
  | 27 => .int
  | 28 => .array .byte
  | 29 => .array .int
  | 30 => .array .int
  | 31 => .array .short
  | 32 => .array .short
  | 33 => .array .int
  | 34 => .array .int
  | 35 => .boolean
  | 36 => .int
  | 37 => .int
  | 38 => .array .int
  | 39 => .array .int
  | 40 => .int
  | 41 => .array .int
  | 42 => .array .int
  | 43 => .int
  | 44 => .int
  | 45 => .long
  | 46 => .long
  | 47 => .int
  | 48 => .int
  | 49 => .int
  | 50 => .boolean
  | 51 => .int
  | 52 => .int
  | 53 => .int
  | 54 => .array .int
  | 55 => .array .int
  | 56 => .array .int
  | 57 => .array .int
  | 58 => .array .int
  | 59 => .int
  | 60 => .array .int
  | 61 => .int
  | 62 => .array .int
  | 63 => .array .int
  | 64 => .array .int
  | 65 => .array .long
  | _ => .array .long
abbrev wsX120 : List Cond := u_ws RX12 TX12 67
theorem nmX12 : ∀ a, a < 67 → ∀ b, b < 67 → a ≠ b → (TX12 a).2.1 ≠ (TX12 b).2.1 := by decide +kernel
theorem tyX12_ok : ∀ k, k < 67 → parseFieldDescriptor (TX12 k).2.2.1 = some (tyX12 k) := by decide +kernel
abbrev cX12_init : ByteArray := prog_14_method_1_code
def yX12_init : MethodName := ⟨RX12, "<init>", "()V"⟩
abbrev cX12_in : ByteArray := prog_14_method_3_code
def yX12_in : MethodName := ⟨RX12, "in", "(III)Z"⟩
abbrev cX12_has : ByteArray := prog_14_method_4_code
def yX12_has : MethodName := ⟨RX12, "has", "(II)Z"⟩
abbrev cX12_bitsOf : ByteArray := prog_14_method_5_code
def yX12_bitsOf : MethodName := ⟨RX12, "bitsOf", "(I)I"⟩
abbrev cX12_isPlaceOf : ByteArray := prog_14_method_6_code
def yX12_isPlaceOf : MethodName := ⟨RX12, "isPlaceOf", "(I)Z"⟩
abbrev cX12_isOne : ByteArray := prog_14_method_7_code
def yX12_isOne : MethodName := ⟨RX12, "isOne", "(I)Z"⟩
abbrev cX12_isPromise : ByteArray := prog_14_method_8_code
def yX12_isPromise : MethodName := ⟨RX12, "isPromise", "(I)Z"⟩
abbrev cX12_areTwo : ByteArray := prog_14_method_9_code
def yX12_areTwo : MethodName := ⟨RX12, "areTwo", "(II)Z"⟩
abbrev cX12_person : ByteArray := prog_14_method_10_code
def yX12_person : MethodName := ⟨RX12, "person", "(I)I"⟩
abbrev cX12_addPromise : ByteArray := prog_14_method_11_code
def yX12_addPromise : MethodName := ⟨RX12, "addPromise", "(IIIII)I"⟩
abbrev cX12_promise : ByteArray := prog_14_method_12_code
def yX12_promise : MethodName := ⟨RX12, "promise", "(II)I"⟩
abbrev cX12_promises : ByteArray := prog_14_method_13_code
def yX12_promises : MethodName := ⟨RX12, "promises", "(III)I"⟩
abbrev cX12_valueAt : ByteArray := prog_14_method_14_code
def yX12_valueAt : MethodName := ⟨RX12, "valueAt", "(II)I"⟩
abbrev cX12_lays : ByteArray := prog_14_method_15_code
def yX12_lays : MethodName := ⟨RX12, "lays", "(III)V"⟩
abbrev cX12_changes : ByteArray := prog_14_method_16_code
def yX12_changes : MethodName := ⟨RX12, "changes", "(III)I"⟩
abbrev cX12_undo : ByteArray := prog_14_method_17_code
def yX12_undo : MethodName := ⟨RX12, "undo", "()I"⟩
abbrev cX12_redo : ByteArray := prog_14_method_18_code
def yX12_redo : MethodName := ⟨RX12, "redo", "()I"⟩
abbrev cX12_isPlace : ByteArray := prog_14_method_19_code
def yX12_isPlace : MethodName := ⟨RX12, "isPlace", "(II)Z"⟩
abbrev cX12_mayHave : ByteArray := prog_14_method_20_code
def yX12_mayHave : MethodName := ⟨RX12, "mayHave", "(II)Z"⟩
abbrev cX12_mend : ByteArray := prog_14_method_21_code
def yX12_mend : MethodName := ⟨RX12, "mend", "(III)I"⟩
abbrev cX12_of : ByteArray := prog_14_method_22_code
def yX12_of : MethodName := ⟨RX12, "of", "(II)I"⟩
abbrev cX12_feed : ByteArray := prog_14_method_23_code
def yX12_feed : MethodName := ⟨RX12, "feed", "(I)I"⟩
abbrev cX12_look : ByteArray := prog_14_method_24_code
def yX12_look : MethodName := ⟨RX12, "look", "()I"⟩
abbrev cX12_wrong : ByteArray := prog_14_method_25_code
def yX12_wrong : MethodName := ⟨RX12, "wrong", "()V"⟩
abbrev cX12_addStep : ByteArray := prog_14_method_26_code
def yX12_addStep : MethodName := ⟨RX12, "addStep", "(II)V"⟩
abbrev cX12_nameOf : ByteArray := prog_14_method_27_code
def yX12_nameOf : MethodName := ⟨RX12, "nameOf", "(I)I"⟩
abbrev cX12_opens : ByteArray := prog_14_method_28_code
def yX12_opens : MethodName := ⟨RX12, "opens", "()Z"⟩
abbrev cX12_figure : ByteArray := prog_14_method_29_code
def yX12_figure : MethodName := ⟨RX12, "figure", "()V"⟩
abbrev cX12_operand : ByteArray := prog_14_method_30_code
def yX12_operand : MethodName := ⟨RX12, "operand", "()V"⟩
abbrev cX12_product : ByteArray := prog_14_method_31_code
def yX12_product : MethodName := ⟨RX12, "product", "()V"⟩
abbrev cX12_sum : ByteArray := prog_14_method_32_code
def yX12_sum : MethodName := ⟨RX12, "sum", "()V"⟩
abbrev cX12_compared : ByteArray := prog_14_method_33_code
def yX12_compared : MethodName := ⟨RX12, "compared", "()V"⟩
abbrev cX12_both : ByteArray := prog_14_method_34_code
def yX12_both : MethodName := ⟨RX12, "both", "()V"⟩
abbrev cX12_either : ByteArray := prog_14_method_35_code
def yX12_either : MethodName := ⟨RX12, "either", "()V"⟩
abbrev cX12_line : ByteArray := prog_14_method_36_code
def yX12_line : MethodName := ⟨RX12, "line", "()V"⟩
abbrev cX12_readText : ByteArray := prog_14_method_37_code
def yX12_readText : MethodName := ⟨RX12, "readText", "(I)I"⟩
abbrev cX12_twoOf : ByteArray := prog_14_method_38_code
def yX12_twoOf : MethodName := ⟨RX12, "twoOf", "(III)I"⟩
abbrev cX12_worked : ByteArray := prog_14_method_39_code
def yX12_worked : MethodName := ⟨RX12, "worked", "(III)I"⟩
abbrev cX12_gives : ByteArray := prog_14_method_40_code
def yX12_gives : MethodName := ⟨RX12, "gives", "(I)I"⟩
abbrev cX12_law : ByteArray := prog_14_method_41_code
def yX12_law : MethodName := ⟨RX12, "law", "()I"⟩
abbrev cX12_isOn : ByteArray := prog_14_method_42_code
def yX12_isOn : MethodName := ⟨RX12, "isOn", "(II)Z"⟩
abbrev cX12_othersWith : ByteArray := prog_14_method_43_code
def yX12_othersWith : MethodName := ⟨RX12, "othersWith", "(II)I"⟩
abbrev cX12_hardOn : ByteArray := prog_14_method_44_code
def yX12_hardOn : MethodName := ⟨RX12, "hardOn", "(II)I"⟩
abbrev cX12_hard : ByteArray := prog_14_method_45_code
def yX12_hard : MethodName := ⟨RX12, "hard", "(I)I"⟩
abbrev cX12_holdsAt : ByteArray := prog_14_method_46_code
def yX12_holdsAt : MethodName := ⟨RX12, "holdsAt", "(III)Z"⟩
abbrev cX12_heldBy : ByteArray := prog_14_method_47_code
def yX12_heldBy : MethodName := ⟨RX12, "heldBy", "(III)I"⟩
abbrev cX12_isHeld : ByteArray := prog_14_method_48_code
def yX12_isHeld : MethodName := ⟨RX12, "isHeld", "(III)Z"⟩
abbrev cX12_hardestNow : ByteArray := prog_14_method_49_code
def yX12_hardestNow : MethodName := ⟨RX12, "hardestNow", "(I)I"⟩
abbrev cX12_held : ByteArray := prog_14_method_50_code
def yX12_held : MethodName := ⟨RX12, "held", "(II)I"⟩
abbrev cX12_stepped : ByteArray := prog_14_method_51_code
def yX12_stepped : MethodName := ⟨RX12, "stepped", "(II)I"⟩
abbrev cX12_dayOn : ByteArray := prog_14_method_52_code
def yX12_dayOn : MethodName := ⟨RX12, "dayOn", "(I)I"⟩
abbrev cX12_rowFault : ByteArray := prog_14_method_53_code
def yX12_rowFault : MethodName := ⟨RX12, "rowFault", "(I)I"⟩
abbrev cX12_at : ByteArray := prog_14_method_54_code
def yX12_at : MethodName := ⟨RX12, "at", "(II)I"⟩
abbrev cX12_stepsOf : ByteArray := prog_14_method_55_code
def yX12_stepsOf : MethodName := ⟨RX12, "stepsOf", "(I)I"⟩
abbrev cX12_keptAt : ByteArray := prog_14_method_56_code
def yX12_keptAt : MethodName := ⟨RX12, "keptAt", "(III)I"⟩
abbrev cX12_weightsOf : ByteArray := prog_14_method_57_code
def yX12_weightsOf : MethodName := ⟨RX12, "weightsOf", "(I)I"⟩
abbrev cX12_route : ByteArray := prog_14_method_58_code
def yX12_route : MethodName := ⟨RX12, "route", "(IIII)I"⟩
abbrev cX12_goBest : ByteArray := prog_14_method_59_code
def yX12_goBest : MethodName := ⟨RX12, "goBest", "(IIIII)V"⟩
abbrev cX12_best : ByteArray := prog_14_method_60_code
def yX12_best : MethodName := ⟨RX12, "best", "(III)I"⟩
abbrev cX12_dayFrom : ByteArray := prog_14_method_61_code
def yX12_dayFrom : MethodName := ⟨RX12, "dayFrom", "(III)I"⟩
abbrev cX12_soonest : ByteArray := prog_14_method_62_code
def yX12_soonest : MethodName := ⟨RX12, "soonest", "(II)I"⟩
abbrev cX12_free : ByteArray := prog_14_method_63_code
def yX12_free : MethodName := ⟨RX12, "free", "(I)I"⟩
abbrev cX12_hereOf : ByteArray := prog_14_method_64_code
def yX12_hereOf : MethodName := ⟨RX12, "hereOf", "(I)I"⟩
abbrev cX12_freesBy : ByteArray := prog_14_method_65_code
def yX12_freesBy : MethodName := ⟨RX12, "freesBy", "(III)Z"⟩
abbrev cX12_words : ByteArray := prog_14_method_66_code
def yX12_words : MethodName := ⟨RX12, "words", "(II)I"⟩
abbrev cX12_breaks : ByteArray := prog_14_method_67_code
def yX12_breaks : MethodName := ⟨RX12, "breaks", "(II)I"⟩
abbrev cX12_nobodyHeld : ByteArray := prog_14_method_68_code
def yX12_nobodyHeld : MethodName := ⟨RX12, "nobodyHeld", "()Z"⟩
abbrev cX12_promisedTo : ByteArray := prog_14_method_69_code
def yX12_promisedTo : MethodName := ⟨RX12, "promisedTo", "(I)I"⟩
abbrev cX12_allFree : ByteArray := prog_14_method_70_code
def yX12_allFree : MethodName := ⟨RX12, "allFree", "(I)Z"⟩
abbrev cX12_all : ByteArray := prog_14_method_71_code
def yX12_all : MethodName := ⟨RX12, "all", "(I)I"⟩
abbrev cX12_heldToward : ByteArray := prog_14_method_72_code
def yX12_heldToward : MethodName := ⟨RX12, "heldToward", "(I)I"⟩
abbrev cX12_ring : ByteArray := prog_14_method_73_code
def yX12_ring : MethodName := ⟨RX12, "ring", "()I"⟩
abbrev cX12_areShelves : ByteArray := prog_14_method_74_code
def yX12_areShelves : MethodName := ⟨RX12, "areShelves", "(I)Z"⟩
abbrev cX12_judge : ByteArray := prog_14_method_75_code
def yX12_judge : MethodName := ⟨RX12, "judge", "(II)I"⟩
abbrev cX12_canBe : ByteArray := prog_14_method_76_code
def yX12_canBe : MethodName := ⟨RX12, "canBe", "(II)Z"⟩
abbrev cX12_can : ByteArray := prog_14_method_77_code
def yX12_can : MethodName := ⟨RX12, "can", "(II)I"⟩
abbrev cX12_who : ByteArray := prog_14_method_78_code
def yX12_who : MethodName := ⟨RX12, "who", "(I)I"⟩
abbrev cX12_farOf : ByteArray := prog_14_method_79_code
def yX12_farOf : MethodName := ⟨RX12, "farOf", "(II)I"⟩
abbrev cX12_goRound : ByteArray := prog_14_method_80_code
def yX12_goRound : MethodName := ⟨RX12, "goRound", "(IIIII)V"⟩
abbrev cX12_feeds : ByteArray := prog_14_method_81_code
def yX12_feeds : MethodName := ⟨RX12, "feeds", "(II)I"⟩
abbrev cX12_goForgot : ByteArray := prog_14_method_82_code
def yX12_goForgot : MethodName := ⟨RX12, "goForgot", "(III)V"⟩
abbrev cX12_lowest : ByteArray := prog_14_method_83_code
def yX12_lowest : MethodName := ⟨RX12, "lowest", "(JJI)J"⟩
abbrev cX12_odds : ByteArray := prog_14_method_84_code
def yX12_odds : MethodName := ⟨RX12, "odds", "(II)J"⟩
abbrev cX12_rued : ByteArray := prog_14_method_85_code
def yX12_rued : MethodName := ⟨RX12, "rued", "(II)I"⟩
abbrev cX12_leastToForget : ByteArray := prog_14_method_86_code
def yX12_leastToForget : MethodName := ⟨RX12, "leastToForget", "()I"⟩
abbrev cX12_byStep : ByteArray := prog_14_method_87_code
def yX12_byStep : MethodName := ⟨RX12, "byStep", "(IIII)I"⟩
abbrev cX12_manBest : ByteArray := prog_14_method_88_code
def yX12_manBest : MethodName := ⟨RX12, "manBest", "(III)I"⟩
abbrev cX12_childBest : ByteArray := prog_14_method_89_code
def yX12_childBest : MethodName := ⟨RX12, "childBest", "(III)I"⟩
abbrev cX12_byTurns : ByteArray := prog_14_method_90_code
def yX12_byTurns : MethodName := ⟨RX12, "byTurns", "(IIII)I"⟩
abbrev cX12_drawn : ByteArray := prog_14_method_91_code
def yX12_drawn : MethodName := ⟨RX12, "drawn", "(IIII)I"⟩
abbrev cX12_step : ByteArray := prog_14_method_92_code
def yX12_step : MethodName := ⟨RX12, "step", "(II)I"⟩
abbrev cX12_pull : ByteArray := prog_14_method_93_code
def yX12_pull : MethodName := ⟨RX12, "pull", "(I)I"⟩
abbrev cX12_letOff : ByteArray := prog_14_method_94_code
def yX12_letOff : MethodName := ⟨RX12, "letOff", "(I)I"⟩
abbrev cX12_forget : ByteArray := prog_14_method_95_code
def yX12_forget : MethodName := ⟨RX12, "forget", "(I)I"⟩
abbrev cX12_day : ByteArray := prog_14_method_96_code
def yX12_day : MethodName := ⟨RX12, "day", "()I"⟩
abbrev cX12_led : ByteArray := prog_14_method_97_code
def yX12_led : MethodName := ⟨RX12, "led", "(I)I"⟩
abbrev cX12_image : ByteArray := prog_14_method_98_code
def yX12_image : MethodName := ⟨RX12, "image", "()I"⟩
abbrev cX12_back : ByteArray := prog_14_method_99_code
def yX12_back : MethodName := ⟨RX12, "back", "()I"⟩
abbrev cX12_isBody : ByteArray := prog_14_method_100_code
def yX12_isBody : MethodName := ⟨RX12, "isBody", "(I)Z"⟩
abbrev cX12_ran : ByteArray := prog_14_method_101_code
def yX12_ran : MethodName := ⟨RX12, "ran", "(I)V"⟩
abbrev cX12_trace : ByteArray := prog_14_method_102_code
def yX12_trace : MethodName := ⟨RX12, "trace", "(I)I"⟩
abbrev cX12_body : ByteArray := prog_14_method_103_code
def yX12_body : MethodName := ⟨RX12, "body", "(I)I"⟩
abbrev cX12_isUnder : ByteArray := prog_14_method_104_code
def yX12_isUnder : MethodName := ⟨RX12, "isUnder", "(II)Z"⟩
abbrev cX12_plainHolds : ByteArray := prog_14_method_105_code
def yX12_plainHolds : MethodName := ⟨RX12, "plainHolds", "(II)I"⟩
abbrev cX12_pittHolds : ByteArray := prog_14_method_106_code
def yX12_pittHolds : MethodName := ⟨RX12, "pittHolds", "(II)I"⟩
abbrev cX12_holding : ByteArray := prog_14_method_107_code
def yX12_holding : MethodName := ⟨RX12, "holding", "(II)I"⟩
abbrev cX12_plainPulls : ByteArray := prog_14_method_108_code
def yX12_plainPulls : MethodName := ⟨RX12, "plainPulls", "(II)I"⟩
abbrev cX12_lacePulls : ByteArray := prog_14_method_109_code
def yX12_lacePulls : MethodName := ⟨RX12, "lacePulls", "(II)I"⟩
abbrev cX12_pulling : ByteArray := prog_14_method_110_code
def yX12_pulling : MethodName := ⟨RX12, "pulling", "(II)I"⟩
abbrev cX12_plainFrees : ByteArray := prog_14_method_111_code
def yX12_plainFrees : MethodName := ⟨RX12, "plainFrees", "(II)I"⟩
abbrev cX12_heelFrees : ByteArray := prog_14_method_112_code
def yX12_heelFrees : MethodName := ⟨RX12, "heelFrees", "(II)I"⟩
abbrev cX12_freeing : ByteArray := prog_14_method_113_code
def yX12_freeing : MethodName := ⟨RX12, "freeing", "(II)I"⟩
abbrev cX12_plainTells : ByteArray := prog_14_method_114_code
def yX12_plainTells : MethodName := ⟨RX12, "plainTells", "(II)I"⟩
abbrev cX12_telling : ByteArray := prog_14_method_115_code
def yX12_telling : MethodName := ⟨RX12, "telling", "(II)I"⟩
abbrev cX12_act : ByteArray := prog_14_method_116_code
def yX12_act : MethodName := ⟨RX12, "act", "(III)I"⟩
abbrev cX12_count : ByteArray := prog_14_method_117_code
def yX12_count : MethodName := ⟨RX12, "count", "(I)I"⟩
abbrev cX12_isShelf : ByteArray := prog_14_method_118_code
def yX12_isShelf : MethodName := ⟨RX12, "isShelf", "(I)Z"⟩
abbrev cX12_keep : ByteArray := prog_14_method_119_code
def yX12_keep : MethodName := ⟨RX12, "keep", "(II)I"⟩
abbrev cX12_row : ByteArray := prog_14_method_120_code
def yX12_row : MethodName := ⟨RX12, "row", "(III)I"⟩
abbrev cX12_whyNoPlace : ByteArray := prog_14_method_121_code
def yX12_whyNoPlace : MethodName := ⟨RX12, "whyNoPlace", "(II)I"⟩
abbrev cX12_put : ByteArray := prog_14_method_122_code
def yX12_put : MethodName := ⟨RX12, "put", "(IIJ)I"⟩
abbrev cX12_element : ByteArray := prog_14_method_123_code
def yX12_element : MethodName := ⟨RX12, "element", "(II)J"⟩
abbrev cX12_shift : ByteArray := prog_14_method_124_code
def yX12_shift : MethodName := ⟨RX12, "shift", "(IIIII)I"⟩
abbrev cX12_taken : ByteArray := prog_14_method_125_code
def yX12_taken : MethodName := ⟨RX12, "taken", "(II)I"⟩
def RJ6 : String := "java/lang/Integer"
def TJ6 : u_T := fun k => match k with
  | _ => ("", "", "", false)
def tyJ6 : Nat → FieldType := fun k => match k with
  | _ => .int
abbrev wsJ60 : List Cond := u_ws RJ6 TJ6 0
theorem nmJ6 : ∀ a, a < 0 → ∀ b, b < 0 → a ≠ b → (TJ6 a).2.1 ≠ (TJ6 b).2.1 := by decide +kernel
theorem tyJ6_ok : ∀ k, k < 0 → parseFieldDescriptor (TJ6 k).2.2.1 = some (tyJ6 k) := by decide +kernel
abbrev cJ6_lowestOneBit_0f7a4 : ByteArray := prog_15_method_46_code
def yJ6_lowestOneBit_0f7a4 : MethodName := ⟨RJ6, "lowestOneBit", "(I)I"⟩
abbrev cJ6_bitCount_0f7a4 : ByteArray := prog_15_method_49_code
def yJ6_bitCount_0f7a4 : MethodName := ⟨RJ6, "bitCount", "(I)I"⟩
def RJ9 : String := "java/lang/Math"
def TJ9 : u_T := fun k => match k with
  | _ => ("", "", "", false)
def tyJ9 : Nat → FieldType := fun k => match k with
  | _ => .int
abbrev wsJ90 : List Cond := u_ws RJ9 TJ9 0
theorem nmJ9 : ∀ a, a < 0 → ∀ b, b < 0 → a ≠ b → (TJ9 a).2.1 ≠ (TJ9 b).2.1 := by decide +kernel
theorem tyJ9_ok : ∀ k, k < 0 → parseFieldDescriptor (TJ9 k).2.2.1 = some (tyJ9 k) := by decide +kernel
abbrev cJ9_abs_0f7a4 : ByteArray := prog_16_method_59_code
def yJ9_abs_0f7a4 : MethodName := ⟨RJ9, "abs", "(I)I"⟩
abbrev cJ9_max_7cf53 : ByteArray := prog_16_method_65_code
def yJ9_max_7cf53 : MethodName := ⟨RJ9, "max", "(II)I"⟩
abbrev cJ9_min_7cf53 : ByteArray := prog_16_method_69_code
def yJ9_min_7cf53 : MethodName := ⟨RJ9, "min", "(II)I"⟩
def RJ10 : String := "java/lang/System"
def TJ10 : u_T := fun k => match k with
  | _ => ("", "", "", false)
def tyJ10 : Nat → FieldType := fun k => match k with
  | _ => .int
abbrev wsJ100 : List Cond := u_ws RJ10 TJ10 0
theorem nmJ10 : ∀ a, a < 0 → ∀ b, b < 0 → a ≠ b → (TJ10 a).2.1 ≠ (TJ10 b).2.1 := by decide +kernel
theorem tyJ10_ok : ∀ k, k < 0 → parseFieldDescriptor (TJ10 k).2.2.1 = some (tyJ10 k) := by decide +kernel
def RL : String := "NailedByWordLaw"
abbrev cL_law : ByteArray := code
def yL_law : MethodName := ⟨RL, "law", "([I)Z"⟩
abbrev vwCl : List vw_C := [(RX0, TX0, 5), (RX1, TX1, 7), (RX2, TX2, 9), (RX3, TX3, 3), (RX4, TX4, 4), (RX5, TX5, 3), (RX6, TX6, 6), (RX7, TX7, 4), (RX8, TX8, 5), (RX9, TX9, 18), (RX10, TX10, 8), (RX11, TX11, 9), (RX12, TX12, 67)]
end
section
abbrev mG : Type := (Nat → Nat → Int32) × (Nat → Nat → Int64)
abbrev mS : Type := Nat × Nat × List Nat
abbrev mO : Type := Nat × Instr × Nat × Nat × Int32 × Int64 × List (Int32 × Nat)
abbrev mM : Type := Nat × MethodName × ByteArray × Nat × Option FieldType × Nat × (Nat × Nat × Nat × Nat × Bool) × List mO
abbrev m_cn : List String := [RX0, RX1, RX2, RX3, RX4, RX5, RX6, RX7, RX8, RX9, RX10, RX11, RX12, RL, RJ6, RJ9]
/-- the cells: (0, class, fields: 0 int, 1 long, 2 boolean, j + 3 the cell j), or (1 + sort, length, cells) -/
def m_sh : List mS := [(0, 3, [4, 5, 0]), (1, 128, []), (1, 128, []), (0, 4, [0, 0, 0, 0]), (0, 9, [8, 9, 10, 11, 12, 13, 14, 15, 16, 17, 3, 6, 0, 0, 0, 0, 0, 0]), (1, 6, []), (1, 6, []), (1, 12, []), (1, 12, []), (1, 12, []), (1, 12, []), (1, 12, []), (1, 12, []), (1, 6, []), (1, 6, []), (0, 8, [19, 20, 0, 0, 0]), (1, 120, []), (1, 128, []), (0, 10, [7, 22, 23, 24, 0, 0, 0, 0]), (1, 41, []), (1, 4, []), (1, 4, []), (0, 5, [7, 26, 27]), (1, 13, []), (1, 6, []), (0, 6, [29, 30, 31, 0, 0, 0]), (1, 6, []), (1, 6, []), (1, 6, []), (0, 1, [7, 33, 34, 35, 36, 0, 0]), (1, 40, []), (1, 40, []), (1, 40, []), (1, 40, []), (0, 2, [38, 39, 40, 0, 0, 0, 0, 0, 2]), (1, 6, []), (1, 6, []), (1, 6, []), (0, 0, [42, 43, 0, 0, 0]), (1, 50, []), (1, 24, []), (0, 7, [45, 0, 0, 0]), (4, 60, []), (0, 7, [47, 0, 0, 0]), (4, 60, []), (0, 7, [49, 0, 0, 0]), (4, 60, []), (0, 7, [51, 0, 0, 0]), (4, 60, []), (0, 7, [53, 0, 0, 0]), (4, 60, []), (0, 7, [55, 0, 0, 0]), (4, 60, []), (5, 6, [41, 43, 45, 47, 49, 51]), (0, 11, [7, 18, 21, 25, 28, 32, 37, 41, 56]), (0, 12, [0, 0, 59, 60, 0, 61, 62, 63, 64, 65, 66, 67, 68, 0, 0, 69, 0, 0, 70, 71, 72, 73, 74, 0, 0, 0, 0, 0, 75, 76, 77, 78, 79, 80, 81, 2, 0, 0, 82, 83, 0, 84, 85, 0, 0, 1, 1, 0, 0, 0, 2, 0, 0, 0, 86, 87, 88, 89, 90, 0, 91, 0, 92, 93, 94, 95, 96]), (1, 6, []), (1, 6, []), (1, 12, []), (1, 12, []), (1, 12, []), (1, 12, []), (1, 12, []), (1, 12, []), (1, 12, []), (1, 12, []), (1, 6, []), (1, 40, []), (1, 40, []), (1, 40, []), (1, 40, []), (2, 120, []), (2, 260, []), (1, 260, []), (1, 2, []), (3, 122, []), (3, 122, []), (1, 6, []), (1, 130, []), (1, 4, []), (1, 4, []), (1, 6, []), (1, 6, []), (1, 6, []), (1, 6, []), (1, 12, []), (1, 12, []), (1, 6, []), (1, 50, []), (1, 24, []), (1, 6, []), (1, 6, []), (4, 360, []), (4, 60, [])]
abbrev m_shN : Nat := 94
abbrev sa0 : List Int32 := [0, 0, 0, 0, 0, 0, 0, 0, 1, 0]
abbrev sa1 : List Int32 := [24, 9, 24, 9, 99, 99, 1, 1, 9, 99]
abbrev sa2 : List Int32 := [119, 100, 98, 111, 102, 121]
abbrev sa3 : List Int32 := [(-1), 0, 0, 2, 1, 3, 0, 6]
abbrev sa4 : List Int32 := [1, 10, 11, 2, 20, 0, 0, 0, 0, 30, 0, 0, 0, 41, 40, 0, 0, 0, 0, 50, 0, 0, 60, 61, 70, 0, 0, 0, 81, 80, 0, 0]
/-- the static rows: class, name, descriptor, contents -/
def m_sa : List (Nat × String × String × FieldType × List Int32) := [(11, "LEAST_MENDED", "[I", .int, sa0), (11, "MOST_MENDED", "[I", .int, sa1), (3, "NAME_LETTERS", "[C", .char, sa2), (0, "ABOVE", "[I", .int, sa3), (0, "OWN", "[I", .int, sa4)]
def mo_X0_add : List mO := [
  (0, .aload_n 0, 1, 0, 0, 0, []),
  (1, .getfield 18, 3, 2, 0, 0, []),
  (4, .bipush 50, 2, 0, 50, 0, []),
  (6, .if_icmp .lt 6, 3, 12, 0, 0, []),
  (9, .bipush (-3), 2, 0, (-3), 0, []),
  (11, .ireturn, 1, 0, 0, 0, []),
  (12, .aload_n 0, 1, 0, 0, 0, []),
  (13, .getfield 11, 3, 0, 0, 0, []),
  (16, .aload_n 0, 1, 0, 0, 0, []),
  (17, .getfield 18, 3, 2, 0, 0, []),
  (20, .iload_n 1, 1, 1, 0, 0, []),
  (21, .iastore, 1, 0, 0, 0, []),
  (22, .aload_n 0, 1, 0, 0, 0, []),
  (23, .dup, 1, 0, 0, 0, []),
  (24, .getfield 18, 3, 2, 0, 0, []),
  (27, .iconst 1, 1, 0, 1, 0, []),
  (28, .iadd, 1, 0, 0, 0, []),
  (29, .putfield 18, 3, 2, 0, 0, []),
  (32, .aload_n 0, 1, 0, 0, 0, []),
  (33, .getfield 18, 3, 2, 0, 0, []),
  (36, .iconst 1, 1, 0, 1, 0, []),
  (37, .isub, 1, 0, 0, 0, []),
  (38, .ireturn, 1, 0, 0, 0, [])]
def mm_X0_add : mM := (0, yX0_add, cX0_add, 2, (some .int), 2, (5010, 5008, 5009, 1011, false), mo_X0_add)
def mo_X0_has : List mO := [
  (0, .iload_n 1, 1, 1, 0, 0, []),
  (1, .ifCond .lt 15, 3, 16, 0, 0, []),
  (4, .iload_n 1, 1, 1, 0, 0, []),
  (5, .aload_n 0, 1, 0, 0, 0, []),
  (6, .getfield 18, 3, 2, 0, 0, []),
  (9, .if_icmp .ge 7, 3, 16, 0, 0, []),
  (12, .iconst 1, 1, 0, 1, 0, []),
  (13, .goto 4, 3, 17, 0, 0, []),
  (16, .iconst 0, 1, 0, 0, 0, []),
  (17, .ireturn, 1, 0, 0, 0, [])]
def mm_X0_has : mM := (0, yX0_has, cX0_has, 2, (some .boolean), 2, (5022, 5020, 5021, 1011, false), mo_X0_has)
def mo_X0_kindOf : List mO := [
  (0, .aload_n 0, 1, 0, 0, 0, []),
  (1, .iload_n 1, 1, 1, 0, 0, []),
  (2, .invokevirtual 28, 3, 1, 0, 0, []),
  (5, .ifCond .eq 12, 3, 17, 0, 0, []),
  (8, .aload_n 0, 1, 0, 0, 0, []),
  (9, .getfield 11, 3, 0, 0, 0, []),
  (12, .iload_n 1, 1, 1, 0, 0, []),
  (13, .iaload, 1, 0, 0, 0, []),
  (14, .goto 4, 3, 18, 0, 0, []),
  (17, .iconst (-1), 1, 0, (-1), 0, []),
  (18, .ireturn, 1, 0, 0, 0, [])]
def mm_X0_kindOf : mM := (0, yX0_kindOf, cX0_kindOf, 2, (some .int), 2, (5043, 5041, 5042, 1011, false), mo_X0_kindOf)
def mo_X0_isUnder : List mO := [
  (0, .iload_n 1, 1, 1, 0, 0, []),
  (1, .istore_n 3, 1, 3, 0, 0, []),
  (2, .iconst 0, 1, 0, 0, 0, []),
  (3, .istore 4, 2, 4, 0, 0, []),
  (5, .iload 4, 2, 4, 0, 0, []),
  (7, .bipush 8, 2, 0, 8, 0, []),
  (9, .if_icmp .ge 29, 3, 38, 0, 0, []),
  (12, .iload_n 3, 1, 3, 0, 0, []),
  (13, .invokestatic 32, 3, 149, 0, 0, []),
  (16, .ifCond .eq 22, 3, 38, 0, 0, []),
  (19, .iload_n 3, 1, 3, 0, 0, []),
  (20, .iload_n 2, 1, 2, 0, 0, []),
  (21, .if_icmp .ne 5, 3, 26, 0, 0, []),
  (24, .iconst 1, 1, 0, 1, 0, []),
  (25, .ireturn, 1, 0, 0, 0, []),
  (26, .getstatic 35, 3, 3, 0, 0, []),
  (29, .iload_n 3, 1, 3, 0, 0, []),
  (30, .iaload, 1, 0, 0, 0, []),
  (31, .istore_n 3, 1, 3, 0, 0, []),
  (32, .iinc 4 1, 3, 4, 1, 0, []),
  (35, .goto (-30), 3, 5, 0, 0, []),
  (38, .iconst 0, 1, 0, 0, 0, []),
  (39, .ireturn, 1, 0, 0, 0, [])]
def mm_X0_isUnder : mM := (0, yX0_isUnder, cX0_isUnder, 5, (some .boolean), 3, (5115, 5113, 5114, 1011, false), mo_X0_isUnder)
def mo_X0_traced : List mO := [
  (0, .iload_n 1, 1, 1, 0, 0, []),
  (1, .ifCond .lt 26, 3, 27, 0, 0, []),
  (4, .iload_n 1, 1, 1, 0, 0, []),
  (5, .aload_n 0, 1, 0, 0, 0, []),
  (6, .getfield 22, 3, 3, 0, 0, []),
  (9, .if_icmp .ge 18, 3, 27, 0, 0, []),
  (12, .iload_n 1, 1, 1, 0, 0, []),
  (13, .bipush 24, 2, 0, 24, 0, []),
  (15, .if_icmp .ge 12, 3, 27, 0, 0, []),
  (18, .aload_n 0, 1, 0, 0, 0, []),
  (19, .getfield 15, 3, 1, 0, 0, []),
  (22, .iload_n 1, 1, 1, 0, 0, []),
  (23, .iaload, 1, 0, 0, 0, []),
  (24, .goto 4, 3, 28, 0, 0, []),
  (27, .iconst (-1), 1, 0, (-1), 0, []),
  (28, .ireturn, 1, 0, 0, 0, [])]
def mm_X0_traced : mM := (0, yX0_traced, cX0_traced, 2, (some .int), 2, (5051, 5049, 5050, 1011, false), mo_X0_traced)
def mo_X0_perform : List mO := [
  (0, .aload_n 0, 1, 0, 0, 0, []),
  (1, .iconst 0, 1, 0, 0, 0, []),
  (2, .putfield 22, 3, 3, 0, 0, []),
  (5, .aload_n 0, 1, 0, 0, 0, []),
  (6, .iload_n 1, 1, 1, 0, 0, []),
  (7, .invokevirtual 28, 3, 1, 0, 0, []),
  (10, .ifCond .eq 12, 3, 22, 0, 0, []),
  (13, .iload_n 2, 1, 2, 0, 0, []),
  (14, .ifCond .lt 8, 3, 22, 0, 0, []),
  (17, .iload_n 2, 1, 2, 0, 0, []),
  (18, .iconst 4, 1, 0, 4, 0, []),
  (19, .if_icmp .lt 5, 3, 24, 0, 0, []),
  (22, .iconst 0, 1, 0, 0, 0, []),
  (23, .ireturn, 1, 0, 0, 0, []),
  (24, .aload_n 0, 1, 0, 0, 0, []),
  (25, .iload_n 1, 1, 1, 0, 0, []),
  (26, .putfield 25, 3, 4, 0, 0, []),
  (29, .aload_n 0, 1, 0, 0, 0, []),
  (30, .aload_n 0, 1, 0, 0, 0, []),
  (31, .getfield 11, 3, 0, 0, 0, []),
  (34, .iload_n 1, 1, 1, 0, 0, []),
  (35, .iaload, 1, 0, 0, 0, []),
  (36, .iload_n 2, 1, 2, 0, 0, []),
  (37, .iload_n 3, 1, 3, 0, 0, []),
  (38, .iconst 0, 1, 0, 0, 0, []),
  (39, .invokevirtual 38, 3, 7, 0, 0, []),
  (42, .ireturn, 1, 0, 0, 0, [])]
def mm_X0_perform : mM := (0, yX0_perform, cX0_perform, 4, (some .int), 4, (5018, 5016, 5017, 1011, false), mo_X0_perform)
def mo_X0_own : List mO := [
  (0, .aload_n 0, 1, 0, 0, 0, []),
  (1, .aload_n 0, 1, 0, 0, 0, []),
  (2, .aload_n 0, 1, 0, 0, 0, []),
  (3, .getfield 25, 3, 4, 0, 0, []),
  (6, .invokevirtual 42, 3, 2, 0, 0, []),
  (9, .iload_n 1, 1, 1, 0, 0, []),
  (10, .iload_n 2, 1, 2, 0, 0, []),
  (11, .iload_n 3, 1, 3, 0, 0, []),
  (12, .invokevirtual 38, 3, 7, 0, 0, []),
  (15, .ireturn, 1, 0, 0, 0, [])]
def mm_X0_own : mM := (0, yX0_own, cX0_own, 4, (some .int), 4, (5039, 5038, 31, 1011, false), mo_X0_own)
def mo_X0_run : List mO := [
  (0, .iload_n 1, 1, 1, 0, 0, []),
  (1, .istore 5, 2, 5, 0, 0, []),
  (3, .iconst 0, 1, 0, 0, 0, []),
  (4, .istore 6, 2, 6, 0, 0, []),
  (6, .iload 6, 2, 6, 0, 0, []),
  (8, .bipush 8, 2, 0, 8, 0, []),
  (10, .if_icmp .ge 38, 3, 48, 0, 0, []),
  (13, .iload 5, 2, 5, 0, 0, []),
  (15, .invokestatic 32, 3, 149, 0, 0, []),
  (18, .ifCond .eq 30, 3, 48, 0, 0, []),
  (21, .getstatic 46, 3, 4, 0, 0, []),
  (24, .iload 5, 2, 5, 0, 0, []),
  (26, .iconst 4, 1, 0, 4, 0, []),
  (27, .imul, 1, 0, 0, 0, []),
  (28, .iload_n 2, 1, 2, 0, 0, []),
  (29, .iadd, 1, 0, 0, 0, []),
  (30, .iaload, 1, 0, 0, 0, []),
  (31, .ifCond .ne 17, 3, 48, 0, 0, []),
  (34, .getstatic 35, 3, 3, 0, 0, []),
  (37, .iload 5, 2, 5, 0, 0, []),
  (39, .iaload, 1, 0, 0, 0, []),
  (40, .istore 5, 2, 5, 0, 0, []),
  (42, .iinc 6 1, 3, 6, 1, 0, []),
  (45, .goto (-39), 3, 6, 0, 0, []),
  (48, .iload 5, 2, 5, 0, 0, []),
  (50, .invokestatic 32, 3, 149, 0, 0, []),
  (53, .ifCond .eq 10, 3, 63, 0, 0, []),
  (56, .iload 4, 2, 4, 0, 0, []),
  (58, .bipush 30, 2, 0, 30, 0, []),
  (60, .if_icmp .le 5, 3, 65, 0, 0, []),
  (63, .iconst 0, 1, 0, 0, 0, []),
  (64, .ireturn, 1, 0, 0, 0, []),
  (65, .getstatic 46, 3, 4, 0, 0, []),
  (68, .iload 5, 2, 5, 0, 0, []),
  (70, .iconst 4, 1, 0, 4, 0, []),
  (71, .imul, 1, 0, 0, 0, []),
  (72, .iload_n 2, 1, 2, 0, 0, []),
  (73, .iadd, 1, 0, 0, 0, []),
  (74, .iaload, 1, 0, 0, 0, []),
  (75, .istore 6, 2, 6, 0, 0, []),
  (77, .aload_n 0, 1, 0, 0, 0, []),
  (78, .getfield 22, 3, 3, 0, 0, []),
  (81, .bipush 24, 2, 0, 24, 0, []),
  (83, .if_icmp .ge 14, 3, 97, 0, 0, []),
  (86, .aload_n 0, 1, 0, 0, 0, []),
  (87, .getfield 15, 3, 1, 0, 0, []),
  (90, .aload_n 0, 1, 0, 0, 0, []),
  (91, .getfield 22, 3, 3, 0, 0, []),
  (94, .iload 6, 2, 6, 0, 0, []),
  (96, .iastore, 1, 0, 0, 0, []),
  (97, .aload_n 0, 1, 0, 0, 0, []),
  (98, .dup, 1, 0, 0, 0, []),
  (99, .getfield 22, 3, 3, 0, 0, []),
  (102, .iconst 1, 1, 0, 1, 0, []),
  (103, .iadd, 1, 0, 0, 0, []),
  (104, .putfield 22, 3, 3, 0, 0, []),
  (107, .aload_n 0, 1, 0, 0, 0, []),
  (108, .iload 6, 2, 6, 0, 0, []),
  (110, .getstatic 35, 3, 3, 0, 0, []),
  (113, .iload 5, 2, 5, 0, 0, []),
  (115, .iaload, 1, 0, 0, 0, []),
  (116, .iload_n 3, 1, 3, 0, 0, []),
  (117, .iload 4, 2, 4, 0, 0, []),
  (119, .iconst 1, 1, 0, 1, 0, []),
  (120, .iadd, 1, 0, 0, 0, []),
  (121, .invokevirtual 49, 3, 8, 0, 0, []),
  (124, .ireturn, 1, 0, 0, 0, [])]
def mm_X0_run : mM := (0, yX0_run, cX0_run, 7, (some .int), 5, (5026, 5025, 29, 1011, false), mo_X0_run)
def mo_X0_workedOut : List mO := [
  (0, .iload_n 1, 1, 1, 0, 0, []),
  (1, .lookupswitch 299 #[(1, 123), (2, 130), (10, 148), (11, 159), (20, 166), (30, 178), (40, 189), (41, 201), (50, 213), (60, 225), (61, 244), (70, 256), (80, 268), (81, 287)], 123, 300, 0, 0, [(1, 124), (2, 131), (10, 149), (11, 160), (20, 167), (30, 179), (40, 190), (41, 202), (50, 214), (60, 226), (61, 245), (70, 257), (80, 269), (81, 288)]),
  (124, .iload_n 3, 1, 3, 0, 0, []),
  (125, .aload_n 0, 1, 0, 0, 0, []),
  (126, .getfield 25, 3, 4, 0, 0, []),
  (129, .iadd, 1, 0, 0, 0, []),
  (130, .ireturn, 1, 0, 0, 0, []),
  (131, .aload_n 0, 1, 0, 0, 0, []),
  (132, .iconst 1, 1, 0, 1, 0, []),
  (133, .iload_n 3, 1, 3, 0, 0, []),
  (134, .iload 4, 2, 4, 0, 0, []),
  (136, .invokevirtual 52, 3, 6, 0, 0, []),
  (139, .aload_n 0, 1, 0, 0, 0, []),
  (140, .iconst 2, 1, 0, 2, 0, []),
  (141, .iconst 1, 1, 0, 1, 0, []),
  (142, .iload 4, 2, 4, 0, 0, []),
  (144, .invokevirtual 52, 3, 6, 0, 0, []),
  (147, .isub, 1, 0, 0, 0, []),
  (148, .ireturn, 1, 0, 0, 0, []),
  (149, .aload_n 0, 1, 0, 0, 0, []),
  (150, .iconst 0, 1, 0, 0, 0, []),
  (151, .iload_n 3, 1, 3, 0, 0, []),
  (152, .iload 4, 2, 4, 0, 0, []),
  (154, .invokevirtual 52, 3, 6, 0, 0, []),
  (157, .iconst 2, 1, 0, 2, 0, []),
  (158, .imul, 1, 0, 0, 0, []),
  (159, .ireturn, 1, 0, 0, 0, []),
  (160, .iload_n 3, 1, 3, 0, 0, []),
  (161, .aload_n 0, 1, 0, 0, 0, []),
  (162, .getfield 25, 3, 4, 0, 0, []),
  (165, .ixor, 1, 0, 0, 0, []),
  (166, .ireturn, 1, 0, 0, 0, []),
  (167, .aload_n 0, 1, 0, 0, 0, []),
  (168, .iload_n 2, 1, 2, 0, 0, []),
  (169, .iconst 0, 1, 0, 0, 0, []),
  (170, .iload_n 3, 1, 3, 0, 0, []),
  (171, .iload 4, 2, 4, 0, 0, []),
  (173, .invokevirtual 38, 3, 7, 0, 0, []),
  (176, .iconst 3, 1, 0, 3, 0, []),
  (177, .iadd, 1, 0, 0, 0, []),
  (178, .ireturn, 1, 0, 0, 0, []),
  (179, .aload_n 0, 1, 0, 0, 0, []),
  (180, .iload_n 2, 1, 2, 0, 0, []),
  (181, .iconst 1, 1, 0, 1, 0, []),
  (182, .iload_n 3, 1, 3, 0, 0, []),
  (183, .iload 4, 2, 4, 0, 0, []),
  (185, .invokevirtual 38, 3, 7, 0, 0, []),
  (188, .ineg, 1, 0, 0, 0, []),
  (189, .ireturn, 1, 0, 0, 0, []),
  (190, .aload_n 0, 1, 0, 0, 0, []),
  (191, .iload_n 2, 1, 2, 0, 0, []),
  (192, .iconst 2, 1, 0, 2, 0, []),
  (193, .iload_n 3, 1, 3, 0, 0, []),
  (194, .iload 4, 2, 4, 0, 0, []),
  (196, .invokevirtual 38, 3, 7, 0, 0, []),
  (199, .iconst 3, 1, 0, 3, 0, []),
  (200, .imul, 1, 0, 0, 0, []),
  (201, .ireturn, 1, 0, 0, 0, []),
  (202, .aload_n 0, 1, 0, 0, 0, []),
  (203, .iload_n 2, 1, 2, 0, 0, []),
  (204, .iconst 1, 1, 0, 1, 0, []),
  (205, .iload_n 3, 1, 3, 0, 0, []),
  (206, .iconst 1, 1, 0, 1, 0, []),
  (207, .iadd, 1, 0, 0, 0, []),
  (208, .iload 4, 2, 4, 0, 0, []),
  (210, .invokevirtual 38, 3, 7, 0, 0, []),
  (213, .ireturn, 1, 0, 0, 0, []),
  (214, .aload_n 0, 1, 0, 0, 0, []),
  (215, .iload_n 2, 1, 2, 0, 0, []),
  (216, .iconst 3, 1, 0, 3, 0, []),
  (217, .iload_n 3, 1, 3, 0, 0, []),
  (218, .iload 4, 2, 4, 0, 0, []),
  (220, .invokevirtual 38, 3, 7, 0, 0, []),
  (223, .iconst 5, 1, 0, 5, 0, []),
  (224, .ixor, 1, 0, 0, 0, []),
  (225, .ireturn, 1, 0, 0, 0, []),
  (226, .aload_n 0, 1, 0, 0, 0, []),
  (227, .iload_n 2, 1, 2, 0, 0, []),
  (228, .iconst 2, 1, 0, 2, 0, []),
  (229, .iload_n 3, 1, 3, 0, 0, []),
  (230, .iload 4, 2, 4, 0, 0, []),
  (232, .invokevirtual 38, 3, 7, 0, 0, []),
  (235, .aload_n 0, 1, 0, 0, 0, []),
  (236, .iconst 0, 1, 0, 0, 0, []),
  (237, .iconst 2, 1, 0, 2, 0, []),
  (238, .iload 4, 2, 4, 0, 0, []),
  (240, .invokevirtual 52, 3, 6, 0, 0, []),
  (243, .isub, 1, 0, 0, 0, []),
  (244, .ireturn, 1, 0, 0, 0, []),
  (245, .aload_n 0, 1, 0, 0, 0, []),
  (246, .iload_n 2, 1, 2, 0, 0, []),
  (247, .iconst 3, 1, 0, 3, 0, []),
  (248, .iload_n 3, 1, 3, 0, 0, []),
  (249, .iload 4, 2, 4, 0, 0, []),
  (251, .invokevirtual 38, 3, 7, 0, 0, []),
  (254, .iconst 1, 1, 0, 1, 0, []),
  (255, .iadd, 1, 0, 0, 0, []),
  (256, .ireturn, 1, 0, 0, 0, []),
  (257, .aload_n 0, 1, 0, 0, 0, []),
  (258, .iload_n 2, 1, 2, 0, 0, []),
  (259, .iconst 0, 1, 0, 0, 0, []),
  (260, .iload_n 3, 1, 3, 0, 0, []),
  (261, .iload 4, 2, 4, 0, 0, []),
  (263, .invokevirtual 38, 3, 7, 0, 0, []),
  (266, .iconst 2, 1, 0, 2, 0, []),
  (267, .imul, 1, 0, 0, 0, []),
  (268, .ireturn, 1, 0, 0, 0, []),
  (269, .aload_n 0, 1, 0, 0, 0, []),
  (270, .iload_n 2, 1, 2, 0, 0, []),
  (271, .iconst 1, 1, 0, 1, 0, []),
  (272, .iload_n 3, 1, 3, 0, 0, []),
  (273, .iload 4, 2, 4, 0, 0, []),
  (275, .invokevirtual 38, 3, 7, 0, 0, []),
  (278, .aload_n 0, 1, 0, 0, 0, []),
  (279, .iconst 2, 1, 0, 2, 0, []),
  (280, .iconst 2, 1, 0, 2, 0, []),
  (281, .iload 4, 2, 4, 0, 0, []),
  (283, .invokevirtual 52, 3, 6, 0, 0, []),
  (286, .iadd, 1, 0, 0, 0, []),
  (287, .ireturn, 1, 0, 0, 0, []),
  (288, .aload_n 0, 1, 0, 0, 0, []),
  (289, .iload_n 2, 1, 2, 0, 0, []),
  (290, .iconst 0, 1, 0, 0, 0, []),
  (291, .iload_n 3, 1, 3, 0, 0, []),
  (292, .iload 4, 2, 4, 0, 0, []),
  (294, .invokevirtual 38, 3, 7, 0, 0, []),
  (297, .iconst 1, 1, 0, 1, 0, []),
  (298, .isub, 1, 0, 0, 0, []),
  (299, .ireturn, 1, 0, 0, 0, []),
  (300, .iconst 0, 1, 0, 0, 0, []),
  (301, .ireturn, 1, 0, 0, 0, [])]
def mm_X0_workedOut : mM := (0, yX0_workedOut, cX0_workedOut, 5, (some .int), 5, (5035, 5034, 30, 1011, false), mo_X0_workedOut)
def mo_X1_add : List mO := [
  (0, .aload_n 0, 1, 0, 0, 0, []),
  (1, .getfield 24, 3, 105, 0, 0, []),
  (4, .bipush 40, 2, 0, 40, 0, []),
  (6, .if_icmp .lt 7, 3, 13, 0, 0, []),
  (9, .aload_n 0, 1, 0, 0, 0, []),
  (10, .invokevirtual 35, 3, 10, 0, 0, []),
  (13, .aload_n 0, 1, 0, 0, 0, []),
  (14, .getfield 11, 3, 101, 0, 0, []),
  (17, .aload_n 0, 1, 0, 0, 0, []),
  (18, .getfield 24, 3, 105, 0, 0, []),
  (21, .iload_n 1, 1, 1, 0, 0, []),
  (22, .iastore, 1, 0, 0, 0, []),
  (23, .aload_n 0, 1, 0, 0, 0, []),
  (24, .getfield 15, 3, 102, 0, 0, []),
  (27, .aload_n 0, 1, 0, 0, 0, []),
  (28, .getfield 24, 3, 105, 0, 0, []),
  (31, .iload_n 2, 1, 2, 0, 0, []),
  (32, .iastore, 1, 0, 0, 0, []),
  (33, .aload_n 0, 1, 0, 0, 0, []),
  (34, .getfield 18, 3, 103, 0, 0, []),
  (37, .aload_n 0, 1, 0, 0, 0, []),
  (38, .getfield 24, 3, 105, 0, 0, []),
  (41, .iload_n 3, 1, 3, 0, 0, []),
  (42, .iastore, 1, 0, 0, 0, []),
  (43, .aload_n 0, 1, 0, 0, 0, []),
  (44, .getfield 21, 3, 104, 0, 0, []),
  (47, .aload_n 0, 1, 0, 0, 0, []),
  (48, .getfield 24, 3, 105, 0, 0, []),
  (51, .iload 4, 2, 4, 0, 0, []),
  (53, .iastore, 1, 0, 0, 0, []),
  (54, .aload_n 0, 1, 0, 0, 0, []),
  (55, .dup, 1, 0, 0, 0, []),
  (56, .getfield 24, 3, 105, 0, 0, []),
  (59, .iconst 1, 1, 0, 1, 0, []),
  (60, .iadd, 1, 0, 0, 0, []),
  (61, .putfield 24, 3, 105, 0, 0, []),
  (64, .aload_n 0, 1, 0, 0, 0, []),
  (65, .aload_n 0, 1, 0, 0, 0, []),
  (66, .getfield 24, 3, 105, 0, 0, []),
  (69, .putfield 28, 3, 106, 0, 0, []),
  (72, .return_, 1, 0, 0, 0, [])]
def mm_X1_add : mM := (1, yX1_add, cX1_add, 5, none, 5, (3002, 3000, 3001, 1009, false), mo_X1_add)
def mo_X1_loseOldest : List mO := [
  (0, .iconst 1, 1, 0, 1, 0, []),
  (1, .istore_n 1, 1, 1, 0, 0, []),
  (2, .iload_n 1, 1, 1, 0, 0, []),
  (3, .bipush 40, 2, 0, 40, 0, []),
  (5, .if_icmp .ge 65, 3, 70, 0, 0, []),
  (8, .aload_n 0, 1, 0, 0, 0, []),
  (9, .getfield 11, 3, 101, 0, 0, []),
  (12, .iload_n 1, 1, 1, 0, 0, []),
  (13, .iconst 1, 1, 0, 1, 0, []),
  (14, .isub, 1, 0, 0, 0, []),
  (15, .aload_n 0, 1, 0, 0, 0, []),
  (16, .getfield 11, 3, 101, 0, 0, []),
  (19, .iload_n 1, 1, 1, 0, 0, []),
  (20, .iaload, 1, 0, 0, 0, []),
  (21, .iastore, 1, 0, 0, 0, []),
  (22, .aload_n 0, 1, 0, 0, 0, []),
  (23, .getfield 15, 3, 102, 0, 0, []),
  (26, .iload_n 1, 1, 1, 0, 0, []),
  (27, .iconst 1, 1, 0, 1, 0, []),
  (28, .isub, 1, 0, 0, 0, []),
  (29, .aload_n 0, 1, 0, 0, 0, []),
  (30, .getfield 15, 3, 102, 0, 0, []),
  (33, .iload_n 1, 1, 1, 0, 0, []),
  (34, .iaload, 1, 0, 0, 0, []),
  (35, .iastore, 1, 0, 0, 0, []),
  (36, .aload_n 0, 1, 0, 0, 0, []),
  (37, .getfield 18, 3, 103, 0, 0, []),
  (40, .iload_n 1, 1, 1, 0, 0, []),
  (41, .iconst 1, 1, 0, 1, 0, []),
  (42, .isub, 1, 0, 0, 0, []),
  (43, .aload_n 0, 1, 0, 0, 0, []),
  (44, .getfield 18, 3, 103, 0, 0, []),
  (47, .iload_n 1, 1, 1, 0, 0, []),
  (48, .iaload, 1, 0, 0, 0, []),
  (49, .iastore, 1, 0, 0, 0, []),
  (50, .aload_n 0, 1, 0, 0, 0, []),
  (51, .getfield 21, 3, 104, 0, 0, []),
  (54, .iload_n 1, 1, 1, 0, 0, []),
  (55, .iconst 1, 1, 0, 1, 0, []),
  (56, .isub, 1, 0, 0, 0, []),
  (57, .aload_n 0, 1, 0, 0, 0, []),
  (58, .getfield 21, 3, 104, 0, 0, []),
  (61, .iload_n 1, 1, 1, 0, 0, []),
  (62, .iaload, 1, 0, 0, 0, []),
  (63, .iastore, 1, 0, 0, 0, []),
  (64, .iinc 1 1, 3, 1, 1, 0, []),
  (67, .goto (-65), 3, 2, 0, 0, []),
  (70, .aload_n 0, 1, 0, 0, 0, []),
  (71, .bipush 39, 2, 0, 39, 0, []),
  (73, .putfield 24, 3, 105, 0, 0, []),
  (76, .return_, 1, 0, 0, 0, [])]
def mm_X1_loseOldest : mM := (1, yX1_loseOldest, cX1_loseOldest, 2, none, 1, (3006, 3005, 2, 1009, false), mo_X1_loseOldest)
def mo_X1_takeBack : List mO := [
  (0, .aload_n 0, 1, 0, 0, 0, []),
  (1, .getfield 24, 3, 105, 0, 0, []),
  (4, .ifCond .gt 6, 3, 10, 0, 0, []),
  (7, .bipush (-5), 2, 0, (-5), 0, []),
  (9, .ireturn, 1, 0, 0, 0, []),
  (10, .aload_n 0, 1, 0, 0, 0, []),
  (11, .dup, 1, 0, 0, 0, []),
  (12, .getfield 24, 3, 105, 0, 0, []),
  (15, .iconst 1, 1, 0, 1, 0, []),
  (16, .isub, 1, 0, 0, 0, []),
  (17, .putfield 24, 3, 105, 0, 0, []),
  (20, .aload_n 0, 1, 0, 0, 0, []),
  (21, .getfield 31, 3, 100, 0, 0, []),
  (24, .aload_n 0, 1, 0, 0, 0, []),
  (25, .getfield 11, 3, 101, 0, 0, []),
  (28, .aload_n 0, 1, 0, 0, 0, []),
  (29, .getfield 24, 3, 105, 0, 0, []),
  (32, .iaload, 1, 0, 0, 0, []),
  (33, .aload_n 0, 1, 0, 0, 0, []),
  (34, .getfield 15, 3, 102, 0, 0, []),
  (37, .aload_n 0, 1, 0, 0, 0, []),
  (38, .getfield 24, 3, 105, 0, 0, []),
  (41, .iaload, 1, 0, 0, 0, []),
  (42, .aload_n 0, 1, 0, 0, 0, []),
  (43, .getfield 18, 3, 103, 0, 0, []),
  (46, .aload_n 0, 1, 0, 0, 0, []),
  (47, .getfield 24, 3, 105, 0, 0, []),
  (50, .iaload, 1, 0, 0, 0, []),
  (51, .invokevirtual 38, 3, 67, 0, 0, []),
  (54, .aload_n 0, 1, 0, 0, 0, []),
  (55, .getfield 24, 3, 105, 0, 0, []),
  (58, .ireturn, 1, 0, 0, 0, [])]
def mm_X1_takeBack : mM := (1, yX1_takeBack, cX1_takeBack, 1, (some .int), 1, (4230, 4228, 4229, 1009, false), mo_X1_takeBack)
def mo_X1_doAgain : List mO := [
  (0, .aload_n 0, 1, 0, 0, 0, []),
  (1, .getfield 24, 3, 105, 0, 0, []),
  (4, .aload_n 0, 1, 0, 0, 0, []),
  (5, .getfield 28, 3, 106, 0, 0, []),
  (8, .if_icmp .lt 6, 3, 14, 0, 0, []),
  (11, .bipush (-5), 2, 0, (-5), 0, []),
  (13, .ireturn, 1, 0, 0, 0, []),
  (14, .aload_n 0, 1, 0, 0, 0, []),
  (15, .getfield 31, 3, 100, 0, 0, []),
  (18, .aload_n 0, 1, 0, 0, 0, []),
  (19, .getfield 11, 3, 101, 0, 0, []),
  (22, .aload_n 0, 1, 0, 0, 0, []),
  (23, .getfield 24, 3, 105, 0, 0, []),
  (26, .iaload, 1, 0, 0, 0, []),
  (27, .aload_n 0, 1, 0, 0, 0, []),
  (28, .getfield 15, 3, 102, 0, 0, []),
  (31, .aload_n 0, 1, 0, 0, 0, []),
  (32, .getfield 24, 3, 105, 0, 0, []),
  (35, .iaload, 1, 0, 0, 0, []),
  (36, .aload_n 0, 1, 0, 0, 0, []),
  (37, .getfield 21, 3, 104, 0, 0, []),
  (40, .aload_n 0, 1, 0, 0, 0, []),
  (41, .getfield 24, 3, 105, 0, 0, []),
  (44, .iaload, 1, 0, 0, 0, []),
  (45, .invokevirtual 38, 3, 67, 0, 0, []),
  (48, .aload_n 0, 1, 0, 0, 0, []),
  (49, .dup, 1, 0, 0, 0, []),
  (50, .getfield 24, 3, 105, 0, 0, []),
  (53, .iconst 1, 1, 0, 1, 0, []),
  (54, .iadd, 1, 0, 0, 0, []),
  (55, .putfield 24, 3, 105, 0, 0, []),
  (58, .aload_n 0, 1, 0, 0, 0, []),
  (59, .getfield 28, 3, 106, 0, 0, []),
  (62, .aload_n 0, 1, 0, 0, 0, []),
  (63, .getfield 24, 3, 105, 0, 0, []),
  (66, .isub, 1, 0, 0, 0, []),
  (67, .ireturn, 1, 0, 0, 0, [])]
def mm_X1_doAgain : mM := (1, yX1_doAgain, cX1_doAgain, 1, (some .int), 1, (4239, 4237, 4238, 1009, false), mo_X1_doAgain)
def mo_X2_take : List mO := [
  (0, .aload_n 0, 1, 0, 0, 0, []),
  (1, .iconst 1, 1, 0, 1, 0, []),
  (2, .putfield 21, 3, 208, 0, 0, []),
  (5, .aload_n 0, 1, 0, 0, 0, []),
  (6, .aload_n 1, 1, 1, 0, 0, []),
  (7, .getfield 25, 3, 912, 0, 0, []),
  (10, .putfield 31, 3, 203, 0, 0, []),
  (13, .aload_n 0, 1, 0, 0, 0, []),
  (14, .aload_n 1, 1, 1, 0, 0, []),
  (15, .getfield 32, 3, 913, 0, 0, []),
  (18, .putfield 35, 3, 204, 0, 0, []),
  (21, .aload_n 0, 1, 0, 0, 0, []),
  (22, .aload_n 1, 1, 1, 0, 0, []),
  (23, .getfield 36, 3, 914, 0, 0, []),
  (26, .putfield 39, 3, 205, 0, 0, []),
  (29, .aload_n 0, 1, 0, 0, 0, []),
  (30, .aload_n 1, 1, 1, 0, 0, []),
  (31, .getfield 40, 3, 915, 0, 0, []),
  (34, .putfield 43, 3, 206, 0, 0, []),
  (37, .aload_n 0, 1, 0, 0, 0, []),
  (38, .aload_n 1, 1, 1, 0, 0, []),
  (39, .getfield 44, 3, 917, 0, 0, []),
  (42, .putfield 47, 3, 207, 0, 0, []),
  (45, .aload_n 1, 1, 1, 0, 0, []),
  (46, .getfield 48, 3, 900, 0, 0, []),
  (49, .aload_n 0, 1, 0, 0, 0, []),
  (50, .getfield 9, 3, 200, 0, 0, []),
  (53, .bipush 6, 2, 0, 6, 0, []),
  (55, .invokestatic 49, 3, 15, 0, 0, []),
  (58, .aload_n 1, 1, 1, 0, 0, []),
  (59, .getfield 53, 3, 901, 0, 0, []),
  (62, .aload_n 0, 1, 0, 0, 0, []),
  (63, .getfield 15, 3, 201, 0, 0, []),
  (66, .bipush 6, 2, 0, 6, 0, []),
  (68, .invokestatic 49, 3, 15, 0, 0, []),
  (71, .aload_n 1, 1, 1, 0, 0, []),
  (72, .getfield 54, 3, 908, 0, 0, []),
  (75, .aload_n 0, 1, 0, 0, 0, []),
  (76, .getfield 18, 3, 202, 0, 0, []),
  (79, .bipush 6, 2, 0, 6, 0, []),
  (81, .invokestatic 49, 3, 15, 0, 0, []),
  (84, .return_, 1, 0, 0, 0, [])]
def mm_X2_take : mM := (2, yX2_take, cX2_take, 2, none, 2, (4211, 4209, 4210, 1010, false), mo_X2_take)
def mo_X2_layBack : List mO := [
  (0, .iconst 1, 1, 0, 1, 0, []),
  (1, .aload_n 0, 1, 0, 0, 0, []),
  (2, .getfield 35, 3, 204, 0, 0, []),
  (5, .ishl, 1, 0, 0, 0, []),
  (6, .iconst 1, 1, 0, 1, 0, []),
  (7, .isub, 1, 0, 0, 0, []),
  (8, .istore_n 2, 1, 2, 0, 0, []),
  (9, .aload_n 1, 1, 1, 0, 0, []),
  (10, .aload_n 1, 1, 1, 0, 0, []),
  (11, .getfield 36, 3, 914, 0, 0, []),
  (14, .iload_n 2, 1, 2, 0, 0, []),
  (15, .iconst (-1), 1, 0, (-1), 0, []),
  (16, .ixor, 1, 0, 0, 0, []),
  (17, .iand, 1, 0, 0, 0, []),
  (18, .aload_n 0, 1, 0, 0, 0, []),
  (19, .getfield 39, 3, 205, 0, 0, []),
  (22, .iload_n 2, 1, 2, 0, 0, []),
  (23, .iand, 1, 0, 0, 0, []),
  (24, .ior, 1, 0, 0, 0, []),
  (25, .putfield 36, 3, 914, 0, 0, []),
  (28, .aload_n 1, 1, 1, 0, 0, []),
  (29, .aload_n 1, 1, 1, 0, 0, []),
  (30, .getfield 40, 3, 915, 0, 0, []),
  (33, .iload_n 2, 1, 2, 0, 0, []),
  (34, .iconst (-1), 1, 0, (-1), 0, []),
  (35, .ixor, 1, 0, 0, 0, []),
  (36, .iand, 1, 0, 0, 0, []),
  (37, .aload_n 0, 1, 0, 0, 0, []),
  (38, .getfield 43, 3, 206, 0, 0, []),
  (41, .iload_n 2, 1, 2, 0, 0, []),
  (42, .iand, 1, 0, 0, 0, []),
  (43, .ior, 1, 0, 0, 0, []),
  (44, .putfield 40, 3, 915, 0, 0, []),
  (47, .aload_n 1, 1, 1, 0, 0, []),
  (48, .aload_n 0, 1, 0, 0, 0, []),
  (49, .getfield 47, 3, 207, 0, 0, []),
  (52, .putfield 44, 3, 917, 0, 0, []),
  (55, .aload_n 0, 1, 0, 0, 0, []),
  (56, .getfield 9, 3, 200, 0, 0, []),
  (59, .aload_n 1, 1, 1, 0, 0, []),
  (60, .getfield 48, 3, 900, 0, 0, []),
  (63, .aload_n 0, 1, 0, 0, 0, []),
  (64, .getfield 31, 3, 203, 0, 0, []),
  (67, .invokestatic 49, 3, 15, 0, 0, []),
  (70, .aload_n 0, 1, 0, 0, 0, []),
  (71, .getfield 15, 3, 201, 0, 0, []),
  (74, .aload_n 1, 1, 1, 0, 0, []),
  (75, .getfield 53, 3, 901, 0, 0, []),
  (78, .aload_n 0, 1, 0, 0, 0, []),
  (79, .getfield 31, 3, 203, 0, 0, []),
  (82, .invokestatic 49, 3, 15, 0, 0, []),
  (85, .aload_n 0, 1, 0, 0, 0, []),
  (86, .getfield 18, 3, 202, 0, 0, []),
  (89, .aload_n 1, 1, 1, 0, 0, []),
  (90, .getfield 54, 3, 908, 0, 0, []),
  (93, .bipush 6, 2, 0, 6, 0, []),
  (95, .invokestatic 49, 3, 15, 0, 0, []),
  (98, .return_, 1, 0, 0, 0, [])]
def mm_X2_layBack : mM := (2, yX2_layBack, cX2_layBack, 3, none, 2, (4222, 4220, 4221, 1010, false), mo_X2_layBack)
def mo_X2_copy : List mO := [
  (0, .iconst 0, 1, 0, 0, 0, []),
  (1, .istore_n 3, 1, 3, 0, 0, []),
  (2, .iload_n 3, 1, 3, 0, 0, []),
  (3, .iload_n 2, 1, 2, 0, 0, []),
  (4, .if_icmp .ge 27, 3, 31, 0, 0, []),
  (7, .iload_n 3, 1, 3, 0, 0, []),
  (8, .aload_n 0, 1, 0, 0, 0, []),
  (9, .arraylength, 1, 0, 0, 0, []),
  (10, .if_icmp .ge 21, 3, 31, 0, 0, []),
  (13, .iload_n 3, 1, 3, 0, 0, []),
  (14, .aload_n 1, 1, 1, 0, 0, []),
  (15, .arraylength, 1, 0, 0, 0, []),
  (16, .if_icmp .ge 15, 3, 31, 0, 0, []),
  (19, .aload_n 1, 1, 1, 0, 0, []),
  (20, .iload_n 3, 1, 3, 0, 0, []),
  (21, .aload_n 0, 1, 0, 0, 0, []),
  (22, .iload_n 3, 1, 3, 0, 0, []),
  (23, .iaload, 1, 0, 0, 0, []),
  (24, .iastore, 1, 0, 0, 0, []),
  (25, .iinc 3 1, 3, 3, 1, 0, []),
  (28, .goto (-26), 3, 2, 0, 0, []),
  (31, .return_, 1, 0, 0, 0, [])]
def mm_X2_copy : mM := (2, yX2_copy, cX2_copy, 4, none, 3, (4214, 4213, 0, 1010, true), mo_X2_copy)
def mo_X3_isTold : List mO := [
  (0, .aload_n 0, 1, 0, 0, 0, []),
  (1, .getfield 16, 3, 302, 0, 0, []),
  (4, .ifCond .le 7, 3, 11, 0, 0, []),
  (7, .iconst 1, 1, 0, 1, 0, []),
  (8, .goto 4, 3, 12, 0, 0, []),
  (11, .iconst 0, 1, 0, 0, 0, []),
  (12, .ireturn, 1, 0, 0, 0, [])]
def mm_X3_isTold : mM := (3, yX3_isTold, cX3_isTold, 1, (some .boolean), 1, (3104, 3102, 3103, 1003, false), mo_X3_isTold)
def mo_X3_become : List mO := [
  (0, .aload_n 0, 1, 0, 0, 0, []),
  (1, .iload_n 2, 1, 2, 0, 0, []),
  (2, .aload_n 1, 1, 1, 0, 0, []),
  (3, .arraylength, 1, 0, 0, 0, []),
  (4, .sipush 128, 3, 0, 128, 0, []),
  (7, .invokestatic 20, 3, 5002, 0, 0, []),
  (10, .invokestatic 20, 3, 5002, 0, 0, []),
  (13, .putfield 16, 3, 302, 0, 0, []),
  (16, .iconst 0, 1, 0, 0, 0, []),
  (17, .istore_n 3, 1, 3, 0, 0, []),
  (18, .iload_n 3, 1, 3, 0, 0, []),
  (19, .aload_n 0, 1, 0, 0, 0, []),
  (20, .getfield 16, 3, 302, 0, 0, []),
  (23, .if_icmp .ge 18, 3, 41, 0, 0, []),
  (26, .aload_n 0, 1, 0, 0, 0, []),
  (27, .getfield 9, 3, 300, 0, 0, []),
  (30, .iload_n 3, 1, 3, 0, 0, []),
  (31, .aload_n 1, 1, 1, 0, 0, []),
  (32, .iload_n 3, 1, 3, 0, 0, []),
  (33, .iaload, 1, 0, 0, 0, []),
  (34, .iastore, 1, 0, 0, 0, []),
  (35, .iinc 3 1, 3, 3, 1, 0, []),
  (38, .goto (-20), 3, 18, 0, 0, []),
  (41, .return_, 1, 0, 0, 0, [])]
def mm_X3_become : mM := (3, yX3_become, cX3_become, 4, none, 3, (3070, 3068, 3069, 1003, false), mo_X3_become)
def mo_X3_worth : List mO := [
  (0, .iconst 0, 1, 0, 0, 0, []),
  (1, .istore_n 2, 1, 2, 0, 0, []),
  (2, .iconst 0, 1, 0, 0, 0, []),
  (3, .istore_n 3, 1, 3, 0, 0, []),
  (4, .iload_n 3, 1, 3, 0, 0, []),
  (5, .aload_n 0, 1, 0, 0, 0, []),
  (6, .getfield 16, 3, 302, 0, 0, []),
  (9, .if_icmp .ge 183, 3, 192, 0, 0, []),
  (12, .aload_n 0, 1, 0, 0, 0, []),
  (13, .getfield 9, 3, 300, 0, 0, []),
  (16, .iload_n 3, 1, 3, 0, 0, []),
  (17, .iaload, 1, 0, 0, 0, []),
  (18, .istore 4, 2, 4, 0, 0, []),
  (20, .iload 4, 2, 4, 0, 0, []),
  (22, .bipush (-59), 2, 0, (-59), 0, []),
  (24, .if_icmp .ne 10, 3, 34, 0, 0, []),
  (27, .aload_n 0, 1, 0, 0, 0, []),
  (28, .getfield 13, 3, 301, 0, 0, []),
  (31, .iconst 0, 1, 0, 0, 0, []),
  (32, .iaload, 1, 0, 0, 0, []),
  (33, .ireturn, 1, 0, 0, 0, []),
  (34, .iload 4, 2, 4, 0, 0, []),
  (36, .bipush (-63), 2, 0, (-63), 0, []),
  (38, .if_icmp .ne 27, 3, 65, 0, 0, []),
  (41, .aload_n 0, 1, 0, 0, 0, []),
  (42, .getfield 13, 3, 301, 0, 0, []),
  (45, .iconst 0, 1, 0, 0, 0, []),
  (46, .iaload, 1, 0, 0, 0, []),
  (47, .ifCond .ne 11, 3, 58, 0, 0, []),
  (50, .aload_n 0, 1, 0, 0, 0, []),
  (51, .iload_n 3, 1, 3, 0, 0, []),
  (52, .invokevirtual 26, 3, 19, 0, 0, []),
  (55, .goto 4, 3, 59, 0, 0, []),
  (58, .iload_n 3, 1, 3, 0, 0, []),
  (59, .istore_n 3, 1, 3, 0, 0, []),
  (60, .iconst 0, 1, 0, 0, 0, []),
  (61, .istore_n 2, 1, 2, 0, 0, []),
  (62, .goto 124, 3, 186, 0, 0, []),
  (65, .iload 4, 2, 4, 0, 0, []),
  (67, .bipush (-6), 2, 0, (-6), 0, []),
  (69, .if_icmp .lt 38, 3, 107, 0, 0, []),
  (72, .iload_n 2, 1, 2, 0, 0, []),
  (73, .sipush 128, 3, 0, 128, 0, []),
  (76, .if_icmp .ge 110, 3, 186, 0, 0, []),
  (79, .aload_n 0, 1, 0, 0, 0, []),
  (80, .getfield 13, 3, 301, 0, 0, []),
  (83, .iload_n 2, 1, 2, 0, 0, []),
  (84, .iload 4, 2, 4, 0, 0, []),
  (86, .ifCond .lt 8, 3, 94, 0, 0, []),
  (89, .iload 4, 2, 4, 0, 0, []),
  (91, .goto 9, 3, 100, 0, 0, []),
  (94, .aload_n 1, 1, 1, 0, 0, []),
  (95, .iconst (-1), 1, 0, (-1), 0, []),
  (96, .iload 4, 2, 4, 0, 0, []),
  (98, .isub, 1, 0, 0, 0, []),
  (99, .iaload, 1, 0, 0, 0, []),
  (100, .iastore, 1, 0, 0, 0, []),
  (101, .iinc 2 1, 3, 2, 1, 0, []),
  (104, .goto 82, 3, 186, 0, 0, []),
  (107, .iload 4, 2, 4, 0, 0, []),
  (109, .bipush (-33), 2, 0, (-33), 0, []),
  (111, .if_icmp .eq 10, 3, 121, 0, 0, []),
  (114, .iload 4, 2, 4, 0, 0, []),
  (116, .bipush (-126), 2, 0, (-126), 0, []),
  (118, .if_icmp .ne 33, 3, 151, 0, 0, []),
  (121, .iload_n 2, 1, 2, 0, 0, []),
  (122, .iconst 1, 1, 0, 1, 0, []),
  (123, .if_icmp .lt 63, 3, 186, 0, 0, []),
  (126, .aload_n 0, 1, 0, 0, 0, []),
  (127, .getfield 13, 3, 301, 0, 0, []),
  (130, .iload_n 2, 1, 2, 0, 0, []),
  (131, .iconst 1, 1, 0, 1, 0, []),
  (132, .isub, 1, 0, 0, 0, []),
  (133, .iload 4, 2, 4, 0, 0, []),
  (135, .iconst 0, 1, 0, 0, 0, []),
  (136, .aload_n 0, 1, 0, 0, 0, []),
  (137, .getfield 13, 3, 301, 0, 0, []),
  (140, .iload_n 2, 1, 2, 0, 0, []),
  (141, .iconst 1, 1, 0, 1, 0, []),
  (142, .isub, 1, 0, 0, 0, []),
  (143, .iaload, 1, 0, 0, 0, []),
  (144, .invokestatic 30, 3, 20, 0, 0, []),
  (147, .iastore, 1, 0, 0, 0, []),
  (148, .goto 38, 3, 186, 0, 0, []),
  (151, .iload_n 2, 1, 2, 0, 0, []),
  (152, .iconst 2, 1, 0, 2, 0, []),
  (153, .if_icmp .lt 33, 3, 186, 0, 0, []),
  (156, .iinc 2 (-1), 3, 2, (-1), 0, []),
  (159, .aload_n 0, 1, 0, 0, 0, []),
  (160, .getfield 13, 3, 301, 0, 0, []),
  (163, .iload_n 2, 1, 2, 0, 0, []),
  (164, .iconst 1, 1, 0, 1, 0, []),
  (165, .isub, 1, 0, 0, 0, []),
  (166, .iload 4, 2, 4, 0, 0, []),
  (168, .aload_n 0, 1, 0, 0, 0, []),
  (169, .getfield 13, 3, 301, 0, 0, []),
  (172, .iload_n 2, 1, 2, 0, 0, []),
  (173, .iconst 1, 1, 0, 1, 0, []),
  (174, .isub, 1, 0, 0, 0, []),
  (175, .iaload, 1, 0, 0, 0, []),
  (176, .aload_n 0, 1, 0, 0, 0, []),
  (177, .getfield 13, 3, 301, 0, 0, []),
  (180, .iload_n 2, 1, 2, 0, 0, []),
  (181, .iaload, 1, 0, 0, 0, []),
  (182, .invokestatic 30, 3, 20, 0, 0, []),
  (185, .iastore, 1, 0, 0, 0, []),
  (186, .iinc 3 1, 3, 3, 1, 0, []),
  (189, .goto (-185), 3, 4, 0, 0, []),
  (192, .iconst 0, 1, 0, 0, 0, []),
  (193, .ireturn, 1, 0, 0, 0, [])]
def mm_X3_worth : mM := (3, yX3_worth, cX3_worth, 5, (some .int), 2, (3112, 3110, 3111, 1003, false), mo_X3_worth)
def mo_X3_endOfLine : List mO := [
  (0, .iload_n 1, 1, 1, 0, 0, []),
  (1, .istore_n 2, 1, 2, 0, 0, []),
  (2, .iload_n 2, 1, 2, 0, 0, []),
  (3, .aload_n 0, 1, 0, 0, 0, []),
  (4, .getfield 16, 3, 302, 0, 0, []),
  (7, .if_icmp .ge 22, 3, 29, 0, 0, []),
  (10, .aload_n 0, 1, 0, 0, 0, []),
  (11, .getfield 9, 3, 300, 0, 0, []),
  (14, .iload_n 2, 1, 2, 0, 0, []),
  (15, .iaload, 1, 0, 0, 0, []),
  (16, .bipush (-59), 2, 0, (-59), 0, []),
  (18, .if_icmp .ne 5, 3, 23, 0, 0, []),
  (21, .iload_n 2, 1, 2, 0, 0, []),
  (22, .ireturn, 1, 0, 0, 0, []),
  (23, .iinc 2 1, 3, 2, 1, 0, []),
  (26, .goto (-24), 3, 2, 0, 0, []),
  (29, .aload_n 0, 1, 0, 0, 0, []),
  (30, .getfield 16, 3, 302, 0, 0, []),
  (33, .ireturn, 1, 0, 0, 0, [])]
def mm_X3_endOfLine : mM := (3, yX3_endOfLine, cX3_endOfLine, 3, (some .int), 2, (3116, 3115, 10, 1003, false), mo_X3_endOfLine)
def mo_X3_joined : List mO := [
  (0, .iload_n 0, 1, 0, 0, 0, []),
  (1, .ineg, 1, 0, 0, 0, []),
  (2, .lookupswitch 213 #[(33, 167), (37, 201), (38, 120), (42, 185), (43, 177), (45, 181), (47, 189), (60, 134), (61, 145), (62, 156), (124, 106), (126, 181)], 106, 215, 0, 0, [(33, 169), (37, 203), (38, 122), (42, 187), (43, 179), (45, 183), (47, 191), (60, 136), (61, 147), (62, 158), (124, 108), (126, 183)]),
  (108, .iload_n 1, 1, 1, 0, 0, []),
  (109, .ifCond .ne 7, 3, 116, 0, 0, []),
  (112, .iload_n 2, 1, 2, 0, 0, []),
  (113, .ifCond .eq 7, 3, 120, 0, 0, []),
  (116, .iconst 1, 1, 0, 1, 0, []),
  (117, .goto 4, 3, 121, 0, 0, []),
  (120, .iconst 0, 1, 0, 0, 0, []),
  (121, .ireturn, 1, 0, 0, 0, []),
  (122, .iload_n 1, 1, 1, 0, 0, []),
  (123, .ifCond .eq 11, 3, 134, 0, 0, []),
  (126, .iload_n 2, 1, 2, 0, 0, []),
  (127, .ifCond .eq 7, 3, 134, 0, 0, []),
  (130, .iconst 1, 1, 0, 1, 0, []),
  (131, .goto 4, 3, 135, 0, 0, []),
  (134, .iconst 0, 1, 0, 0, 0, []),
  (135, .ireturn, 1, 0, 0, 0, []),
  (136, .iload_n 1, 1, 1, 0, 0, []),
  (137, .iload_n 2, 1, 2, 0, 0, []),
  (138, .if_icmp .ge 7, 3, 145, 0, 0, []),
  (141, .iconst 1, 1, 0, 1, 0, []),
  (142, .goto 4, 3, 146, 0, 0, []),
  (145, .iconst 0, 1, 0, 0, 0, []),
  (146, .ireturn, 1, 0, 0, 0, []),
  (147, .iload_n 1, 1, 1, 0, 0, []),
  (148, .iload_n 2, 1, 2, 0, 0, []),
  (149, .if_icmp .ne 7, 3, 156, 0, 0, []),
  (152, .iconst 1, 1, 0, 1, 0, []),
  (153, .goto 4, 3, 157, 0, 0, []),
  (156, .iconst 0, 1, 0, 0, 0, []),
  (157, .ireturn, 1, 0, 0, 0, []),
  (158, .iload_n 1, 1, 1, 0, 0, []),
  (159, .iload_n 2, 1, 2, 0, 0, []),
  (160, .if_icmp .le 7, 3, 167, 0, 0, []),
  (163, .iconst 1, 1, 0, 1, 0, []),
  (164, .goto 4, 3, 168, 0, 0, []),
  (167, .iconst 0, 1, 0, 0, 0, []),
  (168, .ireturn, 1, 0, 0, 0, []),
  (169, .iload_n 2, 1, 2, 0, 0, []),
  (170, .ifCond .ne 7, 3, 177, 0, 0, []),
  (173, .iconst 1, 1, 0, 1, 0, []),
  (174, .goto 4, 3, 178, 0, 0, []),
  (177, .iconst 0, 1, 0, 0, 0, []),
  (178, .ireturn, 1, 0, 0, 0, []),
  (179, .iload_n 1, 1, 1, 0, 0, []),
  (180, .iload_n 2, 1, 2, 0, 0, []),
  (181, .iadd, 1, 0, 0, 0, []),
  (182, .ireturn, 1, 0, 0, 0, []),
  (183, .iload_n 1, 1, 1, 0, 0, []),
  (184, .iload_n 2, 1, 2, 0, 0, []),
  (185, .isub, 1, 0, 0, 0, []),
  (186, .ireturn, 1, 0, 0, 0, []),
  (187, .iload_n 1, 1, 1, 0, 0, []),
  (188, .iload_n 2, 1, 2, 0, 0, []),
  (189, .imul, 1, 0, 0, 0, []),
  (190, .ireturn, 1, 0, 0, 0, []),
  (191, .iload_n 2, 1, 2, 0, 0, []),
  (192, .ifCond .ne 7, 3, 199, 0, 0, []),
  (195, .iconst 0, 1, 0, 0, 0, []),
  (196, .goto 6, 3, 202, 0, 0, []),
  (199, .iload_n 1, 1, 1, 0, 0, []),
  (200, .iload_n 2, 1, 2, 0, 0, []),
  (201, .idiv, 1, 0, 0, 0, []),
  (202, .ireturn, 1, 0, 0, 0, []),
  (203, .iload_n 2, 1, 2, 0, 0, []),
  (204, .ifCond .ne 7, 3, 211, 0, 0, []),
  (207, .iconst 0, 1, 0, 0, 0, []),
  (208, .goto 6, 3, 214, 0, 0, []),
  (211, .iload_n 1, 1, 1, 0, 0, []),
  (212, .iload_n 2, 1, 2, 0, 0, []),
  (213, .irem, 1, 0, 0, 0, []),
  (214, .ireturn, 1, 0, 0, 0, []),
  (215, .iconst 0, 1, 0, 0, 0, []),
  (216, .ireturn, 1, 0, 0, 0, [])]
def mm_X3_joined : mM := (3, yX3_joined, cX3_joined, 3, (some .int), 3, (3119, 3118, 0, 1003, true), mo_X3_joined)
def mo_X5_onWhereHeStands : List mO := [
  (0, .aload_n 0, 1, 0, 0, 0, []),
  (1, .getfield 18, 3, 500, 0, 0, []),
  (4, .iload_n 1, 1, 1, 0, 0, []),
  (5, .aload_n 0, 1, 0, 0, 0, []),
  (6, .getfield 18, 3, 500, 0, 0, []),
  (9, .getfield 22, 3, 900, 0, 0, []),
  (12, .iload_n 1, 1, 1, 0, 0, []),
  (13, .iaload, 1, 0, 0, 0, []),
  (14, .aload_n 0, 1, 0, 0, 0, []),
  (15, .getfield 18, 3, 500, 0, 0, []),
  (18, .getfield 27, 3, 917, 0, 0, []),
  (21, .invokevirtual 31, 3, 76, 0, 0, []),
  (24, .ireturn, 1, 0, 0, 0, [])]
def mm_X5_onWhereHeStands : mM := (5, yX5_onWhereHeStands, cX5_onWhereHeStands, 2, (some .int), 2, (4003, 4002, 16, 1007, false), mo_X5_onWhereHeStands)
def mo_X5_foresee : List mO := [
  (0, .iload_n 1, 1, 1, 0, 0, []),
  (1, .invokestatic 35, 3, 278, 0, 0, []),
  (4, .istore 4, 2, 4, 0, 0, []),
  (6, .aload_n 0, 1, 0, 0, 0, []),
  (7, .getfield 18, 3, 500, 0, 0, []),
  (10, .invokevirtual 41, 3, 68, 0, 0, []),
  (13, .astore 5, 2, 5, 0, 0, []),
  (15, .iconst 0, 1, 0, 0, 0, []),
  (16, .istore 6, 2, 6, 0, 0, []),
  (18, .iload 6, 2, 6, 0, 0, []),
  (20, .bipush 12, 2, 0, 12, 0, []),
  (22, .if_icmp .gt 117, 3, 139, 0, 0, []),
  (25, .aload_n 0, 1, 0, 0, 0, []),
  (26, .getfield 9, 3, 501, 0, 0, []),
  (29, .iload 6, 2, 6, 0, 0, []),
  (31, .iconst 0, 1, 0, 0, 0, []),
  (32, .iastore, 1, 0, 0, 0, []),
  (33, .aload 5, 2, 5, 0, 0, []),
  (35, .iload_n 3, 1, 3, 0, 0, []),
  (36, .ifCond .eq 8, 3, 44, 0, 0, []),
  (39, .iload 6, 2, 6, 0, 0, []),
  (41, .goto 4, 3, 45, 0, 0, []),
  (44, .iconst 0, 1, 0, 0, 0, []),
  (45, .putfield 45, 3, 403, 0, 0, []),
  (48, .iconst 0, 1, 0, 0, 0, []),
  (49, .istore 7, 2, 7, 0, 0, []),
  (51, .iload 7, 2, 7, 0, 0, []),
  (53, .aload_n 0, 1, 0, 0, 0, []),
  (54, .getfield 18, 3, 500, 0, 0, []),
  (57, .getfield 50, 3, 913, 0, 0, []),
  (60, .if_icmp .ge 73, 3, 133, 0, 0, []),
  (63, .iload 6, 2, 6, 0, 0, []),
  (65, .iload 4, 2, 4, 0, 0, []),
  (67, .if_icmp .ge 66, 3, 133, 0, 0, []),
  (70, .iload 6, 2, 6, 0, 0, []),
  (72, .iload_n 2, 1, 2, 0, 0, []),
  (73, .if_icmp .gt 60, 3, 133, 0, 0, []),
  (76, .iload_n 1, 1, 1, 0, 0, []),
  (77, .iload 7, 2, 7, 0, 0, []),
  (79, .invokestatic 53, 3, 146, 0, 0, []),
  (82, .ifCond .eq 45, 3, 127, 0, 0, []),
  (85, .aload_n 0, 1, 0, 0, 0, []),
  (86, .getfield 18, 3, 500, 0, 0, []),
  (89, .iload 7, 2, 7, 0, 0, []),
  (91, .iload 4, 2, 4, 0, 0, []),
  (93, .iload 6, 2, 6, 0, 0, []),
  (95, .isub, 1, 0, 0, 0, []),
  (96, .iconst 1, 1, 0, 1, 0, []),
  (97, .isub, 1, 0, 0, 0, []),
  (98, .aload 5, 2, 5, 0, 0, []),
  (100, .invokevirtual 57, 3, 71, 0, 0, []),
  (103, .aload_n 0, 1, 0, 0, 0, []),
  (104, .getfield 18, 3, 500, 0, 0, []),
  (107, .getfield 61, 3, 916, 0, 0, []),
  (110, .if_icmp .lt 17, 3, 127, 0, 0, []),
  (113, .aload_n 0, 1, 0, 0, 0, []),
  (114, .getfield 9, 3, 501, 0, 0, []),
  (117, .iload 6, 2, 6, 0, 0, []),
  (119, .dup2, 1, 0, 0, 0, []),
  (120, .iaload, 1, 0, 0, 0, []),
  (121, .iconst 1, 1, 0, 1, 0, []),
  (122, .iload 7, 2, 7, 0, 0, []),
  (124, .ishl, 1, 0, 0, 0, []),
  (125, .ior, 1, 0, 0, 0, []),
  (126, .iastore, 1, 0, 0, 0, []),
  (127, .iinc 7 1, 3, 7, 1, 0, []),
  (130, .goto (-79), 3, 51, 0, 0, []),
  (133, .iinc 6 1, 3, 6, 1, 0, []),
  (136, .goto (-118), 3, 18, 0, 0, []),
  (139, .return_, 1, 0, 0, 0, [])]
def mm_X5_foresee : mM := (5, yX5_foresee, cX5_foresee, 8, none, 4, (4008, 4007, 17, 1007, false), mo_X5_foresee)
def mo_X5_isFree : List mO := [
  (0, .iload_n 1, 1, 1, 0, 0, []),
  (1, .iload_n 2, 1, 2, 0, 0, []),
  (2, .iconst (-1), 1, 0, (-1), 0, []),
  (3, .ixor, 1, 0, 0, 0, []),
  (4, .iand, 1, 0, 0, 0, []),
  (5, .aload_n 0, 1, 0, 0, 0, []),
  (6, .getfield 9, 3, 501, 0, 0, []),
  (9, .iload_n 2, 1, 2, 0, 0, []),
  (10, .iload_n 1, 1, 1, 0, 0, []),
  (11, .iand, 1, 0, 0, 0, []),
  (12, .invokestatic 35, 3, 278, 0, 0, []),
  (15, .iaload, 1, 0, 0, 0, []),
  (16, .iand, 1, 0, 0, 0, []),
  (17, .ifCond .ne 7, 3, 24, 0, 0, []),
  (20, .iconst 1, 1, 0, 1, 0, []),
  (21, .goto 4, 3, 25, 0, 0, []),
  (24, .iconst 0, 1, 0, 0, 0, []),
  (25, .ireturn, 1, 0, 0, 0, [])]
def mm_X5_isFree : mM := (5, yX5_isFree, cX5_isFree, 3, (some .boolean), 3, (4016, 4015, 18, 1007, false), mo_X5_isFree)
def mo_X5_fewestWords : List mO := [
  (0, .aload_n 0, 1, 0, 0, 0, []),
  (1, .iload_n 1, 1, 1, 0, 0, []),
  (2, .invokevirtual 64, 3, 21, 0, 0, []),
  (5, .istore_n 2, 1, 2, 0, 0, []),
  (6, .aload_n 0, 1, 0, 0, 0, []),
  (7, .iload_n 2, 1, 2, 0, 0, []),
  (8, .bipush 12, 2, 0, 12, 0, []),
  (10, .iconst 0, 1, 0, 0, 0, []),
  (11, .invokevirtual 67, 3, 22, 0, 0, []),
  (14, .iconst 1, 1, 0, 1, 0, []),
  (15, .iload_n 2, 1, 2, 0, 0, []),
  (16, .invokestatic 35, 3, 278, 0, 0, []),
  (19, .ishl, 1, 0, 0, 0, []),
  (20, .istore_n 3, 1, 3, 0, 0, []),
  (21, .iload_n 2, 1, 2, 0, 0, []),
  (22, .istore 4, 2, 4, 0, 0, []),
  (24, .iconst 0, 1, 0, 0, 0, []),
  (25, .istore 5, 2, 5, 0, 0, []),
  (27, .iconst 0, 1, 0, 0, 0, []),
  (28, .istore 6, 2, 6, 0, 0, []),
  (30, .iload 6, 2, 6, 0, 0, []),
  (32, .iload_n 3, 1, 3, 0, 0, []),
  (33, .if_icmp .ge 44, 3, 77, 0, 0, []),
  (36, .iload 5, 2, 5, 0, 0, []),
  (38, .invokestatic 35, 3, 278, 0, 0, []),
  (41, .iload 4, 2, 4, 0, 0, []),
  (43, .invokestatic 35, 3, 278, 0, 0, []),
  (46, .if_icmp .ge 17, 3, 63, 0, 0, []),
  (49, .aload_n 0, 1, 0, 0, 0, []),
  (50, .iload_n 2, 1, 2, 0, 0, []),
  (51, .iload 5, 2, 5, 0, 0, []),
  (53, .invokevirtual 71, 3, 23, 0, 0, []),
  (56, .ifCond .eq 7, 3, 63, 0, 0, []),
  (59, .iload 5, 2, 5, 0, 0, []),
  (61, .istore 4, 2, 4, 0, 0, []),
  (63, .iload 5, 2, 5, 0, 0, []),
  (65, .iload_n 2, 1, 2, 0, 0, []),
  (66, .invokestatic 74, 3, 26, 0, 0, []),
  (69, .istore 5, 2, 5, 0, 0, []),
  (71, .iinc 6 1, 3, 6, 1, 0, []),
  (74, .goto (-44), 3, 30, 0, 0, []),
  (77, .iload 4, 2, 4, 0, 0, []),
  (79, .ireturn, 1, 0, 0, 0, [])]
def mm_X5_fewestWords : mM := (5, yX5_fewestWords, cX5_fewestWords, 7, (some .int), 2, (3239, 3237, 3238, 1007, false), mo_X5_fewestWords)
def mo_X5_leastRued : List mO := [
  (0, .aload_n 0, 1, 0, 0, 0, []),
  (1, .iload_n 1, 1, 1, 0, 0, []),
  (2, .invokevirtual 64, 3, 21, 0, 0, []),
  (5, .istore_n 2, 1, 2, 0, 0, []),
  (6, .aload_n 0, 1, 0, 0, 0, []),
  (7, .getfield 18, 3, 500, 0, 0, []),
  (10, .getfield 78, 3, 901, 0, 0, []),
  (13, .iload_n 1, 1, 1, 0, 0, []),
  (14, .iaload, 1, 0, 0, 0, []),
  (15, .istore_n 3, 1, 3, 0, 0, []),
  (16, .aload_n 0, 1, 0, 0, 0, []),
  (17, .iload_n 2, 1, 2, 0, 0, []),
  (18, .iload_n 3, 1, 3, 0, 0, []),
  (19, .iconst 1, 1, 0, 1, 0, []),
  (20, .invokevirtual 67, 3, 22, 0, 0, []),
  (23, .iconst 1, 1, 0, 1, 0, []),
  (24, .iload_n 2, 1, 2, 0, 0, []),
  (25, .invokestatic 35, 3, 278, 0, 0, []),
  (28, .ishl, 1, 0, 0, 0, []),
  (29, .istore 4, 2, 4, 0, 0, []),
  (31, .iconst (-1), 1, 0, (-1), 0, []),
  (32, .istore 5, 2, 5, 0, 0, []),
  (34, .ldc 81, 2, 4062, 2147483647, 0, []),
  (36, .istore 6, 2, 6, 0, 0, []),
  (38, .iconst 0, 1, 0, 0, 0, []),
  (39, .istore 7, 2, 7, 0, 0, []),
  (41, .iconst 0, 1, 0, 0, 0, []),
  (42, .istore 8, 2, 8, 0, 0, []),
  (44, .iload 8, 2, 8, 0, 0, []),
  (46, .iload 4, 2, 4, 0, 0, []),
  (48, .if_icmp .ge 65, 3, 113, 0, 0, []),
  (51, .iload 7, 2, 7, 0, 0, []),
  (53, .invokestatic 35, 3, 278, 0, 0, []),
  (56, .iload_n 3, 1, 3, 0, 0, []),
  (57, .if_icmp .gt 42, 3, 99, 0, 0, []),
  (60, .aload_n 0, 1, 0, 0, 0, []),
  (61, .iload_n 2, 1, 2, 0, 0, []),
  (62, .iload 7, 2, 7, 0, 0, []),
  (64, .invokevirtual 71, 3, 23, 0, 0, []),
  (67, .ifCond .eq 32, 3, 99, 0, 0, []),
  (70, .aload_n 0, 1, 0, 0, 0, []),
  (71, .getfield 18, 3, 500, 0, 0, []),
  (74, .iload 7, 2, 7, 0, 0, []),
  (76, .invokevirtual 82, 3, 79, 0, 0, []),
  (79, .iload 6, 2, 6, 0, 0, []),
  (81, .if_icmp .ge 18, 3, 99, 0, 0, []),
  (84, .iload 7, 2, 7, 0, 0, []),
  (86, .istore 5, 2, 5, 0, 0, []),
  (88, .aload_n 0, 1, 0, 0, 0, []),
  (89, .getfield 18, 3, 500, 0, 0, []),
  (92, .iload 7, 2, 7, 0, 0, []),
  (94, .invokevirtual 82, 3, 79, 0, 0, []),
  (97, .istore 6, 2, 6, 0, 0, []),
  (99, .iload 7, 2, 7, 0, 0, []),
  (101, .iload_n 2, 1, 2, 0, 0, []),
  (102, .invokestatic 74, 3, 26, 0, 0, []),
  (105, .istore 7, 2, 7, 0, 0, []),
  (107, .iinc 8 1, 3, 8, 1, 0, []),
  (110, .goto (-66), 3, 44, 0, 0, []),
  (113, .iload 5, 2, 5, 0, 0, []),
  (115, .ireturn, 1, 0, 0, 0, [])]
def mm_X5_leastRued : mM := (5, yX5_leastRued, cX5_leastRued, 9, (some .int), 2, (4061, 4059, 4060, 1007, false), mo_X5_leastRued)
def mo_X5_nextPart : List mO := [
  (0, .iload_n 0, 1, 0, 0, 0, []),
  (1, .iload_n 1, 1, 1, 0, 0, []),
  (2, .isub, 1, 0, 0, 0, []),
  (3, .iload_n 1, 1, 1, 0, 0, []),
  (4, .iand, 1, 0, 0, 0, []),
  (5, .ireturn, 1, 0, 0, 0, [])]
def mm_X5_nextPart : mM := (5, yX5_nextPart, cX5_nextPart, 2, (some .int), 2, (4019, 4018, 0, 1007, true), mo_X5_nextPart)
def mo_X5_fewestPeople : List mO := [
  (0, .aload_n 0, 1, 0, 0, 0, []),
  (1, .invokevirtual 85, 3, 28, 0, 0, []),
  (4, .istore_n 1, 1, 1, 0, 0, []),
  (5, .iconst 1, 1, 0, 1, 0, []),
  (6, .iload_n 1, 1, 1, 0, 0, []),
  (7, .invokestatic 35, 3, 278, 0, 0, []),
  (10, .ishl, 1, 0, 0, 0, []),
  (11, .istore_n 2, 1, 2, 0, 0, []),
  (12, .iload_n 1, 1, 1, 0, 0, []),
  (13, .istore_n 3, 1, 3, 0, 0, []),
  (14, .iconst 0, 1, 0, 0, 0, []),
  (15, .istore 4, 2, 4, 0, 0, []),
  (17, .iconst 0, 1, 0, 0, 0, []),
  (18, .istore 5, 2, 5, 0, 0, []),
  (20, .iload 5, 2, 5, 0, 0, []),
  (22, .iload_n 2, 1, 2, 0, 0, []),
  (23, .if_icmp .ge 41, 3, 64, 0, 0, []),
  (26, .iload 4, 2, 4, 0, 0, []),
  (28, .invokestatic 35, 3, 278, 0, 0, []),
  (31, .iload_n 3, 1, 3, 0, 0, []),
  (32, .invokestatic 35, 3, 278, 0, 0, []),
  (35, .if_icmp .ge 15, 3, 50, 0, 0, []),
  (38, .aload_n 0, 1, 0, 0, 0, []),
  (39, .iload 4, 2, 4, 0, 0, []),
  (41, .invokevirtual 89, 3, 29, 0, 0, []),
  (44, .ifCond .eq 6, 3, 50, 0, 0, []),
  (47, .iload 4, 2, 4, 0, 0, []),
  (49, .istore_n 3, 1, 3, 0, 0, []),
  (50, .iload 4, 2, 4, 0, 0, []),
  (52, .iload_n 1, 1, 1, 0, 0, []),
  (53, .invokestatic 74, 3, 26, 0, 0, []),
  (56, .istore 4, 2, 4, 0, 0, []),
  (58, .iinc 5 1, 3, 5, 1, 0, []),
  (61, .goto (-41), 3, 20, 0, 0, []),
  (64, .iload_n 3, 1, 3, 0, 0, []),
  (65, .ireturn, 1, 0, 0, 0, [])]
def mm_X5_fewestPeople : mM := (5, yX5_fewestPeople, cX5_fewestPeople, 6, (some .int), 1, (4027, 4025, 4026, 1007, false), mo_X5_fewestPeople)
def mo_X5_peopleWhoCanFree : List mO := [
  (0, .iconst 0, 1, 0, 0, 0, []),
  (1, .istore_n 1, 1, 1, 0, 0, []),
  (2, .iconst 0, 1, 0, 0, 0, []),
  (3, .istore_n 2, 1, 2, 0, 0, []),
  (4, .iload_n 2, 1, 2, 0, 0, []),
  (5, .aload_n 0, 1, 0, 0, 0, []),
  (6, .getfield 18, 3, 500, 0, 0, []),
  (9, .getfield 93, 3, 912, 0, 0, []),
  (12, .if_icmp .ge 17, 3, 29, 0, 0, []),
  (15, .iload_n 1, 1, 1, 0, 0, []),
  (16, .aload_n 0, 1, 0, 0, 0, []),
  (17, .iload_n 2, 1, 2, 0, 0, []),
  (18, .invokevirtual 64, 3, 21, 0, 0, []),
  (21, .ior, 1, 0, 0, 0, []),
  (22, .istore_n 1, 1, 1, 0, 0, []),
  (23, .iinc 2 1, 3, 2, 1, 0, []),
  (26, .goto (-22), 3, 4, 0, 0, []),
  (29, .aload_n 0, 1, 0, 0, 0, []),
  (30, .iload_n 1, 1, 1, 0, 0, []),
  (31, .invokevirtual 96, 3, 31, 0, 0, []),
  (34, .ireturn, 1, 0, 0, 0, [])]
def mm_X5_peopleWhoCanFree : mM := (5, yX5_peopleWhoCanFree, cX5_peopleWhoCanFree, 3, (some .int), 1, (4031, 4030, 19, 1007, false), mo_X5_peopleWhoCanFree)
def mo_X5_nobodyIsHeldWithout : List mO := [
  (0, .aload_n 0, 1, 0, 0, 0, []),
  (1, .getfield 18, 3, 500, 0, 0, []),
  (4, .invokevirtual 41, 3, 68, 0, 0, []),
  (7, .astore_n 2, 1, 2, 0, 0, []),
  (8, .iconst 0, 1, 0, 0, 0, []),
  (9, .istore_n 3, 1, 3, 0, 0, []),
  (10, .iload_n 3, 1, 3, 0, 0, []),
  (11, .aload_n 0, 1, 0, 0, 0, []),
  (12, .getfield 18, 3, 500, 0, 0, []),
  (15, .getfield 50, 3, 913, 0, 0, []),
  (18, .if_icmp .ge 37, 3, 55, 0, 0, []),
  (21, .iload_n 1, 1, 1, 0, 0, []),
  (22, .aload_n 0, 1, 0, 0, 0, []),
  (23, .getfield 18, 3, 500, 0, 0, []),
  (26, .getfield 99, 3, 903, 0, 0, []),
  (29, .iload_n 3, 1, 3, 0, 0, []),
  (30, .iaload, 1, 0, 0, 0, []),
  (31, .invokestatic 53, 3, 146, 0, 0, []),
  (34, .ifCond .eq 15, 3, 49, 0, 0, []),
  (37, .aload_n 2, 1, 2, 0, 0, []),
  (38, .dup, 1, 0, 0, 0, []),
  (39, .getfield 102, 3, 401, 0, 0, []),
  (42, .iconst 1, 1, 0, 1, 0, []),
  (43, .iload_n 3, 1, 3, 0, 0, []),
  (44, .ishl, 1, 0, 0, 0, []),
  (45, .ior, 1, 0, 0, 0, []),
  (46, .putfield 102, 3, 401, 0, 0, []),
  (49, .iinc 3 1, 3, 3, 1, 0, []),
  (52, .goto (-42), 3, 10, 0, 0, []),
  (55, .iconst 0, 1, 0, 0, 0, []),
  (56, .istore_n 3, 1, 3, 0, 0, []),
  (57, .iload_n 3, 1, 3, 0, 0, []),
  (58, .aload_n 0, 1, 0, 0, 0, []),
  (59, .getfield 18, 3, 500, 0, 0, []),
  (62, .getfield 93, 3, 912, 0, 0, []),
  (65, .if_icmp .ge 32, 3, 97, 0, 0, []),
  (68, .aload_n 0, 1, 0, 0, 0, []),
  (69, .getfield 18, 3, 500, 0, 0, []),
  (72, .iload_n 3, 1, 3, 0, 0, []),
  (73, .aload_n 0, 1, 0, 0, 0, []),
  (74, .getfield 18, 3, 500, 0, 0, []),
  (77, .getfield 22, 3, 900, 0, 0, []),
  (80, .iload_n 3, 1, 3, 0, 0, []),
  (81, .iaload, 1, 0, 0, 0, []),
  (82, .aload_n 2, 1, 2, 0, 0, []),
  (83, .invokevirtual 105, 3, 73, 0, 0, []),
  (86, .ifCond .eq 5, 3, 91, 0, 0, []),
  (89, .iconst 0, 1, 0, 0, 0, []),
  (90, .ireturn, 1, 0, 0, 0, []),
  (91, .iinc 3 1, 3, 3, 1, 0, []),
  (94, .goto (-37), 3, 57, 0, 0, []),
  (97, .iconst 1, 1, 0, 1, 0, []),
  (98, .ireturn, 1, 0, 0, 0, [])]
def mm_X5_nobodyIsHeldWithout : mM := (5, yX5_nobodyIsHeldWithout, cX5_nobodyIsHeldWithout, 4, (some .boolean), 2, (4039, 4038, 21, 1007, false), mo_X5_nobodyIsHeldWithout)
def mo_X5_shortestRing : List mO := [
  (0, .iconst 0, 1, 0, 0, 0, []),
  (1, .istore_n 1, 1, 1, 0, 0, []),
  (2, .iload_n 1, 1, 1, 0, 0, []),
  (3, .aload_n 0, 1, 0, 0, 0, []),
  (4, .getfield 18, 3, 500, 0, 0, []),
  (7, .getfield 93, 3, 912, 0, 0, []),
  (10, .if_icmp .ge 27, 3, 37, 0, 0, []),
  (13, .aload_n 0, 1, 0, 0, 0, []),
  (14, .getfield 15, 3, 502, 0, 0, []),
  (17, .iload_n 1, 1, 1, 0, 0, []),
  (18, .aload_n 0, 1, 0, 0, 0, []),
  (19, .aload_n 0, 1, 0, 0, 0, []),
  (20, .getfield 18, 3, 500, 0, 0, []),
  (23, .iload_n 1, 1, 1, 0, 0, []),
  (24, .invokevirtual 108, 3, 74, 0, 0, []),
  (27, .invokevirtual 96, 3, 31, 0, 0, []),
  (30, .iastore, 1, 0, 0, 0, []),
  (31, .iinc 1 1, 3, 1, 1, 0, []),
  (34, .goto (-32), 3, 2, 0, 0, []),
  (37, .bipush 7, 2, 0, 7, 0, []),
  (39, .istore_n 1, 1, 1, 0, 0, []),
  (40, .iconst 0, 1, 0, 0, 0, []),
  (41, .istore_n 2, 1, 2, 0, 0, []),
  (42, .iload_n 2, 1, 2, 0, 0, []),
  (43, .aload_n 0, 1, 0, 0, 0, []),
  (44, .getfield 18, 3, 500, 0, 0, []),
  (47, .getfield 93, 3, 912, 0, 0, []),
  (50, .if_icmp .ge 48, 3, 98, 0, 0, []),
  (53, .aload_n 0, 1, 0, 0, 0, []),
  (54, .getfield 15, 3, 502, 0, 0, []),
  (57, .iload_n 2, 1, 2, 0, 0, []),
  (58, .iaload, 1, 0, 0, 0, []),
  (59, .istore_n 3, 1, 3, 0, 0, []),
  (60, .iconst 1, 1, 0, 1, 0, []),
  (61, .istore 4, 2, 4, 0, 0, []),
  (63, .iload 4, 2, 4, 0, 0, []),
  (65, .iload_n 1, 1, 1, 0, 0, []),
  (66, .if_icmp .ge 26, 3, 92, 0, 0, []),
  (69, .iload_n 3, 1, 3, 0, 0, []),
  (70, .iload_n 2, 1, 2, 0, 0, []),
  (71, .invokestatic 53, 3, 146, 0, 0, []),
  (74, .ifCond .eq 6, 3, 80, 0, 0, []),
  (77, .iload 4, 2, 4, 0, 0, []),
  (79, .istore_n 1, 1, 1, 0, 0, []),
  (80, .aload_n 0, 1, 0, 0, 0, []),
  (81, .iload_n 3, 1, 3, 0, 0, []),
  (82, .invokevirtual 111, 3, 32, 0, 0, []),
  (85, .istore_n 3, 1, 3, 0, 0, []),
  (86, .iinc 4 1, 3, 4, 1, 0, []),
  (89, .goto (-26), 3, 63, 0, 0, []),
  (92, .iinc 2 1, 3, 2, 1, 0, []),
  (95, .goto (-53), 3, 42, 0, 0, []),
  (98, .iload_n 1, 1, 1, 0, 0, []),
  (99, .bipush 6, 2, 0, 6, 0, []),
  (101, .if_icmp .le 8, 3, 109, 0, 0, []),
  (104, .bipush (-2), 2, 0, (-2), 0, []),
  (106, .goto 4, 3, 110, 0, 0, []),
  (109, .iload_n 1, 1, 1, 0, 0, []),
  (110, .ireturn, 1, 0, 0, 0, [])]
def mm_X5_shortestRing : mM := (5, yX5_shortestRing, cX5_shortestRing, 5, (some .int), 1, (4048, 4046, 4047, 1007, false), mo_X5_shortestRing)
def mo_X5_peopleOf : List mO := [
  (0, .iconst 0, 1, 0, 0, 0, []),
  (1, .istore_n 2, 1, 2, 0, 0, []),
  (2, .iconst 0, 1, 0, 0, 0, []),
  (3, .istore_n 3, 1, 3, 0, 0, []),
  (4, .iload_n 3, 1, 3, 0, 0, []),
  (5, .aload_n 0, 1, 0, 0, 0, []),
  (6, .getfield 18, 3, 500, 0, 0, []),
  (9, .getfield 50, 3, 913, 0, 0, []),
  (12, .if_icmp .ge 31, 3, 43, 0, 0, []),
  (15, .iload_n 1, 1, 1, 0, 0, []),
  (16, .iload_n 3, 1, 3, 0, 0, []),
  (17, .invokestatic 53, 3, 146, 0, 0, []),
  (20, .ifCond .eq 17, 3, 37, 0, 0, []),
  (23, .iload_n 2, 1, 2, 0, 0, []),
  (24, .iconst 1, 1, 0, 1, 0, []),
  (25, .aload_n 0, 1, 0, 0, 0, []),
  (26, .getfield 18, 3, 500, 0, 0, []),
  (29, .getfield 99, 3, 903, 0, 0, []),
  (32, .iload_n 3, 1, 3, 0, 0, []),
  (33, .iaload, 1, 0, 0, 0, []),
  (34, .ishl, 1, 0, 0, 0, []),
  (35, .ior, 1, 0, 0, 0, []),
  (36, .istore_n 2, 1, 2, 0, 0, []),
  (37, .iinc 3 1, 3, 3, 1, 0, []),
  (40, .goto (-36), 3, 4, 0, 0, []),
  (43, .iload_n 2, 1, 2, 0, 0, []),
  (44, .ireturn, 1, 0, 0, 0, [])]
def mm_X5_peopleOf : mM := (5, yX5_peopleOf, cX5_peopleOf, 4, (some .int), 2, (4035, 4034, 20, 1007, false), mo_X5_peopleOf)
def mo_X5_nextInRing : List mO := [
  (0, .iconst 0, 1, 0, 0, 0, []),
  (1, .istore_n 2, 1, 2, 0, 0, []),
  (2, .iconst 0, 1, 0, 0, 0, []),
  (3, .istore_n 3, 1, 3, 0, 0, []),
  (4, .iload_n 3, 1, 3, 0, 0, []),
  (5, .aload_n 0, 1, 0, 0, 0, []),
  (6, .getfield 18, 3, 500, 0, 0, []),
  (9, .getfield 93, 3, 912, 0, 0, []),
  (12, .if_icmp .ge 26, 3, 38, 0, 0, []),
  (15, .iload_n 1, 1, 1, 0, 0, []),
  (16, .iload_n 3, 1, 3, 0, 0, []),
  (17, .invokestatic 53, 3, 146, 0, 0, []),
  (20, .ifCond .eq 12, 3, 32, 0, 0, []),
  (23, .iload_n 2, 1, 2, 0, 0, []),
  (24, .aload_n 0, 1, 0, 0, 0, []),
  (25, .getfield 15, 3, 502, 0, 0, []),
  (28, .iload_n 3, 1, 3, 0, 0, []),
  (29, .iaload, 1, 0, 0, 0, []),
  (30, .ior, 1, 0, 0, 0, []),
  (31, .istore_n 2, 1, 2, 0, 0, []),
  (32, .iinc 3 1, 3, 3, 1, 0, []),
  (35, .goto (-31), 3, 4, 0, 0, []),
  (38, .iload_n 2, 1, 2, 0, 0, []),
  (39, .ireturn, 1, 0, 0, 0, [])]
def mm_X5_nextInRing : mM := (5, yX5_nextInRing, cX5_nextInRing, 4, (some .int), 2, (4053, 4052, 22, 1007, false), mo_X5_nextInRing)
def mo_X5_chance : List mO := [
  (0, .aload_n 0, 1, 0, 0, 0, []),
  (1, .iload_n 1, 1, 1, 0, 0, []),
  (2, .invokevirtual 64, 3, 21, 0, 0, []),
  (5, .istore_n 3, 1, 3, 0, 0, []),
  (6, .iload_n 3, 1, 3, 0, 0, []),
  (7, .invokestatic 35, 3, 278, 0, 0, []),
  (10, .iconst 1, 1, 0, 1, 0, []),
  (11, .isub, 1, 0, 0, 0, []),
  (12, .istore 4, 2, 4, 0, 0, []),
  (14, .aload_n 0, 1, 0, 0, 0, []),
  (15, .getfield 18, 3, 500, 0, 0, []),
  (18, .invokevirtual 41, 3, 68, 0, 0, []),
  (21, .astore 5, 2, 5, 0, 0, []),
  (23, .lconst 1, 1, 0, 0, 1, []),
  (24, .lstore 6, 2, 6, 0, 0, []),
  (26, .iconst 0, 1, 0, 0, 0, []),
  (27, .istore 8, 2, 8, 0, 0, []),
  (29, .iload 8, 2, 8, 0, 0, []),
  (31, .aload_n 0, 1, 0, 0, 0, []),
  (32, .getfield 18, 3, 500, 0, 0, []),
  (35, .getfield 50, 3, 913, 0, 0, []),
  (38, .if_icmp .ge 139, 3, 177, 0, 0, []),
  (41, .iload_n 3, 1, 3, 0, 0, []),
  (42, .iload 8, 2, 8, 0, 0, []),
  (44, .invokestatic 53, 3, 146, 0, 0, []),
  (47, .ifCond .ne 6, 3, 53, 0, 0, []),
  (50, .goto 121, 3, 171, 0, 0, []),
  (53, .aload 5, 2, 5, 0, 0, []),
  (55, .iconst 0, 1, 0, 0, 0, []),
  (56, .putfield 114, 3, 402, 0, 0, []),
  (59, .aload_n 0, 1, 0, 0, 0, []),
  (60, .getfield 18, 3, 500, 0, 0, []),
  (63, .iload 8, 2, 8, 0, 0, []),
  (65, .iload 4, 2, 4, 0, 0, []),
  (67, .aload 5, 2, 5, 0, 0, []),
  (69, .invokevirtual 57, 3, 71, 0, 0, []),
  (72, .aload_n 0, 1, 0, 0, 0, []),
  (73, .getfield 18, 3, 500, 0, 0, []),
  (76, .getfield 61, 3, 916, 0, 0, []),
  (79, .if_icmp .lt 7, 3, 86, 0, 0, []),
  (82, .iconst 1, 1, 0, 1, 0, []),
  (83, .goto 4, 3, 87, 0, 0, []),
  (86, .iconst 0, 1, 0, 0, 0, []),
  (87, .istore 9, 2, 9, 0, 0, []),
  (89, .aload 5, 2, 5, 0, 0, []),
  (91, .iconst 1, 1, 0, 1, 0, []),
  (92, .iload 8, 2, 8, 0, 0, []),
  (94, .ishl, 1, 0, 0, 0, []),
  (95, .putfield 114, 3, 402, 0, 0, []),
  (98, .aload_n 0, 1, 0, 0, 0, []),
  (99, .getfield 18, 3, 500, 0, 0, []),
  (102, .iload 8, 2, 8, 0, 0, []),
  (104, .iload 4, 2, 4, 0, 0, []),
  (106, .aload 5, 2, 5, 0, 0, []),
  (108, .invokevirtual 57, 3, 71, 0, 0, []),
  (111, .aload_n 0, 1, 0, 0, 0, []),
  (112, .getfield 18, 3, 500, 0, 0, []),
  (115, .getfield 61, 3, 916, 0, 0, []),
  (118, .if_icmp .lt 7, 3, 125, 0, 0, []),
  (121, .iconst 1, 1, 0, 1, 0, []),
  (122, .goto 4, 3, 126, 0, 0, []),
  (125, .iconst 0, 1, 0, 0, 0, []),
  (126, .istore 10, 2, 10, 0, 0, []),
  (128, .iload 9, 2, 9, 0, 0, []),
  (130, .ifCond .eq 18, 3, 148, 0, 0, []),
  (133, .iload 10, 2, 10, 0, 0, []),
  (135, .ifCond .eq 13, 3, 148, 0, 0, []),
  (138, .iload_n 2, 1, 2, 0, 0, []),
  (139, .ifCond .ne 7, 3, 146, 0, 0, []),
  (142, .lconst 0, 1, 0, 0, 0, []),
  (143, .goto 4, 3, 147, 0, 0, []),
  (146, .lconst 1, 1, 0, 0, 1, []),
  (147, .lreturn, 1, 0, 0, 0, []),
  (148, .iload 9, 2, 9, 0, 0, []),
  (150, .ifCond .ne 8, 3, 158, 0, 0, []),
  (153, .iload 10, 2, 10, 0, 0, []),
  (155, .ifCond .eq 12, 3, 167, 0, 0, []),
  (158, .lload 6, 2, 6, 0, 0, []),
  (160, .ldc2_w 117, 3, 4128, 0, 2, []),
  (163, .lmul, 1, 0, 0, 0, []),
  (164, .goto 5, 3, 169, 0, 0, []),
  (167, .lload 6, 2, 6, 0, 0, []),
  (169, .lstore 6, 2, 6, 0, 0, []),
  (171, .iinc 8 1, 3, 8, 1, 0, []),
  (174, .goto (-145), 3, 29, 0, 0, []),
  (177, .iload_n 2, 1, 2, 0, 0, []),
  (178, .ifCond .ne 7, 3, 185, 0, 0, []),
  (181, .lconst 1, 1, 0, 0, 1, []),
  (182, .goto 5, 3, 187, 0, 0, []),
  (185, .lload 6, 2, 6, 0, 0, []),
  (187, .lreturn, 1, 0, 0, 0, [])]
def mm_X5_chance : mM := (5, yX5_chance, cX5_chance, 11, (some .long), 3, (4127, 4125, 4126, 1007, false), mo_X5_chance)
def mo_X6_leastWay : List mO := [
  (0, .aload_n 0, 1, 0, 0, 0, []),
  (1, .iconst 0, 1, 0, 0, 0, []),
  (2, .putfield 21, 3, 603, 0, 0, []),
  (5, .iconst 0, 1, 0, 0, 0, []),
  (6, .istore 4, 2, 4, 0, 0, []),
  (8, .iload 4, 2, 4, 0, 0, []),
  (10, .bipush 25, 2, 0, 25, 0, []),
  (12, .if_icmp .ge 48, 3, 60, 0, 0, []),
  (15, .iload_n 2, 1, 2, 0, 0, []),
  (16, .iload 4, 2, 4, 0, 0, []),
  (18, .invokestatic 25, 3, 146, 0, 0, []),
  (21, .ifCond .eq 33, 3, 54, 0, 0, []),
  (24, .aload_n 0, 1, 0, 0, 0, []),
  (25, .getfield 21, 3, 603, 0, 0, []),
  (28, .bipush 6, 2, 0, 6, 0, []),
  (30, .if_icmp .ge 24, 3, 54, 0, 0, []),
  (33, .aload_n 0, 1, 0, 0, 0, []),
  (34, .getfield 9, 3, 600, 0, 0, []),
  (37, .aload_n 0, 1, 0, 0, 0, []),
  (38, .getfield 21, 3, 603, 0, 0, []),
  (41, .iload 4, 2, 4, 0, 0, []),
  (43, .iastore, 1, 0, 0, 0, []),
  (44, .aload_n 0, 1, 0, 0, 0, []),
  (45, .dup, 1, 0, 0, 0, []),
  (46, .getfield 21, 3, 603, 0, 0, []),
  (49, .iconst 1, 1, 0, 1, 0, []),
  (50, .iadd, 1, 0, 0, 0, []),
  (51, .putfield 21, 3, 603, 0, 0, []),
  (54, .iinc 4 1, 3, 4, 1, 0, []),
  (57, .goto (-49), 3, 8, 0, 0, []),
  (60, .iload_n 3, 1, 3, 0, 0, []),
  (61, .aload_n 0, 1, 0, 0, 0, []),
  (62, .getfield 21, 3, 603, 0, 0, []),
  (65, .if_icmp .lt 6, 3, 71, 0, 0, []),
  (68, .bipush (-2), 2, 0, (-2), 0, []),
  (70, .ireturn, 1, 0, 0, 0, []),
  (71, .aload_n 0, 1, 0, 0, 0, []),
  (72, .iload_n 1, 1, 1, 0, 0, []),
  (73, .putfield 29, 3, 604, 0, 0, []),
  (76, .aload_n 0, 1, 0, 0, 0, []),
  (77, .ldc 34, 2, 4104, 2147483647, 0, []),
  (79, .putfield 35, 3, 605, 0, 0, []),
  (82, .aload_n 0, 1, 0, 0, 0, []),
  (83, .iload_n 1, 1, 1, 0, 0, []),
  (84, .iconst 0, 1, 0, 0, 0, []),
  (85, .iconst 0, 1, 0, 0, 0, []),
  (86, .iconst 0, 1, 0, 0, 0, []),
  (87, .invokevirtual 38, 3, 35, 0, 0, []),
  (90, .iload_n 3, 1, 3, 0, 0, []),
  (91, .ifCond .ge 10, 3, 101, 0, 0, []),
  (94, .aload_n 0, 1, 0, 0, 0, []),
  (95, .getfield 35, 3, 605, 0, 0, []),
  (98, .goto 9, 3, 107, 0, 0, []),
  (101, .aload_n 0, 1, 0, 0, 0, []),
  (102, .getfield 18, 3, 602, 0, 0, []),
  (105, .iload_n 3, 1, 3, 0, 0, []),
  (106, .iaload, 1, 0, 0, 0, []),
  (107, .ireturn, 1, 0, 0, 0, [])]
def mm_X6_leastWay : mM := (6, yX6_leastWay, cX6_leastWay, 5, (some .int), 4, (4102, 4100, 4101, 1008, false), mo_X6_leastWay)
def mo_X6_goOn : List mO := [
  (0, .iload 4, 2, 4, 0, 0, []),
  (2, .aload_n 0, 1, 0, 0, 0, []),
  (3, .getfield 21, 3, 603, 0, 0, []),
  (6, .if_icmp .ge 10, 3, 16, 0, 0, []),
  (9, .iload 4, 2, 4, 0, 0, []),
  (11, .bipush 6, 2, 0, 6, 0, []),
  (13, .if_icmp .lt 18, 3, 31, 0, 0, []),
  (16, .aload_n 0, 1, 0, 0, 0, []),
  (17, .iload_n 3, 1, 3, 0, 0, []),
  (18, .iload_n 1, 1, 1, 0, 0, []),
  (19, .aload_n 0, 1, 0, 0, 0, []),
  (20, .getfield 29, 3, 604, 0, 0, []),
  (23, .invokestatic 42, 3, 152, 0, 0, []),
  (26, .iadd, 1, 0, 0, 0, []),
  (27, .invokevirtual 46, 3, 36, 0, 0, []),
  (30, .return_, 1, 0, 0, 0, []),
  (31, .iconst 0, 1, 0, 0, 0, []),
  (32, .istore 5, 2, 5, 0, 0, []),
  (34, .iload 5, 2, 5, 0, 0, []),
  (36, .aload_n 0, 1, 0, 0, 0, []),
  (37, .getfield 21, 3, 603, 0, 0, []),
  (40, .if_icmp .ge 79, 3, 119, 0, 0, []),
  (43, .iload_n 3, 1, 3, 0, 0, []),
  (44, .iload_n 1, 1, 1, 0, 0, []),
  (45, .aload_n 0, 1, 0, 0, 0, []),
  (46, .getfield 9, 3, 600, 0, 0, []),
  (49, .iload 5, 2, 5, 0, 0, []),
  (51, .iaload, 1, 0, 0, 0, []),
  (52, .invokestatic 42, 3, 152, 0, 0, []),
  (55, .iadd, 1, 0, 0, 0, []),
  (56, .istore 6, 2, 6, 0, 0, []),
  (58, .iload_n 2, 1, 2, 0, 0, []),
  (59, .iload 5, 2, 5, 0, 0, []),
  (61, .invokestatic 25, 3, 146, 0, 0, []),
  (64, .ifCond .ne 49, 3, 113, 0, 0, []),
  (67, .iload 6, 2, 6, 0, 0, []),
  (69, .aload_n 0, 1, 0, 0, 0, []),
  (70, .getfield 35, 3, 605, 0, 0, []),
  (73, .if_icmp .ge 40, 3, 113, 0, 0, []),
  (76, .aload_n 0, 1, 0, 0, 0, []),
  (77, .getfield 15, 3, 601, 0, 0, []),
  (80, .iload 4, 2, 4, 0, 0, []),
  (82, .aload_n 0, 1, 0, 0, 0, []),
  (83, .getfield 9, 3, 600, 0, 0, []),
  (86, .iload 5, 2, 5, 0, 0, []),
  (88, .iaload, 1, 0, 0, 0, []),
  (89, .iastore, 1, 0, 0, 0, []),
  (90, .aload_n 0, 1, 0, 0, 0, []),
  (91, .aload_n 0, 1, 0, 0, 0, []),
  (92, .getfield 9, 3, 600, 0, 0, []),
  (95, .iload 5, 2, 5, 0, 0, []),
  (97, .iaload, 1, 0, 0, 0, []),
  (98, .iload_n 2, 1, 2, 0, 0, []),
  (99, .iconst 1, 1, 0, 1, 0, []),
  (100, .iload 5, 2, 5, 0, 0, []),
  (102, .ishl, 1, 0, 0, 0, []),
  (103, .ior, 1, 0, 0, 0, []),
  (104, .iload 6, 2, 6, 0, 0, []),
  (106, .iload 4, 2, 4, 0, 0, []),
  (108, .iconst 1, 1, 0, 1, 0, []),
  (109, .iadd, 1, 0, 0, 0, []),
  (110, .invokevirtual 38, 3, 35, 0, 0, []),
  (113, .iinc 5 1, 3, 5, 1, 0, []),
  (116, .goto (-82), 3, 34, 0, 0, []),
  (119, .return_, 1, 0, 0, 0, [])]
def mm_X6_goOn : mM := (6, yX6_goOn, cX6_goOn, 7, none, 5, (4108, 4107, 23, 1008, false), mo_X6_goOn)
def mo_X6_takeIfLess : List mO := [
  (0, .iload_n 1, 1, 1, 0, 0, []),
  (1, .aload_n 0, 1, 0, 0, 0, []),
  (2, .getfield 35, 3, 605, 0, 0, []),
  (5, .if_icmp .lt 4, 3, 9, 0, 0, []),
  (8, .return_, 1, 0, 0, 0, []),
  (9, .aload_n 0, 1, 0, 0, 0, []),
  (10, .iload_n 1, 1, 1, 0, 0, []),
  (11, .putfield 35, 3, 605, 0, 0, []),
  (14, .iconst 0, 1, 0, 0, 0, []),
  (15, .istore_n 2, 1, 2, 0, 0, []),
  (16, .iload_n 2, 1, 2, 0, 0, []),
  (17, .aload_n 0, 1, 0, 0, 0, []),
  (18, .getfield 21, 3, 603, 0, 0, []),
  (21, .if_icmp .ge 21, 3, 42, 0, 0, []),
  (24, .aload_n 0, 1, 0, 0, 0, []),
  (25, .getfield 18, 3, 602, 0, 0, []),
  (28, .iload_n 2, 1, 2, 0, 0, []),
  (29, .aload_n 0, 1, 0, 0, 0, []),
  (30, .getfield 15, 3, 601, 0, 0, []),
  (33, .iload_n 2, 1, 2, 0, 0, []),
  (34, .iaload, 1, 0, 0, 0, []),
  (35, .iastore, 1, 0, 0, 0, []),
  (36, .iinc 2 1, 3, 2, 1, 0, []),
  (39, .goto (-23), 3, 16, 0, 0, []),
  (42, .return_, 1, 0, 0, 0, [])]
def mm_X6_takeIfLess : mM := (6, yX6_takeIfLess, cX6_takeIfLess, 3, none, 2, (4118, 4117, 24, 1008, false), mo_X6_takeIfLess)
def mo_X7_isEmpty : List mO := [
  (0, .aload_n 0, 1, 0, 0, 0, []),
  (1, .getfield 15, 3, 701, 0, 0, []),
  (4, .iconst (-1), 1, 0, (-1), 0, []),
  (5, .if_icmp .ne 15, 3, 20, 0, 0, []),
  (8, .aload_n 0, 1, 0, 0, 0, []),
  (9, .getfield 19, 3, 702, 0, 0, []),
  (12, .iconst (-1), 1, 0, (-1), 0, []),
  (13, .if_icmp .ne 7, 3, 20, 0, 0, []),
  (16, .iconst 1, 1, 0, 1, 0, []),
  (17, .goto 4, 3, 21, 0, 0, []),
  (20, .iconst 0, 1, 0, 0, 0, []),
  (21, .ireturn, 1, 0, 0, 0, [])]
def mm_X7_isEmpty : mM := (7, yX7_isEmpty, cX7_isEmpty, 1, (some .boolean), 1, (2201, 2199, 2200, 1012, false), mo_X7_isEmpty)
def mo_X7_holdBody : List mO := [
  (0, .aload_n 0, 1, 0, 0, 0, []),
  (1, .iload_n 1, 1, 1, 0, 0, []),
  (2, .putfield 15, 3, 701, 0, 0, []),
  (5, .aload_n 0, 1, 0, 0, 0, []),
  (6, .iconst (-1), 1, 0, (-1), 0, []),
  (7, .putfield 19, 3, 702, 0, 0, []),
  (10, .aload_n 0, 1, 0, 0, 0, []),
  (11, .iconst 0, 1, 0, 0, 0, []),
  (12, .putfield 22, 3, 703, 0, 0, []),
  (15, .return_, 1, 0, 0, 0, [])]
def mm_X7_holdBody : mM := (7, yX7_holdBody, cX7_holdBody, 2, none, 2, (5060, 5058, 5059, 1012, false), mo_X7_holdBody)
def mo_X7_holdRow : List mO := [
  (0, .aload_n 0, 1, 0, 0, 0, []),
  (1, .iconst (-1), 1, 0, (-1), 0, []),
  (2, .putfield 15, 3, 701, 0, 0, []),
  (5, .aload_n 0, 1, 0, 0, 0, []),
  (6, .iload_n 1, 1, 1, 0, 0, []),
  (7, .putfield 19, 3, 702, 0, 0, []),
  (10, .aload_n 0, 1, 0, 0, 0, []),
  (11, .iconst 0, 1, 0, 0, 0, []),
  (12, .bipush 60, 2, 0, 60, 0, []),
  (14, .iload_n 2, 1, 2, 0, 0, []),
  (15, .invokestatic 25, 3, 5002, 0, 0, []),
  (18, .invokestatic 31, 3, 5001, 0, 0, []),
  (21, .putfield 22, 3, 703, 0, 0, []),
  (24, .iconst 0, 1, 0, 0, 0, []),
  (25, .istore_n 3, 1, 3, 0, 0, []),
  (26, .iload_n 3, 1, 3, 0, 0, []),
  (27, .aload_n 0, 1, 0, 0, 0, []),
  (28, .getfield 22, 3, 703, 0, 0, []),
  (31, .if_icmp .ge 16, 3, 47, 0, 0, []),
  (34, .aload_n 0, 1, 0, 0, 0, []),
  (35, .getfield 9, 3, 700, 0, 0, []),
  (38, .iload_n 3, 1, 3, 0, 0, []),
  (39, .lconst 0, 1, 0, 0, 0, []),
  (40, .lastore, 1, 0, 0, 0, []),
  (41, .iinc 3 1, 3, 3, 1, 0, []),
  (44, .goto (-18), 3, 26, 0, 0, []),
  (47, .return_, 1, 0, 0, 0, [])]
def mm_X7_holdRow : mM := (7, yX7_holdRow, cX7_holdRow, 4, none, 3, (5068, 5066, 5067, 1012, false), mo_X7_holdRow)
def mo_X7_refusalAsBytes : List mO := [
  (0, .aload_n 0, 1, 0, 0, 0, []),
  (1, .invokevirtual 34, 3, 37, 0, 0, []),
  (4, .ifCond .eq 6, 3, 10, 0, 0, []),
  (7, .bipush (-11), 2, 0, (-11), 0, []),
  (9, .ireturn, 1, 0, 0, 0, []),
  (10, .aload_n 0, 1, 0, 0, 0, []),
  (11, .getfield 19, 3, 702, 0, 0, []),
  (14, .ifCond .ne 7, 3, 21, 0, 0, []),
  (17, .iconst 0, 1, 0, 0, 0, []),
  (18, .goto 5, 3, 23, 0, 0, []),
  (21, .bipush (-12), 2, 0, (-12), 0, []),
  (23, .ireturn, 1, 0, 0, 0, [])]
def mm_X7_refusalAsBytes : mM := (7, yX7_refusalAsBytes, cX7_refusalAsBytes, 1, (some .int), 1, (2197, 2195, 2196, 1012, false), mo_X7_refusalAsBytes)
def mo_X7_refusalOfElement : List mO := [
  (0, .aload_n 0, 1, 0, 0, 0, []),
  (1, .invokevirtual 34, 3, 37, 0, 0, []),
  (4, .ifCond .eq 6, 3, 10, 0, 0, []),
  (7, .bipush (-11), 2, 0, (-11), 0, []),
  (9, .ireturn, 1, 0, 0, 0, []),
  (10, .aload_n 0, 1, 0, 0, 0, []),
  (11, .getfield 19, 3, 702, 0, 0, []),
  (14, .iconst (-1), 1, 0, (-1), 0, []),
  (15, .if_icmp .ne 6, 3, 21, 0, 0, []),
  (18, .bipush (-12), 2, 0, (-12), 0, []),
  (20, .ireturn, 1, 0, 0, 0, []),
  (21, .iload_n 1, 1, 1, 0, 0, []),
  (22, .ifCond .lt 15, 3, 37, 0, 0, []),
  (25, .iload_n 1, 1, 1, 0, 0, []),
  (26, .aload_n 0, 1, 0, 0, 0, []),
  (27, .getfield 22, 3, 703, 0, 0, []),
  (30, .if_icmp .ge 7, 3, 37, 0, 0, []),
  (33, .iconst 0, 1, 0, 0, 0, []),
  (34, .goto 5, 3, 39, 0, 0, []),
  (37, .bipush (-13), 2, 0, (-13), 0, []),
  (39, .ireturn, 1, 0, 0, 0, [])]
def mm_X7_refusalOfElement : mM := (7, yX7_refusalOfElement, cX7_refusalOfElement, 2, (some .int), 2, (5078, 5076, 5077, 1012, false), mo_X7_refusalOfElement)
def mo_X7_number : List mO := [
  (0, .iload_n 1, 1, 1, 0, 0, []),
  (1, .ifCond .lt 21, 3, 22, 0, 0, []),
  (4, .iload_n 1, 1, 1, 0, 0, []),
  (5, .aload_n 0, 1, 0, 0, 0, []),
  (6, .getfield 22, 3, 703, 0, 0, []),
  (9, .if_icmp .ge 13, 3, 22, 0, 0, []),
  (12, .aload_n 0, 1, 0, 0, 0, []),
  (13, .getfield 9, 3, 700, 0, 0, []),
  (16, .iload_n 1, 1, 1, 0, 0, []),
  (17, .laload, 1, 0, 0, 0, []),
  (18, .l2i, 1, 0, 0, 0, []),
  (19, .goto 4, 3, 23, 0, 0, []),
  (22, .iconst (-1), 1, 0, (-1), 0, []),
  (23, .ireturn, 1, 0, 0, 0, [])]
def mm_X7_number : mM := (7, yX7_number, cX7_number, 2, (some .int), 2, (2217, 2215, 2216, 1012, false), mo_X7_number)
def mo_X7_hasFive : List mO := [
  (0, .iload_n 1, 1, 1, 0, 0, []),
  (1, .ifCond .lt 29, 3, 30, 0, 0, []),
  (4, .iload_n 1, 1, 1, 0, 0, []),
  (5, .aload_n 0, 1, 0, 0, 0, []),
  (6, .getfield 22, 3, 703, 0, 0, []),
  (9, .if_icmp .ge 21, 3, 30, 0, 0, []),
  (12, .iload_n 1, 1, 1, 0, 0, []),
  (13, .iconst 5, 1, 0, 5, 0, []),
  (14, .iload_n 2, 1, 2, 0, 0, []),
  (15, .imul, 1, 0, 0, 0, []),
  (16, .iadd, 1, 0, 0, 0, []),
  (17, .iconst 5, 1, 0, 5, 0, []),
  (18, .iadd, 1, 0, 0, 0, []),
  (19, .aload_n 0, 1, 0, 0, 0, []),
  (20, .getfield 22, 3, 703, 0, 0, []),
  (23, .if_icmp .gt 7, 3, 30, 0, 0, []),
  (26, .iconst 1, 1, 0, 1, 0, []),
  (27, .goto 4, 3, 31, 0, 0, []),
  (30, .iconst 0, 1, 0, 0, 0, []),
  (31, .ireturn, 1, 0, 0, 0, [])]
def mm_X7_hasFive : mM := (7, yX7_hasFive, cX7_hasFive, 3, (some .boolean), 3, (2209, 2207, 2208, 1012, false), mo_X7_hasFive)
def mo_X7_steps : List mO := [
  (0, .iconst 0, 1, 0, 0, 0, []),
  (1, .istore_n 1, 1, 1, 0, 0, []),
  (2, .iload_n 1, 1, 1, 0, 0, []),
  (3, .aload_n 0, 1, 0, 0, 0, []),
  (4, .getfield 22, 3, 703, 0, 0, []),
  (7, .if_icmp .ge 39, 3, 46, 0, 0, []),
  (10, .iload_n 1, 1, 1, 0, 0, []),
  (11, .bipush 30, 2, 0, 30, 0, []),
  (13, .if_icmp .ge 33, 3, 46, 0, 0, []),
  (16, .aload_n 0, 1, 0, 0, 0, []),
  (17, .getfield 9, 3, 700, 0, 0, []),
  (20, .iload_n 1, 1, 1, 0, 0, []),
  (21, .laload, 1, 0, 0, 0, []),
  (22, .lconst 0, 1, 0, 0, 0, []),
  (23, .lcmp, 1, 0, 0, 0, []),
  (24, .ifCond .lt 22, 3, 46, 0, 0, []),
  (27, .aload_n 0, 1, 0, 0, 0, []),
  (28, .getfield 9, 3, 700, 0, 0, []),
  (31, .iload_n 1, 1, 1, 0, 0, []),
  (32, .laload, 1, 0, 0, 0, []),
  (33, .ldc2_w 38, 3, 3132, 0, 5, []),
  (36, .lcmp, 1, 0, 0, 0, []),
  (37, .ifCond .ge 9, 3, 46, 0, 0, []),
  (40, .iinc 1 1, 3, 1, 1, 0, []),
  (43, .goto (-41), 3, 2, 0, 0, []),
  (46, .iload_n 1, 1, 1, 0, 0, []),
  (47, .ireturn, 1, 0, 0, 0, [])]
def mm_X7_steps : mM := (7, yX7_steps, cX7_steps, 2, (some .int), 1, (3131, 3129, 3130, 1012, false), mo_X7_steps)
def mo_X7_setElement : List mO := [
  (0, .iload_n 1, 1, 1, 0, 0, []),
  (1, .ifCond .lt 22, 3, 23, 0, 0, []),
  (4, .iload_n 1, 1, 1, 0, 0, []),
  (5, .aload_n 0, 1, 0, 0, 0, []),
  (6, .getfield 22, 3, 703, 0, 0, []),
  (9, .if_icmp .ge 14, 3, 23, 0, 0, []),
  (12, .aload_n 0, 1, 0, 0, 0, []),
  (13, .getfield 9, 3, 700, 0, 0, []),
  (16, .iload_n 1, 1, 1, 0, 0, []),
  (17, .aload_n 0, 1, 0, 0, 0, []),
  (18, .lload_n 2, 1, 2, 0, 0, []),
  (19, .invokevirtual 40, 3, 46, 0, 0, []),
  (22, .lastore, 1, 0, 0, 0, []),
  (23, .return_, 1, 0, 0, 0, [])]
def mm_X7_setElement : mM := (7, yX7_setElement, cX7_setElement, 4, none, 3, (5082, 5080, 5081, 1012, false), mo_X7_setElement)
def mo_X7_narrowed : List mO := [
  (0, .aload_n 0, 1, 0, 0, 0, []),
  (1, .getfield 19, 3, 702, 0, 0, []),
  (4, .tableswitch 48 0 3 #[32, 37, 42, 46], 32, 52, 0, 0, [(0, 36), (1, 41), (2, 46), (3, 50)]),
  (36, .lload_n 1, 1, 1, 0, 0, []),
  (37, .l2i, 1, 0, 0, 0, []),
  (38, .i2b, 1, 0, 0, 0, []),
  (39, .i2l, 1, 0, 0, 0, []),
  (40, .lreturn, 1, 0, 0, 0, []),
  (41, .lload_n 1, 1, 1, 0, 0, []),
  (42, .l2i, 1, 0, 0, 0, []),
  (43, .i2s, 1, 0, 0, 0, []),
  (44, .i2l, 1, 0, 0, 0, []),
  (45, .lreturn, 1, 0, 0, 0, []),
  (46, .lload_n 1, 1, 1, 0, 0, []),
  (47, .l2i, 1, 0, 0, 0, []),
  (48, .i2l, 1, 0, 0, 0, []),
  (49, .lreturn, 1, 0, 0, 0, []),
  (50, .lload_n 1, 1, 1, 0, 0, []),
  (51, .lreturn, 1, 0, 0, 0, []),
  (52, .lload_n 1, 1, 1, 0, 0, []),
  (53, .lconst 0, 1, 0, 0, 0, []),
  (54, .lcmp, 1, 0, 0, 0, []),
  (55, .ifCond .eq 7, 3, 62, 0, 0, []),
  (58, .lconst 1, 1, 0, 0, 1, []),
  (59, .goto 4, 3, 63, 0, 0, []),
  (62, .lconst 0, 1, 0, 0, 0, []),
  (63, .lreturn, 1, 0, 0, 0, [])]
def mm_X7_narrowed : mM := (7, yX7_narrowed, cX7_narrowed, 3, (some .long), 2, (5086, 5085, 32, 1012, false), mo_X7_narrowed)
def mo_X7_takeFrom : List mO := [
  (0, .aload_n 0, 1, 0, 0, 0, []),
  (1, .invokevirtual 34, 3, 37, 0, 0, []),
  (4, .ifCond .ne 10, 3, 14, 0, 0, []),
  (7, .aload_n 1, 1, 1, 0, 0, []),
  (8, .invokevirtual 34, 3, 37, 0, 0, []),
  (11, .ifCond .eq 6, 3, 17, 0, 0, []),
  (14, .bipush (-11), 2, 0, (-11), 0, []),
  (16, .ireturn, 1, 0, 0, 0, []),
  (17, .aload_n 0, 1, 0, 0, 0, []),
  (18, .getfield 19, 3, 702, 0, 0, []),
  (21, .iconst (-1), 1, 0, (-1), 0, []),
  (22, .if_icmp .eq 14, 3, 36, 0, 0, []),
  (25, .aload_n 0, 1, 0, 0, 0, []),
  (26, .getfield 19, 3, 702, 0, 0, []),
  (29, .aload_n 1, 1, 1, 0, 0, []),
  (30, .getfield 19, 3, 702, 0, 0, []),
  (33, .if_icmp .eq 6, 3, 39, 0, 0, []),
  (36, .bipush (-12), 2, 0, (-12), 0, []),
  (38, .ireturn, 1, 0, 0, 0, []),
  (39, .aload_n 1, 1, 1, 0, 0, []),
  (40, .iload_n 2, 1, 2, 0, 0, []),
  (41, .iload 4, 2, 4, 0, 0, []),
  (43, .invokevirtual 44, 3, 48, 0, 0, []),
  (46, .ifCond .eq 13, 3, 59, 0, 0, []),
  (49, .aload_n 0, 1, 0, 0, 0, []),
  (50, .iload_n 3, 1, 3, 0, 0, []),
  (51, .iload 4, 2, 4, 0, 0, []),
  (53, .invokevirtual 44, 3, 48, 0, 0, []),
  (56, .ifCond .ne 6, 3, 62, 0, 0, []),
  (59, .bipush (-13), 2, 0, (-13), 0, []),
  (61, .ireturn, 1, 0, 0, 0, []),
  (62, .aload_n 1, 1, 1, 0, 0, []),
  (63, .getfield 9, 3, 700, 0, 0, []),
  (66, .iload_n 2, 1, 2, 0, 0, []),
  (67, .aload_n 0, 1, 0, 0, 0, []),
  (68, .getfield 9, 3, 700, 0, 0, []),
  (71, .iload_n 3, 1, 3, 0, 0, []),
  (72, .iload 4, 2, 4, 0, 0, []),
  (74, .invokestatic 48, 3, 5000, 0, 0, []),
  (77, .iload 4, 2, 4, 0, 0, []),
  (79, .ireturn, 1, 0, 0, 0, [])]
def mm_X7_takeFrom : mM := (7, yX7_takeFrom, cX7_takeFrom, 5, (some .int), 5, (5098, 5096, 5097, 1012, false), mo_X7_takeFrom)
def mo_X7_hasPart : List mO := [
  (0, .iload_n 1, 1, 1, 0, 0, []),
  (1, .ifCond .lt 29, 3, 30, 0, 0, []),
  (4, .iload_n 2, 1, 2, 0, 0, []),
  (5, .ifCond .lt 25, 3, 30, 0, 0, []),
  (8, .iload_n 1, 1, 1, 0, 0, []),
  (9, .aload_n 0, 1, 0, 0, 0, []),
  (10, .getfield 22, 3, 703, 0, 0, []),
  (13, .if_icmp .gt 17, 3, 30, 0, 0, []),
  (16, .iload_n 2, 1, 2, 0, 0, []),
  (17, .aload_n 0, 1, 0, 0, 0, []),
  (18, .getfield 22, 3, 703, 0, 0, []),
  (21, .iload_n 1, 1, 1, 0, 0, []),
  (22, .isub, 1, 0, 0, 0, []),
  (23, .if_icmp .gt 7, 3, 30, 0, 0, []),
  (26, .iconst 1, 1, 0, 1, 0, []),
  (27, .goto 4, 3, 31, 0, 0, []),
  (30, .iconst 0, 1, 0, 0, 0, []),
  (31, .ireturn, 1, 0, 0, 0, [])]
def mm_X7_hasPart : mM := (7, yX7_hasPart, cX7_hasPart, 3, (some .boolean), 3, (5102, 5101, 33, 1012, false), mo_X7_hasPart)
def mo_X8_addLetter : List mO := [
  (0, .aload_n 0, 1, 0, 0, 0, []),
  (1, .getfield 20, 3, 802, 0, 0, []),
  (4, .bipush 120, 2, 0, 120, 0, []),
  (6, .if_icmp .lt 6, 3, 12, 0, 0, []),
  (9, .bipush (-3), 2, 0, (-3), 0, []),
  (11, .ireturn, 1, 0, 0, 0, []),
  (12, .aload_n 0, 1, 0, 0, 0, []),
  (13, .getfield 11, 3, 800, 0, 0, []),
  (16, .aload_n 0, 1, 0, 0, 0, []),
  (17, .getfield 20, 3, 802, 0, 0, []),
  (20, .iload_n 1, 1, 1, 0, 0, []),
  (21, .iastore, 1, 0, 0, 0, []),
  (22, .aload_n 0, 1, 0, 0, 0, []),
  (23, .dup, 1, 0, 0, 0, []),
  (24, .getfield 20, 3, 802, 0, 0, []),
  (27, .iconst 1, 1, 0, 1, 0, []),
  (28, .iadd, 1, 0, 0, 0, []),
  (29, .putfield 20, 3, 802, 0, 0, []),
  (32, .aload_n 0, 1, 0, 0, 0, []),
  (33, .getfield 20, 3, 802, 0, 0, []),
  (36, .ireturn, 1, 0, 0, 0, [])]
def mm_X8_addLetter : mM := (8, yX8_addLetter, cX8_addLetter, 2, (some .int), 2, (3022, 3020, 3021, 1005, false), mo_X8_addLetter)
def mo_X8_letter : List mO := [
  (0, .aload_n 0, 1, 0, 0, 0, []),
  (1, .getfield 24, 3, 803, 0, 0, []),
  (4, .aload_n 0, 1, 0, 0, 0, []),
  (5, .getfield 20, 3, 802, 0, 0, []),
  (8, .if_icmp .ge 15, 3, 23, 0, 0, []),
  (11, .aload_n 0, 1, 0, 0, 0, []),
  (12, .getfield 11, 3, 800, 0, 0, []),
  (15, .aload_n 0, 1, 0, 0, 0, []),
  (16, .getfield 24, 3, 803, 0, 0, []),
  (19, .iaload, 1, 0, 0, 0, []),
  (20, .goto 4, 3, 24, 0, 0, []),
  (23, .iconst (-1), 1, 0, (-1), 0, []),
  (24, .ireturn, 1, 0, 0, 0, [])]
def mm_X8_letter : mM := (8, yX8_letter, cX8_letter, 1, (some .int), 1, (3046, 3045, 6, 1005, false), mo_X8_letter)
def mo_X8_write : List mO := [
  (0, .aload_n 0, 1, 0, 0, 0, []),
  (1, .getfield 27, 3, 804, 0, 0, []),
  (4, .sipush 128, 3, 0, 128, 0, []),
  (7, .if_icmp .ge 23, 3, 30, 0, 0, []),
  (10, .aload_n 0, 1, 0, 0, 0, []),
  (11, .getfield 17, 3, 801, 0, 0, []),
  (14, .aload_n 0, 1, 0, 0, 0, []),
  (15, .getfield 27, 3, 804, 0, 0, []),
  (18, .iload_n 1, 1, 1, 0, 0, []),
  (19, .iastore, 1, 0, 0, 0, []),
  (20, .aload_n 0, 1, 0, 0, 0, []),
  (21, .dup, 1, 0, 0, 0, []),
  (22, .getfield 27, 3, 804, 0, 0, []),
  (25, .iconst 1, 1, 0, 1, 0, []),
  (26, .iadd, 1, 0, 0, 0, []),
  (27, .putfield 27, 3, 804, 0, 0, []),
  (30, .return_, 1, 0, 0, 0, [])]
def mm_X8_write : mM := (8, yX8_write, cX8_write, 2, none, 2, (3057, 3056, 8, 1005, false), mo_X8_write)
def mo_X8_readText : List mO := [
  (0, .aload_n 0, 1, 0, 0, 0, []),
  (1, .iconst 0, 1, 0, 0, 0, []),
  (2, .putfield 24, 3, 803, 0, 0, []),
  (5, .aload_n 0, 1, 0, 0, 0, []),
  (6, .iconst 0, 1, 0, 0, 0, []),
  (7, .putfield 27, 3, 804, 0, 0, []),
  (10, .iconst 0, 1, 0, 0, 0, []),
  (11, .istore_n 1, 1, 1, 0, 0, []),
  (12, .iload_n 1, 1, 1, 0, 0, []),
  (13, .bipush 120, 2, 0, 120, 0, []),
  (15, .if_icmp .gt 52, 3, 67, 0, 0, []),
  (18, .aload_n 0, 1, 0, 0, 0, []),
  (19, .invokevirtual 30, 3, 53, 0, 0, []),
  (22, .ifCond .ne 5, 3, 27, 0, 0, []),
  (25, .iconst 0, 1, 0, 0, 0, []),
  (26, .ireturn, 1, 0, 0, 0, []),
  (27, .aload_n 0, 1, 0, 0, 0, []),
  (28, .getfield 24, 3, 803, 0, 0, []),
  (31, .aload_n 0, 1, 0, 0, 0, []),
  (32, .getfield 20, 3, 802, 0, 0, []),
  (35, .if_icmp .lt 5, 3, 40, 0, 0, []),
  (38, .iconst 1, 1, 0, 1, 0, []),
  (39, .ireturn, 1, 0, 0, 0, []),
  (40, .aload_n 0, 1, 0, 0, 0, []),
  (41, .invokevirtual 34, 3, 50, 0, 0, []),
  (44, .bipush 59, 2, 0, 59, 0, []),
  (46, .if_icmp .eq 5, 3, 51, 0, 0, []),
  (49, .iconst 0, 1, 0, 0, 0, []),
  (50, .ireturn, 1, 0, 0, 0, []),
  (51, .aload_n 0, 1, 0, 0, 0, []),
  (52, .dup, 1, 0, 0, 0, []),
  (53, .getfield 24, 3, 803, 0, 0, []),
  (56, .iconst 1, 1, 0, 1, 0, []),
  (57, .iadd, 1, 0, 0, 0, []),
  (58, .putfield 24, 3, 803, 0, 0, []),
  (61, .iinc 1 1, 3, 1, 1, 0, []),
  (64, .goto (-52), 3, 12, 0, 0, []),
  (67, .iconst 0, 1, 0, 0, 0, []),
  (68, .ireturn, 1, 0, 0, 0, [])]
def mm_X8_readText : mM := (8, yX8_readText, cX8_readText, 2, (some .boolean), 1, (3030, 3028, 3029, 1005, false), mo_X8_readText)
def mo_X8_readLine : List mO := [
  (0, .aload_n 0, 1, 0, 0, 0, []),
  (1, .iconst 0, 1, 0, 0, 0, []),
  (2, .iconst 0, 1, 0, 0, 0, []),
  (3, .invokevirtual 38, 3, 54, 0, 0, []),
  (6, .ifCond .ne 5, 3, 11, 0, 0, []),
  (9, .iconst 0, 1, 0, 0, 0, []),
  (10, .ireturn, 1, 0, 0, 0, []),
  (11, .aload_n 0, 1, 0, 0, 0, []),
  (12, .invokevirtual 34, 3, 50, 0, 0, []),
  (15, .bipush 63, 2, 0, 63, 0, []),
  (17, .if_icmp .ne 30, 3, 47, 0, 0, []),
  (20, .aload_n 0, 1, 0, 0, 0, []),
  (21, .dup, 1, 0, 0, 0, []),
  (22, .getfield 24, 3, 803, 0, 0, []),
  (25, .iconst 1, 1, 0, 1, 0, []),
  (26, .iadd, 1, 0, 0, 0, []),
  (27, .putfield 24, 3, 803, 0, 0, []),
  (30, .aload_n 0, 1, 0, 0, 0, []),
  (31, .bipush (-63), 2, 0, (-63), 0, []),
  (33, .invokevirtual 42, 3, 51, 0, 0, []),
  (36, .aload_n 0, 1, 0, 0, 0, []),
  (37, .iconst 0, 1, 0, 0, 0, []),
  (38, .iconst 0, 1, 0, 0, 0, []),
  (39, .invokevirtual 38, 3, 54, 0, 0, []),
  (42, .ifCond .ne 5, 3, 47, 0, 0, []),
  (45, .iconst 0, 1, 0, 0, 0, []),
  (46, .ireturn, 1, 0, 0, 0, []),
  (47, .aload_n 0, 1, 0, 0, 0, []),
  (48, .bipush (-59), 2, 0, (-59), 0, []),
  (50, .invokevirtual 42, 3, 51, 0, 0, []),
  (53, .iconst 1, 1, 0, 1, 0, []),
  (54, .ireturn, 1, 0, 0, 0, [])]
def mm_X8_readLine : mM := (8, yX8_readLine, cX8_readLine, 1, (some .boolean), 1, (3034, 3033, 3, 1005, false), mo_X8_readLine)
def mo_X8_readChain : List mO := [
  (0, .iload_n 1, 1, 1, 0, 0, []),
  (1, .iconst 5, 1, 0, 5, 0, []),
  (2, .if_icmp .lt 9, 3, 11, 0, 0, []),
  (5, .aload_n 0, 1, 0, 0, 0, []),
  (6, .iload_n 2, 1, 2, 0, 0, []),
  (7, .invokevirtual 46, 3, 56, 0, 0, []),
  (10, .ireturn, 1, 0, 0, 0, []),
  (11, .aload_n 0, 1, 0, 0, 0, []),
  (12, .iload_n 1, 1, 1, 0, 0, []),
  (13, .iconst 1, 1, 0, 1, 0, []),
  (14, .iadd, 1, 0, 0, 0, []),
  (15, .iload_n 2, 1, 2, 0, 0, []),
  (16, .invokevirtual 38, 3, 54, 0, 0, []),
  (19, .ifCond .ne 5, 3, 24, 0, 0, []),
  (22, .iconst 0, 1, 0, 0, 0, []),
  (23, .ireturn, 1, 0, 0, 0, []),
  (24, .iload_n 1, 1, 1, 0, 0, []),
  (25, .iconst 2, 1, 0, 2, 0, []),
  (26, .if_icmp .ne 7, 3, 33, 0, 0, []),
  (29, .iconst 1, 1, 0, 1, 0, []),
  (30, .goto 5, 3, 35, 0, 0, []),
  (33, .bipush 120, 2, 0, 120, 0, []),
  (35, .istore_n 3, 1, 3, 0, 0, []),
  (36, .iconst 0, 1, 0, 0, 0, []),
  (37, .istore 4, 2, 4, 0, 0, []),
  (39, .iload 4, 2, 4, 0, 0, []),
  (41, .iload_n 3, 1, 3, 0, 0, []),
  (42, .if_icmp .ge 55, 3, 97, 0, 0, []),
  (45, .iload_n 1, 1, 1, 0, 0, []),
  (46, .aload_n 0, 1, 0, 0, 0, []),
  (47, .invokevirtual 34, 3, 50, 0, 0, []),
  (50, .invokestatic 50, 3, 55, 0, 0, []),
  (53, .istore 5, 2, 5, 0, 0, []),
  (55, .iload 5, 2, 5, 0, 0, []),
  (57, .ifCond .ne 5, 3, 62, 0, 0, []),
  (60, .iconst 1, 1, 0, 1, 0, []),
  (61, .ireturn, 1, 0, 0, 0, []),
  (62, .aload_n 0, 1, 0, 0, 0, []),
  (63, .dup, 1, 0, 0, 0, []),
  (64, .getfield 24, 3, 803, 0, 0, []),
  (67, .iconst 1, 1, 0, 1, 0, []),
  (68, .iadd, 1, 0, 0, 0, []),
  (69, .putfield 24, 3, 803, 0, 0, []),
  (72, .aload_n 0, 1, 0, 0, 0, []),
  (73, .iload_n 1, 1, 1, 0, 0, []),
  (74, .iconst 1, 1, 0, 1, 0, []),
  (75, .iadd, 1, 0, 0, 0, []),
  (76, .iload_n 2, 1, 2, 0, 0, []),
  (77, .invokevirtual 38, 3, 54, 0, 0, []),
  (80, .ifCond .ne 5, 3, 85, 0, 0, []),
  (83, .iconst 0, 1, 0, 0, 0, []),
  (84, .ireturn, 1, 0, 0, 0, []),
  (85, .aload_n 0, 1, 0, 0, 0, []),
  (86, .iload 5, 2, 5, 0, 0, []),
  (88, .invokevirtual 42, 3, 51, 0, 0, []),
  (91, .iinc 4 1, 3, 4, 1, 0, []),
  (94, .goto (-55), 3, 39, 0, 0, []),
  (97, .iconst 1, 1, 0, 1, 0, []),
  (98, .ireturn, 1, 0, 0, 0, [])]
def mm_X8_readChain : mM := (8, yX8_readChain, cX8_readChain, 6, (some .boolean), 3, (3038, 3037, 4, 1005, false), mo_X8_readChain)
def mo_X8_operatorOf : List mO := [
  (0, .iload_n 0, 1, 0, 0, 0, []),
  (1, .tableswitch 109 0 3 #[31, 46, 61, 88], 31, 110, 0, 0, [(0, 32), (1, 47), (2, 62), (3, 89)]),
  (32, .iload_n 1, 1, 1, 0, 0, []),
  (33, .bipush 124, 2, 0, 124, 0, []),
  (35, .if_icmp .ne 7, 3, 42, 0, 0, []),
  (38, .iconst 1, 1, 0, 1, 0, []),
  (39, .goto 4, 3, 43, 0, 0, []),
  (42, .iconst 0, 1, 0, 0, 0, []),
  (43, .istore_n 2, 1, 2, 0, 0, []),
  (44, .goto 90, 3, 134, 0, 0, []),
  (47, .iload_n 1, 1, 1, 0, 0, []),
  (48, .bipush 38, 2, 0, 38, 0, []),
  (50, .if_icmp .ne 7, 3, 57, 0, 0, []),
  (53, .iconst 1, 1, 0, 1, 0, []),
  (54, .goto 4, 3, 58, 0, 0, []),
  (57, .iconst 0, 1, 0, 0, 0, []),
  (58, .istore_n 2, 1, 2, 0, 0, []),
  (59, .goto 75, 3, 134, 0, 0, []),
  (62, .iload_n 1, 1, 1, 0, 0, []),
  (63, .bipush 60, 2, 0, 60, 0, []),
  (65, .if_icmp .eq 15, 3, 80, 0, 0, []),
  (68, .iload_n 1, 1, 1, 0, 0, []),
  (69, .bipush 61, 2, 0, 61, 0, []),
  (71, .if_icmp .eq 9, 3, 80, 0, 0, []),
  (74, .iload_n 1, 1, 1, 0, 0, []),
  (75, .bipush 62, 2, 0, 62, 0, []),
  (77, .if_icmp .ne 7, 3, 84, 0, 0, []),
  (80, .iconst 1, 1, 0, 1, 0, []),
  (81, .goto 4, 3, 85, 0, 0, []),
  (84, .iconst 0, 1, 0, 0, 0, []),
  (85, .istore_n 2, 1, 2, 0, 0, []),
  (86, .goto 48, 3, 134, 0, 0, []),
  (89, .iload_n 1, 1, 1, 0, 0, []),
  (90, .bipush 43, 2, 0, 43, 0, []),
  (92, .if_icmp .eq 9, 3, 101, 0, 0, []),
  (95, .iload_n 1, 1, 1, 0, 0, []),
  (96, .bipush 45, 2, 0, 45, 0, []),
  (98, .if_icmp .ne 7, 3, 105, 0, 0, []),
  (101, .iconst 1, 1, 0, 1, 0, []),
  (102, .goto 4, 3, 106, 0, 0, []),
  (105, .iconst 0, 1, 0, 0, 0, []),
  (106, .istore_n 2, 1, 2, 0, 0, []),
  (107, .goto 27, 3, 134, 0, 0, []),
  (110, .iload_n 1, 1, 1, 0, 0, []),
  (111, .bipush 42, 2, 0, 42, 0, []),
  (113, .if_icmp .eq 15, 3, 128, 0, 0, []),
  (116, .iload_n 1, 1, 1, 0, 0, []),
  (117, .bipush 47, 2, 0, 47, 0, []),
  (119, .if_icmp .eq 9, 3, 128, 0, 0, []),
  (122, .iload_n 1, 1, 1, 0, 0, []),
  (123, .bipush 37, 2, 0, 37, 0, []),
  (125, .if_icmp .ne 7, 3, 132, 0, 0, []),
  (128, .iconst 1, 1, 0, 1, 0, []),
  (129, .goto 4, 3, 133, 0, 0, []),
  (132, .iconst 0, 1, 0, 0, 0, []),
  (133, .istore_n 2, 1, 2, 0, 0, []),
  (134, .iload_n 2, 1, 2, 0, 0, []),
  (135, .ifCond .eq 8, 3, 143, 0, 0, []),
  (138, .iload_n 1, 1, 1, 0, 0, []),
  (139, .ineg, 1, 0, 0, 0, []),
  (140, .goto 4, 3, 144, 0, 0, []),
  (143, .iconst 0, 1, 0, 0, 0, []),
  (144, .ireturn, 1, 0, 0, 0, [])]
def mm_X8_operatorOf : mM := (8, yX8_operatorOf, cX8_operatorOf, 3, (some .int), 2, (3066, 3065, 0, 1005, true), mo_X8_operatorOf)
def mo_X8_readOperand : List mO := [
  (0, .aload_n 0, 1, 0, 0, 0, []),
  (1, .invokevirtual 34, 3, 50, 0, 0, []),
  (4, .istore_n 2, 1, 2, 0, 0, []),
  (5, .iload_n 2, 1, 2, 0, 0, []),
  (6, .invokestatic 54, 3, 58, 0, 0, []),
  (9, .ifCond .eq 9, 3, 18, 0, 0, []),
  (12, .aload_n 0, 1, 0, 0, 0, []),
  (13, .invokevirtual 57, 3, 59, 0, 0, []),
  (16, .iconst 1, 1, 0, 1, 0, []),
  (17, .ireturn, 1, 0, 0, 0, []),
  (18, .iconst 0, 1, 0, 0, 0, []),
  (19, .istore_n 3, 1, 3, 0, 0, []),
  (20, .iload_n 3, 1, 3, 0, 0, []),
  (21, .bipush 6, 2, 0, 6, 0, []),
  (23, .if_icmp .ge 37, 3, 60, 0, 0, []),
  (26, .iload_n 2, 1, 2, 0, 0, []),
  (27, .getstatic 60, 3, 2, 0, 0, []),
  (30, .iload_n 3, 1, 3, 0, 0, []),
  (31, .caload, 1, 0, 0, 0, []),
  (32, .if_icmp .ne 22, 3, 54, 0, 0, []),
  (35, .aload_n 0, 1, 0, 0, 0, []),
  (36, .dup, 1, 0, 0, 0, []),
  (37, .getfield 24, 3, 803, 0, 0, []),
  (40, .iconst 1, 1, 0, 1, 0, []),
  (41, .iadd, 1, 0, 0, 0, []),
  (42, .putfield 24, 3, 803, 0, 0, []),
  (45, .aload_n 0, 1, 0, 0, 0, []),
  (46, .iconst (-1), 1, 0, (-1), 0, []),
  (47, .iload_n 3, 1, 3, 0, 0, []),
  (48, .isub, 1, 0, 0, 0, []),
  (49, .invokevirtual 42, 3, 51, 0, 0, []),
  (52, .iconst 1, 1, 0, 1, 0, []),
  (53, .ireturn, 1, 0, 0, 0, []),
  (54, .iinc 3 1, 3, 3, 1, 0, []),
  (57, .goto (-37), 3, 20, 0, 0, []),
  (60, .aload_n 0, 1, 0, 0, 0, []),
  (61, .iload_n 2, 1, 2, 0, 0, []),
  (62, .iload_n 1, 1, 1, 0, 0, []),
  (63, .invokevirtual 64, 3, 57, 0, 0, []),
  (66, .ireturn, 1, 0, 0, 0, [])]
def mm_X8_readOperand : mM := (8, yX8_readOperand, cX8_readOperand, 4, (some .boolean), 2, (3042, 3041, 5, 1005, false), mo_X8_readOperand)
def mo_X8_readOpened : List mO := [
  (0, .iload_n 2, 1, 2, 0, 0, []),
  (1, .bipush 6, 2, 0, 6, 0, []),
  (3, .if_icmp .ge 21, 3, 24, 0, 0, []),
  (6, .iload_n 1, 1, 1, 0, 0, []),
  (7, .bipush 40, 2, 0, 40, 0, []),
  (9, .if_icmp .eq 17, 3, 26, 0, 0, []),
  (12, .iload_n 1, 1, 1, 0, 0, []),
  (13, .bipush 33, 2, 0, 33, 0, []),
  (15, .if_icmp .eq 11, 3, 26, 0, 0, []),
  (18, .iload_n 1, 1, 1, 0, 0, []),
  (19, .bipush 45, 2, 0, 45, 0, []),
  (21, .if_icmp .eq 5, 3, 26, 0, 0, []),
  (24, .iconst 0, 1, 0, 0, 0, []),
  (25, .ireturn, 1, 0, 0, 0, []),
  (26, .aload_n 0, 1, 0, 0, 0, []),
  (27, .dup, 1, 0, 0, 0, []),
  (28, .getfield 24, 3, 803, 0, 0, []),
  (31, .iconst 1, 1, 0, 1, 0, []),
  (32, .iadd, 1, 0, 0, 0, []),
  (33, .putfield 24, 3, 803, 0, 0, []),
  (36, .iload_n 1, 1, 1, 0, 0, []),
  (37, .bipush 40, 2, 0, 40, 0, []),
  (39, .if_icmp .ne 37, 3, 76, 0, 0, []),
  (42, .aload_n 0, 1, 0, 0, 0, []),
  (43, .iconst 0, 1, 0, 0, 0, []),
  (44, .iload_n 2, 1, 2, 0, 0, []),
  (45, .iconst 1, 1, 0, 1, 0, []),
  (46, .iadd, 1, 0, 0, 0, []),
  (47, .invokevirtual 38, 3, 54, 0, 0, []),
  (50, .ifCond .eq 12, 3, 62, 0, 0, []),
  (53, .aload_n 0, 1, 0, 0, 0, []),
  (54, .invokevirtual 34, 3, 50, 0, 0, []),
  (57, .bipush 41, 2, 0, 41, 0, []),
  (59, .if_icmp .eq 5, 3, 64, 0, 0, []),
  (62, .iconst 0, 1, 0, 0, 0, []),
  (63, .ireturn, 1, 0, 0, 0, []),
  (64, .aload_n 0, 1, 0, 0, 0, []),
  (65, .dup, 1, 0, 0, 0, []),
  (66, .getfield 24, 3, 803, 0, 0, []),
  (69, .iconst 1, 1, 0, 1, 0, []),
  (70, .iadd, 1, 0, 0, 0, []),
  (71, .putfield 24, 3, 803, 0, 0, []),
  (74, .iconst 1, 1, 0, 1, 0, []),
  (75, .ireturn, 1, 0, 0, 0, []),
  (76, .aload_n 0, 1, 0, 0, 0, []),
  (77, .iload_n 2, 1, 2, 0, 0, []),
  (78, .iconst 1, 1, 0, 1, 0, []),
  (79, .iadd, 1, 0, 0, 0, []),
  (80, .invokevirtual 46, 3, 56, 0, 0, []),
  (83, .ifCond .ne 5, 3, 88, 0, 0, []),
  (86, .iconst 0, 1, 0, 0, 0, []),
  (87, .ireturn, 1, 0, 0, 0, []),
  (88, .aload_n 0, 1, 0, 0, 0, []),
  (89, .iload_n 1, 1, 1, 0, 0, []),
  (90, .bipush 33, 2, 0, 33, 0, []),
  (92, .if_icmp .ne 8, 3, 100, 0, 0, []),
  (95, .bipush (-33), 2, 0, (-33), 0, []),
  (97, .goto 5, 3, 102, 0, 0, []),
  (100, .bipush (-126), 2, 0, (-126), 0, []),
  (102, .invokevirtual 42, 3, 51, 0, 0, []),
  (105, .iconst 1, 1, 0, 1, 0, []),
  (106, .ireturn, 1, 0, 0, 0, [])]
def mm_X8_readOpened : mM := (8, yX8_readOpened, cX8_readOpened, 3, (some .boolean), 3, (3063, 3062, 9, 1005, false), mo_X8_readOpened)
def mo_X8_isDigit : List mO := [
  (0, .iload_n 0, 1, 0, 0, 0, []),
  (1, .bipush 48, 2, 0, 48, 0, []),
  (3, .if_icmp .lt 13, 3, 16, 0, 0, []),
  (6, .iload_n 0, 1, 0, 0, 0, []),
  (7, .bipush 57, 2, 0, 57, 0, []),
  (9, .if_icmp .gt 7, 3, 16, 0, 0, []),
  (12, .iconst 1, 1, 0, 1, 0, []),
  (13, .goto 4, 3, 17, 0, 0, []),
  (16, .iconst 0, 1, 0, 0, 0, []),
  (17, .ireturn, 1, 0, 0, 0, [])]
def mm_X8_isDigit : mM := (8, yX8_isDigit, cX8_isDigit, 1, (some .boolean), 1, (3049, 3048, 0, 1005, true), mo_X8_isDigit)
def mo_X8_readNumber : List mO := [
  (0, .iconst 0, 1, 0, 0, 0, []),
  (1, .istore_n 1, 1, 1, 0, 0, []),
  (2, .iconst 0, 1, 0, 0, 0, []),
  (3, .istore_n 2, 1, 2, 0, 0, []),
  (4, .iload_n 2, 1, 2, 0, 0, []),
  (5, .iconst 4, 1, 0, 4, 0, []),
  (6, .if_icmp .ge 42, 3, 48, 0, 0, []),
  (9, .aload_n 0, 1, 0, 0, 0, []),
  (10, .invokevirtual 34, 3, 50, 0, 0, []),
  (13, .invokestatic 54, 3, 58, 0, 0, []),
  (16, .ifCond .eq 32, 3, 48, 0, 0, []),
  (19, .iload_n 1, 1, 1, 0, 0, []),
  (20, .bipush 10, 2, 0, 10, 0, []),
  (22, .imul, 1, 0, 0, 0, []),
  (23, .aload_n 0, 1, 0, 0, 0, []),
  (24, .invokevirtual 34, 3, 50, 0, 0, []),
  (27, .iadd, 1, 0, 0, 0, []),
  (28, .bipush 48, 2, 0, 48, 0, []),
  (30, .isub, 1, 0, 0, 0, []),
  (31, .istore_n 1, 1, 1, 0, 0, []),
  (32, .aload_n 0, 1, 0, 0, 0, []),
  (33, .dup, 1, 0, 0, 0, []),
  (34, .getfield 24, 3, 803, 0, 0, []),
  (37, .iconst 1, 1, 0, 1, 0, []),
  (38, .iadd, 1, 0, 0, 0, []),
  (39, .putfield 24, 3, 803, 0, 0, []),
  (42, .iinc 2 1, 3, 2, 1, 0, []),
  (45, .goto (-41), 3, 4, 0, 0, []),
  (48, .aload_n 0, 1, 0, 0, 0, []),
  (49, .iload_n 1, 1, 1, 0, 0, []),
  (50, .invokevirtual 42, 3, 51, 0, 0, []),
  (53, .return_, 1, 0, 0, 0, [])]
def mm_X8_readNumber : mM := (8, yX8_readNumber, cX8_readNumber, 3, none, 1, (3053, 3052, 7, 1005, false), mo_X8_readNumber)
def mo_X9_hasPerson : List mO := [
  (0, .iload_n 1, 1, 1, 0, 0, []),
  (1, .ifCond .lt 15, 3, 16, 0, 0, []),
  (4, .iload_n 1, 1, 1, 0, 0, []),
  (5, .aload_n 0, 1, 0, 0, 0, []),
  (6, .getfield 56, 3, 912, 0, 0, []),
  (9, .if_icmp .ge 7, 3, 16, 0, 0, []),
  (12, .iconst 1, 1, 0, 1, 0, []),
  (13, .goto 4, 3, 17, 0, 0, []),
  (16, .iconst 0, 1, 0, 0, 0, []),
  (17, .ireturn, 1, 0, 0, 0, [])]
def mm_X9_hasPerson : mM := (9, yX9_hasPerson, cX9_hasPerson, 2, (some .boolean), 2, (2176, 2174, 2175, 1002, false), mo_X9_hasPerson)
def mo_X9_hasPromise : List mO := [
  (0, .iload_n 1, 1, 1, 0, 0, []),
  (1, .ifCond .lt 15, 3, 16, 0, 0, []),
  (4, .iload_n 1, 1, 1, 0, 0, []),
  (5, .aload_n 0, 1, 0, 0, 0, []),
  (6, .getfield 60, 3, 913, 0, 0, []),
  (9, .if_icmp .ge 7, 3, 16, 0, 0, []),
  (12, .iconst 1, 1, 0, 1, 0, []),
  (13, .goto 4, 3, 17, 0, 0, []),
  (16, .iconst 0, 1, 0, 0, 0, []),
  (17, .ireturn, 1, 0, 0, 0, [])]
def mm_X9_hasPromise : mM := (9, yX9_hasPromise, cX9_hasPromise, 2, (some .boolean), 2, (2229, 2227, 2228, 1002, false), mo_X9_hasPromise)
def mo_X9_addPerson : List mO := [
  (0, .aload_n 0, 1, 0, 0, 0, []),
  (1, .getfield 56, 3, 912, 0, 0, []),
  (4, .bipush 6, 2, 0, 6, 0, []),
  (6, .if_icmp .lt 6, 3, 12, 0, 0, []),
  (9, .bipush (-3), 2, 0, (-3), 0, []),
  (11, .ireturn, 1, 0, 0, 0, []),
  (12, .aload_n 0, 1, 0, 0, 0, []),
  (13, .getfield 9, 3, 900, 0, 0, []),
  (16, .aload_n 0, 1, 0, 0, 0, []),
  (17, .getfield 56, 3, 912, 0, 0, []),
  (20, .iload_n 1, 1, 1, 0, 0, []),
  (21, .iastore, 1, 0, 0, 0, []),
  (22, .aload_n 0, 1, 0, 0, 0, []),
  (23, .getfield 15, 3, 901, 0, 0, []),
  (26, .aload_n 0, 1, 0, 0, 0, []),
  (27, .getfield 56, 3, 912, 0, 0, []),
  (30, .iconst 3, 1, 0, 3, 0, []),
  (31, .iastore, 1, 0, 0, 0, []),
  (32, .aload_n 0, 1, 0, 0, 0, []),
  (33, .dup, 1, 0, 0, 0, []),
  (34, .getfield 56, 3, 912, 0, 0, []),
  (37, .iconst 1, 1, 0, 1, 0, []),
  (38, .iadd, 1, 0, 0, 0, []),
  (39, .putfield 56, 3, 912, 0, 0, []),
  (42, .aload_n 0, 1, 0, 0, 0, []),
  (43, .getfield 56, 3, 912, 0, 0, []),
  (46, .iconst 1, 1, 0, 1, 0, []),
  (47, .isub, 1, 0, 0, 0, []),
  (48, .ireturn, 1, 0, 0, 0, [])]
def mm_X9_addPerson : mM := (9, yX9_addPerson, cX9_addPerson, 2, (some .int), 2, (2168, 2166, 2167, 1002, false), mo_X9_addPerson)
def mo_X9_mayPromise : List mO := [
  (0, .aload_n 0, 1, 0, 0, 0, []),
  (1, .iload_n 1, 1, 1, 0, 0, []),
  (2, .invokevirtual 75, 3, 60, 0, 0, []),
  (5, .ifCond .eq 51, 3, 56, 0, 0, []),
  (8, .aload_n 0, 1, 0, 0, 0, []),
  (9, .iload_n 2, 1, 2, 0, 0, []),
  (10, .invokevirtual 75, 3, 60, 0, 0, []),
  (13, .ifCond .eq 43, 3, 56, 0, 0, []),
  (16, .iload_n 1, 1, 1, 0, 0, []),
  (17, .iload_n 2, 1, 2, 0, 0, []),
  (18, .if_icmp .eq 38, 3, 56, 0, 0, []),
  (21, .iload_n 3, 1, 3, 0, 0, []),
  (22, .invokestatic 79, 3, 147, 0, 0, []),
  (25, .ifCond .eq 31, 3, 56, 0, 0, []),
  (28, .iload 4, 2, 4, 0, 0, []),
  (30, .ifCond .lt 26, 3, 56, 0, 0, []),
  (33, .iload 4, 2, 4, 0, 0, []),
  (35, .bipush 9, 2, 0, 9, 0, []),
  (37, .if_icmp .gt 19, 3, 56, 0, 0, []),
  (40, .iload 5, 2, 5, 0, 0, []),
  (42, .ifCond .lt 14, 3, 56, 0, 0, []),
  (45, .iload 5, 2, 5, 0, 0, []),
  (47, .bipush 99, 2, 0, 99, 0, []),
  (49, .if_icmp .gt 7, 3, 56, 0, 0, []),
  (52, .iconst 1, 1, 0, 1, 0, []),
  (53, .goto 4, 3, 57, 0, 0, []),
  (56, .iconst 0, 1, 0, 0, 0, []),
  (57, .ireturn, 1, 0, 0, 0, [])]
def mm_X9_mayPromise : mM := (9, yX9_mayPromise, cX9_mayPromise, 6, (some .boolean), 6, (2180, 2178, 2179, 1002, false), mo_X9_mayPromise)
def mo_X9_addPromise : List mO := [
  (0, .aload_n 0, 1, 0, 0, 0, []),
  (1, .getfield 60, 3, 913, 0, 0, []),
  (4, .bipush 12, 2, 0, 12, 0, []),
  (6, .if_icmp .lt 6, 3, 12, 0, 0, []),
  (9, .bipush (-3), 2, 0, (-3), 0, []),
  (11, .ireturn, 1, 0, 0, 0, []),
  (12, .aload_n 0, 1, 0, 0, 0, []),
  (13, .getfield 18, 3, 902, 0, 0, []),
  (16, .aload_n 0, 1, 0, 0, 0, []),
  (17, .getfield 60, 3, 913, 0, 0, []),
  (20, .iload_n 1, 1, 1, 0, 0, []),
  (21, .iastore, 1, 0, 0, 0, []),
  (22, .aload_n 0, 1, 0, 0, 0, []),
  (23, .getfield 21, 3, 903, 0, 0, []),
  (26, .aload_n 0, 1, 0, 0, 0, []),
  (27, .getfield 60, 3, 913, 0, 0, []),
  (30, .iload_n 2, 1, 2, 0, 0, []),
  (31, .iastore, 1, 0, 0, 0, []),
  (32, .aload_n 0, 1, 0, 0, 0, []),
  (33, .getfield 24, 3, 904, 0, 0, []),
  (36, .aload_n 0, 1, 0, 0, 0, []),
  (37, .getfield 60, 3, 913, 0, 0, []),
  (40, .iload_n 3, 1, 3, 0, 0, []),
  (41, .iastore, 1, 0, 0, 0, []),
  (42, .aload_n 0, 1, 0, 0, 0, []),
  (43, .getfield 27, 3, 905, 0, 0, []),
  (46, .aload_n 0, 1, 0, 0, 0, []),
  (47, .getfield 60, 3, 913, 0, 0, []),
  (50, .iload 4, 2, 4, 0, 0, []),
  (52, .iastore, 1, 0, 0, 0, []),
  (53, .aload_n 0, 1, 0, 0, 0, []),
  (54, .getfield 30, 3, 906, 0, 0, []),
  (57, .aload_n 0, 1, 0, 0, 0, []),
  (58, .getfield 60, 3, 913, 0, 0, []),
  (61, .aload_n 0, 1, 0, 0, 0, []),
  (62, .getfield 72, 3, 917, 0, 0, []),
  (65, .iastore, 1, 0, 0, 0, []),
  (66, .aload_n 0, 1, 0, 0, 0, []),
  (67, .getfield 33, 3, 907, 0, 0, []),
  (70, .aload_n 0, 1, 0, 0, 0, []),
  (71, .getfield 60, 3, 913, 0, 0, []),
  (74, .iload 5, 2, 5, 0, 0, []),
  (76, .iastore, 1, 0, 0, 0, []),
  (77, .aload_n 0, 1, 0, 0, 0, []),
  (78, .dup, 1, 0, 0, 0, []),
  (79, .getfield 60, 3, 913, 0, 0, []),
  (82, .iconst 1, 1, 0, 1, 0, []),
  (83, .iadd, 1, 0, 0, 0, []),
  (84, .putfield 60, 3, 913, 0, 0, []),
  (87, .aload_n 0, 1, 0, 0, 0, []),
  (88, .getfield 60, 3, 913, 0, 0, []),
  (91, .iconst 1, 1, 0, 1, 0, []),
  (92, .isub, 1, 0, 0, 0, []),
  (93, .ireturn, 1, 0, 0, 0, [])]
def mm_X9_addPromise : mM := (9, yX9_addPromise, cX9_addPromise, 6, (some .int), 6, (2186, 2184, 2185, 1002, false), mo_X9_addPromise)
def mo_X9_hasNumber : List mO := [
  (0, .iload_n 2, 1, 2, 0, 0, []),
  (1, .ifCond .eq 8, 3, 9, 0, 0, []),
  (4, .iload_n 2, 1, 2, 0, 0, []),
  (5, .iconst 1, 1, 0, 1, 0, []),
  (6, .if_icmp .ne 9, 3, 15, 0, 0, []),
  (9, .aload_n 0, 1, 0, 0, 0, []),
  (10, .iload_n 1, 1, 1, 0, 0, []),
  (11, .invokevirtual 75, 3, 60, 0, 0, []),
  (14, .ireturn, 1, 0, 0, 0, []),
  (15, .iload_n 2, 1, 2, 0, 0, []),
  (16, .bipush 8, 2, 0, 8, 0, []),
  (18, .if_icmp .eq 9, 3, 27, 0, 0, []),
  (21, .iload_n 2, 1, 2, 0, 0, []),
  (22, .bipush 9, 2, 0, 9, 0, []),
  (24, .if_icmp .ne 13, 3, 37, 0, 0, []),
  (27, .iload_n 1, 1, 1, 0, 0, []),
  (28, .ifCond .ne 7, 3, 35, 0, 0, []),
  (31, .iconst 1, 1, 0, 1, 0, []),
  (32, .goto 4, 3, 36, 0, 0, []),
  (35, .iconst 0, 1, 0, 0, 0, []),
  (36, .ireturn, 1, 0, 0, 0, []),
  (37, .aload_n 0, 1, 0, 0, 0, []),
  (38, .iload_n 1, 1, 1, 0, 0, []),
  (39, .invokevirtual 82, 3, 61, 0, 0, []),
  (42, .ireturn, 1, 0, 0, 0, [])]
def mm_X9_hasNumber : mM := (9, yX9_hasNumber, cX9_hasNumber, 3, (some .boolean), 3, (2225, 2223, 2224, 1002, false), mo_X9_hasNumber)
def mo_X9_numberOf : List mO := [
  (0, .aload_n 0, 1, 0, 0, 0, []),
  (1, .iload_n 1, 1, 1, 0, 0, []),
  (2, .iload_n 2, 1, 2, 0, 0, []),
  (3, .invokevirtual 85, 3, 65, 0, 0, []),
  (6, .ifCond .ne 5, 3, 11, 0, 0, []),
  (9, .iconst (-1), 1, 0, (-1), 0, []),
  (10, .ireturn, 1, 0, 0, 0, []),
  (11, .iload_n 2, 1, 2, 0, 0, []),
  (12, .tableswitch 148 0 11 #[64, 71, 78, 85, 92, 99, 106, 115, 124, 129, 134, 141], 64, 160, 0, 0, [(0, 76), (1, 83), (2, 90), (3, 97), (4, 104), (5, 111), (6, 118), (7, 127), (8, 136), (9, 141), (10, 146), (11, 153)]),
  (76, .aload_n 0, 1, 0, 0, 0, []),
  (77, .getfield 9, 3, 900, 0, 0, []),
  (80, .iload_n 1, 1, 1, 0, 0, []),
  (81, .iaload, 1, 0, 0, 0, []),
  (82, .ireturn, 1, 0, 0, 0, []),
  (83, .aload_n 0, 1, 0, 0, 0, []),
  (84, .getfield 15, 3, 901, 0, 0, []),
  (87, .iload_n 1, 1, 1, 0, 0, []),
  (88, .iaload, 1, 0, 0, 0, []),
  (89, .ireturn, 1, 0, 0, 0, []),
  (90, .aload_n 0, 1, 0, 0, 0, []),
  (91, .getfield 24, 3, 904, 0, 0, []),
  (94, .iload_n 1, 1, 1, 0, 0, []),
  (95, .iaload, 1, 0, 0, 0, []),
  (96, .ireturn, 1, 0, 0, 0, []),
  (97, .aload_n 0, 1, 0, 0, 0, []),
  (98, .getfield 27, 3, 905, 0, 0, []),
  (101, .iload_n 1, 1, 1, 0, 0, []),
  (102, .iaload, 1, 0, 0, 0, []),
  (103, .ireturn, 1, 0, 0, 0, []),
  (104, .aload_n 0, 1, 0, 0, 0, []),
  (105, .getfield 30, 3, 906, 0, 0, []),
  (108, .iload_n 1, 1, 1, 0, 0, []),
  (109, .iaload, 1, 0, 0, 0, []),
  (110, .ireturn, 1, 0, 0, 0, []),
  (111, .aload_n 0, 1, 0, 0, 0, []),
  (112, .getfield 33, 3, 907, 0, 0, []),
  (115, .iload_n 1, 1, 1, 0, 0, []),
  (116, .iaload, 1, 0, 0, 0, []),
  (117, .ireturn, 1, 0, 0, 0, []),
  (118, .aload_n 0, 1, 0, 0, 0, []),
  (119, .getfield 63, 3, 914, 0, 0, []),
  (122, .iload_n 1, 1, 1, 0, 0, []),
  (123, .ishr, 1, 0, 0, 0, []),
  (124, .iconst 1, 1, 0, 1, 0, []),
  (125, .iand, 1, 0, 0, 0, []),
  (126, .ireturn, 1, 0, 0, 0, []),
  (127, .aload_n 0, 1, 0, 0, 0, []),
  (128, .getfield 66, 3, 915, 0, 0, []),
  (131, .iload_n 1, 1, 1, 0, 0, []),
  (132, .ishr, 1, 0, 0, 0, []),
  (133, .iconst 1, 1, 0, 1, 0, []),
  (134, .iand, 1, 0, 0, 0, []),
  (135, .ireturn, 1, 0, 0, 0, []),
  (136, .aload_n 0, 1, 0, 0, 0, []),
  (137, .getfield 69, 3, 916, 0, 0, []),
  (140, .ireturn, 1, 0, 0, 0, []),
  (141, .aload_n 0, 1, 0, 0, 0, []),
  (142, .getfield 72, 3, 917, 0, 0, []),
  (145, .ireturn, 1, 0, 0, 0, []),
  (146, .aload_n 0, 1, 0, 0, 0, []),
  (147, .getfield 18, 3, 902, 0, 0, []),
  (150, .iload_n 1, 1, 1, 0, 0, []),
  (151, .iaload, 1, 0, 0, 0, []),
  (152, .ireturn, 1, 0, 0, 0, []),
  (153, .aload_n 0, 1, 0, 0, 0, []),
  (154, .getfield 21, 3, 903, 0, 0, []),
  (157, .iload_n 1, 1, 1, 0, 0, []),
  (158, .iaload, 1, 0, 0, 0, []),
  (159, .ireturn, 1, 0, 0, 0, []),
  (160, .iconst (-1), 1, 0, (-1), 0, []),
  (161, .ireturn, 1, 0, 0, 0, [])]
def mm_X9_numberOf : mM := (9, yX9_numberOf, cX9_numberOf, 3, (some .int), 3, (2237, 2235, 2236, 1002, false), mo_X9_numberOf)
def mo_X9_setNumber : List mO := [
  (0, .aload_n 0, 1, 0, 0, 0, []),
  (1, .iload_n 1, 1, 1, 0, 0, []),
  (2, .iload_n 2, 1, 2, 0, 0, []),
  (3, .invokevirtual 85, 3, 65, 0, 0, []),
  (6, .ifCond .ne 4, 3, 10, 0, 0, []),
  (9, .return_, 1, 0, 0, 0, []),
  (10, .iload_n 2, 1, 2, 0, 0, []),
  (11, .tableswitch 171 0 9 #[53, 63, 73, 83, 93, 103, 113, 134, 155, 163], 53, 182, 0, 0, [(0, 64), (1, 74), (2, 84), (3, 94), (4, 104), (5, 114), (6, 124), (7, 145), (8, 166), (9, 174)]),
  (64, .aload_n 0, 1, 0, 0, 0, []),
  (65, .getfield 9, 3, 900, 0, 0, []),
  (68, .iload_n 1, 1, 1, 0, 0, []),
  (69, .iload_n 3, 1, 3, 0, 0, []),
  (70, .iastore, 1, 0, 0, 0, []),
  (71, .goto 111, 3, 182, 0, 0, []),
  (74, .aload_n 0, 1, 0, 0, 0, []),
  (75, .getfield 15, 3, 901, 0, 0, []),
  (78, .iload_n 1, 1, 1, 0, 0, []),
  (79, .iload_n 3, 1, 3, 0, 0, []),
  (80, .iastore, 1, 0, 0, 0, []),
  (81, .goto 101, 3, 182, 0, 0, []),
  (84, .aload_n 0, 1, 0, 0, 0, []),
  (85, .getfield 24, 3, 904, 0, 0, []),
  (88, .iload_n 1, 1, 1, 0, 0, []),
  (89, .iload_n 3, 1, 3, 0, 0, []),
  (90, .iastore, 1, 0, 0, 0, []),
  (91, .goto 91, 3, 182, 0, 0, []),
  (94, .aload_n 0, 1, 0, 0, 0, []),
  (95, .getfield 27, 3, 905, 0, 0, []),
  (98, .iload_n 1, 1, 1, 0, 0, []),
  (99, .iload_n 3, 1, 3, 0, 0, []),
  (100, .iastore, 1, 0, 0, 0, []),
  (101, .goto 81, 3, 182, 0, 0, []),
  (104, .aload_n 0, 1, 0, 0, 0, []),
  (105, .getfield 30, 3, 906, 0, 0, []),
  (108, .iload_n 1, 1, 1, 0, 0, []),
  (109, .iload_n 3, 1, 3, 0, 0, []),
  (110, .iastore, 1, 0, 0, 0, []),
  (111, .goto 71, 3, 182, 0, 0, []),
  (114, .aload_n 0, 1, 0, 0, 0, []),
  (115, .getfield 33, 3, 907, 0, 0, []),
  (118, .iload_n 1, 1, 1, 0, 0, []),
  (119, .iload_n 3, 1, 3, 0, 0, []),
  (120, .iastore, 1, 0, 0, 0, []),
  (121, .goto 61, 3, 182, 0, 0, []),
  (124, .aload_n 0, 1, 0, 0, 0, []),
  (125, .aload_n 0, 1, 0, 0, 0, []),
  (126, .getfield 63, 3, 914, 0, 0, []),
  (129, .iconst 1, 1, 0, 1, 0, []),
  (130, .iload_n 1, 1, 1, 0, 0, []),
  (131, .ishl, 1, 0, 0, 0, []),
  (132, .iconst (-1), 1, 0, (-1), 0, []),
  (133, .ixor, 1, 0, 0, 0, []),
  (134, .iand, 1, 0, 0, 0, []),
  (135, .iload_n 3, 1, 3, 0, 0, []),
  (136, .iload_n 1, 1, 1, 0, 0, []),
  (137, .ishl, 1, 0, 0, 0, []),
  (138, .ior, 1, 0, 0, 0, []),
  (139, .putfield 63, 3, 914, 0, 0, []),
  (142, .goto 40, 3, 182, 0, 0, []),
  (145, .aload_n 0, 1, 0, 0, 0, []),
  (146, .aload_n 0, 1, 0, 0, 0, []),
  (147, .getfield 66, 3, 915, 0, 0, []),
  (150, .iconst 1, 1, 0, 1, 0, []),
  (151, .iload_n 1, 1, 1, 0, 0, []),
  (152, .ishl, 1, 0, 0, 0, []),
  (153, .iconst (-1), 1, 0, (-1), 0, []),
  (154, .ixor, 1, 0, 0, 0, []),
  (155, .iand, 1, 0, 0, 0, []),
  (156, .iload_n 3, 1, 3, 0, 0, []),
  (157, .iload_n 1, 1, 1, 0, 0, []),
  (158, .ishl, 1, 0, 0, 0, []),
  (159, .ior, 1, 0, 0, 0, []),
  (160, .putfield 66, 3, 915, 0, 0, []),
  (163, .goto 19, 3, 182, 0, 0, []),
  (166, .aload_n 0, 1, 0, 0, 0, []),
  (167, .iload_n 3, 1, 3, 0, 0, []),
  (168, .putfield 69, 3, 916, 0, 0, []),
  (171, .goto 11, 3, 182, 0, 0, []),
  (174, .aload_n 0, 1, 0, 0, 0, []),
  (175, .iload_n 3, 1, 3, 0, 0, []),
  (176, .putfield 72, 3, 917, 0, 0, []),
  (179, .goto 3, 3, 182, 0, 0, []),
  (182, .return_, 1, 0, 0, 0, [])]
def mm_X9_setNumber : mM := (9, yX9_setNumber, cX9_setNumber, 4, none, 4, (3010, 3008, 3009, 1002, false), mo_X9_setNumber)
def mo_X9_now : List mO := [
  (0, .aload_n 0, 1, 0, 0, 0, []),
  (1, .getfield 52, 3, 911, 0, 0, []),
  (4, .aload_n 0, 1, 0, 0, 0, []),
  (5, .getfield 72, 3, 917, 0, 0, []),
  (8, .putfield 89, 3, 400, 0, 0, []),
  (11, .aload_n 0, 1, 0, 0, 0, []),
  (12, .getfield 52, 3, 911, 0, 0, []),
  (15, .aload_n 0, 1, 0, 0, 0, []),
  (16, .getfield 66, 3, 915, 0, 0, []),
  (19, .putfield 90, 3, 401, 0, 0, []),
  (22, .aload_n 0, 1, 0, 0, 0, []),
  (23, .getfield 52, 3, 911, 0, 0, []),
  (26, .aload_n 0, 1, 0, 0, 0, []),
  (27, .getfield 63, 3, 914, 0, 0, []),
  (30, .putfield 91, 3, 402, 0, 0, []),
  (33, .aload_n 0, 1, 0, 0, 0, []),
  (34, .getfield 52, 3, 911, 0, 0, []),
  (37, .iconst 0, 1, 0, 0, 0, []),
  (38, .putfield 92, 3, 403, 0, 0, []),
  (41, .aload_n 0, 1, 0, 0, 0, []),
  (42, .getfield 52, 3, 911, 0, 0, []),
  (45, .areturn, 1, 0, 0, 0, [])]
def mm_X9_now : mM := (9, yX9_now, cX9_now, 1, (some (.object "NailedByWord$Moment")), 1, (3082, 3080, 3081, 1002, false), mo_X9_now)
def mo_X9_isOn : List mO := [
  (0, .iload_n 2, 1, 2, 0, 0, []),
  (1, .iload_n 1, 1, 1, 0, 0, []),
  (2, .invokestatic 95, 3, 146, 0, 0, []),
  (5, .ifCond .ne 27, 3, 32, 0, 0, []),
  (8, .aload_n 0, 1, 0, 0, 0, []),
  (9, .getfield 30, 3, 906, 0, 0, []),
  (12, .iload_n 1, 1, 1, 0, 0, []),
  (13, .iaload, 1, 0, 0, 0, []),
  (14, .iload_n 3, 1, 3, 0, 0, []),
  (15, .if_icmp .gt 17, 3, 32, 0, 0, []),
  (18, .iload_n 3, 1, 3, 0, 0, []),
  (19, .aload_n 0, 1, 0, 0, 0, []),
  (20, .getfield 33, 3, 907, 0, 0, []),
  (23, .iload_n 1, 1, 1, 0, 0, []),
  (24, .iaload, 1, 0, 0, 0, []),
  (25, .if_icmp .gt 7, 3, 32, 0, 0, []),
  (28, .iconst 1, 1, 0, 1, 0, []),
  (29, .goto 4, 3, 33, 0, 0, []),
  (32, .iconst 0, 1, 0, 0, 0, []),
  (33, .ireturn, 1, 0, 0, 0, [])]
def mm_X9_isOn : mM := (9, yX9_isOn, cX9_isOn, 4, (some .boolean), 4, (3090, 3088, 3089, 1002, false), mo_X9_isOn)
def mo_X9_othersOn : List mO := [
  (0, .iconst 0, 1, 0, 0, 0, []),
  (1, .istore_n 3, 1, 3, 0, 0, []),
  (2, .iconst 0, 1, 0, 0, 0, []),
  (3, .istore 4, 2, 4, 0, 0, []),
  (5, .iload 4, 2, 4, 0, 0, []),
  (7, .aload_n 0, 1, 0, 0, 0, []),
  (8, .getfield 60, 3, 913, 0, 0, []),
  (11, .if_icmp .ge 67, 3, 78, 0, 0, []),
  (14, .iload 4, 2, 4, 0, 0, []),
  (16, .iload_n 1, 1, 1, 0, 0, []),
  (17, .if_icmp .eq 55, 3, 72, 0, 0, []),
  (20, .aload_n 0, 1, 0, 0, 0, []),
  (21, .getfield 18, 3, 902, 0, 0, []),
  (24, .iload 4, 2, 4, 0, 0, []),
  (26, .iaload, 1, 0, 0, 0, []),
  (27, .aload_n 0, 1, 0, 0, 0, []),
  (28, .getfield 18, 3, 902, 0, 0, []),
  (31, .iload_n 1, 1, 1, 0, 0, []),
  (32, .iaload, 1, 0, 0, 0, []),
  (33, .if_icmp .ne 39, 3, 72, 0, 0, []),
  (36, .aload_n 0, 1, 0, 0, 0, []),
  (37, .getfield 24, 3, 904, 0, 0, []),
  (40, .iload 4, 2, 4, 0, 0, []),
  (42, .iaload, 1, 0, 0, 0, []),
  (43, .aload_n 0, 1, 0, 0, 0, []),
  (44, .getfield 24, 3, 904, 0, 0, []),
  (47, .iload_n 1, 1, 1, 0, 0, []),
  (48, .iaload, 1, 0, 0, 0, []),
  (49, .if_icmp .ne 23, 3, 72, 0, 0, []),
  (52, .aload_n 0, 1, 0, 0, 0, []),
  (53, .iload 4, 2, 4, 0, 0, []),
  (55, .aload_n 2, 1, 2, 0, 0, []),
  (56, .getfield 90, 3, 401, 0, 0, []),
  (59, .aload_n 2, 1, 2, 0, 0, []),
  (60, .getfield 89, 3, 400, 0, 0, []),
  (63, .invokevirtual 98, 3, 69, 0, 0, []),
  (66, .ifCond .eq 6, 3, 72, 0, 0, []),
  (69, .iinc 3 1, 3, 3, 1, 0, []),
  (72, .iinc 4 1, 3, 4, 1, 0, []),
  (75, .goto (-70), 3, 5, 0, 0, []),
  (78, .iload_n 3, 1, 3, 0, 0, []),
  (79, .ireturn, 1, 0, 0, 0, [])]
def mm_X9_othersOn : mM := (9, yX9_othersOn, cX9_othersOn, 5, (some .int), 3, (3086, 3084, 3085, 1002, false), mo_X9_othersOn)
def mo_X9_hardness : List mO := [
  (0, .iconst 0, 1, 0, 0, 0, []),
  (1, .aload_n 0, 1, 0, 0, 0, []),
  (2, .getfield 33, 3, 907, 0, 0, []),
  (5, .iload_n 1, 1, 1, 0, 0, []),
  (6, .iaload, 1, 0, 0, 0, []),
  (7, .aload_n 3, 1, 3, 0, 0, []),
  (8, .getfield 89, 3, 400, 0, 0, []),
  (11, .isub, 1, 0, 0, 0, []),
  (12, .invokestatic 102, 3, 5001, 0, 0, []),
  (15, .istore 4, 2, 4, 0, 0, []),
  (17, .aload_n 3, 1, 3, 0, 0, []),
  (18, .getfield 91, 3, 402, 0, 0, []),
  (21, .iload_n 1, 1, 1, 0, 0, []),
  (22, .ishr, 1, 0, 0, 0, []),
  (23, .iconst 1, 1, 0, 1, 0, []),
  (24, .iand, 1, 0, 0, 0, []),
  (25, .istore 5, 2, 5, 0, 0, []),
  (27, .aload_n 0, 1, 0, 0, 0, []),
  (28, .getfield 45, 3, 910, 0, 0, []),
  (31, .invokevirtual 108, 3, 16, 0, 0, []),
  (34, .ifCond .ne 32, 3, 66, 0, 0, []),
  (37, .aload_n 0, 1, 0, 0, 0, []),
  (38, .getfield 27, 3, 905, 0, 0, []),
  (41, .iload_n 1, 1, 1, 0, 0, []),
  (42, .iaload, 1, 0, 0, 0, []),
  (43, .iconst 2, 1, 0, 2, 0, []),
  (44, .idiv, 1, 0, 0, 0, []),
  (45, .iload 4, 2, 4, 0, 0, []),
  (47, .iconst 3, 1, 0, 3, 0, []),
  (48, .if_icmp .ge 7, 3, 55, 0, 0, []),
  (51, .iconst 1, 1, 0, 1, 0, []),
  (52, .goto 4, 3, 56, 0, 0, []),
  (55, .iconst 0, 1, 0, 0, 0, []),
  (56, .iadd, 1, 0, 0, 0, []),
  (57, .iconst 3, 1, 0, 3, 0, []),
  (58, .iload 5, 2, 5, 0, 0, []),
  (60, .imul, 1, 0, 0, 0, []),
  (61, .isub, 1, 0, 0, 0, []),
  (62, .invokestatic 112, 3, 72, 0, 0, []),
  (65, .ireturn, 1, 0, 0, 0, []),
  (66, .aload_n 0, 1, 0, 0, 0, []),
  (67, .getfield 41, 3, 909, 0, 0, []),
  (70, .iconst 0, 1, 0, 0, 0, []),
  (71, .aload_n 0, 1, 0, 0, 0, []),
  (72, .getfield 27, 3, 905, 0, 0, []),
  (75, .iload_n 1, 1, 1, 0, 0, []),
  (76, .iaload, 1, 0, 0, 0, []),
  (77, .iastore, 1, 0, 0, 0, []),
  (78, .aload_n 0, 1, 0, 0, 0, []),
  (79, .getfield 41, 3, 909, 0, 0, []),
  (82, .iconst 1, 1, 0, 1, 0, []),
  (83, .iload 4, 2, 4, 0, 0, []),
  (85, .iastore, 1, 0, 0, 0, []),
  (86, .aload_n 0, 1, 0, 0, 0, []),
  (87, .getfield 41, 3, 909, 0, 0, []),
  (90, .iconst 2, 1, 0, 2, 0, []),
  (91, .aload_n 0, 1, 0, 0, 0, []),
  (92, .getfield 15, 3, 901, 0, 0, []),
  (95, .aload_n 0, 1, 0, 0, 0, []),
  (96, .getfield 18, 3, 902, 0, 0, []),
  (99, .iload_n 1, 1, 1, 0, 0, []),
  (100, .iaload, 1, 0, 0, 0, []),
  (101, .iaload, 1, 0, 0, 0, []),
  (102, .aload_n 3, 1, 3, 0, 0, []),
  (103, .getfield 92, 3, 403, 0, 0, []),
  (106, .isub, 1, 0, 0, 0, []),
  (107, .iastore, 1, 0, 0, 0, []),
  (108, .aload_n 0, 1, 0, 0, 0, []),
  (109, .getfield 41, 3, 909, 0, 0, []),
  (112, .iconst 3, 1, 0, 3, 0, []),
  (113, .iload_n 2, 1, 2, 0, 0, []),
  (114, .iastore, 1, 0, 0, 0, []),
  (115, .aload_n 0, 1, 0, 0, 0, []),
  (116, .getfield 41, 3, 909, 0, 0, []),
  (119, .iconst 4, 1, 0, 4, 0, []),
  (120, .iload 5, 2, 5, 0, 0, []),
  (122, .iastore, 1, 0, 0, 0, []),
  (123, .aload_n 0, 1, 0, 0, 0, []),
  (124, .getfield 41, 3, 909, 0, 0, []),
  (127, .iconst 5, 1, 0, 5, 0, []),
  (128, .aload_n 3, 1, 3, 0, 0, []),
  (129, .getfield 89, 3, 400, 0, 0, []),
  (132, .iastore, 1, 0, 0, 0, []),
  (133, .aload_n 0, 1, 0, 0, 0, []),
  (134, .getfield 45, 3, 910, 0, 0, []),
  (137, .aload_n 0, 1, 0, 0, 0, []),
  (138, .getfield 41, 3, 909, 0, 0, []),
  (141, .invokevirtual 116, 3, 18, 0, 0, []),
  (144, .invokestatic 112, 3, 72, 0, 0, []),
  (147, .ireturn, 1, 0, 0, 0, [])]
def mm_X9_hardness : mM := (9, yX9_hardness, cX9_hardness, 6, (some .int), 4, (3097, 3095, 3096, 1002, false), mo_X9_hardness)
def mo_X9_within : List mO := [
  (0, .iconst 0, 1, 0, 0, 0, []),
  (1, .bipush 9, 2, 0, 9, 0, []),
  (3, .iload_n 0, 1, 0, 0, 0, []),
  (4, .invokestatic 120, 3, 5002, 0, 0, []),
  (7, .invokestatic 102, 3, 5001, 0, 0, []),
  (10, .ireturn, 1, 0, 0, 0, [])]
def mm_X9_within : mM := (9, yX9_within, cX9_within, 1, (some .int), 1, (3107, 3106, 0, 1002, true), mo_X9_within)
def mo_X9_gripsAt : List mO := [
  (0, .iconst 0, 1, 0, 0, 0, []),
  (1, .istore 4, 2, 4, 0, 0, []),
  (3, .iconst 0, 1, 0, 0, 0, []),
  (4, .istore 5, 2, 5, 0, 0, []),
  (6, .iload 5, 2, 5, 0, 0, []),
  (8, .aload_n 0, 1, 0, 0, 0, []),
  (9, .getfield 60, 3, 913, 0, 0, []),
  (12, .if_icmp .ge 78, 3, 90, 0, 0, []),
  (15, .aload_n 0, 1, 0, 0, 0, []),
  (16, .getfield 18, 3, 902, 0, 0, []),
  (19, .iload 5, 2, 5, 0, 0, []),
  (21, .iaload, 1, 0, 0, 0, []),
  (22, .iload_n 1, 1, 1, 0, 0, []),
  (23, .if_icmp .ne 61, 3, 84, 0, 0, []),
  (26, .aload_n 0, 1, 0, 0, 0, []),
  (27, .getfield 24, 3, 904, 0, 0, []),
  (30, .iload 5, 2, 5, 0, 0, []),
  (32, .iaload, 1, 0, 0, 0, []),
  (33, .iload_n 2, 1, 2, 0, 0, []),
  (34, .if_icmp .ne 50, 3, 84, 0, 0, []),
  (37, .aload_n 0, 1, 0, 0, 0, []),
  (38, .iload 5, 2, 5, 0, 0, []),
  (40, .aload_n 3, 1, 3, 0, 0, []),
  (41, .getfield 90, 3, 401, 0, 0, []),
  (44, .aload_n 3, 1, 3, 0, 0, []),
  (45, .getfield 89, 3, 400, 0, 0, []),
  (48, .invokevirtual 98, 3, 69, 0, 0, []),
  (51, .ifCond .eq 33, 3, 84, 0, 0, []),
  (54, .aload_n 0, 1, 0, 0, 0, []),
  (55, .iload 5, 2, 5, 0, 0, []),
  (57, .aload_n 0, 1, 0, 0, 0, []),
  (58, .iload 5, 2, 5, 0, 0, []),
  (60, .aload_n 3, 1, 3, 0, 0, []),
  (61, .invokevirtual 123, 3, 70, 0, 0, []),
  (64, .aload_n 3, 1, 3, 0, 0, []),
  (65, .invokevirtual 127, 3, 71, 0, 0, []),
  (68, .aload_n 0, 1, 0, 0, 0, []),
  (69, .getfield 69, 3, 916, 0, 0, []),
  (72, .if_icmp .lt 12, 3, 84, 0, 0, []),
  (75, .iload 4, 2, 4, 0, 0, []),
  (77, .iconst 1, 1, 0, 1, 0, []),
  (78, .iload 5, 2, 5, 0, 0, []),
  (80, .ishl, 1, 0, 0, 0, []),
  (81, .ior, 1, 0, 0, 0, []),
  (82, .istore 4, 2, 4, 0, 0, []),
  (84, .iinc 5 1, 3, 5, 1, 0, []),
  (87, .goto (-81), 3, 6, 0, 0, []),
  (90, .iload 4, 2, 4, 0, 0, []),
  (92, .ireturn, 1, 0, 0, 0, [])]
def mm_X9_gripsAt : mM := (9, yX9_gripsAt, cX9_gripsAt, 6, (some .int), 4, (3185, 3183, 3184, 1002, false), mo_X9_gripsAt)
def mo_X9_gripsNow : List mO := [
  (0, .aload_n 0, 1, 0, 0, 0, []),
  (1, .iload_n 1, 1, 1, 0, 0, []),
  (2, .aload_n 0, 1, 0, 0, 0, []),
  (3, .getfield 9, 3, 900, 0, 0, []),
  (6, .iload_n 1, 1, 1, 0, 0, []),
  (7, .iaload, 1, 0, 0, 0, []),
  (8, .aload_n 0, 1, 0, 0, 0, []),
  (9, .invokevirtual 131, 3, 68, 0, 0, []),
  (12, .invokevirtual 135, 3, 73, 0, 0, []),
  (15, .ireturn, 1, 0, 0, 0, [])]
def mm_X9_gripsNow : mM := (9, yX9_gripsNow, cX9_gripsNow, 2, (some .int), 2, (3180, 3178, 3179, 1002, false), mo_X9_gripsNow)
def mo_X9_gripPlaces : List mO := [
  (0, .iconst 0, 1, 0, 0, 0, []),
  (1, .istore_n 3, 1, 3, 0, 0, []),
  (2, .iconst 0, 1, 0, 0, 0, []),
  (3, .istore 4, 2, 4, 0, 0, []),
  (5, .iload 4, 2, 4, 0, 0, []),
  (7, .aload_n 0, 1, 0, 0, 0, []),
  (8, .getfield 60, 3, 913, 0, 0, []),
  (11, .if_icmp .ge 84, 3, 95, 0, 0, []),
  (14, .aload_n 0, 1, 0, 0, 0, []),
  (15, .getfield 18, 3, 902, 0, 0, []),
  (18, .iload 4, 2, 4, 0, 0, []),
  (20, .iaload, 1, 0, 0, 0, []),
  (21, .iload_n 1, 1, 1, 0, 0, []),
  (22, .if_icmp .ne 67, 3, 89, 0, 0, []),
  (25, .iload_n 3, 1, 3, 0, 0, []),
  (26, .aload_n 0, 1, 0, 0, 0, []),
  (27, .getfield 24, 3, 904, 0, 0, []),
  (30, .iload 4, 2, 4, 0, 0, []),
  (32, .iaload, 1, 0, 0, 0, []),
  (33, .invokestatic 95, 3, 146, 0, 0, []),
  (36, .ifCond .ne 53, 3, 89, 0, 0, []),
  (39, .aload_n 0, 1, 0, 0, 0, []),
  (40, .iload 4, 2, 4, 0, 0, []),
  (42, .aload_n 2, 1, 2, 0, 0, []),
  (43, .getfield 90, 3, 401, 0, 0, []),
  (46, .aload_n 2, 1, 2, 0, 0, []),
  (47, .getfield 89, 3, 400, 0, 0, []),
  (50, .invokevirtual 98, 3, 69, 0, 0, []),
  (53, .ifCond .eq 36, 3, 89, 0, 0, []),
  (56, .aload_n 0, 1, 0, 0, 0, []),
  (57, .iload 4, 2, 4, 0, 0, []),
  (59, .aload_n 0, 1, 0, 0, 0, []),
  (60, .iload 4, 2, 4, 0, 0, []),
  (62, .aload_n 2, 1, 2, 0, 0, []),
  (63, .invokevirtual 123, 3, 70, 0, 0, []),
  (66, .aload_n 2, 1, 2, 0, 0, []),
  (67, .invokevirtual 127, 3, 71, 0, 0, []),
  (70, .aload_n 0, 1, 0, 0, 0, []),
  (71, .getfield 69, 3, 916, 0, 0, []),
  (74, .if_icmp .lt 15, 3, 89, 0, 0, []),
  (77, .iload_n 3, 1, 3, 0, 0, []),
  (78, .iconst 1, 1, 0, 1, 0, []),
  (79, .aload_n 0, 1, 0, 0, 0, []),
  (80, .getfield 24, 3, 904, 0, 0, []),
  (83, .iload 4, 2, 4, 0, 0, []),
  (85, .iaload, 1, 0, 0, 0, []),
  (86, .ishl, 1, 0, 0, 0, []),
  (87, .ior, 1, 0, 0, 0, []),
  (88, .istore_n 3, 1, 3, 0, 0, []),
  (89, .iinc 4 1, 3, 4, 1, 0, []),
  (92, .goto (-87), 3, 5, 0, 0, []),
  (95, .iload_n 3, 1, 3, 0, 0, []),
  (96, .ireturn, 1, 0, 0, 0, [])]
def mm_X9_gripPlaces : mM := (9, yX9_gripPlaces, cX9_gripPlaces, 5, (some .int), 3, (3146, 3144, 3145, 1002, false), mo_X9_gripPlaces)
def mo_X9_onAt : List mO := [
  (0, .iconst 0, 1, 0, 0, 0, []),
  (1, .istore 4, 2, 4, 0, 0, []),
  (3, .iconst 0, 1, 0, 0, 0, []),
  (4, .istore 5, 2, 5, 0, 0, []),
  (6, .iload 5, 2, 5, 0, 0, []),
  (8, .aload_n 0, 1, 0, 0, 0, []),
  (9, .getfield 60, 3, 913, 0, 0, []),
  (12, .if_icmp .ge 54, 3, 66, 0, 0, []),
  (15, .aload_n 0, 1, 0, 0, 0, []),
  (16, .getfield 18, 3, 902, 0, 0, []),
  (19, .iload 5, 2, 5, 0, 0, []),
  (21, .iaload, 1, 0, 0, 0, []),
  (22, .iload_n 1, 1, 1, 0, 0, []),
  (23, .if_icmp .ne 37, 3, 60, 0, 0, []),
  (26, .aload_n 0, 1, 0, 0, 0, []),
  (27, .getfield 24, 3, 904, 0, 0, []),
  (30, .iload 5, 2, 5, 0, 0, []),
  (32, .iaload, 1, 0, 0, 0, []),
  (33, .iload_n 2, 1, 2, 0, 0, []),
  (34, .if_icmp .ne 26, 3, 60, 0, 0, []),
  (37, .aload_n 0, 1, 0, 0, 0, []),
  (38, .iload 5, 2, 5, 0, 0, []),
  (40, .aload_n 0, 1, 0, 0, 0, []),
  (41, .getfield 66, 3, 915, 0, 0, []),
  (44, .iload_n 3, 1, 3, 0, 0, []),
  (45, .invokevirtual 98, 3, 69, 0, 0, []),
  (48, .ifCond .eq 12, 3, 60, 0, 0, []),
  (51, .iload 4, 2, 4, 0, 0, []),
  (53, .iconst 1, 1, 0, 1, 0, []),
  (54, .iload 5, 2, 5, 0, 0, []),
  (56, .ishl, 1, 0, 0, 0, []),
  (57, .ior, 1, 0, 0, 0, []),
  (58, .istore 4, 2, 4, 0, 0, []),
  (60, .iinc 5 1, 3, 5, 1, 0, []),
  (63, .goto (-57), 3, 6, 0, 0, []),
  (66, .iload 4, 2, 4, 0, 0, []),
  (68, .ireturn, 1, 0, 0, 0, [])]
def mm_X9_onAt : mM := (9, yX9_onAt, cX9_onAt, 6, (some .int), 4, (3156, 3154, 3155, 1002, false), mo_X9_onAt)
def mo_X9_hardestNow : List mO := [
  (0, .aload_n 0, 1, 0, 0, 0, []),
  (1, .iload_n 1, 1, 1, 0, 0, []),
  (2, .aload_n 0, 1, 0, 0, 0, []),
  (3, .getfield 9, 3, 900, 0, 0, []),
  (6, .iload_n 1, 1, 1, 0, 0, []),
  (7, .iaload, 1, 0, 0, 0, []),
  (8, .aload_n 0, 1, 0, 0, 0, []),
  (9, .getfield 72, 3, 917, 0, 0, []),
  (12, .invokevirtual 138, 3, 76, 0, 0, []),
  (15, .istore_n 2, 1, 2, 0, 0, []),
  (16, .aload_n 0, 1, 0, 0, 0, []),
  (17, .invokevirtual 131, 3, 68, 0, 0, []),
  (20, .astore_n 3, 1, 3, 0, 0, []),
  (21, .iconst 0, 1, 0, 0, 0, []),
  (22, .istore 4, 2, 4, 0, 0, []),
  (24, .iconst 0, 1, 0, 0, 0, []),
  (25, .istore 5, 2, 5, 0, 0, []),
  (27, .iload 5, 2, 5, 0, 0, []),
  (29, .aload_n 0, 1, 0, 0, 0, []),
  (30, .getfield 60, 3, 913, 0, 0, []),
  (33, .if_icmp .ge 39, 3, 72, 0, 0, []),
  (36, .iload_n 2, 1, 2, 0, 0, []),
  (37, .iload 5, 2, 5, 0, 0, []),
  (39, .invokestatic 95, 3, 146, 0, 0, []),
  (42, .ifCond .eq 24, 3, 66, 0, 0, []),
  (45, .iload 4, 2, 4, 0, 0, []),
  (47, .aload_n 0, 1, 0, 0, 0, []),
  (48, .iload 5, 2, 5, 0, 0, []),
  (50, .aload_n 0, 1, 0, 0, 0, []),
  (51, .iload 5, 2, 5, 0, 0, []),
  (53, .aload_n 3, 1, 3, 0, 0, []),
  (54, .invokevirtual 123, 3, 70, 0, 0, []),
  (57, .aload_n 3, 1, 3, 0, 0, []),
  (58, .invokevirtual 127, 3, 71, 0, 0, []),
  (61, .invokestatic 102, 3, 5001, 0, 0, []),
  (64, .istore 4, 2, 4, 0, 0, []),
  (66, .iinc 5 1, 3, 5, 1, 0, []),
  (69, .goto (-42), 3, 27, 0, 0, []),
  (72, .iload 4, 2, 4, 0, 0, []),
  (74, .ireturn, 1, 0, 0, 0, [])]
def mm_X9_hardestNow : mM := (9, yX9_hardestNow, cX9_hardestNow, 6, (some .int), 2, (3195, 3193, 3194, 1002, false), mo_X9_hardestNow)
def mo_X9_placesOfHeld : List mO := [
  (0, .iconst 0, 1, 0, 0, 0, []),
  (1, .istore_n 1, 1, 1, 0, 0, []),
  (2, .iconst 0, 1, 0, 0, 0, []),
  (3, .istore_n 2, 1, 2, 0, 0, []),
  (4, .iload_n 2, 1, 2, 0, 0, []),
  (5, .aload_n 0, 1, 0, 0, 0, []),
  (6, .getfield 56, 3, 912, 0, 0, []),
  (9, .if_icmp .ge 28, 3, 37, 0, 0, []),
  (12, .aload_n 0, 1, 0, 0, 0, []),
  (13, .iload_n 2, 1, 2, 0, 0, []),
  (14, .invokevirtual 142, 3, 74, 0, 0, []),
  (17, .ifCond .eq 14, 3, 31, 0, 0, []),
  (20, .iload_n 1, 1, 1, 0, 0, []),
  (21, .iconst 1, 1, 0, 1, 0, []),
  (22, .aload_n 0, 1, 0, 0, 0, []),
  (23, .getfield 9, 3, 900, 0, 0, []),
  (26, .iload_n 2, 1, 2, 0, 0, []),
  (27, .iaload, 1, 0, 0, 0, []),
  (28, .ishl, 1, 0, 0, 0, []),
  (29, .ior, 1, 0, 0, 0, []),
  (30, .istore_n 1, 1, 1, 0, 0, []),
  (31, .iinc 2 1, 3, 2, 1, 0, []),
  (34, .goto (-30), 3, 4, 0, 0, []),
  (37, .iload_n 1, 1, 1, 0, 0, []),
  (38, .ireturn, 1, 0, 0, 0, [])]
def mm_X9_placesOfHeld : mM := (9, yX9_placesOfHeld, cX9_placesOfHeld, 3, (some .int), 1, (4097, 4095, 4096, 1002, false), mo_X9_placesOfHeld)
def mo_X9_weightOf : List mO := [
  (0, .iconst 0, 1, 0, 0, 0, []),
  (1, .istore_n 2, 1, 2, 0, 0, []),
  (2, .iconst 0, 1, 0, 0, 0, []),
  (3, .istore_n 3, 1, 3, 0, 0, []),
  (4, .iload_n 3, 1, 3, 0, 0, []),
  (5, .aload_n 0, 1, 0, 0, 0, []),
  (6, .getfield 60, 3, 913, 0, 0, []),
  (9, .if_icmp .ge 26, 3, 35, 0, 0, []),
  (12, .iload_n 1, 1, 1, 0, 0, []),
  (13, .iload_n 3, 1, 3, 0, 0, []),
  (14, .invokestatic 95, 3, 146, 0, 0, []),
  (17, .ifCond .eq 12, 3, 29, 0, 0, []),
  (20, .iload_n 2, 1, 2, 0, 0, []),
  (21, .aload_n 0, 1, 0, 0, 0, []),
  (22, .getfield 27, 3, 905, 0, 0, []),
  (25, .iload_n 3, 1, 3, 0, 0, []),
  (26, .iaload, 1, 0, 0, 0, []),
  (27, .iadd, 1, 0, 0, 0, []),
  (28, .istore_n 2, 1, 2, 0, 0, []),
  (29, .iinc 3 1, 3, 3, 1, 0, []),
  (32, .goto (-28), 3, 4, 0, 0, []),
  (35, .iload_n 2, 1, 2, 0, 0, []),
  (36, .ireturn, 1, 0, 0, 0, [])]
def mm_X9_weightOf : mM := (9, yX9_weightOf, cX9_weightOf, 4, (some .int), 2, (3169, 3167, 3168, 1002, false), mo_X9_weightOf)
def mo_X10_thinkOf : List mO := [
  (0, .aload_n 0, 1, 0, 0, 0, []),
  (1, .iload_n 1, 1, 1, 0, 0, []),
  (2, .putfield 25, 3, 1005, 0, 0, []),
  (5, .aload_n 0, 1, 0, 0, 0, []),
  (6, .getfield 21, 3, 1000, 0, 0, []),
  (9, .invokevirtual 29, 3, 68, 0, 0, []),
  (12, .astore_n 3, 1, 3, 0, 0, []),
  (13, .iconst 0, 1, 0, 0, 0, []),
  (14, .istore 4, 2, 4, 0, 0, []),
  (16, .iload 4, 2, 4, 0, 0, []),
  (18, .iload_n 2, 1, 2, 0, 0, []),
  (19, .if_icmp .gt 54, 3, 73, 0, 0, []),
  (22, .iload 4, 2, 4, 0, 0, []),
  (24, .aload_n 0, 1, 0, 0, 0, []),
  (25, .getfield 9, 3, 1001, 0, 0, []),
  (28, .arraylength, 1, 0, 0, 0, []),
  (29, .if_icmp .ge 44, 3, 73, 0, 0, []),
  (32, .aload_n 3, 1, 3, 0, 0, []),
  (33, .aload_n 0, 1, 0, 0, 0, []),
  (34, .getfield 21, 3, 1000, 0, 0, []),
  (37, .getfield 35, 3, 917, 0, 0, []),
  (40, .iload 4, 2, 4, 0, 0, []),
  (42, .invokestatic 38, 3, 150, 0, 0, []),
  (45, .putfield 42, 3, 400, 0, 0, []),
  (48, .aload_n 0, 1, 0, 0, 0, []),
  (49, .getfield 9, 3, 1001, 0, 0, []),
  (52, .iload 4, 2, 4, 0, 0, []),
  (54, .aload_n 0, 1, 0, 0, 0, []),
  (55, .getfield 21, 3, 1000, 0, 0, []),
  (58, .aload_n 0, 1, 0, 0, 0, []),
  (59, .getfield 25, 3, 1005, 0, 0, []),
  (62, .aload_n 3, 1, 3, 0, 0, []),
  (63, .invokevirtual 45, 3, 75, 0, 0, []),
  (66, .iastore, 1, 0, 0, 0, []),
  (67, .iinc 4 1, 3, 4, 1, 0, []),
  (70, .goto (-54), 3, 16, 0, 0, []),
  (73, .return_, 1, 0, 0, 0, [])]
def mm_X10_thinkOf : mM := (10, yX10_thinkOf, cX10_thinkOf, 5, none, 3, (3137, 3136, 11, 1006, false), mo_X10_thinkOf)
def mo_X10_isHeld : List mO := [
  (0, .iload_n 2, 1, 2, 0, 0, []),
  (1, .ifCond .lt 25, 3, 26, 0, 0, []),
  (4, .iload_n 2, 1, 2, 0, 0, []),
  (5, .aload_n 0, 1, 0, 0, 0, []),
  (6, .getfield 9, 3, 1001, 0, 0, []),
  (9, .arraylength, 1, 0, 0, 0, []),
  (10, .if_icmp .ge 16, 3, 26, 0, 0, []),
  (13, .aload_n 0, 1, 0, 0, 0, []),
  (14, .getfield 9, 3, 1001, 0, 0, []),
  (17, .iload_n 2, 1, 2, 0, 0, []),
  (18, .iaload, 1, 0, 0, 0, []),
  (19, .iload_n 1, 1, 1, 0, 0, []),
  (20, .invokestatic 49, 3, 146, 0, 0, []),
  (23, .ifCond .eq 7, 3, 30, 0, 0, []),
  (26, .iconst 1, 1, 0, 1, 0, []),
  (27, .goto 4, 3, 31, 0, 0, []),
  (30, .iconst 0, 1, 0, 0, 0, []),
  (31, .ireturn, 1, 0, 0, 0, [])]
def mm_X10_isHeld : mM := (10, yX10_isHeld, cX10_isHeld, 3, (some .boolean), 3, (3160, 3159, 13, 1006, false), mo_X10_isHeld)
def mo_X10_keptAt : List mO := [
  (0, .aload_n 0, 1, 0, 0, 0, []),
  (1, .getfield 21, 3, 1000, 0, 0, []),
  (4, .aload_n 0, 1, 0, 0, 0, []),
  (5, .getfield 25, 3, 1005, 0, 0, []),
  (8, .iload_n 1, 1, 1, 0, 0, []),
  (9, .aload_n 0, 1, 0, 0, 0, []),
  (10, .getfield 21, 3, 1000, 0, 0, []),
  (13, .getfield 35, 3, 917, 0, 0, []),
  (16, .iload_n 2, 1, 2, 0, 0, []),
  (17, .invokestatic 38, 3, 150, 0, 0, []),
  (20, .invokevirtual 53, 3, 76, 0, 0, []),
  (23, .ireturn, 1, 0, 0, 0, [])]
def mm_X10_keptAt : mM := (10, yX10_keptAt, cX10_keptAt, 3, (some .int), 3, (3152, 3151, 12, 1006, false), mo_X10_keptAt)
def mo_X10_alongRoute : List mO := [
  (0, .iload_n 2, 1, 2, 0, 0, []),
  (1, .aload_n 1, 1, 1, 0, 0, []),
  (2, .invokevirtual 57, 3, 44, 0, 0, []),
  (5, .invokestatic 63, 3, 5002, 0, 0, []),
  (8, .istore 5, 2, 5, 0, 0, []),
  (10, .aload_n 0, 1, 0, 0, 0, []),
  (11, .iload_n 3, 1, 3, 0, 0, []),
  (12, .iload 5, 2, 5, 0, 0, []),
  (14, .invokevirtual 68, 3, 80, 0, 0, []),
  (17, .aload_n 0, 1, 0, 0, 0, []),
  (18, .getfield 21, 3, 1000, 0, 0, []),
  (21, .getfield 72, 3, 900, 0, 0, []),
  (24, .aload_n 0, 1, 0, 0, 0, []),
  (25, .getfield 25, 3, 1005, 0, 0, []),
  (28, .iaload, 1, 0, 0, 0, []),
  (29, .istore 6, 2, 6, 0, 0, []),
  (31, .iconst 0, 1, 0, 0, 0, []),
  (32, .istore 7, 2, 7, 0, 0, []),
  (34, .aload_n 0, 1, 0, 0, 0, []),
  (35, .iload 6, 2, 6, 0, 0, []),
  (37, .iconst 0, 1, 0, 0, 0, []),
  (38, .invokevirtual 75, 3, 82, 0, 0, []),
  (41, .istore 8, 2, 8, 0, 0, []),
  (43, .iconst 0, 1, 0, 0, 0, []),
  (44, .istore 9, 2, 9, 0, 0, []),
  (46, .iload 9, 2, 9, 0, 0, []),
  (48, .iload 5, 2, 5, 0, 0, []),
  (50, .if_icmp .ge 54, 3, 104, 0, 0, []),
  (53, .aload_n 0, 1, 0, 0, 0, []),
  (54, .iload 6, 2, 6, 0, 0, []),
  (56, .iload 9, 2, 9, 0, 0, []),
  (58, .invokevirtual 78, 3, 81, 0, 0, []),
  (61, .ifCond .eq 9, 3, 70, 0, 0, []),
  (64, .iinc 7 1, 3, 7, 1, 0, []),
  (67, .goto 16, 3, 83, 0, 0, []),
  (70, .iload 6, 2, 6, 0, 0, []),
  (72, .aload_n 1, 1, 1, 0, 0, []),
  (73, .iload 9, 2, 9, 0, 0, []),
  (75, .invokevirtual 81, 3, 42, 0, 0, []),
  (78, .invokestatic 85, 3, 151, 0, 0, []),
  (81, .istore 6, 2, 6, 0, 0, []),
  (83, .iload 8, 2, 8, 0, 0, []),
  (85, .aload_n 0, 1, 0, 0, 0, []),
  (86, .iload 6, 2, 6, 0, 0, []),
  (88, .iload 9, 2, 9, 0, 0, []),
  (90, .iconst 1, 1, 0, 1, 0, []),
  (91, .iadd, 1, 0, 0, 0, []),
  (92, .invokevirtual 75, 3, 82, 0, 0, []),
  (95, .ior, 1, 0, 0, 0, []),
  (96, .istore 8, 2, 8, 0, 0, []),
  (98, .iinc 9 1, 3, 9, 1, 0, []),
  (101, .goto (-55), 3, 46, 0, 0, []),
  (104, .iload 4, 2, 4, 0, 0, []),
  (106, .tableswitch 42 0 2 #[26, 29, 32], 26, 148, 0, 0, [(0, 132), (1, 135), (2, 138)]),
  (132, .iload 6, 2, 6, 0, 0, []),
  (134, .ireturn, 1, 0, 0, 0, []),
  (135, .iload 7, 2, 7, 0, 0, []),
  (137, .ireturn, 1, 0, 0, 0, []),
  (138, .aload_n 0, 1, 0, 0, 0, []),
  (139, .getfield 21, 3, 1000, 0, 0, []),
  (142, .iload 8, 2, 8, 0, 0, []),
  (144, .invokevirtual 88, 3, 79, 0, 0, []),
  (147, .ireturn, 1, 0, 0, 0, []),
  (148, .iload 8, 2, 8, 0, 0, []),
  (150, .ireturn, 1, 0, 0, 0, [])]
def mm_X10_alongRoute : mM := (10, yX10_alongRoute, cX10_alongRoute, 10, (some .int), 5, (3127, 3125, 3126, 1006, false), mo_X10_alongRoute)
def mo_X10_bestSteps : List mO := [
  (0, .aload_n 0, 1, 0, 0, 0, []),
  (1, .iload_n 1, 1, 1, 0, 0, []),
  (2, .iload_n 2, 1, 2, 0, 0, []),
  (3, .invokevirtual 68, 3, 80, 0, 0, []),
  (6, .aload_n 0, 1, 0, 0, 0, []),
  (7, .iconst (-1), 1, 0, (-1), 0, []),
  (8, .putfield 91, 3, 1004, 0, 0, []),
  (11, .aload_n 0, 1, 0, 0, 0, []),
  (12, .getfield 21, 3, 1000, 0, 0, []),
  (15, .getfield 72, 3, 900, 0, 0, []),
  (18, .aload_n 0, 1, 0, 0, 0, []),
  (19, .getfield 25, 3, 1005, 0, 0, []),
  (22, .iaload, 1, 0, 0, 0, []),
  (23, .istore 4, 2, 4, 0, 0, []),
  (25, .aload_n 0, 1, 0, 0, 0, []),
  (26, .iload 4, 2, 4, 0, 0, []),
  (28, .aload_n 0, 1, 0, 0, 0, []),
  (29, .iload 4, 2, 4, 0, 0, []),
  (31, .iconst 0, 1, 0, 0, 0, []),
  (32, .invokevirtual 75, 3, 82, 0, 0, []),
  (35, .iconst 0, 1, 0, 0, 0, []),
  (36, .iload_n 2, 1, 2, 0, 0, []),
  (37, .invokevirtual 94, 3, 85, 0, 0, []),
  (40, .iload_n 3, 1, 3, 0, 0, []),
  (41, .ifCond .lt 17, 3, 58, 0, 0, []),
  (44, .iload_n 3, 1, 3, 0, 0, []),
  (45, .iconst 4, 1, 0, 4, 0, []),
  (46, .if_icmp .ge 12, 3, 58, 0, 0, []),
  (49, .aload_n 0, 1, 0, 0, 0, []),
  (50, .getfield 18, 3, 1003, 0, 0, []),
  (53, .iload_n 3, 1, 3, 0, 0, []),
  (54, .iaload, 1, 0, 0, 0, []),
  (55, .goto 7, 3, 62, 0, 0, []),
  (58, .aload_n 0, 1, 0, 0, 0, []),
  (59, .getfield 91, 3, 1004, 0, 0, []),
  (62, .ireturn, 1, 0, 0, 0, [])]
def mm_X10_bestSteps : mM := (10, yX10_bestSteps, cX10_bestSteps, 5, (some .int), 4, (3204, 3202, 3203, 1006, false), mo_X10_bestSteps)
def mo_X10_tryWays : List mO := [
  (0, .iload_n 3, 1, 3, 0, 0, []),
  (1, .iload 4, 2, 4, 0, 0, []),
  (3, .if_icmp .ge 8, 3, 11, 0, 0, []),
  (6, .iload_n 3, 1, 3, 0, 0, []),
  (7, .iconst 4, 1, 0, 4, 0, []),
  (8, .if_icmp .lt 16, 3, 24, 0, 0, []),
  (11, .aload_n 0, 1, 0, 0, 0, []),
  (12, .aload_n 0, 1, 0, 0, 0, []),
  (13, .getfield 21, 3, 1000, 0, 0, []),
  (16, .iload_n 2, 1, 2, 0, 0, []),
  (17, .invokevirtual 88, 3, 79, 0, 0, []),
  (20, .invokevirtual 98, 3, 86, 0, 0, []),
  (23, .return_, 1, 0, 0, 0, []),
  (24, .aload_n 0, 1, 0, 0, 0, []),
  (25, .iload_n 1, 1, 1, 0, 0, []),
  (26, .iload_n 3, 1, 3, 0, 0, []),
  (27, .invokevirtual 78, 3, 81, 0, 0, []),
  (30, .ifCond .eq 7, 3, 37, 0, 0, []),
  (33, .iconst 1, 1, 0, 1, 0, []),
  (34, .goto 4, 3, 38, 0, 0, []),
  (37, .iconst 5, 1, 0, 5, 0, []),
  (38, .istore 5, 2, 5, 0, 0, []),
  (40, .iconst 0, 1, 0, 0, 0, []),
  (41, .istore 6, 2, 6, 0, 0, []),
  (43, .iload 6, 2, 6, 0, 0, []),
  (45, .iload 5, 2, 5, 0, 0, []),
  (47, .if_icmp .ge 57, 3, 104, 0, 0, []),
  (50, .iload 5, 2, 5, 0, 0, []),
  (52, .iconst 1, 1, 0, 1, 0, []),
  (53, .if_icmp .ne 7, 3, 60, 0, 0, []),
  (56, .iload_n 1, 1, 1, 0, 0, []),
  (57, .goto 9, 3, 66, 0, 0, []),
  (60, .iload_n 1, 1, 1, 0, 0, []),
  (61, .iload 6, 2, 6, 0, 0, []),
  (63, .invokestatic 85, 3, 151, 0, 0, []),
  (66, .istore 7, 2, 7, 0, 0, []),
  (68, .aload_n 0, 1, 0, 0, 0, []),
  (69, .getfield 15, 3, 1002, 0, 0, []),
  (72, .iload_n 3, 1, 3, 0, 0, []),
  (73, .iload 6, 2, 6, 0, 0, []),
  (75, .iastore, 1, 0, 0, 0, []),
  (76, .aload_n 0, 1, 0, 0, 0, []),
  (77, .iload 7, 2, 7, 0, 0, []),
  (79, .iload_n 2, 1, 2, 0, 0, []),
  (80, .aload_n 0, 1, 0, 0, 0, []),
  (81, .iload 7, 2, 7, 0, 0, []),
  (83, .iload_n 3, 1, 3, 0, 0, []),
  (84, .iconst 1, 1, 0, 1, 0, []),
  (85, .iadd, 1, 0, 0, 0, []),
  (86, .invokevirtual 75, 3, 82, 0, 0, []),
  (89, .ior, 1, 0, 0, 0, []),
  (90, .iload_n 3, 1, 3, 0, 0, []),
  (91, .iconst 1, 1, 0, 1, 0, []),
  (92, .iadd, 1, 0, 0, 0, []),
  (93, .iload 4, 2, 4, 0, 0, []),
  (95, .invokevirtual 94, 3, 85, 0, 0, []),
  (98, .iinc 6 1, 3, 6, 1, 0, []),
  (101, .goto (-58), 3, 43, 0, 0, []),
  (104, .return_, 1, 0, 0, 0, [])]
def mm_X10_tryWays : mM := (10, yX10_tryWays, cX10_tryWays, 8, none, 5, (3208, 3207, 14, 1006, false), mo_X10_tryWays)
def mo_X10_takeIfBetter : List mO := [
  (0, .iload_n 1, 1, 1, 0, 0, []),
  (1, .aload_n 0, 1, 0, 0, 0, []),
  (2, .getfield 91, 3, 1004, 0, 0, []),
  (5, .if_icmp .gt 4, 3, 9, 0, 0, []),
  (8, .return_, 1, 0, 0, 0, []),
  (9, .aload_n 0, 1, 0, 0, 0, []),
  (10, .iload_n 1, 1, 1, 0, 0, []),
  (11, .putfield 91, 3, 1004, 0, 0, []),
  (14, .iconst 0, 1, 0, 0, 0, []),
  (15, .istore_n 2, 1, 2, 0, 0, []),
  (16, .iload_n 2, 1, 2, 0, 0, []),
  (17, .iconst 4, 1, 0, 4, 0, []),
  (18, .if_icmp .ge 21, 3, 39, 0, 0, []),
  (21, .aload_n 0, 1, 0, 0, 0, []),
  (22, .getfield 18, 3, 1003, 0, 0, []),
  (25, .iload_n 2, 1, 2, 0, 0, []),
  (26, .aload_n 0, 1, 0, 0, 0, []),
  (27, .getfield 15, 3, 1002, 0, 0, []),
  (30, .iload_n 2, 1, 2, 0, 0, []),
  (31, .iaload, 1, 0, 0, 0, []),
  (32, .iastore, 1, 0, 0, 0, []),
  (33, .iinc 2 1, 3, 2, 1, 0, []),
  (36, .goto (-20), 3, 16, 0, 0, []),
  (39, .return_, 1, 0, 0, 0, [])]
def mm_X10_takeIfBetter : mM := (10, yX10_takeIfBetter, cX10_takeIfBetter, 3, none, 2, (3212, 3211, 15, 1006, false), mo_X10_takeIfBetter)
def mo_X10_daysTo : List mO := [
  (0, .aload_n 0, 1, 0, 0, 0, []),
  (1, .iload_n 1, 1, 1, 0, 0, []),
  (2, .bipush 20, 2, 0, 20, 0, []),
  (4, .invokevirtual 68, 3, 80, 0, 0, []),
  (7, .iconst 1, 1, 0, 1, 0, []),
  (8, .aload_n 0, 1, 0, 0, 0, []),
  (9, .getfield 21, 3, 1000, 0, 0, []),
  (12, .getfield 72, 3, 900, 0, 0, []),
  (15, .aload_n 0, 1, 0, 0, 0, []),
  (16, .getfield 25, 3, 1005, 0, 0, []),
  (19, .iaload, 1, 0, 0, 0, []),
  (20, .ishl, 1, 0, 0, 0, []),
  (21, .istore_n 3, 1, 3, 0, 0, []),
  (22, .iconst 0, 1, 0, 0, 0, []),
  (23, .istore 4, 2, 4, 0, 0, []),
  (25, .iload 4, 2, 4, 0, 0, []),
  (27, .bipush 20, 2, 0, 20, 0, []),
  (29, .if_icmp .gt 32, 3, 61, 0, 0, []),
  (32, .iload_n 3, 1, 3, 0, 0, []),
  (33, .iload_n 2, 1, 2, 0, 0, []),
  (34, .invokestatic 49, 3, 146, 0, 0, []),
  (37, .ifCond .eq 6, 3, 43, 0, 0, []),
  (40, .iload 4, 2, 4, 0, 0, []),
  (42, .ireturn, 1, 0, 0, 0, []),
  (43, .iload_n 3, 1, 3, 0, 0, []),
  (44, .aload_n 0, 1, 0, 0, 0, []),
  (45, .getfield 9, 3, 1001, 0, 0, []),
  (48, .iload 4, 2, 4, 0, 0, []),
  (50, .iaload, 1, 0, 0, 0, []),
  (51, .invokestatic 102, 3, 153, 0, 0, []),
  (54, .istore_n 3, 1, 3, 0, 0, []),
  (55, .iinc 4 1, 3, 4, 1, 0, []),
  (58, .goto (-33), 3, 25, 0, 0, []),
  (61, .bipush (-2), 2, 0, (-2), 0, []),
  (63, .ireturn, 1, 0, 0, 0, [])]
def mm_X10_daysTo : mM := (10, yX10_daysTo, cX10_daysTo, 5, (some .int), 3, (3220, 3218, 3219, 1006, false), mo_X10_daysTo)
def mo_X10_neverKept : List mO := [
  (0, .aload_n 0, 1, 0, 0, 0, []),
  (1, .iload_n 1, 1, 1, 0, 0, []),
  (2, .iload_n 2, 1, 2, 0, 0, []),
  (3, .invokevirtual 68, 3, 80, 0, 0, []),
  (6, .iconst 0, 1, 0, 0, 0, []),
  (7, .istore_n 3, 1, 3, 0, 0, []),
  (8, .iconst 0, 1, 0, 0, 0, []),
  (9, .istore 4, 2, 4, 0, 0, []),
  (11, .iload 4, 2, 4, 0, 0, []),
  (13, .aload_n 0, 1, 0, 0, 0, []),
  (14, .getfield 21, 3, 1000, 0, 0, []),
  (17, .getfield 105, 3, 913, 0, 0, []),
  (20, .if_icmp .ge 48, 3, 68, 0, 0, []),
  (23, .aload_n 0, 1, 0, 0, 0, []),
  (24, .getfield 21, 3, 1000, 0, 0, []),
  (27, .getfield 108, 3, 902, 0, 0, []),
  (30, .iload 4, 2, 4, 0, 0, []),
  (32, .iaload, 1, 0, 0, 0, []),
  (33, .aload_n 0, 1, 0, 0, 0, []),
  (34, .getfield 25, 3, 1005, 0, 0, []),
  (37, .if_icmp .ne 25, 3, 62, 0, 0, []),
  (40, .aload_n 0, 1, 0, 0, 0, []),
  (41, .getfield 21, 3, 1000, 0, 0, []),
  (44, .getfield 111, 3, 915, 0, 0, []),
  (47, .iload 4, 2, 4, 0, 0, []),
  (49, .invokestatic 49, 3, 146, 0, 0, []),
  (52, .ifCond .ne 10, 3, 62, 0, 0, []),
  (55, .iload_n 3, 1, 3, 0, 0, []),
  (56, .iconst 1, 1, 0, 1, 0, []),
  (57, .iload 4, 2, 4, 0, 0, []),
  (59, .ishl, 1, 0, 0, 0, []),
  (60, .ior, 1, 0, 0, 0, []),
  (61, .istore_n 3, 1, 3, 0, 0, []),
  (62, .iinc 4 1, 3, 4, 1, 0, []),
  (65, .goto (-54), 3, 11, 0, 0, []),
  (68, .iconst 1, 1, 0, 1, 0, []),
  (69, .aload_n 0, 1, 0, 0, 0, []),
  (70, .getfield 21, 3, 1000, 0, 0, []),
  (73, .getfield 72, 3, 900, 0, 0, []),
  (76, .aload_n 0, 1, 0, 0, 0, []),
  (77, .getfield 25, 3, 1005, 0, 0, []),
  (80, .iaload, 1, 0, 0, 0, []),
  (81, .ishl, 1, 0, 0, 0, []),
  (82, .istore 4, 2, 4, 0, 0, []),
  (84, .iconst 0, 1, 0, 0, 0, []),
  (85, .istore 5, 2, 5, 0, 0, []),
  (87, .iload 5, 2, 5, 0, 0, []),
  (89, .iload_n 2, 1, 2, 0, 0, []),
  (90, .if_icmp .gt 46, 3, 136, 0, 0, []),
  (93, .iload 5, 2, 5, 0, 0, []),
  (95, .aload_n 0, 1, 0, 0, 0, []),
  (96, .getfield 9, 3, 1001, 0, 0, []),
  (99, .arraylength, 1, 0, 0, 0, []),
  (100, .if_icmp .ge 36, 3, 136, 0, 0, []),
  (103, .iload_n 3, 1, 3, 0, 0, []),
  (104, .aload_n 0, 1, 0, 0, 0, []),
  (105, .iload 4, 2, 4, 0, 0, []),
  (107, .iload 5, 2, 5, 0, 0, []),
  (109, .invokevirtual 114, 3, 89, 0, 0, []),
  (112, .iconst (-1), 1, 0, (-1), 0, []),
  (113, .ixor, 1, 0, 0, 0, []),
  (114, .iand, 1, 0, 0, 0, []),
  (115, .istore_n 3, 1, 3, 0, 0, []),
  (116, .iload 4, 2, 4, 0, 0, []),
  (118, .aload_n 0, 1, 0, 0, 0, []),
  (119, .getfield 9, 3, 1001, 0, 0, []),
  (122, .iload 5, 2, 5, 0, 0, []),
  (124, .iaload, 1, 0, 0, 0, []),
  (125, .invokestatic 102, 3, 153, 0, 0, []),
  (128, .istore 4, 2, 4, 0, 0, []),
  (130, .iinc 5 1, 3, 5, 1, 0, []),
  (133, .goto (-46), 3, 87, 0, 0, []),
  (136, .iload_n 3, 1, 3, 0, 0, []),
  (137, .ireturn, 1, 0, 0, 0, [])]
def mm_X10_neverKept : mM := (10, yX10_neverKept, cX10_neverKept, 6, (some .int), 3, (4136, 4134, 4135, 1006, false), mo_X10_neverKept)
def mo_X10_onAtAny : List mO := [
  (0, .iconst 0, 1, 0, 0, 0, []),
  (1, .istore_n 3, 1, 3, 0, 0, []),
  (2, .aload_n 0, 1, 0, 0, 0, []),
  (3, .getfield 21, 3, 1000, 0, 0, []),
  (6, .getfield 35, 3, 917, 0, 0, []),
  (9, .iload_n 2, 1, 2, 0, 0, []),
  (10, .invokestatic 38, 3, 150, 0, 0, []),
  (13, .istore 4, 2, 4, 0, 0, []),
  (15, .iconst 0, 1, 0, 0, 0, []),
  (16, .istore 5, 2, 5, 0, 0, []),
  (18, .iload 5, 2, 5, 0, 0, []),
  (20, .aload_n 0, 1, 0, 0, 0, []),
  (21, .getfield 21, 3, 1000, 0, 0, []),
  (24, .getfield 105, 3, 913, 0, 0, []),
  (27, .if_icmp .ge 54, 3, 81, 0, 0, []),
  (30, .iload_n 1, 1, 1, 0, 0, []),
  (31, .aload_n 0, 1, 0, 0, 0, []),
  (32, .getfield 21, 3, 1000, 0, 0, []),
  (35, .getfield 117, 3, 904, 0, 0, []),
  (38, .iload 5, 2, 5, 0, 0, []),
  (40, .iaload, 1, 0, 0, 0, []),
  (41, .invokestatic 49, 3, 146, 0, 0, []),
  (44, .ifCond .eq 31, 3, 75, 0, 0, []),
  (47, .aload_n 0, 1, 0, 0, 0, []),
  (48, .getfield 21, 3, 1000, 0, 0, []),
  (51, .iload 5, 2, 5, 0, 0, []),
  (53, .aload_n 0, 1, 0, 0, 0, []),
  (54, .getfield 21, 3, 1000, 0, 0, []),
  (57, .getfield 111, 3, 915, 0, 0, []),
  (60, .iload 4, 2, 4, 0, 0, []),
  (62, .invokevirtual 120, 3, 69, 0, 0, []),
  (65, .ifCond .eq 10, 3, 75, 0, 0, []),
  (68, .iload_n 3, 1, 3, 0, 0, []),
  (69, .iconst 1, 1, 0, 1, 0, []),
  (70, .iload 5, 2, 5, 0, 0, []),
  (72, .ishl, 1, 0, 0, 0, []),
  (73, .ior, 1, 0, 0, 0, []),
  (74, .istore_n 3, 1, 3, 0, 0, []),
  (75, .iinc 5 1, 3, 5, 1, 0, []),
  (78, .goto (-60), 3, 18, 0, 0, []),
  (81, .iload_n 3, 1, 3, 0, 0, []),
  (82, .ireturn, 1, 0, 0, 0, [])]
def mm_X10_onAtAny : mM := (10, yX10_onAtAny, cX10_onAtAny, 6, (some .int), 3, (4140, 4139, 25, 1006, false), mo_X10_onAtAny)
def mo_X10_firstWrong : List mO := [
  (0, .aload_n 1, 1, 1, 0, 0, []),
  (1, .invokevirtual 57, 3, 44, 0, 0, []),
  (4, .istore 4, 2, 4, 0, 0, []),
  (6, .bipush 31, 2, 0, 31, 0, []),
  (8, .aload_n 2, 1, 2, 0, 0, []),
  (9, .getfield 124, 3, 703, 0, 0, []),
  (12, .invokestatic 63, 3, 5002, 0, 0, []),
  (15, .istore 5, 2, 5, 0, 0, []),
  (17, .aload_n 0, 1, 0, 0, 0, []),
  (18, .iload_n 3, 1, 3, 0, 0, []),
  (19, .iload 4, 2, 4, 0, 0, []),
  (21, .invokevirtual 68, 3, 80, 0, 0, []),
  (24, .aload_n 0, 1, 0, 0, 0, []),
  (25, .getfield 21, 3, 1000, 0, 0, []),
  (28, .getfield 72, 3, 900, 0, 0, []),
  (31, .aload_n 0, 1, 0, 0, 0, []),
  (32, .getfield 25, 3, 1005, 0, 0, []),
  (35, .iaload, 1, 0, 0, 0, []),
  (36, .istore 6, 2, 6, 0, 0, []),
  (38, .iconst 0, 1, 0, 0, 0, []),
  (39, .istore 7, 2, 7, 0, 0, []),
  (41, .iload 7, 2, 7, 0, 0, []),
  (43, .iload 5, 2, 5, 0, 0, []),
  (45, .if_icmp .ge 67, 3, 112, 0, 0, []),
  (48, .iload 7, 2, 7, 0, 0, []),
  (50, .iload 4, 2, 4, 0, 0, []),
  (52, .if_icmp .gt 20, 3, 72, 0, 0, []),
  (55, .aload_n 2, 1, 2, 0, 0, []),
  (56, .iload 7, 2, 7, 0, 0, []),
  (58, .invokevirtual 81, 3, 42, 0, 0, []),
  (61, .invokestatic 127, 3, 92, 0, 0, []),
  (64, .iload 6, 2, 6, 0, 0, []),
  (66, .invokestatic 49, 3, 146, 0, 0, []),
  (69, .ifCond .ne 6, 3, 75, 0, 0, []),
  (72, .iload 7, 2, 7, 0, 0, []),
  (74, .ireturn, 1, 0, 0, 0, []),
  (75, .iload 7, 2, 7, 0, 0, []),
  (77, .iload 4, 2, 4, 0, 0, []),
  (79, .if_icmp .ge 27, 3, 106, 0, 0, []),
  (82, .aload_n 0, 1, 0, 0, 0, []),
  (83, .iload 6, 2, 6, 0, 0, []),
  (85, .iload 7, 2, 7, 0, 0, []),
  (87, .invokevirtual 78, 3, 81, 0, 0, []),
  (90, .ifCond .ne 16, 3, 106, 0, 0, []),
  (93, .iload 6, 2, 6, 0, 0, []),
  (95, .aload_n 1, 1, 1, 0, 0, []),
  (96, .iload 7, 2, 7, 0, 0, []),
  (98, .invokevirtual 81, 3, 42, 0, 0, []),
  (101, .invokestatic 85, 3, 151, 0, 0, []),
  (104, .istore 6, 2, 6, 0, 0, []),
  (106, .iinc 7 1, 3, 7, 1, 0, []),
  (109, .goto (-68), 3, 41, 0, 0, []),
  (112, .bipush (-2), 2, 0, (-2), 0, []),
  (114, .ireturn, 1, 0, 0, 0, [])]
def mm_X10_firstWrong : mM := (10, yX10_firstWrong, cX10_firstWrong, 8, (some .int), 4, (4072, 4070, 4071, 1006, false), mo_X10_firstWrong)
def mo_X10_fits : List mO := [
  (0, .bipush 31, 2, 0, 31, 0, []),
  (2, .aload_n 1, 1, 1, 0, 0, []),
  (3, .getfield 124, 3, 703, 0, 0, []),
  (6, .invokestatic 63, 3, 5002, 0, 0, []),
  (9, .istore_n 3, 1, 3, 0, 0, []),
  (10, .aload_n 0, 1, 0, 0, 0, []),
  (11, .iload_n 2, 1, 2, 0, 0, []),
  (12, .iload_n 3, 1, 3, 0, 0, []),
  (13, .invokevirtual 68, 3, 80, 0, 0, []),
  (16, .iconst 1, 1, 0, 1, 0, []),
  (17, .aload_n 0, 1, 0, 0, 0, []),
  (18, .getfield 21, 3, 1000, 0, 0, []),
  (21, .getfield 72, 3, 900, 0, 0, []),
  (24, .aload_n 0, 1, 0, 0, 0, []),
  (25, .getfield 25, 3, 1005, 0, 0, []),
  (28, .iaload, 1, 0, 0, 0, []),
  (29, .ishl, 1, 0, 0, 0, []),
  (30, .istore 4, 2, 4, 0, 0, []),
  (32, .iconst 0, 1, 0, 0, 0, []),
  (33, .istore 5, 2, 5, 0, 0, []),
  (35, .iload 5, 2, 5, 0, 0, []),
  (37, .iload_n 3, 1, 3, 0, 0, []),
  (38, .if_icmp .ge 37, 3, 75, 0, 0, []),
  (41, .iload 4, 2, 4, 0, 0, []),
  (43, .aload_n 1, 1, 1, 0, 0, []),
  (44, .iload 5, 2, 5, 0, 0, []),
  (46, .invokevirtual 81, 3, 42, 0, 0, []),
  (49, .invokestatic 127, 3, 92, 0, 0, []),
  (52, .iand, 1, 0, 0, 0, []),
  (53, .istore 4, 2, 4, 0, 0, []),
  (55, .iload 4, 2, 4, 0, 0, []),
  (57, .aload_n 0, 1, 0, 0, 0, []),
  (58, .getfield 9, 3, 1001, 0, 0, []),
  (61, .iload 5, 2, 5, 0, 0, []),
  (63, .iaload, 1, 0, 0, 0, []),
  (64, .invokestatic 102, 3, 153, 0, 0, []),
  (67, .istore 4, 2, 4, 0, 0, []),
  (69, .iinc 5 1, 3, 5, 1, 0, []),
  (72, .goto (-37), 3, 35, 0, 0, []),
  (75, .iload 4, 2, 4, 0, 0, []),
  (77, .ifCond .eq 7, 3, 84, 0, 0, []),
  (80, .iconst 1, 1, 0, 1, 0, []),
  (81, .goto 4, 3, 85, 0, 0, []),
  (84, .iconst 0, 1, 0, 0, 0, []),
  (85, .ireturn, 1, 0, 0, 0, [])]
def mm_X10_fits : mM := (10, yX10_fits, cX10_fits, 6, (some .boolean), 3, (4085, 4083, 4084, 1006, false), mo_X10_fits)
def mo_X10_placesSeen : List mO := [
  (0, .iload_n 0, 1, 0, 0, 0, []),
  (1, .bipush 99, 2, 0, 99, 0, []),
  (3, .if_icmp .ne 6, 3, 9, 0, 0, []),
  (6, .ldc 130, 2, 4076, 33554431, 0, []),
  (8, .ireturn, 1, 0, 0, 0, []),
  (9, .iload_n 0, 1, 0, 0, 0, []),
  (10, .invokestatic 131, 3, 147, 0, 0, []),
  (13, .ifCond .eq 9, 3, 22, 0, 0, []),
  (16, .iconst 1, 1, 0, 1, 0, []),
  (17, .iload_n 0, 1, 0, 0, 0, []),
  (18, .ishl, 1, 0, 0, 0, []),
  (19, .goto 4, 3, 23, 0, 0, []),
  (22, .iconst 0, 1, 0, 0, 0, []),
  (23, .ireturn, 1, 0, 0, 0, [])]
def mm_X10_placesSeen : mM := (10, yX10_placesSeen, cX10_placesSeen, 1, (some .int), 1, (4075, 4074, 0, 1006, true), mo_X10_placesSeen)
def mo_X10_withChild : List mO := [
  (0, .aload_n 0, 1, 0, 0, 0, []),
  (1, .iload_n 3, 1, 3, 0, 0, []),
  (2, .putfield 135, 3, 1006, 0, 0, []),
  (5, .aload_n 0, 1, 0, 0, 0, []),
  (6, .iload_n 1, 1, 1, 0, 0, []),
  (7, .iload_n 2, 1, 2, 0, 0, []),
  (8, .invokevirtual 138, 3, 94, 0, 0, []),
  (11, .aload_n 0, 1, 0, 0, 0, []),
  (12, .getfield 21, 3, 1000, 0, 0, []),
  (15, .getfield 72, 3, 900, 0, 0, []),
  (18, .iload_n 1, 1, 1, 0, 0, []),
  (19, .iaload, 1, 0, 0, 0, []),
  (20, .istore 6, 2, 6, 0, 0, []),
  (22, .iconst 4, 1, 0, 4, 0, []),
  (23, .istore 7, 2, 7, 0, 0, []),
  (25, .aload_n 0, 1, 0, 0, 0, []),
  (26, .iload 6, 2, 6, 0, 0, []),
  (28, .iconst 1, 1, 0, 1, 0, []),
  (29, .iconst 0, 1, 0, 0, 0, []),
  (30, .iload 4, 2, 4, 0, 0, []),
  (32, .iconst 1, 1, 0, 1, 0, []),
  (33, .isub, 1, 0, 0, 0, []),
  (34, .invokevirtual 141, 3, 96, 0, 0, []),
  (37, .istore 8, 2, 8, 0, 0, []),
  (39, .aload_n 0, 1, 0, 0, 0, []),
  (40, .iload 6, 2, 6, 0, 0, []),
  (42, .iconst 0, 1, 0, 0, 0, []),
  (43, .invokevirtual 78, 3, 81, 0, 0, []),
  (46, .ifCond .eq 7, 3, 53, 0, 0, []),
  (49, .iconst 0, 1, 0, 0, 0, []),
  (50, .goto 4, 3, 54, 0, 0, []),
  (53, .iconst 4, 1, 0, 4, 0, []),
  (54, .istore 9, 2, 9, 0, 0, []),
  (56, .iconst 0, 1, 0, 0, 0, []),
  (57, .istore 10, 2, 10, 0, 0, []),
  (59, .iload 10, 2, 10, 0, 0, []),
  (61, .iload 9, 2, 9, 0, 0, []),
  (63, .if_icmp .ge 53, 3, 116, 0, 0, []),
  (66, .aload_n 0, 1, 0, 0, 0, []),
  (67, .iload 6, 2, 6, 0, 0, []),
  (69, .iload 10, 2, 10, 0, 0, []),
  (71, .invokestatic 85, 3, 151, 0, 0, []),
  (74, .iconst 1, 1, 0, 1, 0, []),
  (75, .iconst 0, 1, 0, 0, 0, []),
  (76, .iload 4, 2, 4, 0, 0, []),
  (78, .iconst 1, 1, 0, 1, 0, []),
  (79, .isub, 1, 0, 0, 0, []),
  (80, .invokevirtual 141, 3, 96, 0, 0, []),
  (83, .istore 11, 2, 11, 0, 0, []),
  (85, .iload 11, 2, 11, 0, 0, []),
  (87, .iload 8, 2, 8, 0, 0, []),
  (89, .if_icmp .ge 8, 3, 97, 0, 0, []),
  (92, .iload 10, 2, 10, 0, 0, []),
  (94, .goto 5, 3, 99, 0, 0, []),
  (97, .iload 7, 2, 7, 0, 0, []),
  (99, .istore 7, 2, 7, 0, 0, []),
  (101, .iload 8, 2, 8, 0, 0, []),
  (103, .iload 11, 2, 11, 0, 0, []),
  (105, .invokestatic 63, 3, 5002, 0, 0, []),
  (108, .istore 8, 2, 8, 0, 0, []),
  (110, .iinc 10 1, 3, 10, 1, 0, []),
  (113, .goto (-54), 3, 59, 0, 0, []),
  (116, .iload 5, 2, 5, 0, 0, []),
  (118, .ifCond .ne 8, 3, 126, 0, 0, []),
  (121, .iload 8, 2, 8, 0, 0, []),
  (123, .goto 5, 3, 128, 0, 0, []),
  (126, .iload 7, 2, 7, 0, 0, []),
  (128, .ireturn, 1, 0, 0, 0, [])]
def mm_X10_withChild : mM := (10, yX10_withChild, cX10_withChild, 12, (some .int), 6, (4149, 4147, 4148, 1006, false), mo_X10_withChild)
def mo_X10_thinkOfTurns : List mO := [
  (0, .iconst 0, 1, 0, 0, 0, []),
  (1, .istore_n 3, 1, 3, 0, 0, []),
  (2, .iconst 0, 1, 0, 0, 0, []),
  (3, .istore 4, 2, 4, 0, 0, []),
  (5, .iload 4, 2, 4, 0, 0, []),
  (7, .aload_n 0, 1, 0, 0, 0, []),
  (8, .getfield 21, 3, 1000, 0, 0, []),
  (11, .getfield 105, 3, 913, 0, 0, []),
  (14, .if_icmp .ge 45, 3, 59, 0, 0, []),
  (17, .aload_n 0, 1, 0, 0, 0, []),
  (18, .getfield 21, 3, 1000, 0, 0, []),
  (21, .getfield 145, 3, 903, 0, 0, []),
  (24, .iload 4, 2, 4, 0, 0, []),
  (26, .iaload, 1, 0, 0, 0, []),
  (27, .iload_n 2, 1, 2, 0, 0, []),
  (28, .if_icmp .ne 25, 3, 53, 0, 0, []),
  (31, .aload_n 0, 1, 0, 0, 0, []),
  (32, .getfield 21, 3, 1000, 0, 0, []),
  (35, .getfield 148, 3, 914, 0, 0, []),
  (38, .iload 4, 2, 4, 0, 0, []),
  (40, .invokestatic 49, 3, 146, 0, 0, []),
  (43, .ifCond .ne 10, 3, 53, 0, 0, []),
  (46, .iload_n 3, 1, 3, 0, 0, []),
  (47, .iconst 1, 1, 0, 1, 0, []),
  (48, .iload 4, 2, 4, 0, 0, []),
  (50, .ishl, 1, 0, 0, 0, []),
  (51, .ior, 1, 0, 0, 0, []),
  (52, .istore_n 3, 1, 3, 0, 0, []),
  (53, .iinc 4 1, 3, 4, 1, 0, []),
  (56, .goto (-51), 3, 5, 0, 0, []),
  (59, .aload_n 0, 1, 0, 0, 0, []),
  (60, .iconst 2, 1, 0, 2, 0, []),
  (61, .iload_n 3, 1, 3, 0, 0, []),
  (62, .invokestatic 151, 3, 278, 0, 0, []),
  (65, .invokestatic 63, 3, 5002, 0, 0, []),
  (68, .putfield 156, 3, 1007, 0, 0, []),
  (71, .aload_n 0, 1, 0, 0, 0, []),
  (72, .getfield 21, 3, 1000, 0, 0, []),
  (75, .invokevirtual 29, 3, 68, 0, 0, []),
  (78, .astore 4, 2, 4, 0, 0, []),
  (80, .iconst 0, 1, 0, 0, 0, []),
  (81, .istore 5, 2, 5, 0, 0, []),
  (83, .iload 5, 2, 5, 0, 0, []),
  (85, .aload_n 0, 1, 0, 0, 0, []),
  (86, .getfield 156, 3, 1007, 0, 0, []),
  (89, .if_icmp .gt 89, 3, 178, 0, 0, []),
  (92, .iload 5, 2, 5, 0, 0, []),
  (94, .istore 6, 2, 6, 0, 0, []),
  (96, .iload 6, 2, 6, 0, 0, []),
  (98, .iconst 3, 1, 0, 3, 0, []),
  (99, .if_icmp .ge 48, 3, 147, 0, 0, []),
  (102, .aload 4, 2, 4, 0, 0, []),
  (104, .aload_n 0, 1, 0, 0, 0, []),
  (105, .getfield 21, 3, 1000, 0, 0, []),
  (108, .getfield 35, 3, 917, 0, 0, []),
  (111, .iload 6, 2, 6, 0, 0, []),
  (113, .invokestatic 38, 3, 150, 0, 0, []),
  (116, .putfield 42, 3, 400, 0, 0, []),
  (119, .aload_n 0, 1, 0, 0, 0, []),
  (120, .getfield 9, 3, 1001, 0, 0, []),
  (123, .iconst 3, 1, 0, 3, 0, []),
  (124, .iload 5, 2, 5, 0, 0, []),
  (126, .imul, 1, 0, 0, 0, []),
  (127, .iload 6, 2, 6, 0, 0, []),
  (129, .iadd, 1, 0, 0, 0, []),
  (130, .aload_n 0, 1, 0, 0, 0, []),
  (131, .getfield 21, 3, 1000, 0, 0, []),
  (134, .iload_n 1, 1, 1, 0, 0, []),
  (135, .aload 4, 2, 4, 0, 0, []),
  (137, .invokevirtual 45, 3, 75, 0, 0, []),
  (140, .iastore, 1, 0, 0, 0, []),
  (141, .iinc 6 1, 3, 6, 1, 0, []),
  (144, .goto (-48), 3, 96, 0, 0, []),
  (147, .iload_n 3, 1, 3, 0, 0, []),
  (148, .invokestatic 159, 3, 277, 0, 0, []),
  (151, .istore 6, 2, 6, 0, 0, []),
  (153, .aload 4, 2, 4, 0, 0, []),
  (155, .dup, 1, 0, 0, 0, []),
  (156, .getfield 162, 3, 402, 0, 0, []),
  (159, .iload 6, 2, 6, 0, 0, []),
  (161, .ior, 1, 0, 0, 0, []),
  (162, .putfield 162, 3, 402, 0, 0, []),
  (165, .iload_n 3, 1, 3, 0, 0, []),
  (166, .iload 6, 2, 6, 0, 0, []),
  (168, .iconst (-1), 1, 0, (-1), 0, []),
  (169, .ixor, 1, 0, 0, 0, []),
  (170, .iand, 1, 0, 0, 0, []),
  (171, .istore_n 3, 1, 3, 0, 0, []),
  (172, .iinc 5 1, 3, 5, 1, 0, []),
  (175, .goto (-92), 3, 83, 0, 0, []),
  (178, .return_, 1, 0, 0, 0, [])]
def mm_X10_thinkOfTurns : mM := (10, yX10_thinkOfTurns, cX10_thinkOfTurns, 7, none, 3, (4153, 4152, 26, 1006, false), mo_X10_thinkOfTurns)
def mo_X10_mansDeed : List mO := [
  (0, .iload 4, 2, 4, 0, 0, []),
  (2, .ifCond .gt 12, 3, 14, 0, 0, []),
  (5, .iload_n 1, 1, 1, 0, 0, []),
  (6, .aload_n 0, 1, 0, 0, 0, []),
  (7, .getfield 135, 3, 1006, 0, 0, []),
  (10, .invokestatic 163, 3, 152, 0, 0, []),
  (13, .ireturn, 1, 0, 0, 0, []),
  (14, .aload_n 0, 1, 0, 0, 0, []),
  (15, .iload_n 1, 1, 1, 0, 0, []),
  (16, .iload_n 2, 1, 2, 0, 0, []),
  (17, .iconst 1, 1, 0, 1, 0, []),
  (18, .iadd, 1, 0, 0, 0, []),
  (19, .iload_n 3, 1, 3, 0, 0, []),
  (20, .iload 4, 2, 4, 0, 0, []),
  (22, .iconst 1, 1, 0, 1, 0, []),
  (23, .isub, 1, 0, 0, 0, []),
  (24, .invokevirtual 141, 3, 96, 0, 0, []),
  (27, .istore 5, 2, 5, 0, 0, []),
  (29, .aload_n 0, 1, 0, 0, 0, []),
  (30, .iload_n 1, 1, 1, 0, 0, []),
  (31, .iconst 3, 1, 0, 3, 0, []),
  (32, .iload_n 3, 1, 3, 0, 0, []),
  (33, .imul, 1, 0, 0, 0, []),
  (34, .iload_n 2, 1, 2, 0, 0, []),
  (35, .iadd, 1, 0, 0, 0, []),
  (36, .invokevirtual 78, 3, 81, 0, 0, []),
  (39, .ifCond .eq 6, 3, 45, 0, 0, []),
  (42, .iload 5, 2, 5, 0, 0, []),
  (44, .ireturn, 1, 0, 0, 0, []),
  (45, .iconst 0, 1, 0, 0, 0, []),
  (46, .istore 6, 2, 6, 0, 0, []),
  (48, .iload 6, 2, 6, 0, 0, []),
  (50, .iconst 4, 1, 0, 4, 0, []),
  (51, .if_icmp .ge 34, 3, 85, 0, 0, []),
  (54, .iload 5, 2, 5, 0, 0, []),
  (56, .aload_n 0, 1, 0, 0, 0, []),
  (57, .iload_n 1, 1, 1, 0, 0, []),
  (58, .iload 6, 2, 6, 0, 0, []),
  (60, .invokestatic 85, 3, 151, 0, 0, []),
  (63, .iload_n 2, 1, 2, 0, 0, []),
  (64, .iconst 1, 1, 0, 1, 0, []),
  (65, .iadd, 1, 0, 0, 0, []),
  (66, .iload_n 3, 1, 3, 0, 0, []),
  (67, .iload 4, 2, 4, 0, 0, []),
  (69, .iconst 1, 1, 0, 1, 0, []),
  (70, .isub, 1, 0, 0, 0, []),
  (71, .invokevirtual 141, 3, 96, 0, 0, []),
  (74, .invokestatic 63, 3, 5002, 0, 0, []),
  (77, .istore 5, 2, 5, 0, 0, []),
  (79, .iinc 6 1, 3, 6, 1, 0, []),
  (82, .goto (-34), 3, 48, 0, 0, []),
  (85, .iload 5, 2, 5, 0, 0, []),
  (87, .ireturn, 1, 0, 0, 0, [])]
def mm_X10_mansDeed : mM := (10, yX10_mansDeed, cX10_mansDeed, 7, (some .int), 5, (4166, 4165, 28, 1006, false), mo_X10_mansDeed)
def mo_X10_childsDeed : List mO := [
  (0, .iload 4, 2, 4, 0, 0, []),
  (2, .ifCond .gt 12, 3, 14, 0, 0, []),
  (5, .iload_n 1, 1, 1, 0, 0, []),
  (6, .aload_n 0, 1, 0, 0, 0, []),
  (7, .getfield 135, 3, 1006, 0, 0, []),
  (10, .invokestatic 163, 3, 152, 0, 0, []),
  (13, .ireturn, 1, 0, 0, 0, []),
  (14, .aload_n 0, 1, 0, 0, 0, []),
  (15, .iload_n 1, 1, 1, 0, 0, []),
  (16, .iload_n 2, 1, 2, 0, 0, []),
  (17, .iload_n 3, 1, 3, 0, 0, []),
  (18, .iload 4, 2, 4, 0, 0, []),
  (20, .iconst 1, 1, 0, 1, 0, []),
  (21, .isub, 1, 0, 0, 0, []),
  (22, .invokevirtual 166, 3, 95, 0, 0, []),
  (25, .istore 5, 2, 5, 0, 0, []),
  (27, .iload_n 3, 1, 3, 0, 0, []),
  (28, .aload_n 0, 1, 0, 0, 0, []),
  (29, .getfield 156, 3, 1007, 0, 0, []),
  (32, .if_icmp .ge 23, 3, 55, 0, 0, []),
  (35, .iload 5, 2, 5, 0, 0, []),
  (37, .aload_n 0, 1, 0, 0, 0, []),
  (38, .iload_n 1, 1, 1, 0, 0, []),
  (39, .iload_n 2, 1, 2, 0, 0, []),
  (40, .iload_n 3, 1, 3, 0, 0, []),
  (41, .iconst 1, 1, 0, 1, 0, []),
  (42, .iadd, 1, 0, 0, 0, []),
  (43, .iload 4, 2, 4, 0, 0, []),
  (45, .iconst 1, 1, 0, 1, 0, []),
  (46, .isub, 1, 0, 0, 0, []),
  (47, .invokevirtual 166, 3, 95, 0, 0, []),
  (50, .invokestatic 169, 3, 5001, 0, 0, []),
  (53, .istore 5, 2, 5, 0, 0, []),
  (55, .iload 5, 2, 5, 0, 0, []),
  (57, .ireturn, 1, 0, 0, 0, [])]
def mm_X10_childsDeed : mM := (10, yX10_childsDeed, cX10_childsDeed, 6, (some .int), 5, (4161, 4160, 27, 1006, false), mo_X10_childsDeed)
def mo_X10_yearsByDraws : List mO := [
  (0, .aload_n 0, 1, 0, 0, 0, []),
  (1, .iload 4, 2, 4, 0, 0, []),
  (3, .iload_n 3, 1, 3, 0, 0, []),
  (4, .invokevirtual 68, 3, 80, 0, 0, []),
  (7, .iload_n 1, 1, 1, 0, 0, []),
  (8, .istore 6, 2, 6, 0, 0, []),
  (10, .iconst 0, 1, 0, 0, 0, []),
  (11, .istore 7, 2, 7, 0, 0, []),
  (13, .iconst 0, 1, 0, 0, 0, []),
  (14, .istore 8, 2, 8, 0, 0, []),
  (16, .iconst 0, 1, 0, 0, 0, []),
  (17, .istore 9, 2, 9, 0, 0, []),
  (19, .iload 9, 2, 9, 0, 0, []),
  (21, .iload_n 2, 1, 2, 0, 0, []),
  (22, .if_icmp .ge 97, 3, 119, 0, 0, []),
  (25, .aload_n 0, 1, 0, 0, 0, []),
  (26, .getfield 21, 3, 1000, 0, 0, []),
  (29, .getfield 72, 3, 900, 0, 0, []),
  (32, .aload_n 0, 1, 0, 0, 0, []),
  (33, .getfield 25, 3, 1005, 0, 0, []),
  (36, .iaload, 1, 0, 0, 0, []),
  (37, .istore 10, 2, 10, 0, 0, []),
  (39, .iconst 0, 1, 0, 0, 0, []),
  (40, .istore 11, 2, 11, 0, 0, []),
  (42, .iload 11, 2, 11, 0, 0, []),
  (44, .iload_n 3, 1, 3, 0, 0, []),
  (45, .if_icmp .ge 51, 3, 96, 0, 0, []),
  (48, .iload 6, 2, 6, 0, 0, []),
  (50, .ldc 172, 2, 4176, 1103515245, 0, []),
  (52, .imul, 1, 0, 0, 0, []),
  (53, .sipush 12345, 3, 0, 12345, 0, []),
  (56, .iadd, 1, 0, 0, 0, []),
  (57, .istore 6, 2, 6, 0, 0, []),
  (59, .aload_n 0, 1, 0, 0, 0, []),
  (60, .iload 10, 2, 10, 0, 0, []),
  (62, .iload 11, 2, 11, 0, 0, []),
  (64, .invokevirtual 78, 3, 81, 0, 0, []),
  (67, .ifCond .eq 9, 3, 76, 0, 0, []),
  (70, .iinc 7 1, 3, 7, 1, 0, []),
  (73, .goto 17, 3, 90, 0, 0, []),
  (76, .iload 10, 2, 10, 0, 0, []),
  (78, .iload 6, 2, 6, 0, 0, []),
  (80, .bipush 8, 2, 0, 8, 0, []),
  (82, .iushr, 1, 0, 0, 0, []),
  (83, .iconst 5, 1, 0, 5, 0, []),
  (84, .irem, 1, 0, 0, 0, []),
  (85, .invokestatic 85, 3, 151, 0, 0, []),
  (88, .istore 10, 2, 10, 0, 0, []),
  (90, .iinc 11 1, 3, 11, 1, 0, []),
  (93, .goto (-51), 3, 42, 0, 0, []),
  (96, .iload 8, 2, 8, 0, 0, []),
  (98, .iload 10, 2, 10, 0, 0, []),
  (100, .iload 5, 2, 5, 0, 0, []),
  (102, .if_icmp .ne 7, 3, 109, 0, 0, []),
  (105, .iconst 1, 1, 0, 1, 0, []),
  (106, .goto 4, 3, 110, 0, 0, []),
  (109, .iconst 0, 1, 0, 0, 0, []),
  (110, .iadd, 1, 0, 0, 0, []),
  (111, .istore 8, 2, 8, 0, 0, []),
  (113, .iinc 9 1, 3, 9, 1, 0, []),
  (116, .goto (-97), 3, 19, 0, 0, []),
  (119, .iload 5, 2, 5, 0, 0, []),
  (121, .ifCond .ge 8, 3, 129, 0, 0, []),
  (124, .iload 7, 2, 7, 0, 0, []),
  (126, .goto 5, 3, 131, 0, 0, []),
  (129, .iload 8, 2, 8, 0, 0, []),
  (131, .ireturn, 1, 0, 0, 0, [])]
def mm_X10_yearsByDraws : mM := (10, yX10_yearsByDraws, cX10_yearsByDraws, 12, (some .int), 6, (4175, 4173, 4174, 1006, false), mo_X10_yearsByDraws)
def mo_X11_person : List mO := [
  (0, .iload_n 1, 1, 1, 0, 0, []),
  (1, .invokestatic 74, 3, 147, 0, 0, []),
  (4, .ifCond .ne 5, 3, 9, 0, 0, []),
  (7, .iconst (-1), 1, 0, (-1), 0, []),
  (8, .ireturn, 1, 0, 0, 0, []),
  (9, .aload_n 0, 1, 0, 0, 0, []),
  (10, .getfield 10, 3, 1100, 0, 0, []),
  (13, .iload_n 1, 1, 1, 0, 0, []),
  (14, .invokevirtual 78, 3, 62, 0, 0, []),
  (17, .ireturn, 1, 0, 0, 0, [])]
def mm_X11_person : mM := (11, yX11_person, cX11_person, 2, (some .int), 2, (2161, 2159, 2160, 1001, false), mo_X11_person)
def mo_X11_promise : List mO := [
  (0, .iload_n 1, 1, 1, 0, 0, []),
  (1, .bipush 10, 2, 0, 10, 0, []),
  (3, .idiv, 1, 0, 0, 0, []),
  (4, .istore_n 3, 1, 3, 0, 0, []),
  (5, .iload_n 1, 1, 1, 0, 0, []),
  (6, .bipush 10, 2, 0, 10, 0, []),
  (8, .irem, 1, 0, 0, 0, []),
  (9, .istore 4, 2, 4, 0, 0, []),
  (11, .iload_n 2, 1, 2, 0, 0, []),
  (12, .bipush 100, 2, 0, 100, 0, []),
  (14, .idiv, 1, 0, 0, 0, []),
  (15, .istore 5, 2, 5, 0, 0, []),
  (17, .iload_n 2, 1, 2, 0, 0, []),
  (18, .bipush 100, 2, 0, 100, 0, []),
  (20, .irem, 1, 0, 0, 0, []),
  (21, .istore 6, 2, 6, 0, 0, []),
  (23, .aload_n 0, 1, 0, 0, 0, []),
  (24, .getfield 10, 3, 1100, 0, 0, []),
  (27, .iload_n 3, 1, 3, 0, 0, []),
  (28, .invokevirtual 82, 3, 60, 0, 0, []),
  (31, .ifCond .eq 29, 3, 60, 0, 0, []),
  (34, .aload_n 0, 1, 0, 0, 0, []),
  (35, .getfield 10, 3, 1100, 0, 0, []),
  (38, .iload_n 3, 1, 3, 0, 0, []),
  (39, .iload 4, 2, 4, 0, 0, []),
  (41, .aload_n 0, 1, 0, 0, 0, []),
  (42, .getfield 10, 3, 1100, 0, 0, []),
  (45, .getfield 85, 3, 900, 0, 0, []),
  (48, .iload_n 3, 1, 3, 0, 0, []),
  (49, .iaload, 1, 0, 0, 0, []),
  (50, .iload 5, 2, 5, 0, 0, []),
  (52, .iload 6, 2, 6, 0, 0, []),
  (54, .invokevirtual 89, 3, 63, 0, 0, []),
  (57, .ifCond .ne 5, 3, 62, 0, 0, []),
  (60, .iconst (-1), 1, 0, (-1), 0, []),
  (61, .ireturn, 1, 0, 0, 0, []),
  (62, .aload_n 0, 1, 0, 0, 0, []),
  (63, .getfield 10, 3, 1100, 0, 0, []),
  (66, .iload_n 3, 1, 3, 0, 0, []),
  (67, .iload 4, 2, 4, 0, 0, []),
  (69, .aload_n 0, 1, 0, 0, 0, []),
  (70, .getfield 10, 3, 1100, 0, 0, []),
  (73, .getfield 85, 3, 900, 0, 0, []),
  (76, .iload_n 3, 1, 3, 0, 0, []),
  (77, .iaload, 1, 0, 0, 0, []),
  (78, .iload 5, 2, 5, 0, 0, []),
  (80, .iload 6, 2, 6, 0, 0, []),
  (82, .invokevirtual 93, 3, 64, 0, 0, []),
  (85, .istore 7, 2, 7, 0, 0, []),
  (87, .iload 7, 2, 7, 0, 0, []),
  (89, .ifCond .lt 16, 3, 105, 0, 0, []),
  (92, .aload_n 0, 1, 0, 0, 0, []),
  (93, .getfield 10, 3, 1100, 0, 0, []),
  (96, .getfield 97, 3, 908, 0, 0, []),
  (99, .iconst 0, 1, 0, 0, 0, []),
  (100, .dup2, 1, 0, 0, 0, []),
  (101, .iaload, 1, 0, 0, 0, []),
  (102, .iconst 1, 1, 0, 1, 0, []),
  (103, .iadd, 1, 0, 0, 0, []),
  (104, .iastore, 1, 0, 0, 0, []),
  (105, .iload 7, 2, 7, 0, 0, []),
  (107, .ireturn, 1, 0, 0, 0, [])]
def mm_X11_promise : mM := (11, yX11_promise, cX11_promise, 8, (some .int), 3, (2172, 2170, 2171, 1001, false), mo_X11_promise)
def mo_X11_promises : List mO := [
  (0, .iload_n 1, 1, 1, 0, 0, []),
  (1, .invokestatic 100, 3, 148, 0, 0, []),
  (4, .ifCond .eq 14, 3, 18, 0, 0, []),
  (7, .iload_n 3, 1, 3, 0, 0, []),
  (8, .iconst 1, 1, 0, 1, 0, []),
  (9, .if_icmp .lt 9, 3, 18, 0, 0, []),
  (12, .iload_n 3, 1, 3, 0, 0, []),
  (13, .bipush 12, 2, 0, 12, 0, []),
  (15, .if_icmp .le 5, 3, 20, 0, 0, []),
  (18, .iconst (-1), 1, 0, (-1), 0, []),
  (19, .ireturn, 1, 0, 0, 0, []),
  (20, .aload_n 0, 1, 0, 0, 0, []),
  (21, .getfield 69, 3, 1108, 0, 0, []),
  (24, .iload_n 1, 1, 1, 0, 0, []),
  (25, .aaload, 1, 0, 0, 0, []),
  (26, .invokevirtual 103, 3, 40, 0, 0, []),
  (29, .istore 4, 2, 4, 0, 0, []),
  (31, .iload 4, 2, 4, 0, 0, []),
  (33, .bipush (-11), 2, 0, (-11), 0, []),
  (35, .if_icmp .ne 5, 3, 40, 0, 0, []),
  (38, .iconst 0, 1, 0, 0, 0, []),
  (39, .ireturn, 1, 0, 0, 0, []),
  (40, .iload 4, 2, 4, 0, 0, []),
  (42, .ifCond .eq 8, 3, 50, 0, 0, []),
  (45, .iload 4, 2, 4, 0, 0, []),
  (47, .goto 15, 3, 62, 0, 0, []),
  (50, .aload_n 0, 1, 0, 0, 0, []),
  (51, .aload_n 0, 1, 0, 0, 0, []),
  (52, .getfield 69, 3, 1108, 0, 0, []),
  (55, .iload_n 1, 1, 1, 0, 0, []),
  (56, .aaload, 1, 0, 0, 0, []),
  (57, .iload_n 2, 1, 2, 0, 0, []),
  (58, .iload_n 3, 1, 3, 0, 0, []),
  (59, .invokevirtual 107, 3, 101, 0, 0, []),
  (62, .ireturn, 1, 0, 0, 0, [])]
def mm_X11_promises : mM := (11, yX11_promises, cX11_promises, 5, (some .int), 4, (2190, 2188, 2189, 1001, false), mo_X11_promises)
def mo_X11_promisesFrom : List mO := [
  (0, .iconst 0, 1, 0, 0, 0, []),
  (1, .istore 4, 2, 4, 0, 0, []),
  (3, .iload 4, 2, 4, 0, 0, []),
  (5, .iload_n 3, 1, 3, 0, 0, []),
  (6, .if_icmp .ge 33, 3, 39, 0, 0, []),
  (9, .aload_n 1, 1, 1, 0, 0, []),
  (10, .iload_n 2, 1, 2, 0, 0, []),
  (11, .iload 4, 2, 4, 0, 0, []),
  (13, .invokevirtual 111, 3, 43, 0, 0, []),
  (16, .ifCond .eq 23, 3, 39, 0, 0, []),
  (19, .aload_n 0, 1, 0, 0, 0, []),
  (20, .aload_n 1, 1, 1, 0, 0, []),
  (21, .iload_n 2, 1, 2, 0, 0, []),
  (22, .iconst 5, 1, 0, 5, 0, []),
  (23, .iload 4, 2, 4, 0, 0, []),
  (25, .imul, 1, 0, 0, 0, []),
  (26, .iadd, 1, 0, 0, 0, []),
  (27, .invokevirtual 115, 3, 102, 0, 0, []),
  (30, .ifCond .eq 9, 3, 39, 0, 0, []),
  (33, .iinc 4 1, 3, 4, 1, 0, []),
  (36, .goto (-33), 3, 3, 0, 0, []),
  (39, .iload 4, 2, 4, 0, 0, []),
  (41, .ireturn, 1, 0, 0, 0, [])]
def mm_X11_promisesFrom : mM := (11, yX11_promisesFrom, cX11_promisesFrom, 5, (some .int), 4, (2205, 2204, 0, 1001, false), mo_X11_promisesFrom)
def mo_X11_promiseFrom : List mO := [
  (0, .aload_n 1, 1, 1, 0, 0, []),
  (1, .iload_n 2, 1, 2, 0, 0, []),
  (2, .invokevirtual 119, 3, 42, 0, 0, []),
  (5, .istore_n 3, 1, 3, 0, 0, []),
  (6, .aload_n 1, 1, 1, 0, 0, []),
  (7, .iload_n 2, 1, 2, 0, 0, []),
  (8, .iconst 1, 1, 0, 1, 0, []),
  (9, .iadd, 1, 0, 0, 0, []),
  (10, .invokevirtual 119, 3, 42, 0, 0, []),
  (13, .istore 4, 2, 4, 0, 0, []),
  (15, .aload_n 1, 1, 1, 0, 0, []),
  (16, .iload_n 2, 1, 2, 0, 0, []),
  (17, .iconst 2, 1, 0, 2, 0, []),
  (18, .iadd, 1, 0, 0, 0, []),
  (19, .invokevirtual 119, 3, 42, 0, 0, []),
  (22, .istore 5, 2, 5, 0, 0, []),
  (24, .aload_n 1, 1, 1, 0, 0, []),
  (25, .iload_n 2, 1, 2, 0, 0, []),
  (26, .iconst 3, 1, 0, 3, 0, []),
  (27, .iadd, 1, 0, 0, 0, []),
  (28, .invokevirtual 119, 3, 42, 0, 0, []),
  (31, .istore 6, 2, 6, 0, 0, []),
  (33, .aload_n 1, 1, 1, 0, 0, []),
  (34, .iload_n 2, 1, 2, 0, 0, []),
  (35, .iconst 4, 1, 0, 4, 0, []),
  (36, .iadd, 1, 0, 0, 0, []),
  (37, .invokevirtual 119, 3, 42, 0, 0, []),
  (40, .istore 7, 2, 7, 0, 0, []),
  (42, .aload_n 0, 1, 0, 0, 0, []),
  (43, .getfield 10, 3, 1100, 0, 0, []),
  (46, .iload_n 3, 1, 3, 0, 0, []),
  (47, .iload 4, 2, 4, 0, 0, []),
  (49, .iload 5, 2, 5, 0, 0, []),
  (51, .iload 6, 2, 6, 0, 0, []),
  (53, .iload 7, 2, 7, 0, 0, []),
  (55, .invokevirtual 89, 3, 63, 0, 0, []),
  (58, .ifCond .eq 26, 3, 84, 0, 0, []),
  (61, .aload_n 0, 1, 0, 0, 0, []),
  (62, .getfield 10, 3, 1100, 0, 0, []),
  (65, .iload_n 3, 1, 3, 0, 0, []),
  (66, .iload 4, 2, 4, 0, 0, []),
  (68, .iload 5, 2, 5, 0, 0, []),
  (70, .iload 6, 2, 6, 0, 0, []),
  (72, .iload 7, 2, 7, 0, 0, []),
  (74, .invokevirtual 93, 3, 64, 0, 0, []),
  (77, .ifCond .lt 7, 3, 84, 0, 0, []),
  (80, .iconst 1, 1, 0, 1, 0, []),
  (81, .goto 4, 3, 85, 0, 0, []),
  (84, .iconst 0, 1, 0, 0, 0, []),
  (85, .ireturn, 1, 0, 0, 0, [])]
def mm_X11_promiseFrom : mM := (11, yX11_promiseFrom, cX11_promiseFrom, 8, (some .boolean), 3, (2213, 2212, 1, 1001, false), mo_X11_promiseFrom)
def mo_X11_mend : List mO := [
  (0, .iload_n 2, 1, 2, 0, 0, []),
  (1, .ifCond .lt 39, 3, 40, 0, 0, []),
  (4, .iload_n 2, 1, 2, 0, 0, []),
  (5, .bipush 10, 2, 0, 10, 0, []),
  (7, .if_icmp .ge 33, 3, 40, 0, 0, []),
  (10, .aload_n 0, 1, 0, 0, 0, []),
  (11, .getfield 10, 3, 1100, 0, 0, []),
  (14, .iload_n 1, 1, 1, 0, 0, []),
  (15, .iload_n 2, 1, 2, 0, 0, []),
  (16, .invokevirtual 122, 3, 65, 0, 0, []),
  (19, .ifCond .eq 21, 3, 40, 0, 0, []),
  (22, .iload_n 3, 1, 3, 0, 0, []),
  (23, .getstatic 125, 3, 0, 0, 0, []),
  (26, .iload_n 2, 1, 2, 0, 0, []),
  (27, .iaload, 1, 0, 0, 0, []),
  (28, .if_icmp .lt 12, 3, 40, 0, 0, []),
  (31, .iload_n 3, 1, 3, 0, 0, []),
  (32, .getstatic 128, 3, 1, 0, 0, []),
  (35, .iload_n 2, 1, 2, 0, 0, []),
  (36, .iaload, 1, 0, 0, 0, []),
  (37, .if_icmp .le 5, 3, 42, 0, 0, []),
  (40, .iconst (-1), 1, 0, (-1), 0, []),
  (41, .ireturn, 1, 0, 0, 0, []),
  (42, .aload_n 0, 1, 0, 0, 0, []),
  (43, .getfield 10, 3, 1100, 0, 0, []),
  (46, .iload_n 1, 1, 1, 0, 0, []),
  (47, .iload_n 2, 1, 2, 0, 0, []),
  (48, .invokevirtual 131, 3, 66, 0, 0, []),
  (51, .istore 4, 2, 4, 0, 0, []),
  (53, .iload 4, 2, 4, 0, 0, []),
  (55, .iload_n 3, 1, 3, 0, 0, []),
  (56, .if_icmp .eq 25, 3, 81, 0, 0, []),
  (59, .aload_n 0, 1, 0, 0, 0, []),
  (60, .getfield 49, 3, 1105, 0, 0, []),
  (63, .iload_n 1, 1, 1, 0, 0, []),
  (64, .iload_n 2, 1, 2, 0, 0, []),
  (65, .iload 4, 2, 4, 0, 0, []),
  (67, .iload_n 3, 1, 3, 0, 0, []),
  (68, .invokevirtual 135, 3, 9, 0, 0, []),
  (71, .aload_n 0, 1, 0, 0, 0, []),
  (72, .getfield 10, 3, 1100, 0, 0, []),
  (75, .iload_n 1, 1, 1, 0, 0, []),
  (76, .iload_n 2, 1, 2, 0, 0, []),
  (77, .iload_n 3, 1, 3, 0, 0, []),
  (78, .invokevirtual 139, 3, 67, 0, 0, []),
  (81, .iload 4, 2, 4, 0, 0, []),
  (83, .ireturn, 1, 0, 0, 0, [])]
def mm_X11_mend : mM := (11, yX11_mend, cX11_mend, 5, (some .int), 4, (2221, 2219, 2220, 1001, false), mo_X11_mend)
def mo_X11_of : List mO := [
  (0, .iload_n 2, 1, 2, 0, 0, []),
  (1, .ifCond .lt 21, 3, 22, 0, 0, []),
  (4, .iload_n 2, 1, 2, 0, 0, []),
  (5, .bipush 12, 2, 0, 12, 0, []),
  (7, .if_icmp .ge 15, 3, 22, 0, 0, []),
  (10, .aload_n 0, 1, 0, 0, 0, []),
  (11, .getfield 10, 3, 1100, 0, 0, []),
  (14, .iload_n 1, 1, 1, 0, 0, []),
  (15, .iload_n 2, 1, 2, 0, 0, []),
  (16, .invokevirtual 122, 3, 65, 0, 0, []),
  (19, .ifCond .ne 5, 3, 24, 0, 0, []),
  (22, .iconst (-1), 1, 0, (-1), 0, []),
  (23, .ireturn, 1, 0, 0, 0, []),
  (24, .aload_n 0, 1, 0, 0, 0, []),
  (25, .getfield 10, 3, 1100, 0, 0, []),
  (28, .iload_n 1, 1, 1, 0, 0, []),
  (29, .iload_n 2, 1, 2, 0, 0, []),
  (30, .invokevirtual 131, 3, 66, 0, 0, []),
  (33, .ireturn, 1, 0, 0, 0, [])]
def mm_X11_of : mM := (11, yX11_of, cX11_of, 3, (some .int), 3, (3014, 3012, 3013, 1001, false), mo_X11_of)
def mo_X11_feed : List mO := [
  (0, .iload_n 1, 1, 1, 0, 0, []),
  (1, .ifCond .lt 10, 3, 11, 0, 0, []),
  (4, .iload_n 1, 1, 1, 0, 0, []),
  (5, .sipush 255, 3, 0, 255, 0, []),
  (8, .if_icmp .le 5, 3, 13, 0, 0, []),
  (11, .iconst (-1), 1, 0, (-1), 0, []),
  (12, .ireturn, 1, 0, 0, 0, []),
  (13, .aload_n 0, 1, 0, 0, 0, []),
  (14, .getfield 19, 3, 1101, 0, 0, []),
  (17, .iload_n 1, 1, 1, 0, 0, []),
  (18, .invokevirtual 143, 3, 49, 0, 0, []),
  (21, .ireturn, 1, 0, 0, 0, [])]
def mm_X11_feed : mM := (11, yX11_feed, cX11_feed, 2, (some .int), 2, (3018, 3016, 3017, 1001, false), mo_X11_feed)
def mo_X11_law : List mO := [
  (0, .aload_n 0, 1, 0, 0, 0, []),
  (1, .getfield 19, 3, 1101, 0, 0, []),
  (4, .invokevirtual 146, 3, 52, 0, 0, []),
  (7, .istore_n 1, 1, 1, 0, 0, []),
  (8, .iload_n 1, 1, 1, 0, 0, []),
  (9, .ifCond .eq 27, 3, 36, 0, 0, []),
  (12, .aload_n 0, 1, 0, 0, 0, []),
  (13, .getfield 10, 3, 1100, 0, 0, []),
  (16, .getfield 150, 3, 910, 0, 0, []),
  (19, .aload_n 0, 1, 0, 0, 0, []),
  (20, .getfield 19, 3, 1101, 0, 0, []),
  (23, .getfield 154, 3, 801, 0, 0, []),
  (26, .aload_n 0, 1, 0, 0, 0, []),
  (27, .getfield 19, 3, 1101, 0, 0, []),
  (30, .getfield 157, 3, 804, 0, 0, []),
  (33, .invokevirtual 161, 3, 17, 0, 0, []),
  (36, .aload_n 0, 1, 0, 0, 0, []),
  (37, .getfield 19, 3, 1101, 0, 0, []),
  (40, .iconst 0, 1, 0, 0, 0, []),
  (41, .putfield 167, 3, 802, 0, 0, []),
  (44, .iload_n 1, 1, 1, 0, 0, []),
  (45, .ifCond .eq 7, 3, 52, 0, 0, []),
  (48, .iconst 1, 1, 0, 1, 0, []),
  (49, .goto 13, 3, 62, 0, 0, []),
  (52, .bipush (-100), 2, 0, (-100), 0, []),
  (54, .aload_n 0, 1, 0, 0, 0, []),
  (55, .getfield 19, 3, 1101, 0, 0, []),
  (58, .getfield 170, 3, 803, 0, 0, []),
  (61, .isub, 1, 0, 0, 0, []),
  (62, .ireturn, 1, 0, 0, 0, [])]
def mm_X11_law : mM := (11, yX11_law, cX11_law, 2, (some .int), 1, (3026, 3024, 3025, 1001, false), mo_X11_law)
def mo_X11_hard : List mO := [
  (0, .aload_n 0, 1, 0, 0, 0, []),
  (1, .getfield 10, 3, 1100, 0, 0, []),
  (4, .iload_n 1, 1, 1, 0, 0, []),
  (5, .invokevirtual 173, 3, 61, 0, 0, []),
  (8, .ifCond .ne 5, 3, 13, 0, 0, []),
  (11, .iconst (-1), 1, 0, (-1), 0, []),
  (12, .ireturn, 1, 0, 0, 0, []),
  (13, .aload_n 0, 1, 0, 0, 0, []),
  (14, .getfield 10, 3, 1100, 0, 0, []),
  (17, .invokevirtual 176, 3, 68, 0, 0, []),
  (20, .astore_n 2, 1, 2, 0, 0, []),
  (21, .aload_n 0, 1, 0, 0, 0, []),
  (22, .getfield 10, 3, 1100, 0, 0, []),
  (25, .iload_n 1, 1, 1, 0, 0, []),
  (26, .aload_n 0, 1, 0, 0, 0, []),
  (27, .getfield 10, 3, 1100, 0, 0, []),
  (30, .iload_n 1, 1, 1, 0, 0, []),
  (31, .aload_n 2, 1, 2, 0, 0, []),
  (32, .invokevirtual 180, 3, 70, 0, 0, []),
  (35, .aload_n 2, 1, 2, 0, 0, []),
  (36, .invokevirtual 184, 3, 71, 0, 0, []),
  (39, .ireturn, 1, 0, 0, 0, [])]
def mm_X11_hard : mM := (11, yX11_hard, cX11_hard, 3, (some .int), 2, (3077, 3075, 3076, 1001, false), mo_X11_hard)
def mo_X11_route : List mO := [
  (0, .iload_n 1, 1, 1, 0, 0, []),
  (1, .invokestatic 100, 3, 148, 0, 0, []),
  (4, .ifCond .eq 35, 3, 39, 0, 0, []),
  (7, .iload_n 2, 1, 2, 0, 0, []),
  (8, .ifCond .lt 31, 3, 39, 0, 0, []),
  (11, .iload_n 2, 1, 2, 0, 0, []),
  (12, .bipush 30, 2, 0, 30, 0, []),
  (14, .if_icmp .gt 25, 3, 39, 0, 0, []),
  (17, .aload_n 0, 1, 0, 0, 0, []),
  (18, .getfield 10, 3, 1100, 0, 0, []),
  (21, .iload_n 3, 1, 3, 0, 0, []),
  (22, .invokevirtual 82, 3, 60, 0, 0, []),
  (25, .ifCond .eq 14, 3, 39, 0, 0, []),
  (28, .iload 4, 2, 4, 0, 0, []),
  (30, .ifCond .lt 9, 3, 39, 0, 0, []),
  (33, .iload 4, 2, 4, 0, 0, []),
  (35, .iconst 3, 1, 0, 3, 0, []),
  (36, .if_icmp .le 5, 3, 41, 0, 0, []),
  (39, .iconst (-1), 1, 0, (-1), 0, []),
  (40, .ireturn, 1, 0, 0, 0, []),
  (41, .aload_n 0, 1, 0, 0, 0, []),
  (42, .getfield 69, 3, 1108, 0, 0, []),
  (45, .iload_n 1, 1, 1, 0, 0, []),
  (46, .aaload, 1, 0, 0, 0, []),
  (47, .invokevirtual 103, 3, 40, 0, 0, []),
  (50, .istore 5, 2, 5, 0, 0, []),
  (52, .iload 5, 2, 5, 0, 0, []),
  (54, .ifCond .eq 8, 3, 62, 0, 0, []),
  (57, .iload 5, 2, 5, 0, 0, []),
  (59, .goto 20, 3, 79, 0, 0, []),
  (62, .aload_n 0, 1, 0, 0, 0, []),
  (63, .getfield 28, 3, 1102, 0, 0, []),
  (66, .aload_n 0, 1, 0, 0, 0, []),
  (67, .getfield 69, 3, 1108, 0, 0, []),
  (70, .iload_n 1, 1, 1, 0, 0, []),
  (71, .aaload, 1, 0, 0, 0, []),
  (72, .iload_n 2, 1, 2, 0, 0, []),
  (73, .iload_n 3, 1, 3, 0, 0, []),
  (74, .iload 4, 2, 4, 0, 0, []),
  (76, .invokevirtual 188, 3, 83, 0, 0, []),
  (79, .ireturn, 1, 0, 0, 0, [])]
def mm_X11_route : mM := (11, yX11_route, cX11_route, 6, (some .int), 5, (3123, 3121, 3122, 1001, false), mo_X11_route)
def mo_X11_held : List mO := [
  (0, .aload_n 0, 1, 0, 0, 0, []),
  (1, .getfield 10, 3, 1100, 0, 0, []),
  (4, .iload_n 1, 1, 1, 0, 0, []),
  (5, .invokevirtual 82, 3, 60, 0, 0, []),
  (8, .ifCond .eq 10, 3, 18, 0, 0, []),
  (11, .iload_n 2, 1, 2, 0, 0, []),
  (12, .invokestatic 192, 3, 145, 0, 0, []),
  (15, .ifCond .ne 5, 3, 20, 0, 0, []),
  (18, .iconst (-1), 1, 0, (-1), 0, []),
  (19, .ireturn, 1, 0, 0, 0, []),
  (20, .iload_n 2, 1, 2, 0, 0, []),
  (21, .ifCond .ne 15, 3, 36, 0, 0, []),
  (24, .aload_n 0, 1, 0, 0, 0, []),
  (25, .getfield 10, 3, 1100, 0, 0, []),
  (28, .iload_n 1, 1, 1, 0, 0, []),
  (29, .invokevirtual 195, 3, 74, 0, 0, []),
  (32, .invokestatic 198, 3, 278, 0, 0, []),
  (35, .ireturn, 1, 0, 0, 0, []),
  (36, .aload_n 0, 1, 0, 0, 0, []),
  (37, .getfield 10, 3, 1100, 0, 0, []),
  (40, .iload_n 1, 1, 1, 0, 0, []),
  (41, .invokevirtual 203, 3, 77, 0, 0, []),
  (44, .ireturn, 1, 0, 0, 0, [])]
def mm_X11_held : mM := (11, yX11_held, cX11_held, 3, (some .int), 3, (3173, 3171, 3172, 1001, false), mo_X11_held)
def mo_X11_best : List mO := [
  (0, .aload_n 0, 1, 0, 0, 0, []),
  (1, .getfield 10, 3, 1100, 0, 0, []),
  (4, .iload_n 1, 1, 1, 0, 0, []),
  (5, .invokevirtual 82, 3, 60, 0, 0, []),
  (8, .ifCond .eq 22, 3, 30, 0, 0, []),
  (11, .iload_n 2, 1, 2, 0, 0, []),
  (12, .ifCond .lt 18, 3, 30, 0, 0, []),
  (15, .iload_n 2, 1, 2, 0, 0, []),
  (16, .iconst 4, 1, 0, 4, 0, []),
  (17, .if_icmp .gt 13, 3, 30, 0, 0, []),
  (20, .iload_n 3, 1, 3, 0, 0, []),
  (21, .iconst (-1), 1, 0, (-1), 0, []),
  (22, .if_icmp .lt 8, 3, 30, 0, 0, []),
  (25, .iload_n 3, 1, 3, 0, 0, []),
  (26, .iload_n 2, 1, 2, 0, 0, []),
  (27, .if_icmp .lt 5, 3, 32, 0, 0, []),
  (30, .iconst (-1), 1, 0, (-1), 0, []),
  (31, .ireturn, 1, 0, 0, 0, []),
  (32, .aload_n 0, 1, 0, 0, 0, []),
  (33, .getfield 28, 3, 1102, 0, 0, []),
  (36, .iload_n 1, 1, 1, 0, 0, []),
  (37, .iload_n 2, 1, 2, 0, 0, []),
  (38, .iload_n 3, 1, 3, 0, 0, []),
  (39, .invokevirtual 206, 3, 84, 0, 0, []),
  (42, .ireturn, 1, 0, 0, 0, [])]
def mm_X11_best : mM := (11, yX11_best, cX11_best, 4, (some .int), 4, (3200, 3198, 3199, 1001, false), mo_X11_best)
def mo_X11_soonest : List mO := [
  (0, .aload_n 0, 1, 0, 0, 0, []),
  (1, .getfield 10, 3, 1100, 0, 0, []),
  (4, .iload_n 1, 1, 1, 0, 0, []),
  (5, .invokevirtual 82, 3, 60, 0, 0, []),
  (8, .ifCond .eq 10, 3, 18, 0, 0, []),
  (11, .iload_n 2, 1, 2, 0, 0, []),
  (12, .invokestatic 74, 3, 147, 0, 0, []),
  (15, .ifCond .ne 5, 3, 20, 0, 0, []),
  (18, .iconst (-1), 1, 0, (-1), 0, []),
  (19, .ireturn, 1, 0, 0, 0, []),
  (20, .aload_n 0, 1, 0, 0, 0, []),
  (21, .getfield 28, 3, 1102, 0, 0, []),
  (24, .iload_n 1, 1, 1, 0, 0, []),
  (25, .iload_n 2, 1, 2, 0, 0, []),
  (26, .invokevirtual 210, 3, 87, 0, 0, []),
  (29, .ireturn, 1, 0, 0, 0, [])]
def mm_X11_soonest : mM := (11, yX11_soonest, cX11_soonest, 3, (some .int), 3, (3216, 3214, 3215, 1001, false), mo_X11_soonest)
def mo_X11_free : List mO := [
  (0, .aload_n 0, 1, 0, 0, 0, []),
  (1, .getfield 10, 3, 1100, 0, 0, []),
  (4, .iload_n 1, 1, 1, 0, 0, []),
  (5, .invokevirtual 82, 3, 60, 0, 0, []),
  (8, .ifCond .ne 5, 3, 13, 0, 0, []),
  (11, .iconst (-1), 1, 0, (-1), 0, []),
  (12, .ireturn, 1, 0, 0, 0, []),
  (13, .bipush 25, 2, 0, 25, 0, []),
  (15, .aload_n 0, 1, 0, 0, 0, []),
  (16, .getfield 10, 3, 1100, 0, 0, []),
  (19, .iload_n 1, 1, 1, 0, 0, []),
  (20, .aload_n 0, 1, 0, 0, 0, []),
  (21, .getfield 10, 3, 1100, 0, 0, []),
  (24, .invokevirtual 176, 3, 68, 0, 0, []),
  (27, .invokevirtual 213, 3, 75, 0, 0, []),
  (30, .invokestatic 198, 3, 278, 0, 0, []),
  (33, .isub, 1, 0, 0, 0, []),
  (34, .ireturn, 1, 0, 0, 0, [])]
def mm_X11_free : mM := (11, yX11_free, cX11_free, 2, (some .int), 2, (3230, 3228, 3229, 1001, false), mo_X11_free)
def mo_X11_words : List mO := [
  (0, .aload_n 0, 1, 0, 0, 0, []),
  (1, .getfield 10, 3, 1100, 0, 0, []),
  (4, .iload_n 1, 1, 1, 0, 0, []),
  (5, .invokevirtual 82, 3, 60, 0, 0, []),
  (8, .ifCond .eq 10, 3, 18, 0, 0, []),
  (11, .iload_n 2, 1, 2, 0, 0, []),
  (12, .invokestatic 192, 3, 145, 0, 0, []),
  (15, .ifCond .ne 5, 3, 20, 0, 0, []),
  (18, .iconst (-1), 1, 0, (-1), 0, []),
  (19, .ireturn, 1, 0, 0, 0, []),
  (20, .aload_n 0, 1, 0, 0, 0, []),
  (21, .getfield 35, 3, 1103, 0, 0, []),
  (24, .iload_n 1, 1, 1, 0, 0, []),
  (25, .invokevirtual 216, 3, 24, 0, 0, []),
  (28, .istore_n 3, 1, 3, 0, 0, []),
  (29, .iload_n 2, 1, 2, 0, 0, []),
  (30, .ifCond .ne 10, 3, 40, 0, 0, []),
  (33, .iload_n 3, 1, 3, 0, 0, []),
  (34, .invokestatic 198, 3, 278, 0, 0, []),
  (37, .goto 4, 3, 41, 0, 0, []),
  (40, .iload_n 3, 1, 3, 0, 0, []),
  (41, .ireturn, 1, 0, 0, 0, [])]
def mm_X11_words : mM := (11, yX11_words, cX11_words, 4, (some .int), 3, (3235, 3233, 3234, 1001, false), mo_X11_words)
def mo_X11_all : List mO := [
  (0, .iload_n 1, 1, 1, 0, 0, []),
  (1, .invokestatic 192, 3, 145, 0, 0, []),
  (4, .ifCond .ne 5, 3, 9, 0, 0, []),
  (7, .iconst (-1), 1, 0, (-1), 0, []),
  (8, .ireturn, 1, 0, 0, 0, []),
  (9, .aload_n 0, 1, 0, 0, 0, []),
  (10, .getfield 35, 3, 1103, 0, 0, []),
  (13, .invokevirtual 219, 3, 27, 0, 0, []),
  (16, .istore_n 2, 1, 2, 0, 0, []),
  (17, .iload_n 1, 1, 1, 0, 0, []),
  (18, .ifCond .ne 10, 3, 28, 0, 0, []),
  (21, .iload_n 2, 1, 2, 0, 0, []),
  (22, .invokestatic 198, 3, 278, 0, 0, []),
  (25, .goto 4, 3, 29, 0, 0, []),
  (28, .iload_n 2, 1, 2, 0, 0, []),
  (29, .ireturn, 1, 0, 0, 0, [])]
def mm_X11_all : mM := (11, yX11_all, cX11_all, 3, (some .int), 2, (4023, 4021, 4022, 1001, false), mo_X11_all)
def mo_X11_ring : List mO := [
  (0, .aload_n 0, 1, 0, 0, 0, []),
  (1, .getfield 35, 3, 1103, 0, 0, []),
  (4, .invokevirtual 222, 3, 30, 0, 0, []),
  (7, .ireturn, 1, 0, 0, 0, [])]
def mm_X11_ring : mM := (11, yX11_ring, cX11_ring, 1, (some .int), 1, (4044, 4042, 4043, 1001, false), mo_X11_ring)
def mo_X11_breaks : List mO := [
  (0, .aload_n 0, 1, 0, 0, 0, []),
  (1, .getfield 10, 3, 1100, 0, 0, []),
  (4, .iload_n 1, 1, 1, 0, 0, []),
  (5, .invokevirtual 82, 3, 60, 0, 0, []),
  (8, .ifCond .eq 10, 3, 18, 0, 0, []),
  (11, .iload_n 2, 1, 2, 0, 0, []),
  (12, .invokestatic 192, 3, 145, 0, 0, []),
  (15, .ifCond .ne 5, 3, 20, 0, 0, []),
  (18, .iconst (-1), 1, 0, (-1), 0, []),
  (19, .ireturn, 1, 0, 0, 0, []),
  (20, .aload_n 0, 1, 0, 0, 0, []),
  (21, .getfield 35, 3, 1103, 0, 0, []),
  (24, .iload_n 1, 1, 1, 0, 0, []),
  (25, .invokevirtual 225, 3, 25, 0, 0, []),
  (28, .istore_n 3, 1, 3, 0, 0, []),
  (29, .iload_n 3, 1, 3, 0, 0, []),
  (30, .ifCond .ge 6, 3, 36, 0, 0, []),
  (33, .bipush (-2), 2, 0, (-2), 0, []),
  (35, .ireturn, 1, 0, 0, 0, []),
  (36, .iload_n 2, 1, 2, 0, 0, []),
  (37, .ifCond .ne 14, 3, 51, 0, 0, []),
  (40, .aload_n 0, 1, 0, 0, 0, []),
  (41, .getfield 10, 3, 1100, 0, 0, []),
  (44, .iload_n 3, 1, 3, 0, 0, []),
  (45, .invokevirtual 228, 3, 79, 0, 0, []),
  (48, .goto 4, 3, 52, 0, 0, []),
  (51, .iload_n 3, 1, 3, 0, 0, []),
  (52, .ireturn, 1, 0, 0, 0, [])]
def mm_X11_breaks : mM := (11, yX11_breaks, cX11_breaks, 4, (some .int), 3, (4057, 4055, 4056, 1001, false), mo_X11_breaks)
def mo_X11_judge : List mO := [
  (0, .iload_n 1, 1, 1, 0, 0, []),
  (1, .bipush 10, 2, 0, 10, 0, []),
  (3, .idiv, 1, 0, 0, 0, []),
  (4, .istore_n 3, 1, 3, 0, 0, []),
  (5, .iload_n 1, 1, 1, 0, 0, []),
  (6, .bipush 10, 2, 0, 10, 0, []),
  (8, .irem, 1, 0, 0, 0, []),
  (9, .istore 4, 2, 4, 0, 0, []),
  (11, .iload_n 3, 1, 3, 0, 0, []),
  (12, .invokestatic 100, 3, 148, 0, 0, []),
  (15, .ifCond .eq 22, 3, 37, 0, 0, []),
  (18, .iload 4, 2, 4, 0, 0, []),
  (20, .invokestatic 100, 3, 148, 0, 0, []),
  (23, .ifCond .eq 14, 3, 37, 0, 0, []),
  (26, .aload_n 0, 1, 0, 0, 0, []),
  (27, .getfield 10, 3, 1100, 0, 0, []),
  (30, .iload_n 2, 1, 2, 0, 0, []),
  (31, .invokevirtual 82, 3, 60, 0, 0, []),
  (34, .ifCond .ne 5, 3, 39, 0, 0, []),
  (37, .iconst (-1), 1, 0, (-1), 0, []),
  (38, .ireturn, 1, 0, 0, 0, []),
  (39, .aload_n 0, 1, 0, 0, 0, []),
  (40, .getfield 69, 3, 1108, 0, 0, []),
  (43, .iload_n 3, 1, 3, 0, 0, []),
  (44, .aaload, 1, 0, 0, 0, []),
  (45, .invokevirtual 103, 3, 40, 0, 0, []),
  (48, .istore 5, 2, 5, 0, 0, []),
  (50, .iload 5, 2, 5, 0, 0, []),
  (52, .ifCond .ne 15, 3, 67, 0, 0, []),
  (55, .aload_n 0, 1, 0, 0, 0, []),
  (56, .getfield 69, 3, 1108, 0, 0, []),
  (59, .iload 4, 2, 4, 0, 0, []),
  (61, .aaload, 1, 0, 0, 0, []),
  (62, .invokevirtual 103, 3, 40, 0, 0, []),
  (65, .istore 5, 2, 5, 0, 0, []),
  (67, .iload 5, 2, 5, 0, 0, []),
  (69, .ifCond .eq 8, 3, 77, 0, 0, []),
  (72, .iload 5, 2, 5, 0, 0, []),
  (74, .goto 24, 3, 98, 0, 0, []),
  (77, .aload_n 0, 1, 0, 0, 0, []),
  (78, .getfield 28, 3, 1102, 0, 0, []),
  (81, .aload_n 0, 1, 0, 0, 0, []),
  (82, .getfield 69, 3, 1108, 0, 0, []),
  (85, .iload_n 3, 1, 3, 0, 0, []),
  (86, .aaload, 1, 0, 0, 0, []),
  (87, .aload_n 0, 1, 0, 0, 0, []),
  (88, .getfield 69, 3, 1108, 0, 0, []),
  (91, .iload 4, 2, 4, 0, 0, []),
  (93, .aaload, 1, 0, 0, 0, []),
  (94, .iload_n 2, 1, 2, 0, 0, []),
  (95, .invokevirtual 231, 3, 90, 0, 0, []),
  (98, .ireturn, 1, 0, 0, 0, [])]
def mm_X11_judge : mM := (11, yX11_judge, cX11_judge, 6, (some .int), 3, (4068, 4066, 4067, 1001, false), mo_X11_judge)
def mo_X11_can : List mO := [
  (0, .iload_n 1, 1, 1, 0, 0, []),
  (1, .invokestatic 100, 3, 148, 0, 0, []),
  (4, .ifCond .eq 14, 3, 18, 0, 0, []),
  (7, .aload_n 0, 1, 0, 0, 0, []),
  (8, .getfield 10, 3, 1100, 0, 0, []),
  (11, .iload_n 2, 1, 2, 0, 0, []),
  (12, .invokevirtual 82, 3, 60, 0, 0, []),
  (15, .ifCond .ne 5, 3, 20, 0, 0, []),
  (18, .iconst (-1), 1, 0, (-1), 0, []),
  (19, .ireturn, 1, 0, 0, 0, []),
  (20, .aload_n 0, 1, 0, 0, 0, []),
  (21, .getfield 69, 3, 1108, 0, 0, []),
  (24, .iload_n 1, 1, 1, 0, 0, []),
  (25, .aaload, 1, 0, 0, 0, []),
  (26, .invokevirtual 103, 3, 40, 0, 0, []),
  (29, .istore_n 3, 1, 3, 0, 0, []),
  (30, .iload_n 3, 1, 3, 0, 0, []),
  (31, .ifCond .eq 5, 3, 36, 0, 0, []),
  (34, .iload_n 3, 1, 3, 0, 0, []),
  (35, .ireturn, 1, 0, 0, 0, []),
  (36, .aload_n 0, 1, 0, 0, 0, []),
  (37, .getfield 28, 3, 1102, 0, 0, []),
  (40, .aload_n 0, 1, 0, 0, 0, []),
  (41, .getfield 69, 3, 1108, 0, 0, []),
  (44, .iload_n 1, 1, 1, 0, 0, []),
  (45, .aaload, 1, 0, 0, 0, []),
  (46, .iload_n 2, 1, 2, 0, 0, []),
  (47, .invokevirtual 235, 3, 91, 0, 0, []),
  (50, .ifCond .eq 7, 3, 57, 0, 0, []),
  (53, .iconst 1, 1, 0, 1, 0, []),
  (54, .goto 4, 3, 58, 0, 0, []),
  (57, .iconst 0, 1, 0, 0, 0, []),
  (58, .ireturn, 1, 0, 0, 0, [])]
def mm_X11_can : mM := (11, yX11_can, cX11_can, 4, (some .int), 3, (4081, 4079, 4080, 1001, false), mo_X11_can)
def mo_X11_who : List mO := [
  (0, .iload_n 1, 1, 1, 0, 0, []),
  (1, .invokestatic 100, 3, 148, 0, 0, []),
  (4, .ifCond .ne 5, 3, 9, 0, 0, []),
  (7, .iconst (-1), 1, 0, (-1), 0, []),
  (8, .ireturn, 1, 0, 0, 0, []),
  (9, .aload_n 0, 1, 0, 0, 0, []),
  (10, .getfield 69, 3, 1108, 0, 0, []),
  (13, .iload_n 1, 1, 1, 0, 0, []),
  (14, .aaload, 1, 0, 0, 0, []),
  (15, .invokevirtual 103, 3, 40, 0, 0, []),
  (18, .istore_n 2, 1, 2, 0, 0, []),
  (19, .iload_n 2, 1, 2, 0, 0, []),
  (20, .ifCond .eq 5, 3, 25, 0, 0, []),
  (23, .iload_n 2, 1, 2, 0, 0, []),
  (24, .ireturn, 1, 0, 0, 0, []),
  (25, .iconst 0, 1, 0, 0, 0, []),
  (26, .istore_n 3, 1, 3, 0, 0, []),
  (27, .iconst 0, 1, 0, 0, 0, []),
  (28, .istore 4, 2, 4, 0, 0, []),
  (30, .iload 4, 2, 4, 0, 0, []),
  (32, .aload_n 0, 1, 0, 0, 0, []),
  (33, .getfield 10, 3, 1100, 0, 0, []),
  (36, .getfield 238, 3, 912, 0, 0, []),
  (39, .if_icmp .ge 34, 3, 73, 0, 0, []),
  (42, .aload_n 0, 1, 0, 0, 0, []),
  (43, .getfield 28, 3, 1102, 0, 0, []),
  (46, .aload_n 0, 1, 0, 0, 0, []),
  (47, .getfield 69, 3, 1108, 0, 0, []),
  (50, .iload_n 1, 1, 1, 0, 0, []),
  (51, .aaload, 1, 0, 0, 0, []),
  (52, .iload 4, 2, 4, 0, 0, []),
  (54, .invokevirtual 235, 3, 91, 0, 0, []),
  (57, .ifCond .eq 10, 3, 67, 0, 0, []),
  (60, .iload_n 3, 1, 3, 0, 0, []),
  (61, .iconst 1, 1, 0, 1, 0, []),
  (62, .iload 4, 2, 4, 0, 0, []),
  (64, .ishl, 1, 0, 0, 0, []),
  (65, .ior, 1, 0, 0, 0, []),
  (66, .istore_n 3, 1, 3, 0, 0, []),
  (67, .iinc 4 1, 3, 4, 1, 0, []),
  (70, .goto (-40), 3, 30, 0, 0, []),
  (73, .iload_n 3, 1, 3, 0, 0, []),
  (74, .ireturn, 1, 0, 0, 0, [])]
def mm_X11_who : mM := (11, yX11_who, cX11_who, 5, (some .int), 2, (4089, 4087, 4088, 1001, false), mo_X11_who)
def mo_X11_feeds : List mO := [
  (0, .iload_n 1, 1, 1, 0, 0, []),
  (1, .invokestatic 74, 3, 147, 0, 0, []),
  (4, .ifCond .eq 8, 3, 12, 0, 0, []),
  (7, .iload_n 2, 1, 2, 0, 0, []),
  (8, .iconst (-1), 1, 0, (-1), 0, []),
  (9, .if_icmp .ge 5, 3, 14, 0, 0, []),
  (12, .iconst (-1), 1, 0, (-1), 0, []),
  (13, .ireturn, 1, 0, 0, 0, []),
  (14, .aload_n 0, 1, 0, 0, 0, []),
  (15, .getfield 42, 3, 1104, 0, 0, []),
  (18, .iload_n 1, 1, 1, 0, 0, []),
  (19, .aload_n 0, 1, 0, 0, 0, []),
  (20, .getfield 10, 3, 1100, 0, 0, []),
  (23, .invokevirtual 241, 3, 78, 0, 0, []),
  (26, .iload_n 2, 1, 2, 0, 0, []),
  (27, .invokevirtual 244, 3, 34, 0, 0, []),
  (30, .ireturn, 1, 0, 0, 0, [])]
def mm_X11_feeds : mM := (11, yX11_feeds, cX11_feeds, 3, (some .int), 3, (4093, 4091, 4092, 1001, false), mo_X11_feeds)
def mo_X11_odds : List mO := [
  (0, .aload_n 0, 1, 0, 0, 0, []),
  (1, .getfield 10, 3, 1100, 0, 0, []),
  (4, .iload_n 1, 1, 1, 0, 0, []),
  (5, .invokevirtual 82, 3, 60, 0, 0, []),
  (8, .ifCond .eq 10, 3, 18, 0, 0, []),
  (11, .iload_n 2, 1, 2, 0, 0, []),
  (12, .invokestatic 192, 3, 145, 0, 0, []),
  (15, .ifCond .ne 7, 3, 22, 0, 0, []),
  (18, .ldc2_w 249, 3, 4123, 0, (-9223372036854775808), []),
  (21, .lreturn, 1, 0, 0, 0, []),
  (22, .aload_n 0, 1, 0, 0, 0, []),
  (23, .getfield 35, 3, 1103, 0, 0, []),
  (26, .iload_n 1, 1, 1, 0, 0, []),
  (27, .iload_n 2, 1, 2, 0, 0, []),
  (28, .invokevirtual 251, 3, 33, 0, 0, []),
  (31, .lreturn, 1, 0, 0, 0, [])]
def mm_X11_odds : mM := (11, yX11_odds, cX11_odds, 3, (some .long), 3, (4122, 4120, 4121, 1001, false), mo_X11_odds)
def mo_X11_rued : List mO := [
  (0, .aload_n 0, 1, 0, 0, 0, []),
  (1, .getfield 10, 3, 1100, 0, 0, []),
  (4, .iload_n 1, 1, 1, 0, 0, []),
  (5, .invokevirtual 82, 3, 60, 0, 0, []),
  (8, .ifCond .eq 13, 3, 21, 0, 0, []),
  (11, .iload_n 2, 1, 2, 0, 0, []),
  (12, .ifCond .lt 9, 3, 21, 0, 0, []),
  (15, .iload_n 2, 1, 2, 0, 0, []),
  (16, .bipush 8, 2, 0, 8, 0, []),
  (18, .if_icmp .le 5, 3, 23, 0, 0, []),
  (21, .iconst (-1), 1, 0, (-1), 0, []),
  (22, .ireturn, 1, 0, 0, 0, []),
  (23, .aload_n 0, 1, 0, 0, 0, []),
  (24, .getfield 28, 3, 1102, 0, 0, []),
  (27, .iload_n 1, 1, 1, 0, 0, []),
  (28, .iload_n 2, 1, 2, 0, 0, []),
  (29, .invokevirtual 255, 3, 88, 0, 0, []),
  (32, .ireturn, 1, 0, 0, 0, [])]
def mm_X11_rued : mM := (11, yX11_rued, cX11_rued, 3, (some .int), 3, (4132, 4130, 4131, 1001, false), mo_X11_rued)
def mo_X11_byTurns : List mO := [
  (0, .iload_n 1, 1, 1, 0, 0, []),
  (1, .bipush 10, 2, 0, 10, 0, []),
  (3, .idiv, 1, 0, 0, 0, []),
  (4, .istore 5, 2, 5, 0, 0, []),
  (6, .iload_n 1, 1, 1, 0, 0, []),
  (7, .bipush 10, 2, 0, 10, 0, []),
  (9, .irem, 1, 0, 0, 0, []),
  (10, .istore 6, 2, 6, 0, 0, []),
  (12, .aload_n 0, 1, 0, 0, 0, []),
  (13, .getfield 10, 3, 1100, 0, 0, []),
  (16, .iload 5, 2, 5, 0, 0, []),
  (18, .invokevirtual 82, 3, 60, 0, 0, []),
  (21, .ifCond .eq 47, 3, 68, 0, 0, []),
  (24, .aload_n 0, 1, 0, 0, 0, []),
  (25, .getfield 10, 3, 1100, 0, 0, []),
  (28, .iload 6, 2, 6, 0, 0, []),
  (30, .invokevirtual 82, 3, 60, 0, 0, []),
  (33, .ifCond .eq 35, 3, 68, 0, 0, []),
  (36, .iload 5, 2, 5, 0, 0, []),
  (38, .iload 6, 2, 6, 0, 0, []),
  (40, .if_icmp .eq 28, 3, 68, 0, 0, []),
  (43, .iload_n 2, 1, 2, 0, 0, []),
  (44, .invokestatic 74, 3, 147, 0, 0, []),
  (47, .ifCond .eq 21, 3, 68, 0, 0, []),
  (50, .iload_n 3, 1, 3, 0, 0, []),
  (51, .iconst 1, 1, 0, 1, 0, []),
  (52, .if_icmp .lt 16, 3, 68, 0, 0, []),
  (55, .iload_n 3, 1, 3, 0, 0, []),
  (56, .iconst 5, 1, 0, 5, 0, []),
  (57, .if_icmp .gt 11, 3, 68, 0, 0, []),
  (60, .iload 4, 2, 4, 0, 0, []),
  (62, .invokestatic 192, 3, 145, 0, 0, []),
  (65, .ifCond .ne 5, 3, 70, 0, 0, []),
  (68, .iconst (-1), 1, 0, (-1), 0, []),
  (69, .ireturn, 1, 0, 0, 0, []),
  (70, .aload_n 0, 1, 0, 0, 0, []),
  (71, .getfield 28, 3, 1102, 0, 0, []),
  (74, .iload 5, 2, 5, 0, 0, []),
  (76, .iload 6, 2, 6, 0, 0, []),
  (78, .iload_n 2, 1, 2, 0, 0, []),
  (79, .iload_n 3, 1, 3, 0, 0, []),
  (80, .iload 4, 2, 4, 0, 0, []),
  (82, .invokevirtual 258, 3, 93, 0, 0, []),
  (85, .ireturn, 1, 0, 0, 0, [])]
def mm_X11_byTurns : mM := (11, yX11_byTurns, cX11_byTurns, 7, (some .int), 5, (4145, 4143, 4144, 1001, false), mo_X11_byTurns)
def mo_X11_drawn : List mO := [
  (0, .iload_n 2, 1, 2, 0, 0, []),
  (1, .bipush 100, 2, 0, 100, 0, []),
  (3, .idiv, 1, 0, 0, 0, []),
  (4, .istore 5, 2, 5, 0, 0, []),
  (6, .iload_n 2, 1, 2, 0, 0, []),
  (7, .bipush 100, 2, 0, 100, 0, []),
  (9, .irem, 1, 0, 0, 0, []),
  (10, .istore 6, 2, 6, 0, 0, []),
  (12, .iload 5, 2, 5, 0, 0, []),
  (14, .iconst 1, 1, 0, 1, 0, []),
  (15, .if_icmp .lt 48, 3, 63, 0, 0, []),
  (18, .iload 5, 2, 5, 0, 0, []),
  (20, .bipush 30, 2, 0, 30, 0, []),
  (22, .if_icmp .gt 41, 3, 63, 0, 0, []),
  (25, .iload 6, 2, 6, 0, 0, []),
  (27, .iconst 1, 1, 0, 1, 0, []),
  (28, .if_icmp .lt 35, 3, 63, 0, 0, []),
  (31, .iload 6, 2, 6, 0, 0, []),
  (33, .bipush 40, 2, 0, 40, 0, []),
  (35, .if_icmp .gt 28, 3, 63, 0, 0, []),
  (38, .aload_n 0, 1, 0, 0, 0, []),
  (39, .getfield 10, 3, 1100, 0, 0, []),
  (42, .iload_n 3, 1, 3, 0, 0, []),
  (43, .invokevirtual 82, 3, 60, 0, 0, []),
  (46, .ifCond .eq 17, 3, 63, 0, 0, []),
  (49, .iload 4, 2, 4, 0, 0, []),
  (51, .iconst (-1), 1, 0, (-1), 0, []),
  (52, .if_icmp .eq 13, 3, 65, 0, 0, []),
  (55, .iload 4, 2, 4, 0, 0, []),
  (57, .invokestatic 74, 3, 147, 0, 0, []),
  (60, .ifCond .ne 5, 3, 65, 0, 0, []),
  (63, .iconst (-1), 1, 0, (-1), 0, []),
  (64, .ireturn, 1, 0, 0, 0, []),
  (65, .aload_n 0, 1, 0, 0, 0, []),
  (66, .getfield 28, 3, 1102, 0, 0, []),
  (69, .iload_n 1, 1, 1, 0, 0, []),
  (70, .iload 5, 2, 5, 0, 0, []),
  (72, .iload 6, 2, 6, 0, 0, []),
  (74, .iload_n 3, 1, 3, 0, 0, []),
  (75, .iload 4, 2, 4, 0, 0, []),
  (77, .invokevirtual 261, 3, 97, 0, 0, []),
  (80, .ireturn, 1, 0, 0, 0, [])]
def mm_X11_drawn : mM := (11, yX11_drawn, cX11_drawn, 7, (some .int), 5, (4171, 4169, 4170, 1001, false), mo_X11_drawn)
def mo_X11_step : List mO := [
  (0, .aload_n 0, 1, 0, 0, 0, []),
  (1, .getfield 10, 3, 1100, 0, 0, []),
  (4, .iload_n 1, 1, 1, 0, 0, []),
  (5, .invokevirtual 82, 3, 60, 0, 0, []),
  (8, .ifCond .eq 12, 3, 20, 0, 0, []),
  (11, .iload_n 2, 1, 2, 0, 0, []),
  (12, .ifCond .lt 8, 3, 20, 0, 0, []),
  (15, .iload_n 2, 1, 2, 0, 0, []),
  (16, .iconst 5, 1, 0, 5, 0, []),
  (17, .if_icmp .lt 5, 3, 22, 0, 0, []),
  (20, .iconst (-1), 1, 0, (-1), 0, []),
  (21, .ireturn, 1, 0, 0, 0, []),
  (22, .aload_n 0, 1, 0, 0, 0, []),
  (23, .getfield 10, 3, 1100, 0, 0, []),
  (26, .iload_n 1, 1, 1, 0, 0, []),
  (27, .invokevirtual 195, 3, 74, 0, 0, []),
  (30, .ifCond .eq 19, 3, 49, 0, 0, []),
  (33, .aload_n 0, 1, 0, 0, 0, []),
  (34, .getfield 10, 3, 1100, 0, 0, []),
  (37, .getfield 97, 3, 908, 0, 0, []),
  (40, .iconst 2, 1, 0, 2, 0, []),
  (41, .dup2, 1, 0, 0, 0, []),
  (42, .iaload, 1, 0, 0, 0, []),
  (43, .iconst 1, 1, 0, 1, 0, []),
  (44, .iadd, 1, 0, 0, 0, []),
  (45, .iastore, 1, 0, 0, 0, []),
  (46, .goto 38, 3, 84, 0, 0, []),
  (49, .aload_n 0, 1, 0, 0, 0, []),
  (50, .getfield 10, 3, 1100, 0, 0, []),
  (53, .getfield 97, 3, 908, 0, 0, []),
  (56, .iconst 1, 1, 0, 1, 0, []),
  (57, .dup2, 1, 0, 0, 0, []),
  (58, .iaload, 1, 0, 0, 0, []),
  (59, .iconst 1, 1, 0, 1, 0, []),
  (60, .iadd, 1, 0, 0, 0, []),
  (61, .iastore, 1, 0, 0, 0, []),
  (62, .aload_n 0, 1, 0, 0, 0, []),
  (63, .getfield 10, 3, 1100, 0, 0, []),
  (66, .getfield 85, 3, 900, 0, 0, []),
  (69, .iload_n 1, 1, 1, 0, 0, []),
  (70, .aload_n 0, 1, 0, 0, 0, []),
  (71, .getfield 10, 3, 1100, 0, 0, []),
  (74, .getfield 85, 3, 900, 0, 0, []),
  (77, .iload_n 1, 1, 1, 0, 0, []),
  (78, .iaload, 1, 0, 0, 0, []),
  (79, .iload_n 2, 1, 2, 0, 0, []),
  (80, .invokestatic 264, 3, 151, 0, 0, []),
  (83, .iastore, 1, 0, 0, 0, []),
  (84, .aload_n 0, 1, 0, 0, 0, []),
  (85, .getfield 10, 3, 1100, 0, 0, []),
  (88, .getfield 85, 3, 900, 0, 0, []),
  (91, .iload_n 1, 1, 1, 0, 0, []),
  (92, .iaload, 1, 0, 0, 0, []),
  (93, .ireturn, 1, 0, 0, 0, [])]
def mm_X11_step : mM := (11, yX11_step, cX11_step, 3, (some .int), 3, (4180, 4178, 4179, 1001, false), mo_X11_step)
def mo_X11_pull : List mO := [
  (0, .aload_n 0, 1, 0, 0, 0, []),
  (1, .getfield 10, 3, 1100, 0, 0, []),
  (4, .iload_n 1, 1, 1, 0, 0, []),
  (5, .invokevirtual 173, 3, 61, 0, 0, []),
  (8, .ifCond .ne 5, 3, 13, 0, 0, []),
  (11, .iconst (-1), 1, 0, (-1), 0, []),
  (12, .ireturn, 1, 0, 0, 0, []),
  (13, .aload_n 0, 1, 0, 0, 0, []),
  (14, .getfield 10, 3, 1100, 0, 0, []),
  (17, .getfield 267, 3, 902, 0, 0, []),
  (20, .iload_n 1, 1, 1, 0, 0, []),
  (21, .iaload, 1, 0, 0, 0, []),
  (22, .istore_n 2, 1, 2, 0, 0, []),
  (23, .aload_n 0, 1, 0, 0, 0, []),
  (24, .getfield 10, 3, 1100, 0, 0, []),
  (27, .iload_n 2, 1, 2, 0, 0, []),
  (28, .invokevirtual 195, 3, 74, 0, 0, []),
  (31, .iload_n 1, 1, 1, 0, 0, []),
  (32, .invokestatic 270, 3, 146, 0, 0, []),
  (35, .ifCond .eq 16, 3, 51, 0, 0, []),
  (38, .aload_n 0, 1, 0, 0, 0, []),
  (39, .getfield 10, 3, 1100, 0, 0, []),
  (42, .getfield 273, 3, 901, 0, 0, []),
  (45, .iload_n 2, 1, 2, 0, 0, []),
  (46, .iaload, 1, 0, 0, 0, []),
  (47, .iconst 1, 1, 0, 1, 0, []),
  (48, .if_icmp .ge 6, 3, 54, 0, 0, []),
  (51, .bipush (-5), 2, 0, (-5), 0, []),
  (53, .ireturn, 1, 0, 0, 0, []),
  (54, .aload_n 0, 1, 0, 0, 0, []),
  (55, .getfield 10, 3, 1100, 0, 0, []),
  (58, .dup, 1, 0, 0, 0, []),
  (59, .getfield 276, 3, 915, 0, 0, []),
  (62, .iconst 1, 1, 0, 1, 0, []),
  (63, .iload_n 1, 1, 1, 0, 0, []),
  (64, .ishl, 1, 0, 0, 0, []),
  (65, .ior, 1, 0, 0, 0, []),
  (66, .putfield 276, 3, 915, 0, 0, []),
  (69, .aload_n 0, 1, 0, 0, 0, []),
  (70, .getfield 10, 3, 1100, 0, 0, []),
  (73, .getfield 273, 3, 901, 0, 0, []),
  (76, .iload_n 2, 1, 2, 0, 0, []),
  (77, .dup2, 1, 0, 0, 0, []),
  (78, .iaload, 1, 0, 0, 0, []),
  (79, .iconst 1, 1, 0, 1, 0, []),
  (80, .isub, 1, 0, 0, 0, []),
  (81, .iastore, 1, 0, 0, 0, []),
  (82, .aload_n 0, 1, 0, 0, 0, []),
  (83, .getfield 10, 3, 1100, 0, 0, []),
  (86, .getfield 97, 3, 908, 0, 0, []),
  (89, .iconst 3, 1, 0, 3, 0, []),
  (90, .dup2, 1, 0, 0, 0, []),
  (91, .iaload, 1, 0, 0, 0, []),
  (92, .iconst 1, 1, 0, 1, 0, []),
  (93, .iadd, 1, 0, 0, 0, []),
  (94, .iastore, 1, 0, 0, 0, []),
  (95, .aload_n 0, 1, 0, 0, 0, []),
  (96, .getfield 10, 3, 1100, 0, 0, []),
  (99, .getfield 273, 3, 901, 0, 0, []),
  (102, .iload_n 2, 1, 2, 0, 0, []),
  (103, .iaload, 1, 0, 0, 0, []),
  (104, .ireturn, 1, 0, 0, 0, [])]
def mm_X11_pull : mM := (11, yX11_pull, cX11_pull, 3, (some .int), 2, (4185, 4183, 4184, 1001, false), mo_X11_pull)
def mo_X11_letOff : List mO := [
  (0, .aload_n 0, 1, 0, 0, 0, []),
  (1, .getfield 10, 3, 1100, 0, 0, []),
  (4, .iload_n 1, 1, 1, 0, 0, []),
  (5, .invokevirtual 173, 3, 61, 0, 0, []),
  (8, .ifCond .ne 5, 3, 13, 0, 0, []),
  (11, .iconst (-1), 1, 0, (-1), 0, []),
  (12, .ireturn, 1, 0, 0, 0, []),
  (13, .aload_n 0, 1, 0, 0, 0, []),
  (14, .getfield 10, 3, 1100, 0, 0, []),
  (17, .getfield 276, 3, 915, 0, 0, []),
  (20, .iload_n 1, 1, 1, 0, 0, []),
  (21, .invokestatic 270, 3, 146, 0, 0, []),
  (24, .ifCond .eq 6, 3, 30, 0, 0, []),
  (27, .bipush (-5), 2, 0, (-5), 0, []),
  (29, .ireturn, 1, 0, 0, 0, []),
  (30, .aload_n 0, 1, 0, 0, 0, []),
  (31, .getfield 10, 3, 1100, 0, 0, []),
  (34, .dup, 1, 0, 0, 0, []),
  (35, .getfield 276, 3, 915, 0, 0, []),
  (38, .iconst 1, 1, 0, 1, 0, []),
  (39, .iload_n 1, 1, 1, 0, 0, []),
  (40, .ishl, 1, 0, 0, 0, []),
  (41, .ior, 1, 0, 0, 0, []),
  (42, .putfield 276, 3, 915, 0, 0, []),
  (45, .aload_n 0, 1, 0, 0, 0, []),
  (46, .getfield 10, 3, 1100, 0, 0, []),
  (49, .getfield 97, 3, 908, 0, 0, []),
  (52, .iconst 4, 1, 0, 4, 0, []),
  (53, .dup2, 1, 0, 0, 0, []),
  (54, .iaload, 1, 0, 0, 0, []),
  (55, .iconst 1, 1, 0, 1, 0, []),
  (56, .iadd, 1, 0, 0, 0, []),
  (57, .iastore, 1, 0, 0, 0, []),
  (58, .iconst 1, 1, 0, 1, 0, []),
  (59, .ireturn, 1, 0, 0, 0, [])]
def mm_X11_letOff : mM := (11, yX11_letOff, cX11_letOff, 2, (some .int), 2, (4190, 4188, 4189, 1001, false), mo_X11_letOff)
def mo_X11_forget : List mO := [
  (0, .aload_n 0, 1, 0, 0, 0, []),
  (1, .getfield 10, 3, 1100, 0, 0, []),
  (4, .iload_n 1, 1, 1, 0, 0, []),
  (5, .invokevirtual 173, 3, 61, 0, 0, []),
  (8, .ifCond .ne 5, 3, 13, 0, 0, []),
  (11, .iconst (-1), 1, 0, (-1), 0, []),
  (12, .ireturn, 1, 0, 0, 0, []),
  (13, .aload_n 0, 1, 0, 0, 0, []),
  (14, .getfield 10, 3, 1100, 0, 0, []),
  (17, .getfield 279, 3, 914, 0, 0, []),
  (20, .iload_n 1, 1, 1, 0, 0, []),
  (21, .invokestatic 270, 3, 146, 0, 0, []),
  (24, .ifCond .eq 6, 3, 30, 0, 0, []),
  (27, .bipush (-5), 2, 0, (-5), 0, []),
  (29, .ireturn, 1, 0, 0, 0, []),
  (30, .aload_n 0, 1, 0, 0, 0, []),
  (31, .getfield 10, 3, 1100, 0, 0, []),
  (34, .dup, 1, 0, 0, 0, []),
  (35, .getfield 279, 3, 914, 0, 0, []),
  (38, .iconst 1, 1, 0, 1, 0, []),
  (39, .iload_n 1, 1, 1, 0, 0, []),
  (40, .ishl, 1, 0, 0, 0, []),
  (41, .ior, 1, 0, 0, 0, []),
  (42, .putfield 279, 3, 914, 0, 0, []),
  (45, .iconst 1, 1, 0, 1, 0, []),
  (46, .ireturn, 1, 0, 0, 0, [])]
def mm_X11_forget : mM := (11, yX11_forget, cX11_forget, 2, (some .int), 2, (4194, 4192, 4193, 1001, false), mo_X11_forget)
def mo_X11_day : List mO := [
  (0, .aload_n 0, 1, 0, 0, 0, []),
  (1, .getfield 10, 3, 1100, 0, 0, []),
  (4, .aload_n 0, 1, 0, 0, 0, []),
  (5, .getfield 10, 3, 1100, 0, 0, []),
  (8, .getfield 282, 3, 917, 0, 0, []),
  (11, .iconst 1, 1, 0, 1, 0, []),
  (12, .invokestatic 285, 3, 150, 0, 0, []),
  (15, .putfield 282, 3, 917, 0, 0, []),
  (18, .aload_n 0, 1, 0, 0, 0, []),
  (19, .getfield 10, 3, 1100, 0, 0, []),
  (22, .getfield 97, 3, 908, 0, 0, []),
  (25, .iconst 5, 1, 0, 5, 0, []),
  (26, .dup2, 1, 0, 0, 0, []),
  (27, .iaload, 1, 0, 0, 0, []),
  (28, .iconst 1, 1, 0, 1, 0, []),
  (29, .iadd, 1, 0, 0, 0, []),
  (30, .iastore, 1, 0, 0, 0, []),
  (31, .aload_n 0, 1, 0, 0, 0, []),
  (32, .getfield 10, 3, 1100, 0, 0, []),
  (35, .getfield 282, 3, 917, 0, 0, []),
  (38, .ireturn, 1, 0, 0, 0, [])]
def mm_X11_day : mM := (11, yX11_day, cX11_day, 1, (some .int), 1, (4198, 4196, 4197, 1001, false), mo_X11_day)
def mo_X11_led : List mO := [
  (0, .iload_n 1, 1, 1, 0, 0, []),
  (1, .ifCond .lt 9, 3, 10, 0, 0, []),
  (4, .iload_n 1, 1, 1, 0, 0, []),
  (5, .bipush 6, 2, 0, 6, 0, []),
  (7, .if_icmp .lt 5, 3, 12, 0, 0, []),
  (10, .iconst (-1), 1, 0, (-1), 0, []),
  (11, .ireturn, 1, 0, 0, 0, []),
  (12, .aload_n 0, 1, 0, 0, 0, []),
  (13, .getfield 10, 3, 1100, 0, 0, []),
  (16, .getfield 97, 3, 908, 0, 0, []),
  (19, .iload_n 1, 1, 1, 0, 0, []),
  (20, .iaload, 1, 0, 0, 0, []),
  (21, .ireturn, 1, 0, 0, 0, [])]
def mm_X11_led : mM := (11, yX11_led, cX11_led, 2, (some .int), 2, (4203, 4201, 4202, 1001, false), mo_X11_led)
def mo_X11_image : List mO := [
  (0, .aload_n 0, 1, 0, 0, 0, []),
  (1, .getfield 56, 3, 1106, 0, 0, []),
  (4, .aload_n 0, 1, 0, 0, 0, []),
  (5, .getfield 10, 3, 1100, 0, 0, []),
  (8, .invokevirtual 288, 3, 13, 0, 0, []),
  (11, .aload_n 0, 1, 0, 0, 0, []),
  (12, .getfield 10, 3, 1100, 0, 0, []),
  (15, .getfield 97, 3, 908, 0, 0, []),
  (18, .iconst 5, 1, 0, 5, 0, []),
  (19, .iaload, 1, 0, 0, 0, []),
  (20, .ireturn, 1, 0, 0, 0, [])]
def mm_X11_image : mM := (11, yX11_image, cX11_image, 1, (some .int), 1, (4207, 4205, 4206, 1001, false), mo_X11_image)
def mo_X11_back : List mO := [
  (0, .aload_n 0, 1, 0, 0, 0, []),
  (1, .getfield 56, 3, 1106, 0, 0, []),
  (4, .getfield 291, 3, 208, 0, 0, []),
  (7, .ifCond .ne 6, 3, 13, 0, 0, []),
  (10, .bipush (-5), 2, 0, (-5), 0, []),
  (12, .ireturn, 1, 0, 0, 0, []),
  (13, .aload_n 0, 1, 0, 0, 0, []),
  (14, .getfield 56, 3, 1106, 0, 0, []),
  (17, .aload_n 0, 1, 0, 0, 0, []),
  (18, .getfield 10, 3, 1100, 0, 0, []),
  (21, .invokevirtual 295, 3, 14, 0, 0, []),
  (24, .aload_n 0, 1, 0, 0, 0, []),
  (25, .getfield 10, 3, 1100, 0, 0, []),
  (28, .getfield 97, 3, 908, 0, 0, []),
  (31, .iconst 5, 1, 0, 5, 0, []),
  (32, .iaload, 1, 0, 0, 0, []),
  (33, .ireturn, 1, 0, 0, 0, [])]
def mm_X11_back : mM := (11, yX11_back, cX11_back, 1, (some .int), 1, (4218, 4216, 4217, 1001, false), mo_X11_back)
def mo_X11_undo : List mO := [
  (0, .aload_n 0, 1, 0, 0, 0, []),
  (1, .getfield 49, 3, 1105, 0, 0, []),
  (4, .invokevirtual 298, 3, 11, 0, 0, []),
  (7, .ireturn, 1, 0, 0, 0, [])]
def mm_X11_undo : mM := (11, yX11_undo, cX11_undo, 1, (some .int), 1, (4226, 4224, 4225, 1001, false), mo_X11_undo)
def mo_X11_redo : List mO := [
  (0, .aload_n 0, 1, 0, 0, 0, []),
  (1, .getfield 49, 3, 1105, 0, 0, []),
  (4, .invokevirtual 301, 3, 12, 0, 0, []),
  (7, .ireturn, 1, 0, 0, 0, [])]
def mm_X11_redo : mM := (11, yX11_redo, cX11_redo, 1, (some .int), 1, (4235, 4233, 4234, 1001, false), mo_X11_redo)
def mo_X11_body : List mO := [
  (0, .iload_n 1, 1, 1, 0, 0, []),
  (1, .invokestatic 304, 3, 149, 0, 0, []),
  (4, .ifCond .ne 5, 3, 9, 0, 0, []),
  (7, .iconst (-1), 1, 0, (-1), 0, []),
  (8, .ireturn, 1, 0, 0, 0, []),
  (9, .aload_n 0, 1, 0, 0, 0, []),
  (10, .getfield 63, 3, 1107, 0, 0, []),
  (13, .iload_n 1, 1, 1, 0, 0, []),
  (14, .invokevirtual 307, 3, 0, 0, 0, []),
  (17, .ireturn, 1, 0, 0, 0, [])]
def mm_X11_body : mM := (11, yX11_body, cX11_body, 2, (some .int), 2, (5003, 5001, 5002, 1001, false), mo_X11_body)
def mo_X11_act : List mO := [
  (0, .aload_n 0, 1, 0, 0, 0, []),
  (1, .getfield 63, 3, 1107, 0, 0, []),
  (4, .iload_n 1, 1, 1, 0, 0, []),
  (5, .iload_n 2, 1, 2, 0, 0, []),
  (6, .iload_n 3, 1, 3, 0, 0, []),
  (7, .invokevirtual 309, 3, 5, 0, 0, []),
  (10, .ireturn, 1, 0, 0, 0, [])]
def mm_X11_act : mM := (11, yX11_act, cX11_act, 4, (some .int), 4, (5014, 5012, 5013, 1001, false), mo_X11_act)
def mo_X11_trace : List mO := [
  (0, .aload_n 0, 1, 0, 0, 0, []),
  (1, .getfield 63, 3, 1107, 0, 0, []),
  (4, .iload_n 1, 1, 1, 0, 0, []),
  (5, .invokevirtual 312, 3, 4, 0, 0, []),
  (8, .ireturn, 1, 0, 0, 0, [])]
def mm_X11_trace : mM := (11, yX11_trace, cX11_trace, 2, (some .int), 2, (5047, 5045, 5046, 1001, false), mo_X11_trace)
def mo_X11_keep : List mO := [
  (0, .iload_n 1, 1, 1, 0, 0, []),
  (1, .invokestatic 100, 3, 148, 0, 0, []),
  (4, .ifCond .eq 19, 3, 23, 0, 0, []),
  (7, .iload_n 2, 1, 2, 0, 0, []),
  (8, .iconst (-1), 1, 0, (-1), 0, []),
  (9, .if_icmp .eq 16, 3, 25, 0, 0, []),
  (12, .aload_n 0, 1, 0, 0, 0, []),
  (13, .getfield 63, 3, 1107, 0, 0, []),
  (16, .iload_n 2, 1, 2, 0, 0, []),
  (17, .invokevirtual 315, 3, 1, 0, 0, []),
  (20, .ifCond .ne 5, 3, 25, 0, 0, []),
  (23, .iconst (-1), 1, 0, (-1), 0, []),
  (24, .ireturn, 1, 0, 0, 0, []),
  (25, .aload_n 0, 1, 0, 0, 0, []),
  (26, .getfield 69, 3, 1108, 0, 0, []),
  (29, .iload_n 1, 1, 1, 0, 0, []),
  (30, .aaload, 1, 0, 0, 0, []),
  (31, .iload_n 2, 1, 2, 0, 0, []),
  (32, .invokevirtual 318, 3, 38, 0, 0, []),
  (35, .iconst 1, 1, 0, 1, 0, []),
  (36, .ireturn, 1, 0, 0, 0, [])]
def mm_X11_keep : mM := (11, yX11_keep, cX11_keep, 3, (some .int), 3, (5055, 5053, 5054, 1001, false), mo_X11_keep)
def mo_X11_row : List mO := [
  (0, .iload_n 1, 1, 1, 0, 0, []),
  (1, .invokestatic 100, 3, 148, 0, 0, []),
  (4, .ifCond .eq 18, 3, 22, 0, 0, []),
  (7, .iload_n 2, 1, 2, 0, 0, []),
  (8, .ifCond .lt 14, 3, 22, 0, 0, []),
  (11, .iload_n 2, 1, 2, 0, 0, []),
  (12, .iconst 5, 1, 0, 5, 0, []),
  (13, .if_icmp .ge 9, 3, 22, 0, 0, []),
  (16, .iload_n 3, 1, 3, 0, 0, []),
  (17, .bipush 60, 2, 0, 60, 0, []),
  (19, .if_icmp .le 5, 3, 24, 0, 0, []),
  (22, .iconst (-1), 1, 0, (-1), 0, []),
  (23, .ireturn, 1, 0, 0, 0, []),
  (24, .iload_n 3, 1, 3, 0, 0, []),
  (25, .ifCond .ge 6, 3, 31, 0, 0, []),
  (28, .bipush (-14), 2, 0, (-14), 0, []),
  (30, .ireturn, 1, 0, 0, 0, []),
  (31, .aload_n 0, 1, 0, 0, 0, []),
  (32, .getfield 69, 3, 1108, 0, 0, []),
  (35, .iload_n 1, 1, 1, 0, 0, []),
  (36, .aaload, 1, 0, 0, 0, []),
  (37, .iload_n 2, 1, 2, 0, 0, []),
  (38, .iload_n 3, 1, 3, 0, 0, []),
  (39, .invokevirtual 322, 3, 39, 0, 0, []),
  (42, .iconst 1, 1, 0, 1, 0, []),
  (43, .ireturn, 1, 0, 0, 0, [])]
def mm_X11_row : mM := (11, yX11_row, cX11_row, 4, (some .int), 4, (5064, 5062, 5063, 1001, false), mo_X11_row)
def mo_X11_put : List mO := [
  (0, .iload_n 1, 1, 1, 0, 0, []),
  (1, .invokestatic 100, 3, 148, 0, 0, []),
  (4, .ifCond .ne 5, 3, 9, 0, 0, []),
  (7, .iconst (-1), 1, 0, (-1), 0, []),
  (8, .ireturn, 1, 0, 0, 0, []),
  (9, .aload_n 0, 1, 0, 0, 0, []),
  (10, .getfield 69, 3, 1108, 0, 0, []),
  (13, .iload_n 1, 1, 1, 0, 0, []),
  (14, .aaload, 1, 0, 0, 0, []),
  (15, .iload_n 2, 1, 2, 0, 0, []),
  (16, .invokevirtual 326, 3, 41, 0, 0, []),
  (19, .istore 5, 2, 5, 0, 0, []),
  (21, .iload 5, 2, 5, 0, 0, []),
  (23, .ifCond .eq 6, 3, 29, 0, 0, []),
  (26, .iload 5, 2, 5, 0, 0, []),
  (28, .ireturn, 1, 0, 0, 0, []),
  (29, .aload_n 0, 1, 0, 0, 0, []),
  (30, .getfield 69, 3, 1108, 0, 0, []),
  (33, .iload_n 1, 1, 1, 0, 0, []),
  (34, .aaload, 1, 0, 0, 0, []),
  (35, .iload_n 2, 1, 2, 0, 0, []),
  (36, .lload_n 3, 1, 3, 0, 0, []),
  (37, .invokevirtual 329, 3, 45, 0, 0, []),
  (40, .iconst 1, 1, 0, 1, 0, []),
  (41, .ireturn, 1, 0, 0, 0, [])]
def mm_X11_put : mM := (11, yX11_put, cX11_put, 6, (some .int), 4, (5074, 5072, 5073, 1001, false), mo_X11_put)
def mo_X11_element : List mO := [
  (0, .iload_n 1, 1, 1, 0, 0, []),
  (1, .invokestatic 100, 3, 148, 0, 0, []),
  (4, .ifCond .eq 16, 3, 20, 0, 0, []),
  (7, .aload_n 0, 1, 0, 0, 0, []),
  (8, .getfield 69, 3, 1108, 0, 0, []),
  (11, .iload_n 1, 1, 1, 0, 0, []),
  (12, .aaload, 1, 0, 0, 0, []),
  (13, .iload_n 2, 1, 2, 0, 0, []),
  (14, .invokevirtual 326, 3, 41, 0, 0, []),
  (17, .ifCond .eq 7, 3, 24, 0, 0, []),
  (20, .ldc2_w 249, 3, 4123, 0, (-9223372036854775808), []),
  (23, .lreturn, 1, 0, 0, 0, []),
  (24, .aload_n 0, 1, 0, 0, 0, []),
  (25, .getfield 69, 3, 1108, 0, 0, []),
  (28, .iload_n 1, 1, 1, 0, 0, []),
  (29, .aaload, 1, 0, 0, 0, []),
  (30, .getfield 333, 3, 700, 0, 0, []),
  (33, .iload_n 2, 1, 2, 0, 0, []),
  (34, .laload, 1, 0, 0, 0, []),
  (35, .lreturn, 1, 0, 0, 0, [])]
def mm_X11_element : mM := (11, yX11_element, cX11_element, 3, (some .long), 3, (5090, 5088, 5089, 1001, false), mo_X11_element)
def mo_X11_shift : List mO := [
  (0, .iload_n 1, 1, 1, 0, 0, []),
  (1, .invokestatic 100, 3, 148, 0, 0, []),
  (4, .ifCond .eq 10, 3, 14, 0, 0, []),
  (7, .iload_n 3, 1, 3, 0, 0, []),
  (8, .invokestatic 100, 3, 148, 0, 0, []),
  (11, .ifCond .ne 5, 3, 16, 0, 0, []),
  (14, .iconst (-1), 1, 0, (-1), 0, []),
  (15, .ireturn, 1, 0, 0, 0, []),
  (16, .aload_n 0, 1, 0, 0, 0, []),
  (17, .getfield 69, 3, 1108, 0, 0, []),
  (20, .iload_n 3, 1, 3, 0, 0, []),
  (21, .aaload, 1, 0, 0, 0, []),
  (22, .aload_n 0, 1, 0, 0, 0, []),
  (23, .getfield 69, 3, 1108, 0, 0, []),
  (26, .iload_n 1, 1, 1, 0, 0, []),
  (27, .aaload, 1, 0, 0, 0, []),
  (28, .iload_n 2, 1, 2, 0, 0, []),
  (29, .iload 4, 2, 4, 0, 0, []),
  (31, .iload 5, 2, 5, 0, 0, []),
  (33, .invokevirtual 337, 3, 47, 0, 0, []),
  (36, .ireturn, 1, 0, 0, 0, [])]
def mm_X11_shift : mM := (11, yX11_shift, cX11_shift, 6, (some .int), 6, (5094, 5092, 5093, 1001, false), mo_X11_shift)
def mo_X11_taken : List mO := [
  (0, .iload_n 1, 1, 1, 0, 0, []),
  (1, .invokestatic 100, 3, 148, 0, 0, []),
  (4, .ifCond .eq 10, 3, 14, 0, 0, []),
  (7, .iload_n 2, 1, 2, 0, 0, []),
  (8, .invokestatic 304, 3, 149, 0, 0, []),
  (11, .ifCond .ne 5, 3, 16, 0, 0, []),
  (14, .iconst (-1), 1, 0, (-1), 0, []),
  (15, .ireturn, 1, 0, 0, 0, []),
  (16, .aload_n 0, 1, 0, 0, 0, []),
  (17, .getfield 69, 3, 1108, 0, 0, []),
  (20, .iload_n 1, 1, 1, 0, 0, []),
  (21, .aaload, 1, 0, 0, 0, []),
  (22, .invokevirtual 340, 3, 37, 0, 0, []),
  (25, .ifCond .eq 6, 3, 31, 0, 0, []),
  (28, .bipush (-11), 2, 0, (-11), 0, []),
  (30, .ireturn, 1, 0, 0, 0, []),
  (31, .aload_n 0, 1, 0, 0, 0, []),
  (32, .getfield 63, 3, 1107, 0, 0, []),
  (35, .aload_n 0, 1, 0, 0, 0, []),
  (36, .getfield 69, 3, 1108, 0, 0, []),
  (39, .iload_n 1, 1, 1, 0, 0, []),
  (40, .aaload, 1, 0, 0, 0, []),
  (41, .getfield 343, 3, 701, 0, 0, []),
  (44, .invokevirtual 346, 3, 2, 0, 0, []),
  (47, .istore_n 3, 1, 3, 0, 0, []),
  (48, .aload_n 0, 1, 0, 0, 0, []),
  (49, .getfield 63, 3, 1107, 0, 0, []),
  (52, .iload_n 3, 1, 3, 0, 0, []),
  (53, .iload_n 2, 1, 2, 0, 0, []),
  (54, .invokevirtual 349, 3, 3, 0, 0, []),
  (57, .ifCond .eq 7, 3, 64, 0, 0, []),
  (60, .iload_n 3, 1, 3, 0, 0, []),
  (61, .goto 5, 3, 66, 0, 0, []),
  (64, .bipush (-12), 2, 0, (-12), 0, []),
  (66, .ireturn, 1, 0, 0, 0, [])]
def mm_X11_taken : mM := (11, yX11_taken, cX11_taken, 4, (some .int), 3, (5109, 5107, 5108, 1001, false), mo_X11_taken)
def mo_X11_count : List mO := [
  (0, .iload_n 1, 1, 1, 0, 0, []),
  (1, .tableswitch 87 0 5 #[39, 47, 55, 63, 71, 79], 39, 88, 0, 0, [(0, 40), (1, 48), (2, 56), (3, 64), (4, 72), (5, 80)]),
  (40, .aload_n 0, 1, 0, 0, 0, []),
  (41, .getfield 10, 3, 1100, 0, 0, []),
  (44, .getfield 238, 3, 912, 0, 0, []),
  (47, .ireturn, 1, 0, 0, 0, []),
  (48, .aload_n 0, 1, 0, 0, 0, []),
  (49, .getfield 10, 3, 1100, 0, 0, []),
  (52, .getfield 352, 3, 913, 0, 0, []),
  (55, .ireturn, 1, 0, 0, 0, []),
  (56, .aload_n 0, 1, 0, 0, 0, []),
  (57, .getfield 19, 3, 1101, 0, 0, []),
  (60, .getfield 167, 3, 802, 0, 0, []),
  (63, .ireturn, 1, 0, 0, 0, []),
  (64, .aload_n 0, 1, 0, 0, 0, []),
  (65, .getfield 49, 3, 1105, 0, 0, []),
  (68, .getfield 355, 3, 105, 0, 0, []),
  (71, .ireturn, 1, 0, 0, 0, []),
  (72, .aload_n 0, 1, 0, 0, 0, []),
  (73, .getfield 63, 3, 1107, 0, 0, []),
  (76, .getfield 358, 3, 2, 0, 0, []),
  (79, .ireturn, 1, 0, 0, 0, []),
  (80, .aload_n 0, 1, 0, 0, 0, []),
  (81, .getfield 63, 3, 1107, 0, 0, []),
  (84, .getfield 360, 3, 3, 0, 0, []),
  (87, .ireturn, 1, 0, 0, 0, []),
  (88, .iconst (-1), 1, 0, (-1), 0, []),
  (89, .ireturn, 1, 0, 0, 0, [])]
def mm_X11_count : mM := (11, yX11_count, cX11_count, 2, (some .int), 2, (5119, 5117, 5118, 1001, false), mo_X11_count)
def mo_X11_isBit : List mO := [
  (0, .iload_n 0, 1, 0, 0, 0, []),
  (1, .ifCond .eq 8, 3, 9, 0, 0, []),
  (4, .iload_n 0, 1, 0, 0, 0, []),
  (5, .iconst 1, 1, 0, 1, 0, []),
  (6, .if_icmp .ne 7, 3, 13, 0, 0, []),
  (9, .iconst 1, 1, 0, 1, 0, []),
  (10, .goto 4, 3, 14, 0, 0, []),
  (13, .iconst 0, 1, 0, 0, 0, []),
  (14, .ireturn, 1, 0, 0, 0, [])]
def mm_X11_isBit : mM := (11, yX11_isBit, cX11_isBit, 1, (some .boolean), 1, (3176, 3175, 0, 1001, true), mo_X11_isBit)
def mo_X11_hasBit : List mO := [
  (0, .iload_n 0, 1, 0, 0, 0, []),
  (1, .iload_n 1, 1, 1, 0, 0, []),
  (2, .ishr, 1, 0, 0, 0, []),
  (3, .iconst 1, 1, 0, 1, 0, []),
  (4, .iand, 1, 0, 0, 0, []),
  (5, .ifCond .eq 7, 3, 12, 0, 0, []),
  (8, .iconst 1, 1, 0, 1, 0, []),
  (9, .goto 4, 3, 13, 0, 0, []),
  (12, .iconst 0, 1, 0, 0, 0, []),
  (13, .ireturn, 1, 0, 0, 0, [])]
def mm_X11_hasBit : mM := (11, yX11_hasBit, cX11_hasBit, 2, (some .boolean), 2, (3093, 3092, 0, 1001, true), mo_X11_hasBit)
def mo_X11_isPlace : List mO := [
  (0, .iload_n 0, 1, 0, 0, 0, []),
  (1, .ifCond .lt 13, 3, 14, 0, 0, []),
  (4, .iload_n 0, 1, 0, 0, 0, []),
  (5, .bipush 25, 2, 0, 25, 0, []),
  (7, .if_icmp .ge 7, 3, 14, 0, 0, []),
  (10, .iconst 1, 1, 0, 1, 0, []),
  (11, .goto 4, 3, 15, 0, 0, []),
  (14, .iconst 0, 1, 0, 0, 0, []),
  (15, .ireturn, 1, 0, 0, 0, [])]
def mm_X11_isPlace : mM := (11, yX11_isPlace, cX11_isPlace, 1, (some .boolean), 1, (2164, 2163, 0, 1001, true), mo_X11_isPlace)
def mo_X11_isShelf : List mO := [
  (0, .iload_n 0, 1, 0, 0, 0, []),
  (1, .ifCond .lt 13, 3, 14, 0, 0, []),
  (4, .iload_n 0, 1, 0, 0, 0, []),
  (5, .bipush 6, 2, 0, 6, 0, []),
  (7, .if_icmp .ge 7, 3, 14, 0, 0, []),
  (10, .iconst 1, 1, 0, 1, 0, []),
  (11, .goto 4, 3, 15, 0, 0, []),
  (14, .iconst 0, 1, 0, 0, 0, []),
  (15, .ireturn, 1, 0, 0, 0, [])]
def mm_X11_isShelf : mM := (11, yX11_isShelf, cX11_isShelf, 1, (some .boolean), 1, (2193, 2192, 0, 1001, true), mo_X11_isShelf)
def mo_X11_isKind : List mO := [
  (0, .iload_n 0, 1, 0, 0, 0, []),
  (1, .ifCond .lt 13, 3, 14, 0, 0, []),
  (4, .iload_n 0, 1, 0, 0, 0, []),
  (5, .bipush 8, 2, 0, 8, 0, []),
  (7, .if_icmp .ge 7, 3, 14, 0, 0, []),
  (10, .iconst 1, 1, 0, 1, 0, []),
  (11, .goto 4, 3, 15, 0, 0, []),
  (14, .iconst 0, 1, 0, 0, 0, []),
  (15, .ireturn, 1, 0, 0, 0, [])]
def mm_X11_isKind : mM := (11, yX11_isKind, cX11_isKind, 1, (some .boolean), 1, (5006, 5005, 0, 1001, true), mo_X11_isKind)
def mo_X11_dayBehind : List mO := [
  (0, .bipush 99, 2, 0, 99, 0, []),
  (2, .iload_n 0, 1, 0, 0, 0, []),
  (3, .iload_n 1, 1, 1, 0, 0, []),
  (4, .iadd, 1, 0, 0, 0, []),
  (5, .invokestatic 363, 3, 5002, 0, 0, []),
  (8, .ireturn, 1, 0, 0, 0, [])]
def mm_X11_dayBehind : mM := (11, yX11_dayBehind, cX11_dayBehind, 2, (some .int), 2, (3141, 3140, 0, 1001, true), mo_X11_dayBehind)
def mo_X11_stepped : List mO := [
  (0, .iload_n 0, 1, 0, 0, 0, []),
  (1, .iconst 5, 1, 0, 5, 0, []),
  (2, .irem, 1, 0, 0, 0, []),
  (3, .istore_n 2, 1, 2, 0, 0, []),
  (4, .iload_n 0, 1, 0, 0, 0, []),
  (5, .iconst 5, 1, 0, 5, 0, []),
  (6, .idiv, 1, 0, 0, 0, []),
  (7, .istore_n 3, 1, 3, 0, 0, []),
  (8, .iload_n 1, 1, 1, 0, 0, []),
  (9, .tableswitch 81 0 3 #[31, 43, 56, 69], 31, 90, 0, 0, [(0, 40), (1, 52), (2, 65), (3, 78)]),
  (40, .iload_n 3, 1, 3, 0, 0, []),
  (41, .ifCond .le 9, 3, 50, 0, 0, []),
  (44, .iload_n 0, 1, 0, 0, 0, []),
  (45, .iconst 5, 1, 0, 5, 0, []),
  (46, .isub, 1, 0, 0, 0, []),
  (47, .goto 4, 3, 51, 0, 0, []),
  (50, .iload_n 0, 1, 0, 0, 0, []),
  (51, .ireturn, 1, 0, 0, 0, []),
  (52, .iload_n 2, 1, 2, 0, 0, []),
  (53, .iconst 4, 1, 0, 4, 0, []),
  (54, .if_icmp .ge 9, 3, 63, 0, 0, []),
  (57, .iload_n 0, 1, 0, 0, 0, []),
  (58, .iconst 1, 1, 0, 1, 0, []),
  (59, .iadd, 1, 0, 0, 0, []),
  (60, .goto 4, 3, 64, 0, 0, []),
  (63, .iload_n 0, 1, 0, 0, 0, []),
  (64, .ireturn, 1, 0, 0, 0, []),
  (65, .iload_n 3, 1, 3, 0, 0, []),
  (66, .iconst 4, 1, 0, 4, 0, []),
  (67, .if_icmp .ge 9, 3, 76, 0, 0, []),
  (70, .iload_n 0, 1, 0, 0, 0, []),
  (71, .iconst 5, 1, 0, 5, 0, []),
  (72, .iadd, 1, 0, 0, 0, []),
  (73, .goto 4, 3, 77, 0, 0, []),
  (76, .iload_n 0, 1, 0, 0, 0, []),
  (77, .ireturn, 1, 0, 0, 0, []),
  (78, .iload_n 2, 1, 2, 0, 0, []),
  (79, .ifCond .le 9, 3, 88, 0, 0, []),
  (82, .iload_n 0, 1, 0, 0, 0, []),
  (83, .iconst 1, 1, 0, 1, 0, []),
  (84, .isub, 1, 0, 0, 0, []),
  (85, .goto 4, 3, 89, 0, 0, []),
  (88, .iload_n 0, 1, 0, 0, 0, []),
  (89, .ireturn, 1, 0, 0, 0, []),
  (90, .iload_n 0, 1, 0, 0, 0, []),
  (91, .ireturn, 1, 0, 0, 0, [])]
def mm_X11_stepped : mM := (11, yX11_stepped, cX11_stepped, 4, (some .int), 2, (3165, 3164, 0, 1001, true), mo_X11_stepped)
def mo_X11_distance : List mO := [
  (0, .iload_n 0, 1, 0, 0, 0, []),
  (1, .iconst 5, 1, 0, 5, 0, []),
  (2, .irem, 1, 0, 0, 0, []),
  (3, .iload_n 1, 1, 1, 0, 0, []),
  (4, .iconst 5, 1, 0, 5, 0, []),
  (5, .irem, 1, 0, 0, 0, []),
  (6, .isub, 1, 0, 0, 0, []),
  (7, .invokestatic 368, 3, 5003, 0, 0, []),
  (10, .iload_n 0, 1, 0, 0, 0, []),
  (11, .iconst 5, 1, 0, 5, 0, []),
  (12, .idiv, 1, 0, 0, 0, []),
  (13, .iload_n 1, 1, 1, 0, 0, []),
  (14, .iconst 5, 1, 0, 5, 0, []),
  (15, .idiv, 1, 0, 0, 0, []),
  (16, .isub, 1, 0, 0, 0, []),
  (17, .invokestatic 368, 3, 5003, 0, 0, []),
  (20, .iadd, 1, 0, 0, 0, []),
  (21, .ireturn, 1, 0, 0, 0, [])]
def mm_X11_distance : mM := (11, yX11_distance, cX11_distance, 2, (some .int), 2, (4111, 4110, 0, 1001, true), mo_X11_distance)
def mo_X11_spread : List mO := [
  (0, .iload_n 0, 1, 0, 0, 0, []),
  (1, .iload_n 1, 1, 1, 0, 0, []),
  (2, .iconst (-1), 1, 0, (-1), 0, []),
  (3, .ixor, 1, 0, 0, 0, []),
  (4, .iand, 1, 0, 0, 0, []),
  (5, .istore_n 2, 1, 2, 0, 0, []),
  (6, .iload_n 2, 1, 2, 0, 0, []),
  (7, .iconst 5, 1, 0, 5, 0, []),
  (8, .ishr, 1, 0, 0, 0, []),
  (9, .istore_n 3, 1, 3, 0, 0, []),
  (10, .iload_n 2, 1, 2, 0, 0, []),
  (11, .iconst 5, 1, 0, 5, 0, []),
  (12, .ishl, 1, 0, 0, 0, []),
  (13, .ldc_w 371, 3, 3224, 33554431, 0, []),
  (16, .iand, 1, 0, 0, 0, []),
  (17, .istore 4, 2, 4, 0, 0, []),
  (19, .iload_n 2, 1, 2, 0, 0, []),
  (20, .ldc_w 372, 3, 3225, (-17318417), 0, []),
  (23, .iand, 1, 0, 0, 0, []),
  (24, .iconst 1, 1, 0, 1, 0, []),
  (25, .ishl, 1, 0, 0, 0, []),
  (26, .istore 5, 2, 5, 0, 0, []),
  (28, .iload_n 2, 1, 2, 0, 0, []),
  (29, .ldc_w 373, 3, 3226, (-1082402), 0, []),
  (32, .iand, 1, 0, 0, 0, []),
  (33, .iconst 1, 1, 0, 1, 0, []),
  (34, .ishr, 1, 0, 0, 0, []),
  (35, .istore 6, 2, 6, 0, 0, []),
  (37, .iload_n 0, 1, 0, 0, 0, []),
  (38, .iload_n 3, 1, 3, 0, 0, []),
  (39, .ior, 1, 0, 0, 0, []),
  (40, .iload 4, 2, 4, 0, 0, []),
  (42, .ior, 1, 0, 0, 0, []),
  (43, .iload 5, 2, 5, 0, 0, []),
  (45, .ior, 1, 0, 0, 0, []),
  (46, .iload 6, 2, 6, 0, 0, []),
  (48, .ior, 1, 0, 0, 0, []),
  (49, .ireturn, 1, 0, 0, 0, [])]
def mm_X11_spread : mM := (11, yX11_spread, cX11_spread, 7, (some .int), 2, (3223, 3222, 0, 1001, true), mo_X11_spread)
def mo_X12_in : List mO := [
  (0, .iload_n 0, 1, 0, 0, 0, []),
  (1, .iload_n 1, 1, 1, 0, 0, []),
  (2, .if_icmp .lt 12, 3, 14, 0, 0, []),
  (5, .iload_n 0, 1, 0, 0, 0, []),
  (6, .iload_n 2, 1, 2, 0, 0, []),
  (7, .if_icmp .gt 7, 3, 14, 0, 0, []),
  (10, .iconst 1, 1, 0, 1, 0, []),
  (11, .goto 4, 3, 15, 0, 0, []),
  (14, .iconst 0, 1, 0, 0, 0, []),
  (15, .ireturn, 1, 0, 0, 0, [])]
def mm_X12_in : mM := (12, yX12_in, cX12_in, 3, (some .boolean), 3, (6098, 6097, 0, 1013, true), mo_X12_in)
def mo_X12_has : List mO := [
  (0, .iload_n 0, 1, 0, 0, 0, []),
  (1, .iload_n 1, 1, 1, 0, 0, []),
  (2, .ishr, 1, 0, 0, 0, []),
  (3, .iconst 1, 1, 0, 1, 0, []),
  (4, .iand, 1, 0, 0, 0, []),
  (5, .iconst 1, 1, 0, 1, 0, []),
  (6, .if_icmp .ne 7, 3, 13, 0, 0, []),
  (9, .iconst 1, 1, 0, 1, 0, []),
  (10, .goto 4, 3, 14, 0, 0, []),
  (13, .iconst 0, 1, 0, 0, 0, []),
  (14, .ireturn, 1, 0, 0, 0, [])]
def mm_X12_has : mM := (12, yX12_has, cX12_has, 2, (some .boolean), 2, (7065, 7064, 0, 1013, true), mo_X12_has)
def mo_X12_bitsOf : List mO := [
  (0, .iconst 0, 1, 0, 0, 0, []),
  (1, .istore_n 1, 1, 1, 0, 0, []),
  (2, .iload_n 0, 1, 0, 0, 0, []),
  (3, .istore_n 2, 1, 2, 0, 0, []),
  (4, .iload_n 2, 1, 2, 0, 0, []),
  (5, .ifCond .eq 15, 3, 20, 0, 0, []),
  (8, .iinc 1 1, 3, 1, 1, 0, []),
  (11, .iload_n 2, 1, 2, 0, 0, []),
  (12, .iload_n 2, 1, 2, 0, 0, []),
  (13, .iconst 1, 1, 0, 1, 0, []),
  (14, .isub, 1, 0, 0, 0, []),
  (15, .iand, 1, 0, 0, 0, []),
  (16, .istore_n 2, 1, 2, 0, 0, []),
  (17, .goto (-13), 3, 4, 0, 0, []),
  (20, .iload_n 1, 1, 1, 0, 0, []),
  (21, .ireturn, 1, 0, 0, 0, [])]
def mm_X12_bitsOf : mM := (12, yX12_bitsOf, cX12_bitsOf, 3, (some .int), 1, (7096, 7095, 0, 1013, true), mo_X12_bitsOf)
def mo_X12_isPlaceOf : List mO := [
  (0, .iload_n 0, 1, 0, 0, 0, []),
  (1, .iconst 0, 1, 0, 0, 0, []),
  (2, .bipush 24, 2, 0, 24, 0, []),
  (4, .invokestatic 136, 3, 154, 0, 0, []),
  (7, .ireturn, 1, 0, 0, 0, [])]
def mm_X12_isPlaceOf : mM := (12, yX12_isPlaceOf, cX12_isPlaceOf, 1, (some .boolean), 1, (6095, 6094, 0, 1013, true), mo_X12_isPlaceOf)
def mo_X12_isOne : List mO := [
  (0, .iload_n 1, 1, 1, 0, 0, []),
  (1, .iconst 0, 1, 0, 0, 0, []),
  (2, .aload_n 0, 1, 0, 0, 0, []),
  (3, .getfield 140, 3, 1201, 0, 0, []),
  (6, .iconst 1, 1, 0, 1, 0, []),
  (7, .isub, 1, 0, 0, 0, []),
  (8, .invokestatic 136, 3, 154, 0, 0, []),
  (11, .ireturn, 1, 0, 0, 0, [])]
def mm_X12_isOne : mM := (12, yX12_isOne, cX12_isOne, 2, (some .boolean), 2, (6110, 6109, 35, 1013, false), mo_X12_isOne)
def mo_X12_isPromise : List mO := [
  (0, .iload_n 1, 1, 1, 0, 0, []),
  (1, .iconst 0, 1, 0, 0, 0, []),
  (2, .aload_n 0, 1, 0, 0, 0, []),
  (3, .getfield 143, 3, 1204, 0, 0, []),
  (6, .iconst 1, 1, 0, 1, 0, []),
  (7, .isub, 1, 0, 0, 0, []),
  (8, .invokestatic 136, 3, 154, 0, 0, []),
  (11, .ireturn, 1, 0, 0, 0, [])]
def mm_X12_isPromise : mM := (12, yX12_isPromise, cX12_isPromise, 2, (some .boolean), 2, (6146, 6145, 39, 1013, false), mo_X12_isPromise)
def mo_X12_areTwo : List mO := [
  (0, .aload_n 0, 1, 0, 0, 0, []),
  (1, .iload_n 1, 1, 1, 0, 0, []),
  (2, .invokevirtual 146, 3, 158, 0, 0, []),
  (5, .ifCond .eq 20, 3, 25, 0, 0, []),
  (8, .aload_n 0, 1, 0, 0, 0, []),
  (9, .iload_n 2, 1, 2, 0, 0, []),
  (10, .invokevirtual 146, 3, 158, 0, 0, []),
  (13, .ifCond .eq 12, 3, 25, 0, 0, []),
  (16, .iload_n 1, 1, 1, 0, 0, []),
  (17, .iload_n 2, 1, 2, 0, 0, []),
  (18, .if_icmp .eq 7, 3, 25, 0, 0, []),
  (21, .iconst 1, 1, 0, 1, 0, []),
  (22, .goto 4, 3, 26, 0, 0, []),
  (25, .iconst 0, 1, 0, 0, 0, []),
  (26, .ireturn, 1, 0, 0, 0, [])]
def mm_X12_areTwo : mM := (12, yX12_areTwo, cX12_areTwo, 3, (some .boolean), 3, (6106, 6105, 34, 1013, false), mo_X12_areTwo)
def mo_X12_person : List mO := [
  (0, .iload_n 1, 1, 1, 0, 0, []),
  (1, .invokestatic 150, 3, 157, 0, 0, []),
  (4, .ifCond .ne 5, 3, 9, 0, 0, []),
  (7, .iconst (-1), 1, 0, (-1), 0, []),
  (8, .ireturn, 1, 0, 0, 0, []),
  (9, .aload_n 0, 1, 0, 0, 0, []),
  (10, .getfield 140, 3, 1201, 0, 0, []),
  (13, .bipush 6, 2, 0, 6, 0, []),
  (15, .if_icmp .ne 6, 3, 21, 0, 0, []),
  (18, .bipush (-3), 2, 0, (-3), 0, []),
  (20, .ireturn, 1, 0, 0, 0, []),
  (21, .aload_n 0, 1, 0, 0, 0, []),
  (22, .getfield 9, 3, 1202, 0, 0, []),
  (25, .aload_n 0, 1, 0, 0, 0, []),
  (26, .getfield 140, 3, 1201, 0, 0, []),
  (29, .iload_n 1, 1, 1, 0, 0, []),
  (30, .iastore, 1, 0, 0, 0, []),
  (31, .aload_n 0, 1, 0, 0, 0, []),
  (32, .getfield 15, 3, 1203, 0, 0, []),
  (35, .aload_n 0, 1, 0, 0, 0, []),
  (36, .getfield 140, 3, 1201, 0, 0, []),
  (39, .iconst 3, 1, 0, 3, 0, []),
  (40, .iastore, 1, 0, 0, 0, []),
  (41, .aload_n 0, 1, 0, 0, 0, []),
  (42, .dup, 1, 0, 0, 0, []),
  (43, .getfield 140, 3, 1201, 0, 0, []),
  (46, .iconst 1, 1, 0, 1, 0, []),
  (47, .iadd, 1, 0, 0, 0, []),
  (48, .putfield 140, 3, 1201, 0, 0, []),
  (51, .aload_n 0, 1, 0, 0, 0, []),
  (52, .getfield 140, 3, 1201, 0, 0, []),
  (55, .iconst 1, 1, 0, 1, 0, []),
  (56, .isub, 1, 0, 0, 0, []),
  (57, .ireturn, 1, 0, 0, 0, [])]
def mm_X12_person : mM := (12, yX12_person, cX12_person, 2, (some .int), 2, (6092, 6090, 6091, 1013, false), mo_X12_person)
def mo_X12_addPromise : List mO := [
  (0, .aload_n 0, 1, 0, 0, 0, []),
  (1, .getfield 143, 3, 1204, 0, 0, []),
  (4, .istore 6, 2, 6, 0, 0, []),
  (6, .aload_n 0, 1, 0, 0, 0, []),
  (7, .getfield 18, 3, 1205, 0, 0, []),
  (10, .iload 6, 2, 6, 0, 0, []),
  (12, .iload_n 1, 1, 1, 0, 0, []),
  (13, .iastore, 1, 0, 0, 0, []),
  (14, .aload_n 0, 1, 0, 0, 0, []),
  (15, .getfield 21, 3, 1206, 0, 0, []),
  (18, .iload 6, 2, 6, 0, 0, []),
  (20, .iload_n 2, 1, 2, 0, 0, []),
  (21, .iastore, 1, 0, 0, 0, []),
  (22, .aload_n 0, 1, 0, 0, 0, []),
  (23, .getfield 24, 3, 1207, 0, 0, []),
  (26, .iload 6, 2, 6, 0, 0, []),
  (28, .iload_n 3, 1, 3, 0, 0, []),
  (29, .iastore, 1, 0, 0, 0, []),
  (30, .aload_n 0, 1, 0, 0, 0, []),
  (31, .getfield 27, 3, 1208, 0, 0, []),
  (34, .iload 6, 2, 6, 0, 0, []),
  (36, .iload 4, 2, 4, 0, 0, []),
  (38, .iastore, 1, 0, 0, 0, []),
  (39, .aload_n 0, 1, 0, 0, 0, []),
  (40, .getfield 30, 3, 1209, 0, 0, []),
  (43, .iload 6, 2, 6, 0, 0, []),
  (45, .aload_n 0, 1, 0, 0, 0, []),
  (46, .getfield 153, 3, 1214, 0, 0, []),
  (49, .iastore, 1, 0, 0, 0, []),
  (50, .aload_n 0, 1, 0, 0, 0, []),
  (51, .getfield 33, 3, 1210, 0, 0, []),
  (54, .iload 6, 2, 6, 0, 0, []),
  (56, .iload 5, 2, 5, 0, 0, []),
  (58, .iastore, 1, 0, 0, 0, []),
  (59, .aload_n 0, 1, 0, 0, 0, []),
  (60, .dup, 1, 0, 0, 0, []),
  (61, .getfield 143, 3, 1204, 0, 0, []),
  (64, .iconst 1, 1, 0, 1, 0, []),
  (65, .iadd, 1, 0, 0, 0, []),
  (66, .putfield 143, 3, 1204, 0, 0, []),
  (69, .iload 6, 2, 6, 0, 0, []),
  (71, .ireturn, 1, 0, 0, 0, [])]
def mm_X12_addPromise : mM := (12, yX12_addPromise, cX12_addPromise, 7, (some .int), 6, (6114, 6113, 36, 1013, false), mo_X12_addPromise)
def mo_X12_promise : List mO := [
  (0, .iload_n 1, 1, 1, 0, 0, []),
  (1, .ifCond .lt 29, 3, 30, 0, 0, []),
  (4, .aload_n 0, 1, 0, 0, 0, []),
  (5, .iload_n 1, 1, 1, 0, 0, []),
  (6, .bipush 10, 2, 0, 10, 0, []),
  (8, .idiv, 1, 0, 0, 0, []),
  (9, .iload_n 1, 1, 1, 0, 0, []),
  (10, .bipush 10, 2, 0, 10, 0, []),
  (12, .irem, 1, 0, 0, 0, []),
  (13, .invokevirtual 156, 3, 160, 0, 0, []),
  (16, .ifCond .eq 14, 3, 30, 0, 0, []),
  (19, .iload_n 2, 1, 2, 0, 0, []),
  (20, .iconst 0, 1, 0, 0, 0, []),
  (21, .sipush 999, 3, 0, 999, 0, []),
  (24, .invokestatic 136, 3, 154, 0, 0, []),
  (27, .ifCond .ne 5, 3, 32, 0, 0, []),
  (30, .iconst (-1), 1, 0, (-1), 0, []),
  (31, .ireturn, 1, 0, 0, 0, []),
  (32, .aload_n 0, 1, 0, 0, 0, []),
  (33, .getfield 143, 3, 1204, 0, 0, []),
  (36, .bipush 12, 2, 0, 12, 0, []),
  (38, .if_icmp .ne 6, 3, 44, 0, 0, []),
  (41, .bipush (-3), 2, 0, (-3), 0, []),
  (43, .ireturn, 1, 0, 0, 0, []),
  (44, .aload_n 0, 1, 0, 0, 0, []),
  (45, .getfield 46, 3, 1215, 0, 0, []),
  (48, .iconst 0, 1, 0, 0, 0, []),
  (49, .dup2, 1, 0, 0, 0, []),
  (50, .iaload, 1, 0, 0, 0, []),
  (51, .iconst 1, 1, 0, 1, 0, []),
  (52, .iadd, 1, 0, 0, 0, []),
  (53, .iastore, 1, 0, 0, 0, []),
  (54, .aload_n 0, 1, 0, 0, 0, []),
  (55, .iload_n 1, 1, 1, 0, 0, []),
  (56, .bipush 10, 2, 0, 10, 0, []),
  (58, .idiv, 1, 0, 0, 0, []),
  (59, .iload_n 1, 1, 1, 0, 0, []),
  (60, .bipush 10, 2, 0, 10, 0, []),
  (62, .irem, 1, 0, 0, 0, []),
  (63, .aload_n 0, 1, 0, 0, 0, []),
  (64, .getfield 9, 3, 1202, 0, 0, []),
  (67, .iload_n 1, 1, 1, 0, 0, []),
  (68, .bipush 10, 2, 0, 10, 0, []),
  (70, .idiv, 1, 0, 0, 0, []),
  (71, .iaload, 1, 0, 0, 0, []),
  (72, .iload_n 2, 1, 2, 0, 0, []),
  (73, .bipush 100, 2, 0, 100, 0, []),
  (75, .idiv, 1, 0, 0, 0, []),
  (76, .iload_n 2, 1, 2, 0, 0, []),
  (77, .bipush 100, 2, 0, 100, 0, []),
  (79, .irem, 1, 0, 0, 0, []),
  (80, .invokevirtual 160, 3, 162, 0, 0, []),
  (83, .ireturn, 1, 0, 0, 0, [])]
def mm_X12_promise : mM := (12, yX12_promise, cX12_promise, 3, (some .int), 3, (6102, 6100, 6101, 1013, false), mo_X12_promise)
def mo_X12_promises : List mO := [
  (0, .iload_n 1, 1, 1, 0, 0, []),
  (1, .invokestatic 164, 3, 269, 0, 0, []),
  (4, .ifCond .eq 13, 3, 17, 0, 0, []),
  (7, .iload_n 3, 1, 3, 0, 0, []),
  (8, .iconst 1, 1, 0, 1, 0, []),
  (9, .bipush 12, 2, 0, 12, 0, []),
  (11, .invokestatic 136, 3, 154, 0, 0, []),
  (14, .ifCond .ne 5, 3, 19, 0, 0, []),
  (17, .iconst (-1), 1, 0, (-1), 0, []),
  (18, .ireturn, 1, 0, 0, 0, []),
  (19, .aload_n 0, 1, 0, 0, 0, []),
  (20, .getfield 120, 3, 1263, 0, 0, []),
  (23, .iload_n 1, 1, 1, 0, 0, []),
  (24, .iaload, 1, 0, 0, 0, []),
  (25, .iconst (-1), 1, 0, (-1), 0, []),
  (26, .if_icmp .eq 17, 3, 43, 0, 0, []),
  (29, .aload_n 0, 1, 0, 0, 0, []),
  (30, .getfield 120, 3, 1263, 0, 0, []),
  (33, .iload_n 1, 1, 1, 0, 0, []),
  (34, .iaload, 1, 0, 0, 0, []),
  (35, .bipush (-2), 2, 0, (-2), 0, []),
  (37, .if_icmp .eq 6, 3, 43, 0, 0, []),
  (40, .bipush (-12), 2, 0, (-12), 0, []),
  (42, .ireturn, 1, 0, 0, 0, []),
  (43, .aload_n 0, 1, 0, 0, 0, []),
  (44, .getfield 120, 3, 1263, 0, 0, []),
  (47, .iload_n 1, 1, 1, 0, 0, []),
  (48, .iaload, 1, 0, 0, 0, []),
  (49, .iconst (-1), 1, 0, (-1), 0, []),
  (50, .if_icmp .ne 5, 3, 55, 0, 0, []),
  (53, .iconst 0, 1, 0, 0, 0, []),
  (54, .ireturn, 1, 0, 0, 0, []),
  (55, .iconst 0, 1, 0, 0, 0, []),
  (56, .istore 4, 2, 4, 0, 0, []),
  (58, .iload 4, 2, 4, 0, 0, []),
  (60, .iload_n 3, 1, 3, 0, 0, []),
  (61, .if_icmp .ge 200, 3, 261, 0, 0, []),
  (64, .iload_n 2, 1, 2, 0, 0, []),
  (65, .i2l, 1, 0, 0, 0, []),
  (66, .iconst 5, 1, 0, 5, 0, []),
  (67, .iload 4, 2, 4, 0, 0, []),
  (69, .imul, 1, 0, 0, 0, []),
  (70, .i2l, 1, 0, 0, 0, []),
  (71, .ladd, 1, 0, 0, 0, []),
  (72, .lstore 5, 2, 5, 0, 0, []),
  (74, .lload 5, 2, 5, 0, 0, []),
  (76, .lconst 0, 1, 0, 0, 0, []),
  (77, .lcmp, 1, 0, 0, 0, []),
  (78, .ifCond .lt 29, 3, 107, 0, 0, []),
  (81, .lload 5, 2, 5, 0, 0, []),
  (83, .ldc2_w 167, 3, 6122, 0, 4, []),
  (86, .ladd, 1, 0, 0, 0, []),
  (87, .aload_n 0, 1, 0, 0, 0, []),
  (88, .getfield 123, 3, 1264, 0, 0, []),
  (91, .iload_n 1, 1, 1, 0, 0, []),
  (92, .iaload, 1, 0, 0, 0, []),
  (93, .i2l, 1, 0, 0, 0, []),
  (94, .lcmp, 1, 0, 0, 0, []),
  (95, .ifCond .ge 12, 3, 107, 0, 0, []),
  (98, .aload_n 0, 1, 0, 0, 0, []),
  (99, .getfield 143, 3, 1204, 0, 0, []),
  (102, .bipush 12, 2, 0, 12, 0, []),
  (104, .if_icmp .ne 6, 3, 110, 0, 0, []),
  (107, .iload 4, 2, 4, 0, 0, []),
  (109, .ireturn, 1, 0, 0, 0, []),
  (110, .bipush 60, 2, 0, 60, 0, []),
  (112, .iload_n 1, 1, 1, 0, 0, []),
  (113, .imul, 1, 0, 0, 0, []),
  (114, .lload 5, 2, 5, 0, 0, []),
  (116, .l2i, 1, 0, 0, 0, []),
  (117, .iadd, 1, 0, 0, 0, []),
  (118, .istore 7, 2, 7, 0, 0, []),
  (120, .aload_n 0, 1, 0, 0, 0, []),
  (121, .aload_n 0, 1, 0, 0, 0, []),
  (122, .getfield 126, 3, 1265, 0, 0, []),
  (125, .iload 7, 2, 7, 0, 0, []),
  (127, .laload, 1, 0, 0, 0, []),
  (128, .l2i, 1, 0, 0, 0, []),
  (129, .aload_n 0, 1, 0, 0, 0, []),
  (130, .getfield 126, 3, 1265, 0, 0, []),
  (133, .iload 7, 2, 7, 0, 0, []),
  (135, .iconst 1, 1, 0, 1, 0, []),
  (136, .iadd, 1, 0, 0, 0, []),
  (137, .laload, 1, 0, 0, 0, []),
  (138, .l2i, 1, 0, 0, 0, []),
  (139, .invokevirtual 156, 3, 160, 0, 0, []),
  (142, .ifCond .eq 57, 3, 199, 0, 0, []),
  (145, .aload_n 0, 1, 0, 0, 0, []),
  (146, .getfield 126, 3, 1265, 0, 0, []),
  (149, .iload 7, 2, 7, 0, 0, []),
  (151, .iconst 2, 1, 0, 2, 0, []),
  (152, .iadd, 1, 0, 0, 0, []),
  (153, .laload, 1, 0, 0, 0, []),
  (154, .l2i, 1, 0, 0, 0, []),
  (155, .invokestatic 150, 3, 157, 0, 0, []),
  (158, .ifCond .eq 41, 3, 199, 0, 0, []),
  (161, .aload_n 0, 1, 0, 0, 0, []),
  (162, .getfield 126, 3, 1265, 0, 0, []),
  (165, .iload 7, 2, 7, 0, 0, []),
  (167, .iconst 3, 1, 0, 3, 0, []),
  (168, .iadd, 1, 0, 0, 0, []),
  (169, .laload, 1, 0, 0, 0, []),
  (170, .l2i, 1, 0, 0, 0, []),
  (171, .iconst 0, 1, 0, 0, 0, []),
  (172, .bipush 9, 2, 0, 9, 0, []),
  (174, .invokestatic 136, 3, 154, 0, 0, []),
  (177, .ifCond .eq 22, 3, 199, 0, 0, []),
  (180, .aload_n 0, 1, 0, 0, 0, []),
  (181, .getfield 126, 3, 1265, 0, 0, []),
  (184, .iload 7, 2, 7, 0, 0, []),
  (186, .iconst 4, 1, 0, 4, 0, []),
  (187, .iadd, 1, 0, 0, 0, []),
  (188, .laload, 1, 0, 0, 0, []),
  (189, .l2i, 1, 0, 0, 0, []),
  (190, .iconst 0, 1, 0, 0, 0, []),
  (191, .bipush 99, 2, 0, 99, 0, []),
  (193, .invokestatic 136, 3, 154, 0, 0, []),
  (196, .ifCond .ne 6, 3, 202, 0, 0, []),
  (199, .iload 4, 2, 4, 0, 0, []),
  (201, .ireturn, 1, 0, 0, 0, []),
  (202, .aload_n 0, 1, 0, 0, 0, []),
  (203, .aload_n 0, 1, 0, 0, 0, []),
  (204, .getfield 126, 3, 1265, 0, 0, []),
  (207, .iload 7, 2, 7, 0, 0, []),
  (209, .laload, 1, 0, 0, 0, []),
  (210, .l2i, 1, 0, 0, 0, []),
  (211, .aload_n 0, 1, 0, 0, 0, []),
  (212, .getfield 126, 3, 1265, 0, 0, []),
  (215, .iload 7, 2, 7, 0, 0, []),
  (217, .iconst 1, 1, 0, 1, 0, []),
  (218, .iadd, 1, 0, 0, 0, []),
  (219, .laload, 1, 0, 0, 0, []),
  (220, .l2i, 1, 0, 0, 0, []),
  (221, .aload_n 0, 1, 0, 0, 0, []),
  (222, .getfield 126, 3, 1265, 0, 0, []),
  (225, .iload 7, 2, 7, 0, 0, []),
  (227, .iconst 2, 1, 0, 2, 0, []),
  (228, .iadd, 1, 0, 0, 0, []),
  (229, .laload, 1, 0, 0, 0, []),
  (230, .l2i, 1, 0, 0, 0, []),
  (231, .aload_n 0, 1, 0, 0, 0, []),
  (232, .getfield 126, 3, 1265, 0, 0, []),
  (235, .iload 7, 2, 7, 0, 0, []),
  (237, .iconst 3, 1, 0, 3, 0, []),
  (238, .iadd, 1, 0, 0, 0, []),
  (239, .laload, 1, 0, 0, 0, []),
  (240, .l2i, 1, 0, 0, 0, []),
  (241, .aload_n 0, 1, 0, 0, 0, []),
  (242, .getfield 126, 3, 1265, 0, 0, []),
  (245, .iload 7, 2, 7, 0, 0, []),
  (247, .iconst 4, 1, 0, 4, 0, []),
  (248, .iadd, 1, 0, 0, 0, []),
  (249, .laload, 1, 0, 0, 0, []),
  (250, .l2i, 1, 0, 0, 0, []),
  (251, .invokevirtual 160, 3, 162, 0, 0, []),
  (254, .pop, 1, 0, 0, 0, []),
  (255, .iinc 4 1, 3, 4, 1, 0, []),
  (258, .goto (-200), 3, 58, 0, 0, []),
  (261, .iload_n 3, 1, 3, 0, 0, []),
  (262, .ireturn, 1, 0, 0, 0, [])]
def mm_X12_promises : mM := (12, yX12_promises, cX12_promises, 8, (some .int), 4, (6118, 6116, 6117, 1013, false), mo_X12_promises)
def mo_X12_valueAt : List mO := [
  (0, .iload_n 1, 1, 1, 0, 0, []),
  (1, .tableswitch 112 0 8 #[51, 58, 65, 72, 79, 86, 93, 100, 107], 51, 113, 0, 0, [(0, 52), (1, 59), (2, 66), (3, 73), (4, 80), (5, 87), (6, 94), (7, 101), (8, 108)]),
  (52, .aload_n 0, 1, 0, 0, 0, []),
  (53, .getfield 9, 3, 1202, 0, 0, []),
  (56, .iload_n 2, 1, 2, 0, 0, []),
  (57, .iaload, 1, 0, 0, 0, []),
  (58, .ireturn, 1, 0, 0, 0, []),
  (59, .aload_n 0, 1, 0, 0, 0, []),
  (60, .getfield 15, 3, 1203, 0, 0, []),
  (63, .iload_n 2, 1, 2, 0, 0, []),
  (64, .iaload, 1, 0, 0, 0, []),
  (65, .ireturn, 1, 0, 0, 0, []),
  (66, .aload_n 0, 1, 0, 0, 0, []),
  (67, .getfield 24, 3, 1207, 0, 0, []),
  (70, .iload_n 2, 1, 2, 0, 0, []),
  (71, .iaload, 1, 0, 0, 0, []),
  (72, .ireturn, 1, 0, 0, 0, []),
  (73, .aload_n 0, 1, 0, 0, 0, []),
  (74, .getfield 27, 3, 1208, 0, 0, []),
  (77, .iload_n 2, 1, 2, 0, 0, []),
  (78, .iaload, 1, 0, 0, 0, []),
  (79, .ireturn, 1, 0, 0, 0, []),
  (80, .aload_n 0, 1, 0, 0, 0, []),
  (81, .getfield 30, 3, 1209, 0, 0, []),
  (84, .iload_n 2, 1, 2, 0, 0, []),
  (85, .iaload, 1, 0, 0, 0, []),
  (86, .ireturn, 1, 0, 0, 0, []),
  (87, .aload_n 0, 1, 0, 0, 0, []),
  (88, .getfield 33, 3, 1210, 0, 0, []),
  (91, .iload_n 2, 1, 2, 0, 0, []),
  (92, .iaload, 1, 0, 0, 0, []),
  (93, .ireturn, 1, 0, 0, 0, []),
  (94, .aload_n 0, 1, 0, 0, 0, []),
  (95, .getfield 36, 3, 1211, 0, 0, []),
  (98, .iload_n 2, 1, 2, 0, 0, []),
  (99, .iaload, 1, 0, 0, 0, []),
  (100, .ireturn, 1, 0, 0, 0, []),
  (101, .aload_n 0, 1, 0, 0, 0, []),
  (102, .getfield 39, 3, 1212, 0, 0, []),
  (105, .iload_n 2, 1, 2, 0, 0, []),
  (106, .iaload, 1, 0, 0, 0, []),
  (107, .ireturn, 1, 0, 0, 0, []),
  (108, .aload_n 0, 1, 0, 0, 0, []),
  (109, .getfield 42, 3, 1213, 0, 0, []),
  (112, .ireturn, 1, 0, 0, 0, []),
  (113, .aload_n 0, 1, 0, 0, 0, []),
  (114, .getfield 153, 3, 1214, 0, 0, []),
  (117, .ireturn, 1, 0, 0, 0, [])]
def mm_X12_valueAt : mM := (12, yX12_valueAt, cX12_valueAt, 3, (some .int), 3, (6157, 6156, 41, 1013, false), mo_X12_valueAt)
def mo_X12_lays : List mO := [
  (0, .iload_n 1, 1, 1, 0, 0, []),
  (1, .tableswitch 139 0 8 #[51, 61, 71, 81, 91, 101, 111, 121, 131], 51, 140, 0, 0, [(0, 52), (1, 62), (2, 72), (3, 82), (4, 92), (5, 102), (6, 112), (7, 122), (8, 132)]),
  (52, .aload_n 0, 1, 0, 0, 0, []),
  (53, .getfield 9, 3, 1202, 0, 0, []),
  (56, .iload_n 2, 1, 2, 0, 0, []),
  (57, .iload_n 3, 1, 3, 0, 0, []),
  (58, .iastore, 1, 0, 0, 0, []),
  (59, .goto 86, 3, 145, 0, 0, []),
  (62, .aload_n 0, 1, 0, 0, 0, []),
  (63, .getfield 15, 3, 1203, 0, 0, []),
  (66, .iload_n 2, 1, 2, 0, 0, []),
  (67, .iload_n 3, 1, 3, 0, 0, []),
  (68, .iastore, 1, 0, 0, 0, []),
  (69, .goto 76, 3, 145, 0, 0, []),
  (72, .aload_n 0, 1, 0, 0, 0, []),
  (73, .getfield 24, 3, 1207, 0, 0, []),
  (76, .iload_n 2, 1, 2, 0, 0, []),
  (77, .iload_n 3, 1, 3, 0, 0, []),
  (78, .iastore, 1, 0, 0, 0, []),
  (79, .goto 66, 3, 145, 0, 0, []),
  (82, .aload_n 0, 1, 0, 0, 0, []),
  (83, .getfield 27, 3, 1208, 0, 0, []),
  (86, .iload_n 2, 1, 2, 0, 0, []),
  (87, .iload_n 3, 1, 3, 0, 0, []),
  (88, .iastore, 1, 0, 0, 0, []),
  (89, .goto 56, 3, 145, 0, 0, []),
  (92, .aload_n 0, 1, 0, 0, 0, []),
  (93, .getfield 30, 3, 1209, 0, 0, []),
  (96, .iload_n 2, 1, 2, 0, 0, []),
  (97, .iload_n 3, 1, 3, 0, 0, []),
  (98, .iastore, 1, 0, 0, 0, []),
  (99, .goto 46, 3, 145, 0, 0, []),
  (102, .aload_n 0, 1, 0, 0, 0, []),
  (103, .getfield 33, 3, 1210, 0, 0, []),
  (106, .iload_n 2, 1, 2, 0, 0, []),
  (107, .iload_n 3, 1, 3, 0, 0, []),
  (108, .iastore, 1, 0, 0, 0, []),
  (109, .goto 36, 3, 145, 0, 0, []),
  (112, .aload_n 0, 1, 0, 0, 0, []),
  (113, .getfield 36, 3, 1211, 0, 0, []),
  (116, .iload_n 2, 1, 2, 0, 0, []),
  (117, .iload_n 3, 1, 3, 0, 0, []),
  (118, .iastore, 1, 0, 0, 0, []),
  (119, .goto 26, 3, 145, 0, 0, []),
  (122, .aload_n 0, 1, 0, 0, 0, []),
  (123, .getfield 39, 3, 1212, 0, 0, []),
  (126, .iload_n 2, 1, 2, 0, 0, []),
  (127, .iload_n 3, 1, 3, 0, 0, []),
  (128, .iastore, 1, 0, 0, 0, []),
  (129, .goto 16, 3, 145, 0, 0, []),
  (132, .aload_n 0, 1, 0, 0, 0, []),
  (133, .iload_n 3, 1, 3, 0, 0, []),
  (134, .putfield 42, 3, 1213, 0, 0, []),
  (137, .goto 8, 3, 145, 0, 0, []),
  (140, .aload_n 0, 1, 0, 0, 0, []),
  (141, .iload_n 3, 1, 3, 0, 0, []),
  (142, .putfield 153, 3, 1214, 0, 0, []),
  (145, .return_, 1, 0, 0, 0, [])]
def mm_X12_lays : mM := (12, yX12_lays, cX12_lays, 4, none, 4, (6130, 6129, 37, 1013, false), mo_X12_lays)
def mo_X12_changes : List mO := [
  (0, .aload_n 0, 1, 0, 0, 0, []),
  (1, .iload_n 1, 1, 1, 0, 0, []),
  (2, .iload_n 2, 1, 2, 0, 0, []),
  (3, .invokevirtual 169, 3, 165, 0, 0, []),
  (6, .istore 4, 2, 4, 0, 0, []),
  (8, .iload 4, 2, 4, 0, 0, []),
  (10, .iload_n 3, 1, 3, 0, 0, []),
  (11, .if_icmp .ne 6, 3, 17, 0, 0, []),
  (14, .iload 4, 2, 4, 0, 0, []),
  (16, .ireturn, 1, 0, 0, 0, []),
  (17, .aload_n 0, 1, 0, 0, 0, []),
  (18, .iconst 0, 1, 0, 0, 0, []),
  (19, .putfield 173, 3, 1217, 0, 0, []),
  (22, .aload_n 0, 1, 0, 0, 0, []),
  (23, .getfield 176, 3, 1216, 0, 0, []),
  (26, .bipush 40, 2, 0, 40, 0, []),
  (28, .if_icmp .ne 93, 3, 121, 0, 0, []),
  (31, .iconst 1, 1, 0, 1, 0, []),
  (32, .istore 5, 2, 5, 0, 0, []),
  (34, .iload 5, 2, 5, 0, 0, []),
  (36, .bipush 40, 2, 0, 40, 0, []),
  (38, .if_icmp .ge 73, 3, 111, 0, 0, []),
  (41, .aload_n 0, 1, 0, 0, 0, []),
  (42, .getfield 49, 3, 1218, 0, 0, []),
  (45, .iload 5, 2, 5, 0, 0, []),
  (47, .iconst 1, 1, 0, 1, 0, []),
  (48, .isub, 1, 0, 0, 0, []),
  (49, .aload_n 0, 1, 0, 0, 0, []),
  (50, .getfield 49, 3, 1218, 0, 0, []),
  (53, .iload 5, 2, 5, 0, 0, []),
  (55, .iaload, 1, 0, 0, 0, []),
  (56, .iastore, 1, 0, 0, 0, []),
  (57, .aload_n 0, 1, 0, 0, 0, []),
  (58, .getfield 52, 3, 1219, 0, 0, []),
  (61, .iload 5, 2, 5, 0, 0, []),
  (63, .iconst 1, 1, 0, 1, 0, []),
  (64, .isub, 1, 0, 0, 0, []),
  (65, .aload_n 0, 1, 0, 0, 0, []),
  (66, .getfield 52, 3, 1219, 0, 0, []),
  (69, .iload 5, 2, 5, 0, 0, []),
  (71, .iaload, 1, 0, 0, 0, []),
  (72, .iastore, 1, 0, 0, 0, []),
  (73, .aload_n 0, 1, 0, 0, 0, []),
  (74, .getfield 55, 3, 1220, 0, 0, []),
  (77, .iload 5, 2, 5, 0, 0, []),
  (79, .iconst 1, 1, 0, 1, 0, []),
  (80, .isub, 1, 0, 0, 0, []),
  (81, .aload_n 0, 1, 0, 0, 0, []),
  (82, .getfield 55, 3, 1220, 0, 0, []),
  (85, .iload 5, 2, 5, 0, 0, []),
  (87, .iaload, 1, 0, 0, 0, []),
  (88, .iastore, 1, 0, 0, 0, []),
  (89, .aload_n 0, 1, 0, 0, 0, []),
  (90, .getfield 58, 3, 1221, 0, 0, []),
  (93, .iload 5, 2, 5, 0, 0, []),
  (95, .iconst 1, 1, 0, 1, 0, []),
  (96, .isub, 1, 0, 0, 0, []),
  (97, .aload_n 0, 1, 0, 0, 0, []),
  (98, .getfield 58, 3, 1221, 0, 0, []),
  (101, .iload 5, 2, 5, 0, 0, []),
  (103, .iaload, 1, 0, 0, 0, []),
  (104, .iastore, 1, 0, 0, 0, []),
  (105, .iinc 5 1, 3, 5, 1, 0, []),
  (108, .goto (-74), 3, 34, 0, 0, []),
  (111, .aload_n 0, 1, 0, 0, 0, []),
  (112, .dup, 1, 0, 0, 0, []),
  (113, .getfield 176, 3, 1216, 0, 0, []),
  (116, .iconst 1, 1, 0, 1, 0, []),
  (117, .isub, 1, 0, 0, 0, []),
  (118, .putfield 176, 3, 1216, 0, 0, []),
  (121, .aload_n 0, 1, 0, 0, 0, []),
  (122, .getfield 49, 3, 1218, 0, 0, []),
  (125, .aload_n 0, 1, 0, 0, 0, []),
  (126, .getfield 176, 3, 1216, 0, 0, []),
  (129, .iload_n 1, 1, 1, 0, 0, []),
  (130, .iastore, 1, 0, 0, 0, []),
  (131, .aload_n 0, 1, 0, 0, 0, []),
  (132, .getfield 52, 3, 1219, 0, 0, []),
  (135, .aload_n 0, 1, 0, 0, 0, []),
  (136, .getfield 176, 3, 1216, 0, 0, []),
  (139, .iload_n 2, 1, 2, 0, 0, []),
  (140, .iastore, 1, 0, 0, 0, []),
  (141, .aload_n 0, 1, 0, 0, 0, []),
  (142, .getfield 55, 3, 1220, 0, 0, []),
  (145, .aload_n 0, 1, 0, 0, 0, []),
  (146, .getfield 176, 3, 1216, 0, 0, []),
  (149, .iload 4, 2, 4, 0, 0, []),
  (151, .iastore, 1, 0, 0, 0, []),
  (152, .aload_n 0, 1, 0, 0, 0, []),
  (153, .getfield 58, 3, 1221, 0, 0, []),
  (156, .aload_n 0, 1, 0, 0, 0, []),
  (157, .getfield 176, 3, 1216, 0, 0, []),
  (160, .iload_n 3, 1, 3, 0, 0, []),
  (161, .iastore, 1, 0, 0, 0, []),
  (162, .aload_n 0, 1, 0, 0, 0, []),
  (163, .dup, 1, 0, 0, 0, []),
  (164, .getfield 176, 3, 1216, 0, 0, []),
  (167, .iconst 1, 1, 0, 1, 0, []),
  (168, .iadd, 1, 0, 0, 0, []),
  (169, .putfield 176, 3, 1216, 0, 0, []),
  (172, .aload_n 0, 1, 0, 0, 0, []),
  (173, .iload_n 1, 1, 1, 0, 0, []),
  (174, .iload_n 2, 1, 2, 0, 0, []),
  (175, .iload_n 3, 1, 3, 0, 0, []),
  (176, .invokevirtual 179, 3, 166, 0, 0, []),
  (179, .iload 4, 2, 4, 0, 0, []),
  (181, .ireturn, 1, 0, 0, 0, [])]
def mm_X12_changes : mM := (12, yX12_changes, cX12_changes, 6, (some .int), 4, (6153, 6152, 40, 1013, false), mo_X12_changes)
def mo_X12_undo : List mO := [
  (0, .aload_n 0, 1, 0, 0, 0, []),
  (1, .getfield 176, 3, 1216, 0, 0, []),
  (4, .ifCond .ne 6, 3, 10, 0, 0, []),
  (7, .bipush (-5), 2, 0, (-5), 0, []),
  (9, .ireturn, 1, 0, 0, 0, []),
  (10, .aload_n 0, 1, 0, 0, 0, []),
  (11, .dup, 1, 0, 0, 0, []),
  (12, .getfield 176, 3, 1216, 0, 0, []),
  (15, .iconst 1, 1, 0, 1, 0, []),
  (16, .isub, 1, 0, 0, 0, []),
  (17, .putfield 176, 3, 1216, 0, 0, []),
  (20, .aload_n 0, 1, 0, 0, 0, []),
  (21, .dup, 1, 0, 0, 0, []),
  (22, .getfield 173, 3, 1217, 0, 0, []),
  (25, .iconst 1, 1, 0, 1, 0, []),
  (26, .iadd, 1, 0, 0, 0, []),
  (27, .putfield 173, 3, 1217, 0, 0, []),
  (30, .aload_n 0, 1, 0, 0, 0, []),
  (31, .aload_n 0, 1, 0, 0, 0, []),
  (32, .getfield 49, 3, 1218, 0, 0, []),
  (35, .aload_n 0, 1, 0, 0, 0, []),
  (36, .getfield 176, 3, 1216, 0, 0, []),
  (39, .iaload, 1, 0, 0, 0, []),
  (40, .aload_n 0, 1, 0, 0, 0, []),
  (41, .getfield 52, 3, 1219, 0, 0, []),
  (44, .aload_n 0, 1, 0, 0, 0, []),
  (45, .getfield 176, 3, 1216, 0, 0, []),
  (48, .iaload, 1, 0, 0, 0, []),
  (49, .aload_n 0, 1, 0, 0, 0, []),
  (50, .getfield 55, 3, 1220, 0, 0, []),
  (53, .aload_n 0, 1, 0, 0, 0, []),
  (54, .getfield 176, 3, 1216, 0, 0, []),
  (57, .iaload, 1, 0, 0, 0, []),
  (58, .invokevirtual 179, 3, 166, 0, 0, []),
  (61, .aload_n 0, 1, 0, 0, 0, []),
  (62, .getfield 176, 3, 1216, 0, 0, []),
  (65, .ireturn, 1, 0, 0, 0, [])]
def mm_X12_undo : mM := (12, yX12_undo, cX12_undo, 1, (some .int), 1, (6126, 6124, 6125, 1013, false), mo_X12_undo)
def mo_X12_redo : List mO := [
  (0, .aload_n 0, 1, 0, 0, 0, []),
  (1, .getfield 173, 3, 1217, 0, 0, []),
  (4, .ifCond .ne 6, 3, 10, 0, 0, []),
  (7, .bipush (-5), 2, 0, (-5), 0, []),
  (9, .ireturn, 1, 0, 0, 0, []),
  (10, .aload_n 0, 1, 0, 0, 0, []),
  (11, .aload_n 0, 1, 0, 0, 0, []),
  (12, .getfield 49, 3, 1218, 0, 0, []),
  (15, .aload_n 0, 1, 0, 0, 0, []),
  (16, .getfield 176, 3, 1216, 0, 0, []),
  (19, .iaload, 1, 0, 0, 0, []),
  (20, .aload_n 0, 1, 0, 0, 0, []),
  (21, .getfield 52, 3, 1219, 0, 0, []),
  (24, .aload_n 0, 1, 0, 0, 0, []),
  (25, .getfield 176, 3, 1216, 0, 0, []),
  (28, .iaload, 1, 0, 0, 0, []),
  (29, .aload_n 0, 1, 0, 0, 0, []),
  (30, .getfield 58, 3, 1221, 0, 0, []),
  (33, .aload_n 0, 1, 0, 0, 0, []),
  (34, .getfield 176, 3, 1216, 0, 0, []),
  (37, .iaload, 1, 0, 0, 0, []),
  (38, .invokevirtual 179, 3, 166, 0, 0, []),
  (41, .aload_n 0, 1, 0, 0, 0, []),
  (42, .dup, 1, 0, 0, 0, []),
  (43, .getfield 176, 3, 1216, 0, 0, []),
  (46, .iconst 1, 1, 0, 1, 0, []),
  (47, .iadd, 1, 0, 0, 0, []),
  (48, .putfield 176, 3, 1216, 0, 0, []),
  (51, .aload_n 0, 1, 0, 0, 0, []),
  (52, .dup, 1, 0, 0, 0, []),
  (53, .getfield 173, 3, 1217, 0, 0, []),
  (56, .iconst 1, 1, 0, 1, 0, []),
  (57, .isub, 1, 0, 0, 0, []),
  (58, .putfield 173, 3, 1217, 0, 0, []),
  (61, .aload_n 0, 1, 0, 0, 0, []),
  (62, .getfield 173, 3, 1217, 0, 0, []),
  (65, .ireturn, 1, 0, 0, 0, [])]
def mm_X12_redo : mM := (12, yX12_redo, cX12_redo, 1, (some .int), 1, (6134, 6132, 6133, 1013, false), mo_X12_redo)
def mo_X12_isPlace : List mO := [
  (0, .iload_n 2, 1, 2, 0, 0, []),
  (1, .iconst 0, 1, 0, 0, 0, []),
  (2, .iconst 1, 1, 0, 1, 0, []),
  (3, .invokestatic 136, 3, 154, 0, 0, []),
  (6, .ifCond .eq 11, 3, 17, 0, 0, []),
  (9, .aload_n 0, 1, 0, 0, 0, []),
  (10, .iload_n 1, 1, 1, 0, 0, []),
  (11, .invokevirtual 146, 3, 158, 0, 0, []),
  (14, .goto 41, 3, 55, 0, 0, []),
  (17, .iload_n 2, 1, 2, 0, 0, []),
  (18, .iconst 2, 1, 0, 2, 0, []),
  (19, .bipush 7, 2, 0, 7, 0, []),
  (21, .invokestatic 136, 3, 154, 0, 0, []),
  (24, .ifCond .eq 11, 3, 35, 0, 0, []),
  (27, .aload_n 0, 1, 0, 0, 0, []),
  (28, .iload_n 1, 1, 1, 0, 0, []),
  (29, .invokevirtual 183, 3, 159, 0, 0, []),
  (32, .goto 23, 3, 55, 0, 0, []),
  (35, .iload_n 2, 1, 2, 0, 0, []),
  (36, .bipush 8, 2, 0, 8, 0, []),
  (38, .bipush 9, 2, 0, 9, 0, []),
  (40, .invokestatic 136, 3, 154, 0, 0, []),
  (43, .ifCond .eq 11, 3, 54, 0, 0, []),
  (46, .iload_n 1, 1, 1, 0, 0, []),
  (47, .ifCond .ne 7, 3, 54, 0, 0, []),
  (50, .iconst 1, 1, 0, 1, 0, []),
  (51, .goto 4, 3, 55, 0, 0, []),
  (54, .iconst 0, 1, 0, 0, 0, []),
  (55, .ireturn, 1, 0, 0, 0, [])]
def mm_X12_isPlace : mM := (12, yX12_isPlace, cX12_isPlace, 3, (some .boolean), 3, (6142, 6141, 38, 1013, false), mo_X12_isPlace)
def mo_X12_mayHave : List mO := [
  (0, .iload_n 0, 1, 0, 0, 0, []),
  (1, .tableswitch 79 0 8 #[51, 56, 51, 56, 79, 79, 64, 64, 71], 51, 80, 0, 0, [(0, 52), (1, 57), (2, 52), (3, 57), (4, 80), (5, 80), (6, 65), (7, 65), (8, 72)]),
  (52, .iload_n 1, 1, 1, 0, 0, []),
  (53, .invokestatic 150, 3, 157, 0, 0, []),
  (56, .ireturn, 1, 0, 0, 0, []),
  (57, .iload_n 1, 1, 1, 0, 0, []),
  (58, .iconst 0, 1, 0, 0, 0, []),
  (59, .bipush 9, 2, 0, 9, 0, []),
  (61, .invokestatic 136, 3, 154, 0, 0, []),
  (64, .ireturn, 1, 0, 0, 0, []),
  (65, .iload_n 1, 1, 1, 0, 0, []),
  (66, .iconst 0, 1, 0, 0, 0, []),
  (67, .iconst 1, 1, 0, 1, 0, []),
  (68, .invokestatic 136, 3, 154, 0, 0, []),
  (71, .ireturn, 1, 0, 0, 0, []),
  (72, .iload_n 1, 1, 1, 0, 0, []),
  (73, .iconst 1, 1, 0, 1, 0, []),
  (74, .bipush 9, 2, 0, 9, 0, []),
  (76, .invokestatic 136, 3, 154, 0, 0, []),
  (79, .ireturn, 1, 0, 0, 0, []),
  (80, .iload_n 1, 1, 1, 0, 0, []),
  (81, .iconst 0, 1, 0, 0, 0, []),
  (82, .bipush 99, 2, 0, 99, 0, []),
  (84, .invokestatic 136, 3, 154, 0, 0, []),
  (87, .ireturn, 1, 0, 0, 0, [])]
def mm_X12_mayHave : mM := (12, yX12_mayHave, cX12_mayHave, 2, (some .boolean), 2, (6149, 6148, 0, 1013, true), mo_X12_mayHave)
def mo_X12_mend : List mO := [
  (0, .aload_n 0, 1, 0, 0, 0, []),
  (1, .iload_n 1, 1, 1, 0, 0, []),
  (2, .iload_n 2, 1, 2, 0, 0, []),
  (3, .invokevirtual 186, 3, 170, 0, 0, []),
  (6, .ifCond .eq 21, 3, 27, 0, 0, []),
  (9, .iload_n 2, 1, 2, 0, 0, []),
  (10, .iload_n 3, 1, 3, 0, 0, []),
  (11, .invokestatic 189, 3, 171, 0, 0, []),
  (14, .ifCond .eq 13, 3, 27, 0, 0, []),
  (17, .aload_n 0, 1, 0, 0, 0, []),
  (18, .iload_n 2, 1, 2, 0, 0, []),
  (19, .iload_n 1, 1, 1, 0, 0, []),
  (20, .iload_n 3, 1, 3, 0, 0, []),
  (21, .invokevirtual 192, 3, 167, 0, 0, []),
  (24, .goto 4, 3, 28, 0, 0, []),
  (27, .iconst (-1), 1, 0, (-1), 0, []),
  (28, .ireturn, 1, 0, 0, 0, [])]
def mm_X12_mend : mM := (12, yX12_mend, cX12_mend, 4, (some .int), 4, (6138, 6136, 6137, 1013, false), mo_X12_mend)
def mo_X12_of : List mO := [
  (0, .iload_n 2, 1, 2, 0, 0, []),
  (1, .bipush 10, 2, 0, 10, 0, []),
  (3, .bipush 11, 2, 0, 11, 0, []),
  (5, .invokestatic 136, 3, 154, 0, 0, []),
  (8, .ifCond .eq 37, 3, 45, 0, 0, []),
  (11, .aload_n 0, 1, 0, 0, 0, []),
  (12, .iload_n 1, 1, 1, 0, 0, []),
  (13, .invokevirtual 183, 3, 159, 0, 0, []),
  (16, .ifCond .ne 7, 3, 23, 0, 0, []),
  (19, .iconst (-1), 1, 0, (-1), 0, []),
  (20, .goto 24, 3, 44, 0, 0, []),
  (23, .iload_n 2, 1, 2, 0, 0, []),
  (24, .bipush 10, 2, 0, 10, 0, []),
  (26, .if_icmp .ne 12, 3, 38, 0, 0, []),
  (29, .aload_n 0, 1, 0, 0, 0, []),
  (30, .getfield 18, 3, 1205, 0, 0, []),
  (33, .iload_n 1, 1, 1, 0, 0, []),
  (34, .iaload, 1, 0, 0, 0, []),
  (35, .goto 9, 3, 44, 0, 0, []),
  (38, .aload_n 0, 1, 0, 0, 0, []),
  (39, .getfield 21, 3, 1206, 0, 0, []),
  (42, .iload_n 1, 1, 1, 0, 0, []),
  (43, .iaload, 1, 0, 0, 0, []),
  (44, .ireturn, 1, 0, 0, 0, []),
  (45, .aload_n 0, 1, 0, 0, 0, []),
  (46, .iload_n 1, 1, 1, 0, 0, []),
  (47, .iload_n 2, 1, 2, 0, 0, []),
  (48, .invokevirtual 186, 3, 170, 0, 0, []),
  (51, .ifCond .eq 12, 3, 63, 0, 0, []),
  (54, .aload_n 0, 1, 0, 0, 0, []),
  (55, .iload_n 2, 1, 2, 0, 0, []),
  (56, .iload_n 1, 1, 1, 0, 0, []),
  (57, .invokevirtual 169, 3, 165, 0, 0, []),
  (60, .goto 4, 3, 64, 0, 0, []),
  (63, .iconst (-1), 1, 0, (-1), 0, []),
  (64, .ireturn, 1, 0, 0, 0, [])]
def mm_X12_of : mM := (12, yX12_of, cX12_of, 3, (some .int), 3, (6161, 6159, 6160, 1013, false), mo_X12_of)
def mo_X12_feed : List mO := [
  (0, .iload_n 1, 1, 1, 0, 0, []),
  (1, .iconst 0, 1, 0, 0, 0, []),
  (2, .sipush 255, 3, 0, 255, 0, []),
  (5, .invokestatic 136, 3, 154, 0, 0, []),
  (8, .ifCond .ne 5, 3, 13, 0, 0, []),
  (11, .iconst (-1), 1, 0, (-1), 0, []),
  (12, .ireturn, 1, 0, 0, 0, []),
  (13, .aload_n 0, 1, 0, 0, 0, []),
  (14, .getfield 196, 3, 1223, 0, 0, []),
  (17, .bipush 120, 2, 0, 120, 0, []),
  (19, .if_icmp .ne 6, 3, 25, 0, 0, []),
  (22, .bipush (-3), 2, 0, (-3), 0, []),
  (24, .ireturn, 1, 0, 0, 0, []),
  (25, .aload_n 0, 1, 0, 0, 0, []),
  (26, .getfield 61, 3, 1222, 0, 0, []),
  (29, .aload_n 0, 1, 0, 0, 0, []),
  (30, .getfield 196, 3, 1223, 0, 0, []),
  (33, .iload_n 1, 1, 1, 0, 0, []),
  (34, .i2b, 1, 0, 0, 0, []),
  (35, .bastore, 1, 0, 0, 0, []),
  (36, .aload_n 0, 1, 0, 0, 0, []),
  (37, .dup, 1, 0, 0, 0, []),
  (38, .getfield 196, 3, 1223, 0, 0, []),
  (41, .iconst 1, 1, 0, 1, 0, []),
  (42, .iadd, 1, 0, 0, 0, []),
  (43, .putfield 196, 3, 1223, 0, 0, []),
  (46, .aload_n 0, 1, 0, 0, 0, []),
  (47, .getfield 196, 3, 1223, 0, 0, []),
  (50, .ireturn, 1, 0, 0, 0, [])]
def mm_X12_feed : mM := (12, yX12_feed, cX12_feed, 2, (some .int), 2, (6165, 6163, 6164, 1013, false), mo_X12_feed)
def mo_X12_look : List mO := [
  (0, .aload_n 0, 1, 0, 0, 0, []),
  (1, .getfield 199, 3, 1224, 0, 0, []),
  (4, .aload_n 0, 1, 0, 0, 0, []),
  (5, .getfield 196, 3, 1223, 0, 0, []),
  (8, .if_icmp .ge 15, 3, 23, 0, 0, []),
  (11, .aload_n 0, 1, 0, 0, 0, []),
  (12, .getfield 61, 3, 1222, 0, 0, []),
  (15, .aload_n 0, 1, 0, 0, 0, []),
  (16, .getfield 199, 3, 1224, 0, 0, []),
  (19, .baload, 1, 0, 0, 0, []),
  (20, .goto 4, 3, 24, 0, 0, []),
  (23, .iconst (-1), 1, 0, (-1), 0, []),
  (24, .ireturn, 1, 0, 0, 0, [])]
def mm_X12_look : mM := (12, yX12_look, cX12_look, 1, (some .int), 1, (6205, 6204, 50, 1013, false), mo_X12_look)
def mo_X12_wrong : List mO := [
  (0, .aload_n 0, 1, 0, 0, 0, []),
  (1, .getfield 202, 3, 1225, 0, 0, []),
  (4, .ifCond .ge 11, 3, 15, 0, 0, []),
  (7, .aload_n 0, 1, 0, 0, 0, []),
  (8, .aload_n 0, 1, 0, 0, 0, []),
  (9, .getfield 199, 3, 1224, 0, 0, []),
  (12, .putfield 202, 3, 1225, 0, 0, []),
  (15, .return_, 1, 0, 0, 0, [])]
def mm_X12_wrong : mM := (12, yX12_wrong, cX12_wrong, 1, none, 1, (6220, 6219, 53, 1013, false), mo_X12_wrong)
def mo_X12_addStep : List mO := [
  (0, .aload_n 0, 1, 0, 0, 0, []),
  (1, .getfield 65, 3, 1228, 0, 0, []),
  (4, .sipush 130, 3, 0, 130, 0, []),
  (7, .aload_n 0, 1, 0, 0, 0, []),
  (8, .getfield 205, 3, 1227, 0, 0, []),
  (11, .iadd, 1, 0, 0, 0, []),
  (12, .iload_n 1, 1, 1, 0, 0, []),
  (13, .i2b, 1, 0, 0, 0, []),
  (14, .bastore, 1, 0, 0, 0, []),
  (15, .aload_n 0, 1, 0, 0, 0, []),
  (16, .getfield 68, 3, 1229, 0, 0, []),
  (19, .sipush 130, 3, 0, 130, 0, []),
  (22, .aload_n 0, 1, 0, 0, 0, []),
  (23, .getfield 205, 3, 1227, 0, 0, []),
  (26, .iadd, 1, 0, 0, 0, []),
  (27, .iload_n 2, 1, 2, 0, 0, []),
  (28, .iastore, 1, 0, 0, 0, []),
  (29, .aload_n 0, 1, 0, 0, 0, []),
  (30, .dup, 1, 0, 0, 0, []),
  (31, .getfield 205, 3, 1227, 0, 0, []),
  (34, .iconst 1, 1, 0, 1, 0, []),
  (35, .iadd, 1, 0, 0, 0, []),
  (36, .putfield 205, 3, 1227, 0, 0, []),
  (39, .return_, 1, 0, 0, 0, [])]
def mm_X12_addStep : mM := (12, yX12_addStep, cX12_addStep, 3, none, 3, (6212, 6211, 51, 1013, false), mo_X12_addStep)
def mo_X12_nameOf : List mO := [
  (0, .iload_n 0, 1, 0, 0, 0, []),
  (1, .lookupswitch 71 #[(98, 63), (100, 61), (102, 67), (111, 65), (119, 59), (121, 69)], 59, 72, 0, 0, [(98, 64), (100, 62), (102, 68), (111, 66), (119, 60), (121, 70)]),
  (60, .iconst 0, 1, 0, 0, 0, []),
  (61, .ireturn, 1, 0, 0, 0, []),
  (62, .iconst 1, 1, 0, 1, 0, []),
  (63, .ireturn, 1, 0, 0, 0, []),
  (64, .iconst 2, 1, 0, 2, 0, []),
  (65, .ireturn, 1, 0, 0, 0, []),
  (66, .iconst 3, 1, 0, 3, 0, []),
  (67, .ireturn, 1, 0, 0, 0, []),
  (68, .iconst 4, 1, 0, 4, 0, []),
  (69, .ireturn, 1, 0, 0, 0, []),
  (70, .iconst 5, 1, 0, 5, 0, []),
  (71, .ireturn, 1, 0, 0, 0, []),
  (72, .iconst (-1), 1, 0, (-1), 0, []),
  (73, .ireturn, 1, 0, 0, 0, [])]
def mm_X12_nameOf : mM := (12, yX12_nameOf, cX12_nameOf, 1, (some .int), 1, (6208, 6207, 0, 1013, true), mo_X12_nameOf)
def mo_X12_opens : List mO := [
  (0, .aload_n 0, 1, 0, 0, 0, []),
  (1, .getfield 208, 3, 1226, 0, 0, []),
  (4, .bipush 6, 2, 0, 6, 0, []),
  (6, .if_icmp .ne 9, 3, 15, 0, 0, []),
  (9, .aload_n 0, 1, 0, 0, 0, []),
  (10, .invokevirtual 211, 3, 176, 0, 0, []),
  (13, .iconst 0, 1, 0, 0, 0, []),
  (14, .ireturn, 1, 0, 0, 0, []),
  (15, .aload_n 0, 1, 0, 0, 0, []),
  (16, .dup, 1, 0, 0, 0, []),
  (17, .getfield 208, 3, 1226, 0, 0, []),
  (20, .iconst 1, 1, 0, 1, 0, []),
  (21, .iadd, 1, 0, 0, 0, []),
  (22, .putfield 208, 3, 1226, 0, 0, []),
  (25, .aload_n 0, 1, 0, 0, 0, []),
  (26, .dup, 1, 0, 0, 0, []),
  (27, .getfield 199, 3, 1224, 0, 0, []),
  (30, .iconst 1, 1, 0, 1, 0, []),
  (31, .iadd, 1, 0, 0, 0, []),
  (32, .putfield 199, 3, 1224, 0, 0, []),
  (35, .iconst 1, 1, 0, 1, 0, []),
  (36, .ireturn, 1, 0, 0, 0, [])]
def mm_X12_opens : mM := (12, yX12_opens, cX12_opens, 1, (some .boolean), 1, (6216, 6215, 52, 1013, false), mo_X12_opens)
def mo_X12_figure : List mO := [
  (0, .iconst 0, 1, 0, 0, 0, []),
  (1, .istore_n 1, 1, 1, 0, 0, []),
  (2, .iconst 0, 1, 0, 0, 0, []),
  (3, .istore_n 2, 1, 2, 0, 0, []),
  (4, .iload_n 2, 1, 2, 0, 0, []),
  (5, .iconst 4, 1, 0, 4, 0, []),
  (6, .if_icmp .ge 46, 3, 52, 0, 0, []),
  (9, .aload_n 0, 1, 0, 0, 0, []),
  (10, .invokevirtual 214, 3, 175, 0, 0, []),
  (13, .bipush 48, 2, 0, 48, 0, []),
  (15, .bipush 57, 2, 0, 57, 0, []),
  (17, .invokestatic 136, 3, 154, 0, 0, []),
  (20, .ifCond .eq 32, 3, 52, 0, 0, []),
  (23, .bipush 10, 2, 0, 10, 0, []),
  (25, .iload_n 1, 1, 1, 0, 0, []),
  (26, .imul, 1, 0, 0, 0, []),
  (27, .aload_n 0, 1, 0, 0, 0, []),
  (28, .invokevirtual 214, 3, 175, 0, 0, []),
  (31, .iadd, 1, 0, 0, 0, []),
  (32, .bipush 48, 2, 0, 48, 0, []),
  (34, .isub, 1, 0, 0, 0, []),
  (35, .istore_n 1, 1, 1, 0, 0, []),
  (36, .iinc 2 1, 3, 2, 1, 0, []),
  (39, .aload_n 0, 1, 0, 0, 0, []),
  (40, .dup, 1, 0, 0, 0, []),
  (41, .getfield 199, 3, 1224, 0, 0, []),
  (44, .iconst 1, 1, 0, 1, 0, []),
  (45, .iadd, 1, 0, 0, 0, []),
  (46, .putfield 199, 3, 1224, 0, 0, []),
  (49, .goto (-45), 3, 4, 0, 0, []),
  (52, .iload_n 2, 1, 2, 0, 0, []),
  (53, .ifCond .eq 17, 3, 70, 0, 0, []),
  (56, .aload_n 0, 1, 0, 0, 0, []),
  (57, .invokevirtual 214, 3, 175, 0, 0, []),
  (60, .bipush 48, 2, 0, 48, 0, []),
  (62, .bipush 57, 2, 0, 57, 0, []),
  (64, .invokestatic 136, 3, 154, 0, 0, []),
  (67, .ifCond .eq 7, 3, 74, 0, 0, []),
  (70, .aload_n 0, 1, 0, 0, 0, []),
  (71, .invokevirtual 211, 3, 176, 0, 0, []),
  (74, .aload_n 0, 1, 0, 0, 0, []),
  (75, .iconst 1, 1, 0, 1, 0, []),
  (76, .iload_n 1, 1, 1, 0, 0, []),
  (77, .invokevirtual 218, 3, 177, 0, 0, []),
  (80, .return_, 1, 0, 0, 0, [])]
def mm_X12_figure : mM := (12, yX12_figure, cX12_figure, 3, none, 1, (6224, 6223, 54, 1013, false), mo_X12_figure)
def mo_X12_operand : List mO := [
  (0, .aload_n 0, 1, 0, 0, 0, []),
  (1, .invokevirtual 214, 3, 175, 0, 0, []),
  (4, .istore_n 1, 1, 1, 0, 0, []),
  (5, .iload_n 1, 1, 1, 0, 0, []),
  (6, .invokestatic 222, 3, 178, 0, 0, []),
  (9, .ifCond .lt 25, 3, 34, 0, 0, []),
  (12, .aload_n 0, 1, 0, 0, 0, []),
  (13, .iconst 2, 1, 0, 2, 0, []),
  (14, .iload_n 1, 1, 1, 0, 0, []),
  (15, .invokestatic 222, 3, 178, 0, 0, []),
  (18, .invokevirtual 218, 3, 177, 0, 0, []),
  (21, .aload_n 0, 1, 0, 0, 0, []),
  (22, .dup, 1, 0, 0, 0, []),
  (23, .getfield 199, 3, 1224, 0, 0, []),
  (26, .iconst 1, 1, 0, 1, 0, []),
  (27, .iadd, 1, 0, 0, 0, []),
  (28, .putfield 199, 3, 1224, 0, 0, []),
  (31, .goto 123, 3, 154, 0, 0, []),
  (34, .iload_n 1, 1, 1, 0, 0, []),
  (35, .bipush 33, 2, 0, 33, 0, []),
  (37, .if_icmp .eq 9, 3, 46, 0, 0, []),
  (40, .iload_n 1, 1, 1, 0, 0, []),
  (41, .bipush 45, 2, 0, 45, 0, []),
  (43, .if_icmp .ne 44, 3, 87, 0, 0, []),
  (46, .aload_n 0, 1, 0, 0, 0, []),
  (47, .invokevirtual 226, 3, 179, 0, 0, []),
  (50, .ifCond .ne 4, 3, 54, 0, 0, []),
  (53, .return_, 1, 0, 0, 0, []),
  (54, .aload_n 0, 1, 0, 0, 0, []),
  (55, .invokevirtual 230, 3, 181, 0, 0, []),
  (58, .aload_n 0, 1, 0, 0, 0, []),
  (59, .dup, 1, 0, 0, 0, []),
  (60, .getfield 208, 3, 1226, 0, 0, []),
  (63, .iconst 1, 1, 0, 1, 0, []),
  (64, .isub, 1, 0, 0, 0, []),
  (65, .putfield 208, 3, 1226, 0, 0, []),
  (68, .aload_n 0, 1, 0, 0, 0, []),
  (69, .iload_n 1, 1, 1, 0, 0, []),
  (70, .bipush 33, 2, 0, 33, 0, []),
  (72, .if_icmp .ne 7, 3, 79, 0, 0, []),
  (75, .iconst 3, 1, 0, 3, 0, []),
  (76, .goto 4, 3, 80, 0, 0, []),
  (79, .iconst 4, 1, 0, 4, 0, []),
  (80, .iconst 0, 1, 0, 0, 0, []),
  (81, .invokevirtual 218, 3, 177, 0, 0, []),
  (84, .goto 70, 3, 154, 0, 0, []),
  (87, .iload_n 1, 1, 1, 0, 0, []),
  (88, .bipush 40, 2, 0, 40, 0, []),
  (90, .if_icmp .ne 60, 3, 150, 0, 0, []),
  (93, .aload_n 0, 1, 0, 0, 0, []),
  (94, .invokevirtual 226, 3, 179, 0, 0, []),
  (97, .ifCond .ne 4, 3, 101, 0, 0, []),
  (100, .return_, 1, 0, 0, 0, []),
  (101, .aload_n 0, 1, 0, 0, 0, []),
  (102, .invokevirtual 233, 3, 186, 0, 0, []),
  (105, .aload_n 0, 1, 0, 0, 0, []),
  (106, .getfield 202, 3, 1225, 0, 0, []),
  (109, .ifCond .lt 4, 3, 113, 0, 0, []),
  (112, .return_, 1, 0, 0, 0, []),
  (113, .aload_n 0, 1, 0, 0, 0, []),
  (114, .invokevirtual 214, 3, 175, 0, 0, []),
  (117, .bipush 41, 2, 0, 41, 0, []),
  (119, .if_icmp .eq 8, 3, 127, 0, 0, []),
  (122, .aload_n 0, 1, 0, 0, 0, []),
  (123, .invokevirtual 211, 3, 176, 0, 0, []),
  (126, .return_, 1, 0, 0, 0, []),
  (127, .aload_n 0, 1, 0, 0, 0, []),
  (128, .dup, 1, 0, 0, 0, []),
  (129, .getfield 199, 3, 1224, 0, 0, []),
  (132, .iconst 1, 1, 0, 1, 0, []),
  (133, .iadd, 1, 0, 0, 0, []),
  (134, .putfield 199, 3, 1224, 0, 0, []),
  (137, .aload_n 0, 1, 0, 0, 0, []),
  (138, .dup, 1, 0, 0, 0, []),
  (139, .getfield 208, 3, 1226, 0, 0, []),
  (142, .iconst 1, 1, 0, 1, 0, []),
  (143, .isub, 1, 0, 0, 0, []),
  (144, .putfield 208, 3, 1226, 0, 0, []),
  (147, .goto 7, 3, 154, 0, 0, []),
  (150, .aload_n 0, 1, 0, 0, 0, []),
  (151, .invokevirtual 236, 3, 180, 0, 0, []),
  (154, .return_, 1, 0, 0, 0, [])]
def mm_X12_operand : mM := (12, yX12_operand, cX12_operand, 2, none, 1, (6201, 6200, 49, 1013, false), mo_X12_operand)
def mo_X12_product : List mO := [
  (0, .aload_n 0, 1, 0, 0, 0, []),
  (1, .invokevirtual 230, 3, 181, 0, 0, []),
  (4, .aload_n 0, 1, 0, 0, 0, []),
  (5, .getfield 202, 3, 1225, 0, 0, []),
  (8, .ifCond .ge 58, 3, 66, 0, 0, []),
  (11, .aload_n 0, 1, 0, 0, 0, []),
  (12, .invokevirtual 214, 3, 175, 0, 0, []),
  (15, .bipush 42, 2, 0, 42, 0, []),
  (17, .if_icmp .eq 21, 3, 38, 0, 0, []),
  (20, .aload_n 0, 1, 0, 0, 0, []),
  (21, .invokevirtual 214, 3, 175, 0, 0, []),
  (24, .bipush 47, 2, 0, 47, 0, []),
  (26, .if_icmp .eq 12, 3, 38, 0, 0, []),
  (29, .aload_n 0, 1, 0, 0, 0, []),
  (30, .invokevirtual 214, 3, 175, 0, 0, []),
  (33, .bipush 37, 2, 0, 37, 0, []),
  (35, .if_icmp .ne 31, 3, 66, 0, 0, []),
  (38, .aload_n 0, 1, 0, 0, 0, []),
  (39, .invokevirtual 214, 3, 175, 0, 0, []),
  (42, .istore_n 1, 1, 1, 0, 0, []),
  (43, .aload_n 0, 1, 0, 0, 0, []),
  (44, .dup, 1, 0, 0, 0, []),
  (45, .getfield 199, 3, 1224, 0, 0, []),
  (48, .iconst 1, 1, 0, 1, 0, []),
  (49, .iadd, 1, 0, 0, 0, []),
  (50, .putfield 199, 3, 1224, 0, 0, []),
  (53, .aload_n 0, 1, 0, 0, 0, []),
  (54, .invokevirtual 230, 3, 181, 0, 0, []),
  (57, .aload_n 0, 1, 0, 0, 0, []),
  (58, .iload_n 1, 1, 1, 0, 0, []),
  (59, .iconst 0, 1, 0, 0, 0, []),
  (60, .invokevirtual 218, 3, 177, 0, 0, []),
  (63, .goto (-59), 3, 4, 0, 0, []),
  (66, .return_, 1, 0, 0, 0, [])]
def mm_X12_product : mM := (12, yX12_product, cX12_product, 2, none, 1, (6197, 6196, 48, 1013, false), mo_X12_product)
def mo_X12_sum : List mO := [
  (0, .aload_n 0, 1, 0, 0, 0, []),
  (1, .invokevirtual 239, 3, 182, 0, 0, []),
  (4, .aload_n 0, 1, 0, 0, 0, []),
  (5, .getfield 202, 3, 1225, 0, 0, []),
  (8, .ifCond .ge 49, 3, 57, 0, 0, []),
  (11, .aload_n 0, 1, 0, 0, 0, []),
  (12, .invokevirtual 214, 3, 175, 0, 0, []),
  (15, .bipush 43, 2, 0, 43, 0, []),
  (17, .if_icmp .eq 12, 3, 29, 0, 0, []),
  (20, .aload_n 0, 1, 0, 0, 0, []),
  (21, .invokevirtual 214, 3, 175, 0, 0, []),
  (24, .bipush 45, 2, 0, 45, 0, []),
  (26, .if_icmp .ne 31, 3, 57, 0, 0, []),
  (29, .aload_n 0, 1, 0, 0, 0, []),
  (30, .invokevirtual 214, 3, 175, 0, 0, []),
  (33, .istore_n 1, 1, 1, 0, 0, []),
  (34, .aload_n 0, 1, 0, 0, 0, []),
  (35, .dup, 1, 0, 0, 0, []),
  (36, .getfield 199, 3, 1224, 0, 0, []),
  (39, .iconst 1, 1, 0, 1, 0, []),
  (40, .iadd, 1, 0, 0, 0, []),
  (41, .putfield 199, 3, 1224, 0, 0, []),
  (44, .aload_n 0, 1, 0, 0, 0, []),
  (45, .invokevirtual 239, 3, 182, 0, 0, []),
  (48, .aload_n 0, 1, 0, 0, 0, []),
  (49, .iload_n 1, 1, 1, 0, 0, []),
  (50, .iconst 0, 1, 0, 0, 0, []),
  (51, .invokevirtual 218, 3, 177, 0, 0, []),
  (54, .goto (-50), 3, 4, 0, 0, []),
  (57, .return_, 1, 0, 0, 0, [])]
def mm_X12_sum : mM := (12, yX12_sum, cX12_sum, 2, none, 1, (6193, 6192, 47, 1013, false), mo_X12_sum)
def mo_X12_compared : List mO := [
  (0, .aload_n 0, 1, 0, 0, 0, []),
  (1, .invokevirtual 242, 3, 183, 0, 0, []),
  (4, .aload_n 0, 1, 0, 0, 0, []),
  (5, .invokevirtual 214, 3, 175, 0, 0, []),
  (8, .istore_n 1, 1, 1, 0, 0, []),
  (9, .aload_n 0, 1, 0, 0, 0, []),
  (10, .getfield 202, 3, 1225, 0, 0, []),
  (13, .ifCond .ge 21, 3, 34, 0, 0, []),
  (16, .iload_n 1, 1, 1, 0, 0, []),
  (17, .bipush 60, 2, 0, 60, 0, []),
  (19, .if_icmp .eq 16, 3, 35, 0, 0, []),
  (22, .iload_n 1, 1, 1, 0, 0, []),
  (23, .bipush 61, 2, 0, 61, 0, []),
  (25, .if_icmp .eq 10, 3, 35, 0, 0, []),
  (28, .iload_n 1, 1, 1, 0, 0, []),
  (29, .bipush 62, 2, 0, 62, 0, []),
  (31, .if_icmp .eq 4, 3, 35, 0, 0, []),
  (34, .return_, 1, 0, 0, 0, []),
  (35, .aload_n 0, 1, 0, 0, 0, []),
  (36, .dup, 1, 0, 0, 0, []),
  (37, .getfield 199, 3, 1224, 0, 0, []),
  (40, .iconst 1, 1, 0, 1, 0, []),
  (41, .iadd, 1, 0, 0, 0, []),
  (42, .putfield 199, 3, 1224, 0, 0, []),
  (45, .aload_n 0, 1, 0, 0, 0, []),
  (46, .invokevirtual 242, 3, 183, 0, 0, []),
  (49, .aload_n 0, 1, 0, 0, 0, []),
  (50, .iload_n 1, 1, 1, 0, 0, []),
  (51, .iconst 0, 1, 0, 0, 0, []),
  (52, .invokevirtual 218, 3, 177, 0, 0, []),
  (55, .return_, 1, 0, 0, 0, [])]
def mm_X12_compared : mM := (12, yX12_compared, cX12_compared, 2, none, 1, (6189, 6188, 46, 1013, false), mo_X12_compared)
def mo_X12_both : List mO := [
  (0, .aload_n 0, 1, 0, 0, 0, []),
  (1, .invokevirtual 245, 3, 184, 0, 0, []),
  (4, .aload_n 0, 1, 0, 0, 0, []),
  (5, .getfield 202, 3, 1225, 0, 0, []),
  (8, .ifCond .ge 36, 3, 44, 0, 0, []),
  (11, .aload_n 0, 1, 0, 0, 0, []),
  (12, .invokevirtual 214, 3, 175, 0, 0, []),
  (15, .bipush 38, 2, 0, 38, 0, []),
  (17, .if_icmp .ne 27, 3, 44, 0, 0, []),
  (20, .aload_n 0, 1, 0, 0, 0, []),
  (21, .dup, 1, 0, 0, 0, []),
  (22, .getfield 199, 3, 1224, 0, 0, []),
  (25, .iconst 1, 1, 0, 1, 0, []),
  (26, .iadd, 1, 0, 0, 0, []),
  (27, .putfield 199, 3, 1224, 0, 0, []),
  (30, .aload_n 0, 1, 0, 0, 0, []),
  (31, .invokevirtual 245, 3, 184, 0, 0, []),
  (34, .aload_n 0, 1, 0, 0, 0, []),
  (35, .bipush 38, 2, 0, 38, 0, []),
  (37, .iconst 0, 1, 0, 0, 0, []),
  (38, .invokevirtual 218, 3, 177, 0, 0, []),
  (41, .goto (-37), 3, 4, 0, 0, []),
  (44, .return_, 1, 0, 0, 0, [])]
def mm_X12_both : mM := (12, yX12_both, cX12_both, 1, none, 1, (6185, 6184, 45, 1013, false), mo_X12_both)
def mo_X12_either : List mO := [
  (0, .aload_n 0, 1, 0, 0, 0, []),
  (1, .invokevirtual 248, 3, 185, 0, 0, []),
  (4, .aload_n 0, 1, 0, 0, 0, []),
  (5, .getfield 202, 3, 1225, 0, 0, []),
  (8, .ifCond .ge 36, 3, 44, 0, 0, []),
  (11, .aload_n 0, 1, 0, 0, 0, []),
  (12, .invokevirtual 214, 3, 175, 0, 0, []),
  (15, .bipush 124, 2, 0, 124, 0, []),
  (17, .if_icmp .ne 27, 3, 44, 0, 0, []),
  (20, .aload_n 0, 1, 0, 0, 0, []),
  (21, .dup, 1, 0, 0, 0, []),
  (22, .getfield 199, 3, 1224, 0, 0, []),
  (25, .iconst 1, 1, 0, 1, 0, []),
  (26, .iadd, 1, 0, 0, 0, []),
  (27, .putfield 199, 3, 1224, 0, 0, []),
  (30, .aload_n 0, 1, 0, 0, 0, []),
  (31, .invokevirtual 248, 3, 185, 0, 0, []),
  (34, .aload_n 0, 1, 0, 0, 0, []),
  (35, .bipush 124, 2, 0, 124, 0, []),
  (37, .iconst 0, 1, 0, 0, 0, []),
  (38, .invokevirtual 218, 3, 177, 0, 0, []),
  (41, .goto (-37), 3, 4, 0, 0, []),
  (44, .return_, 1, 0, 0, 0, [])]
def mm_X12_either : mM := (12, yX12_either, cX12_either, 1, none, 1, (6181, 6180, 44, 1013, false), mo_X12_either)
def mo_X12_line : List mO := [
  (0, .bipush 61, 2, 0, 61, 0, []),
  (2, .aload_n 0, 1, 0, 0, 0, []),
  (3, .getfield 71, 3, 1230, 0, 0, []),
  (6, .iconst 1, 1, 0, 1, 0, []),
  (7, .iaload, 1, 0, 0, 0, []),
  (8, .iadd, 1, 0, 0, 0, []),
  (9, .istore_n 1, 1, 1, 0, 0, []),
  (10, .aload_n 0, 1, 0, 0, 0, []),
  (11, .getfield 74, 3, 1231, 0, 0, []),
  (14, .iload_n 1, 1, 1, 0, 0, []),
  (15, .aload_n 0, 1, 0, 0, 0, []),
  (16, .getfield 205, 3, 1227, 0, 0, []),
  (19, .i2s, 1, 0, 0, 0, []),
  (20, .sastore, 1, 0, 0, 0, []),
  (21, .aload_n 0, 1, 0, 0, 0, []),
  (22, .invokevirtual 233, 3, 186, 0, 0, []),
  (25, .aload_n 0, 1, 0, 0, 0, []),
  (26, .getfield 202, 3, 1225, 0, 0, []),
  (29, .ifCond .ge 37, 3, 66, 0, 0, []),
  (32, .aload_n 0, 1, 0, 0, 0, []),
  (33, .invokevirtual 214, 3, 175, 0, 0, []),
  (36, .bipush 63, 2, 0, 63, 0, []),
  (38, .if_icmp .ne 28, 3, 66, 0, 0, []),
  (41, .aload_n 0, 1, 0, 0, 0, []),
  (42, .dup, 1, 0, 0, 0, []),
  (43, .getfield 199, 3, 1224, 0, 0, []),
  (46, .iconst 1, 1, 0, 1, 0, []),
  (47, .iadd, 1, 0, 0, 0, []),
  (48, .putfield 199, 3, 1224, 0, 0, []),
  (51, .aload_n 0, 1, 0, 0, 0, []),
  (52, .getfield 74, 3, 1231, 0, 0, []),
  (55, .iload_n 1, 1, 1, 0, 0, []),
  (56, .aload_n 0, 1, 0, 0, 0, []),
  (57, .getfield 205, 3, 1227, 0, 0, []),
  (60, .i2s, 1, 0, 0, 0, []),
  (61, .sastore, 1, 0, 0, 0, []),
  (62, .aload_n 0, 1, 0, 0, 0, []),
  (63, .invokevirtual 233, 3, 186, 0, 0, []),
  (66, .aload_n 0, 1, 0, 0, 0, []),
  (67, .getfield 78, 3, 1232, 0, 0, []),
  (70, .iload_n 1, 1, 1, 0, 0, []),
  (71, .aload_n 0, 1, 0, 0, 0, []),
  (72, .getfield 205, 3, 1227, 0, 0, []),
  (75, .i2s, 1, 0, 0, 0, []),
  (76, .sastore, 1, 0, 0, 0, []),
  (77, .aload_n 0, 1, 0, 0, 0, []),
  (78, .getfield 71, 3, 1230, 0, 0, []),
  (81, .iconst 1, 1, 0, 1, 0, []),
  (82, .dup2, 1, 0, 0, 0, []),
  (83, .iaload, 1, 0, 0, 0, []),
  (84, .iconst 1, 1, 0, 1, 0, []),
  (85, .iadd, 1, 0, 0, 0, []),
  (86, .iastore, 1, 0, 0, 0, []),
  (87, .return_, 1, 0, 0, 0, [])]
def mm_X12_line : mM := (12, yX12_line, cX12_line, 2, none, 1, (6177, 6176, 43, 1013, false), mo_X12_line)
def mo_X12_readText : List mO := [
  (0, .aload_n 0, 1, 0, 0, 0, []),
  (1, .iconst 0, 1, 0, 0, 0, []),
  (2, .putfield 199, 3, 1224, 0, 0, []),
  (5, .aload_n 0, 1, 0, 0, 0, []),
  (6, .iconst (-1), 1, 0, (-1), 0, []),
  (7, .putfield 202, 3, 1225, 0, 0, []),
  (10, .aload_n 0, 1, 0, 0, 0, []),
  (11, .iconst 0, 1, 0, 0, 0, []),
  (12, .putfield 208, 3, 1226, 0, 0, []),
  (15, .aload_n 0, 1, 0, 0, 0, []),
  (16, .iconst 0, 1, 0, 0, 0, []),
  (17, .putfield 205, 3, 1227, 0, 0, []),
  (20, .aload_n 0, 1, 0, 0, 0, []),
  (21, .getfield 71, 3, 1230, 0, 0, []),
  (24, .iconst 1, 1, 0, 1, 0, []),
  (25, .iconst 0, 1, 0, 0, 0, []),
  (26, .iastore, 1, 0, 0, 0, []),
  (27, .aload_n 0, 1, 0, 0, 0, []),
  (28, .invokevirtual 251, 3, 187, 0, 0, []),
  (31, .aload_n 0, 1, 0, 0, 0, []),
  (32, .getfield 202, 3, 1225, 0, 0, []),
  (35, .ifCond .ge 29, 3, 64, 0, 0, []),
  (38, .aload_n 0, 1, 0, 0, 0, []),
  (39, .invokevirtual 214, 3, 175, 0, 0, []),
  (42, .bipush 59, 2, 0, 59, 0, []),
  (44, .if_icmp .ne 20, 3, 64, 0, 0, []),
  (47, .aload_n 0, 1, 0, 0, 0, []),
  (48, .dup, 1, 0, 0, 0, []),
  (49, .getfield 199, 3, 1224, 0, 0, []),
  (52, .iconst 1, 1, 0, 1, 0, []),
  (53, .iadd, 1, 0, 0, 0, []),
  (54, .putfield 199, 3, 1224, 0, 0, []),
  (57, .aload_n 0, 1, 0, 0, 0, []),
  (58, .invokevirtual 251, 3, 187, 0, 0, []),
  (61, .goto (-30), 3, 31, 0, 0, []),
  (64, .aload_n 0, 1, 0, 0, 0, []),
  (65, .getfield 202, 3, 1225, 0, 0, []),
  (68, .ifCond .ge 18, 3, 86, 0, 0, []),
  (71, .aload_n 0, 1, 0, 0, 0, []),
  (72, .getfield 199, 3, 1224, 0, 0, []),
  (75, .aload_n 0, 1, 0, 0, 0, []),
  (76, .getfield 196, 3, 1223, 0, 0, []),
  (79, .if_icmp .ge 7, 3, 86, 0, 0, []),
  (82, .aload_n 0, 1, 0, 0, 0, []),
  (83, .invokevirtual 211, 3, 176, 0, 0, []),
  (86, .aload_n 0, 1, 0, 0, 0, []),
  (87, .iconst 0, 1, 0, 0, 0, []),
  (88, .putfield 196, 3, 1223, 0, 0, []),
  (91, .aload_n 0, 1, 0, 0, 0, []),
  (92, .getfield 202, 3, 1225, 0, 0, []),
  (95, .ifCond .lt 8, 3, 103, 0, 0, []),
  (98, .aload_n 0, 1, 0, 0, 0, []),
  (99, .getfield 202, 3, 1225, 0, 0, []),
  (102, .ireturn, 1, 0, 0, 0, []),
  (103, .iconst 0, 1, 0, 0, 0, []),
  (104, .istore_n 2, 1, 2, 0, 0, []),
  (105, .iload_n 2, 1, 2, 0, 0, []),
  (106, .aload_n 0, 1, 0, 0, 0, []),
  (107, .getfield 205, 3, 1227, 0, 0, []),
  (110, .if_icmp .ge 53, 3, 163, 0, 0, []),
  (113, .aload_n 0, 1, 0, 0, 0, []),
  (114, .getfield 65, 3, 1228, 0, 0, []),
  (117, .sipush 130, 3, 0, 130, 0, []),
  (120, .iload_n 1, 1, 1, 0, 0, []),
  (121, .imul, 1, 0, 0, 0, []),
  (122, .iload_n 2, 1, 2, 0, 0, []),
  (123, .iadd, 1, 0, 0, 0, []),
  (124, .aload_n 0, 1, 0, 0, 0, []),
  (125, .getfield 65, 3, 1228, 0, 0, []),
  (128, .sipush 130, 3, 0, 130, 0, []),
  (131, .iload_n 2, 1, 2, 0, 0, []),
  (132, .iadd, 1, 0, 0, 0, []),
  (133, .baload, 1, 0, 0, 0, []),
  (134, .bastore, 1, 0, 0, 0, []),
  (135, .aload_n 0, 1, 0, 0, 0, []),
  (136, .getfield 68, 3, 1229, 0, 0, []),
  (139, .sipush 130, 3, 0, 130, 0, []),
  (142, .iload_n 1, 1, 1, 0, 0, []),
  (143, .imul, 1, 0, 0, 0, []),
  (144, .iload_n 2, 1, 2, 0, 0, []),
  (145, .iadd, 1, 0, 0, 0, []),
  (146, .aload_n 0, 1, 0, 0, 0, []),
  (147, .getfield 68, 3, 1229, 0, 0, []),
  (150, .sipush 130, 3, 0, 130, 0, []),
  (153, .iload_n 2, 1, 2, 0, 0, []),
  (154, .iadd, 1, 0, 0, 0, []),
  (155, .iaload, 1, 0, 0, 0, []),
  (156, .iastore, 1, 0, 0, 0, []),
  (157, .iinc 2 1, 3, 2, 1, 0, []),
  (160, .goto (-55), 3, 105, 0, 0, []),
  (163, .aload_n 0, 1, 0, 0, 0, []),
  (164, .getfield 71, 3, 1230, 0, 0, []),
  (167, .iload_n 1, 1, 1, 0, 0, []),
  (168, .aload_n 0, 1, 0, 0, 0, []),
  (169, .getfield 71, 3, 1230, 0, 0, []),
  (172, .iconst 1, 1, 0, 1, 0, []),
  (173, .iaload, 1, 0, 0, 0, []),
  (174, .iastore, 1, 0, 0, 0, []),
  (175, .iconst 0, 1, 0, 0, 0, []),
  (176, .istore_n 2, 1, 2, 0, 0, []),
  (177, .iload_n 2, 1, 2, 0, 0, []),
  (178, .aload_n 0, 1, 0, 0, 0, []),
  (179, .getfield 71, 3, 1230, 0, 0, []),
  (182, .iload_n 1, 1, 1, 0, 0, []),
  (183, .iaload, 1, 0, 0, 0, []),
  (184, .if_icmp .ge 49, 3, 233, 0, 0, []),
  (187, .aload_n 0, 1, 0, 0, 0, []),
  (188, .getfield 74, 3, 1231, 0, 0, []),
  (191, .bipush 61, 2, 0, 61, 0, []),
  (193, .iload_n 1, 1, 1, 0, 0, []),
  (194, .imul, 1, 0, 0, 0, []),
  (195, .iload_n 2, 1, 2, 0, 0, []),
  (196, .iadd, 1, 0, 0, 0, []),
  (197, .aload_n 0, 1, 0, 0, 0, []),
  (198, .getfield 74, 3, 1231, 0, 0, []),
  (201, .bipush 61, 2, 0, 61, 0, []),
  (203, .iload_n 2, 1, 2, 0, 0, []),
  (204, .iadd, 1, 0, 0, 0, []),
  (205, .saload, 1, 0, 0, 0, []),
  (206, .sastore, 1, 0, 0, 0, []),
  (207, .aload_n 0, 1, 0, 0, 0, []),
  (208, .getfield 78, 3, 1232, 0, 0, []),
  (211, .bipush 61, 2, 0, 61, 0, []),
  (213, .iload_n 1, 1, 1, 0, 0, []),
  (214, .imul, 1, 0, 0, 0, []),
  (215, .iload_n 2, 1, 2, 0, 0, []),
  (216, .iadd, 1, 0, 0, 0, []),
  (217, .aload_n 0, 1, 0, 0, 0, []),
  (218, .getfield 78, 3, 1232, 0, 0, []),
  (221, .bipush 61, 2, 0, 61, 0, []),
  (223, .iload_n 2, 1, 2, 0, 0, []),
  (224, .iadd, 1, 0, 0, 0, []),
  (225, .saload, 1, 0, 0, 0, []),
  (226, .sastore, 1, 0, 0, 0, []),
  (227, .iinc 2 1, 3, 2, 1, 0, []),
  (230, .goto (-53), 3, 177, 0, 0, []),
  (233, .iconst (-1), 1, 0, (-1), 0, []),
  (234, .ireturn, 1, 0, 0, 0, [])]
def mm_X12_readText : mM := (12, yX12_readText, cX12_readText, 3, (some .int), 2, (6173, 6172, 42, 1013, false), mo_X12_readText)
def mo_X12_twoOf : List mO := [
  (0, .iload_n 0, 1, 0, 0, 0, []),
  (1, .tableswitch 217 37 62 #[153, 203, 217, 217, 217, 127, 119, 217, 123, 217, 131, 217, 217, 217, 217, 217, 217, 217, 217, 217, 217, 217, 217, 170, 181, 192], 119, 218, 0, 0, [(37, 154), (38, 204), (39, 218), (40, 218), (41, 218), (42, 128), (43, 120), (44, 218), (45, 124), (46, 218), (47, 132), (48, 218), (49, 218), (50, 218), (51, 218), (52, 218), (53, 218), (54, 218), (55, 218), (56, 218), (57, 218), (58, 218), (59, 218), (60, 171), (61, 182), (62, 193)]),
  (120, .iload_n 1, 1, 1, 0, 0, []),
  (121, .iload_n 2, 1, 2, 0, 0, []),
  (122, .iadd, 1, 0, 0, 0, []),
  (123, .ireturn, 1, 0, 0, 0, []),
  (124, .iload_n 1, 1, 1, 0, 0, []),
  (125, .iload_n 2, 1, 2, 0, 0, []),
  (126, .isub, 1, 0, 0, 0, []),
  (127, .ireturn, 1, 0, 0, 0, []),
  (128, .iload_n 1, 1, 1, 0, 0, []),
  (129, .iload_n 2, 1, 2, 0, 0, []),
  (130, .imul, 1, 0, 0, 0, []),
  (131, .ireturn, 1, 0, 0, 0, []),
  (132, .iload_n 2, 1, 2, 0, 0, []),
  (133, .ifCond .ne 7, 3, 140, 0, 0, []),
  (136, .iconst 0, 1, 0, 0, 0, []),
  (137, .goto 16, 3, 153, 0, 0, []),
  (140, .iload_n 2, 1, 2, 0, 0, []),
  (141, .iconst (-1), 1, 0, (-1), 0, []),
  (142, .if_icmp .ne 8, 3, 150, 0, 0, []),
  (145, .iload_n 1, 1, 1, 0, 0, []),
  (146, .ineg, 1, 0, 0, 0, []),
  (147, .goto 6, 3, 153, 0, 0, []),
  (150, .iload_n 1, 1, 1, 0, 0, []),
  (151, .iload_n 2, 1, 2, 0, 0, []),
  (152, .idiv, 1, 0, 0, 0, []),
  (153, .ireturn, 1, 0, 0, 0, []),
  (154, .iload_n 2, 1, 2, 0, 0, []),
  (155, .ifCond .eq 8, 3, 163, 0, 0, []),
  (158, .iload_n 2, 1, 2, 0, 0, []),
  (159, .iconst (-1), 1, 0, (-1), 0, []),
  (160, .if_icmp .ne 7, 3, 167, 0, 0, []),
  (163, .iconst 0, 1, 0, 0, 0, []),
  (164, .goto 6, 3, 170, 0, 0, []),
  (167, .iload_n 1, 1, 1, 0, 0, []),
  (168, .iload_n 2, 1, 2, 0, 0, []),
  (169, .irem, 1, 0, 0, 0, []),
  (170, .ireturn, 1, 0, 0, 0, []),
  (171, .iload_n 1, 1, 1, 0, 0, []),
  (172, .iload_n 2, 1, 2, 0, 0, []),
  (173, .if_icmp .ge 7, 3, 180, 0, 0, []),
  (176, .iconst 1, 1, 0, 1, 0, []),
  (177, .goto 4, 3, 181, 0, 0, []),
  (180, .iconst 0, 1, 0, 0, 0, []),
  (181, .ireturn, 1, 0, 0, 0, []),
  (182, .iload_n 1, 1, 1, 0, 0, []),
  (183, .iload_n 2, 1, 2, 0, 0, []),
  (184, .if_icmp .ne 7, 3, 191, 0, 0, []),
  (187, .iconst 1, 1, 0, 1, 0, []),
  (188, .goto 4, 3, 192, 0, 0, []),
  (191, .iconst 0, 1, 0, 0, 0, []),
  (192, .ireturn, 1, 0, 0, 0, []),
  (193, .iload_n 1, 1, 1, 0, 0, []),
  (194, .iload_n 2, 1, 2, 0, 0, []),
  (195, .if_icmp .le 7, 3, 202, 0, 0, []),
  (198, .iconst 1, 1, 0, 1, 0, []),
  (199, .goto 4, 3, 203, 0, 0, []),
  (202, .iconst 0, 1, 0, 0, 0, []),
  (203, .ireturn, 1, 0, 0, 0, []),
  (204, .iload_n 1, 1, 1, 0, 0, []),
  (205, .ifCond .eq 11, 3, 216, 0, 0, []),
  (208, .iload_n 2, 1, 2, 0, 0, []),
  (209, .ifCond .eq 7, 3, 216, 0, 0, []),
  (212, .iconst 1, 1, 0, 1, 0, []),
  (213, .goto 4, 3, 217, 0, 0, []),
  (216, .iconst 0, 1, 0, 0, 0, []),
  (217, .ireturn, 1, 0, 0, 0, []),
  (218, .iload_n 1, 1, 1, 0, 0, []),
  (219, .ifCond .ne 7, 3, 226, 0, 0, []),
  (222, .iload_n 2, 1, 2, 0, 0, []),
  (223, .ifCond .eq 7, 3, 230, 0, 0, []),
  (226, .iconst 1, 1, 0, 1, 0, []),
  (227, .goto 4, 3, 231, 0, 0, []),
  (230, .iconst 0, 1, 0, 0, 0, []),
  (231, .ireturn, 1, 0, 0, 0, [])]
def mm_X12_twoOf : mM := (12, yX12_twoOf, cX12_twoOf, 3, (some .int), 3, (7011, 7010, 0, 1013, true), mo_X12_twoOf)
def mo_X12_worked : List mO := [
  (0, .iconst 0, 1, 0, 0, 0, []),
  (1, .istore 4, 2, 4, 0, 0, []),
  (3, .sipush 130, 3, 0, 130, 0, []),
  (6, .iload_n 1, 1, 1, 0, 0, []),
  (7, .imul, 1, 0, 0, 0, []),
  (8, .iload_n 2, 1, 2, 0, 0, []),
  (9, .iadd, 1, 0, 0, 0, []),
  (10, .istore 5, 2, 5, 0, 0, []),
  (12, .iload 5, 2, 5, 0, 0, []),
  (14, .sipush 130, 3, 0, 130, 0, []),
  (17, .iload_n 1, 1, 1, 0, 0, []),
  (18, .imul, 1, 0, 0, 0, []),
  (19, .iload_n 3, 1, 3, 0, 0, []),
  (20, .iadd, 1, 0, 0, 0, []),
  (21, .if_icmp .ge 167, 3, 188, 0, 0, []),
  (24, .aload_n 0, 1, 0, 0, 0, []),
  (25, .getfield 65, 3, 1228, 0, 0, []),
  (28, .iload 5, 2, 5, 0, 0, []),
  (30, .baload, 1, 0, 0, 0, []),
  (31, .istore 6, 2, 6, 0, 0, []),
  (33, .iload 6, 2, 6, 0, 0, []),
  (35, .iconst 1, 1, 0, 1, 0, []),
  (36, .if_icmp .eq 9, 3, 45, 0, 0, []),
  (39, .iload 6, 2, 6, 0, 0, []),
  (41, .iconst 2, 1, 0, 2, 0, []),
  (42, .if_icmp .ne 44, 3, 86, 0, 0, []),
  (45, .aload_n 0, 1, 0, 0, 0, []),
  (46, .getfield 84, 3, 1234, 0, 0, []),
  (49, .iload 4, 2, 4, 0, 0, []),
  (51, .iload 6, 2, 6, 0, 0, []),
  (53, .iconst 1, 1, 0, 1, 0, []),
  (54, .if_icmp .ne 13, 3, 67, 0, 0, []),
  (57, .aload_n 0, 1, 0, 0, 0, []),
  (58, .getfield 68, 3, 1229, 0, 0, []),
  (61, .iload 5, 2, 5, 0, 0, []),
  (63, .iaload, 1, 0, 0, 0, []),
  (64, .goto 15, 3, 79, 0, 0, []),
  (67, .aload_n 0, 1, 0, 0, 0, []),
  (68, .getfield 81, 3, 1233, 0, 0, []),
  (71, .aload_n 0, 1, 0, 0, 0, []),
  (72, .getfield 68, 3, 1229, 0, 0, []),
  (75, .iload 5, 2, 5, 0, 0, []),
  (77, .iaload, 1, 0, 0, 0, []),
  (78, .iaload, 1, 0, 0, 0, []),
  (79, .iastore, 1, 0, 0, 0, []),
  (80, .iinc 4 1, 3, 4, 1, 0, []),
  (83, .goto 99, 3, 182, 0, 0, []),
  (86, .iload 6, 2, 6, 0, 0, []),
  (88, .iconst 3, 1, 0, 3, 0, []),
  (89, .if_icmp .ne 32, 3, 121, 0, 0, []),
  (92, .aload_n 0, 1, 0, 0, 0, []),
  (93, .getfield 84, 3, 1234, 0, 0, []),
  (96, .iload 4, 2, 4, 0, 0, []),
  (98, .iconst 1, 1, 0, 1, 0, []),
  (99, .isub, 1, 0, 0, 0, []),
  (100, .aload_n 0, 1, 0, 0, 0, []),
  (101, .getfield 84, 3, 1234, 0, 0, []),
  (104, .iload 4, 2, 4, 0, 0, []),
  (106, .iconst 1, 1, 0, 1, 0, []),
  (107, .isub, 1, 0, 0, 0, []),
  (108, .iaload, 1, 0, 0, 0, []),
  (109, .ifCond .ne 7, 3, 116, 0, 0, []),
  (112, .iconst 1, 1, 0, 1, 0, []),
  (113, .goto 4, 3, 117, 0, 0, []),
  (116, .iconst 0, 1, 0, 0, 0, []),
  (117, .iastore, 1, 0, 0, 0, []),
  (118, .goto 64, 3, 182, 0, 0, []),
  (121, .iload 6, 2, 6, 0, 0, []),
  (123, .iconst 4, 1, 0, 4, 0, []),
  (124, .if_icmp .ne 25, 3, 149, 0, 0, []),
  (127, .aload_n 0, 1, 0, 0, 0, []),
  (128, .getfield 84, 3, 1234, 0, 0, []),
  (131, .iload 4, 2, 4, 0, 0, []),
  (133, .iconst 1, 1, 0, 1, 0, []),
  (134, .isub, 1, 0, 0, 0, []),
  (135, .aload_n 0, 1, 0, 0, 0, []),
  (136, .getfield 84, 3, 1234, 0, 0, []),
  (139, .iload 4, 2, 4, 0, 0, []),
  (141, .iconst 1, 1, 0, 1, 0, []),
  (142, .isub, 1, 0, 0, 0, []),
  (143, .iaload, 1, 0, 0, 0, []),
  (144, .ineg, 1, 0, 0, 0, []),
  (145, .iastore, 1, 0, 0, 0, []),
  (146, .goto 36, 3, 182, 0, 0, []),
  (149, .iinc 4 (-1), 3, 4, (-1), 0, []),
  (152, .aload_n 0, 1, 0, 0, 0, []),
  (153, .getfield 84, 3, 1234, 0, 0, []),
  (156, .iload 4, 2, 4, 0, 0, []),
  (158, .iconst 1, 1, 0, 1, 0, []),
  (159, .isub, 1, 0, 0, 0, []),
  (160, .iload 6, 2, 6, 0, 0, []),
  (162, .aload_n 0, 1, 0, 0, 0, []),
  (163, .getfield 84, 3, 1234, 0, 0, []),
  (166, .iload 4, 2, 4, 0, 0, []),
  (168, .iconst 1, 1, 0, 1, 0, []),
  (169, .isub, 1, 0, 0, 0, []),
  (170, .iaload, 1, 0, 0, 0, []),
  (171, .aload_n 0, 1, 0, 0, 0, []),
  (172, .getfield 84, 3, 1234, 0, 0, []),
  (175, .iload 4, 2, 4, 0, 0, []),
  (177, .iaload, 1, 0, 0, 0, []),
  (178, .invokestatic 254, 3, 189, 0, 0, []),
  (181, .iastore, 1, 0, 0, 0, []),
  (182, .iinc 5 1, 3, 5, 1, 0, []),
  (185, .goto (-173), 3, 12, 0, 0, []),
  (188, .aload_n 0, 1, 0, 0, 0, []),
  (189, .getfield 84, 3, 1234, 0, 0, []),
  (192, .iconst 0, 1, 0, 0, 0, []),
  (193, .iaload, 1, 0, 0, 0, []),
  (194, .ireturn, 1, 0, 0, 0, [])]
def mm_X12_worked : mM := (12, yX12_worked, cX12_worked, 7, (some .int), 4, (7008, 7007, 59, 1013, false), mo_X12_worked)
def mo_X12_gives : List mO := [
  (0, .iconst 0, 1, 0, 0, 0, []),
  (1, .istore_n 2, 1, 2, 0, 0, []),
  (2, .bipush 61, 2, 0, 61, 0, []),
  (4, .iload_n 1, 1, 1, 0, 0, []),
  (5, .imul, 1, 0, 0, 0, []),
  (6, .istore_n 3, 1, 3, 0, 0, []),
  (7, .iload_n 3, 1, 3, 0, 0, []),
  (8, .bipush 61, 2, 0, 61, 0, []),
  (10, .iload_n 1, 1, 1, 0, 0, []),
  (11, .imul, 1, 0, 0, 0, []),
  (12, .aload_n 0, 1, 0, 0, 0, []),
  (13, .getfield 71, 3, 1230, 0, 0, []),
  (16, .iload_n 1, 1, 1, 0, 0, []),
  (17, .iaload, 1, 0, 0, 0, []),
  (18, .iadd, 1, 0, 0, 0, []),
  (19, .if_icmp .ge 59, 3, 78, 0, 0, []),
  (22, .aload_n 0, 1, 0, 0, 0, []),
  (23, .getfield 74, 3, 1231, 0, 0, []),
  (26, .iload_n 3, 1, 3, 0, 0, []),
  (27, .saload, 1, 0, 0, 0, []),
  (28, .iload_n 2, 1, 2, 0, 0, []),
  (29, .if_icmp .eq 18, 3, 47, 0, 0, []),
  (32, .aload_n 0, 1, 0, 0, 0, []),
  (33, .iload_n 1, 1, 1, 0, 0, []),
  (34, .iload_n 2, 1, 2, 0, 0, []),
  (35, .aload_n 0, 1, 0, 0, 0, []),
  (36, .getfield 74, 3, 1231, 0, 0, []),
  (39, .iload_n 3, 1, 3, 0, 0, []),
  (40, .saload, 1, 0, 0, 0, []),
  (41, .invokevirtual 257, 3, 190, 0, 0, []),
  (44, .ifCond .eq 21, 3, 65, 0, 0, []),
  (47, .aload_n 0, 1, 0, 0, 0, []),
  (48, .iload_n 1, 1, 1, 0, 0, []),
  (49, .aload_n 0, 1, 0, 0, 0, []),
  (50, .getfield 74, 3, 1231, 0, 0, []),
  (53, .iload_n 3, 1, 3, 0, 0, []),
  (54, .saload, 1, 0, 0, 0, []),
  (55, .aload_n 0, 1, 0, 0, 0, []),
  (56, .getfield 78, 3, 1232, 0, 0, []),
  (59, .iload_n 3, 1, 3, 0, 0, []),
  (60, .saload, 1, 0, 0, 0, []),
  (61, .invokevirtual 257, 3, 190, 0, 0, []),
  (64, .ireturn, 1, 0, 0, 0, []),
  (65, .aload_n 0, 1, 0, 0, 0, []),
  (66, .getfield 78, 3, 1232, 0, 0, []),
  (69, .iload_n 3, 1, 3, 0, 0, []),
  (70, .saload, 1, 0, 0, 0, []),
  (71, .istore_n 2, 1, 2, 0, 0, []),
  (72, .iinc 3 1, 3, 3, 1, 0, []),
  (75, .goto (-68), 3, 7, 0, 0, []),
  (78, .iconst 0, 1, 0, 0, 0, []),
  (79, .ireturn, 1, 0, 0, 0, [])]
def mm_X12_gives : mM := (12, yX12_gives, cX12_gives, 4, (some .int), 2, (7004, 7003, 58, 1013, false), mo_X12_gives)
def mo_X12_law : List mO := [
  (0, .aload_n 0, 1, 0, 0, 0, []),
  (1, .iconst 0, 1, 0, 0, 0, []),
  (2, .invokevirtual 260, 3, 188, 0, 0, []),
  (5, .istore_n 1, 1, 1, 0, 0, []),
  (6, .iload_n 1, 1, 1, 0, 0, []),
  (7, .ifCond .lt 8, 3, 15, 0, 0, []),
  (10, .bipush (-100), 2, 0, (-100), 0, []),
  (12, .iload_n 1, 1, 1, 0, 0, []),
  (13, .isub, 1, 0, 0, 0, []),
  (14, .ireturn, 1, 0, 0, 0, []),
  (15, .aload_n 0, 1, 0, 0, 0, []),
  (16, .iconst 1, 1, 0, 1, 0, []),
  (17, .putfield 263, 3, 1235, 0, 0, []),
  (20, .iconst 1, 1, 0, 1, 0, []),
  (21, .ireturn, 1, 0, 0, 0, [])]
def mm_X12_law : mM := (12, yX12_law, cX12_law, 2, (some .int), 1, (6169, 6167, 6168, 1013, false), mo_X12_law)
def mo_X12_isOn : List mO := [
  (0, .aload_n 0, 1, 0, 0, 0, []),
  (1, .getfield 39, 3, 1212, 0, 0, []),
  (4, .iload_n 1, 1, 1, 0, 0, []),
  (5, .iaload, 1, 0, 0, 0, []),
  (6, .ifCond .ne 26, 3, 32, 0, 0, []),
  (9, .iload_n 2, 1, 2, 0, 0, []),
  (10, .aload_n 0, 1, 0, 0, 0, []),
  (11, .getfield 30, 3, 1209, 0, 0, []),
  (14, .iload_n 1, 1, 1, 0, 0, []),
  (15, .iaload, 1, 0, 0, 0, []),
  (16, .aload_n 0, 1, 0, 0, 0, []),
  (17, .getfield 33, 3, 1210, 0, 0, []),
  (20, .iload_n 1, 1, 1, 0, 0, []),
  (21, .iaload, 1, 0, 0, 0, []),
  (22, .invokestatic 136, 3, 154, 0, 0, []),
  (25, .ifCond .eq 7, 3, 32, 0, 0, []),
  (28, .iconst 1, 1, 0, 1, 0, []),
  (29, .goto 4, 3, 33, 0, 0, []),
  (32, .iconst 0, 1, 0, 0, 0, []),
  (33, .ireturn, 1, 0, 0, 0, [])]
def mm_X12_isOn : mM := (12, yX12_isOn, cX12_isOn, 3, (some .boolean), 3, (7000, 6239, 57, 1013, false), mo_X12_isOn)
def mo_X12_othersWith : List mO := [
  (0, .iconst 0, 1, 0, 0, 0, []),
  (1, .istore_n 3, 1, 3, 0, 0, []),
  (2, .iconst 0, 1, 0, 0, 0, []),
  (3, .istore 4, 2, 4, 0, 0, []),
  (5, .iload 4, 2, 4, 0, 0, []),
  (7, .aload_n 0, 1, 0, 0, 0, []),
  (8, .getfield 143, 3, 1204, 0, 0, []),
  (11, .if_icmp .ge 60, 3, 71, 0, 0, []),
  (14, .iload 4, 2, 4, 0, 0, []),
  (16, .iload_n 1, 1, 1, 0, 0, []),
  (17, .if_icmp .eq 48, 3, 65, 0, 0, []),
  (20, .aload_n 0, 1, 0, 0, 0, []),
  (21, .getfield 18, 3, 1205, 0, 0, []),
  (24, .iload 4, 2, 4, 0, 0, []),
  (26, .iaload, 1, 0, 0, 0, []),
  (27, .aload_n 0, 1, 0, 0, 0, []),
  (28, .getfield 18, 3, 1205, 0, 0, []),
  (31, .iload_n 1, 1, 1, 0, 0, []),
  (32, .iaload, 1, 0, 0, 0, []),
  (33, .if_icmp .ne 32, 3, 65, 0, 0, []),
  (36, .aload_n 0, 1, 0, 0, 0, []),
  (37, .getfield 24, 3, 1207, 0, 0, []),
  (40, .iload 4, 2, 4, 0, 0, []),
  (42, .iaload, 1, 0, 0, 0, []),
  (43, .aload_n 0, 1, 0, 0, 0, []),
  (44, .getfield 24, 3, 1207, 0, 0, []),
  (47, .iload_n 1, 1, 1, 0, 0, []),
  (48, .iaload, 1, 0, 0, 0, []),
  (49, .if_icmp .ne 16, 3, 65, 0, 0, []),
  (52, .aload_n 0, 1, 0, 0, 0, []),
  (53, .iload 4, 2, 4, 0, 0, []),
  (55, .iload_n 2, 1, 2, 0, 0, []),
  (56, .invokevirtual 267, 3, 193, 0, 0, []),
  (59, .ifCond .eq 6, 3, 65, 0, 0, []),
  (62, .iinc 3 1, 3, 3, 1, 0, []),
  (65, .iinc 4 1, 3, 4, 1, 0, []),
  (68, .goto (-63), 3, 5, 0, 0, []),
  (71, .iload_n 3, 1, 3, 0, 0, []),
  (72, .ireturn, 1, 0, 0, 0, [])]
def mm_X12_othersWith : mM := (12, yX12_othersWith, cX12_othersWith, 5, (some .int), 3, (6236, 6235, 56, 1013, false), mo_X12_othersWith)
def mo_X12_hardOn : List mO := [
  (0, .aload_n 0, 1, 0, 0, 0, []),
  (1, .getfield 33, 3, 1210, 0, 0, []),
  (4, .iload_n 1, 1, 1, 0, 0, []),
  (5, .iaload, 1, 0, 0, 0, []),
  (6, .iload_n 2, 1, 2, 0, 0, []),
  (7, .if_icmp .le 14, 3, 21, 0, 0, []),
  (10, .aload_n 0, 1, 0, 0, 0, []),
  (11, .getfield 33, 3, 1210, 0, 0, []),
  (14, .iload_n 1, 1, 1, 0, 0, []),
  (15, .iaload, 1, 0, 0, 0, []),
  (16, .iload_n 2, 1, 2, 0, 0, []),
  (17, .isub, 1, 0, 0, 0, []),
  (18, .goto 4, 3, 22, 0, 0, []),
  (21, .iconst 0, 1, 0, 0, 0, []),
  (22, .istore_n 3, 1, 3, 0, 0, []),
  (23, .aload_n 0, 1, 0, 0, 0, []),
  (24, .getfield 27, 3, 1208, 0, 0, []),
  (27, .iload_n 1, 1, 1, 0, 0, []),
  (28, .iaload, 1, 0, 0, 0, []),
  (29, .iconst 2, 1, 0, 2, 0, []),
  (30, .idiv, 1, 0, 0, 0, []),
  (31, .iload_n 3, 1, 3, 0, 0, []),
  (32, .iconst 3, 1, 0, 3, 0, []),
  (33, .if_icmp .ge 7, 3, 40, 0, 0, []),
  (36, .iconst 1, 1, 0, 1, 0, []),
  (37, .goto 4, 3, 41, 0, 0, []),
  (40, .iconst 0, 1, 0, 0, 0, []),
  (41, .iadd, 1, 0, 0, 0, []),
  (42, .iconst 3, 1, 0, 3, 0, []),
  (43, .aload_n 0, 1, 0, 0, 0, []),
  (44, .getfield 36, 3, 1211, 0, 0, []),
  (47, .iload_n 1, 1, 1, 0, 0, []),
  (48, .iaload, 1, 0, 0, 0, []),
  (49, .imul, 1, 0, 0, 0, []),
  (50, .isub, 1, 0, 0, 0, []),
  (51, .istore 4, 2, 4, 0, 0, []),
  (53, .aload_n 0, 1, 0, 0, 0, []),
  (54, .getfield 263, 3, 1235, 0, 0, []),
  (57, .ifCond .eq 77, 3, 134, 0, 0, []),
  (60, .aload_n 0, 1, 0, 0, 0, []),
  (61, .getfield 81, 3, 1233, 0, 0, []),
  (64, .iconst 0, 1, 0, 0, 0, []),
  (65, .aload_n 0, 1, 0, 0, 0, []),
  (66, .getfield 27, 3, 1208, 0, 0, []),
  (69, .iload_n 1, 1, 1, 0, 0, []),
  (70, .iaload, 1, 0, 0, 0, []),
  (71, .iastore, 1, 0, 0, 0, []),
  (72, .aload_n 0, 1, 0, 0, 0, []),
  (73, .getfield 81, 3, 1233, 0, 0, []),
  (76, .iconst 1, 1, 0, 1, 0, []),
  (77, .iload_n 3, 1, 3, 0, 0, []),
  (78, .iastore, 1, 0, 0, 0, []),
  (79, .aload_n 0, 1, 0, 0, 0, []),
  (80, .getfield 81, 3, 1233, 0, 0, []),
  (83, .iconst 2, 1, 0, 2, 0, []),
  (84, .aload_n 0, 1, 0, 0, 0, []),
  (85, .getfield 15, 3, 1203, 0, 0, []),
  (88, .aload_n 0, 1, 0, 0, 0, []),
  (89, .getfield 18, 3, 1205, 0, 0, []),
  (92, .iload_n 1, 1, 1, 0, 0, []),
  (93, .iaload, 1, 0, 0, 0, []),
  (94, .iaload, 1, 0, 0, 0, []),
  (95, .iastore, 1, 0, 0, 0, []),
  (96, .aload_n 0, 1, 0, 0, 0, []),
  (97, .getfield 81, 3, 1233, 0, 0, []),
  (100, .iconst 3, 1, 0, 3, 0, []),
  (101, .aload_n 0, 1, 0, 0, 0, []),
  (102, .iload_n 1, 1, 1, 0, 0, []),
  (103, .iload_n 2, 1, 2, 0, 0, []),
  (104, .invokevirtual 270, 3, 194, 0, 0, []),
  (107, .iastore, 1, 0, 0, 0, []),
  (108, .aload_n 0, 1, 0, 0, 0, []),
  (109, .getfield 81, 3, 1233, 0, 0, []),
  (112, .iconst 4, 1, 0, 4, 0, []),
  (113, .aload_n 0, 1, 0, 0, 0, []),
  (114, .getfield 36, 3, 1211, 0, 0, []),
  (117, .iload_n 1, 1, 1, 0, 0, []),
  (118, .iaload, 1, 0, 0, 0, []),
  (119, .iastore, 1, 0, 0, 0, []),
  (120, .aload_n 0, 1, 0, 0, 0, []),
  (121, .getfield 81, 3, 1233, 0, 0, []),
  (124, .iconst 5, 1, 0, 5, 0, []),
  (125, .iload_n 2, 1, 2, 0, 0, []),
  (126, .iastore, 1, 0, 0, 0, []),
  (127, .aload_n 0, 1, 0, 0, 0, []),
  (128, .iconst 0, 1, 0, 0, 0, []),
  (129, .invokevirtual 273, 3, 191, 0, 0, []),
  (132, .istore 4, 2, 4, 0, 0, []),
  (134, .iload 4, 2, 4, 0, 0, []),
  (136, .ifCond .ge 7, 3, 143, 0, 0, []),
  (139, .iconst 0, 1, 0, 0, 0, []),
  (140, .goto 17, 3, 157, 0, 0, []),
  (143, .iload 4, 2, 4, 0, 0, []),
  (145, .bipush 9, 2, 0, 9, 0, []),
  (147, .if_icmp .le 8, 3, 155, 0, 0, []),
  (150, .bipush 9, 2, 0, 9, 0, []),
  (152, .goto 5, 3, 157, 0, 0, []),
  (155, .iload 4, 2, 4, 0, 0, []),
  (157, .ireturn, 1, 0, 0, 0, [])]
def mm_X12_hardOn : mM := (12, yX12_hardOn, cX12_hardOn, 5, (some .int), 3, (6232, 6231, 55, 1013, false), mo_X12_hardOn)
def mo_X12_hard : List mO := [
  (0, .aload_n 0, 1, 0, 0, 0, []),
  (1, .iload_n 1, 1, 1, 0, 0, []),
  (2, .invokevirtual 183, 3, 159, 0, 0, []),
  (5, .ifCond .eq 15, 3, 20, 0, 0, []),
  (8, .aload_n 0, 1, 0, 0, 0, []),
  (9, .iload_n 1, 1, 1, 0, 0, []),
  (10, .aload_n 0, 1, 0, 0, 0, []),
  (11, .getfield 153, 3, 1214, 0, 0, []),
  (14, .invokevirtual 276, 3, 195, 0, 0, []),
  (17, .goto 4, 3, 21, 0, 0, []),
  (20, .iconst (-1), 1, 0, (-1), 0, []),
  (21, .ireturn, 1, 0, 0, 0, [])]
def mm_X12_hard : mM := (12, yX12_hard, cX12_hard, 2, (some .int), 2, (6228, 6226, 6227, 1013, false), mo_X12_hard)
def mo_X12_holdsAt : List mO := [
  (0, .aload_n 0, 1, 0, 0, 0, []),
  (1, .getfield 24, 3, 1207, 0, 0, []),
  (4, .iload_n 1, 1, 1, 0, 0, []),
  (5, .iaload, 1, 0, 0, 0, []),
  (6, .iload_n 2, 1, 2, 0, 0, []),
  (7, .if_icmp .ne 29, 3, 36, 0, 0, []),
  (10, .aload_n 0, 1, 0, 0, 0, []),
  (11, .iload_n 1, 1, 1, 0, 0, []),
  (12, .iload_n 3, 1, 3, 0, 0, []),
  (13, .invokevirtual 267, 3, 193, 0, 0, []),
  (16, .ifCond .eq 20, 3, 36, 0, 0, []),
  (19, .aload_n 0, 1, 0, 0, 0, []),
  (20, .iload_n 1, 1, 1, 0, 0, []),
  (21, .iload_n 3, 1, 3, 0, 0, []),
  (22, .invokevirtual 276, 3, 195, 0, 0, []),
  (25, .aload_n 0, 1, 0, 0, 0, []),
  (26, .getfield 42, 3, 1213, 0, 0, []),
  (29, .if_icmp .lt 7, 3, 36, 0, 0, []),
  (32, .iconst 1, 1, 0, 1, 0, []),
  (33, .goto 4, 3, 37, 0, 0, []),
  (36, .iconst 0, 1, 0, 0, 0, []),
  (37, .ireturn, 1, 0, 0, 0, [])]
def mm_X12_holdsAt : mM := (12, yX12_holdsAt, cX12_holdsAt, 4, (some .boolean), 4, (7023, 7022, 61, 1013, false), mo_X12_holdsAt)
def mo_X12_heldBy : List mO := [
  (0, .iconst 0, 1, 0, 0, 0, []),
  (1, .istore 4, 2, 4, 0, 0, []),
  (3, .iconst 0, 1, 0, 0, 0, []),
  (4, .istore 5, 2, 5, 0, 0, []),
  (6, .iload 5, 2, 5, 0, 0, []),
  (8, .aload_n 0, 1, 0, 0, 0, []),
  (9, .getfield 143, 3, 1204, 0, 0, []),
  (12, .if_icmp .ge 34, 3, 46, 0, 0, []),
  (15, .aload_n 0, 1, 0, 0, 0, []),
  (16, .getfield 18, 3, 1205, 0, 0, []),
  (19, .iload 5, 2, 5, 0, 0, []),
  (21, .iaload, 1, 0, 0, 0, []),
  (22, .iload_n 1, 1, 1, 0, 0, []),
  (23, .if_icmp .ne 17, 3, 40, 0, 0, []),
  (26, .aload_n 0, 1, 0, 0, 0, []),
  (27, .iload 5, 2, 5, 0, 0, []),
  (29, .iload_n 2, 1, 2, 0, 0, []),
  (30, .iload_n 3, 1, 3, 0, 0, []),
  (31, .invokevirtual 279, 3, 197, 0, 0, []),
  (34, .ifCond .eq 6, 3, 40, 0, 0, []),
  (37, .iinc 4 1, 3, 4, 1, 0, []),
  (40, .iinc 5 1, 3, 5, 1, 0, []),
  (43, .goto (-37), 3, 6, 0, 0, []),
  (46, .iload 4, 2, 4, 0, 0, []),
  (48, .ireturn, 1, 0, 0, 0, [])]
def mm_X12_heldBy : mM := (12, yX12_heldBy, cX12_heldBy, 6, (some .int), 4, (7019, 7018, 60, 1013, false), mo_X12_heldBy)
def mo_X12_isHeld : List mO := [
  (0, .aload_n 0, 1, 0, 0, 0, []),
  (1, .iload_n 1, 1, 1, 0, 0, []),
  (2, .iload_n 2, 1, 2, 0, 0, []),
  (3, .iload_n 3, 1, 3, 0, 0, []),
  (4, .invokevirtual 282, 3, 198, 0, 0, []),
  (7, .ifCond .le 7, 3, 14, 0, 0, []),
  (10, .iconst 1, 1, 0, 1, 0, []),
  (11, .goto 4, 3, 15, 0, 0, []),
  (14, .iconst 0, 1, 0, 0, 0, []),
  (15, .ireturn, 1, 0, 0, 0, [])]
def mm_X12_isHeld : mM := (12, yX12_isHeld, cX12_isHeld, 4, (some .boolean), 4, (7055, 7054, 68, 1013, false), mo_X12_isHeld)
def mo_X12_hardestNow : List mO := [
  (0, .iconst 0, 1, 0, 0, 0, []),
  (1, .istore_n 2, 1, 2, 0, 0, []),
  (2, .iconst 0, 1, 0, 0, 0, []),
  (3, .istore_n 3, 1, 3, 0, 0, []),
  (4, .iload_n 3, 1, 3, 0, 0, []),
  (5, .aload_n 0, 1, 0, 0, 0, []),
  (6, .getfield 143, 3, 1204, 0, 0, []),
  (9, .if_icmp .ge 69, 3, 78, 0, 0, []),
  (12, .aload_n 0, 1, 0, 0, 0, []),
  (13, .getfield 18, 3, 1205, 0, 0, []),
  (16, .iload_n 3, 1, 3, 0, 0, []),
  (17, .iaload, 1, 0, 0, 0, []),
  (18, .iload_n 1, 1, 1, 0, 0, []),
  (19, .if_icmp .ne 53, 3, 72, 0, 0, []),
  (22, .aload_n 0, 1, 0, 0, 0, []),
  (23, .getfield 24, 3, 1207, 0, 0, []),
  (26, .iload_n 3, 1, 3, 0, 0, []),
  (27, .iaload, 1, 0, 0, 0, []),
  (28, .aload_n 0, 1, 0, 0, 0, []),
  (29, .getfield 9, 3, 1202, 0, 0, []),
  (32, .iload_n 1, 1, 1, 0, 0, []),
  (33, .iaload, 1, 0, 0, 0, []),
  (34, .if_icmp .ne 38, 3, 72, 0, 0, []),
  (37, .aload_n 0, 1, 0, 0, 0, []),
  (38, .iload_n 3, 1, 3, 0, 0, []),
  (39, .aload_n 0, 1, 0, 0, 0, []),
  (40, .getfield 153, 3, 1214, 0, 0, []),
  (43, .invokevirtual 267, 3, 193, 0, 0, []),
  (46, .ifCond .eq 26, 3, 72, 0, 0, []),
  (49, .aload_n 0, 1, 0, 0, 0, []),
  (50, .iload_n 3, 1, 3, 0, 0, []),
  (51, .aload_n 0, 1, 0, 0, 0, []),
  (52, .getfield 153, 3, 1214, 0, 0, []),
  (55, .invokevirtual 276, 3, 195, 0, 0, []),
  (58, .iload_n 2, 1, 2, 0, 0, []),
  (59, .if_icmp .le 13, 3, 72, 0, 0, []),
  (62, .aload_n 0, 1, 0, 0, 0, []),
  (63, .iload_n 3, 1, 3, 0, 0, []),
  (64, .aload_n 0, 1, 0, 0, 0, []),
  (65, .getfield 153, 3, 1214, 0, 0, []),
  (68, .invokevirtual 276, 3, 195, 0, 0, []),
  (71, .istore_n 2, 1, 2, 0, 0, []),
  (72, .iinc 3 1, 3, 3, 1, 0, []),
  (75, .goto (-71), 3, 4, 0, 0, []),
  (78, .iload_n 2, 1, 2, 0, 0, []),
  (79, .ireturn, 1, 0, 0, 0, [])]
def mm_X12_hardestNow : mM := (12, yX12_hardestNow, cX12_hardestNow, 4, (some .int), 2, (7027, 7026, 62, 1013, false), mo_X12_hardestNow)
def mo_X12_held : List mO := [
  (0, .aload_n 0, 1, 0, 0, 0, []),
  (1, .iload_n 1, 1, 1, 0, 0, []),
  (2, .invokevirtual 146, 3, 158, 0, 0, []),
  (5, .ifCond .eq 12, 3, 17, 0, 0, []),
  (8, .iload_n 2, 1, 2, 0, 0, []),
  (9, .iconst 0, 1, 0, 0, 0, []),
  (10, .iconst 1, 1, 0, 1, 0, []),
  (11, .invokestatic 136, 3, 154, 0, 0, []),
  (14, .ifCond .ne 5, 3, 19, 0, 0, []),
  (17, .iconst (-1), 1, 0, (-1), 0, []),
  (18, .ireturn, 1, 0, 0, 0, []),
  (19, .iload_n 2, 1, 2, 0, 0, []),
  (20, .ifCond .ne 21, 3, 41, 0, 0, []),
  (23, .aload_n 0, 1, 0, 0, 0, []),
  (24, .iload_n 1, 1, 1, 0, 0, []),
  (25, .aload_n 0, 1, 0, 0, 0, []),
  (26, .getfield 9, 3, 1202, 0, 0, []),
  (29, .iload_n 1, 1, 1, 0, 0, []),
  (30, .iaload, 1, 0, 0, 0, []),
  (31, .aload_n 0, 1, 0, 0, 0, []),
  (32, .getfield 153, 3, 1214, 0, 0, []),
  (35, .invokevirtual 282, 3, 198, 0, 0, []),
  (38, .goto 8, 3, 46, 0, 0, []),
  (41, .aload_n 0, 1, 0, 0, 0, []),
  (42, .iload_n 1, 1, 1, 0, 0, []),
  (43, .invokevirtual 285, 3, 200, 0, 0, []),
  (46, .ireturn, 1, 0, 0, 0, [])]
def mm_X12_held : mM := (12, yX12_held, cX12_held, 3, (some .int), 3, (7015, 7013, 7014, 1013, false), mo_X12_held)
def mo_X12_stepped : List mO := [
  (0, .iload_n 0, 1, 0, 0, 0, []),
  (1, .iconst 5, 1, 0, 5, 0, []),
  (2, .irem, 1, 0, 0, 0, []),
  (3, .iload_n 1, 1, 1, 0, 0, []),
  (4, .iconst 1, 1, 0, 1, 0, []),
  (5, .if_icmp .ne 7, 3, 12, 0, 0, []),
  (8, .iconst 1, 1, 0, 1, 0, []),
  (9, .goto 13, 3, 22, 0, 0, []),
  (12, .iload_n 1, 1, 1, 0, 0, []),
  (13, .iconst 3, 1, 0, 3, 0, []),
  (14, .if_icmp .ne 7, 3, 21, 0, 0, []),
  (17, .iconst (-1), 1, 0, (-1), 0, []),
  (18, .goto 4, 3, 22, 0, 0, []),
  (21, .iconst 0, 1, 0, 0, 0, []),
  (22, .iadd, 1, 0, 0, 0, []),
  (23, .istore_n 2, 1, 2, 0, 0, []),
  (24, .iload_n 0, 1, 0, 0, 0, []),
  (25, .iconst 5, 1, 0, 5, 0, []),
  (26, .idiv, 1, 0, 0, 0, []),
  (27, .iload_n 1, 1, 1, 0, 0, []),
  (28, .ifCond .ne 7, 3, 35, 0, 0, []),
  (31, .iconst (-1), 1, 0, (-1), 0, []),
  (32, .goto 13, 3, 45, 0, 0, []),
  (35, .iload_n 1, 1, 1, 0, 0, []),
  (36, .iconst 2, 1, 0, 2, 0, []),
  (37, .if_icmp .ne 7, 3, 44, 0, 0, []),
  (40, .iconst 1, 1, 0, 1, 0, []),
  (41, .goto 4, 3, 45, 0, 0, []),
  (44, .iconst 0, 1, 0, 0, 0, []),
  (45, .iadd, 1, 0, 0, 0, []),
  (46, .istore_n 3, 1, 3, 0, 0, []),
  (47, .iload_n 2, 1, 2, 0, 0, []),
  (48, .iconst 0, 1, 0, 0, 0, []),
  (49, .iconst 4, 1, 0, 4, 0, []),
  (50, .invokestatic 136, 3, 154, 0, 0, []),
  (53, .ifCond .eq 20, 3, 73, 0, 0, []),
  (56, .iload_n 3, 1, 3, 0, 0, []),
  (57, .iconst 0, 1, 0, 0, 0, []),
  (58, .iconst 4, 1, 0, 4, 0, []),
  (59, .invokestatic 136, 3, 154, 0, 0, []),
  (62, .ifCond .eq 11, 3, 73, 0, 0, []),
  (65, .iconst 5, 1, 0, 5, 0, []),
  (66, .iload_n 3, 1, 3, 0, 0, []),
  (67, .imul, 1, 0, 0, 0, []),
  (68, .iload_n 2, 1, 2, 0, 0, []),
  (69, .iadd, 1, 0, 0, 0, []),
  (70, .goto 4, 3, 74, 0, 0, []),
  (73, .iload_n 0, 1, 0, 0, 0, []),
  (74, .ireturn, 1, 0, 0, 0, [])]
def mm_X12_stepped : mM := (12, yX12_stepped, cX12_stepped, 4, (some .int), 2, (7058, 7057, 0, 1013, true), mo_X12_stepped)
def mo_X12_dayOn : List mO := [
  (0, .aload_n 0, 1, 0, 0, 0, []),
  (1, .getfield 153, 3, 1214, 0, 0, []),
  (4, .iload_n 1, 1, 1, 0, 0, []),
  (5, .iadd, 1, 0, 0, 0, []),
  (6, .bipush 99, 2, 0, 99, 0, []),
  (8, .if_icmp .le 8, 3, 16, 0, 0, []),
  (11, .bipush 99, 2, 0, 99, 0, []),
  (13, .goto 9, 3, 22, 0, 0, []),
  (16, .aload_n 0, 1, 0, 0, 0, []),
  (17, .getfield 153, 3, 1214, 0, 0, []),
  (20, .iload_n 1, 1, 1, 0, 0, []),
  (21, .iadd, 1, 0, 0, 0, []),
  (22, .ireturn, 1, 0, 0, 0, [])]
def mm_X12_dayOn : mM := (12, yX12_dayOn, cX12_dayOn, 2, (some .int), 2, (7051, 7050, 67, 1013, false), mo_X12_dayOn)
def mo_X12_rowFault : List mO := [
  (0, .aload_n 0, 1, 0, 0, 0, []),
  (1, .getfield 120, 3, 1263, 0, 0, []),
  (4, .iload_n 1, 1, 1, 0, 0, []),
  (5, .iaload, 1, 0, 0, 0, []),
  (6, .iconst (-1), 1, 0, (-1), 0, []),
  (7, .if_icmp .ne 8, 3, 15, 0, 0, []),
  (10, .bipush (-11), 2, 0, (-11), 0, []),
  (12, .goto 20, 3, 32, 0, 0, []),
  (15, .aload_n 0, 1, 0, 0, 0, []),
  (16, .getfield 120, 3, 1263, 0, 0, []),
  (19, .iload_n 1, 1, 1, 0, 0, []),
  (20, .iaload, 1, 0, 0, 0, []),
  (21, .bipush (-2), 2, 0, (-2), 0, []),
  (23, .if_icmp .ne 7, 3, 30, 0, 0, []),
  (26, .iconst 0, 1, 0, 0, 0, []),
  (27, .goto 5, 3, 32, 0, 0, []),
  (30, .bipush (-12), 2, 0, (-12), 0, []),
  (32, .ireturn, 1, 0, 0, 0, [])]
def mm_X12_rowFault : mM := (12, yX12_rowFault, cX12_rowFault, 2, (some .int), 2, (7035, 7034, 63, 1013, false), mo_X12_rowFault)
def mo_X12_at : List mO := [
  (0, .aload_n 0, 1, 0, 0, 0, []),
  (1, .getfield 126, 3, 1265, 0, 0, []),
  (4, .bipush 60, 2, 0, 60, 0, []),
  (6, .iload_n 1, 1, 1, 0, 0, []),
  (7, .imul, 1, 0, 0, 0, []),
  (8, .iload_n 2, 1, 2, 0, 0, []),
  (9, .iadd, 1, 0, 0, 0, []),
  (10, .laload, 1, 0, 0, 0, []),
  (11, .l2i, 1, 0, 0, 0, []),
  (12, .ireturn, 1, 0, 0, 0, [])]
def mm_X12_at : mM := (12, yX12_at, cX12_at, 3, (some .int), 3, (7043, 7042, 65, 1013, false), mo_X12_at)
def mo_X12_stepsOf : List mO := [
  (0, .iconst 0, 1, 0, 0, 0, []),
  (1, .istore_n 2, 1, 2, 0, 0, []),
  (2, .iload_n 2, 1, 2, 0, 0, []),
  (3, .bipush 30, 2, 0, 30, 0, []),
  (5, .if_icmp .ge 33, 3, 38, 0, 0, []),
  (8, .iload_n 2, 1, 2, 0, 0, []),
  (9, .aload_n 0, 1, 0, 0, 0, []),
  (10, .getfield 123, 3, 1264, 0, 0, []),
  (13, .iload_n 1, 1, 1, 0, 0, []),
  (14, .iaload, 1, 0, 0, 0, []),
  (15, .if_icmp .ge 23, 3, 38, 0, 0, []),
  (18, .aload_n 0, 1, 0, 0, 0, []),
  (19, .iload_n 1, 1, 1, 0, 0, []),
  (20, .iload_n 2, 1, 2, 0, 0, []),
  (21, .invokevirtual 288, 3, 205, 0, 0, []),
  (24, .iconst 0, 1, 0, 0, 0, []),
  (25, .iconst 4, 1, 0, 4, 0, []),
  (26, .invokestatic 136, 3, 154, 0, 0, []),
  (29, .ifCond .eq 9, 3, 38, 0, 0, []),
  (32, .iinc 2 1, 3, 2, 1, 0, []),
  (35, .goto (-33), 3, 2, 0, 0, []),
  (38, .iload_n 2, 1, 2, 0, 0, []),
  (39, .ireturn, 1, 0, 0, 0, [])]
def mm_X12_stepsOf : mM := (12, yX12_stepsOf, cX12_stepsOf, 3, (some .int), 2, (7039, 7038, 64, 1013, false), mo_X12_stepsOf)
def mo_X12_keptAt : List mO := [
  (0, .iconst 0, 1, 0, 0, 0, []),
  (1, .istore 4, 2, 4, 0, 0, []),
  (3, .iconst 0, 1, 0, 0, 0, []),
  (4, .istore 5, 2, 5, 0, 0, []),
  (6, .iload 5, 2, 5, 0, 0, []),
  (8, .aload_n 0, 1, 0, 0, 0, []),
  (9, .getfield 143, 3, 1204, 0, 0, []),
  (12, .if_icmp .ge 50, 3, 62, 0, 0, []),
  (15, .aload_n 0, 1, 0, 0, 0, []),
  (16, .getfield 18, 3, 1205, 0, 0, []),
  (19, .iload 5, 2, 5, 0, 0, []),
  (21, .iaload, 1, 0, 0, 0, []),
  (22, .iload_n 1, 1, 1, 0, 0, []),
  (23, .if_icmp .ne 33, 3, 56, 0, 0, []),
  (26, .aload_n 0, 1, 0, 0, 0, []),
  (27, .getfield 24, 3, 1207, 0, 0, []),
  (30, .iload 5, 2, 5, 0, 0, []),
  (32, .iaload, 1, 0, 0, 0, []),
  (33, .iload_n 2, 1, 2, 0, 0, []),
  (34, .if_icmp .ne 22, 3, 56, 0, 0, []),
  (37, .aload_n 0, 1, 0, 0, 0, []),
  (38, .iload 5, 2, 5, 0, 0, []),
  (40, .iload_n 3, 1, 3, 0, 0, []),
  (41, .invokevirtual 267, 3, 193, 0, 0, []),
  (44, .ifCond .eq 12, 3, 56, 0, 0, []),
  (47, .iload 4, 2, 4, 0, 0, []),
  (49, .iconst 1, 1, 0, 1, 0, []),
  (50, .iload 5, 2, 5, 0, 0, []),
  (52, .ishl, 1, 0, 0, 0, []),
  (53, .ior, 1, 0, 0, 0, []),
  (54, .istore 4, 2, 4, 0, 0, []),
  (56, .iinc 5 1, 3, 5, 1, 0, []),
  (59, .goto (-53), 3, 6, 0, 0, []),
  (62, .iload 4, 2, 4, 0, 0, []),
  (64, .ireturn, 1, 0, 0, 0, [])]
def mm_X12_keptAt : mM := (12, yX12_keptAt, cX12_keptAt, 6, (some .int), 4, (7047, 7046, 66, 1013, false), mo_X12_keptAt)
def mo_X12_weightsOf : List mO := [
  (0, .iconst 0, 1, 0, 0, 0, []),
  (1, .istore_n 2, 1, 2, 0, 0, []),
  (2, .iconst 0, 1, 0, 0, 0, []),
  (3, .istore_n 3, 1, 3, 0, 0, []),
  (4, .iload_n 3, 1, 3, 0, 0, []),
  (5, .aload_n 0, 1, 0, 0, 0, []),
  (6, .getfield 143, 3, 1204, 0, 0, []),
  (9, .if_icmp .ge 26, 3, 35, 0, 0, []),
  (12, .iload_n 1, 1, 1, 0, 0, []),
  (13, .iload_n 3, 1, 3, 0, 0, []),
  (14, .invokestatic 291, 3, 155, 0, 0, []),
  (17, .ifCond .eq 12, 3, 29, 0, 0, []),
  (20, .iload_n 2, 1, 2, 0, 0, []),
  (21, .aload_n 0, 1, 0, 0, 0, []),
  (22, .getfield 27, 3, 1208, 0, 0, []),
  (25, .iload_n 3, 1, 3, 0, 0, []),
  (26, .iaload, 1, 0, 0, 0, []),
  (27, .iadd, 1, 0, 0, 0, []),
  (28, .istore_n 2, 1, 2, 0, 0, []),
  (29, .iinc 3 1, 3, 3, 1, 0, []),
  (32, .goto (-28), 3, 4, 0, 0, []),
  (35, .iload_n 2, 1, 2, 0, 0, []),
  (36, .ireturn, 1, 0, 0, 0, [])]
def mm_X12_weightsOf : mM := (12, yX12_weightsOf, cX12_weightsOf, 4, (some .int), 2, (7062, 7061, 69, 1013, false), mo_X12_weightsOf)
def mo_X12_route : List mO := [
  (0, .iload_n 1, 1, 1, 0, 0, []),
  (1, .invokestatic 164, 3, 269, 0, 0, []),
  (4, .ifCond .eq 31, 3, 35, 0, 0, []),
  (7, .iload_n 2, 1, 2, 0, 0, []),
  (8, .iconst 0, 1, 0, 0, 0, []),
  (9, .bipush 30, 2, 0, 30, 0, []),
  (11, .invokestatic 136, 3, 154, 0, 0, []),
  (14, .ifCond .eq 21, 3, 35, 0, 0, []),
  (17, .aload_n 0, 1, 0, 0, 0, []),
  (18, .iload_n 3, 1, 3, 0, 0, []),
  (19, .invokevirtual 146, 3, 158, 0, 0, []),
  (22, .ifCond .eq 13, 3, 35, 0, 0, []),
  (25, .iload 4, 2, 4, 0, 0, []),
  (27, .iconst 0, 1, 0, 0, 0, []),
  (28, .iconst 3, 1, 0, 3, 0, []),
  (29, .invokestatic 136, 3, 154, 0, 0, []),
  (32, .ifCond .ne 5, 3, 37, 0, 0, []),
  (35, .iconst (-1), 1, 0, (-1), 0, []),
  (36, .ireturn, 1, 0, 0, 0, []),
  (37, .aload_n 0, 1, 0, 0, 0, []),
  (38, .iload_n 1, 1, 1, 0, 0, []),
  (39, .invokevirtual 294, 3, 204, 0, 0, []),
  (42, .ifCond .ge 9, 3, 51, 0, 0, []),
  (45, .aload_n 0, 1, 0, 0, 0, []),
  (46, .iload_n 1, 1, 1, 0, 0, []),
  (47, .invokevirtual 294, 3, 204, 0, 0, []),
  (50, .ireturn, 1, 0, 0, 0, []),
  (51, .aload_n 0, 1, 0, 0, 0, []),
  (52, .iload_n 1, 1, 1, 0, 0, []),
  (53, .invokevirtual 297, 3, 206, 0, 0, []),
  (56, .iload_n 2, 1, 2, 0, 0, []),
  (57, .if_icmp .ge 11, 3, 68, 0, 0, []),
  (60, .aload_n 0, 1, 0, 0, 0, []),
  (61, .iload_n 1, 1, 1, 0, 0, []),
  (62, .invokevirtual 297, 3, 206, 0, 0, []),
  (65, .goto 4, 3, 69, 0, 0, []),
  (68, .iload_n 2, 1, 2, 0, 0, []),
  (69, .istore 5, 2, 5, 0, 0, []),
  (71, .aload_n 0, 1, 0, 0, 0, []),
  (72, .getfield 9, 3, 1202, 0, 0, []),
  (75, .iload_n 3, 1, 3, 0, 0, []),
  (76, .iaload, 1, 0, 0, 0, []),
  (77, .istore 6, 2, 6, 0, 0, []),
  (79, .aload_n 0, 1, 0, 0, 0, []),
  (80, .iconst 0, 1, 0, 0, 0, []),
  (81, .putfield 300, 3, 1236, 0, 0, []),
  (84, .aload_n 0, 1, 0, 0, 0, []),
  (85, .aload_n 0, 1, 0, 0, 0, []),
  (86, .iload_n 3, 1, 3, 0, 0, []),
  (87, .iload 6, 2, 6, 0, 0, []),
  (89, .aload_n 0, 1, 0, 0, 0, []),
  (90, .getfield 153, 3, 1214, 0, 0, []),
  (93, .invokevirtual 303, 3, 207, 0, 0, []),
  (96, .putfield 306, 3, 1237, 0, 0, []),
  (99, .iconst 0, 1, 0, 0, 0, []),
  (100, .istore 7, 2, 7, 0, 0, []),
  (102, .iload 7, 2, 7, 0, 0, []),
  (104, .iload 5, 2, 5, 0, 0, []),
  (106, .if_icmp .ge 76, 3, 182, 0, 0, []),
  (109, .aload_n 0, 1, 0, 0, 0, []),
  (110, .iload_n 3, 1, 3, 0, 0, []),
  (111, .iload 6, 2, 6, 0, 0, []),
  (113, .aload_n 0, 1, 0, 0, 0, []),
  (114, .iload 7, 2, 7, 0, 0, []),
  (116, .invokevirtual 309, 3, 203, 0, 0, []),
  (119, .invokevirtual 312, 3, 199, 0, 0, []),
  (122, .ifCond .eq 16, 3, 138, 0, 0, []),
  (125, .aload_n 0, 1, 0, 0, 0, []),
  (126, .dup, 1, 0, 0, 0, []),
  (127, .getfield 300, 3, 1236, 0, 0, []),
  (130, .iconst 1, 1, 0, 1, 0, []),
  (131, .iadd, 1, 0, 0, 0, []),
  (132, .putfield 300, 3, 1236, 0, 0, []),
  (135, .goto 17, 3, 152, 0, 0, []),
  (138, .iload 6, 2, 6, 0, 0, []),
  (140, .aload_n 0, 1, 0, 0, 0, []),
  (141, .iload_n 1, 1, 1, 0, 0, []),
  (142, .iload 7, 2, 7, 0, 0, []),
  (144, .invokevirtual 288, 3, 205, 0, 0, []),
  (147, .invokestatic 315, 3, 202, 0, 0, []),
  (150, .istore 6, 2, 6, 0, 0, []),
  (152, .aload_n 0, 1, 0, 0, 0, []),
  (153, .dup, 1, 0, 0, 0, []),
  (154, .getfield 306, 3, 1237, 0, 0, []),
  (157, .aload_n 0, 1, 0, 0, 0, []),
  (158, .iload_n 3, 1, 3, 0, 0, []),
  (159, .iload 6, 2, 6, 0, 0, []),
  (161, .aload_n 0, 1, 0, 0, 0, []),
  (162, .iload 7, 2, 7, 0, 0, []),
  (164, .iconst 1, 1, 0, 1, 0, []),
  (165, .iadd, 1, 0, 0, 0, []),
  (166, .invokevirtual 309, 3, 203, 0, 0, []),
  (169, .invokevirtual 303, 3, 207, 0, 0, []),
  (172, .ior, 1, 0, 0, 0, []),
  (173, .putfield 306, 3, 1237, 0, 0, []),
  (176, .iinc 7 1, 3, 7, 1, 0, []),
  (179, .goto (-77), 3, 102, 0, 0, []),
  (182, .iload 4, 2, 4, 0, 0, []),
  (184, .ifCond .ne 8, 3, 192, 0, 0, []),
  (187, .iload 6, 2, 6, 0, 0, []),
  (189, .goto 37, 3, 226, 0, 0, []),
  (192, .iload 4, 2, 4, 0, 0, []),
  (194, .iconst 1, 1, 0, 1, 0, []),
  (195, .if_icmp .ne 10, 3, 205, 0, 0, []),
  (198, .aload_n 0, 1, 0, 0, 0, []),
  (199, .getfield 300, 3, 1236, 0, 0, []),
  (202, .goto 24, 3, 226, 0, 0, []),
  (205, .iload 4, 2, 4, 0, 0, []),
  (207, .iconst 2, 1, 0, 2, 0, []),
  (208, .if_icmp .ne 14, 3, 222, 0, 0, []),
  (211, .aload_n 0, 1, 0, 0, 0, []),
  (212, .aload_n 0, 1, 0, 0, 0, []),
  (213, .getfield 306, 3, 1237, 0, 0, []),
  (216, .invokevirtual 318, 3, 208, 0, 0, []),
  (219, .goto 7, 3, 226, 0, 0, []),
  (222, .aload_n 0, 1, 0, 0, 0, []),
  (223, .getfield 306, 3, 1237, 0, 0, []),
  (226, .ireturn, 1, 0, 0, 0, [])]
def mm_X12_route : mM := (12, yX12_route, cX12_route, 8, (some .int), 5, (7031, 7029, 7030, 1013, false), mo_X12_route)
def mo_X12_goBest : List mO := [
  (0, .iload 5, 2, 5, 0, 0, []),
  (2, .aload_n 0, 1, 0, 0, 0, []),
  (3, .iload_n 1, 1, 1, 0, 0, []),
  (4, .iload_n 2, 1, 2, 0, 0, []),
  (5, .aload_n 0, 1, 0, 0, 0, []),
  (6, .iload_n 3, 1, 3, 0, 0, []),
  (7, .invokevirtual 309, 3, 203, 0, 0, []),
  (10, .invokevirtual 303, 3, 207, 0, 0, []),
  (13, .ior, 1, 0, 0, 0, []),
  (14, .istore 6, 2, 6, 0, 0, []),
  (16, .iload_n 3, 1, 3, 0, 0, []),
  (17, .iload 4, 2, 4, 0, 0, []),
  (19, .if_icmp .ne 58, 3, 77, 0, 0, []),
  (22, .aload_n 0, 1, 0, 0, 0, []),
  (23, .iload 6, 2, 6, 0, 0, []),
  (25, .invokevirtual 318, 3, 208, 0, 0, []),
  (28, .aload_n 0, 1, 0, 0, 0, []),
  (29, .getfield 321, 3, 1240, 0, 0, []),
  (32, .if_icmp .gt 4, 3, 36, 0, 0, []),
  (35, .return_, 1, 0, 0, 0, []),
  (36, .aload_n 0, 1, 0, 0, 0, []),
  (37, .aload_n 0, 1, 0, 0, 0, []),
  (38, .iload 6, 2, 6, 0, 0, []),
  (40, .invokevirtual 318, 3, 208, 0, 0, []),
  (43, .putfield 321, 3, 1240, 0, 0, []),
  (46, .iconst 0, 1, 0, 0, 0, []),
  (47, .istore 7, 2, 7, 0, 0, []),
  (49, .iload 7, 2, 7, 0, 0, []),
  (51, .iload 4, 2, 4, 0, 0, []),
  (53, .if_icmp .ge 23, 3, 76, 0, 0, []),
  (56, .aload_n 0, 1, 0, 0, 0, []),
  (57, .getfield 90, 3, 1239, 0, 0, []),
  (60, .iload 7, 2, 7, 0, 0, []),
  (62, .aload_n 0, 1, 0, 0, 0, []),
  (63, .getfield 87, 3, 1238, 0, 0, []),
  (66, .iload 7, 2, 7, 0, 0, []),
  (68, .iaload, 1, 0, 0, 0, []),
  (69, .iastore, 1, 0, 0, 0, []),
  (70, .iinc 7 1, 3, 7, 1, 0, []),
  (73, .goto (-24), 3, 49, 0, 0, []),
  (76, .return_, 1, 0, 0, 0, []),
  (77, .aload_n 0, 1, 0, 0, 0, []),
  (78, .iload_n 1, 1, 1, 0, 0, []),
  (79, .iload_n 2, 1, 2, 0, 0, []),
  (80, .aload_n 0, 1, 0, 0, 0, []),
  (81, .iload_n 3, 1, 3, 0, 0, []),
  (82, .invokevirtual 309, 3, 203, 0, 0, []),
  (85, .invokevirtual 312, 3, 199, 0, 0, []),
  (88, .istore 7, 2, 7, 0, 0, []),
  (90, .iconst 0, 1, 0, 0, 0, []),
  (91, .istore 8, 2, 8, 0, 0, []),
  (93, .iload 8, 2, 8, 0, 0, []),
  (95, .iconst 5, 1, 0, 5, 0, []),
  (96, .if_icmp .ge 44, 3, 140, 0, 0, []),
  (99, .aload_n 0, 1, 0, 0, 0, []),
  (100, .getfield 87, 3, 1238, 0, 0, []),
  (103, .iload_n 3, 1, 3, 0, 0, []),
  (104, .iload 8, 2, 8, 0, 0, []),
  (106, .iastore, 1, 0, 0, 0, []),
  (107, .aload_n 0, 1, 0, 0, 0, []),
  (108, .iload_n 1, 1, 1, 0, 0, []),
  (109, .iload 7, 2, 7, 0, 0, []),
  (111, .ifCond .eq 7, 3, 118, 0, 0, []),
  (114, .iload_n 2, 1, 2, 0, 0, []),
  (115, .goto 9, 3, 124, 0, 0, []),
  (118, .iload_n 2, 1, 2, 0, 0, []),
  (119, .iload 8, 2, 8, 0, 0, []),
  (121, .invokestatic 315, 3, 202, 0, 0, []),
  (124, .iload_n 3, 1, 3, 0, 0, []),
  (125, .iconst 1, 1, 0, 1, 0, []),
  (126, .iadd, 1, 0, 0, 0, []),
  (127, .iload 4, 2, 4, 0, 0, []),
  (129, .iload 6, 2, 6, 0, 0, []),
  (131, .invokevirtual 324, 3, 210, 0, 0, []),
  (134, .iinc 8 1, 3, 8, 1, 0, []),
  (137, .goto (-44), 3, 93, 0, 0, []),
  (140, .return_, 1, 0, 0, 0, [])]
def mm_X12_goBest : mM := (12, yX12_goBest, cX12_goBest, 9, none, 6, (7073, 7072, 70, 1013, false), mo_X12_goBest)
def mo_X12_best : List mO := [
  (0, .aload_n 0, 1, 0, 0, 0, []),
  (1, .iload_n 1, 1, 1, 0, 0, []),
  (2, .invokevirtual 146, 3, 158, 0, 0, []),
  (5, .ifCond .eq 23, 3, 28, 0, 0, []),
  (8, .iload_n 2, 1, 2, 0, 0, []),
  (9, .iconst 0, 1, 0, 0, 0, []),
  (10, .iconst 4, 1, 0, 4, 0, []),
  (11, .invokestatic 136, 3, 154, 0, 0, []),
  (14, .ifCond .eq 14, 3, 28, 0, 0, []),
  (17, .iload_n 3, 1, 3, 0, 0, []),
  (18, .iconst (-1), 1, 0, (-1), 0, []),
  (19, .iload_n 2, 1, 2, 0, 0, []),
  (20, .iconst 1, 1, 0, 1, 0, []),
  (21, .isub, 1, 0, 0, 0, []),
  (22, .invokestatic 136, 3, 154, 0, 0, []),
  (25, .ifCond .ne 5, 3, 30, 0, 0, []),
  (28, .iconst (-1), 1, 0, (-1), 0, []),
  (29, .ireturn, 1, 0, 0, 0, []),
  (30, .aload_n 0, 1, 0, 0, 0, []),
  (31, .iconst (-1), 1, 0, (-1), 0, []),
  (32, .putfield 321, 3, 1240, 0, 0, []),
  (35, .aload_n 0, 1, 0, 0, 0, []),
  (36, .iload_n 1, 1, 1, 0, 0, []),
  (37, .aload_n 0, 1, 0, 0, 0, []),
  (38, .getfield 9, 3, 1202, 0, 0, []),
  (41, .iload_n 1, 1, 1, 0, 0, []),
  (42, .iaload, 1, 0, 0, 0, []),
  (43, .iconst 0, 1, 0, 0, 0, []),
  (44, .iload_n 2, 1, 2, 0, 0, []),
  (45, .iconst 0, 1, 0, 0, 0, []),
  (46, .invokevirtual 324, 3, 210, 0, 0, []),
  (49, .iload_n 3, 1, 3, 0, 0, []),
  (50, .ifCond .ge 10, 3, 60, 0, 0, []),
  (53, .aload_n 0, 1, 0, 0, 0, []),
  (54, .getfield 321, 3, 1240, 0, 0, []),
  (57, .goto 9, 3, 66, 0, 0, []),
  (60, .aload_n 0, 1, 0, 0, 0, []),
  (61, .getfield 90, 3, 1239, 0, 0, []),
  (64, .iload_n 3, 1, 3, 0, 0, []),
  (65, .iaload, 1, 0, 0, 0, []),
  (66, .ireturn, 1, 0, 0, 0, [])]
def mm_X12_best : mM := (12, yX12_best, cX12_best, 4, (some .int), 4, (7069, 7067, 7068, 1013, false), mo_X12_best)
def mo_X12_dayFrom : List mO := [
  (0, .iconst 0, 1, 0, 0, 0, []),
  (1, .istore 4, 2, 4, 0, 0, []),
  (3, .iconst 0, 1, 0, 0, 0, []),
  (4, .istore 5, 2, 5, 0, 0, []),
  (6, .iload 5, 2, 5, 0, 0, []),
  (8, .bipush 25, 2, 0, 25, 0, []),
  (10, .if_icmp .ge 73, 3, 83, 0, 0, []),
  (13, .iload_n 2, 1, 2, 0, 0, []),
  (14, .iload 5, 2, 5, 0, 0, []),
  (16, .invokestatic 291, 3, 155, 0, 0, []),
  (19, .ifCond .ne 6, 3, 25, 0, 0, []),
  (22, .goto 55, 3, 77, 0, 0, []),
  (25, .aload_n 0, 1, 0, 0, 0, []),
  (26, .iload_n 1, 1, 1, 0, 0, []),
  (27, .iload 5, 2, 5, 0, 0, []),
  (29, .iload_n 3, 1, 3, 0, 0, []),
  (30, .invokevirtual 312, 3, 199, 0, 0, []),
  (33, .ifCond .eq 15, 3, 48, 0, 0, []),
  (36, .iload 4, 2, 4, 0, 0, []),
  (38, .iconst 1, 1, 0, 1, 0, []),
  (39, .iload 5, 2, 5, 0, 0, []),
  (41, .ishl, 1, 0, 0, 0, []),
  (42, .ior, 1, 0, 0, 0, []),
  (43, .istore 4, 2, 4, 0, 0, []),
  (45, .goto 32, 3, 77, 0, 0, []),
  (48, .iconst 0, 1, 0, 0, 0, []),
  (49, .istore 6, 2, 6, 0, 0, []),
  (51, .iload 6, 2, 6, 0, 0, []),
  (53, .iconst 5, 1, 0, 5, 0, []),
  (54, .if_icmp .ge 23, 3, 77, 0, 0, []),
  (57, .iload 4, 2, 4, 0, 0, []),
  (59, .iconst 1, 1, 0, 1, 0, []),
  (60, .iload 5, 2, 5, 0, 0, []),
  (62, .iload 6, 2, 6, 0, 0, []),
  (64, .invokestatic 315, 3, 202, 0, 0, []),
  (67, .ishl, 1, 0, 0, 0, []),
  (68, .ior, 1, 0, 0, 0, []),
  (69, .istore 4, 2, 4, 0, 0, []),
  (71, .iinc 6 1, 3, 6, 1, 0, []),
  (74, .goto (-23), 3, 51, 0, 0, []),
  (77, .iinc 5 1, 3, 5, 1, 0, []),
  (80, .goto (-74), 3, 6, 0, 0, []),
  (83, .iload 4, 2, 4, 0, 0, []),
  (85, .ireturn, 1, 0, 0, 0, [])]
def mm_X12_dayFrom : mM := (12, yX12_dayFrom, cX12_dayFrom, 7, (some .int), 4, (7081, 7080, 71, 1013, false), mo_X12_dayFrom)
def mo_X12_soonest : List mO := [
  (0, .aload_n 0, 1, 0, 0, 0, []),
  (1, .iload_n 1, 1, 1, 0, 0, []),
  (2, .invokevirtual 146, 3, 158, 0, 0, []),
  (5, .ifCond .eq 10, 3, 15, 0, 0, []),
  (8, .iload_n 2, 1, 2, 0, 0, []),
  (9, .invokestatic 150, 3, 157, 0, 0, []),
  (12, .ifCond .ne 5, 3, 17, 0, 0, []),
  (15, .iconst (-1), 1, 0, (-1), 0, []),
  (16, .ireturn, 1, 0, 0, 0, []),
  (17, .iconst 1, 1, 0, 1, 0, []),
  (18, .aload_n 0, 1, 0, 0, 0, []),
  (19, .getfield 9, 3, 1202, 0, 0, []),
  (22, .iload_n 1, 1, 1, 0, 0, []),
  (23, .iaload, 1, 0, 0, 0, []),
  (24, .ishl, 1, 0, 0, 0, []),
  (25, .istore_n 3, 1, 3, 0, 0, []),
  (26, .iconst 0, 1, 0, 0, 0, []),
  (27, .istore 4, 2, 4, 0, 0, []),
  (29, .iload 4, 2, 4, 0, 0, []),
  (31, .bipush 20, 2, 0, 20, 0, []),
  (33, .if_icmp .gt 33, 3, 66, 0, 0, []),
  (36, .iload_n 3, 1, 3, 0, 0, []),
  (37, .iload_n 2, 1, 2, 0, 0, []),
  (38, .invokestatic 291, 3, 155, 0, 0, []),
  (41, .ifCond .eq 6, 3, 47, 0, 0, []),
  (44, .iload 4, 2, 4, 0, 0, []),
  (46, .ireturn, 1, 0, 0, 0, []),
  (47, .aload_n 0, 1, 0, 0, 0, []),
  (48, .iload_n 1, 1, 1, 0, 0, []),
  (49, .iload_n 3, 1, 3, 0, 0, []),
  (50, .aload_n 0, 1, 0, 0, 0, []),
  (51, .iload 4, 2, 4, 0, 0, []),
  (53, .invokevirtual 309, 3, 203, 0, 0, []),
  (56, .invokevirtual 328, 3, 212, 0, 0, []),
  (59, .istore_n 3, 1, 3, 0, 0, []),
  (60, .iinc 4 1, 3, 4, 1, 0, []),
  (63, .goto (-34), 3, 29, 0, 0, []),
  (66, .bipush (-2), 2, 0, (-2), 0, []),
  (68, .ireturn, 1, 0, 0, 0, [])]
def mm_X12_soonest : mM := (12, yX12_soonest, cX12_soonest, 5, (some .int), 3, (7077, 7075, 7076, 1013, false), mo_X12_soonest)
def mo_X12_free : List mO := [
  (0, .aload_n 0, 1, 0, 0, 0, []),
  (1, .iload_n 1, 1, 1, 0, 0, []),
  (2, .invokevirtual 146, 3, 158, 0, 0, []),
  (5, .ifCond .ne 5, 3, 10, 0, 0, []),
  (8, .iconst (-1), 1, 0, (-1), 0, []),
  (9, .ireturn, 1, 0, 0, 0, []),
  (10, .iconst 0, 1, 0, 0, 0, []),
  (11, .istore_n 2, 1, 2, 0, 0, []),
  (12, .iconst 0, 1, 0, 0, 0, []),
  (13, .istore_n 3, 1, 3, 0, 0, []),
  (14, .iload_n 3, 1, 3, 0, 0, []),
  (15, .bipush 25, 2, 0, 25, 0, []),
  (17, .if_icmp .ge 25, 3, 42, 0, 0, []),
  (20, .aload_n 0, 1, 0, 0, 0, []),
  (21, .iload_n 1, 1, 1, 0, 0, []),
  (22, .iload_n 3, 1, 3, 0, 0, []),
  (23, .aload_n 0, 1, 0, 0, 0, []),
  (24, .getfield 153, 3, 1214, 0, 0, []),
  (27, .invokevirtual 312, 3, 199, 0, 0, []),
  (30, .ifCond .ne 6, 3, 36, 0, 0, []),
  (33, .iinc 2 1, 3, 2, 1, 0, []),
  (36, .iinc 3 1, 3, 3, 1, 0, []),
  (39, .goto (-25), 3, 14, 0, 0, []),
  (42, .iload_n 2, 1, 2, 0, 0, []),
  (43, .ireturn, 1, 0, 0, 0, [])]
def mm_X12_free : mM := (12, yX12_free, cX12_free, 4, (some .int), 2, (7085, 7083, 7084, 1013, false), mo_X12_free)
def mo_X12_hereOf : List mO := [
  (0, .aload_n 0, 1, 0, 0, 0, []),
  (1, .iload_n 1, 1, 1, 0, 0, []),
  (2, .aload_n 0, 1, 0, 0, 0, []),
  (3, .getfield 9, 3, 1202, 0, 0, []),
  (6, .iload_n 1, 1, 1, 0, 0, []),
  (7, .iaload, 1, 0, 0, 0, []),
  (8, .aload_n 0, 1, 0, 0, 0, []),
  (9, .getfield 153, 3, 1214, 0, 0, []),
  (12, .invokevirtual 303, 3, 207, 0, 0, []),
  (15, .ireturn, 1, 0, 0, 0, [])]
def mm_X12_hereOf : mM := (12, yX12_hereOf, cX12_hereOf, 2, (some .int), 2, (7093, 7092, 72, 1013, false), mo_X12_hereOf)
def mo_X12_freesBy : List mO := [
  (0, .aload_n 0, 1, 0, 0, 0, []),
  (1, .getfield 15, 3, 1203, 0, 0, []),
  (4, .iload_n 1, 1, 1, 0, 0, []),
  (5, .iaload, 1, 0, 0, 0, []),
  (6, .istore 4, 2, 4, 0, 0, []),
  (8, .iconst 0, 1, 0, 0, 0, []),
  (9, .istore 5, 2, 5, 0, 0, []),
  (11, .iload 5, 2, 5, 0, 0, []),
  (13, .aload_n 0, 1, 0, 0, 0, []),
  (14, .getfield 143, 3, 1204, 0, 0, []),
  (17, .if_icmp .ge 26, 3, 43, 0, 0, []),
  (20, .iload_n 2, 1, 2, 0, 0, []),
  (21, .iload 5, 2, 5, 0, 0, []),
  (23, .invokestatic 291, 3, 155, 0, 0, []),
  (26, .ifCond .eq 11, 3, 37, 0, 0, []),
  (29, .aload_n 0, 1, 0, 0, 0, []),
  (30, .getfield 39, 3, 1212, 0, 0, []),
  (33, .iload 5, 2, 5, 0, 0, []),
  (35, .iconst 1, 1, 0, 1, 0, []),
  (36, .iastore, 1, 0, 0, 0, []),
  (37, .iinc 5 1, 3, 5, 1, 0, []),
  (40, .goto (-29), 3, 11, 0, 0, []),
  (43, .aload_n 0, 1, 0, 0, 0, []),
  (44, .getfield 15, 3, 1203, 0, 0, []),
  (47, .iload_n 1, 1, 1, 0, 0, []),
  (48, .iload_n 3, 1, 3, 0, 0, []),
  (49, .iastore, 1, 0, 0, 0, []),
  (50, .aload_n 0, 1, 0, 0, 0, []),
  (51, .iload_n 1, 1, 1, 0, 0, []),
  (52, .aload_n 0, 1, 0, 0, 0, []),
  (53, .getfield 9, 3, 1202, 0, 0, []),
  (56, .iload_n 1, 1, 1, 0, 0, []),
  (57, .iaload, 1, 0, 0, 0, []),
  (58, .aload_n 0, 1, 0, 0, 0, []),
  (59, .getfield 153, 3, 1214, 0, 0, []),
  (62, .invokevirtual 312, 3, 199, 0, 0, []),
  (65, .ifCond .ne 7, 3, 72, 0, 0, []),
  (68, .iconst 1, 1, 0, 1, 0, []),
  (69, .goto 4, 3, 73, 0, 0, []),
  (72, .iconst 0, 1, 0, 0, 0, []),
  (73, .istore 5, 2, 5, 0, 0, []),
  (75, .aload_n 0, 1, 0, 0, 0, []),
  (76, .getfield 15, 3, 1203, 0, 0, []),
  (79, .iload_n 1, 1, 1, 0, 0, []),
  (80, .iload 4, 2, 4, 0, 0, []),
  (82, .iastore, 1, 0, 0, 0, []),
  (83, .iconst 0, 1, 0, 0, 0, []),
  (84, .istore 6, 2, 6, 0, 0, []),
  (86, .iload 6, 2, 6, 0, 0, []),
  (88, .aload_n 0, 1, 0, 0, 0, []),
  (89, .getfield 143, 3, 1204, 0, 0, []),
  (92, .if_icmp .ge 26, 3, 118, 0, 0, []),
  (95, .iload_n 2, 1, 2, 0, 0, []),
  (96, .iload 6, 2, 6, 0, 0, []),
  (98, .invokestatic 291, 3, 155, 0, 0, []),
  (101, .ifCond .eq 11, 3, 112, 0, 0, []),
  (104, .aload_n 0, 1, 0, 0, 0, []),
  (105, .getfield 39, 3, 1212, 0, 0, []),
  (108, .iload 6, 2, 6, 0, 0, []),
  (110, .iconst 0, 1, 0, 0, 0, []),
  (111, .iastore, 1, 0, 0, 0, []),
  (112, .iinc 6 1, 3, 6, 1, 0, []),
  (115, .goto (-29), 3, 86, 0, 0, []),
  (118, .iload 5, 2, 5, 0, 0, []),
  (120, .ireturn, 1, 0, 0, 0, [])]
def mm_X12_freesBy : mM := (12, yX12_freesBy, cX12_freesBy, 7, (some .boolean), 4, (7100, 7099, 73, 1013, false), mo_X12_freesBy)
def mo_X12_words : List mO := [
  (0, .aload_n 0, 1, 0, 0, 0, []),
  (1, .iload_n 1, 1, 1, 0, 0, []),
  (2, .invokevirtual 146, 3, 158, 0, 0, []),
  (5, .ifCond .eq 12, 3, 17, 0, 0, []),
  (8, .iload_n 2, 1, 2, 0, 0, []),
  (9, .iconst 0, 1, 0, 0, 0, []),
  (10, .iconst 1, 1, 0, 1, 0, []),
  (11, .invokestatic 136, 3, 154, 0, 0, []),
  (14, .ifCond .ne 5, 3, 19, 0, 0, []),
  (17, .iconst (-1), 1, 0, (-1), 0, []),
  (18, .ireturn, 1, 0, 0, 0, []),
  (19, .aload_n 0, 1, 0, 0, 0, []),
  (20, .iload_n 1, 1, 1, 0, 0, []),
  (21, .invokevirtual 331, 3, 215, 0, 0, []),
  (24, .istore_n 3, 1, 3, 0, 0, []),
  (25, .bipush (-2), 2, 0, (-2), 0, []),
  (27, .istore 4, 2, 4, 0, 0, []),
  (29, .iconst 0, 1, 0, 0, 0, []),
  (30, .istore 5, 2, 5, 0, 0, []),
  (32, .iload 5, 2, 5, 0, 0, []),
  (34, .iconst 1, 1, 0, 1, 0, []),
  (35, .aload_n 0, 1, 0, 0, 0, []),
  (36, .getfield 143, 3, 1204, 0, 0, []),
  (39, .ishl, 1, 0, 0, 0, []),
  (40, .if_icmp .ge 59, 3, 99, 0, 0, []),
  (43, .iload 5, 2, 5, 0, 0, []),
  (45, .iload_n 3, 1, 3, 0, 0, []),
  (46, .iconst (-1), 1, 0, (-1), 0, []),
  (47, .ixor, 1, 0, 0, 0, []),
  (48, .iand, 1, 0, 0, 0, []),
  (49, .ifCond .ne 44, 3, 93, 0, 0, []),
  (52, .iload 4, 2, 4, 0, 0, []),
  (54, .ifCond .lt 19, 3, 73, 0, 0, []),
  (57, .iload 5, 2, 5, 0, 0, []),
  (59, .invokestatic 334, 3, 156, 0, 0, []),
  (62, .iload 4, 2, 4, 0, 0, []),
  (64, .invokestatic 334, 3, 156, 0, 0, []),
  (67, .if_icmp .lt 6, 3, 73, 0, 0, []),
  (70, .goto 23, 3, 93, 0, 0, []),
  (73, .aload_n 0, 1, 0, 0, 0, []),
  (74, .iload_n 1, 1, 1, 0, 0, []),
  (75, .iload 5, 2, 5, 0, 0, []),
  (77, .aload_n 0, 1, 0, 0, 0, []),
  (78, .getfield 15, 3, 1203, 0, 0, []),
  (81, .iload_n 1, 1, 1, 0, 0, []),
  (82, .iaload, 1, 0, 0, 0, []),
  (83, .invokevirtual 337, 3, 216, 0, 0, []),
  (86, .ifCond .eq 7, 3, 93, 0, 0, []),
  (89, .iload 5, 2, 5, 0, 0, []),
  (91, .istore 4, 2, 4, 0, 0, []),
  (93, .iinc 5 1, 3, 5, 1, 0, []),
  (96, .goto (-64), 3, 32, 0, 0, []),
  (99, .iload_n 2, 1, 2, 0, 0, []),
  (100, .ifCond .ne 11, 3, 111, 0, 0, []),
  (103, .iload 4, 2, 4, 0, 0, []),
  (105, .invokestatic 334, 3, 156, 0, 0, []),
  (108, .goto 5, 3, 113, 0, 0, []),
  (111, .iload 4, 2, 4, 0, 0, []),
  (113, .ireturn, 1, 0, 0, 0, [])]
def mm_X12_words : mM := (12, yX12_words, cX12_words, 6, (some .int), 3, (7089, 7087, 7088, 1013, false), mo_X12_words)
def mo_X12_breaks : List mO := [
  (0, .aload_n 0, 1, 0, 0, 0, []),
  (1, .iload_n 1, 1, 1, 0, 0, []),
  (2, .invokevirtual 146, 3, 158, 0, 0, []),
  (5, .ifCond .eq 12, 3, 17, 0, 0, []),
  (8, .iload_n 2, 1, 2, 0, 0, []),
  (9, .iconst 0, 1, 0, 0, 0, []),
  (10, .iconst 1, 1, 0, 1, 0, []),
  (11, .invokestatic 136, 3, 154, 0, 0, []),
  (14, .ifCond .ne 5, 3, 19, 0, 0, []),
  (17, .iconst (-1), 1, 0, (-1), 0, []),
  (18, .ireturn, 1, 0, 0, 0, []),
  (19, .aload_n 0, 1, 0, 0, 0, []),
  (20, .iload_n 1, 1, 1, 0, 0, []),
  (21, .invokevirtual 331, 3, 215, 0, 0, []),
  (24, .istore_n 3, 1, 3, 0, 0, []),
  (25, .bipush (-2), 2, 0, (-2), 0, []),
  (27, .istore 4, 2, 4, 0, 0, []),
  (29, .iconst 0, 1, 0, 0, 0, []),
  (30, .istore 5, 2, 5, 0, 0, []),
  (32, .iload 5, 2, 5, 0, 0, []),
  (34, .iconst 1, 1, 0, 1, 0, []),
  (35, .aload_n 0, 1, 0, 0, 0, []),
  (36, .getfield 143, 3, 1204, 0, 0, []),
  (39, .ishl, 1, 0, 0, 0, []),
  (40, .if_icmp .ge 81, 3, 121, 0, 0, []),
  (43, .iload 5, 2, 5, 0, 0, []),
  (45, .iload_n 3, 1, 3, 0, 0, []),
  (46, .iconst (-1), 1, 0, (-1), 0, []),
  (47, .ixor, 1, 0, 0, 0, []),
  (48, .iand, 1, 0, 0, 0, []),
  (49, .ifCond .ne 66, 3, 115, 0, 0, []),
  (52, .iload 5, 2, 5, 0, 0, []),
  (54, .invokestatic 334, 3, 156, 0, 0, []),
  (57, .aload_n 0, 1, 0, 0, 0, []),
  (58, .getfield 15, 3, 1203, 0, 0, []),
  (61, .iload_n 1, 1, 1, 0, 0, []),
  (62, .iaload, 1, 0, 0, 0, []),
  (63, .if_icmp .gt 52, 3, 115, 0, 0, []),
  (66, .iload 4, 2, 4, 0, 0, []),
  (68, .ifCond .lt 21, 3, 89, 0, 0, []),
  (71, .aload_n 0, 1, 0, 0, 0, []),
  (72, .iload 5, 2, 5, 0, 0, []),
  (74, .invokevirtual 318, 3, 208, 0, 0, []),
  (77, .aload_n 0, 1, 0, 0, 0, []),
  (78, .iload 4, 2, 4, 0, 0, []),
  (80, .invokevirtual 318, 3, 208, 0, 0, []),
  (83, .if_icmp .lt 6, 3, 89, 0, 0, []),
  (86, .goto 29, 3, 115, 0, 0, []),
  (89, .aload_n 0, 1, 0, 0, 0, []),
  (90, .iload_n 1, 1, 1, 0, 0, []),
  (91, .iload 5, 2, 5, 0, 0, []),
  (93, .aload_n 0, 1, 0, 0, 0, []),
  (94, .getfield 15, 3, 1203, 0, 0, []),
  (97, .iload_n 1, 1, 1, 0, 0, []),
  (98, .iaload, 1, 0, 0, 0, []),
  (99, .iload 5, 2, 5, 0, 0, []),
  (101, .invokestatic 334, 3, 156, 0, 0, []),
  (104, .isub, 1, 0, 0, 0, []),
  (105, .invokevirtual 337, 3, 216, 0, 0, []),
  (108, .ifCond .eq 7, 3, 115, 0, 0, []),
  (111, .iload 5, 2, 5, 0, 0, []),
  (113, .istore 4, 2, 4, 0, 0, []),
  (115, .iinc 5 1, 3, 5, 1, 0, []),
  (118, .goto (-86), 3, 32, 0, 0, []),
  (121, .iload 4, 2, 4, 0, 0, []),
  (123, .ifCond .lt 8, 3, 131, 0, 0, []),
  (126, .iload_n 2, 1, 2, 0, 0, []),
  (127, .iconst 1, 1, 0, 1, 0, []),
  (128, .if_icmp .ne 8, 3, 136, 0, 0, []),
  (131, .iload 4, 2, 4, 0, 0, []),
  (133, .goto 9, 3, 142, 0, 0, []),
  (136, .aload_n 0, 1, 0, 0, 0, []),
  (137, .iload 4, 2, 4, 0, 0, []),
  (139, .invokevirtual 318, 3, 208, 0, 0, []),
  (142, .ireturn, 1, 0, 0, 0, [])]
def mm_X12_breaks : mM := (12, yX12_breaks, cX12_breaks, 6, (some .int), 3, (7104, 7102, 7103, 1013, false), mo_X12_breaks)
def mo_X12_nobodyHeld : List mO := [
  (0, .iconst 0, 1, 0, 0, 0, []),
  (1, .istore_n 1, 1, 1, 0, 0, []),
  (2, .iload_n 1, 1, 1, 0, 0, []),
  (3, .aload_n 0, 1, 0, 0, 0, []),
  (4, .getfield 140, 3, 1201, 0, 0, []),
  (7, .if_icmp .ge 29, 3, 36, 0, 0, []),
  (10, .aload_n 0, 1, 0, 0, 0, []),
  (11, .iload_n 1, 1, 1, 0, 0, []),
  (12, .aload_n 0, 1, 0, 0, 0, []),
  (13, .getfield 9, 3, 1202, 0, 0, []),
  (16, .iload_n 1, 1, 1, 0, 0, []),
  (17, .iaload, 1, 0, 0, 0, []),
  (18, .aload_n 0, 1, 0, 0, 0, []),
  (19, .getfield 153, 3, 1214, 0, 0, []),
  (22, .invokevirtual 312, 3, 199, 0, 0, []),
  (25, .ifCond .eq 5, 3, 30, 0, 0, []),
  (28, .iconst 0, 1, 0, 0, 0, []),
  (29, .ireturn, 1, 0, 0, 0, []),
  (30, .iinc 1 1, 3, 1, 1, 0, []),
  (33, .goto (-31), 3, 2, 0, 0, []),
  (36, .iconst 1, 1, 0, 1, 0, []),
  (37, .ireturn, 1, 0, 0, 0, [])]
def mm_X12_nobodyHeld : mM := (12, yX12_nobodyHeld, cX12_nobodyHeld, 2, (some .boolean), 1, (7120, 7119, 76, 1013, false), mo_X12_nobodyHeld)
def mo_X12_promisedTo : List mO := [
  (0, .iconst 0, 1, 0, 0, 0, []),
  (1, .istore_n 2, 1, 2, 0, 0, []),
  (2, .iconst 0, 1, 0, 0, 0, []),
  (3, .istore_n 3, 1, 3, 0, 0, []),
  (4, .iload_n 3, 1, 3, 0, 0, []),
  (5, .aload_n 0, 1, 0, 0, 0, []),
  (6, .getfield 143, 3, 1204, 0, 0, []),
  (9, .if_icmp .ge 37, 3, 46, 0, 0, []),
  (12, .aload_n 0, 1, 0, 0, 0, []),
  (13, .getfield 39, 3, 1212, 0, 0, []),
  (16, .iload_n 3, 1, 3, 0, 0, []),
  (17, .iaload, 1, 0, 0, 0, []),
  (18, .ifCond .ne 22, 3, 40, 0, 0, []),
  (21, .iload_n 1, 1, 1, 0, 0, []),
  (22, .aload_n 0, 1, 0, 0, 0, []),
  (23, .getfield 21, 3, 1206, 0, 0, []),
  (26, .iload_n 3, 1, 3, 0, 0, []),
  (27, .iaload, 1, 0, 0, 0, []),
  (28, .invokestatic 291, 3, 155, 0, 0, []),
  (31, .ifCond .eq 9, 3, 40, 0, 0, []),
  (34, .iload_n 2, 1, 2, 0, 0, []),
  (35, .iconst 1, 1, 0, 1, 0, []),
  (36, .iload_n 3, 1, 3, 0, 0, []),
  (37, .ishl, 1, 0, 0, 0, []),
  (38, .ior, 1, 0, 0, 0, []),
  (39, .istore_n 2, 1, 2, 0, 0, []),
  (40, .iinc 3 1, 3, 3, 1, 0, []),
  (43, .goto (-39), 3, 4, 0, 0, []),
  (46, .iload_n 2, 1, 2, 0, 0, []),
  (47, .ireturn, 1, 0, 0, 0, [])]
def mm_X12_promisedTo : mM := (12, yX12_promisedTo, cX12_promisedTo, 4, (some .int), 2, (7116, 7115, 75, 1013, false), mo_X12_promisedTo)
def mo_X12_allFree : List mO := [
  (0, .aload_n 0, 1, 0, 0, 0, []),
  (1, .iload_n 1, 1, 1, 0, 0, []),
  (2, .invokevirtual 340, 3, 220, 0, 0, []),
  (5, .istore_n 2, 1, 2, 0, 0, []),
  (6, .iconst 0, 1, 0, 0, 0, []),
  (7, .istore_n 3, 1, 3, 0, 0, []),
  (8, .iload_n 3, 1, 3, 0, 0, []),
  (9, .aload_n 0, 1, 0, 0, 0, []),
  (10, .getfield 143, 3, 1204, 0, 0, []),
  (13, .if_icmp .ge 24, 3, 37, 0, 0, []),
  (16, .iload_n 2, 1, 2, 0, 0, []),
  (17, .iload_n 3, 1, 3, 0, 0, []),
  (18, .invokestatic 291, 3, 155, 0, 0, []),
  (21, .ifCond .eq 10, 3, 31, 0, 0, []),
  (24, .aload_n 0, 1, 0, 0, 0, []),
  (25, .getfield 39, 3, 1212, 0, 0, []),
  (28, .iload_n 3, 1, 3, 0, 0, []),
  (29, .iconst 1, 1, 0, 1, 0, []),
  (30, .iastore, 1, 0, 0, 0, []),
  (31, .iinc 3 1, 3, 3, 1, 0, []),
  (34, .goto (-26), 3, 8, 0, 0, []),
  (37, .aload_n 0, 1, 0, 0, 0, []),
  (38, .invokevirtual 343, 3, 219, 0, 0, []),
  (41, .istore_n 3, 1, 3, 0, 0, []),
  (42, .iconst 0, 1, 0, 0, 0, []),
  (43, .istore 4, 2, 4, 0, 0, []),
  (45, .iload 4, 2, 4, 0, 0, []),
  (47, .aload_n 0, 1, 0, 0, 0, []),
  (48, .getfield 143, 3, 1204, 0, 0, []),
  (51, .if_icmp .ge 26, 3, 77, 0, 0, []),
  (54, .iload_n 2, 1, 2, 0, 0, []),
  (55, .iload 4, 2, 4, 0, 0, []),
  (57, .invokestatic 291, 3, 155, 0, 0, []),
  (60, .ifCond .eq 11, 3, 71, 0, 0, []),
  (63, .aload_n 0, 1, 0, 0, 0, []),
  (64, .getfield 39, 3, 1212, 0, 0, []),
  (67, .iload 4, 2, 4, 0, 0, []),
  (69, .iconst 0, 1, 0, 0, 0, []),
  (70, .iastore, 1, 0, 0, 0, []),
  (71, .iinc 4 1, 3, 4, 1, 0, []),
  (74, .goto (-29), 3, 45, 0, 0, []),
  (77, .iload_n 3, 1, 3, 0, 0, []),
  (78, .ireturn, 1, 0, 0, 0, [])]
def mm_X12_allFree : mM := (12, yX12_allFree, cX12_allFree, 5, (some .boolean), 2, (7112, 7111, 74, 1013, false), mo_X12_allFree)
def mo_X12_all : List mO := [
  (0, .iload_n 1, 1, 1, 0, 0, []),
  (1, .iconst 0, 1, 0, 0, 0, []),
  (2, .iconst 1, 1, 0, 1, 0, []),
  (3, .invokestatic 136, 3, 154, 0, 0, []),
  (6, .ifCond .ne 5, 3, 11, 0, 0, []),
  (9, .iconst (-1), 1, 0, (-1), 0, []),
  (10, .ireturn, 1, 0, 0, 0, []),
  (11, .bipush (-2), 2, 0, (-2), 0, []),
  (13, .istore_n 2, 1, 2, 0, 0, []),
  (14, .iconst 0, 1, 0, 0, 0, []),
  (15, .istore_n 3, 1, 3, 0, 0, []),
  (16, .iload_n 3, 1, 3, 0, 0, []),
  (17, .iconst 1, 1, 0, 1, 0, []),
  (18, .aload_n 0, 1, 0, 0, 0, []),
  (19, .getfield 140, 3, 1201, 0, 0, []),
  (22, .ishl, 1, 0, 0, 0, []),
  (23, .if_icmp .ge 37, 3, 60, 0, 0, []),
  (26, .iload_n 2, 1, 2, 0, 0, []),
  (27, .ifCond .lt 17, 3, 44, 0, 0, []),
  (30, .iload_n 3, 1, 3, 0, 0, []),
  (31, .invokestatic 334, 3, 156, 0, 0, []),
  (34, .iload_n 2, 1, 2, 0, 0, []),
  (35, .invokestatic 334, 3, 156, 0, 0, []),
  (38, .if_icmp .lt 6, 3, 44, 0, 0, []),
  (41, .goto 13, 3, 54, 0, 0, []),
  (44, .aload_n 0, 1, 0, 0, 0, []),
  (45, .iload_n 3, 1, 3, 0, 0, []),
  (46, .invokevirtual 346, 3, 221, 0, 0, []),
  (49, .ifCond .eq 5, 3, 54, 0, 0, []),
  (52, .iload_n 3, 1, 3, 0, 0, []),
  (53, .istore_n 2, 1, 2, 0, 0, []),
  (54, .iinc 3 1, 3, 3, 1, 0, []),
  (57, .goto (-41), 3, 16, 0, 0, []),
  (60, .iload_n 1, 1, 1, 0, 0, []),
  (61, .ifCond .ne 10, 3, 71, 0, 0, []),
  (64, .iload_n 2, 1, 2, 0, 0, []),
  (65, .invokestatic 334, 3, 156, 0, 0, []),
  (68, .goto 4, 3, 72, 0, 0, []),
  (71, .iload_n 2, 1, 2, 0, 0, []),
  (72, .ireturn, 1, 0, 0, 0, [])]
def mm_X12_all : mM := (12, yX12_all, cX12_all, 4, (some .int), 2, (7108, 7106, 7107, 1013, false), mo_X12_all)
def mo_X12_heldToward : List mO := [
  (0, .iconst 0, 1, 0, 0, 0, []),
  (1, .istore_n 2, 1, 2, 0, 0, []),
  (2, .iconst 0, 1, 0, 0, 0, []),
  (3, .istore_n 3, 1, 3, 0, 0, []),
  (4, .iload_n 3, 1, 3, 0, 0, []),
  (5, .aload_n 0, 1, 0, 0, 0, []),
  (6, .getfield 143, 3, 1204, 0, 0, []),
  (9, .if_icmp .ge 56, 3, 65, 0, 0, []),
  (12, .iload_n 1, 1, 1, 0, 0, []),
  (13, .aload_n 0, 1, 0, 0, 0, []),
  (14, .getfield 18, 3, 1205, 0, 0, []),
  (17, .iload_n 3, 1, 3, 0, 0, []),
  (18, .iaload, 1, 0, 0, 0, []),
  (19, .invokestatic 291, 3, 155, 0, 0, []),
  (22, .ifCond .eq 37, 3, 59, 0, 0, []),
  (25, .aload_n 0, 1, 0, 0, 0, []),
  (26, .iload_n 3, 1, 3, 0, 0, []),
  (27, .aload_n 0, 1, 0, 0, 0, []),
  (28, .getfield 9, 3, 1202, 0, 0, []),
  (31, .aload_n 0, 1, 0, 0, 0, []),
  (32, .getfield 18, 3, 1205, 0, 0, []),
  (35, .iload_n 3, 1, 3, 0, 0, []),
  (36, .iaload, 1, 0, 0, 0, []),
  (37, .iaload, 1, 0, 0, 0, []),
  (38, .aload_n 0, 1, 0, 0, 0, []),
  (39, .getfield 153, 3, 1214, 0, 0, []),
  (42, .invokevirtual 279, 3, 197, 0, 0, []),
  (45, .ifCond .eq 14, 3, 59, 0, 0, []),
  (48, .iload_n 2, 1, 2, 0, 0, []),
  (49, .iconst 1, 1, 0, 1, 0, []),
  (50, .aload_n 0, 1, 0, 0, 0, []),
  (51, .getfield 21, 3, 1206, 0, 0, []),
  (54, .iload_n 3, 1, 3, 0, 0, []),
  (55, .iaload, 1, 0, 0, 0, []),
  (56, .ishl, 1, 0, 0, 0, []),
  (57, .ior, 1, 0, 0, 0, []),
  (58, .istore_n 2, 1, 2, 0, 0, []),
  (59, .iinc 3 1, 3, 3, 1, 0, []),
  (62, .goto (-58), 3, 4, 0, 0, []),
  (65, .iload_n 2, 1, 2, 0, 0, []),
  (66, .ireturn, 1, 0, 0, 0, [])]
def mm_X12_heldToward : mM := (12, yX12_heldToward, cX12_heldToward, 4, (some .int), 2, (7128, 7127, 77, 1013, false), mo_X12_heldToward)
def mo_X12_ring : List mO := [
  (0, .bipush (-2), 2, 0, (-2), 0, []),
  (2, .istore_n 1, 1, 1, 0, 0, []),
  (3, .iconst 0, 1, 0, 0, 0, []),
  (4, .istore_n 2, 1, 2, 0, 0, []),
  (5, .iload_n 2, 1, 2, 0, 0, []),
  (6, .aload_n 0, 1, 0, 0, 0, []),
  (7, .getfield 140, 3, 1201, 0, 0, []),
  (10, .if_icmp .ge 67, 3, 77, 0, 0, []),
  (13, .iconst 1, 1, 0, 1, 0, []),
  (14, .iload_n 2, 1, 2, 0, 0, []),
  (15, .ishl, 1, 0, 0, 0, []),
  (16, .istore_n 3, 1, 3, 0, 0, []),
  (17, .iconst 1, 1, 0, 1, 0, []),
  (18, .istore 4, 2, 4, 0, 0, []),
  (20, .iload 4, 2, 4, 0, 0, []),
  (22, .aload_n 0, 1, 0, 0, 0, []),
  (23, .getfield 140, 3, 1201, 0, 0, []),
  (26, .if_icmp .gt 45, 3, 71, 0, 0, []),
  (29, .aload_n 0, 1, 0, 0, 0, []),
  (30, .iload_n 3, 1, 3, 0, 0, []),
  (31, .invokevirtual 349, 3, 223, 0, 0, []),
  (34, .istore_n 3, 1, 3, 0, 0, []),
  (35, .iload_n 3, 1, 3, 0, 0, []),
  (36, .iload_n 2, 1, 2, 0, 0, []),
  (37, .invokestatic 291, 3, 155, 0, 0, []),
  (40, .ifCond .ne 6, 3, 46, 0, 0, []),
  (43, .goto 22, 3, 65, 0, 0, []),
  (46, .iload_n 1, 1, 1, 0, 0, []),
  (47, .ifCond .lt 9, 3, 56, 0, 0, []),
  (50, .iload 4, 2, 4, 0, 0, []),
  (52, .iload_n 1, 1, 1, 0, 0, []),
  (53, .if_icmp .ge 6, 3, 59, 0, 0, []),
  (56, .iload 4, 2, 4, 0, 0, []),
  (58, .istore_n 1, 1, 1, 0, 0, []),
  (59, .aload_n 0, 1, 0, 0, 0, []),
  (60, .getfield 140, 3, 1201, 0, 0, []),
  (63, .istore 4, 2, 4, 0, 0, []),
  (65, .iinc 4 1, 3, 4, 1, 0, []),
  (68, .goto (-48), 3, 20, 0, 0, []),
  (71, .iinc 2 1, 3, 2, 1, 0, []),
  (74, .goto (-69), 3, 5, 0, 0, []),
  (77, .iload_n 1, 1, 1, 0, 0, []),
  (78, .ireturn, 1, 0, 0, 0, [])]
def mm_X12_ring : mM := (12, yX12_ring, cX12_ring, 5, (some .int), 1, (7124, 7122, 7123, 1013, false), mo_X12_ring)
def mo_X12_areShelves : List mO := [
  (0, .iload_n 0, 1, 0, 0, 0, []),
  (1, .ifCond .lt 27, 3, 28, 0, 0, []),
  (4, .iload_n 0, 1, 0, 0, 0, []),
  (5, .bipush 10, 2, 0, 10, 0, []),
  (7, .idiv, 1, 0, 0, 0, []),
  (8, .invokestatic 164, 3, 269, 0, 0, []),
  (11, .ifCond .eq 17, 3, 28, 0, 0, []),
  (14, .iload_n 0, 1, 0, 0, 0, []),
  (15, .bipush 10, 2, 0, 10, 0, []),
  (17, .irem, 1, 0, 0, 0, []),
  (18, .invokestatic 164, 3, 269, 0, 0, []),
  (21, .ifCond .eq 7, 3, 28, 0, 0, []),
  (24, .iconst 1, 1, 0, 1, 0, []),
  (25, .goto 4, 3, 29, 0, 0, []),
  (28, .iconst 0, 1, 0, 0, 0, []),
  (29, .ireturn, 1, 0, 0, 0, [])]
def mm_X12_areShelves : mM := (12, yX12_areShelves, cX12_areShelves, 1, (some .boolean), 1, (7135, 7134, 0, 1013, true), mo_X12_areShelves)
def mo_X12_judge : List mO := [
  (0, .iload_n 1, 1, 1, 0, 0, []),
  (1, .invokestatic 352, 3, 225, 0, 0, []),
  (4, .ifCond .eq 11, 3, 15, 0, 0, []),
  (7, .aload_n 0, 1, 0, 0, 0, []),
  (8, .iload_n 2, 1, 2, 0, 0, []),
  (9, .invokevirtual 146, 3, 158, 0, 0, []),
  (12, .ifCond .ne 5, 3, 17, 0, 0, []),
  (15, .iconst (-1), 1, 0, (-1), 0, []),
  (16, .ireturn, 1, 0, 0, 0, []),
  (17, .aload_n 0, 1, 0, 0, 0, []),
  (18, .iload_n 1, 1, 1, 0, 0, []),
  (19, .bipush 10, 2, 0, 10, 0, []),
  (21, .idiv, 1, 0, 0, 0, []),
  (22, .invokevirtual 294, 3, 204, 0, 0, []),
  (25, .ifCond .ge 12, 3, 37, 0, 0, []),
  (28, .aload_n 0, 1, 0, 0, 0, []),
  (29, .iload_n 1, 1, 1, 0, 0, []),
  (30, .bipush 10, 2, 0, 10, 0, []),
  (32, .idiv, 1, 0, 0, 0, []),
  (33, .invokevirtual 294, 3, 204, 0, 0, []),
  (36, .ireturn, 1, 0, 0, 0, []),
  (37, .aload_n 0, 1, 0, 0, 0, []),
  (38, .iload_n 1, 1, 1, 0, 0, []),
  (39, .bipush 10, 2, 0, 10, 0, []),
  (41, .irem, 1, 0, 0, 0, []),
  (42, .invokevirtual 294, 3, 204, 0, 0, []),
  (45, .ifCond .ge 12, 3, 57, 0, 0, []),
  (48, .aload_n 0, 1, 0, 0, 0, []),
  (49, .iload_n 1, 1, 1, 0, 0, []),
  (50, .bipush 10, 2, 0, 10, 0, []),
  (52, .irem, 1, 0, 0, 0, []),
  (53, .invokevirtual 294, 3, 204, 0, 0, []),
  (56, .ireturn, 1, 0, 0, 0, []),
  (57, .aload_n 0, 1, 0, 0, 0, []),
  (58, .iload_n 1, 1, 1, 0, 0, []),
  (59, .bipush 10, 2, 0, 10, 0, []),
  (61, .idiv, 1, 0, 0, 0, []),
  (62, .invokevirtual 297, 3, 206, 0, 0, []),
  (65, .istore_n 3, 1, 3, 0, 0, []),
  (66, .aload_n 0, 1, 0, 0, 0, []),
  (67, .getfield 9, 3, 1202, 0, 0, []),
  (70, .iload_n 2, 1, 2, 0, 0, []),
  (71, .iaload, 1, 0, 0, 0, []),
  (72, .istore 4, 2, 4, 0, 0, []),
  (74, .iconst 0, 1, 0, 0, 0, []),
  (75, .istore 5, 2, 5, 0, 0, []),
  (77, .iload 5, 2, 5, 0, 0, []),
  (79, .bipush 31, 2, 0, 31, 0, []),
  (81, .if_icmp .ge 97, 3, 178, 0, 0, []),
  (84, .iload 5, 2, 5, 0, 0, []),
  (86, .aload_n 0, 1, 0, 0, 0, []),
  (87, .getfield 123, 3, 1264, 0, 0, []),
  (90, .iload_n 1, 1, 1, 0, 0, []),
  (91, .bipush 10, 2, 0, 10, 0, []),
  (93, .irem, 1, 0, 0, 0, []),
  (94, .iaload, 1, 0, 0, 0, []),
  (95, .if_icmp .ge 83, 3, 178, 0, 0, []),
  (98, .aload_n 0, 1, 0, 0, 0, []),
  (99, .iload_n 1, 1, 1, 0, 0, []),
  (100, .bipush 10, 2, 0, 10, 0, []),
  (102, .irem, 1, 0, 0, 0, []),
  (103, .iload 5, 2, 5, 0, 0, []),
  (105, .invokevirtual 288, 3, 205, 0, 0, []),
  (108, .istore 6, 2, 6, 0, 0, []),
  (110, .iload 5, 2, 5, 0, 0, []),
  (112, .iload_n 3, 1, 3, 0, 0, []),
  (113, .if_icmp .gt 17, 3, 130, 0, 0, []),
  (116, .iload 6, 2, 6, 0, 0, []),
  (118, .bipush 99, 2, 0, 99, 0, []),
  (120, .if_icmp .eq 13, 3, 133, 0, 0, []),
  (123, .iload 6, 2, 6, 0, 0, []),
  (125, .iload 4, 2, 4, 0, 0, []),
  (127, .if_icmp .eq 6, 3, 133, 0, 0, []),
  (130, .iload 5, 2, 5, 0, 0, []),
  (132, .ireturn, 1, 0, 0, 0, []),
  (133, .iload 5, 2, 5, 0, 0, []),
  (135, .iload_n 3, 1, 3, 0, 0, []),
  (136, .if_icmp .ge 36, 3, 172, 0, 0, []),
  (139, .aload_n 0, 1, 0, 0, 0, []),
  (140, .iload_n 2, 1, 2, 0, 0, []),
  (141, .iload 4, 2, 4, 0, 0, []),
  (143, .aload_n 0, 1, 0, 0, 0, []),
  (144, .iload 5, 2, 5, 0, 0, []),
  (146, .invokevirtual 309, 3, 203, 0, 0, []),
  (149, .invokevirtual 312, 3, 199, 0, 0, []),
  (152, .ifCond .ne 20, 3, 172, 0, 0, []),
  (155, .iload 4, 2, 4, 0, 0, []),
  (157, .aload_n 0, 1, 0, 0, 0, []),
  (158, .iload_n 1, 1, 1, 0, 0, []),
  (159, .bipush 10, 2, 0, 10, 0, []),
  (161, .idiv, 1, 0, 0, 0, []),
  (162, .iload 5, 2, 5, 0, 0, []),
  (164, .invokevirtual 288, 3, 205, 0, 0, []),
  (167, .invokestatic 315, 3, 202, 0, 0, []),
  (170, .istore 4, 2, 4, 0, 0, []),
  (172, .iinc 5 1, 3, 5, 1, 0, []),
  (175, .goto (-98), 3, 77, 0, 0, []),
  (178, .bipush (-2), 2, 0, (-2), 0, []),
  (180, .ireturn, 1, 0, 0, 0, [])]
def mm_X12_judge : mM := (12, yX12_judge, cX12_judge, 7, (some .int), 3, (7132, 7130, 7131, 1013, false), mo_X12_judge)
def mo_X12_canBe : List mO := [
  (0, .iconst 1, 1, 0, 1, 0, []),
  (1, .aload_n 0, 1, 0, 0, 0, []),
  (2, .getfield 9, 3, 1202, 0, 0, []),
  (5, .iload_n 2, 1, 2, 0, 0, []),
  (6, .iaload, 1, 0, 0, 0, []),
  (7, .ishl, 1, 0, 0, 0, []),
  (8, .istore_n 3, 1, 3, 0, 0, []),
  (9, .iconst 0, 1, 0, 0, 0, []),
  (10, .istore 4, 2, 4, 0, 0, []),
  (12, .iload 4, 2, 4, 0, 0, []),
  (14, .bipush 31, 2, 0, 31, 0, []),
  (16, .if_icmp .ge 74, 3, 90, 0, 0, []),
  (19, .iload 4, 2, 4, 0, 0, []),
  (21, .aload_n 0, 1, 0, 0, 0, []),
  (22, .getfield 123, 3, 1264, 0, 0, []),
  (25, .iload_n 1, 1, 1, 0, 0, []),
  (26, .iaload, 1, 0, 0, 0, []),
  (27, .if_icmp .ge 63, 3, 90, 0, 0, []),
  (30, .aload_n 0, 1, 0, 0, 0, []),
  (31, .iload_n 1, 1, 1, 0, 0, []),
  (32, .iload 4, 2, 4, 0, 0, []),
  (34, .invokevirtual 288, 3, 205, 0, 0, []),
  (37, .istore 5, 2, 5, 0, 0, []),
  (39, .iload 5, 2, 5, 0, 0, []),
  (41, .bipush 99, 2, 0, 99, 0, []),
  (43, .if_icmp .eq 22, 3, 65, 0, 0, []),
  (46, .iload_n 3, 1, 3, 0, 0, []),
  (47, .iload 5, 2, 5, 0, 0, []),
  (49, .invokestatic 150, 3, 157, 0, 0, []),
  (52, .ifCond .eq 10, 3, 62, 0, 0, []),
  (55, .iconst 1, 1, 0, 1, 0, []),
  (56, .iload 5, 2, 5, 0, 0, []),
  (58, .ishl, 1, 0, 0, 0, []),
  (59, .goto 4, 3, 63, 0, 0, []),
  (62, .iconst 0, 1, 0, 0, 0, []),
  (63, .iand, 1, 0, 0, 0, []),
  (64, .istore_n 3, 1, 3, 0, 0, []),
  (65, .iload_n 3, 1, 3, 0, 0, []),
  (66, .ifCond .ne 5, 3, 71, 0, 0, []),
  (69, .iconst 0, 1, 0, 0, 0, []),
  (70, .ireturn, 1, 0, 0, 0, []),
  (71, .aload_n 0, 1, 0, 0, 0, []),
  (72, .iload_n 2, 1, 2, 0, 0, []),
  (73, .iload_n 3, 1, 3, 0, 0, []),
  (74, .aload_n 0, 1, 0, 0, 0, []),
  (75, .iload 4, 2, 4, 0, 0, []),
  (77, .invokevirtual 309, 3, 203, 0, 0, []),
  (80, .invokevirtual 328, 3, 212, 0, 0, []),
  (83, .istore_n 3, 1, 3, 0, 0, []),
  (84, .iinc 4 1, 3, 4, 1, 0, []),
  (87, .goto (-75), 3, 12, 0, 0, []),
  (90, .iconst 1, 1, 0, 1, 0, []),
  (91, .ireturn, 1, 0, 0, 0, [])]
def mm_X12_canBe : mM := (12, yX12_canBe, cX12_canBe, 6, (some .boolean), 3, (7143, 7142, 78, 1013, false), mo_X12_canBe)
def mo_X12_can : List mO := [
  (0, .iload_n 1, 1, 1, 0, 0, []),
  (1, .invokestatic 164, 3, 269, 0, 0, []),
  (4, .ifCond .eq 11, 3, 15, 0, 0, []),
  (7, .aload_n 0, 1, 0, 0, 0, []),
  (8, .iload_n 2, 1, 2, 0, 0, []),
  (9, .invokevirtual 146, 3, 158, 0, 0, []),
  (12, .ifCond .ne 5, 3, 17, 0, 0, []),
  (15, .iconst (-1), 1, 0, (-1), 0, []),
  (16, .ireturn, 1, 0, 0, 0, []),
  (17, .aload_n 0, 1, 0, 0, 0, []),
  (18, .iload_n 1, 1, 1, 0, 0, []),
  (19, .invokevirtual 294, 3, 204, 0, 0, []),
  (22, .ifCond .ge 11, 3, 33, 0, 0, []),
  (25, .aload_n 0, 1, 0, 0, 0, []),
  (26, .iload_n 1, 1, 1, 0, 0, []),
  (27, .invokevirtual 294, 3, 204, 0, 0, []),
  (30, .goto 17, 3, 47, 0, 0, []),
  (33, .aload_n 0, 1, 0, 0, 0, []),
  (34, .iload_n 1, 1, 1, 0, 0, []),
  (35, .iload_n 2, 1, 2, 0, 0, []),
  (36, .invokevirtual 355, 3, 227, 0, 0, []),
  (39, .ifCond .eq 7, 3, 46, 0, 0, []),
  (42, .iconst 1, 1, 0, 1, 0, []),
  (43, .goto 4, 3, 47, 0, 0, []),
  (46, .iconst 0, 1, 0, 0, 0, []),
  (47, .ireturn, 1, 0, 0, 0, [])]
def mm_X12_can : mM := (12, yX12_can, cX12_can, 3, (some .int), 3, (7139, 7137, 7138, 1013, false), mo_X12_can)
def mo_X12_who : List mO := [
  (0, .iload_n 1, 1, 1, 0, 0, []),
  (1, .invokestatic 164, 3, 269, 0, 0, []),
  (4, .ifCond .ne 5, 3, 9, 0, 0, []),
  (7, .iconst (-1), 1, 0, (-1), 0, []),
  (8, .ireturn, 1, 0, 0, 0, []),
  (9, .aload_n 0, 1, 0, 0, 0, []),
  (10, .iload_n 1, 1, 1, 0, 0, []),
  (11, .invokevirtual 294, 3, 204, 0, 0, []),
  (14, .ifCond .ge 9, 3, 23, 0, 0, []),
  (17, .aload_n 0, 1, 0, 0, 0, []),
  (18, .iload_n 1, 1, 1, 0, 0, []),
  (19, .invokevirtual 294, 3, 204, 0, 0, []),
  (22, .ireturn, 1, 0, 0, 0, []),
  (23, .iconst 0, 1, 0, 0, 0, []),
  (24, .istore_n 2, 1, 2, 0, 0, []),
  (25, .iconst 0, 1, 0, 0, 0, []),
  (26, .istore_n 3, 1, 3, 0, 0, []),
  (27, .iload_n 3, 1, 3, 0, 0, []),
  (28, .aload_n 0, 1, 0, 0, 0, []),
  (29, .getfield 140, 3, 1201, 0, 0, []),
  (32, .if_icmp .ge 24, 3, 56, 0, 0, []),
  (35, .aload_n 0, 1, 0, 0, 0, []),
  (36, .iload_n 1, 1, 1, 0, 0, []),
  (37, .iload_n 3, 1, 3, 0, 0, []),
  (38, .invokevirtual 355, 3, 227, 0, 0, []),
  (41, .ifCond .eq 9, 3, 50, 0, 0, []),
  (44, .iload_n 2, 1, 2, 0, 0, []),
  (45, .iconst 1, 1, 0, 1, 0, []),
  (46, .iload_n 3, 1, 3, 0, 0, []),
  (47, .ishl, 1, 0, 0, 0, []),
  (48, .ior, 1, 0, 0, 0, []),
  (49, .istore_n 2, 1, 2, 0, 0, []),
  (50, .iinc 3 1, 3, 3, 1, 0, []),
  (53, .goto (-26), 3, 27, 0, 0, []),
  (56, .iload_n 2, 1, 2, 0, 0, []),
  (57, .ireturn, 1, 0, 0, 0, [])]
def mm_X12_who : mM := (12, yX12_who, cX12_who, 4, (some .int), 2, (7147, 7145, 7146, 1013, false), mo_X12_who)
def mo_X12_farOf : List mO := [
  (0, .iload_n 0, 1, 0, 0, 0, []),
  (1, .iconst 5, 1, 0, 5, 0, []),
  (2, .irem, 1, 0, 0, 0, []),
  (3, .iload_n 1, 1, 1, 0, 0, []),
  (4, .iconst 5, 1, 0, 5, 0, []),
  (5, .irem, 1, 0, 0, 0, []),
  (6, .isub, 1, 0, 0, 0, []),
  (7, .istore_n 2, 1, 2, 0, 0, []),
  (8, .iload_n 0, 1, 0, 0, 0, []),
  (9, .iconst 5, 1, 0, 5, 0, []),
  (10, .idiv, 1, 0, 0, 0, []),
  (11, .iload_n 1, 1, 1, 0, 0, []),
  (12, .iconst 5, 1, 0, 5, 0, []),
  (13, .idiv, 1, 0, 0, 0, []),
  (14, .isub, 1, 0, 0, 0, []),
  (15, .istore_n 3, 1, 3, 0, 0, []),
  (16, .iload_n 2, 1, 2, 0, 0, []),
  (17, .ifCond .ge 8, 3, 25, 0, 0, []),
  (20, .iload_n 2, 1, 2, 0, 0, []),
  (21, .ineg, 1, 0, 0, 0, []),
  (22, .goto 4, 3, 26, 0, 0, []),
  (25, .iload_n 2, 1, 2, 0, 0, []),
  (26, .iload_n 3, 1, 3, 0, 0, []),
  (27, .ifCond .ge 8, 3, 35, 0, 0, []),
  (30, .iload_n 3, 1, 3, 0, 0, []),
  (31, .ineg, 1, 0, 0, 0, []),
  (32, .goto 4, 3, 36, 0, 0, []),
  (35, .iload_n 3, 1, 3, 0, 0, []),
  (36, .iadd, 1, 0, 0, 0, []),
  (37, .ireturn, 1, 0, 0, 0, [])]
def mm_X12_farOf : mM := (12, yX12_farOf, cX12_farOf, 4, (some .int), 2, (7158, 7157, 0, 1013, true), mo_X12_farOf)
def mo_X12_goRound : List mO := [
  (0, .iload_n 3, 1, 3, 0, 0, []),
  (1, .aload_n 0, 1, 0, 0, 0, []),
  (2, .getfield 358, 3, 1243, 0, 0, []),
  (5, .if_icmp .ne 66, 3, 71, 0, 0, []),
  (8, .iload 5, 2, 5, 0, 0, []),
  (10, .iload_n 2, 1, 2, 0, 0, []),
  (11, .iload_n 1, 1, 1, 0, 0, []),
  (12, .invokestatic 361, 3, 230, 0, 0, []),
  (15, .iadd, 1, 0, 0, 0, []),
  (16, .istore 6, 2, 6, 0, 0, []),
  (18, .aload_n 0, 1, 0, 0, 0, []),
  (19, .getfield 364, 3, 1244, 0, 0, []),
  (22, .ifCond .lt 13, 3, 35, 0, 0, []),
  (25, .iload 6, 2, 6, 0, 0, []),
  (27, .aload_n 0, 1, 0, 0, 0, []),
  (28, .getfield 364, 3, 1244, 0, 0, []),
  (31, .if_icmp .lt 4, 3, 35, 0, 0, []),
  (34, .return_, 1, 0, 0, 0, []),
  (35, .aload_n 0, 1, 0, 0, 0, []),
  (36, .iload 6, 2, 6, 0, 0, []),
  (38, .putfield 364, 3, 1244, 0, 0, []),
  (41, .iconst 0, 1, 0, 0, 0, []),
  (42, .istore 7, 2, 7, 0, 0, []),
  (44, .iload 7, 2, 7, 0, 0, []),
  (46, .iload_n 3, 1, 3, 0, 0, []),
  (47, .if_icmp .ge 23, 3, 70, 0, 0, []),
  (50, .aload_n 0, 1, 0, 0, 0, []),
  (51, .getfield 96, 3, 1242, 0, 0, []),
  (54, .iload 7, 2, 7, 0, 0, []),
  (56, .aload_n 0, 1, 0, 0, 0, []),
  (57, .getfield 93, 3, 1241, 0, 0, []),
  (60, .iload 7, 2, 7, 0, 0, []),
  (62, .iaload, 1, 0, 0, 0, []),
  (63, .iastore, 1, 0, 0, 0, []),
  (64, .iinc 7 1, 3, 7, 1, 0, []),
  (67, .goto (-23), 3, 44, 0, 0, []),
  (70, .return_, 1, 0, 0, 0, []),
  (71, .iconst 0, 1, 0, 0, 0, []),
  (72, .istore 6, 2, 6, 0, 0, []),
  (74, .iload 6, 2, 6, 0, 0, []),
  (76, .bipush 25, 2, 0, 25, 0, []),
  (78, .if_icmp .ge 58, 3, 136, 0, 0, []),
  (81, .iload 4, 2, 4, 0, 0, []),
  (83, .iload 6, 2, 6, 0, 0, []),
  (85, .invokestatic 291, 3, 155, 0, 0, []),
  (88, .ifCond .ne 6, 3, 94, 0, 0, []),
  (91, .goto 39, 3, 130, 0, 0, []),
  (94, .aload_n 0, 1, 0, 0, 0, []),
  (95, .getfield 93, 3, 1241, 0, 0, []),
  (98, .iload_n 3, 1, 3, 0, 0, []),
  (99, .iload 6, 2, 6, 0, 0, []),
  (101, .iastore, 1, 0, 0, 0, []),
  (102, .aload_n 0, 1, 0, 0, 0, []),
  (103, .iload_n 1, 1, 1, 0, 0, []),
  (104, .iload 6, 2, 6, 0, 0, []),
  (106, .iload_n 3, 1, 3, 0, 0, []),
  (107, .iconst 1, 1, 0, 1, 0, []),
  (108, .iadd, 1, 0, 0, 0, []),
  (109, .iload 4, 2, 4, 0, 0, []),
  (111, .iconst 1, 1, 0, 1, 0, []),
  (112, .iload 6, 2, 6, 0, 0, []),
  (114, .ishl, 1, 0, 0, 0, []),
  (115, .iconst (-1), 1, 0, (-1), 0, []),
  (116, .ixor, 1, 0, 0, 0, []),
  (117, .iand, 1, 0, 0, 0, []),
  (118, .iload 5, 2, 5, 0, 0, []),
  (120, .iload_n 2, 1, 2, 0, 0, []),
  (121, .iload 6, 2, 6, 0, 0, []),
  (123, .invokestatic 361, 3, 230, 0, 0, []),
  (126, .iadd, 1, 0, 0, 0, []),
  (127, .invokevirtual 367, 3, 231, 0, 0, []),
  (130, .iinc 6 1, 3, 6, 1, 0, []),
  (133, .goto (-59), 3, 74, 0, 0, []),
  (136, .return_, 1, 0, 0, 0, [])]
def mm_X12_goRound : mM := (12, yX12_goRound, cX12_goRound, 8, none, 6, (7155, 7154, 79, 1013, false), mo_X12_goRound)
def mo_X12_feeds : List mO := [
  (0, .iload_n 1, 1, 1, 0, 0, []),
  (1, .invokestatic 150, 3, 157, 0, 0, []),
  (4, .ifCond .eq 8, 3, 12, 0, 0, []),
  (7, .iload_n 2, 1, 2, 0, 0, []),
  (8, .iconst (-1), 1, 0, (-1), 0, []),
  (9, .if_icmp .ge 5, 3, 14, 0, 0, []),
  (12, .iconst (-1), 1, 0, (-1), 0, []),
  (13, .ireturn, 1, 0, 0, 0, []),
  (14, .iconst 0, 1, 0, 0, 0, []),
  (15, .istore_n 3, 1, 3, 0, 0, []),
  (16, .iconst 0, 1, 0, 0, 0, []),
  (17, .istore 4, 2, 4, 0, 0, []),
  (19, .iload 4, 2, 4, 0, 0, []),
  (21, .aload_n 0, 1, 0, 0, 0, []),
  (22, .getfield 140, 3, 1201, 0, 0, []),
  (25, .if_icmp .ge 41, 3, 66, 0, 0, []),
  (28, .aload_n 0, 1, 0, 0, 0, []),
  (29, .iload 4, 2, 4, 0, 0, []),
  (31, .aload_n 0, 1, 0, 0, 0, []),
  (32, .getfield 9, 3, 1202, 0, 0, []),
  (35, .iload 4, 2, 4, 0, 0, []),
  (37, .iaload, 1, 0, 0, 0, []),
  (38, .aload_n 0, 1, 0, 0, 0, []),
  (39, .getfield 153, 3, 1214, 0, 0, []),
  (42, .invokevirtual 312, 3, 199, 0, 0, []),
  (45, .ifCond .eq 15, 3, 60, 0, 0, []),
  (48, .iload_n 3, 1, 3, 0, 0, []),
  (49, .iconst 1, 1, 0, 1, 0, []),
  (50, .aload_n 0, 1, 0, 0, 0, []),
  (51, .getfield 9, 3, 1202, 0, 0, []),
  (54, .iload 4, 2, 4, 0, 0, []),
  (56, .iaload, 1, 0, 0, 0, []),
  (57, .ishl, 1, 0, 0, 0, []),
  (58, .ior, 1, 0, 0, 0, []),
  (59, .istore_n 3, 1, 3, 0, 0, []),
  (60, .iinc 4 1, 3, 4, 1, 0, []),
  (63, .goto (-44), 3, 19, 0, 0, []),
  (66, .aload_n 0, 1, 0, 0, 0, []),
  (67, .iload_n 3, 1, 3, 0, 0, []),
  (68, .invokestatic 334, 3, 156, 0, 0, []),
  (71, .putfield 358, 3, 1243, 0, 0, []),
  (74, .aload_n 0, 1, 0, 0, 0, []),
  (75, .iconst (-1), 1, 0, (-1), 0, []),
  (76, .putfield 364, 3, 1244, 0, 0, []),
  (79, .aload_n 0, 1, 0, 0, 0, []),
  (80, .iload_n 1, 1, 1, 0, 0, []),
  (81, .iload_n 1, 1, 1, 0, 0, []),
  (82, .iconst 0, 1, 0, 0, 0, []),
  (83, .iload_n 3, 1, 3, 0, 0, []),
  (84, .iconst 0, 1, 0, 0, 0, []),
  (85, .invokevirtual 367, 3, 231, 0, 0, []),
  (88, .iload_n 2, 1, 2, 0, 0, []),
  (89, .ifCond .ge 10, 3, 99, 0, 0, []),
  (92, .aload_n 0, 1, 0, 0, 0, []),
  (93, .getfield 364, 3, 1244, 0, 0, []),
  (96, .goto 22, 3, 118, 0, 0, []),
  (99, .iload_n 2, 1, 2, 0, 0, []),
  (100, .aload_n 0, 1, 0, 0, 0, []),
  (101, .getfield 358, 3, 1243, 0, 0, []),
  (104, .if_icmp .ge 12, 3, 116, 0, 0, []),
  (107, .aload_n 0, 1, 0, 0, 0, []),
  (108, .getfield 96, 3, 1242, 0, 0, []),
  (111, .iload_n 2, 1, 2, 0, 0, []),
  (112, .iaload, 1, 0, 0, 0, []),
  (113, .goto 5, 3, 118, 0, 0, []),
  (116, .bipush (-2), 2, 0, (-2), 0, []),
  (118, .ireturn, 1, 0, 0, 0, [])]
def mm_X12_feeds : mM := (12, yX12_feeds, cX12_feeds, 5, (some .int), 3, (7151, 7149, 7150, 1013, false), mo_X12_feeds)
def mo_X12_goForgot : List mO := [
  (0, .iload_n 3, 1, 3, 0, 0, []),
  (1, .aload_n 0, 1, 0, 0, 0, []),
  (2, .getfield 143, 3, 1204, 0, 0, []),
  (5, .if_icmp .ne 42, 3, 47, 0, 0, []),
  (8, .aload_n 0, 1, 0, 0, 0, []),
  (9, .dup, 1, 0, 0, 0, []),
  (10, .getfield 370, 3, 1246, 0, 0, []),
  (13, .lconst 1, 1, 0, 0, 1, []),
  (14, .ladd, 1, 0, 0, 0, []),
  (15, .putfield 370, 3, 1246, 0, 0, []),
  (18, .aload_n 0, 1, 0, 0, 0, []),
  (19, .iload_n 1, 1, 1, 0, 0, []),
  (20, .aload_n 0, 1, 0, 0, 0, []),
  (21, .getfield 9, 3, 1202, 0, 0, []),
  (24, .iload_n 1, 1, 1, 0, 0, []),
  (25, .iaload, 1, 0, 0, 0, []),
  (26, .aload_n 0, 1, 0, 0, 0, []),
  (27, .getfield 153, 3, 1214, 0, 0, []),
  (30, .invokevirtual 312, 3, 199, 0, 0, []),
  (33, .ifCond .ne 13, 3, 46, 0, 0, []),
  (36, .aload_n 0, 1, 0, 0, 0, []),
  (37, .dup, 1, 0, 0, 0, []),
  (38, .getfield 374, 3, 1245, 0, 0, []),
  (41, .lconst 1, 1, 0, 0, 1, []),
  (42, .ladd, 1, 0, 0, 0, []),
  (43, .putfield 374, 3, 1245, 0, 0, []),
  (46, .return_, 1, 0, 0, 0, []),
  (47, .iload_n 2, 1, 2, 0, 0, []),
  (48, .iload_n 3, 1, 3, 0, 0, []),
  (49, .invokestatic 291, 3, 155, 0, 0, []),
  (52, .ifCond .ne 13, 3, 65, 0, 0, []),
  (55, .aload_n 0, 1, 0, 0, 0, []),
  (56, .iload_n 1, 1, 1, 0, 0, []),
  (57, .iload_n 2, 1, 2, 0, 0, []),
  (58, .iload_n 3, 1, 3, 0, 0, []),
  (59, .iconst 1, 1, 0, 1, 0, []),
  (60, .iadd, 1, 0, 0, 0, []),
  (61, .invokevirtual 377, 3, 233, 0, 0, []),
  (64, .return_, 1, 0, 0, 0, []),
  (65, .aload_n 0, 1, 0, 0, 0, []),
  (66, .getfield 36, 3, 1211, 0, 0, []),
  (69, .iload_n 3, 1, 3, 0, 0, []),
  (70, .iaload, 1, 0, 0, 0, []),
  (71, .istore 4, 2, 4, 0, 0, []),
  (73, .aload_n 0, 1, 0, 0, 0, []),
  (74, .getfield 36, 3, 1211, 0, 0, []),
  (77, .iload_n 3, 1, 3, 0, 0, []),
  (78, .iconst 0, 1, 0, 0, 0, []),
  (79, .iastore, 1, 0, 0, 0, []),
  (80, .aload_n 0, 1, 0, 0, 0, []),
  (81, .iload_n 1, 1, 1, 0, 0, []),
  (82, .iload_n 2, 1, 2, 0, 0, []),
  (83, .iload_n 3, 1, 3, 0, 0, []),
  (84, .iconst 1, 1, 0, 1, 0, []),
  (85, .iadd, 1, 0, 0, 0, []),
  (86, .invokevirtual 377, 3, 233, 0, 0, []),
  (89, .aload_n 0, 1, 0, 0, 0, []),
  (90, .getfield 36, 3, 1211, 0, 0, []),
  (93, .iload_n 3, 1, 3, 0, 0, []),
  (94, .iconst 1, 1, 0, 1, 0, []),
  (95, .iastore, 1, 0, 0, 0, []),
  (96, .aload_n 0, 1, 0, 0, 0, []),
  (97, .iload_n 1, 1, 1, 0, 0, []),
  (98, .iload_n 2, 1, 2, 0, 0, []),
  (99, .iload_n 3, 1, 3, 0, 0, []),
  (100, .iconst 1, 1, 0, 1, 0, []),
  (101, .iadd, 1, 0, 0, 0, []),
  (102, .invokevirtual 377, 3, 233, 0, 0, []),
  (105, .aload_n 0, 1, 0, 0, 0, []),
  (106, .getfield 36, 3, 1211, 0, 0, []),
  (109, .iload_n 3, 1, 3, 0, 0, []),
  (110, .iload 4, 2, 4, 0, 0, []),
  (112, .iastore, 1, 0, 0, 0, []),
  (113, .return_, 1, 0, 0, 0, [])]
def mm_X12_goForgot : mM := (12, yX12_goForgot, cX12_goForgot, 5, none, 4, (7167, 7166, 80, 1013, false), mo_X12_goForgot)
def mo_X12_lowest : List mO := [
  (0, .lload_n 0, 1, 0, 0, 0, []),
  (1, .lconst 0, 1, 0, 0, 0, []),
  (2, .lcmp, 1, 0, 0, 0, []),
  (3, .ifCond .ne 7, 3, 10, 0, 0, []),
  (6, .iload 4, 2, 4, 0, 0, []),
  (8, .i2l, 1, 0, 0, 0, []),
  (9, .lreturn, 1, 0, 0, 0, []),
  (10, .lload_n 0, 1, 0, 0, 0, []),
  (11, .lstore 5, 2, 5, 0, 0, []),
  (13, .lload_n 2, 1, 2, 0, 0, []),
  (14, .lstore 7, 2, 7, 0, 0, []),
  (16, .lload 7, 2, 7, 0, 0, []),
  (18, .lconst 0, 1, 0, 0, 0, []),
  (19, .lcmp, 1, 0, 0, 0, []),
  (20, .ifCond .eq 21, 3, 41, 0, 0, []),
  (23, .lload 5, 2, 5, 0, 0, []),
  (25, .lload 7, 2, 7, 0, 0, []),
  (27, .lrem, 1, 0, 0, 0, []),
  (28, .lstore 9, 2, 9, 0, 0, []),
  (30, .lload 7, 2, 7, 0, 0, []),
  (32, .lstore 5, 2, 5, 0, 0, []),
  (34, .lload 9, 2, 9, 0, 0, []),
  (36, .lstore 7, 2, 7, 0, 0, []),
  (38, .goto (-22), 3, 16, 0, 0, []),
  (41, .iload 4, 2, 4, 0, 0, []),
  (43, .ifCond .ne 10, 3, 53, 0, 0, []),
  (46, .lload_n 0, 1, 0, 0, 0, []),
  (47, .lload 5, 2, 5, 0, 0, []),
  (49, .ldiv, 1, 0, 0, 0, []),
  (50, .goto 7, 3, 57, 0, 0, []),
  (53, .lload_n 2, 1, 2, 0, 0, []),
  (54, .lload 5, 2, 5, 0, 0, []),
  (56, .ldiv, 1, 0, 0, 0, []),
  (57, .lreturn, 1, 0, 0, 0, [])]
def mm_X12_lowest : mM := (12, yX12_lowest, cX12_lowest, 11, (some .long), 3, (7170, 7169, 0, 1013, true), mo_X12_lowest)
def mo_X12_odds : List mO := [
  (0, .aload_n 0, 1, 0, 0, 0, []),
  (1, .iload_n 1, 1, 1, 0, 0, []),
  (2, .invokevirtual 146, 3, 158, 0, 0, []),
  (5, .ifCond .eq 12, 3, 17, 0, 0, []),
  (8, .iload_n 2, 1, 2, 0, 0, []),
  (9, .iconst 0, 1, 0, 0, 0, []),
  (10, .iconst 1, 1, 0, 1, 0, []),
  (11, .invokestatic 136, 3, 154, 0, 0, []),
  (14, .ifCond .ne 7, 3, 21, 0, 0, []),
  (17, .ldc2_w 380, 3, 7163, 0, (-9223372036854775808), []),
  (20, .lreturn, 1, 0, 0, 0, []),
  (21, .aload_n 0, 1, 0, 0, 0, []),
  (22, .lconst 0, 1, 0, 0, 0, []),
  (23, .putfield 374, 3, 1245, 0, 0, []),
  (26, .aload_n 0, 1, 0, 0, 0, []),
  (27, .lconst 0, 1, 0, 0, 0, []),
  (28, .putfield 370, 3, 1246, 0, 0, []),
  (31, .aload_n 0, 1, 0, 0, 0, []),
  (32, .iload_n 1, 1, 1, 0, 0, []),
  (33, .aload_n 0, 1, 0, 0, 0, []),
  (34, .iload_n 1, 1, 1, 0, 0, []),
  (35, .invokevirtual 331, 3, 215, 0, 0, []),
  (38, .iconst 0, 1, 0, 0, 0, []),
  (39, .invokevirtual 377, 3, 233, 0, 0, []),
  (42, .aload_n 0, 1, 0, 0, 0, []),
  (43, .getfield 374, 3, 1245, 0, 0, []),
  (46, .aload_n 0, 1, 0, 0, 0, []),
  (47, .getfield 370, 3, 1246, 0, 0, []),
  (50, .iload_n 2, 1, 2, 0, 0, []),
  (51, .invokestatic 382, 3, 234, 0, 0, []),
  (54, .lreturn, 1, 0, 0, 0, [])]
def mm_X12_odds : mM := (12, yX12_odds, cX12_odds, 3, (some .long), 3, (7162, 7160, 7161, 1013, false), mo_X12_odds)
def mo_X12_rued : List mO := [
  (0, .aload_n 0, 1, 0, 0, 0, []),
  (1, .iload_n 1, 1, 1, 0, 0, []),
  (2, .invokevirtual 146, 3, 158, 0, 0, []),
  (5, .ifCond .eq 13, 3, 18, 0, 0, []),
  (8, .iload_n 2, 1, 2, 0, 0, []),
  (9, .iconst 0, 1, 0, 0, 0, []),
  (10, .bipush 8, 2, 0, 8, 0, []),
  (12, .invokestatic 136, 3, 154, 0, 0, []),
  (15, .ifCond .ne 5, 3, 20, 0, 0, []),
  (18, .iconst (-1), 1, 0, (-1), 0, []),
  (19, .ireturn, 1, 0, 0, 0, []),
  (20, .iconst 0, 1, 0, 0, 0, []),
  (21, .istore_n 3, 1, 3, 0, 0, []),
  (22, .iconst 1, 1, 0, 1, 0, []),
  (23, .aload_n 0, 1, 0, 0, 0, []),
  (24, .getfield 9, 3, 1202, 0, 0, []),
  (27, .iload_n 1, 1, 1, 0, 0, []),
  (28, .iaload, 1, 0, 0, 0, []),
  (29, .ishl, 1, 0, 0, 0, []),
  (30, .istore 4, 2, 4, 0, 0, []),
  (32, .iconst 0, 1, 0, 0, 0, []),
  (33, .istore 5, 2, 5, 0, 0, []),
  (35, .iload 5, 2, 5, 0, 0, []),
  (37, .iload_n 2, 1, 2, 0, 0, []),
  (38, .if_icmp .gt 66, 3, 104, 0, 0, []),
  (41, .iconst 0, 1, 0, 0, 0, []),
  (42, .istore 6, 2, 6, 0, 0, []),
  (44, .iload 6, 2, 6, 0, 0, []),
  (46, .bipush 25, 2, 0, 25, 0, []),
  (48, .if_icmp .ge 35, 3, 83, 0, 0, []),
  (51, .iload 4, 2, 4, 0, 0, []),
  (53, .iload 6, 2, 6, 0, 0, []),
  (55, .invokestatic 291, 3, 155, 0, 0, []),
  (58, .ifCond .eq 19, 3, 77, 0, 0, []),
  (61, .iload_n 3, 1, 3, 0, 0, []),
  (62, .aload_n 0, 1, 0, 0, 0, []),
  (63, .iload_n 1, 1, 1, 0, 0, []),
  (64, .iload 6, 2, 6, 0, 0, []),
  (66, .aload_n 0, 1, 0, 0, 0, []),
  (67, .iload 5, 2, 5, 0, 0, []),
  (69, .invokevirtual 309, 3, 203, 0, 0, []),
  (72, .invokevirtual 303, 3, 207, 0, 0, []),
  (75, .ior, 1, 0, 0, 0, []),
  (76, .istore_n 3, 1, 3, 0, 0, []),
  (77, .iinc 6 1, 3, 6, 1, 0, []),
  (80, .goto (-36), 3, 44, 0, 0, []),
  (83, .aload_n 0, 1, 0, 0, 0, []),
  (84, .iload_n 1, 1, 1, 0, 0, []),
  (85, .iload 4, 2, 4, 0, 0, []),
  (87, .aload_n 0, 1, 0, 0, 0, []),
  (88, .iload 5, 2, 5, 0, 0, []),
  (90, .invokevirtual 309, 3, 203, 0, 0, []),
  (93, .invokevirtual 328, 3, 212, 0, 0, []),
  (96, .istore 4, 2, 4, 0, 0, []),
  (98, .iinc 5 1, 3, 5, 1, 0, []),
  (101, .goto (-66), 3, 35, 0, 0, []),
  (104, .iconst 0, 1, 0, 0, 0, []),
  (105, .istore 5, 2, 5, 0, 0, []),
  (107, .iconst 0, 1, 0, 0, 0, []),
  (108, .istore 6, 2, 6, 0, 0, []),
  (110, .iload 6, 2, 6, 0, 0, []),
  (112, .aload_n 0, 1, 0, 0, 0, []),
  (113, .getfield 143, 3, 1204, 0, 0, []),
  (116, .if_icmp .ge 48, 3, 164, 0, 0, []),
  (119, .aload_n 0, 1, 0, 0, 0, []),
  (120, .getfield 18, 3, 1205, 0, 0, []),
  (123, .iload 6, 2, 6, 0, 0, []),
  (125, .iaload, 1, 0, 0, 0, []),
  (126, .iload_n 1, 1, 1, 0, 0, []),
  (127, .if_icmp .ne 31, 3, 158, 0, 0, []),
  (130, .aload_n 0, 1, 0, 0, 0, []),
  (131, .getfield 39, 3, 1212, 0, 0, []),
  (134, .iload 6, 2, 6, 0, 0, []),
  (136, .iaload, 1, 0, 0, 0, []),
  (137, .ifCond .ne 21, 3, 158, 0, 0, []),
  (140, .iload_n 3, 1, 3, 0, 0, []),
  (141, .iload 6, 2, 6, 0, 0, []),
  (143, .invokestatic 291, 3, 155, 0, 0, []),
  (146, .ifCond .ne 12, 3, 158, 0, 0, []),
  (149, .iload 5, 2, 5, 0, 0, []),
  (151, .iconst 1, 1, 0, 1, 0, []),
  (152, .iload 6, 2, 6, 0, 0, []),
  (154, .ishl, 1, 0, 0, 0, []),
  (155, .ior, 1, 0, 0, 0, []),
  (156, .istore 5, 2, 5, 0, 0, []),
  (158, .iinc 6 1, 3, 6, 1, 0, []),
  (161, .goto (-51), 3, 110, 0, 0, []),
  (164, .iload 5, 2, 5, 0, 0, []),
  (166, .ireturn, 1, 0, 0, 0, [])]
def mm_X12_rued : mM := (12, yX12_rued, cX12_rued, 7, (some .int), 3, (7174, 7172, 7173, 1013, false), mo_X12_rued)
def mo_X12_leastToForget : List mO := [
  (0, .iconst 0, 1, 0, 0, 0, []),
  (1, .istore_n 1, 1, 1, 0, 0, []),
  (2, .iload_n 1, 1, 1, 0, 0, []),
  (3, .aload_n 0, 1, 0, 0, 0, []),
  (4, .getfield 143, 3, 1204, 0, 0, []),
  (7, .if_icmp .ge 33, 3, 40, 0, 0, []),
  (10, .aload_n 0, 1, 0, 0, 0, []),
  (11, .getfield 21, 3, 1206, 0, 0, []),
  (14, .iload_n 1, 1, 1, 0, 0, []),
  (15, .iaload, 1, 0, 0, 0, []),
  (16, .aload_n 0, 1, 0, 0, 0, []),
  (17, .getfield 386, 3, 1248, 0, 0, []),
  (20, .if_icmp .ne 14, 3, 34, 0, 0, []),
  (23, .aload_n 0, 1, 0, 0, 0, []),
  (24, .getfield 36, 3, 1211, 0, 0, []),
  (27, .iload_n 1, 1, 1, 0, 0, []),
  (28, .iaload, 1, 0, 0, 0, []),
  (29, .ifCond .ne 5, 3, 34, 0, 0, []),
  (32, .iload_n 1, 1, 1, 0, 0, []),
  (33, .ireturn, 1, 0, 0, 0, []),
  (34, .iinc 1 1, 3, 1, 1, 0, []),
  (37, .goto (-35), 3, 2, 0, 0, []),
  (40, .bipush (-2), 2, 0, (-2), 0, []),
  (42, .ireturn, 1, 0, 0, 0, [])]
def mm_X12_leastToForget : mM := (12, yX12_leastToForget, cX12_leastToForget, 2, (some .int), 1, (7194, 7193, 84, 1013, false), mo_X12_leastToForget)
def mo_X12_byStep : List mO := [
  (0, .aload_n 0, 1, 0, 0, 0, []),
  (1, .aload_n 0, 1, 0, 0, 0, []),
  (2, .getfield 389, 3, 1247, 0, 0, []),
  (5, .iload_n 2, 1, 2, 0, 0, []),
  (6, .aload_n 0, 1, 0, 0, 0, []),
  (7, .iload_n 3, 1, 3, 0, 0, []),
  (8, .invokevirtual 309, 3, 203, 0, 0, []),
  (11, .invokevirtual 312, 3, 199, 0, 0, []),
  (14, .ifCond .eq 7, 3, 21, 0, 0, []),
  (17, .iload_n 2, 1, 2, 0, 0, []),
  (18, .goto 8, 3, 26, 0, 0, []),
  (21, .iload_n 2, 1, 2, 0, 0, []),
  (22, .iload_n 1, 1, 1, 0, 0, []),
  (23, .invokestatic 315, 3, 202, 0, 0, []),
  (26, .istore 5, 2, 5, 0, 0, []),
  (28, .aload_n 0, 1, 0, 0, 0, []),
  (29, .iload 5, 2, 5, 0, 0, []),
  (31, .iload_n 3, 1, 3, 0, 0, []),
  (32, .iconst 1, 1, 0, 1, 0, []),
  (33, .iadd, 1, 0, 0, 0, []),
  (34, .iload 4, 2, 4, 0, 0, []),
  (36, .iconst 1, 1, 0, 1, 0, []),
  (37, .isub, 1, 0, 0, 0, []),
  (38, .invokevirtual 392, 3, 240, 0, 0, []),
  (41, .ireturn, 1, 0, 0, 0, [])]
def mm_X12_byStep : mM := (12, yX12_byStep, cX12_byStep, 6, (some .int), 5, (7186, 7185, 82, 1013, false), mo_X12_byStep)
def mo_X12_manBest : List mO := [
  (0, .iload_n 3, 1, 3, 0, 0, []),
  (1, .ifCond .ne 12, 3, 13, 0, 0, []),
  (4, .iload_n 1, 1, 1, 0, 0, []),
  (5, .aload_n 0, 1, 0, 0, 0, []),
  (6, .getfield 395, 3, 1249, 0, 0, []),
  (9, .invokestatic 361, 3, 230, 0, 0, []),
  (12, .ireturn, 1, 0, 0, 0, []),
  (13, .aload_n 0, 1, 0, 0, 0, []),
  (14, .iconst 4, 1, 0, 4, 0, []),
  (15, .iload_n 1, 1, 1, 0, 0, []),
  (16, .iload_n 2, 1, 2, 0, 0, []),
  (17, .iload_n 3, 1, 3, 0, 0, []),
  (18, .invokevirtual 398, 3, 238, 0, 0, []),
  (21, .istore 4, 2, 4, 0, 0, []),
  (23, .iconst 0, 1, 0, 0, 0, []),
  (24, .istore 5, 2, 5, 0, 0, []),
  (26, .iload 5, 2, 5, 0, 0, []),
  (28, .iconst 4, 1, 0, 4, 0, []),
  (29, .if_icmp .ge 31, 3, 60, 0, 0, []),
  (32, .aload_n 0, 1, 0, 0, 0, []),
  (33, .iload 5, 2, 5, 0, 0, []),
  (35, .iload_n 1, 1, 1, 0, 0, []),
  (36, .iload_n 2, 1, 2, 0, 0, []),
  (37, .iload_n 3, 1, 3, 0, 0, []),
  (38, .invokevirtual 398, 3, 238, 0, 0, []),
  (41, .istore 6, 2, 6, 0, 0, []),
  (43, .iload 6, 2, 6, 0, 0, []),
  (45, .iload 4, 2, 4, 0, 0, []),
  (47, .if_icmp .ge 7, 3, 54, 0, 0, []),
  (50, .iload 6, 2, 6, 0, 0, []),
  (52, .istore 4, 2, 4, 0, 0, []),
  (54, .iinc 5 1, 3, 5, 1, 0, []),
  (57, .goto (-31), 3, 26, 0, 0, []),
  (60, .iload 4, 2, 4, 0, 0, []),
  (62, .ireturn, 1, 0, 0, 0, [])]
def mm_X12_manBest : mM := (12, yX12_manBest, cX12_manBest, 7, (some .int), 4, (7182, 7181, 81, 1013, false), mo_X12_manBest)
def mo_X12_childBest : List mO := [
  (0, .iload_n 3, 1, 3, 0, 0, []),
  (1, .ifCond .ne 12, 3, 13, 0, 0, []),
  (4, .iload_n 1, 1, 1, 0, 0, []),
  (5, .aload_n 0, 1, 0, 0, 0, []),
  (6, .getfield 395, 3, 1249, 0, 0, []),
  (9, .invokestatic 361, 3, 230, 0, 0, []),
  (12, .ireturn, 1, 0, 0, 0, []),
  (13, .aload_n 0, 1, 0, 0, 0, []),
  (14, .iload_n 1, 1, 1, 0, 0, []),
  (15, .iload_n 2, 1, 2, 0, 0, []),
  (16, .iload_n 3, 1, 3, 0, 0, []),
  (17, .iconst 1, 1, 0, 1, 0, []),
  (18, .isub, 1, 0, 0, 0, []),
  (19, .invokevirtual 402, 3, 239, 0, 0, []),
  (22, .istore 4, 2, 4, 0, 0, []),
  (24, .aload_n 0, 1, 0, 0, 0, []),
  (25, .invokevirtual 405, 3, 237, 0, 0, []),
  (28, .istore 5, 2, 5, 0, 0, []),
  (30, .iload 5, 2, 5, 0, 0, []),
  (32, .ifCond .ge 6, 3, 38, 0, 0, []),
  (35, .iload 4, 2, 4, 0, 0, []),
  (37, .ireturn, 1, 0, 0, 0, []),
  (38, .aload_n 0, 1, 0, 0, 0, []),
  (39, .getfield 36, 3, 1211, 0, 0, []),
  (42, .iload 5, 2, 5, 0, 0, []),
  (44, .iconst 1, 1, 0, 1, 0, []),
  (45, .iastore, 1, 0, 0, 0, []),
  (46, .aload_n 0, 1, 0, 0, 0, []),
  (47, .iload_n 1, 1, 1, 0, 0, []),
  (48, .iload_n 2, 1, 2, 0, 0, []),
  (49, .iload_n 3, 1, 3, 0, 0, []),
  (50, .iconst 1, 1, 0, 1, 0, []),
  (51, .isub, 1, 0, 0, 0, []),
  (52, .invokevirtual 402, 3, 239, 0, 0, []),
  (55, .istore 6, 2, 6, 0, 0, []),
  (57, .aload_n 0, 1, 0, 0, 0, []),
  (58, .getfield 36, 3, 1211, 0, 0, []),
  (61, .iload 5, 2, 5, 0, 0, []),
  (63, .iconst 0, 1, 0, 0, 0, []),
  (64, .iastore, 1, 0, 0, 0, []),
  (65, .iload 6, 2, 6, 0, 0, []),
  (67, .iload 4, 2, 4, 0, 0, []),
  (69, .if_icmp .le 8, 3, 77, 0, 0, []),
  (72, .iload 6, 2, 6, 0, 0, []),
  (74, .goto 5, 3, 79, 0, 0, []),
  (77, .iload 4, 2, 4, 0, 0, []),
  (79, .ireturn, 1, 0, 0, 0, [])]
def mm_X12_childBest : mM := (12, yX12_childBest, cX12_childBest, 7, (some .int), 4, (7190, 7189, 83, 1013, false), mo_X12_childBest)
def mo_X12_byTurns : List mO := [
  (0, .iload_n 1, 1, 1, 0, 0, []),
  (1, .ifCond .lt 44, 3, 45, 0, 0, []),
  (4, .aload_n 0, 1, 0, 0, 0, []),
  (5, .iload_n 1, 1, 1, 0, 0, []),
  (6, .bipush 10, 2, 0, 10, 0, []),
  (8, .idiv, 1, 0, 0, 0, []),
  (9, .iload_n 1, 1, 1, 0, 0, []),
  (10, .bipush 10, 2, 0, 10, 0, []),
  (12, .irem, 1, 0, 0, 0, []),
  (13, .invokevirtual 156, 3, 160, 0, 0, []),
  (16, .ifCond .eq 29, 3, 45, 0, 0, []),
  (19, .iload_n 2, 1, 2, 0, 0, []),
  (20, .invokestatic 150, 3, 157, 0, 0, []),
  (23, .ifCond .eq 22, 3, 45, 0, 0, []),
  (26, .iload_n 3, 1, 3, 0, 0, []),
  (27, .iconst 1, 1, 0, 1, 0, []),
  (28, .iconst 5, 1, 0, 5, 0, []),
  (29, .invokestatic 136, 3, 154, 0, 0, []),
  (32, .ifCond .eq 13, 3, 45, 0, 0, []),
  (35, .iload 4, 2, 4, 0, 0, []),
  (37, .iconst 0, 1, 0, 0, 0, []),
  (38, .iconst 1, 1, 0, 1, 0, []),
  (39, .invokestatic 136, 3, 154, 0, 0, []),
  (42, .ifCond .ne 5, 3, 47, 0, 0, []),
  (45, .iconst (-1), 1, 0, (-1), 0, []),
  (46, .ireturn, 1, 0, 0, 0, []),
  (47, .aload_n 0, 1, 0, 0, 0, []),
  (48, .iload_n 1, 1, 1, 0, 0, []),
  (49, .bipush 10, 2, 0, 10, 0, []),
  (51, .idiv, 1, 0, 0, 0, []),
  (52, .putfield 389, 3, 1247, 0, 0, []),
  (55, .aload_n 0, 1, 0, 0, 0, []),
  (56, .iload_n 1, 1, 1, 0, 0, []),
  (57, .bipush 10, 2, 0, 10, 0, []),
  (59, .irem, 1, 0, 0, 0, []),
  (60, .putfield 386, 3, 1248, 0, 0, []),
  (63, .aload_n 0, 1, 0, 0, 0, []),
  (64, .iload_n 2, 1, 2, 0, 0, []),
  (65, .putfield 395, 3, 1249, 0, 0, []),
  (68, .aload_n 0, 1, 0, 0, 0, []),
  (69, .getfield 9, 3, 1202, 0, 0, []),
  (72, .aload_n 0, 1, 0, 0, 0, []),
  (73, .getfield 389, 3, 1247, 0, 0, []),
  (76, .iaload, 1, 0, 0, 0, []),
  (77, .istore 5, 2, 5, 0, 0, []),
  (79, .aload_n 0, 1, 0, 0, 0, []),
  (80, .iload 5, 2, 5, 0, 0, []),
  (82, .iconst 0, 1, 0, 0, 0, []),
  (83, .iload_n 3, 1, 3, 0, 0, []),
  (84, .invokevirtual 402, 3, 239, 0, 0, []),
  (87, .istore 6, 2, 6, 0, 0, []),
  (89, .iload 4, 2, 4, 0, 0, []),
  (91, .ifCond .ne 6, 3, 97, 0, 0, []),
  (94, .iload 6, 2, 6, 0, 0, []),
  (96, .ireturn, 1, 0, 0, 0, []),
  (97, .aload_n 0, 1, 0, 0, 0, []),
  (98, .iconst 4, 1, 0, 4, 0, []),
  (99, .iload 5, 2, 5, 0, 0, []),
  (101, .iconst 0, 1, 0, 0, 0, []),
  (102, .iload_n 3, 1, 3, 0, 0, []),
  (103, .invokevirtual 398, 3, 238, 0, 0, []),
  (106, .iload 6, 2, 6, 0, 0, []),
  (108, .if_icmp .ne 5, 3, 113, 0, 0, []),
  (111, .iconst 4, 1, 0, 4, 0, []),
  (112, .ireturn, 1, 0, 0, 0, []),
  (113, .iconst 0, 1, 0, 0, 0, []),
  (114, .istore 7, 2, 7, 0, 0, []),
  (116, .aload_n 0, 1, 0, 0, 0, []),
  (117, .iload 7, 2, 7, 0, 0, []),
  (119, .iload 5, 2, 5, 0, 0, []),
  (121, .iconst 0, 1, 0, 0, 0, []),
  (122, .iload_n 3, 1, 3, 0, 0, []),
  (123, .invokevirtual 398, 3, 238, 0, 0, []),
  (126, .iload 6, 2, 6, 0, 0, []),
  (128, .if_icmp .eq 9, 3, 137, 0, 0, []),
  (131, .iinc 7 1, 3, 7, 1, 0, []),
  (134, .goto (-18), 3, 116, 0, 0, []),
  (137, .iload 7, 2, 7, 0, 0, []),
  (139, .ireturn, 1, 0, 0, 0, [])]
def mm_X12_byTurns : mM := (12, yX12_byTurns, cX12_byTurns, 8, (some .int), 5, (7178, 7176, 7177, 1013, false), mo_X12_byTurns)
def mo_X12_drawn : List mO := [
  (0, .iload_n 2, 1, 2, 0, 0, []),
  (1, .ifCond .lt 51, 3, 52, 0, 0, []),
  (4, .iload_n 2, 1, 2, 0, 0, []),
  (5, .bipush 100, 2, 0, 100, 0, []),
  (7, .idiv, 1, 0, 0, 0, []),
  (8, .iconst 1, 1, 0, 1, 0, []),
  (9, .bipush 30, 2, 0, 30, 0, []),
  (11, .invokestatic 136, 3, 154, 0, 0, []),
  (14, .ifCond .eq 38, 3, 52, 0, 0, []),
  (17, .iload_n 2, 1, 2, 0, 0, []),
  (18, .bipush 100, 2, 0, 100, 0, []),
  (20, .irem, 1, 0, 0, 0, []),
  (21, .iconst 1, 1, 0, 1, 0, []),
  (22, .bipush 40, 2, 0, 40, 0, []),
  (24, .invokestatic 136, 3, 154, 0, 0, []),
  (27, .ifCond .eq 25, 3, 52, 0, 0, []),
  (30, .aload_n 0, 1, 0, 0, 0, []),
  (31, .iload_n 3, 1, 3, 0, 0, []),
  (32, .invokevirtual 146, 3, 158, 0, 0, []),
  (35, .ifCond .eq 17, 3, 52, 0, 0, []),
  (38, .iload 4, 2, 4, 0, 0, []),
  (40, .iconst (-1), 1, 0, (-1), 0, []),
  (41, .if_icmp .eq 13, 3, 54, 0, 0, []),
  (44, .iload 4, 2, 4, 0, 0, []),
  (46, .invokestatic 150, 3, 157, 0, 0, []),
  (49, .ifCond .ne 5, 3, 54, 0, 0, []),
  (52, .iconst (-1), 1, 0, (-1), 0, []),
  (53, .ireturn, 1, 0, 0, 0, []),
  (54, .iload_n 1, 1, 1, 0, 0, []),
  (55, .istore 5, 2, 5, 0, 0, []),
  (57, .iconst 0, 1, 0, 0, 0, []),
  (58, .istore 6, 2, 6, 0, 0, []),
  (60, .iconst 0, 1, 0, 0, 0, []),
  (61, .istore 7, 2, 7, 0, 0, []),
  (63, .iconst 0, 1, 0, 0, 0, []),
  (64, .istore 8, 2, 8, 0, 0, []),
  (66, .iload 8, 2, 8, 0, 0, []),
  (68, .iload_n 2, 1, 2, 0, 0, []),
  (69, .bipush 100, 2, 0, 100, 0, []),
  (71, .idiv, 1, 0, 0, 0, []),
  (72, .if_icmp .ge 93, 3, 165, 0, 0, []),
  (75, .aload_n 0, 1, 0, 0, 0, []),
  (76, .getfield 9, 3, 1202, 0, 0, []),
  (79, .iload_n 3, 1, 3, 0, 0, []),
  (80, .iaload, 1, 0, 0, 0, []),
  (81, .istore 9, 2, 9, 0, 0, []),
  (83, .iconst 0, 1, 0, 0, 0, []),
  (84, .istore 10, 2, 10, 0, 0, []),
  (86, .iload 10, 2, 10, 0, 0, []),
  (88, .iload_n 2, 1, 2, 0, 0, []),
  (89, .bipush 100, 2, 0, 100, 0, []),
  (91, .irem, 1, 0, 0, 0, []),
  (92, .if_icmp .ge 57, 3, 149, 0, 0, []),
  (95, .iload 5, 2, 5, 0, 0, []),
  (97, .ldc_w 408, 3, 7199, 1103515245, 0, []),
  (100, .imul, 1, 0, 0, 0, []),
  (101, .sipush 12345, 3, 0, 12345, 0, []),
  (104, .iadd, 1, 0, 0, 0, []),
  (105, .istore 5, 2, 5, 0, 0, []),
  (107, .aload_n 0, 1, 0, 0, 0, []),
  (108, .iload_n 3, 1, 3, 0, 0, []),
  (109, .iload 9, 2, 9, 0, 0, []),
  (111, .aload_n 0, 1, 0, 0, 0, []),
  (112, .iload 10, 2, 10, 0, 0, []),
  (114, .invokevirtual 309, 3, 203, 0, 0, []),
  (117, .invokevirtual 312, 3, 199, 0, 0, []),
  (120, .ifCond .eq 9, 3, 129, 0, 0, []),
  (123, .iinc 6 1, 3, 6, 1, 0, []),
  (126, .goto 17, 3, 143, 0, 0, []),
  (129, .iload 9, 2, 9, 0, 0, []),
  (131, .iload 5, 2, 5, 0, 0, []),
  (133, .bipush 8, 2, 0, 8, 0, []),
  (135, .iushr, 1, 0, 0, 0, []),
  (136, .iconst 5, 1, 0, 5, 0, []),
  (137, .irem, 1, 0, 0, 0, []),
  (138, .invokestatic 315, 3, 202, 0, 0, []),
  (141, .istore 9, 2, 9, 0, 0, []),
  (143, .iinc 10 1, 3, 10, 1, 0, []),
  (146, .goto (-60), 3, 86, 0, 0, []),
  (149, .iload 9, 2, 9, 0, 0, []),
  (151, .iload 4, 2, 4, 0, 0, []),
  (153, .if_icmp .ne 6, 3, 159, 0, 0, []),
  (156, .iinc 7 1, 3, 7, 1, 0, []),
  (159, .iinc 8 1, 3, 8, 1, 0, []),
  (162, .goto (-96), 3, 66, 0, 0, []),
  (165, .iload 4, 2, 4, 0, 0, []),
  (167, .ifCond .ge 8, 3, 175, 0, 0, []),
  (170, .iload 6, 2, 6, 0, 0, []),
  (172, .goto 5, 3, 177, 0, 0, []),
  (175, .iload 7, 2, 7, 0, 0, []),
  (177, .ireturn, 1, 0, 0, 0, [])]
def mm_X12_drawn : mM := (12, yX12_drawn, cX12_drawn, 11, (some .int), 5, (7198, 7196, 7197, 1013, false), mo_X12_drawn)
def mo_X12_step : List mO := [
  (0, .aload_n 0, 1, 0, 0, 0, []),
  (1, .iload_n 1, 1, 1, 0, 0, []),
  (2, .invokevirtual 146, 3, 158, 0, 0, []),
  (5, .ifCond .eq 12, 3, 17, 0, 0, []),
  (8, .iload_n 2, 1, 2, 0, 0, []),
  (9, .iconst 0, 1, 0, 0, 0, []),
  (10, .iconst 4, 1, 0, 4, 0, []),
  (11, .invokestatic 136, 3, 154, 0, 0, []),
  (14, .ifCond .ne 5, 3, 19, 0, 0, []),
  (17, .iconst (-1), 1, 0, (-1), 0, []),
  (18, .ireturn, 1, 0, 0, 0, []),
  (19, .aload_n 0, 1, 0, 0, 0, []),
  (20, .iload_n 1, 1, 1, 0, 0, []),
  (21, .aload_n 0, 1, 0, 0, 0, []),
  (22, .getfield 9, 3, 1202, 0, 0, []),
  (25, .iload_n 1, 1, 1, 0, 0, []),
  (26, .iaload, 1, 0, 0, 0, []),
  (27, .aload_n 0, 1, 0, 0, 0, []),
  (28, .getfield 153, 3, 1214, 0, 0, []),
  (31, .invokevirtual 312, 3, 199, 0, 0, []),
  (34, .ifCond .eq 20, 3, 54, 0, 0, []),
  (37, .aload_n 0, 1, 0, 0, 0, []),
  (38, .getfield 46, 3, 1215, 0, 0, []),
  (41, .iconst 2, 1, 0, 2, 0, []),
  (42, .dup2, 1, 0, 0, 0, []),
  (43, .iaload, 1, 0, 0, 0, []),
  (44, .iconst 1, 1, 0, 1, 0, []),
  (45, .iadd, 1, 0, 0, 0, []),
  (46, .iastore, 1, 0, 0, 0, []),
  (47, .aload_n 0, 1, 0, 0, 0, []),
  (48, .getfield 9, 3, 1202, 0, 0, []),
  (51, .iload_n 1, 1, 1, 0, 0, []),
  (52, .iaload, 1, 0, 0, 0, []),
  (53, .ireturn, 1, 0, 0, 0, []),
  (54, .aload_n 0, 1, 0, 0, 0, []),
  (55, .getfield 9, 3, 1202, 0, 0, []),
  (58, .iload_n 1, 1, 1, 0, 0, []),
  (59, .aload_n 0, 1, 0, 0, 0, []),
  (60, .getfield 9, 3, 1202, 0, 0, []),
  (63, .iload_n 1, 1, 1, 0, 0, []),
  (64, .iaload, 1, 0, 0, 0, []),
  (65, .iload_n 2, 1, 2, 0, 0, []),
  (66, .invokestatic 315, 3, 202, 0, 0, []),
  (69, .iastore, 1, 0, 0, 0, []),
  (70, .aload_n 0, 1, 0, 0, 0, []),
  (71, .getfield 46, 3, 1215, 0, 0, []),
  (74, .iconst 1, 1, 0, 1, 0, []),
  (75, .dup2, 1, 0, 0, 0, []),
  (76, .iaload, 1, 0, 0, 0, []),
  (77, .iconst 1, 1, 0, 1, 0, []),
  (78, .iadd, 1, 0, 0, 0, []),
  (79, .iastore, 1, 0, 0, 0, []),
  (80, .aload_n 0, 1, 0, 0, 0, []),
  (81, .getfield 9, 3, 1202, 0, 0, []),
  (84, .iload_n 1, 1, 1, 0, 0, []),
  (85, .iaload, 1, 0, 0, 0, []),
  (86, .ireturn, 1, 0, 0, 0, [])]
def mm_X12_step : mM := (12, yX12_step, cX12_step, 3, (some .int), 3, (7203, 7201, 7202, 1013, false), mo_X12_step)
def mo_X12_pull : List mO := [
  (0, .aload_n 0, 1, 0, 0, 0, []),
  (1, .iload_n 1, 1, 1, 0, 0, []),
  (2, .invokevirtual 183, 3, 159, 0, 0, []),
  (5, .ifCond .ne 5, 3, 10, 0, 0, []),
  (8, .iconst (-1), 1, 0, (-1), 0, []),
  (9, .ireturn, 1, 0, 0, 0, []),
  (10, .aload_n 0, 1, 0, 0, 0, []),
  (11, .getfield 18, 3, 1205, 0, 0, []),
  (14, .iload_n 1, 1, 1, 0, 0, []),
  (15, .iaload, 1, 0, 0, 0, []),
  (16, .istore_n 2, 1, 2, 0, 0, []),
  (17, .aload_n 0, 1, 0, 0, 0, []),
  (18, .iload_n 1, 1, 1, 0, 0, []),
  (19, .aload_n 0, 1, 0, 0, 0, []),
  (20, .getfield 9, 3, 1202, 0, 0, []),
  (23, .iload_n 2, 1, 2, 0, 0, []),
  (24, .iaload, 1, 0, 0, 0, []),
  (25, .aload_n 0, 1, 0, 0, 0, []),
  (26, .getfield 153, 3, 1214, 0, 0, []),
  (29, .invokevirtual 279, 3, 197, 0, 0, []),
  (32, .ifCond .eq 12, 3, 44, 0, 0, []),
  (35, .aload_n 0, 1, 0, 0, 0, []),
  (36, .getfield 15, 3, 1203, 0, 0, []),
  (39, .iload_n 2, 1, 2, 0, 0, []),
  (40, .iaload, 1, 0, 0, 0, []),
  (41, .ifCond .ne 6, 3, 47, 0, 0, []),
  (44, .bipush (-5), 2, 0, (-5), 0, []),
  (46, .ireturn, 1, 0, 0, 0, []),
  (47, .aload_n 0, 1, 0, 0, 0, []),
  (48, .getfield 39, 3, 1212, 0, 0, []),
  (51, .iload_n 1, 1, 1, 0, 0, []),
  (52, .iconst 1, 1, 0, 1, 0, []),
  (53, .iastore, 1, 0, 0, 0, []),
  (54, .aload_n 0, 1, 0, 0, 0, []),
  (55, .getfield 15, 3, 1203, 0, 0, []),
  (58, .iload_n 2, 1, 2, 0, 0, []),
  (59, .dup2, 1, 0, 0, 0, []),
  (60, .iaload, 1, 0, 0, 0, []),
  (61, .iconst 1, 1, 0, 1, 0, []),
  (62, .isub, 1, 0, 0, 0, []),
  (63, .iastore, 1, 0, 0, 0, []),
  (64, .aload_n 0, 1, 0, 0, 0, []),
  (65, .getfield 46, 3, 1215, 0, 0, []),
  (68, .iconst 3, 1, 0, 3, 0, []),
  (69, .dup2, 1, 0, 0, 0, []),
  (70, .iaload, 1, 0, 0, 0, []),
  (71, .iconst 1, 1, 0, 1, 0, []),
  (72, .iadd, 1, 0, 0, 0, []),
  (73, .iastore, 1, 0, 0, 0, []),
  (74, .aload_n 0, 1, 0, 0, 0, []),
  (75, .getfield 15, 3, 1203, 0, 0, []),
  (78, .iload_n 2, 1, 2, 0, 0, []),
  (79, .iaload, 1, 0, 0, 0, []),
  (80, .ireturn, 1, 0, 0, 0, [])]
def mm_X12_pull : mM := (12, yX12_pull, cX12_pull, 3, (some .int), 2, (7207, 7205, 7206, 1013, false), mo_X12_pull)
def mo_X12_letOff : List mO := [
  (0, .aload_n 0, 1, 0, 0, 0, []),
  (1, .iload_n 1, 1, 1, 0, 0, []),
  (2, .invokevirtual 183, 3, 159, 0, 0, []),
  (5, .ifCond .ne 5, 3, 10, 0, 0, []),
  (8, .iconst (-1), 1, 0, (-1), 0, []),
  (9, .ireturn, 1, 0, 0, 0, []),
  (10, .aload_n 0, 1, 0, 0, 0, []),
  (11, .getfield 39, 3, 1212, 0, 0, []),
  (14, .iload_n 1, 1, 1, 0, 0, []),
  (15, .iaload, 1, 0, 0, 0, []),
  (16, .iconst 1, 1, 0, 1, 0, []),
  (17, .if_icmp .ne 6, 3, 23, 0, 0, []),
  (20, .bipush (-5), 2, 0, (-5), 0, []),
  (22, .ireturn, 1, 0, 0, 0, []),
  (23, .aload_n 0, 1, 0, 0, 0, []),
  (24, .getfield 39, 3, 1212, 0, 0, []),
  (27, .iload_n 1, 1, 1, 0, 0, []),
  (28, .iconst 1, 1, 0, 1, 0, []),
  (29, .iastore, 1, 0, 0, 0, []),
  (30, .aload_n 0, 1, 0, 0, 0, []),
  (31, .getfield 46, 3, 1215, 0, 0, []),
  (34, .iconst 4, 1, 0, 4, 0, []),
  (35, .dup2, 1, 0, 0, 0, []),
  (36, .iaload, 1, 0, 0, 0, []),
  (37, .iconst 1, 1, 0, 1, 0, []),
  (38, .iadd, 1, 0, 0, 0, []),
  (39, .iastore, 1, 0, 0, 0, []),
  (40, .iconst 1, 1, 0, 1, 0, []),
  (41, .ireturn, 1, 0, 0, 0, [])]
def mm_X12_letOff : mM := (12, yX12_letOff, cX12_letOff, 2, (some .int), 2, (7211, 7209, 7210, 1013, false), mo_X12_letOff)
def mo_X12_forget : List mO := [
  (0, .aload_n 0, 1, 0, 0, 0, []),
  (1, .iload_n 1, 1, 1, 0, 0, []),
  (2, .invokevirtual 183, 3, 159, 0, 0, []),
  (5, .ifCond .ne 5, 3, 10, 0, 0, []),
  (8, .iconst (-1), 1, 0, (-1), 0, []),
  (9, .ireturn, 1, 0, 0, 0, []),
  (10, .aload_n 0, 1, 0, 0, 0, []),
  (11, .getfield 36, 3, 1211, 0, 0, []),
  (14, .iload_n 1, 1, 1, 0, 0, []),
  (15, .iaload, 1, 0, 0, 0, []),
  (16, .iconst 1, 1, 0, 1, 0, []),
  (17, .if_icmp .ne 6, 3, 23, 0, 0, []),
  (20, .bipush (-5), 2, 0, (-5), 0, []),
  (22, .ireturn, 1, 0, 0, 0, []),
  (23, .aload_n 0, 1, 0, 0, 0, []),
  (24, .getfield 36, 3, 1211, 0, 0, []),
  (27, .iload_n 1, 1, 1, 0, 0, []),
  (28, .iconst 1, 1, 0, 1, 0, []),
  (29, .iastore, 1, 0, 0, 0, []),
  (30, .iconst 1, 1, 0, 1, 0, []),
  (31, .ireturn, 1, 0, 0, 0, [])]
def mm_X12_forget : mM := (12, yX12_forget, cX12_forget, 2, (some .int), 2, (7215, 7213, 7214, 1013, false), mo_X12_forget)
def mo_X12_day : List mO := [
  (0, .aload_n 0, 1, 0, 0, 0, []),
  (1, .aload_n 0, 1, 0, 0, 0, []),
  (2, .iconst 1, 1, 0, 1, 0, []),
  (3, .invokevirtual 309, 3, 203, 0, 0, []),
  (6, .putfield 153, 3, 1214, 0, 0, []),
  (9, .aload_n 0, 1, 0, 0, 0, []),
  (10, .getfield 46, 3, 1215, 0, 0, []),
  (13, .iconst 5, 1, 0, 5, 0, []),
  (14, .dup2, 1, 0, 0, 0, []),
  (15, .iaload, 1, 0, 0, 0, []),
  (16, .iconst 1, 1, 0, 1, 0, []),
  (17, .iadd, 1, 0, 0, 0, []),
  (18, .iastore, 1, 0, 0, 0, []),
  (19, .aload_n 0, 1, 0, 0, 0, []),
  (20, .getfield 153, 3, 1214, 0, 0, []),
  (23, .ireturn, 1, 0, 0, 0, [])]
def mm_X12_day : mM := (12, yX12_day, cX12_day, 1, (some .int), 1, (7219, 7217, 7218, 1013, false), mo_X12_day)
def mo_X12_led : List mO := [
  (0, .iload_n 1, 1, 1, 0, 0, []),
  (1, .iconst 0, 1, 0, 0, 0, []),
  (2, .iconst 5, 1, 0, 5, 0, []),
  (3, .invokestatic 136, 3, 154, 0, 0, []),
  (6, .ifCond .eq 12, 3, 18, 0, 0, []),
  (9, .aload_n 0, 1, 0, 0, 0, []),
  (10, .getfield 46, 3, 1215, 0, 0, []),
  (13, .iload_n 1, 1, 1, 0, 0, []),
  (14, .iaload, 1, 0, 0, 0, []),
  (15, .goto 4, 3, 19, 0, 0, []),
  (18, .iconst (-1), 1, 0, (-1), 0, []),
  (19, .ireturn, 1, 0, 0, 0, [])]
def mm_X12_led : mM := (12, yX12_led, cX12_led, 2, (some .int), 2, (7223, 7221, 7222, 1013, false), mo_X12_led)
def mo_X12_image : List mO := [
  (0, .aload_n 0, 1, 0, 0, 0, []),
  (1, .iconst 1, 1, 0, 1, 0, []),
  (2, .putfield 409, 3, 1250, 0, 0, []),
  (5, .aload_n 0, 1, 0, 0, 0, []),
  (6, .aload_n 0, 1, 0, 0, 0, []),
  (7, .getfield 153, 3, 1214, 0, 0, []),
  (10, .putfield 412, 3, 1251, 0, 0, []),
  (13, .aload_n 0, 1, 0, 0, 0, []),
  (14, .aload_n 0, 1, 0, 0, 0, []),
  (15, .getfield 140, 3, 1201, 0, 0, []),
  (18, .putfield 415, 3, 1252, 0, 0, []),
  (21, .aload_n 0, 1, 0, 0, 0, []),
  (22, .aload_n 0, 1, 0, 0, 0, []),
  (23, .getfield 143, 3, 1204, 0, 0, []),
  (26, .putfield 418, 3, 1253, 0, 0, []),
  (29, .iconst 0, 1, 0, 0, 0, []),
  (30, .istore_n 1, 1, 1, 0, 0, []),
  (31, .iload_n 1, 1, 1, 0, 0, []),
  (32, .aload_n 0, 1, 0, 0, 0, []),
  (33, .getfield 140, 3, 1201, 0, 0, []),
  (36, .if_icmp .ge 33, 3, 69, 0, 0, []),
  (39, .aload_n 0, 1, 0, 0, 0, []),
  (40, .getfield 99, 3, 1254, 0, 0, []),
  (43, .iload_n 1, 1, 1, 0, 0, []),
  (44, .aload_n 0, 1, 0, 0, 0, []),
  (45, .getfield 9, 3, 1202, 0, 0, []),
  (48, .iload_n 1, 1, 1, 0, 0, []),
  (49, .iaload, 1, 0, 0, 0, []),
  (50, .iastore, 1, 0, 0, 0, []),
  (51, .aload_n 0, 1, 0, 0, 0, []),
  (52, .getfield 102, 3, 1255, 0, 0, []),
  (55, .iload_n 1, 1, 1, 0, 0, []),
  (56, .aload_n 0, 1, 0, 0, 0, []),
  (57, .getfield 15, 3, 1203, 0, 0, []),
  (60, .iload_n 1, 1, 1, 0, 0, []),
  (61, .iaload, 1, 0, 0, 0, []),
  (62, .iastore, 1, 0, 0, 0, []),
  (63, .iinc 1 1, 3, 1, 1, 0, []),
  (66, .goto (-35), 3, 31, 0, 0, []),
  (69, .iconst 0, 1, 0, 0, 0, []),
  (70, .istore_n 1, 1, 1, 0, 0, []),
  (71, .iload_n 1, 1, 1, 0, 0, []),
  (72, .aload_n 0, 1, 0, 0, 0, []),
  (73, .getfield 143, 3, 1204, 0, 0, []),
  (76, .if_icmp .ge 33, 3, 109, 0, 0, []),
  (79, .aload_n 0, 1, 0, 0, 0, []),
  (80, .getfield 105, 3, 1256, 0, 0, []),
  (83, .iload_n 1, 1, 1, 0, 0, []),
  (84, .aload_n 0, 1, 0, 0, 0, []),
  (85, .getfield 36, 3, 1211, 0, 0, []),
  (88, .iload_n 1, 1, 1, 0, 0, []),
  (89, .iaload, 1, 0, 0, 0, []),
  (90, .iastore, 1, 0, 0, 0, []),
  (91, .aload_n 0, 1, 0, 0, 0, []),
  (92, .getfield 108, 3, 1257, 0, 0, []),
  (95, .iload_n 1, 1, 1, 0, 0, []),
  (96, .aload_n 0, 1, 0, 0, 0, []),
  (97, .getfield 39, 3, 1212, 0, 0, []),
  (100, .iload_n 1, 1, 1, 0, 0, []),
  (101, .iaload, 1, 0, 0, 0, []),
  (102, .iastore, 1, 0, 0, 0, []),
  (103, .iinc 1 1, 3, 1, 1, 0, []),
  (106, .goto (-35), 3, 71, 0, 0, []),
  (109, .iconst 0, 1, 0, 0, 0, []),
  (110, .istore_n 1, 1, 1, 0, 0, []),
  (111, .iload_n 1, 1, 1, 0, 0, []),
  (112, .bipush 6, 2, 0, 6, 0, []),
  (114, .if_icmp .ge 21, 3, 135, 0, 0, []),
  (117, .aload_n 0, 1, 0, 0, 0, []),
  (118, .getfield 111, 3, 1258, 0, 0, []),
  (121, .iload_n 1, 1, 1, 0, 0, []),
  (122, .aload_n 0, 1, 0, 0, 0, []),
  (123, .getfield 46, 3, 1215, 0, 0, []),
  (126, .iload_n 1, 1, 1, 0, 0, []),
  (127, .iaload, 1, 0, 0, 0, []),
  (128, .iastore, 1, 0, 0, 0, []),
  (129, .iinc 1 1, 3, 1, 1, 0, []),
  (132, .goto (-21), 3, 111, 0, 0, []),
  (135, .aload_n 0, 1, 0, 0, 0, []),
  (136, .getfield 46, 3, 1215, 0, 0, []),
  (139, .iconst 5, 1, 0, 5, 0, []),
  (140, .iaload, 1, 0, 0, 0, []),
  (141, .ireturn, 1, 0, 0, 0, [])]
def mm_X12_image : mM := (12, yX12_image, cX12_image, 2, (some .int), 1, (7227, 7225, 7226, 1013, false), mo_X12_image)
def mo_X12_back : List mO := [
  (0, .aload_n 0, 1, 0, 0, 0, []),
  (1, .getfield 409, 3, 1250, 0, 0, []),
  (4, .ifCond .ne 6, 3, 10, 0, 0, []),
  (7, .bipush (-5), 2, 0, (-5), 0, []),
  (9, .ireturn, 1, 0, 0, 0, []),
  (10, .aload_n 0, 1, 0, 0, 0, []),
  (11, .aload_n 0, 1, 0, 0, 0, []),
  (12, .getfield 412, 3, 1251, 0, 0, []),
  (15, .putfield 153, 3, 1214, 0, 0, []),
  (18, .iconst 0, 1, 0, 0, 0, []),
  (19, .istore_n 1, 1, 1, 0, 0, []),
  (20, .iload_n 1, 1, 1, 0, 0, []),
  (21, .aload_n 0, 1, 0, 0, 0, []),
  (22, .getfield 415, 3, 1252, 0, 0, []),
  (25, .if_icmp .ge 33, 3, 58, 0, 0, []),
  (28, .aload_n 0, 1, 0, 0, 0, []),
  (29, .getfield 9, 3, 1202, 0, 0, []),
  (32, .iload_n 1, 1, 1, 0, 0, []),
  (33, .aload_n 0, 1, 0, 0, 0, []),
  (34, .getfield 99, 3, 1254, 0, 0, []),
  (37, .iload_n 1, 1, 1, 0, 0, []),
  (38, .iaload, 1, 0, 0, 0, []),
  (39, .iastore, 1, 0, 0, 0, []),
  (40, .aload_n 0, 1, 0, 0, 0, []),
  (41, .getfield 15, 3, 1203, 0, 0, []),
  (44, .iload_n 1, 1, 1, 0, 0, []),
  (45, .aload_n 0, 1, 0, 0, 0, []),
  (46, .getfield 102, 3, 1255, 0, 0, []),
  (49, .iload_n 1, 1, 1, 0, 0, []),
  (50, .iaload, 1, 0, 0, 0, []),
  (51, .iastore, 1, 0, 0, 0, []),
  (52, .iinc 1 1, 3, 1, 1, 0, []),
  (55, .goto (-35), 3, 20, 0, 0, []),
  (58, .iconst 0, 1, 0, 0, 0, []),
  (59, .istore_n 1, 1, 1, 0, 0, []),
  (60, .iload_n 1, 1, 1, 0, 0, []),
  (61, .aload_n 0, 1, 0, 0, 0, []),
  (62, .getfield 418, 3, 1253, 0, 0, []),
  (65, .if_icmp .ge 33, 3, 98, 0, 0, []),
  (68, .aload_n 0, 1, 0, 0, 0, []),
  (69, .getfield 36, 3, 1211, 0, 0, []),
  (72, .iload_n 1, 1, 1, 0, 0, []),
  (73, .aload_n 0, 1, 0, 0, 0, []),
  (74, .getfield 105, 3, 1256, 0, 0, []),
  (77, .iload_n 1, 1, 1, 0, 0, []),
  (78, .iaload, 1, 0, 0, 0, []),
  (79, .iastore, 1, 0, 0, 0, []),
  (80, .aload_n 0, 1, 0, 0, 0, []),
  (81, .getfield 39, 3, 1212, 0, 0, []),
  (84, .iload_n 1, 1, 1, 0, 0, []),
  (85, .aload_n 0, 1, 0, 0, 0, []),
  (86, .getfield 108, 3, 1257, 0, 0, []),
  (89, .iload_n 1, 1, 1, 0, 0, []),
  (90, .iaload, 1, 0, 0, 0, []),
  (91, .iastore, 1, 0, 0, 0, []),
  (92, .iinc 1 1, 3, 1, 1, 0, []),
  (95, .goto (-35), 3, 60, 0, 0, []),
  (98, .iconst 0, 1, 0, 0, 0, []),
  (99, .istore_n 1, 1, 1, 0, 0, []),
  (100, .iload_n 1, 1, 1, 0, 0, []),
  (101, .bipush 6, 2, 0, 6, 0, []),
  (103, .if_icmp .ge 21, 3, 124, 0, 0, []),
  (106, .aload_n 0, 1, 0, 0, 0, []),
  (107, .getfield 46, 3, 1215, 0, 0, []),
  (110, .iload_n 1, 1, 1, 0, 0, []),
  (111, .aload_n 0, 1, 0, 0, 0, []),
  (112, .getfield 111, 3, 1258, 0, 0, []),
  (115, .iload_n 1, 1, 1, 0, 0, []),
  (116, .iaload, 1, 0, 0, 0, []),
  (117, .iastore, 1, 0, 0, 0, []),
  (118, .iinc 1 1, 3, 1, 1, 0, []),
  (121, .goto (-21), 3, 100, 0, 0, []),
  (124, .aload_n 0, 1, 0, 0, 0, []),
  (125, .getfield 46, 3, 1215, 0, 0, []),
  (128, .iconst 5, 1, 0, 5, 0, []),
  (129, .iaload, 1, 0, 0, 0, []),
  (130, .ireturn, 1, 0, 0, 0, [])]
def mm_X12_back : mM := (12, yX12_back, cX12_back, 2, (some .int), 1, (7231, 7229, 7230, 1013, false), mo_X12_back)
def mo_X12_isBody : List mO := [
  (0, .iload_n 1, 1, 1, 0, 0, []),
  (1, .iconst 0, 1, 0, 0, 0, []),
  (2, .aload_n 0, 1, 0, 0, 0, []),
  (3, .getfield 421, 3, 1259, 0, 0, []),
  (6, .iconst 1, 1, 0, 1, 0, []),
  (7, .isub, 1, 0, 0, 0, []),
  (8, .invokestatic 136, 3, 154, 0, 0, []),
  (11, .ireturn, 1, 0, 0, 0, [])]
def mm_X12_isBody : mM := (12, yX12_isBody, cX12_isBody, 2, (some .boolean), 2, (8007, 8006, 85, 1013, false), mo_X12_isBody)
def mo_X12_ran : List mO := [
  (0, .aload_n 0, 1, 0, 0, 0, []),
  (1, .getfield 424, 3, 1261, 0, 0, []),
  (4, .bipush 24, 2, 0, 24, 0, []),
  (6, .if_icmp .ge 13, 3, 19, 0, 0, []),
  (9, .aload_n 0, 1, 0, 0, 0, []),
  (10, .getfield 117, 3, 1262, 0, 0, []),
  (13, .aload_n 0, 1, 0, 0, 0, []),
  (14, .getfield 424, 3, 1261, 0, 0, []),
  (17, .iload_n 1, 1, 1, 0, 0, []),
  (18, .iastore, 1, 0, 0, 0, []),
  (19, .aload_n 0, 1, 0, 0, 0, []),
  (20, .dup, 1, 0, 0, 0, []),
  (21, .getfield 424, 3, 1261, 0, 0, []),
  (24, .iconst 1, 1, 0, 1, 0, []),
  (25, .iadd, 1, 0, 0, 0, []),
  (26, .putfield 424, 3, 1261, 0, 0, []),
  (29, .return_, 1, 0, 0, 0, [])]
def mm_X12_ran : mM := (12, yX12_ran, cX12_ran, 2, none, 2, (8018, 8017, 87, 1013, false), mo_X12_ran)
def mo_X12_trace : List mO := [
  (0, .iload_n 1, 1, 1, 0, 0, []),
  (1, .ifCond .lt 26, 3, 27, 0, 0, []),
  (4, .iload_n 1, 1, 1, 0, 0, []),
  (5, .aload_n 0, 1, 0, 0, 0, []),
  (6, .getfield 424, 3, 1261, 0, 0, []),
  (9, .if_icmp .ge 18, 3, 27, 0, 0, []),
  (12, .iload_n 1, 1, 1, 0, 0, []),
  (13, .bipush 24, 2, 0, 24, 0, []),
  (15, .if_icmp .ge 12, 3, 27, 0, 0, []),
  (18, .aload_n 0, 1, 0, 0, 0, []),
  (19, .getfield 117, 3, 1262, 0, 0, []),
  (22, .iload_n 1, 1, 1, 0, 0, []),
  (23, .iaload, 1, 0, 0, 0, []),
  (24, .goto 4, 3, 28, 0, 0, []),
  (27, .iconst (-1), 1, 0, (-1), 0, []),
  (28, .ireturn, 1, 0, 0, 0, [])]
def mm_X12_trace : mM := (12, yX12_trace, cX12_trace, 2, (some .int), 2, (7235, 7233, 7234, 1013, false), mo_X12_trace)
def mo_X12_body : List mO := [
  (0, .iload_n 1, 1, 1, 0, 0, []),
  (1, .iconst 0, 1, 0, 0, 0, []),
  (2, .bipush 7, 2, 0, 7, 0, []),
  (4, .invokestatic 136, 3, 154, 0, 0, []),
  (7, .ifCond .ne 5, 3, 12, 0, 0, []),
  (10, .iconst (-1), 1, 0, (-1), 0, []),
  (11, .ireturn, 1, 0, 0, 0, []),
  (12, .aload_n 0, 1, 0, 0, 0, []),
  (13, .getfield 421, 3, 1259, 0, 0, []),
  (16, .bipush 50, 2, 0, 50, 0, []),
  (18, .if_icmp .ne 6, 3, 24, 0, 0, []),
  (21, .bipush (-3), 2, 0, (-3), 0, []),
  (23, .ireturn, 1, 0, 0, 0, []),
  (24, .aload_n 0, 1, 0, 0, 0, []),
  (25, .getfield 114, 3, 1260, 0, 0, []),
  (28, .aload_n 0, 1, 0, 0, 0, []),
  (29, .getfield 421, 3, 1259, 0, 0, []),
  (32, .iload_n 1, 1, 1, 0, 0, []),
  (33, .iastore, 1, 0, 0, 0, []),
  (34, .aload_n 0, 1, 0, 0, 0, []),
  (35, .dup, 1, 0, 0, 0, []),
  (36, .getfield 421, 3, 1259, 0, 0, []),
  (39, .iconst 1, 1, 0, 1, 0, []),
  (40, .iadd, 1, 0, 0, 0, []),
  (41, .putfield 421, 3, 1259, 0, 0, []),
  (44, .aload_n 0, 1, 0, 0, 0, []),
  (45, .getfield 421, 3, 1259, 0, 0, []),
  (48, .iconst 1, 1, 0, 1, 0, []),
  (49, .isub, 1, 0, 0, 0, []),
  (50, .ireturn, 1, 0, 0, 0, [])]
def mm_X12_body : mM := (12, yX12_body, cX12_body, 2, (some .int), 2, (7239, 7237, 7238, 1013, false), mo_X12_body)
def mo_X12_isUnder : List mO := [
  (0, .iload_n 1, 1, 1, 0, 0, []),
  (1, .ifCond .eq 55, 3, 56, 0, 0, []),
  (4, .iload_n 0, 1, 0, 0, 0, []),
  (5, .iload_n 1, 1, 1, 0, 0, []),
  (6, .if_icmp .eq 50, 3, 56, 0, 0, []),
  (9, .iload_n 1, 1, 1, 0, 0, []),
  (10, .iconst 1, 1, 0, 1, 0, []),
  (11, .if_icmp .ne 8, 3, 19, 0, 0, []),
  (14, .iload_n 0, 1, 0, 0, 0, []),
  (15, .iconst 4, 1, 0, 4, 0, []),
  (16, .if_icmp .eq 40, 3, 56, 0, 0, []),
  (19, .iload_n 1, 1, 1, 0, 0, []),
  (20, .iconst 2, 1, 0, 2, 0, []),
  (21, .if_icmp .ne 13, 3, 34, 0, 0, []),
  (24, .iload_n 0, 1, 0, 0, 0, []),
  (25, .iconst 3, 1, 0, 3, 0, []),
  (26, .if_icmp .eq 30, 3, 56, 0, 0, []),
  (29, .iload_n 0, 1, 0, 0, 0, []),
  (30, .iconst 5, 1, 0, 5, 0, []),
  (31, .if_icmp .eq 25, 3, 56, 0, 0, []),
  (34, .iload_n 1, 1, 1, 0, 0, []),
  (35, .iconst 3, 1, 0, 3, 0, []),
  (36, .if_icmp .ne 8, 3, 44, 0, 0, []),
  (39, .iload_n 0, 1, 0, 0, 0, []),
  (40, .iconst 5, 1, 0, 5, 0, []),
  (41, .if_icmp .eq 15, 3, 56, 0, 0, []),
  (44, .iload_n 1, 1, 1, 0, 0, []),
  (45, .bipush 6, 2, 0, 6, 0, []),
  (47, .if_icmp .ne 13, 3, 60, 0, 0, []),
  (50, .iload_n 0, 1, 0, 0, 0, []),
  (51, .bipush 7, 2, 0, 7, 0, []),
  (53, .if_icmp .ne 7, 3, 60, 0, 0, []),
  (56, .iconst 1, 1, 0, 1, 0, []),
  (57, .goto 4, 3, 61, 0, 0, []),
  (60, .iconst 0, 1, 0, 0, 0, []),
  (61, .ireturn, 1, 0, 0, 0, [])]
def mm_X12_isUnder : mM := (12, yX12_isUnder, cX12_isUnder, 2, (some .boolean), 2, (8014, 8013, 0, 1013, true), mo_X12_isUnder)
def mo_X12_plainHolds : List mO := [
  (0, .aload_n 0, 1, 0, 0, 0, []),
  (1, .iconst 1, 1, 0, 1, 0, []),
  (2, .invokevirtual 427, 3, 252, 0, 0, []),
  (5, .iload_n 2, 1, 2, 0, 0, []),
  (6, .iload_n 1, 1, 1, 0, 0, []),
  (7, .iadd, 1, 0, 0, 0, []),
  (8, .ireturn, 1, 0, 0, 0, [])]
def mm_X12_plainHolds : mM := (12, yX12_plainHolds, cX12_plainHolds, 3, (some .int), 3, (8022, 8021, 88, 1013, false), mo_X12_plainHolds)
def mo_X12_pittHolds : List mO := [
  (0, .aload_n 0, 1, 0, 0, 0, []),
  (1, .bipush 70, 2, 0, 70, 0, []),
  (3, .invokevirtual 427, 3, 252, 0, 0, []),
  (6, .aload_n 0, 1, 0, 0, 0, []),
  (7, .iload_n 1, 1, 1, 0, 0, []),
  (8, .iload_n 2, 1, 2, 0, 0, []),
  (9, .invokevirtual 431, 3, 256, 0, 0, []),
  (12, .iconst 2, 1, 0, 2, 0, []),
  (13, .imul, 1, 0, 0, 0, []),
  (14, .ireturn, 1, 0, 0, 0, [])]
def mm_X12_pittHolds : mM := (12, yX12_pittHolds, cX12_pittHolds, 3, (some .int), 3, (8026, 8025, 89, 1013, false), mo_X12_pittHolds)
def mo_X12_holding : List mO := [
  (0, .aload_n 0, 1, 0, 0, 0, []),
  (1, .getfield 114, 3, 1260, 0, 0, []),
  (4, .iload_n 1, 1, 1, 0, 0, []),
  (5, .iaload, 1, 0, 0, 0, []),
  (6, .iconst 1, 1, 0, 1, 0, []),
  (7, .invokestatic 434, 3, 255, 0, 0, []),
  (10, .ifCond .eq 18, 3, 28, 0, 0, []),
  (13, .aload_n 0, 1, 0, 0, 0, []),
  (14, .bipush 20, 2, 0, 20, 0, []),
  (16, .invokevirtual 427, 3, 252, 0, 0, []),
  (19, .aload_n 0, 1, 0, 0, 0, []),
  (20, .iload_n 1, 1, 1, 0, 0, []),
  (21, .iload_n 2, 1, 2, 0, 0, []),
  (22, .invokevirtual 431, 3, 256, 0, 0, []),
  (25, .iconst 3, 1, 0, 3, 0, []),
  (26, .iadd, 1, 0, 0, 0, []),
  (27, .ireturn, 1, 0, 0, 0, []),
  (28, .aload_n 0, 1, 0, 0, 0, []),
  (29, .getfield 114, 3, 1260, 0, 0, []),
  (32, .iload_n 1, 1, 1, 0, 0, []),
  (33, .iaload, 1, 0, 0, 0, []),
  (34, .bipush 7, 2, 0, 7, 0, []),
  (36, .if_icmp .ne 18, 3, 54, 0, 0, []),
  (39, .aload_n 0, 1, 0, 0, 0, []),
  (40, .bipush 81, 2, 0, 81, 0, []),
  (42, .invokevirtual 427, 3, 252, 0, 0, []),
  (45, .aload_n 0, 1, 0, 0, 0, []),
  (46, .iload_n 1, 1, 1, 0, 0, []),
  (47, .iload_n 2, 1, 2, 0, 0, []),
  (48, .invokevirtual 437, 3, 257, 0, 0, []),
  (51, .iconst 1, 1, 0, 1, 0, []),
  (52, .isub, 1, 0, 0, 0, []),
  (53, .ireturn, 1, 0, 0, 0, []),
  (54, .aload_n 0, 1, 0, 0, 0, []),
  (55, .getfield 114, 3, 1260, 0, 0, []),
  (58, .iload_n 1, 1, 1, 0, 0, []),
  (59, .iaload, 1, 0, 0, 0, []),
  (60, .bipush 6, 2, 0, 6, 0, []),
  (62, .if_icmp .ne 12, 3, 74, 0, 0, []),
  (65, .aload_n 0, 1, 0, 0, 0, []),
  (66, .iload_n 1, 1, 1, 0, 0, []),
  (67, .iload_n 2, 1, 2, 0, 0, []),
  (68, .invokevirtual 437, 3, 257, 0, 0, []),
  (71, .goto 9, 3, 80, 0, 0, []),
  (74, .aload_n 0, 1, 0, 0, 0, []),
  (75, .iload_n 1, 1, 1, 0, 0, []),
  (76, .iload_n 2, 1, 2, 0, 0, []),
  (77, .invokevirtual 431, 3, 256, 0, 0, []),
  (80, .ireturn, 1, 0, 0, 0, [])]
def mm_X12_holding : mM := (12, yX12_holding, cX12_holding, 3, (some .int), 3, (8011, 8010, 86, 1013, false), mo_X12_holding)
def mo_X12_plainPulls : List mO := [
  (0, .aload_n 0, 1, 0, 0, 0, []),
  (1, .bipush 10, 2, 0, 10, 0, []),
  (3, .invokevirtual 427, 3, 252, 0, 0, []),
  (6, .aload_n 0, 1, 0, 0, 0, []),
  (7, .iload_n 1, 1, 1, 0, 0, []),
  (8, .iload_n 2, 1, 2, 0, 0, []),
  (9, .invokevirtual 440, 3, 258, 0, 0, []),
  (12, .iconst 2, 1, 0, 2, 0, []),
  (13, .imul, 1, 0, 0, 0, []),
  (14, .ireturn, 1, 0, 0, 0, [])]
def mm_X12_plainPulls : mM := (12, yX12_plainPulls, cX12_plainPulls, 3, (some .int), 3, (8038, 8037, 92, 1013, false), mo_X12_plainPulls)
def mo_X12_lacePulls : List mO := [
  (0, .aload_n 0, 1, 0, 0, 0, []),
  (1, .bipush 30, 2, 0, 30, 0, []),
  (3, .invokevirtual 427, 3, 252, 0, 0, []),
  (6, .aload_n 0, 1, 0, 0, 0, []),
  (7, .iload_n 1, 1, 1, 0, 0, []),
  (8, .iload_n 2, 1, 2, 0, 0, []),
  (9, .invokevirtual 443, 3, 259, 0, 0, []),
  (12, .ineg, 1, 0, 0, 0, []),
  (13, .ireturn, 1, 0, 0, 0, [])]
def mm_X12_lacePulls : mM := (12, yX12_lacePulls, cX12_lacePulls, 3, (some .int), 3, (8034, 8033, 91, 1013, false), mo_X12_lacePulls)
def mo_X12_pulling : List mO := [
  (0, .aload_n 0, 1, 0, 0, 0, []),
  (1, .getfield 114, 3, 1260, 0, 0, []),
  (4, .iload_n 1, 1, 1, 0, 0, []),
  (5, .iaload, 1, 0, 0, 0, []),
  (6, .iconst 3, 1, 0, 3, 0, []),
  (7, .invokestatic 434, 3, 255, 0, 0, []),
  (10, .ifCond .eq 18, 3, 28, 0, 0, []),
  (13, .aload_n 0, 1, 0, 0, 0, []),
  (14, .bipush 41, 2, 0, 41, 0, []),
  (16, .invokevirtual 427, 3, 252, 0, 0, []),
  (19, .aload_n 0, 1, 0, 0, 0, []),
  (20, .iload_n 1, 1, 1, 0, 0, []),
  (21, .iload_n 2, 1, 2, 0, 0, []),
  (22, .iconst 1, 1, 0, 1, 0, []),
  (23, .iadd, 1, 0, 0, 0, []),
  (24, .invokevirtual 446, 3, 260, 0, 0, []),
  (27, .ireturn, 1, 0, 0, 0, []),
  (28, .aload_n 0, 1, 0, 0, 0, []),
  (29, .getfield 114, 3, 1260, 0, 0, []),
  (32, .iload_n 1, 1, 1, 0, 0, []),
  (33, .iaload, 1, 0, 0, 0, []),
  (34, .bipush 7, 2, 0, 7, 0, []),
  (36, .if_icmp .ne 25, 3, 61, 0, 0, []),
  (39, .aload_n 0, 1, 0, 0, 0, []),
  (40, .bipush 80, 2, 0, 80, 0, []),
  (42, .invokevirtual 427, 3, 252, 0, 0, []),
  (45, .aload_n 0, 1, 0, 0, 0, []),
  (46, .iload_n 1, 1, 1, 0, 0, []),
  (47, .iload_n 2, 1, 2, 0, 0, []),
  (48, .invokevirtual 443, 3, 259, 0, 0, []),
  (51, .istore_n 3, 1, 3, 0, 0, []),
  (52, .iload_n 3, 1, 3, 0, 0, []),
  (53, .aload_n 0, 1, 0, 0, 0, []),
  (54, .iload_n 1, 1, 1, 0, 0, []),
  (55, .iconst 2, 1, 0, 2, 0, []),
  (56, .invokevirtual 449, 3, 264, 0, 0, []),
  (59, .iadd, 1, 0, 0, 0, []),
  (60, .ireturn, 1, 0, 0, 0, []),
  (61, .aload_n 0, 1, 0, 0, 0, []),
  (62, .getfield 114, 3, 1260, 0, 0, []),
  (65, .iload_n 1, 1, 1, 0, 0, []),
  (66, .iaload, 1, 0, 0, 0, []),
  (67, .iconst 2, 1, 0, 2, 0, []),
  (68, .if_icmp .ne 12, 3, 80, 0, 0, []),
  (71, .aload_n 0, 1, 0, 0, 0, []),
  (72, .iload_n 1, 1, 1, 0, 0, []),
  (73, .iload_n 2, 1, 2, 0, 0, []),
  (74, .invokevirtual 446, 3, 260, 0, 0, []),
  (77, .goto 9, 3, 86, 0, 0, []),
  (80, .aload_n 0, 1, 0, 0, 0, []),
  (81, .iload_n 1, 1, 1, 0, 0, []),
  (82, .iload_n 2, 1, 2, 0, 0, []),
  (83, .invokevirtual 443, 3, 259, 0, 0, []),
  (86, .ireturn, 1, 0, 0, 0, [])]
def mm_X12_pulling : mM := (12, yX12_pulling, cX12_pulling, 4, (some .int), 3, (8030, 8029, 90, 1013, false), mo_X12_pulling)
def mo_X12_plainFrees : List mO := [
  (0, .aload_n 0, 1, 0, 0, 0, []),
  (1, .bipush 11, 2, 0, 11, 0, []),
  (3, .invokevirtual 427, 3, 252, 0, 0, []),
  (6, .iload_n 2, 1, 2, 0, 0, []),
  (7, .iload_n 1, 1, 1, 0, 0, []),
  (8, .ixor, 1, 0, 0, 0, []),
  (9, .ireturn, 1, 0, 0, 0, [])]
def mm_X12_plainFrees : mM := (12, yX12_plainFrees, cX12_plainFrees, 3, (some .int), 3, (8050, 8049, 95, 1013, false), mo_X12_plainFrees)
def mo_X12_heelFrees : List mO := [
  (0, .aload_n 0, 1, 0, 0, 0, []),
  (1, .bipush 40, 2, 0, 40, 0, []),
  (3, .invokevirtual 427, 3, 252, 0, 0, []),
  (6, .aload_n 0, 1, 0, 0, 0, []),
  (7, .iload_n 1, 1, 1, 0, 0, []),
  (8, .iload_n 2, 1, 2, 0, 0, []),
  (9, .invokevirtual 452, 3, 262, 0, 0, []),
  (12, .iconst 3, 1, 0, 3, 0, []),
  (13, .imul, 1, 0, 0, 0, []),
  (14, .ireturn, 1, 0, 0, 0, [])]
def mm_X12_heelFrees : mM := (12, yX12_heelFrees, cX12_heelFrees, 3, (some .int), 3, (8046, 8045, 94, 1013, false), mo_X12_heelFrees)
def mo_X12_freeing : List mO := [
  (0, .aload_n 0, 1, 0, 0, 0, []),
  (1, .getfield 114, 3, 1260, 0, 0, []),
  (4, .iload_n 1, 1, 1, 0, 0, []),
  (5, .iaload, 1, 0, 0, 0, []),
  (6, .iconst 5, 1, 0, 5, 0, []),
  (7, .if_icmp .ne 25, 3, 32, 0, 0, []),
  (10, .aload_n 0, 1, 0, 0, 0, []),
  (11, .bipush 60, 2, 0, 60, 0, []),
  (13, .invokevirtual 427, 3, 252, 0, 0, []),
  (16, .aload_n 0, 1, 0, 0, 0, []),
  (17, .iload_n 1, 1, 1, 0, 0, []),
  (18, .iload_n 2, 1, 2, 0, 0, []),
  (19, .invokevirtual 455, 3, 263, 0, 0, []),
  (22, .istore_n 3, 1, 3, 0, 0, []),
  (23, .iload_n 3, 1, 3, 0, 0, []),
  (24, .aload_n 0, 1, 0, 0, 0, []),
  (25, .iload_n 1, 1, 1, 0, 0, []),
  (26, .iconst 2, 1, 0, 2, 0, []),
  (27, .invokevirtual 440, 3, 258, 0, 0, []),
  (30, .isub, 1, 0, 0, 0, []),
  (31, .ireturn, 1, 0, 0, 0, []),
  (32, .aload_n 0, 1, 0, 0, 0, []),
  (33, .getfield 114, 3, 1260, 0, 0, []),
  (36, .iload_n 1, 1, 1, 0, 0, []),
  (37, .iaload, 1, 0, 0, 0, []),
  (38, .iconst 3, 1, 0, 3, 0, []),
  (39, .if_icmp .ne 12, 3, 51, 0, 0, []),
  (42, .aload_n 0, 1, 0, 0, 0, []),
  (43, .iload_n 1, 1, 1, 0, 0, []),
  (44, .iload_n 2, 1, 2, 0, 0, []),
  (45, .invokevirtual 455, 3, 263, 0, 0, []),
  (48, .goto 9, 3, 57, 0, 0, []),
  (51, .aload_n 0, 1, 0, 0, 0, []),
  (52, .iload_n 1, 1, 1, 0, 0, []),
  (53, .iload_n 2, 1, 2, 0, 0, []),
  (54, .invokevirtual 452, 3, 262, 0, 0, []),
  (57, .ireturn, 1, 0, 0, 0, [])]
def mm_X12_freeing : mM := (12, yX12_freeing, cX12_freeing, 4, (some .int), 3, (8042, 8041, 93, 1013, false), mo_X12_freeing)
def mo_X12_plainTells : List mO := [
  (0, .aload_n 0, 1, 0, 0, 0, []),
  (1, .iconst 2, 1, 0, 2, 0, []),
  (2, .invokevirtual 427, 3, 252, 0, 0, []),
  (5, .aload_n 0, 1, 0, 0, 0, []),
  (6, .iload_n 1, 1, 1, 0, 0, []),
  (7, .iload_n 2, 1, 2, 0, 0, []),
  (8, .invokevirtual 458, 3, 261, 0, 0, []),
  (11, .istore_n 3, 1, 3, 0, 0, []),
  (12, .iload_n 3, 1, 3, 0, 0, []),
  (13, .aload_n 0, 1, 0, 0, 0, []),
  (14, .iload_n 1, 1, 1, 0, 0, []),
  (15, .iconst 1, 1, 0, 1, 0, []),
  (16, .invokevirtual 449, 3, 264, 0, 0, []),
  (19, .isub, 1, 0, 0, 0, []),
  (20, .ireturn, 1, 0, 0, 0, [])]
def mm_X12_plainTells : mM := (12, yX12_plainTells, cX12_plainTells, 4, (some .int), 3, (8058, 8057, 97, 1013, false), mo_X12_plainTells)
def mo_X12_telling : List mO := [
  (0, .aload_n 0, 1, 0, 0, 0, []),
  (1, .getfield 114, 3, 1260, 0, 0, []),
  (4, .iload_n 1, 1, 1, 0, 0, []),
  (5, .iaload, 1, 0, 0, 0, []),
  (6, .iconst 4, 1, 0, 4, 0, []),
  (7, .if_icmp .ne 18, 3, 25, 0, 0, []),
  (10, .aload_n 0, 1, 0, 0, 0, []),
  (11, .bipush 50, 2, 0, 50, 0, []),
  (13, .invokevirtual 427, 3, 252, 0, 0, []),
  (16, .aload_n 0, 1, 0, 0, 0, []),
  (17, .iload_n 1, 1, 1, 0, 0, []),
  (18, .iload_n 2, 1, 2, 0, 0, []),
  (19, .invokevirtual 461, 3, 265, 0, 0, []),
  (22, .iconst 5, 1, 0, 5, 0, []),
  (23, .ixor, 1, 0, 0, 0, []),
  (24, .ireturn, 1, 0, 0, 0, []),
  (25, .aload_n 0, 1, 0, 0, 0, []),
  (26, .getfield 114, 3, 1260, 0, 0, []),
  (29, .iload_n 1, 1, 1, 0, 0, []),
  (30, .iaload, 1, 0, 0, 0, []),
  (31, .iconst 5, 1, 0, 5, 0, []),
  (32, .if_icmp .ne 18, 3, 50, 0, 0, []),
  (35, .aload_n 0, 1, 0, 0, 0, []),
  (36, .bipush 61, 2, 0, 61, 0, []),
  (38, .invokevirtual 427, 3, 252, 0, 0, []),
  (41, .aload_n 0, 1, 0, 0, 0, []),
  (42, .iload_n 1, 1, 1, 0, 0, []),
  (43, .iload_n 2, 1, 2, 0, 0, []),
  (44, .invokevirtual 461, 3, 265, 0, 0, []),
  (47, .iconst 1, 1, 0, 1, 0, []),
  (48, .iadd, 1, 0, 0, 0, []),
  (49, .ireturn, 1, 0, 0, 0, []),
  (50, .aload_n 0, 1, 0, 0, 0, []),
  (51, .iload_n 1, 1, 1, 0, 0, []),
  (52, .iload_n 2, 1, 2, 0, 0, []),
  (53, .invokevirtual 461, 3, 265, 0, 0, []),
  (56, .ireturn, 1, 0, 0, 0, [])]
def mm_X12_telling : mM := (12, yX12_telling, cX12_telling, 3, (some .int), 3, (8054, 8053, 96, 1013, false), mo_X12_telling)
def mo_X12_act : List mO := [
  (0, .aload_n 0, 1, 0, 0, 0, []),
  (1, .iconst 0, 1, 0, 0, 0, []),
  (2, .putfield 424, 3, 1261, 0, 0, []),
  (5, .aload_n 0, 1, 0, 0, 0, []),
  (6, .iload_n 1, 1, 1, 0, 0, []),
  (7, .invokevirtual 464, 3, 251, 0, 0, []),
  (10, .ifCond .eq 12, 3, 22, 0, 0, []),
  (13, .iload_n 2, 1, 2, 0, 0, []),
  (14, .iconst 0, 1, 0, 0, 0, []),
  (15, .iconst 3, 1, 0, 3, 0, []),
  (16, .invokestatic 136, 3, 154, 0, 0, []),
  (19, .ifCond .ne 5, 3, 24, 0, 0, []),
  (22, .iconst 0, 1, 0, 0, 0, []),
  (23, .ireturn, 1, 0, 0, 0, []),
  (24, .iload_n 2, 1, 2, 0, 0, []),
  (25, .ifCond .ne 12, 3, 37, 0, 0, []),
  (28, .aload_n 0, 1, 0, 0, 0, []),
  (29, .iload_n 1, 1, 1, 0, 0, []),
  (30, .iload_n 3, 1, 3, 0, 0, []),
  (31, .invokevirtual 440, 3, 258, 0, 0, []),
  (34, .goto 37, 3, 71, 0, 0, []),
  (37, .iload_n 2, 1, 2, 0, 0, []),
  (38, .iconst 1, 1, 0, 1, 0, []),
  (39, .if_icmp .ne 12, 3, 51, 0, 0, []),
  (42, .aload_n 0, 1, 0, 0, 0, []),
  (43, .iload_n 1, 1, 1, 0, 0, []),
  (44, .iload_n 3, 1, 3, 0, 0, []),
  (45, .invokevirtual 458, 3, 261, 0, 0, []),
  (48, .goto 23, 3, 71, 0, 0, []),
  (51, .iload_n 2, 1, 2, 0, 0, []),
  (52, .iconst 2, 1, 0, 2, 0, []),
  (53, .if_icmp .ne 12, 3, 65, 0, 0, []),
  (56, .aload_n 0, 1, 0, 0, 0, []),
  (57, .iload_n 1, 1, 1, 0, 0, []),
  (58, .iload_n 3, 1, 3, 0, 0, []),
  (59, .invokevirtual 449, 3, 264, 0, 0, []),
  (62, .goto 9, 3, 71, 0, 0, []),
  (65, .aload_n 0, 1, 0, 0, 0, []),
  (66, .iload_n 1, 1, 1, 0, 0, []),
  (67, .iload_n 3, 1, 3, 0, 0, []),
  (68, .invokevirtual 467, 3, 266, 0, 0, []),
  (71, .ireturn, 1, 0, 0, 0, [])]
def mm_X12_act : mM := (12, yX12_act, cX12_act, 4, (some .int), 4, (8003, 8001, 8002, 1013, false), mo_X12_act)
def mo_X12_count : List mO := [
  (0, .iload_n 1, 1, 1, 0, 0, []),
  (1, .tableswitch 69 0 5 #[39, 44, 49, 54, 59, 64], 39, 70, 0, 0, [(0, 40), (1, 45), (2, 50), (3, 55), (4, 60), (5, 65)]),
  (40, .aload_n 0, 1, 0, 0, 0, []),
  (41, .getfield 140, 3, 1201, 0, 0, []),
  (44, .ireturn, 1, 0, 0, 0, []),
  (45, .aload_n 0, 1, 0, 0, 0, []),
  (46, .getfield 143, 3, 1204, 0, 0, []),
  (49, .ireturn, 1, 0, 0, 0, []),
  (50, .aload_n 0, 1, 0, 0, 0, []),
  (51, .getfield 196, 3, 1223, 0, 0, []),
  (54, .ireturn, 1, 0, 0, 0, []),
  (55, .aload_n 0, 1, 0, 0, 0, []),
  (56, .getfield 176, 3, 1216, 0, 0, []),
  (59, .ireturn, 1, 0, 0, 0, []),
  (60, .aload_n 0, 1, 0, 0, 0, []),
  (61, .getfield 421, 3, 1259, 0, 0, []),
  (64, .ireturn, 1, 0, 0, 0, []),
  (65, .aload_n 0, 1, 0, 0, 0, []),
  (66, .getfield 424, 3, 1261, 0, 0, []),
  (69, .ireturn, 1, 0, 0, 0, []),
  (70, .iconst (-1), 1, 0, (-1), 0, []),
  (71, .ireturn, 1, 0, 0, 0, [])]
def mm_X12_count : mM := (12, yX12_count, cX12_count, 2, (some .int), 2, (8062, 8060, 8061, 1013, false), mo_X12_count)
def mo_X12_isShelf : List mO := [
  (0, .iload_n 0, 1, 0, 0, 0, []),
  (1, .iconst 0, 1, 0, 0, 0, []),
  (2, .iconst 5, 1, 0, 5, 0, []),
  (3, .invokestatic 136, 3, 154, 0, 0, []),
  (6, .ireturn, 1, 0, 0, 0, [])]
def mm_X12_isShelf : mM := (12, yX12_isShelf, cX12_isShelf, 1, (some .boolean), 1, (6121, 6120, 0, 1013, true), mo_X12_isShelf)
def mo_X12_keep : List mO := [
  (0, .iload_n 1, 1, 1, 0, 0, []),
  (1, .invokestatic 164, 3, 269, 0, 0, []),
  (4, .ifCond .eq 16, 3, 20, 0, 0, []),
  (7, .iload_n 2, 1, 2, 0, 0, []),
  (8, .iconst (-1), 1, 0, (-1), 0, []),
  (9, .if_icmp .eq 13, 3, 22, 0, 0, []),
  (12, .aload_n 0, 1, 0, 0, 0, []),
  (13, .iload_n 2, 1, 2, 0, 0, []),
  (14, .invokevirtual 464, 3, 251, 0, 0, []),
  (17, .ifCond .ne 5, 3, 22, 0, 0, []),
  (20, .iconst (-1), 1, 0, (-1), 0, []),
  (21, .ireturn, 1, 0, 0, 0, []),
  (22, .aload_n 0, 1, 0, 0, 0, []),
  (23, .getfield 120, 3, 1263, 0, 0, []),
  (26, .iload_n 1, 1, 1, 0, 0, []),
  (27, .iload_n 2, 1, 2, 0, 0, []),
  (28, .iastore, 1, 0, 0, 0, []),
  (29, .iconst 1, 1, 0, 1, 0, []),
  (30, .ireturn, 1, 0, 0, 0, [])]
def mm_X12_keep : mM := (12, yX12_keep, cX12_keep, 3, (some .int), 3, (8066, 8064, 8065, 1013, false), mo_X12_keep)
def mo_X12_row : List mO := [
  (0, .iload_n 1, 1, 1, 0, 0, []),
  (1, .invokestatic 164, 3, 269, 0, 0, []),
  (4, .ifCond .eq 18, 3, 22, 0, 0, []),
  (7, .iload_n 2, 1, 2, 0, 0, []),
  (8, .iconst 0, 1, 0, 0, 0, []),
  (9, .iconst 4, 1, 0, 4, 0, []),
  (10, .invokestatic 136, 3, 154, 0, 0, []),
  (13, .ifCond .eq 9, 3, 22, 0, 0, []),
  (16, .iload_n 3, 1, 3, 0, 0, []),
  (17, .bipush 60, 2, 0, 60, 0, []),
  (19, .if_icmp .le 5, 3, 24, 0, 0, []),
  (22, .iconst (-1), 1, 0, (-1), 0, []),
  (23, .ireturn, 1, 0, 0, 0, []),
  (24, .iload_n 3, 1, 3, 0, 0, []),
  (25, .ifCond .ge 6, 3, 31, 0, 0, []),
  (28, .bipush (-14), 2, 0, (-14), 0, []),
  (30, .ireturn, 1, 0, 0, 0, []),
  (31, .aload_n 0, 1, 0, 0, 0, []),
  (32, .getfield 120, 3, 1263, 0, 0, []),
  (35, .iload_n 1, 1, 1, 0, 0, []),
  (36, .bipush (-2), 2, 0, (-2), 0, []),
  (38, .iload_n 2, 1, 2, 0, 0, []),
  (39, .isub, 1, 0, 0, 0, []),
  (40, .iastore, 1, 0, 0, 0, []),
  (41, .aload_n 0, 1, 0, 0, 0, []),
  (42, .getfield 123, 3, 1264, 0, 0, []),
  (45, .iload_n 1, 1, 1, 0, 0, []),
  (46, .iload_n 3, 1, 3, 0, 0, []),
  (47, .iastore, 1, 0, 0, 0, []),
  (48, .bipush 60, 2, 0, 60, 0, []),
  (50, .iload_n 1, 1, 1, 0, 0, []),
  (51, .imul, 1, 0, 0, 0, []),
  (52, .istore 4, 2, 4, 0, 0, []),
  (54, .iload 4, 2, 4, 0, 0, []),
  (56, .bipush 60, 2, 0, 60, 0, []),
  (58, .iload_n 1, 1, 1, 0, 0, []),
  (59, .imul, 1, 0, 0, 0, []),
  (60, .bipush 60, 2, 0, 60, 0, []),
  (62, .iadd, 1, 0, 0, 0, []),
  (63, .if_icmp .ge 17, 3, 80, 0, 0, []),
  (66, .aload_n 0, 1, 0, 0, 0, []),
  (67, .getfield 126, 3, 1265, 0, 0, []),
  (70, .iload 4, 2, 4, 0, 0, []),
  (72, .lconst 0, 1, 0, 0, 0, []),
  (73, .lastore, 1, 0, 0, 0, []),
  (74, .iinc 4 1, 3, 4, 1, 0, []),
  (77, .goto (-23), 3, 54, 0, 0, []),
  (80, .iconst 1, 1, 0, 1, 0, []),
  (81, .ireturn, 1, 0, 0, 0, [])]
def mm_X12_row : mM := (12, yX12_row, cX12_row, 5, (some .int), 4, (8070, 8068, 8069, 1013, false), mo_X12_row)
def mo_X12_whyNoPlace : List mO := [
  (0, .iload_n 1, 1, 1, 0, 0, []),
  (1, .invokestatic 164, 3, 269, 0, 0, []),
  (4, .ifCond .ne 5, 3, 9, 0, 0, []),
  (7, .iconst (-1), 1, 0, (-1), 0, []),
  (8, .ireturn, 1, 0, 0, 0, []),
  (9, .aload_n 0, 1, 0, 0, 0, []),
  (10, .getfield 120, 3, 1263, 0, 0, []),
  (13, .iload_n 1, 1, 1, 0, 0, []),
  (14, .iaload, 1, 0, 0, 0, []),
  (15, .iconst (-1), 1, 0, (-1), 0, []),
  (16, .if_icmp .ne 6, 3, 22, 0, 0, []),
  (19, .bipush (-11), 2, 0, (-11), 0, []),
  (21, .ireturn, 1, 0, 0, 0, []),
  (22, .aload_n 0, 1, 0, 0, 0, []),
  (23, .getfield 120, 3, 1263, 0, 0, []),
  (26, .iload_n 1, 1, 1, 0, 0, []),
  (27, .iaload, 1, 0, 0, 0, []),
  (28, .ifCond .lt 6, 3, 34, 0, 0, []),
  (31, .bipush (-12), 2, 0, (-12), 0, []),
  (33, .ireturn, 1, 0, 0, 0, []),
  (34, .iload_n 2, 1, 2, 0, 0, []),
  (35, .iconst 0, 1, 0, 0, 0, []),
  (36, .aload_n 0, 1, 0, 0, 0, []),
  (37, .getfield 123, 3, 1264, 0, 0, []),
  (40, .iload_n 1, 1, 1, 0, 0, []),
  (41, .iaload, 1, 0, 0, 0, []),
  (42, .iconst 1, 1, 0, 1, 0, []),
  (43, .isub, 1, 0, 0, 0, []),
  (44, .invokestatic 136, 3, 154, 0, 0, []),
  (47, .ifCond .eq 7, 3, 54, 0, 0, []),
  (50, .iconst 0, 1, 0, 0, 0, []),
  (51, .goto 5, 3, 56, 0, 0, []),
  (54, .bipush (-13), 2, 0, (-13), 0, []),
  (56, .ireturn, 1, 0, 0, 0, [])]
def mm_X12_whyNoPlace : mM := (12, yX12_whyNoPlace, cX12_whyNoPlace, 3, (some .int), 3, (8078, 8077, 98, 1013, false), mo_X12_whyNoPlace)
def mo_X12_put : List mO := [
  (0, .aload_n 0, 1, 0, 0, 0, []),
  (1, .iload_n 1, 1, 1, 0, 0, []),
  (2, .iload_n 2, 1, 2, 0, 0, []),
  (3, .invokevirtual 470, 3, 272, 0, 0, []),
  (6, .istore 5, 2, 5, 0, 0, []),
  (8, .iload 5, 2, 5, 0, 0, []),
  (10, .ifCond .ge 6, 3, 16, 0, 0, []),
  (13, .iload 5, 2, 5, 0, 0, []),
  (15, .ireturn, 1, 0, 0, 0, []),
  (16, .bipush (-2), 2, 0, (-2), 0, []),
  (18, .aload_n 0, 1, 0, 0, 0, []),
  (19, .getfield 120, 3, 1263, 0, 0, []),
  (22, .iload_n 1, 1, 1, 0, 0, []),
  (23, .iaload, 1, 0, 0, 0, []),
  (24, .isub, 1, 0, 0, 0, []),
  (25, .istore 6, 2, 6, 0, 0, []),
  (27, .aload_n 0, 1, 0, 0, 0, []),
  (28, .getfield 126, 3, 1265, 0, 0, []),
  (31, .bipush 60, 2, 0, 60, 0, []),
  (33, .iload_n 1, 1, 1, 0, 0, []),
  (34, .imul, 1, 0, 0, 0, []),
  (35, .iload_n 2, 1, 2, 0, 0, []),
  (36, .iadd, 1, 0, 0, 0, []),
  (37, .iload 6, 2, 6, 0, 0, []),
  (39, .ifCond .ne 10, 3, 49, 0, 0, []),
  (42, .lload_n 3, 1, 3, 0, 0, []),
  (43, .l2i, 1, 0, 0, 0, []),
  (44, .i2b, 1, 0, 0, 0, []),
  (45, .i2l, 1, 0, 0, 0, []),
  (46, .goto 49, 3, 95, 0, 0, []),
  (49, .iload 6, 2, 6, 0, 0, []),
  (51, .iconst 1, 1, 0, 1, 0, []),
  (52, .if_icmp .ne 10, 3, 62, 0, 0, []),
  (55, .lload_n 3, 1, 3, 0, 0, []),
  (56, .l2i, 1, 0, 0, 0, []),
  (57, .i2s, 1, 0, 0, 0, []),
  (58, .i2l, 1, 0, 0, 0, []),
  (59, .goto 36, 3, 95, 0, 0, []),
  (62, .iload 6, 2, 6, 0, 0, []),
  (64, .iconst 2, 1, 0, 2, 0, []),
  (65, .if_icmp .ne 9, 3, 74, 0, 0, []),
  (68, .lload_n 3, 1, 3, 0, 0, []),
  (69, .l2i, 1, 0, 0, 0, []),
  (70, .i2l, 1, 0, 0, 0, []),
  (71, .goto 24, 3, 95, 0, 0, []),
  (74, .iload 6, 2, 6, 0, 0, []),
  (76, .iconst 3, 1, 0, 3, 0, []),
  (77, .if_icmp .ne 7, 3, 84, 0, 0, []),
  (80, .lload_n 3, 1, 3, 0, 0, []),
  (81, .goto 14, 3, 95, 0, 0, []),
  (84, .lload_n 3, 1, 3, 0, 0, []),
  (85, .lconst 0, 1, 0, 0, 0, []),
  (86, .lcmp, 1, 0, 0, 0, []),
  (87, .ifCond .eq 7, 3, 94, 0, 0, []),
  (90, .lconst 1, 1, 0, 0, 1, []),
  (91, .goto 4, 3, 95, 0, 0, []),
  (94, .lconst 0, 1, 0, 0, 0, []),
  (95, .lastore, 1, 0, 0, 0, []),
  (96, .iconst 1, 1, 0, 1, 0, []),
  (97, .ireturn, 1, 0, 0, 0, [])]
def mm_X12_put : mM := (12, yX12_put, cX12_put, 7, (some .int), 4, (8074, 8072, 8073, 1013, false), mo_X12_put)
def mo_X12_element : List mO := [
  (0, .aload_n 0, 1, 0, 0, 0, []),
  (1, .iload_n 1, 1, 1, 0, 0, []),
  (2, .iload_n 2, 1, 2, 0, 0, []),
  (3, .invokevirtual 470, 3, 272, 0, 0, []),
  (6, .ifCond .ge 9, 3, 15, 0, 0, []),
  (9, .ldc2_w 380, 3, 7163, 0, (-9223372036854775808), []),
  (12, .goto 14, 3, 26, 0, 0, []),
  (15, .aload_n 0, 1, 0, 0, 0, []),
  (16, .getfield 126, 3, 1265, 0, 0, []),
  (19, .bipush 60, 2, 0, 60, 0, []),
  (21, .iload_n 1, 1, 1, 0, 0, []),
  (22, .imul, 1, 0, 0, 0, []),
  (23, .iload_n 2, 1, 2, 0, 0, []),
  (24, .iadd, 1, 0, 0, 0, []),
  (25, .laload, 1, 0, 0, 0, []),
  (26, .lreturn, 1, 0, 0, 0, [])]
def mm_X12_element : mM := (12, yX12_element, cX12_element, 3, (some .long), 3, (8082, 8080, 8081, 1013, false), mo_X12_element)
def mo_X12_shift : List mO := [
  (0, .iload_n 1, 1, 1, 0, 0, []),
  (1, .invokestatic 164, 3, 269, 0, 0, []),
  (4, .ifCond .eq 10, 3, 14, 0, 0, []),
  (7, .iload_n 3, 1, 3, 0, 0, []),
  (8, .invokestatic 164, 3, 269, 0, 0, []),
  (11, .ifCond .ne 5, 3, 16, 0, 0, []),
  (14, .iconst (-1), 1, 0, (-1), 0, []),
  (15, .ireturn, 1, 0, 0, 0, []),
  (16, .aload_n 0, 1, 0, 0, 0, []),
  (17, .getfield 120, 3, 1263, 0, 0, []),
  (20, .iload_n 1, 1, 1, 0, 0, []),
  (21, .iaload, 1, 0, 0, 0, []),
  (22, .iconst (-1), 1, 0, (-1), 0, []),
  (23, .if_icmp .eq 13, 3, 36, 0, 0, []),
  (26, .aload_n 0, 1, 0, 0, 0, []),
  (27, .getfield 120, 3, 1263, 0, 0, []),
  (30, .iload_n 3, 1, 3, 0, 0, []),
  (31, .iaload, 1, 0, 0, 0, []),
  (32, .iconst (-1), 1, 0, (-1), 0, []),
  (33, .if_icmp .ne 6, 3, 39, 0, 0, []),
  (36, .bipush (-11), 2, 0, (-11), 0, []),
  (38, .ireturn, 1, 0, 0, 0, []),
  (39, .aload_n 0, 1, 0, 0, 0, []),
  (40, .getfield 120, 3, 1263, 0, 0, []),
  (43, .iload_n 1, 1, 1, 0, 0, []),
  (44, .iaload, 1, 0, 0, 0, []),
  (45, .ifCond .ge 18, 3, 63, 0, 0, []),
  (48, .aload_n 0, 1, 0, 0, 0, []),
  (49, .getfield 120, 3, 1263, 0, 0, []),
  (52, .iload_n 1, 1, 1, 0, 0, []),
  (53, .iaload, 1, 0, 0, 0, []),
  (54, .aload_n 0, 1, 0, 0, 0, []),
  (55, .getfield 120, 3, 1263, 0, 0, []),
  (58, .iload_n 3, 1, 3, 0, 0, []),
  (59, .iaload, 1, 0, 0, 0, []),
  (60, .if_icmp .eq 6, 3, 66, 0, 0, []),
  (63, .bipush (-12), 2, 0, (-12), 0, []),
  (65, .ireturn, 1, 0, 0, 0, []),
  (66, .iload 5, 2, 5, 0, 0, []),
  (68, .ifCond .lt 39, 3, 107, 0, 0, []),
  (71, .iload_n 2, 1, 2, 0, 0, []),
  (72, .ifCond .lt 35, 3, 107, 0, 0, []),
  (75, .iload 4, 2, 4, 0, 0, []),
  (77, .ifCond .lt 30, 3, 107, 0, 0, []),
  (80, .iload_n 2, 1, 2, 0, 0, []),
  (81, .aload_n 0, 1, 0, 0, 0, []),
  (82, .getfield 123, 3, 1264, 0, 0, []),
  (85, .iload_n 1, 1, 1, 0, 0, []),
  (86, .iaload, 1, 0, 0, 0, []),
  (87, .iload 5, 2, 5, 0, 0, []),
  (89, .isub, 1, 0, 0, 0, []),
  (90, .if_icmp .gt 17, 3, 107, 0, 0, []),
  (93, .iload 4, 2, 4, 0, 0, []),
  (95, .aload_n 0, 1, 0, 0, 0, []),
  (96, .getfield 123, 3, 1264, 0, 0, []),
  (99, .iload_n 3, 1, 3, 0, 0, []),
  (100, .iaload, 1, 0, 0, 0, []),
  (101, .iload 5, 2, 5, 0, 0, []),
  (103, .isub, 1, 0, 0, 0, []),
  (104, .if_icmp .le 6, 3, 110, 0, 0, []),
  (107, .bipush (-13), 2, 0, (-13), 0, []),
  (109, .ireturn, 1, 0, 0, 0, []),
  (110, .iconst 0, 1, 0, 0, 0, []),
  (111, .istore 6, 2, 6, 0, 0, []),
  (113, .iload 6, 2, 6, 0, 0, []),
  (115, .iload 5, 2, 5, 0, 0, []),
  (117, .if_icmp .ge 30, 3, 147, 0, 0, []),
  (120, .aload_n 0, 1, 0, 0, 0, []),
  (121, .getfield 130, 3, 1266, 0, 0, []),
  (124, .iload 6, 2, 6, 0, 0, []),
  (126, .aload_n 0, 1, 0, 0, 0, []),
  (127, .getfield 126, 3, 1265, 0, 0, []),
  (130, .bipush 60, 2, 0, 60, 0, []),
  (132, .iload_n 1, 1, 1, 0, 0, []),
  (133, .imul, 1, 0, 0, 0, []),
  (134, .iload_n 2, 1, 2, 0, 0, []),
  (135, .iadd, 1, 0, 0, 0, []),
  (136, .iload 6, 2, 6, 0, 0, []),
  (138, .iadd, 1, 0, 0, 0, []),
  (139, .laload, 1, 0, 0, 0, []),
  (140, .lastore, 1, 0, 0, 0, []),
  (141, .iinc 6 1, 3, 6, 1, 0, []),
  (144, .goto (-31), 3, 113, 0, 0, []),
  (147, .iconst 0, 1, 0, 0, 0, []),
  (148, .istore 6, 2, 6, 0, 0, []),
  (150, .iload 6, 2, 6, 0, 0, []),
  (152, .iload 5, 2, 5, 0, 0, []),
  (154, .if_icmp .ge 31, 3, 185, 0, 0, []),
  (157, .aload_n 0, 1, 0, 0, 0, []),
  (158, .getfield 126, 3, 1265, 0, 0, []),
  (161, .bipush 60, 2, 0, 60, 0, []),
  (163, .iload_n 3, 1, 3, 0, 0, []),
  (164, .imul, 1, 0, 0, 0, []),
  (165, .iload 4, 2, 4, 0, 0, []),
  (167, .iadd, 1, 0, 0, 0, []),
  (168, .iload 6, 2, 6, 0, 0, []),
  (170, .iadd, 1, 0, 0, 0, []),
  (171, .aload_n 0, 1, 0, 0, 0, []),
  (172, .getfield 130, 3, 1266, 0, 0, []),
  (175, .iload 6, 2, 6, 0, 0, []),
  (177, .laload, 1, 0, 0, 0, []),
  (178, .lastore, 1, 0, 0, 0, []),
  (179, .iinc 6 1, 3, 6, 1, 0, []),
  (182, .goto (-32), 3, 150, 0, 0, []),
  (185, .iload 5, 2, 5, 0, 0, []),
  (187, .ireturn, 1, 0, 0, 0, [])]
def mm_X12_shift : mM := (12, yX12_shift, cX12_shift, 7, (some .int), 6, (8086, 8084, 8085, 1013, false), mo_X12_shift)
def mo_X12_taken : List mO := [
  (0, .iload_n 1, 1, 1, 0, 0, []),
  (1, .invokestatic 164, 3, 269, 0, 0, []),
  (4, .ifCond .eq 13, 3, 17, 0, 0, []),
  (7, .iload_n 2, 1, 2, 0, 0, []),
  (8, .iconst 0, 1, 0, 0, 0, []),
  (9, .bipush 7, 2, 0, 7, 0, []),
  (11, .invokestatic 136, 3, 154, 0, 0, []),
  (14, .ifCond .ne 5, 3, 19, 0, 0, []),
  (17, .iconst (-1), 1, 0, (-1), 0, []),
  (18, .ireturn, 1, 0, 0, 0, []),
  (19, .aload_n 0, 1, 0, 0, 0, []),
  (20, .getfield 120, 3, 1263, 0, 0, []),
  (23, .iload_n 1, 1, 1, 0, 0, []),
  (24, .iaload, 1, 0, 0, 0, []),
  (25, .iconst (-1), 1, 0, (-1), 0, []),
  (26, .if_icmp .ne 6, 3, 32, 0, 0, []),
  (29, .bipush (-11), 2, 0, (-11), 0, []),
  (31, .ireturn, 1, 0, 0, 0, []),
  (32, .aload_n 0, 1, 0, 0, 0, []),
  (33, .getfield 120, 3, 1263, 0, 0, []),
  (36, .iload_n 1, 1, 1, 0, 0, []),
  (37, .iaload, 1, 0, 0, 0, []),
  (38, .ifCond .lt 35, 3, 73, 0, 0, []),
  (41, .aload_n 0, 1, 0, 0, 0, []),
  (42, .getfield 114, 3, 1260, 0, 0, []),
  (45, .aload_n 0, 1, 0, 0, 0, []),
  (46, .getfield 120, 3, 1263, 0, 0, []),
  (49, .iload_n 1, 1, 1, 0, 0, []),
  (50, .iaload, 1, 0, 0, 0, []),
  (51, .iaload, 1, 0, 0, 0, []),
  (52, .iload_n 2, 1, 2, 0, 0, []),
  (53, .invokestatic 434, 3, 255, 0, 0, []),
  (56, .ifCond .eq 17, 3, 73, 0, 0, []),
  (59, .aload_n 0, 1, 0, 0, 0, []),
  (60, .getfield 114, 3, 1260, 0, 0, []),
  (63, .aload_n 0, 1, 0, 0, 0, []),
  (64, .getfield 120, 3, 1263, 0, 0, []),
  (67, .iload_n 1, 1, 1, 0, 0, []),
  (68, .iaload, 1, 0, 0, 0, []),
  (69, .iaload, 1, 0, 0, 0, []),
  (70, .goto 5, 3, 75, 0, 0, []),
  (73, .bipush (-12), 2, 0, (-12), 0, []),
  (75, .ireturn, 1, 0, 0, 0, [])]
def mm_X12_taken : mM := (12, yX12_taken, cX12_taken, 3, (some .int), 3, (8090, 8088, 8089, 1013, false), mo_X12_taken)
def mo_J6_lowestOneBit_0f7a4 : List mO := [
  (0, .iload_n 0, 1, 0, 0, 0, []),
  (1, .iload_n 0, 1, 0, 0, 0, []),
  (2, .ineg, 1, 0, 0, 0, []),
  (3, .iand, 1, 0, 0, 0, []),
  (4, .ireturn, 1, 0, 0, 0, [])]
def mm_J6_lowestOneBit_0f7a4 : mM := (14, yJ6_lowestOneBit_0f7a4, cJ6_lowestOneBit_0f7a4, 1, (some .int), 1, (4157, 4156, 0, 1015, true), mo_J6_lowestOneBit_0f7a4)
def mo_J6_bitCount_0f7a4 : List mO := [
  (0, .iload_n 0, 1, 0, 0, 0, []),
  (1, .iload_n 0, 1, 0, 0, 0, []),
  (2, .iconst 1, 1, 0, 1, 0, []),
  (3, .iushr, 1, 0, 0, 0, []),
  (4, .ldc_w 265, 3, 3189, 1431655765, 0, []),
  (7, .iand, 1, 0, 0, 0, []),
  (8, .isub, 1, 0, 0, 0, []),
  (9, .istore_n 0, 1, 0, 0, 0, []),
  (10, .iload_n 0, 1, 0, 0, 0, []),
  (11, .ldc_w 266, 3, 3190, 858993459, 0, []),
  (14, .iand, 1, 0, 0, 0, []),
  (15, .iload_n 0, 1, 0, 0, 0, []),
  (16, .iconst 2, 1, 0, 2, 0, []),
  (17, .iushr, 1, 0, 0, 0, []),
  (18, .ldc_w 266, 3, 3190, 858993459, 0, []),
  (21, .iand, 1, 0, 0, 0, []),
  (22, .iadd, 1, 0, 0, 0, []),
  (23, .istore_n 0, 1, 0, 0, 0, []),
  (24, .iload_n 0, 1, 0, 0, 0, []),
  (25, .iload_n 0, 1, 0, 0, 0, []),
  (26, .iconst 4, 1, 0, 4, 0, []),
  (27, .iushr, 1, 0, 0, 0, []),
  (28, .iadd, 1, 0, 0, 0, []),
  (29, .ldc_w 267, 3, 3191, 252645135, 0, []),
  (32, .iand, 1, 0, 0, 0, []),
  (33, .istore_n 0, 1, 0, 0, 0, []),
  (34, .iload_n 0, 1, 0, 0, 0, []),
  (35, .iload_n 0, 1, 0, 0, 0, []),
  (36, .bipush 8, 2, 0, 8, 0, []),
  (38, .iushr, 1, 0, 0, 0, []),
  (39, .iadd, 1, 0, 0, 0, []),
  (40, .istore_n 0, 1, 0, 0, 0, []),
  (41, .iload_n 0, 1, 0, 0, 0, []),
  (42, .iload_n 0, 1, 0, 0, 0, []),
  (43, .bipush 16, 2, 0, 16, 0, []),
  (45, .iushr, 1, 0, 0, 0, []),
  (46, .iadd, 1, 0, 0, 0, []),
  (47, .istore_n 0, 1, 0, 0, 0, []),
  (48, .iload_n 0, 1, 0, 0, 0, []),
  (49, .bipush 63, 2, 0, 63, 0, []),
  (51, .iand, 1, 0, 0, 0, []),
  (52, .ireturn, 1, 0, 0, 0, [])]
def mm_J6_bitCount_0f7a4 : mM := (14, yJ6_bitCount_0f7a4, cJ6_bitCount_0f7a4, 1, (some .int), 1, (3188, 3187, 0, 1015, true), mo_J6_bitCount_0f7a4)
def mo_L_0 : List mO := [
  (0, .new 7, 3, 0, 0, 0, []),
  (3, .dup, 1, 0, 0, 0, []),
  (4, .invokespecial 9, 3, 0, 0, 0, []),
  (7, .astore_n 1, 1, 1, 0, 0, []),
  (8, .new 10, 3, 0, 0, 0, []),
  (11, .dup, 1, 0, 0, 0, []),
  (12, .invokespecial 12, 3, 0, 0, 0, []),
  (15, .astore_n 2, 1, 2, 0, 0, []),
  (16, .iconst 0, 1, 0, 0, 0, []),
  (17, .istore_n 3, 1, 3, 0, 0, []),
  (18, .iload_n 3, 1, 3, 0, 0, []),
  (19, .aload_n 0, 1, 0, 0, 0, []),
  (20, .arraylength, 1, 0, 0, 0, []),
  (21, .bipush 6, 2, 0, 6, 0, []),
  (23, .isub, 1, 0, 0, 0, []),
  (24, .if_icmp .gt 1607, 3, 1631, 0, 0, []),
  (27, .aload_n 0, 1, 0, 0, 0, []),
  (28, .iload_n 3, 1, 3, 0, 0, []),
  (29, .iaload, 1, 0, 0, 0, []),
  (30, .bipush 63, 2, 0, 63, 0, []),
  (32, .iand, 1, 0, 0, 0, []),
  (33, .tableswitch 1592 0 44 #[195, 218, 251, 294, 337, 370, 393, 406, 429, 482, 515, 558, 591, 614, 647, 670, 683, 716, 749, 782, 805, 838, 872, 905, 958, 1011, 1044, 1067, 1090, 1113, 1126, 1149, 1162, 1175, 1188, 1201, 1224, 1267, 1290, 1323, 1366, 1439, 1473, 1536, 1569], 195, 1625, 0, 0, [(0, 228), (1, 251), (2, 284), (3, 327), (4, 370), (5, 403), (6, 426), (7, 439), (8, 462), (9, 515), (10, 548), (11, 591), (12, 624), (13, 647), (14, 680), (15, 703), (16, 716), (17, 749), (18, 782), (19, 815), (20, 838), (21, 871), (22, 905), (23, 938), (24, 991), (25, 1044), (26, 1077), (27, 1100), (28, 1123), (29, 1146), (30, 1159), (31, 1182), (32, 1195), (33, 1208), (34, 1221), (35, 1234), (36, 1257), (37, 1300), (38, 1323), (39, 1356), (40, 1399), (41, 1472), (42, 1506), (43, 1569), (44, 1602)]),
  (228, .aload_n 1, 1, 1, 0, 0, []),
  (229, .aload_n 0, 1, 0, 0, 0, []),
  (230, .iload_n 3, 1, 3, 0, 0, []),
  (231, .iconst 1, 1, 0, 1, 0, []),
  (232, .iadd, 1, 0, 0, 0, []),
  (233, .iaload, 1, 0, 0, 0, []),
  (234, .invokevirtual 13, 3, 98, 0, 0, []),
  (237, .aload_n 2, 1, 2, 0, 0, []),
  (238, .aload_n 0, 1, 0, 0, 0, []),
  (239, .iload_n 3, 1, 3, 0, 0, []),
  (240, .iconst 1, 1, 0, 1, 0, []),
  (241, .iadd, 1, 0, 0, 0, []),
  (242, .iaload, 1, 0, 0, 0, []),
  (243, .invokevirtual 17, 3, 161, 0, 0, []),
  (246, .if_icmp .eq 1379, 3, 1625, 0, 0, []),
  (249, .iconst 0, 1, 0, 0, 0, []),
  (250, .ireturn, 1, 0, 0, 0, []),
  (251, .aload_n 1, 1, 1, 0, 0, []),
  (252, .aload_n 0, 1, 0, 0, 0, []),
  (253, .iload_n 3, 1, 3, 0, 0, []),
  (254, .iconst 1, 1, 0, 1, 0, []),
  (255, .iadd, 1, 0, 0, 0, []),
  (256, .iaload, 1, 0, 0, 0, []),
  (257, .aload_n 0, 1, 0, 0, 0, []),
  (258, .iload_n 3, 1, 3, 0, 0, []),
  (259, .iconst 2, 1, 0, 2, 0, []),
  (260, .iadd, 1, 0, 0, 0, []),
  (261, .iaload, 1, 0, 0, 0, []),
  (262, .invokevirtual 18, 3, 99, 0, 0, []),
  (265, .aload_n 2, 1, 2, 0, 0, []),
  (266, .aload_n 0, 1, 0, 0, 0, []),
  (267, .iload_n 3, 1, 3, 0, 0, []),
  (268, .iconst 1, 1, 0, 1, 0, []),
  (269, .iadd, 1, 0, 0, 0, []),
  (270, .iaload, 1, 0, 0, 0, []),
  (271, .aload_n 0, 1, 0, 0, 0, []),
  (272, .iload_n 3, 1, 3, 0, 0, []),
  (273, .iconst 2, 1, 0, 2, 0, []),
  (274, .iadd, 1, 0, 0, 0, []),
  (275, .iaload, 1, 0, 0, 0, []),
  (276, .invokevirtual 22, 3, 163, 0, 0, []),
  (279, .if_icmp .eq 1346, 3, 1625, 0, 0, []),
  (282, .iconst 0, 1, 0, 0, 0, []),
  (283, .ireturn, 1, 0, 0, 0, []),
  (284, .aload_n 1, 1, 1, 0, 0, []),
  (285, .aload_n 0, 1, 0, 0, 0, []),
  (286, .iload_n 3, 1, 3, 0, 0, []),
  (287, .iconst 1, 1, 0, 1, 0, []),
  (288, .iadd, 1, 0, 0, 0, []),
  (289, .iaload, 1, 0, 0, 0, []),
  (290, .aload_n 0, 1, 0, 0, 0, []),
  (291, .iload_n 3, 1, 3, 0, 0, []),
  (292, .iconst 2, 1, 0, 2, 0, []),
  (293, .iadd, 1, 0, 0, 0, []),
  (294, .iaload, 1, 0, 0, 0, []),
  (295, .aload_n 0, 1, 0, 0, 0, []),
  (296, .iload_n 3, 1, 3, 0, 0, []),
  (297, .iconst 3, 1, 0, 3, 0, []),
  (298, .iadd, 1, 0, 0, 0, []),
  (299, .iaload, 1, 0, 0, 0, []),
  (300, .invokevirtual 23, 3, 100, 0, 0, []),
  (303, .aload_n 2, 1, 2, 0, 0, []),
  (304, .aload_n 0, 1, 0, 0, 0, []),
  (305, .iload_n 3, 1, 3, 0, 0, []),
  (306, .iconst 1, 1, 0, 1, 0, []),
  (307, .iadd, 1, 0, 0, 0, []),
  (308, .iaload, 1, 0, 0, 0, []),
  (309, .aload_n 0, 1, 0, 0, 0, []),
  (310, .iload_n 3, 1, 3, 0, 0, []),
  (311, .iconst 2, 1, 0, 2, 0, []),
  (312, .iadd, 1, 0, 0, 0, []),
  (313, .iaload, 1, 0, 0, 0, []),
  (314, .aload_n 0, 1, 0, 0, 0, []),
  (315, .iload_n 3, 1, 3, 0, 0, []),
  (316, .iconst 3, 1, 0, 3, 0, []),
  (317, .iadd, 1, 0, 0, 0, []),
  (318, .iaload, 1, 0, 0, 0, []),
  (319, .invokevirtual 27, 3, 164, 0, 0, [])]
def mo_L_1 : List mO := [
  (322, .if_icmp .eq 1303, 3, 1625, 0, 0, []),
  (325, .iconst 0, 1, 0, 0, 0, []),
  (326, .ireturn, 1, 0, 0, 0, []),
  (327, .aload_n 1, 1, 1, 0, 0, []),
  (328, .aload_n 0, 1, 0, 0, 0, []),
  (329, .iload_n 3, 1, 3, 0, 0, []),
  (330, .iconst 1, 1, 0, 1, 0, []),
  (331, .iadd, 1, 0, 0, 0, []),
  (332, .iaload, 1, 0, 0, 0, []),
  (333, .aload_n 0, 1, 0, 0, 0, []),
  (334, .iload_n 3, 1, 3, 0, 0, []),
  (335, .iconst 2, 1, 0, 2, 0, []),
  (336, .iadd, 1, 0, 0, 0, []),
  (337, .iaload, 1, 0, 0, 0, []),
  (338, .aload_n 0, 1, 0, 0, 0, []),
  (339, .iload_n 3, 1, 3, 0, 0, []),
  (340, .iconst 3, 1, 0, 3, 0, []),
  (341, .iadd, 1, 0, 0, 0, []),
  (342, .iaload, 1, 0, 0, 0, []),
  (343, .invokevirtual 28, 3, 103, 0, 0, []),
  (346, .aload_n 2, 1, 2, 0, 0, []),
  (347, .aload_n 0, 1, 0, 0, 0, []),
  (348, .iload_n 3, 1, 3, 0, 0, []),
  (349, .iconst 1, 1, 0, 1, 0, []),
  (350, .iadd, 1, 0, 0, 0, []),
  (351, .iaload, 1, 0, 0, 0, []),
  (352, .aload_n 0, 1, 0, 0, 0, []),
  (353, .iload_n 3, 1, 3, 0, 0, []),
  (354, .iconst 2, 1, 0, 2, 0, []),
  (355, .iadd, 1, 0, 0, 0, []),
  (356, .iaload, 1, 0, 0, 0, []),
  (357, .aload_n 0, 1, 0, 0, 0, []),
  (358, .iload_n 3, 1, 3, 0, 0, []),
  (359, .iconst 3, 1, 0, 3, 0, []),
  (360, .iadd, 1, 0, 0, 0, []),
  (361, .iaload, 1, 0, 0, 0, []),
  (362, .invokevirtual 31, 3, 172, 0, 0, []),
  (365, .if_icmp .eq 1260, 3, 1625, 0, 0, []),
  (368, .iconst 0, 1, 0, 0, 0, []),
  (369, .ireturn, 1, 0, 0, 0, []),
  (370, .aload_n 1, 1, 1, 0, 0, []),
  (371, .aload_n 0, 1, 0, 0, 0, []),
  (372, .iload_n 3, 1, 3, 0, 0, []),
  (373, .iconst 1, 1, 0, 1, 0, []),
  (374, .iadd, 1, 0, 0, 0, []),
  (375, .iaload, 1, 0, 0, 0, []),
  (376, .aload_n 0, 1, 0, 0, 0, []),
  (377, .iload_n 3, 1, 3, 0, 0, []),
  (378, .iconst 2, 1, 0, 2, 0, []),
  (379, .iadd, 1, 0, 0, 0, []),
  (380, .iaload, 1, 0, 0, 0, []),
  (381, .invokevirtual 32, 3, 104, 0, 0, []),
  (384, .aload_n 2, 1, 2, 0, 0, []),
  (385, .aload_n 0, 1, 0, 0, 0, []),
  (386, .iload_n 3, 1, 3, 0, 0, []),
  (387, .iconst 1, 1, 0, 1, 0, []),
  (388, .iadd, 1, 0, 0, 0, []),
  (389, .iaload, 1, 0, 0, 0, []),
  (390, .aload_n 0, 1, 0, 0, 0, []),
  (391, .iload_n 3, 1, 3, 0, 0, []),
  (392, .iconst 2, 1, 0, 2, 0, []),
  (393, .iadd, 1, 0, 0, 0, []),
  (394, .iaload, 1, 0, 0, 0, []),
  (395, .invokevirtual 35, 3, 173, 0, 0, []),
  (398, .if_icmp .eq 1227, 3, 1625, 0, 0, []),
  (401, .iconst 0, 1, 0, 0, 0, []),
  (402, .ireturn, 1, 0, 0, 0, []),
  (403, .aload_n 1, 1, 1, 0, 0, []),
  (404, .aload_n 0, 1, 0, 0, 0, []),
  (405, .iload_n 3, 1, 3, 0, 0, []),
  (406, .iconst 1, 1, 0, 1, 0, []),
  (407, .iadd, 1, 0, 0, 0, []),
  (408, .iaload, 1, 0, 0, 0, []),
  (409, .invokevirtual 36, 3, 105, 0, 0, []),
  (412, .aload_n 2, 1, 2, 0, 0, []),
  (413, .aload_n 0, 1, 0, 0, 0, []),
  (414, .iload_n 3, 1, 3, 0, 0, []),
  (415, .iconst 1, 1, 0, 1, 0, []),
  (416, .iadd, 1, 0, 0, 0, []),
  (417, .iaload, 1, 0, 0, 0, []),
  (418, .invokevirtual 39, 3, 174, 0, 0, []),
  (421, .if_icmp .eq 1204, 3, 1625, 0, 0, []),
  (424, .iconst 0, 1, 0, 0, 0, []),
  (425, .ireturn, 1, 0, 0, 0, []),
  (426, .aload_n 1, 1, 1, 0, 0, []),
  (427, .invokevirtual 40, 3, 106, 0, 0, []),
  (430, .aload_n 2, 1, 2, 0, 0, []),
  (431, .invokevirtual 44, 3, 192, 0, 0, []),
  (434, .if_icmp .eq 1191, 3, 1625, 0, 0, []),
  (437, .iconst 0, 1, 0, 0, 0, []),
  (438, .ireturn, 1, 0, 0, 0, []),
  (439, .aload_n 1, 1, 1, 0, 0, []),
  (440, .aload_n 0, 1, 0, 0, 0, []),
  (441, .iload_n 3, 1, 3, 0, 0, []),
  (442, .iconst 1, 1, 0, 1, 0, []),
  (443, .iadd, 1, 0, 0, 0, []),
  (444, .iaload, 1, 0, 0, 0, []),
  (445, .invokevirtual 45, 3, 107, 0, 0, []),
  (448, .aload_n 2, 1, 2, 0, 0, []),
  (449, .aload_n 0, 1, 0, 0, 0, [])]
def mo_L_2 : List mO := [
  (450, .iload_n 3, 1, 3, 0, 0, []),
  (451, .iconst 1, 1, 0, 1, 0, []),
  (452, .iadd, 1, 0, 0, 0, []),
  (453, .iaload, 1, 0, 0, 0, []),
  (454, .invokevirtual 48, 3, 196, 0, 0, []),
  (457, .if_icmp .eq 1168, 3, 1625, 0, 0, []),
  (460, .iconst 0, 1, 0, 0, 0, []),
  (461, .ireturn, 1, 0, 0, 0, []),
  (462, .aload_n 1, 1, 1, 0, 0, []),
  (463, .aload_n 0, 1, 0, 0, 0, []),
  (464, .iload_n 3, 1, 3, 0, 0, []),
  (465, .iconst 1, 1, 0, 1, 0, []),
  (466, .iadd, 1, 0, 0, 0, []),
  (467, .iaload, 1, 0, 0, 0, []),
  (468, .aload_n 0, 1, 0, 0, 0, []),
  (469, .iload_n 3, 1, 3, 0, 0, []),
  (470, .iconst 2, 1, 0, 2, 0, []),
  (471, .iadd, 1, 0, 0, 0, []),
  (472, .iaload, 1, 0, 0, 0, []),
  (473, .aload_n 0, 1, 0, 0, 0, []),
  (474, .iload_n 3, 1, 3, 0, 0, []),
  (475, .iconst 3, 1, 0, 3, 0, []),
  (476, .iadd, 1, 0, 0, 0, []),
  (477, .iaload, 1, 0, 0, 0, []),
  (478, .aload_n 0, 1, 0, 0, 0, []),
  (479, .iload_n 3, 1, 3, 0, 0, []),
  (480, .iconst 4, 1, 0, 4, 0, []),
  (481, .iadd, 1, 0, 0, 0, []),
  (482, .iaload, 1, 0, 0, 0, []),
  (483, .invokevirtual 49, 3, 108, 0, 0, []),
  (486, .aload_n 2, 1, 2, 0, 0, []),
  (487, .aload_n 0, 1, 0, 0, 0, []),
  (488, .iload_n 3, 1, 3, 0, 0, []),
  (489, .iconst 1, 1, 0, 1, 0, []),
  (490, .iadd, 1, 0, 0, 0, []),
  (491, .iaload, 1, 0, 0, 0, []),
  (492, .aload_n 0, 1, 0, 0, 0, []),
  (493, .iload_n 3, 1, 3, 0, 0, []),
  (494, .iconst 2, 1, 0, 2, 0, []),
  (495, .iadd, 1, 0, 0, 0, []),
  (496, .iaload, 1, 0, 0, 0, []),
  (497, .aload_n 0, 1, 0, 0, 0, []),
  (498, .iload_n 3, 1, 3, 0, 0, []),
  (499, .iconst 3, 1, 0, 3, 0, []),
  (500, .iadd, 1, 0, 0, 0, []),
  (501, .iaload, 1, 0, 0, 0, []),
  (502, .aload_n 0, 1, 0, 0, 0, []),
  (503, .iload_n 3, 1, 3, 0, 0, []),
  (504, .iconst 4, 1, 0, 4, 0, []),
  (505, .iadd, 1, 0, 0, 0, []),
  (506, .iaload, 1, 0, 0, 0, []),
  (507, .invokevirtual 53, 3, 209, 0, 0, []),
  (510, .if_icmp .eq 1115, 3, 1625, 0, 0, []),
  (513, .iconst 0, 1, 0, 0, 0, []),
  (514, .ireturn, 1, 0, 0, 0, []),
  (515, .aload_n 1, 1, 1, 0, 0, []),
  (516, .aload_n 0, 1, 0, 0, 0, []),
  (517, .iload_n 3, 1, 3, 0, 0, []),
  (518, .iconst 1, 1, 0, 1, 0, []),
  (519, .iadd, 1, 0, 0, 0, []),
  (520, .iaload, 1, 0, 0, 0, []),
  (521, .aload_n 0, 1, 0, 0, 0, []),
  (522, .iload_n 3, 1, 3, 0, 0, []),
  (523, .iconst 2, 1, 0, 2, 0, []),
  (524, .iadd, 1, 0, 0, 0, []),
  (525, .iaload, 1, 0, 0, 0, []),
  (526, .invokevirtual 54, 3, 109, 0, 0, []),
  (529, .aload_n 2, 1, 2, 0, 0, []),
  (530, .aload_n 0, 1, 0, 0, 0, []),
  (531, .iload_n 3, 1, 3, 0, 0, []),
  (532, .iconst 1, 1, 0, 1, 0, []),
  (533, .iadd, 1, 0, 0, 0, []),
  (534, .iaload, 1, 0, 0, 0, []),
  (535, .aload_n 0, 1, 0, 0, 0, []),
  (536, .iload_n 3, 1, 3, 0, 0, []),
  (537, .iconst 2, 1, 0, 2, 0, []),
  (538, .iadd, 1, 0, 0, 0, []),
  (539, .iaload, 1, 0, 0, 0, []),
  (540, .invokevirtual 57, 3, 201, 0, 0, []),
  (543, .if_icmp .eq 1082, 3, 1625, 0, 0, []),
  (546, .iconst 0, 1, 0, 0, 0, []),
  (547, .ireturn, 1, 0, 0, 0, []),
  (548, .aload_n 1, 1, 1, 0, 0, []),
  (549, .aload_n 0, 1, 0, 0, 0, []),
  (550, .iload_n 3, 1, 3, 0, 0, []),
  (551, .iconst 1, 1, 0, 1, 0, []),
  (552, .iadd, 1, 0, 0, 0, []),
  (553, .iaload, 1, 0, 0, 0, []),
  (554, .aload_n 0, 1, 0, 0, 0, []),
  (555, .iload_n 3, 1, 3, 0, 0, []),
  (556, .iconst 2, 1, 0, 2, 0, []),
  (557, .iadd, 1, 0, 0, 0, []),
  (558, .iaload, 1, 0, 0, 0, []),
  (559, .aload_n 0, 1, 0, 0, 0, []),
  (560, .iload_n 3, 1, 3, 0, 0, []),
  (561, .iconst 3, 1, 0, 3, 0, []),
  (562, .iadd, 1, 0, 0, 0, []),
  (563, .iaload, 1, 0, 0, 0, []),
  (564, .invokevirtual 58, 3, 110, 0, 0, []),
  (567, .aload_n 2, 1, 2, 0, 0, [])]
def mo_L_3 : List mO := [
  (568, .aload_n 0, 1, 0, 0, 0, []),
  (569, .iload_n 3, 1, 3, 0, 0, []),
  (570, .iconst 1, 1, 0, 1, 0, []),
  (571, .iadd, 1, 0, 0, 0, []),
  (572, .iaload, 1, 0, 0, 0, []),
  (573, .aload_n 0, 1, 0, 0, 0, []),
  (574, .iload_n 3, 1, 3, 0, 0, []),
  (575, .iconst 2, 1, 0, 2, 0, []),
  (576, .iadd, 1, 0, 0, 0, []),
  (577, .iaload, 1, 0, 0, 0, []),
  (578, .aload_n 0, 1, 0, 0, 0, []),
  (579, .iload_n 3, 1, 3, 0, 0, []),
  (580, .iconst 3, 1, 0, 3, 0, []),
  (581, .iadd, 1, 0, 0, 0, []),
  (582, .iaload, 1, 0, 0, 0, []),
  (583, .invokevirtual 61, 3, 211, 0, 0, []),
  (586, .if_icmp .eq 1039, 3, 1625, 0, 0, []),
  (589, .iconst 0, 1, 0, 0, 0, []),
  (590, .ireturn, 1, 0, 0, 0, []),
  (591, .aload_n 1, 1, 1, 0, 0, []),
  (592, .aload_n 0, 1, 0, 0, 0, []),
  (593, .iload_n 3, 1, 3, 0, 0, []),
  (594, .iconst 1, 1, 0, 1, 0, []),
  (595, .iadd, 1, 0, 0, 0, []),
  (596, .iaload, 1, 0, 0, 0, []),
  (597, .aload_n 0, 1, 0, 0, 0, []),
  (598, .iload_n 3, 1, 3, 0, 0, []),
  (599, .iconst 2, 1, 0, 2, 0, []),
  (600, .iadd, 1, 0, 0, 0, []),
  (601, .iaload, 1, 0, 0, 0, []),
  (602, .invokevirtual 62, 3, 111, 0, 0, []),
  (605, .aload_n 2, 1, 2, 0, 0, []),
  (606, .aload_n 0, 1, 0, 0, 0, []),
  (607, .iload_n 3, 1, 3, 0, 0, []),
  (608, .iconst 1, 1, 0, 1, 0, []),
  (609, .iadd, 1, 0, 0, 0, []),
  (610, .iaload, 1, 0, 0, 0, []),
  (611, .aload_n 0, 1, 0, 0, 0, []),
  (612, .iload_n 3, 1, 3, 0, 0, []),
  (613, .iconst 2, 1, 0, 2, 0, []),
  (614, .iadd, 1, 0, 0, 0, []),
  (615, .iaload, 1, 0, 0, 0, []),
  (616, .invokevirtual 65, 3, 213, 0, 0, []),
  (619, .if_icmp .eq 1006, 3, 1625, 0, 0, []),
  (622, .iconst 0, 1, 0, 0, 0, []),
  (623, .ireturn, 1, 0, 0, 0, []),
  (624, .aload_n 1, 1, 1, 0, 0, []),
  (625, .aload_n 0, 1, 0, 0, 0, []),
  (626, .iload_n 3, 1, 3, 0, 0, []),
  (627, .iconst 1, 1, 0, 1, 0, []),
  (628, .iadd, 1, 0, 0, 0, []),
  (629, .iaload, 1, 0, 0, 0, []),
  (630, .invokevirtual 66, 3, 112, 0, 0, []),
  (633, .aload_n 2, 1, 2, 0, 0, []),
  (634, .aload_n 0, 1, 0, 0, 0, []),
  (635, .iload_n 3, 1, 3, 0, 0, []),
  (636, .iconst 1, 1, 0, 1, 0, []),
  (637, .iadd, 1, 0, 0, 0, []),
  (638, .iaload, 1, 0, 0, 0, []),
  (639, .invokevirtual 69, 3, 214, 0, 0, []),
  (642, .if_icmp .eq 983, 3, 1625, 0, 0, []),
  (645, .iconst 0, 1, 0, 0, 0, []),
  (646, .ireturn, 1, 0, 0, 0, []),
  (647, .aload_n 1, 1, 1, 0, 0, []),
  (648, .aload_n 0, 1, 0, 0, 0, []),
  (649, .iload_n 3, 1, 3, 0, 0, []),
  (650, .iconst 1, 1, 0, 1, 0, []),
  (651, .iadd, 1, 0, 0, 0, []),
  (652, .iaload, 1, 0, 0, 0, []),
  (653, .aload_n 0, 1, 0, 0, 0, []),
  (654, .iload_n 3, 1, 3, 0, 0, []),
  (655, .iconst 2, 1, 0, 2, 0, []),
  (656, .iadd, 1, 0, 0, 0, []),
  (657, .iaload, 1, 0, 0, 0, []),
  (658, .invokevirtual 70, 3, 113, 0, 0, []),
  (661, .aload_n 2, 1, 2, 0, 0, []),
  (662, .aload_n 0, 1, 0, 0, 0, []),
  (663, .iload_n 3, 1, 3, 0, 0, []),
  (664, .iconst 1, 1, 0, 1, 0, []),
  (665, .iadd, 1, 0, 0, 0, []),
  (666, .iaload, 1, 0, 0, 0, []),
  (667, .aload_n 0, 1, 0, 0, 0, []),
  (668, .iload_n 3, 1, 3, 0, 0, []),
  (669, .iconst 2, 1, 0, 2, 0, []),
  (670, .iadd, 1, 0, 0, 0, []),
  (671, .iaload, 1, 0, 0, 0, []),
  (672, .invokevirtual 73, 3, 217, 0, 0, []),
  (675, .if_icmp .eq 950, 3, 1625, 0, 0, []),
  (678, .iconst 0, 1, 0, 0, 0, []),
  (679, .ireturn, 1, 0, 0, 0, []),
  (680, .aload_n 1, 1, 1, 0, 0, []),
  (681, .aload_n 0, 1, 0, 0, 0, []),
  (682, .iload_n 3, 1, 3, 0, 0, []),
  (683, .iconst 1, 1, 0, 1, 0, []),
  (684, .iadd, 1, 0, 0, 0, []),
  (685, .iaload, 1, 0, 0, 0, []),
  (686, .invokevirtual 74, 3, 114, 0, 0, []),
  (689, .aload_n 2, 1, 2, 0, 0, []),
  (690, .aload_n 0, 1, 0, 0, 0, []),
  (691, .iload_n 3, 1, 3, 0, 0, [])]
def mo_L_4 : List mO := [
  (692, .iconst 1, 1, 0, 1, 0, []),
  (693, .iadd, 1, 0, 0, 0, []),
  (694, .iaload, 1, 0, 0, 0, []),
  (695, .invokevirtual 77, 3, 222, 0, 0, []),
  (698, .if_icmp .eq 927, 3, 1625, 0, 0, []),
  (701, .iconst 0, 1, 0, 0, 0, []),
  (702, .ireturn, 1, 0, 0, 0, []),
  (703, .aload_n 1, 1, 1, 0, 0, []),
  (704, .invokevirtual 78, 3, 115, 0, 0, []),
  (707, .aload_n 2, 1, 2, 0, 0, []),
  (708, .invokevirtual 81, 3, 224, 0, 0, []),
  (711, .if_icmp .eq 914, 3, 1625, 0, 0, []),
  (714, .iconst 0, 1, 0, 0, 0, []),
  (715, .ireturn, 1, 0, 0, 0, []),
  (716, .aload_n 1, 1, 1, 0, 0, []),
  (717, .aload_n 0, 1, 0, 0, 0, []),
  (718, .iload_n 3, 1, 3, 0, 0, []),
  (719, .iconst 1, 1, 0, 1, 0, []),
  (720, .iadd, 1, 0, 0, 0, []),
  (721, .iaload, 1, 0, 0, 0, []),
  (722, .aload_n 0, 1, 0, 0, 0, []),
  (723, .iload_n 3, 1, 3, 0, 0, []),
  (724, .iconst 2, 1, 0, 2, 0, []),
  (725, .iadd, 1, 0, 0, 0, []),
  (726, .iaload, 1, 0, 0, 0, []),
  (727, .invokevirtual 82, 3, 116, 0, 0, []),
  (730, .aload_n 2, 1, 2, 0, 0, []),
  (731, .aload_n 0, 1, 0, 0, 0, []),
  (732, .iload_n 3, 1, 3, 0, 0, []),
  (733, .iconst 1, 1, 0, 1, 0, []),
  (734, .iadd, 1, 0, 0, 0, []),
  (735, .iaload, 1, 0, 0, 0, []),
  (736, .aload_n 0, 1, 0, 0, 0, []),
  (737, .iload_n 3, 1, 3, 0, 0, []),
  (738, .iconst 2, 1, 0, 2, 0, []),
  (739, .iadd, 1, 0, 0, 0, []),
  (740, .iaload, 1, 0, 0, 0, []),
  (741, .invokevirtual 85, 3, 218, 0, 0, []),
  (744, .if_icmp .eq 881, 3, 1625, 0, 0, []),
  (747, .iconst 0, 1, 0, 0, 0, []),
  (748, .ireturn, 1, 0, 0, 0, []),
  (749, .aload_n 1, 1, 1, 0, 0, []),
  (750, .aload_n 0, 1, 0, 0, 0, []),
  (751, .iload_n 3, 1, 3, 0, 0, []),
  (752, .iconst 1, 1, 0, 1, 0, []),
  (753, .iadd, 1, 0, 0, 0, []),
  (754, .iaload, 1, 0, 0, 0, []),
  (755, .aload_n 0, 1, 0, 0, 0, []),
  (756, .iload_n 3, 1, 3, 0, 0, []),
  (757, .iconst 2, 1, 0, 2, 0, []),
  (758, .iadd, 1, 0, 0, 0, []),
  (759, .iaload, 1, 0, 0, 0, []),
  (760, .invokevirtual 86, 3, 117, 0, 0, []),
  (763, .aload_n 2, 1, 2, 0, 0, []),
  (764, .aload_n 0, 1, 0, 0, 0, []),
  (765, .iload_n 3, 1, 3, 0, 0, []),
  (766, .iconst 1, 1, 0, 1, 0, []),
  (767, .iadd, 1, 0, 0, 0, []),
  (768, .iaload, 1, 0, 0, 0, []),
  (769, .aload_n 0, 1, 0, 0, 0, []),
  (770, .iload_n 3, 1, 3, 0, 0, []),
  (771, .iconst 2, 1, 0, 2, 0, []),
  (772, .iadd, 1, 0, 0, 0, []),
  (773, .iaload, 1, 0, 0, 0, []),
  (774, .invokevirtual 89, 3, 226, 0, 0, []),
  (777, .if_icmp .eq 848, 3, 1625, 0, 0, []),
  (780, .iconst 0, 1, 0, 0, 0, []),
  (781, .ireturn, 1, 0, 0, 0, []),
  (782, .aload_n 1, 1, 1, 0, 0, []),
  (783, .aload_n 0, 1, 0, 0, 0, []),
  (784, .iload_n 3, 1, 3, 0, 0, []),
  (785, .iconst 1, 1, 0, 1, 0, []),
  (786, .iadd, 1, 0, 0, 0, []),
  (787, .iaload, 1, 0, 0, 0, []),
  (788, .aload_n 0, 1, 0, 0, 0, []),
  (789, .iload_n 3, 1, 3, 0, 0, []),
  (790, .iconst 2, 1, 0, 2, 0, []),
  (791, .iadd, 1, 0, 0, 0, []),
  (792, .iaload, 1, 0, 0, 0, []),
  (793, .invokevirtual 90, 3, 118, 0, 0, []),
  (796, .aload_n 2, 1, 2, 0, 0, []),
  (797, .aload_n 0, 1, 0, 0, 0, []),
  (798, .iload_n 3, 1, 3, 0, 0, []),
  (799, .iconst 1, 1, 0, 1, 0, []),
  (800, .iadd, 1, 0, 0, 0, []),
  (801, .iaload, 1, 0, 0, 0, []),
  (802, .aload_n 0, 1, 0, 0, 0, []),
  (803, .iload_n 3, 1, 3, 0, 0, []),
  (804, .iconst 2, 1, 0, 2, 0, []),
  (805, .iadd, 1, 0, 0, 0, []),
  (806, .iaload, 1, 0, 0, 0, []),
  (807, .invokevirtual 93, 3, 228, 0, 0, []),
  (810, .if_icmp .eq 815, 3, 1625, 0, 0, []),
  (813, .iconst 0, 1, 0, 0, 0, []),
  (814, .ireturn, 1, 0, 0, 0, []),
  (815, .aload_n 1, 1, 1, 0, 0, []),
  (816, .aload_n 0, 1, 0, 0, 0, []),
  (817, .iload_n 3, 1, 3, 0, 0, []),
  (818, .iconst 1, 1, 0, 1, 0, []),
  (819, .iadd, 1, 0, 0, 0, [])]
def mo_L_5 : List mO := [
  (820, .iaload, 1, 0, 0, 0, []),
  (821, .invokevirtual 94, 3, 119, 0, 0, []),
  (824, .aload_n 2, 1, 2, 0, 0, []),
  (825, .aload_n 0, 1, 0, 0, 0, []),
  (826, .iload_n 3, 1, 3, 0, 0, []),
  (827, .iconst 1, 1, 0, 1, 0, []),
  (828, .iadd, 1, 0, 0, 0, []),
  (829, .iaload, 1, 0, 0, 0, []),
  (830, .invokevirtual 97, 3, 229, 0, 0, []),
  (833, .if_icmp .eq 792, 3, 1625, 0, 0, []),
  (836, .iconst 0, 1, 0, 0, 0, []),
  (837, .ireturn, 1, 0, 0, 0, []),
  (838, .aload_n 1, 1, 1, 0, 0, []),
  (839, .aload_n 0, 1, 0, 0, 0, []),
  (840, .iload_n 3, 1, 3, 0, 0, []),
  (841, .iconst 1, 1, 0, 1, 0, []),
  (842, .iadd, 1, 0, 0, 0, []),
  (843, .iaload, 1, 0, 0, 0, []),
  (844, .aload_n 0, 1, 0, 0, 0, []),
  (845, .iload_n 3, 1, 3, 0, 0, []),
  (846, .iconst 2, 1, 0, 2, 0, []),
  (847, .iadd, 1, 0, 0, 0, []),
  (848, .iaload, 1, 0, 0, 0, []),
  (849, .invokevirtual 98, 3, 120, 0, 0, []),
  (852, .aload_n 2, 1, 2, 0, 0, []),
  (853, .aload_n 0, 1, 0, 0, 0, []),
  (854, .iload_n 3, 1, 3, 0, 0, []),
  (855, .iconst 1, 1, 0, 1, 0, []),
  (856, .iadd, 1, 0, 0, 0, []),
  (857, .iaload, 1, 0, 0, 0, []),
  (858, .aload_n 0, 1, 0, 0, 0, []),
  (859, .iload_n 3, 1, 3, 0, 0, []),
  (860, .iconst 2, 1, 0, 2, 0, []),
  (861, .iadd, 1, 0, 0, 0, []),
  (862, .iaload, 1, 0, 0, 0, []),
  (863, .invokevirtual 101, 3, 232, 0, 0, []),
  (866, .if_icmp .eq 759, 3, 1625, 0, 0, []),
  (869, .iconst 0, 1, 0, 0, 0, []),
  (870, .ireturn, 1, 0, 0, 0, []),
  (871, .aload_n 1, 1, 1, 0, 0, []),
  (872, .aload_n 0, 1, 0, 0, 0, []),
  (873, .iload_n 3, 1, 3, 0, 0, []),
  (874, .iconst 1, 1, 0, 1, 0, []),
  (875, .iadd, 1, 0, 0, 0, []),
  (876, .iaload, 1, 0, 0, 0, []),
  (877, .aload_n 0, 1, 0, 0, 0, []),
  (878, .iload_n 3, 1, 3, 0, 0, []),
  (879, .iconst 2, 1, 0, 2, 0, []),
  (880, .iadd, 1, 0, 0, 0, []),
  (881, .iaload, 1, 0, 0, 0, []),
  (882, .invokevirtual 102, 3, 121, 0, 0, []),
  (885, .aload_n 2, 1, 2, 0, 0, []),
  (886, .aload_n 0, 1, 0, 0, 0, []),
  (887, .iload_n 3, 1, 3, 0, 0, []),
  (888, .iconst 1, 1, 0, 1, 0, []),
  (889, .iadd, 1, 0, 0, 0, []),
  (890, .iaload, 1, 0, 0, 0, []),
  (891, .aload_n 0, 1, 0, 0, 0, []),
  (892, .iload_n 3, 1, 3, 0, 0, []),
  (893, .iconst 2, 1, 0, 2, 0, []),
  (894, .iadd, 1, 0, 0, 0, []),
  (895, .iaload, 1, 0, 0, 0, []),
  (896, .invokevirtual 106, 3, 235, 0, 0, []),
  (899, .lcmp, 1, 0, 0, 0, []),
  (900, .ifCond .eq 725, 3, 1625, 0, 0, []),
  (903, .iconst 0, 1, 0, 0, 0, []),
  (904, .ireturn, 1, 0, 0, 0, []),
  (905, .aload_n 1, 1, 1, 0, 0, []),
  (906, .aload_n 0, 1, 0, 0, 0, []),
  (907, .iload_n 3, 1, 3, 0, 0, []),
  (908, .iconst 1, 1, 0, 1, 0, []),
  (909, .iadd, 1, 0, 0, 0, []),
  (910, .iaload, 1, 0, 0, 0, []),
  (911, .aload_n 0, 1, 0, 0, 0, []),
  (912, .iload_n 3, 1, 3, 0, 0, []),
  (913, .iconst 2, 1, 0, 2, 0, []),
  (914, .iadd, 1, 0, 0, 0, []),
  (915, .iaload, 1, 0, 0, 0, []),
  (916, .invokevirtual 107, 3, 122, 0, 0, []),
  (919, .aload_n 2, 1, 2, 0, 0, []),
  (920, .aload_n 0, 1, 0, 0, 0, []),
  (921, .iload_n 3, 1, 3, 0, 0, []),
  (922, .iconst 1, 1, 0, 1, 0, []),
  (923, .iadd, 1, 0, 0, 0, []),
  (924, .iaload, 1, 0, 0, 0, []),
  (925, .aload_n 0, 1, 0, 0, 0, []),
  (926, .iload_n 3, 1, 3, 0, 0, []),
  (927, .iconst 2, 1, 0, 2, 0, []),
  (928, .iadd, 1, 0, 0, 0, []),
  (929, .iaload, 1, 0, 0, 0, []),
  (930, .invokevirtual 110, 3, 236, 0, 0, []),
  (933, .if_icmp .eq 692, 3, 1625, 0, 0, []),
  (936, .iconst 0, 1, 0, 0, 0, []),
  (937, .ireturn, 1, 0, 0, 0, []),
  (938, .aload_n 1, 1, 1, 0, 0, []),
  (939, .aload_n 0, 1, 0, 0, 0, []),
  (940, .iload_n 3, 1, 3, 0, 0, []),
  (941, .iconst 1, 1, 0, 1, 0, []),
  (942, .iadd, 1, 0, 0, 0, []),
  (943, .iaload, 1, 0, 0, 0, [])]
def mo_L_6 : List mO := [
  (944, .aload_n 0, 1, 0, 0, 0, []),
  (945, .iload_n 3, 1, 3, 0, 0, []),
  (946, .iconst 2, 1, 0, 2, 0, []),
  (947, .iadd, 1, 0, 0, 0, []),
  (948, .iaload, 1, 0, 0, 0, []),
  (949, .aload_n 0, 1, 0, 0, 0, []),
  (950, .iload_n 3, 1, 3, 0, 0, []),
  (951, .iconst 3, 1, 0, 3, 0, []),
  (952, .iadd, 1, 0, 0, 0, []),
  (953, .iaload, 1, 0, 0, 0, []),
  (954, .aload_n 0, 1, 0, 0, 0, []),
  (955, .iload_n 3, 1, 3, 0, 0, []),
  (956, .iconst 4, 1, 0, 4, 0, []),
  (957, .iadd, 1, 0, 0, 0, []),
  (958, .iaload, 1, 0, 0, 0, []),
  (959, .invokevirtual 111, 3, 123, 0, 0, []),
  (962, .aload_n 2, 1, 2, 0, 0, []),
  (963, .aload_n 0, 1, 0, 0, 0, []),
  (964, .iload_n 3, 1, 3, 0, 0, []),
  (965, .iconst 1, 1, 0, 1, 0, []),
  (966, .iadd, 1, 0, 0, 0, []),
  (967, .iaload, 1, 0, 0, 0, []),
  (968, .aload_n 0, 1, 0, 0, 0, []),
  (969, .iload_n 3, 1, 3, 0, 0, []),
  (970, .iconst 2, 1, 0, 2, 0, []),
  (971, .iadd, 1, 0, 0, 0, []),
  (972, .iaload, 1, 0, 0, 0, []),
  (973, .aload_n 0, 1, 0, 0, 0, []),
  (974, .iload_n 3, 1, 3, 0, 0, []),
  (975, .iconst 3, 1, 0, 3, 0, []),
  (976, .iadd, 1, 0, 0, 0, []),
  (977, .iaload, 1, 0, 0, 0, []),
  (978, .aload_n 0, 1, 0, 0, 0, []),
  (979, .iload_n 3, 1, 3, 0, 0, []),
  (980, .iconst 4, 1, 0, 4, 0, []),
  (981, .iadd, 1, 0, 0, 0, []),
  (982, .iaload, 1, 0, 0, 0, []),
  (983, .invokevirtual 114, 3, 241, 0, 0, []),
  (986, .if_icmp .eq 639, 3, 1625, 0, 0, []),
  (989, .iconst 0, 1, 0, 0, 0, []),
  (990, .ireturn, 1, 0, 0, 0, []),
  (991, .aload_n 1, 1, 1, 0, 0, []),
  (992, .aload_n 0, 1, 0, 0, 0, []),
  (993, .iload_n 3, 1, 3, 0, 0, []),
  (994, .iconst 1, 1, 0, 1, 0, []),
  (995, .iadd, 1, 0, 0, 0, []),
  (996, .iaload, 1, 0, 0, 0, []),
  (997, .aload_n 0, 1, 0, 0, 0, []),
  (998, .iload_n 3, 1, 3, 0, 0, []),
  (999, .iconst 2, 1, 0, 2, 0, []),
  (1000, .iadd, 1, 0, 0, 0, []),
  (1001, .iaload, 1, 0, 0, 0, []),
  (1002, .aload_n 0, 1, 0, 0, 0, []),
  (1003, .iload_n 3, 1, 3, 0, 0, []),
  (1004, .iconst 3, 1, 0, 3, 0, []),
  (1005, .iadd, 1, 0, 0, 0, []),
  (1006, .iaload, 1, 0, 0, 0, []),
  (1007, .aload_n 0, 1, 0, 0, 0, []),
  (1008, .iload_n 3, 1, 3, 0, 0, []),
  (1009, .iconst 4, 1, 0, 4, 0, []),
  (1010, .iadd, 1, 0, 0, 0, []),
  (1011, .iaload, 1, 0, 0, 0, []),
  (1012, .invokevirtual 115, 3, 124, 0, 0, []),
  (1015, .aload_n 2, 1, 2, 0, 0, []),
  (1016, .aload_n 0, 1, 0, 0, 0, []),
  (1017, .iload_n 3, 1, 3, 0, 0, []),
  (1018, .iconst 1, 1, 0, 1, 0, []),
  (1019, .iadd, 1, 0, 0, 0, []),
  (1020, .iaload, 1, 0, 0, 0, []),
  (1021, .aload_n 0, 1, 0, 0, 0, []),
  (1022, .iload_n 3, 1, 3, 0, 0, []),
  (1023, .iconst 2, 1, 0, 2, 0, []),
  (1024, .iadd, 1, 0, 0, 0, []),
  (1025, .iaload, 1, 0, 0, 0, []),
  (1026, .aload_n 0, 1, 0, 0, 0, []),
  (1027, .iload_n 3, 1, 3, 0, 0, []),
  (1028, .iconst 3, 1, 0, 3, 0, []),
  (1029, .iadd, 1, 0, 0, 0, []),
  (1030, .iaload, 1, 0, 0, 0, []),
  (1031, .aload_n 0, 1, 0, 0, 0, []),
  (1032, .iload_n 3, 1, 3, 0, 0, []),
  (1033, .iconst 4, 1, 0, 4, 0, []),
  (1034, .iadd, 1, 0, 0, 0, []),
  (1035, .iaload, 1, 0, 0, 0, []),
  (1036, .invokevirtual 118, 3, 242, 0, 0, []),
  (1039, .if_icmp .eq 586, 3, 1625, 0, 0, []),
  (1042, .iconst 0, 1, 0, 0, 0, []),
  (1043, .ireturn, 1, 0, 0, 0, []),
  (1044, .aload_n 1, 1, 1, 0, 0, []),
  (1045, .aload_n 0, 1, 0, 0, 0, []),
  (1046, .iload_n 3, 1, 3, 0, 0, []),
  (1047, .iconst 1, 1, 0, 1, 0, []),
  (1048, .iadd, 1, 0, 0, 0, []),
  (1049, .iaload, 1, 0, 0, 0, []),
  (1050, .aload_n 0, 1, 0, 0, 0, []),
  (1051, .iload_n 3, 1, 3, 0, 0, []),
  (1052, .iconst 2, 1, 0, 2, 0, []),
  (1053, .iadd, 1, 0, 0, 0, []),
  (1054, .iaload, 1, 0, 0, 0, []),
  (1055, .invokevirtual 119, 3, 125, 0, 0, [])]
def mo_L_7 : List mO := [
  (1058, .aload_n 2, 1, 2, 0, 0, []),
  (1059, .aload_n 0, 1, 0, 0, 0, []),
  (1060, .iload_n 3, 1, 3, 0, 0, []),
  (1061, .iconst 1, 1, 0, 1, 0, []),
  (1062, .iadd, 1, 0, 0, 0, []),
  (1063, .iaload, 1, 0, 0, 0, []),
  (1064, .aload_n 0, 1, 0, 0, 0, []),
  (1065, .iload_n 3, 1, 3, 0, 0, []),
  (1066, .iconst 2, 1, 0, 2, 0, []),
  (1067, .iadd, 1, 0, 0, 0, []),
  (1068, .iaload, 1, 0, 0, 0, []),
  (1069, .invokevirtual 122, 3, 243, 0, 0, []),
  (1072, .if_icmp .eq 553, 3, 1625, 0, 0, []),
  (1075, .iconst 0, 1, 0, 0, 0, []),
  (1076, .ireturn, 1, 0, 0, 0, []),
  (1077, .aload_n 1, 1, 1, 0, 0, []),
  (1078, .aload_n 0, 1, 0, 0, 0, []),
  (1079, .iload_n 3, 1, 3, 0, 0, []),
  (1080, .iconst 1, 1, 0, 1, 0, []),
  (1081, .iadd, 1, 0, 0, 0, []),
  (1082, .iaload, 1, 0, 0, 0, []),
  (1083, .invokevirtual 123, 3, 126, 0, 0, []),
  (1086, .aload_n 2, 1, 2, 0, 0, []),
  (1087, .aload_n 0, 1, 0, 0, 0, []),
  (1088, .iload_n 3, 1, 3, 0, 0, []),
  (1089, .iconst 1, 1, 0, 1, 0, []),
  (1090, .iadd, 1, 0, 0, 0, []),
  (1091, .iaload, 1, 0, 0, 0, []),
  (1092, .invokevirtual 126, 3, 244, 0, 0, []),
  (1095, .if_icmp .eq 530, 3, 1625, 0, 0, []),
  (1098, .iconst 0, 1, 0, 0, 0, []),
  (1099, .ireturn, 1, 0, 0, 0, []),
  (1100, .aload_n 1, 1, 1, 0, 0, []),
  (1101, .aload_n 0, 1, 0, 0, 0, []),
  (1102, .iload_n 3, 1, 3, 0, 0, []),
  (1103, .iconst 1, 1, 0, 1, 0, []),
  (1104, .iadd, 1, 0, 0, 0, []),
  (1105, .iaload, 1, 0, 0, 0, []),
  (1106, .invokevirtual 127, 3, 127, 0, 0, []),
  (1109, .aload_n 2, 1, 2, 0, 0, []),
  (1110, .aload_n 0, 1, 0, 0, 0, []),
  (1111, .iload_n 3, 1, 3, 0, 0, []),
  (1112, .iconst 1, 1, 0, 1, 0, []),
  (1113, .iadd, 1, 0, 0, 0, []),
  (1114, .iaload, 1, 0, 0, 0, []),
  (1115, .invokevirtual 130, 3, 245, 0, 0, []),
  (1118, .if_icmp .eq 507, 3, 1625, 0, 0, []),
  (1121, .iconst 0, 1, 0, 0, 0, []),
  (1122, .ireturn, 1, 0, 0, 0, []),
  (1123, .aload_n 1, 1, 1, 0, 0, []),
  (1124, .aload_n 0, 1, 0, 0, 0, []),
  (1125, .iload_n 3, 1, 3, 0, 0, []),
  (1126, .iconst 1, 1, 0, 1, 0, []),
  (1127, .iadd, 1, 0, 0, 0, []),
  (1128, .iaload, 1, 0, 0, 0, []),
  (1129, .invokevirtual 131, 3, 128, 0, 0, []),
  (1132, .aload_n 2, 1, 2, 0, 0, []),
  (1133, .aload_n 0, 1, 0, 0, 0, []),
  (1134, .iload_n 3, 1, 3, 0, 0, []),
  (1135, .iconst 1, 1, 0, 1, 0, []),
  (1136, .iadd, 1, 0, 0, 0, []),
  (1137, .iaload, 1, 0, 0, 0, []),
  (1138, .invokevirtual 134, 3, 246, 0, 0, []),
  (1141, .if_icmp .eq 484, 3, 1625, 0, 0, []),
  (1144, .iconst 0, 1, 0, 0, 0, []),
  (1145, .ireturn, 1, 0, 0, 0, []),
  (1146, .aload_n 1, 1, 1, 0, 0, []),
  (1147, .invokevirtual 135, 3, 129, 0, 0, []),
  (1150, .aload_n 2, 1, 2, 0, 0, []),
  (1151, .invokevirtual 138, 3, 247, 0, 0, []),
  (1154, .if_icmp .eq 471, 3, 1625, 0, 0, []),
  (1157, .iconst 0, 1, 0, 0, 0, []),
  (1158, .ireturn, 1, 0, 0, 0, []),
  (1159, .aload_n 1, 1, 1, 0, 0, []),
  (1160, .aload_n 0, 1, 0, 0, 0, []),
  (1161, .iload_n 3, 1, 3, 0, 0, []),
  (1162, .iconst 1, 1, 0, 1, 0, []),
  (1163, .iadd, 1, 0, 0, 0, []),
  (1164, .iaload, 1, 0, 0, 0, []),
  (1165, .invokevirtual 139, 3, 130, 0, 0, []),
  (1168, .aload_n 2, 1, 2, 0, 0, []),
  (1169, .aload_n 0, 1, 0, 0, 0, []),
  (1170, .iload_n 3, 1, 3, 0, 0, []),
  (1171, .iconst 1, 1, 0, 1, 0, []),
  (1172, .iadd, 1, 0, 0, 0, []),
  (1173, .iaload, 1, 0, 0, 0, []),
  (1174, .invokevirtual 142, 3, 248, 0, 0, []),
  (1177, .if_icmp .eq 448, 3, 1625, 0, 0, []),
  (1180, .iconst 0, 1, 0, 0, 0, []),
  (1181, .ireturn, 1, 0, 0, 0, []),
  (1182, .aload_n 1, 1, 1, 0, 0, []),
  (1183, .invokevirtual 143, 3, 131, 0, 0, []),
  (1186, .aload_n 2, 1, 2, 0, 0, []),
  (1187, .invokevirtual 146, 3, 249, 0, 0, []),
  (1190, .if_icmp .eq 435, 3, 1625, 0, 0, []),
  (1193, .iconst 0, 1, 0, 0, 0, []),
  (1194, .ireturn, 1, 0, 0, 0, []),
  (1195, .aload_n 1, 1, 1, 0, 0, []),
  (1196, .invokevirtual 147, 3, 132, 0, 0, []),
  (1199, .aload_n 2, 1, 2, 0, 0, [])]
def mo_L_8 : List mO := [
  (1200, .invokevirtual 150, 3, 250, 0, 0, []),
  (1203, .if_icmp .eq 422, 3, 1625, 0, 0, []),
  (1206, .iconst 0, 1, 0, 0, 0, []),
  (1207, .ireturn, 1, 0, 0, 0, []),
  (1208, .aload_n 1, 1, 1, 0, 0, []),
  (1209, .invokevirtual 151, 3, 133, 0, 0, []),
  (1212, .aload_n 2, 1, 2, 0, 0, []),
  (1213, .invokevirtual 154, 3, 168, 0, 0, []),
  (1216, .if_icmp .eq 409, 3, 1625, 0, 0, []),
  (1219, .iconst 0, 1, 0, 0, 0, []),
  (1220, .ireturn, 1, 0, 0, 0, []),
  (1221, .aload_n 1, 1, 1, 0, 0, []),
  (1222, .invokevirtual 155, 3, 134, 0, 0, []),
  (1225, .aload_n 2, 1, 2, 0, 0, []),
  (1226, .invokevirtual 158, 3, 169, 0, 0, []),
  (1229, .if_icmp .eq 396, 3, 1625, 0, 0, []),
  (1232, .iconst 0, 1, 0, 0, 0, []),
  (1233, .ireturn, 1, 0, 0, 0, []),
  (1234, .aload_n 1, 1, 1, 0, 0, []),
  (1235, .aload_n 0, 1, 0, 0, 0, []),
  (1236, .iload_n 3, 1, 3, 0, 0, []),
  (1237, .iconst 1, 1, 0, 1, 0, []),
  (1238, .iadd, 1, 0, 0, 0, []),
  (1239, .iaload, 1, 0, 0, 0, []),
  (1240, .invokevirtual 159, 3, 135, 0, 0, []),
  (1243, .aload_n 2, 1, 2, 0, 0, []),
  (1244, .aload_n 0, 1, 0, 0, 0, []),
  (1245, .iload_n 3, 1, 3, 0, 0, []),
  (1246, .iconst 1, 1, 0, 1, 0, []),
  (1247, .iadd, 1, 0, 0, 0, []),
  (1248, .iaload, 1, 0, 0, 0, []),
  (1249, .invokevirtual 162, 3, 254, 0, 0, []),
  (1252, .if_icmp .eq 373, 3, 1625, 0, 0, []),
  (1255, .iconst 0, 1, 0, 0, 0, []),
  (1256, .ireturn, 1, 0, 0, 0, []),
  (1257, .aload_n 1, 1, 1, 0, 0, []),
  (1258, .aload_n 0, 1, 0, 0, 0, []),
  (1259, .iload_n 3, 1, 3, 0, 0, []),
  (1260, .iconst 1, 1, 0, 1, 0, []),
  (1261, .iadd, 1, 0, 0, 0, []),
  (1262, .iaload, 1, 0, 0, 0, []),
  (1263, .aload_n 0, 1, 0, 0, 0, []),
  (1264, .iload_n 3, 1, 3, 0, 0, []),
  (1265, .iconst 2, 1, 0, 2, 0, []),
  (1266, .iadd, 1, 0, 0, 0, []),
  (1267, .iaload, 1, 0, 0, 0, []),
  (1268, .aload_n 0, 1, 0, 0, 0, []),
  (1269, .iload_n 3, 1, 3, 0, 0, []),
  (1270, .iconst 3, 1, 0, 3, 0, []),
  (1271, .iadd, 1, 0, 0, 0, []),
  (1272, .iaload, 1, 0, 0, 0, []),
  (1273, .invokevirtual 163, 3, 136, 0, 0, []),
  (1276, .aload_n 2, 1, 2, 0, 0, []),
  (1277, .aload_n 0, 1, 0, 0, 0, []),
  (1278, .iload_n 3, 1, 3, 0, 0, []),
  (1279, .iconst 1, 1, 0, 1, 0, []),
  (1280, .iadd, 1, 0, 0, 0, []),
  (1281, .iaload, 1, 0, 0, 0, []),
  (1282, .aload_n 0, 1, 0, 0, 0, []),
  (1283, .iload_n 3, 1, 3, 0, 0, []),
  (1284, .iconst 2, 1, 0, 2, 0, []),
  (1285, .iadd, 1, 0, 0, 0, []),
  (1286, .iaload, 1, 0, 0, 0, []),
  (1287, .aload_n 0, 1, 0, 0, 0, []),
  (1288, .iload_n 3, 1, 3, 0, 0, []),
  (1289, .iconst 3, 1, 0, 3, 0, []),
  (1290, .iadd, 1, 0, 0, 0, []),
  (1291, .iaload, 1, 0, 0, 0, []),
  (1292, .invokevirtual 166, 3, 267, 0, 0, []),
  (1295, .if_icmp .eq 330, 3, 1625, 0, 0, []),
  (1298, .iconst 0, 1, 0, 0, 0, []),
  (1299, .ireturn, 1, 0, 0, 0, []),
  (1300, .aload_n 1, 1, 1, 0, 0, []),
  (1301, .aload_n 0, 1, 0, 0, 0, []),
  (1302, .iload_n 3, 1, 3, 0, 0, []),
  (1303, .iconst 1, 1, 0, 1, 0, []),
  (1304, .iadd, 1, 0, 0, 0, []),
  (1305, .iaload, 1, 0, 0, 0, []),
  (1306, .invokevirtual 167, 3, 137, 0, 0, []),
  (1309, .aload_n 2, 1, 2, 0, 0, []),
  (1310, .aload_n 0, 1, 0, 0, 0, []),
  (1311, .iload_n 3, 1, 3, 0, 0, []),
  (1312, .iconst 1, 1, 0, 1, 0, []),
  (1313, .iadd, 1, 0, 0, 0, []),
  (1314, .iaload, 1, 0, 0, 0, []),
  (1315, .invokevirtual 170, 3, 253, 0, 0, []),
  (1318, .if_icmp .eq 307, 3, 1625, 0, 0, []),
  (1321, .iconst 0, 1, 0, 0, 0, []),
  (1322, .ireturn, 1, 0, 0, 0, []),
  (1323, .aload_n 1, 1, 1, 0, 0, []),
  (1324, .aload_n 0, 1, 0, 0, 0, []),
  (1325, .iload_n 3, 1, 3, 0, 0, []),
  (1326, .iconst 1, 1, 0, 1, 0, []),
  (1327, .iadd, 1, 0, 0, 0, []),
  (1328, .iaload, 1, 0, 0, 0, []),
  (1329, .aload_n 0, 1, 0, 0, 0, []),
  (1330, .iload_n 3, 1, 3, 0, 0, []),
  (1331, .iconst 2, 1, 0, 2, 0, []),
  (1332, .iadd, 1, 0, 0, 0, []),
  (1333, .iaload, 1, 0, 0, 0, [])]
def mo_L_9 : List mO := [
  (1334, .invokevirtual 171, 3, 138, 0, 0, []),
  (1337, .aload_n 2, 1, 2, 0, 0, []),
  (1338, .aload_n 0, 1, 0, 0, 0, []),
  (1339, .iload_n 3, 1, 3, 0, 0, []),
  (1340, .iconst 1, 1, 0, 1, 0, []),
  (1341, .iadd, 1, 0, 0, 0, []),
  (1342, .iaload, 1, 0, 0, 0, []),
  (1343, .aload_n 0, 1, 0, 0, 0, []),
  (1344, .iload_n 3, 1, 3, 0, 0, []),
  (1345, .iconst 2, 1, 0, 2, 0, []),
  (1346, .iadd, 1, 0, 0, 0, []),
  (1347, .iaload, 1, 0, 0, 0, []),
  (1348, .invokevirtual 174, 3, 270, 0, 0, []),
  (1351, .if_icmp .eq 274, 3, 1625, 0, 0, []),
  (1354, .iconst 0, 1, 0, 0, 0, []),
  (1355, .ireturn, 1, 0, 0, 0, []),
  (1356, .aload_n 1, 1, 1, 0, 0, []),
  (1357, .aload_n 0, 1, 0, 0, 0, []),
  (1358, .iload_n 3, 1, 3, 0, 0, []),
  (1359, .iconst 1, 1, 0, 1, 0, []),
  (1360, .iadd, 1, 0, 0, 0, []),
  (1361, .iaload, 1, 0, 0, 0, []),
  (1362, .aload_n 0, 1, 0, 0, 0, []),
  (1363, .iload_n 3, 1, 3, 0, 0, []),
  (1364, .iconst 2, 1, 0, 2, 0, []),
  (1365, .iadd, 1, 0, 0, 0, []),
  (1366, .iaload, 1, 0, 0, 0, []),
  (1367, .aload_n 0, 1, 0, 0, 0, []),
  (1368, .iload_n 3, 1, 3, 0, 0, []),
  (1369, .iconst 3, 1, 0, 3, 0, []),
  (1370, .iadd, 1, 0, 0, 0, []),
  (1371, .iaload, 1, 0, 0, 0, []),
  (1372, .invokevirtual 175, 3, 139, 0, 0, []),
  (1375, .aload_n 2, 1, 2, 0, 0, []),
  (1376, .aload_n 0, 1, 0, 0, 0, []),
  (1377, .iload_n 3, 1, 3, 0, 0, []),
  (1378, .iconst 1, 1, 0, 1, 0, []),
  (1379, .iadd, 1, 0, 0, 0, []),
  (1380, .iaload, 1, 0, 0, 0, []),
  (1381, .aload_n 0, 1, 0, 0, 0, []),
  (1382, .iload_n 3, 1, 3, 0, 0, []),
  (1383, .iconst 2, 1, 0, 2, 0, []),
  (1384, .iadd, 1, 0, 0, 0, []),
  (1385, .iaload, 1, 0, 0, 0, []),
  (1386, .aload_n 0, 1, 0, 0, 0, []),
  (1387, .iload_n 3, 1, 3, 0, 0, []),
  (1388, .iconst 3, 1, 0, 3, 0, []),
  (1389, .iadd, 1, 0, 0, 0, []),
  (1390, .iaload, 1, 0, 0, 0, []),
  (1391, .invokevirtual 178, 3, 271, 0, 0, []),
  (1394, .if_icmp .eq 231, 3, 1625, 0, 0, []),
  (1397, .iconst 0, 1, 0, 0, 0, []),
  (1398, .ireturn, 1, 0, 0, 0, []),
  (1399, .aload_n 1, 1, 1, 0, 0, []),
  (1400, .aload_n 0, 1, 0, 0, 0, []),
  (1401, .iload_n 3, 1, 3, 0, 0, []),
  (1402, .iconst 1, 1, 0, 1, 0, []),
  (1403, .iadd, 1, 0, 0, 0, []),
  (1404, .iaload, 1, 0, 0, 0, []),
  (1405, .aload_n 0, 1, 0, 0, 0, []),
  (1406, .iload_n 3, 1, 3, 0, 0, []),
  (1407, .iconst 2, 1, 0, 2, 0, []),
  (1408, .iadd, 1, 0, 0, 0, []),
  (1409, .iaload, 1, 0, 0, 0, []),
  (1410, .aload_n 0, 1, 0, 0, 0, []),
  (1411, .iload_n 3, 1, 3, 0, 0, []),
  (1412, .iconst 3, 1, 0, 3, 0, []),
  (1413, .iadd, 1, 0, 0, 0, []),
  (1414, .iaload, 1, 0, 0, 0, []),
  (1415, .i2l, 1, 0, 0, 0, []),
  (1416, .bipush 32, 2, 0, 32, 0, []),
  (1418, .lshl, 1, 0, 0, 0, []),
  (1419, .aload_n 0, 1, 0, 0, 0, []),
  (1420, .iload_n 3, 1, 3, 0, 0, []),
  (1421, .iconst 4, 1, 0, 4, 0, []),
  (1422, .iadd, 1, 0, 0, 0, []),
  (1423, .iaload, 1, 0, 0, 0, []),
  (1424, .i2l, 1, 0, 0, 0, []),
  (1425, .ldc2_w 179, 3, 8091, 0, 4294967295, []),
  (1428, .land, 1, 0, 0, 0, []),
  (1429, .lor, 1, 0, 0, 0, []),
  (1430, .invokevirtual 181, 3, 140, 0, 0, []),
  (1433, .aload_n 2, 1, 2, 0, 0, []),
  (1434, .aload_n 0, 1, 0, 0, 0, []),
  (1435, .iload_n 3, 1, 3, 0, 0, []),
  (1436, .iconst 1, 1, 0, 1, 0, []),
  (1437, .iadd, 1, 0, 0, 0, []),
  (1438, .iaload, 1, 0, 0, 0, []),
  (1439, .aload_n 0, 1, 0, 0, 0, []),
  (1440, .iload_n 3, 1, 3, 0, 0, []),
  (1441, .iconst 2, 1, 0, 2, 0, []),
  (1442, .iadd, 1, 0, 0, 0, []),
  (1443, .iaload, 1, 0, 0, 0, []),
  (1444, .aload_n 0, 1, 0, 0, 0, []),
  (1445, .iload_n 3, 1, 3, 0, 0, []),
  (1446, .iconst 3, 1, 0, 3, 0, []),
  (1447, .iadd, 1, 0, 0, 0, []),
  (1448, .iaload, 1, 0, 0, 0, []),
  (1449, .i2l, 1, 0, 0, 0, []),
  (1450, .bipush 32, 2, 0, 32, 0, [])]
def mo_L_10 : List mO := [
  (1452, .lshl, 1, 0, 0, 0, []),
  (1453, .aload_n 0, 1, 0, 0, 0, []),
  (1454, .iload_n 3, 1, 3, 0, 0, []),
  (1455, .iconst 4, 1, 0, 4, 0, []),
  (1456, .iadd, 1, 0, 0, 0, []),
  (1457, .iaload, 1, 0, 0, 0, []),
  (1458, .i2l, 1, 0, 0, 0, []),
  (1459, .ldc2_w 179, 3, 8091, 0, 4294967295, []),
  (1462, .land, 1, 0, 0, 0, []),
  (1463, .lor, 1, 0, 0, 0, []),
  (1464, .invokevirtual 185, 3, 273, 0, 0, []),
  (1467, .if_icmp .eq 158, 3, 1625, 0, 0, []),
  (1470, .iconst 0, 1, 0, 0, 0, []),
  (1471, .ireturn, 1, 0, 0, 0, []),
  (1472, .aload_n 1, 1, 1, 0, 0, []),
  (1473, .aload_n 0, 1, 0, 0, 0, []),
  (1474, .iload_n 3, 1, 3, 0, 0, []),
  (1475, .iconst 1, 1, 0, 1, 0, []),
  (1476, .iadd, 1, 0, 0, 0, []),
  (1477, .iaload, 1, 0, 0, 0, []),
  (1478, .aload_n 0, 1, 0, 0, 0, []),
  (1479, .iload_n 3, 1, 3, 0, 0, []),
  (1480, .iconst 2, 1, 0, 2, 0, []),
  (1481, .iadd, 1, 0, 0, 0, []),
  (1482, .iaload, 1, 0, 0, 0, []),
  (1483, .invokevirtual 186, 3, 141, 0, 0, []),
  (1486, .aload_n 2, 1, 2, 0, 0, []),
  (1487, .aload_n 0, 1, 0, 0, 0, []),
  (1488, .iload_n 3, 1, 3, 0, 0, []),
  (1489, .iconst 1, 1, 0, 1, 0, []),
  (1490, .iadd, 1, 0, 0, 0, []),
  (1491, .iaload, 1, 0, 0, 0, []),
  (1492, .aload_n 0, 1, 0, 0, 0, []),
  (1493, .iload_n 3, 1, 3, 0, 0, []),
  (1494, .iconst 2, 1, 0, 2, 0, []),
  (1495, .iadd, 1, 0, 0, 0, []),
  (1496, .iaload, 1, 0, 0, 0, []),
  (1497, .invokevirtual 189, 3, 274, 0, 0, []),
  (1500, .lcmp, 1, 0, 0, 0, []),
  (1501, .ifCond .eq 124, 3, 1625, 0, 0, []),
  (1504, .iconst 0, 1, 0, 0, 0, []),
  (1505, .ireturn, 1, 0, 0, 0, []),
  (1506, .aload_n 1, 1, 1, 0, 0, []),
  (1507, .aload_n 0, 1, 0, 0, 0, []),
  (1508, .iload_n 3, 1, 3, 0, 0, []),
  (1509, .iconst 1, 1, 0, 1, 0, []),
  (1510, .iadd, 1, 0, 0, 0, []),
  (1511, .iaload, 1, 0, 0, 0, []),
  (1512, .aload_n 0, 1, 0, 0, 0, []),
  (1513, .iload_n 3, 1, 3, 0, 0, []),
  (1514, .iconst 2, 1, 0, 2, 0, []),
  (1515, .iadd, 1, 0, 0, 0, []),
  (1516, .iaload, 1, 0, 0, 0, []),
  (1517, .aload_n 0, 1, 0, 0, 0, []),
  (1518, .iload_n 3, 1, 3, 0, 0, []),
  (1519, .iconst 3, 1, 0, 3, 0, []),
  (1520, .iadd, 1, 0, 0, 0, []),
  (1521, .iaload, 1, 0, 0, 0, []),
  (1522, .aload_n 0, 1, 0, 0, 0, []),
  (1523, .iload_n 3, 1, 3, 0, 0, []),
  (1524, .iconst 4, 1, 0, 4, 0, []),
  (1525, .iadd, 1, 0, 0, 0, []),
  (1526, .iaload, 1, 0, 0, 0, []),
  (1527, .aload_n 0, 1, 0, 0, 0, []),
  (1528, .iload_n 3, 1, 3, 0, 0, []),
  (1529, .iconst 5, 1, 0, 5, 0, []),
  (1530, .iadd, 1, 0, 0, 0, []),
  (1531, .iaload, 1, 0, 0, 0, []),
  (1532, .invokevirtual 190, 3, 142, 0, 0, []),
  (1535, .aload_n 2, 1, 2, 0, 0, []),
  (1536, .aload_n 0, 1, 0, 0, 0, []),
  (1537, .iload_n 3, 1, 3, 0, 0, []),
  (1538, .iconst 1, 1, 0, 1, 0, []),
  (1539, .iadd, 1, 0, 0, 0, []),
  (1540, .iaload, 1, 0, 0, 0, []),
  (1541, .aload_n 0, 1, 0, 0, 0, []),
  (1542, .iload_n 3, 1, 3, 0, 0, []),
  (1543, .iconst 2, 1, 0, 2, 0, []),
  (1544, .iadd, 1, 0, 0, 0, []),
  (1545, .iaload, 1, 0, 0, 0, []),
  (1546, .aload_n 0, 1, 0, 0, 0, []),
  (1547, .iload_n 3, 1, 3, 0, 0, []),
  (1548, .iconst 3, 1, 0, 3, 0, []),
  (1549, .iadd, 1, 0, 0, 0, []),
  (1550, .iaload, 1, 0, 0, 0, []),
  (1551, .aload_n 0, 1, 0, 0, 0, []),
  (1552, .iload_n 3, 1, 3, 0, 0, []),
  (1553, .iconst 4, 1, 0, 4, 0, []),
  (1554, .iadd, 1, 0, 0, 0, []),
  (1555, .iaload, 1, 0, 0, 0, []),
  (1556, .aload_n 0, 1, 0, 0, 0, []),
  (1557, .iload_n 3, 1, 3, 0, 0, []),
  (1558, .iconst 5, 1, 0, 5, 0, []),
  (1559, .iadd, 1, 0, 0, 0, []),
  (1560, .iaload, 1, 0, 0, 0, []),
  (1561, .invokevirtual 194, 3, 275, 0, 0, []),
  (1564, .if_icmp .eq 61, 3, 1625, 0, 0, []),
  (1567, .iconst 0, 1, 0, 0, 0, []),
  (1568, .ireturn, 1, 0, 0, 0, []),
  (1569, .aload_n 1, 1, 1, 0, 0, [])]
def mo_L_11 : List mO := [
  (1570, .aload_n 0, 1, 0, 0, 0, []),
  (1571, .iload_n 3, 1, 3, 0, 0, []),
  (1572, .iconst 1, 1, 0, 1, 0, []),
  (1573, .iadd, 1, 0, 0, 0, []),
  (1574, .iaload, 1, 0, 0, 0, []),
  (1575, .aload_n 0, 1, 0, 0, 0, []),
  (1576, .iload_n 3, 1, 3, 0, 0, []),
  (1577, .iconst 2, 1, 0, 2, 0, []),
  (1578, .iadd, 1, 0, 0, 0, []),
  (1579, .iaload, 1, 0, 0, 0, []),
  (1580, .invokevirtual 195, 3, 143, 0, 0, []),
  (1583, .aload_n 2, 1, 2, 0, 0, []),
  (1584, .aload_n 0, 1, 0, 0, 0, []),
  (1585, .iload_n 3, 1, 3, 0, 0, []),
  (1586, .iconst 1, 1, 0, 1, 0, []),
  (1587, .iadd, 1, 0, 0, 0, []),
  (1588, .iaload, 1, 0, 0, 0, []),
  (1589, .aload_n 0, 1, 0, 0, 0, []),
  (1590, .iload_n 3, 1, 3, 0, 0, []),
  (1591, .iconst 2, 1, 0, 2, 0, []),
  (1592, .iadd, 1, 0, 0, 0, []),
  (1593, .iaload, 1, 0, 0, 0, []),
  (1594, .invokevirtual 198, 3, 276, 0, 0, []),
  (1597, .if_icmp .eq 28, 3, 1625, 0, 0, []),
  (1600, .iconst 0, 1, 0, 0, 0, []),
  (1601, .ireturn, 1, 0, 0, 0, []),
  (1602, .aload_n 1, 1, 1, 0, 0, []),
  (1603, .aload_n 0, 1, 0, 0, 0, []),
  (1604, .iload_n 3, 1, 3, 0, 0, []),
  (1605, .iconst 1, 1, 0, 1, 0, []),
  (1606, .iadd, 1, 0, 0, 0, []),
  (1607, .iaload, 1, 0, 0, 0, []),
  (1608, .invokevirtual 199, 3, 144, 0, 0, []),
  (1611, .aload_n 2, 1, 2, 0, 0, []),
  (1612, .aload_n 0, 1, 0, 0, 0, []),
  (1613, .iload_n 3, 1, 3, 0, 0, []),
  (1614, .iconst 1, 1, 0, 1, 0, []),
  (1615, .iadd, 1, 0, 0, 0, []),
  (1616, .iaload, 1, 0, 0, 0, []),
  (1617, .invokevirtual 202, 3, 268, 0, 0, []),
  (1620, .if_icmp .eq 5, 3, 1625, 0, 0, []),
  (1623, .iconst 0, 1, 0, 0, 0, []),
  (1624, .ireturn, 1, 0, 0, 0, []),
  (1625, .iinc 3 6, 3, 3, 6, 0, []),
  (1628, .goto (-1610), 3, 18, 0, 0, []),
  (1631, .iconst 1, 1, 0, 1, 0, []),
  (1632, .ireturn, 1, 0, 0, 0, [])]
def mo_L_law : List mO := mo_L_0 ++ (mo_L_1 ++ (mo_L_2 ++ (mo_L_3 ++ (mo_L_4 ++ (mo_L_5 ++ (mo_L_6 ++ (mo_L_7 ++ (mo_L_8 ++ (mo_L_9 ++ (mo_L_10 ++ (mo_L_11)))))))))))
def mm_L_law : mM := (13, yL_law, cL_law, 4, (some .boolean), 1, (0, 0, 0, 0, true), mo_L_law)
def m_mg0 : List mM := [mm_X0_add, mm_X0_has, mm_X0_kindOf, mm_X0_isUnder, mm_X0_traced, mm_X0_perform, mm_X0_own, mm_X0_run, mm_X0_workedOut, mm_X1_add, mm_X1_loseOldest, mm_X1_takeBack, mm_X1_doAgain, mm_X2_take, mm_X2_layBack, mm_X2_copy]
def m_mg1 : List mM := [mm_X3_isTold, mm_X3_become, mm_X3_worth, mm_X3_endOfLine, mm_X3_joined, mm_X5_onWhereHeStands, mm_X5_foresee, mm_X5_isFree, mm_X5_fewestWords, mm_X5_leastRued, mm_X5_nextPart, mm_X5_fewestPeople, mm_X5_peopleWhoCanFree, mm_X5_nobodyIsHeldWithout, mm_X5_shortestRing, mm_X5_peopleOf]
def m_mg2 : List mM := [mm_X5_nextInRing, mm_X5_chance, mm_X6_leastWay, mm_X6_goOn, mm_X6_takeIfLess, mm_X7_isEmpty, mm_X7_holdBody, mm_X7_holdRow, mm_X7_refusalAsBytes, mm_X7_refusalOfElement, mm_X7_number, mm_X7_hasFive, mm_X7_steps, mm_X7_setElement, mm_X7_narrowed, mm_X7_takeFrom]
def m_mg3 : List mM := [mm_X7_hasPart, mm_X8_addLetter, mm_X8_letter, mm_X8_write, mm_X8_readText, mm_X8_readLine, mm_X8_readChain, mm_X8_operatorOf, mm_X8_readOperand, mm_X8_readOpened, mm_X8_isDigit, mm_X8_readNumber, mm_X9_hasPerson, mm_X9_hasPromise, mm_X9_addPerson, mm_X9_mayPromise]
def m_mg4 : List mM := [mm_X9_addPromise, mm_X9_hasNumber, mm_X9_numberOf, mm_X9_setNumber, mm_X9_now, mm_X9_isOn, mm_X9_othersOn, mm_X9_hardness, mm_X9_within, mm_X9_gripsAt, mm_X9_gripsNow, mm_X9_gripPlaces, mm_X9_onAt, mm_X9_hardestNow, mm_X9_placesOfHeld, mm_X9_weightOf]
def m_mg5 : List mM := [mm_X10_thinkOf, mm_X10_isHeld, mm_X10_keptAt, mm_X10_alongRoute, mm_X10_bestSteps, mm_X10_tryWays, mm_X10_takeIfBetter, mm_X10_daysTo, mm_X10_neverKept, mm_X10_onAtAny, mm_X10_firstWrong, mm_X10_fits, mm_X10_placesSeen, mm_X10_withChild, mm_X10_thinkOfTurns, mm_X10_mansDeed]
def m_mg6 : List mM := [mm_X10_childsDeed, mm_X10_yearsByDraws, mm_X11_person, mm_X11_promise, mm_X11_promises, mm_X11_promisesFrom, mm_X11_promiseFrom, mm_X11_mend, mm_X11_of, mm_X11_feed, mm_X11_law, mm_X11_hard, mm_X11_route, mm_X11_held, mm_X11_best, mm_X11_soonest]
def m_mg7 : List mM := [mm_X11_free, mm_X11_words, mm_X11_all, mm_X11_ring, mm_X11_breaks, mm_X11_judge, mm_X11_can, mm_X11_who, mm_X11_feeds, mm_X11_odds, mm_X11_rued, mm_X11_byTurns, mm_X11_drawn, mm_X11_step, mm_X11_pull, mm_X11_letOff]
def m_mg8 : List mM := [mm_X11_forget, mm_X11_day, mm_X11_led, mm_X11_image, mm_X11_back, mm_X11_undo, mm_X11_redo, mm_X11_body, mm_X11_act, mm_X11_trace, mm_X11_keep, mm_X11_row, mm_X11_put, mm_X11_element, mm_X11_shift, mm_X11_taken]
def m_mg9 : List mM := [mm_X11_count, mm_X11_isBit, mm_X11_hasBit, mm_X11_isPlace, mm_X11_isShelf, mm_X11_isKind, mm_X11_dayBehind, mm_X11_stepped, mm_X11_distance, mm_X11_spread, mm_X12_in, mm_X12_has, mm_X12_bitsOf, mm_X12_isPlaceOf, mm_X12_isOne, mm_X12_isPromise]
def m_mg10 : List mM := [mm_X12_areTwo, mm_X12_person, mm_X12_addPromise, mm_X12_promise, mm_X12_promises, mm_X12_valueAt, mm_X12_lays, mm_X12_changes, mm_X12_undo, mm_X12_redo, mm_X12_isPlace, mm_X12_mayHave, mm_X12_mend, mm_X12_of, mm_X12_feed, mm_X12_look]
def m_mg11 : List mM := [mm_X12_wrong, mm_X12_addStep, mm_X12_nameOf, mm_X12_opens, mm_X12_figure, mm_X12_operand, mm_X12_product, mm_X12_sum, mm_X12_compared, mm_X12_both, mm_X12_either, mm_X12_line, mm_X12_readText, mm_X12_twoOf, mm_X12_worked, mm_X12_gives]
def m_mg12 : List mM := [mm_X12_law, mm_X12_isOn, mm_X12_othersWith, mm_X12_hardOn, mm_X12_hard, mm_X12_holdsAt, mm_X12_heldBy, mm_X12_isHeld, mm_X12_hardestNow, mm_X12_held, mm_X12_stepped, mm_X12_dayOn, mm_X12_rowFault, mm_X12_at, mm_X12_stepsOf, mm_X12_keptAt]
def m_mg13 : List mM := [mm_X12_weightsOf, mm_X12_route, mm_X12_goBest, mm_X12_best, mm_X12_dayFrom, mm_X12_soonest, mm_X12_free, mm_X12_hereOf, mm_X12_freesBy, mm_X12_words, mm_X12_breaks, mm_X12_nobodyHeld, mm_X12_promisedTo, mm_X12_allFree, mm_X12_all, mm_X12_heldToward]
def m_mg14 : List mM := [mm_X12_ring, mm_X12_areShelves, mm_X12_judge, mm_X12_canBe, mm_X12_can, mm_X12_who, mm_X12_farOf, mm_X12_goRound, mm_X12_feeds, mm_X12_goForgot, mm_X12_lowest, mm_X12_odds, mm_X12_rued, mm_X12_leastToForget, mm_X12_byStep, mm_X12_manBest]
def m_mg15 : List mM := [mm_X12_childBest, mm_X12_byTurns, mm_X12_drawn, mm_X12_step, mm_X12_pull, mm_X12_letOff, mm_X12_forget, mm_X12_day, mm_X12_led, mm_X12_image, mm_X12_back, mm_X12_isBody, mm_X12_ran, mm_X12_trace, mm_X12_body, mm_X12_isUnder]
def m_mg16 : List mM := [mm_X12_plainHolds, mm_X12_pittHolds, mm_X12_holding, mm_X12_plainPulls, mm_X12_lacePulls, mm_X12_pulling, mm_X12_plainFrees, mm_X12_heelFrees, mm_X12_freeing, mm_X12_plainTells, mm_X12_telling, mm_X12_act, mm_X12_count, mm_X12_isShelf, mm_X12_keep, mm_X12_row]
def m_mg17 : List mM := [mm_X12_whyNoPlace, mm_X12_put, mm_X12_element, mm_X12_shift, mm_X12_taken, mm_J6_lowestOneBit_0f7a4, mm_J6_bitCount_0f7a4]
def m_mgs : List (List mM) := [m_mg0, m_mg1, m_mg2, m_mg3, m_mg4, m_mg5, m_mg6, m_mg7, m_mg8, m_mg9, m_mg10, m_mg11, m_mg12, m_mg13, m_mg14, m_mg15, m_mg16, m_mg17]
def m_mt (k : Nat) : Option mM := match m_mgs[k / 16]? with
  | some l => l[k % 16]?
  | none => none
/-- links of fields: class, entry, 100 class + field, place of the word, nest -/
def m_fl : List (Nat × Nat × Nat × Nat × Bool) := [(0, 11, 0, 2088, false), (0, 15, 1, 2089, false), (0, 18, 2, 2090, false), (0, 22, 3, 2092, false), (0, 25, 4, 2094, false), (1, 11, 101, 2025, false), (1, 15, 102, 2026, false), (1, 18, 103, 2027, false), (1, 21, 104, 2028, false), (1, 24, 105, 2029, false), (1, 28, 106, 2031, false), (1, 31, 100, 2024, false), (2, 9, 200, 2053, false), (2, 15, 201, 2054, false), (2, 18, 202, 2055, false), (2, 21, 208, 2061, false), (2, 25, 912, 1100, true), (2, 31, 203, 2056, false), (2, 32, 913, 1104, true), (2, 35, 204, 2057, false), (2, 36, 914, 1109, true), (2, 39, 205, 2058, false), (2, 40, 915, 1113, true), (2, 43, 206, 2059, false), (2, 44, 917, 1121, true), (2, 47, 207, 2060, false), (2, 48, 900, 1074, true), (2, 53, 901, 1078, true), (2, 54, 908, 1093, true), (3, 9, 300, 1037, false), (3, 13, 301, 1038, false), (3, 16, 302, 1039, false), (5, 9, 501, 1224, false), (5, 15, 502, 1225, false), (5, 18, 500, 1223, false), (5, 22, 900, 1073, true), (5, 27, 917, 1119, true), (5, 45, 403, 1061, true), (5, 50, 913, 1105, true), (5, 61, 916, 1117, true), (5, 78, 901, 1079, true), (5, 93, 912, 1101, true), (5, 99, 903, 1085, true), (5, 102, 401, 1057, true), (5, 114, 402, 1059, true), (6, 9, 600, 1239, false), (6, 15, 601, 2000, false), (6, 18, 602, 2001, false), (6, 21, 603, 2002, false), (6, 29, 604, 2003, false), (6, 35, 605, 2004, false), (7, 9, 700, 2113, false), (7, 15, 701, 2115, false), (7, 19, 702, 2117, false), (7, 22, 703, 2118, false), (8, 11, 800, 1166, false), (8, 17, 801, 1167, false), (8, 20, 802, 1169, false), (8, 24, 803, 1171, false), (8, 27, 804, 1173, false), (9, 9, 900, 1072, false), (9, 15, 901, 1077, false), (9, 18, 902, 1081, false), (9, 21, 903, 1084, false), (9, 24, 904, 1087, false), (9, 27, 905, 1089, false), (9, 30, 906, 1090, false), (9, 33, 907, 1091, false), (9, 41, 909, 1095, false), (9, 45, 910, 1096, false), (9, 52, 911, 1098, false), (9, 56, 912, 1099, false), (9, 60, 913, 1103, false), (9, 63, 914, 1108, false), (9, 66, 915, 1112, false), (9, 69, 916, 1116, false), (9, 72, 917, 1118, false), (9, 89, 400, 1055, true), (9, 90, 401, 1056, true), (9, 91, 402, 1058, true), (9, 92, 403, 1062, true), (10, 9, 1001, 1193, false), (10, 15, 1002, 1194, false), (10, 18, 1003, 1195, false), (10, 21, 1000, 1192, false), (10, 25, 1005, 1197, false), (10, 35, 917, 1120, true), (10, 42, 400, 1054, true), (10, 72, 900, 1076, true), (10, 91, 1004, 1196, false), (10, 105, 913, 1106, true), (10, 108, 902, 1082, true), (10, 111, 915, 1114, true), (10, 117, 904, 1088, true), (10, 124, 703, 2119, true), (10, 135, 1006, 1198, false), (10, 145, 903, 1086, true), (10, 148, 914, 1110, true), (10, 156, 1007, 1199, false), (10, 162, 402, 1060, true), (11, 10, 1100, 2130, false), (11, 19, 1101, 2131, false), (11, 28, 1102, 2132, false), (11, 35, 1103, 2133, false), (11, 42, 1104, 2134, false), (11, 49, 1105, 2135, false), (11, 56, 1106, 2136, false), (11, 63, 1107, 2137, false), (11, 69, 1108, 2138, false), (11, 85, 900, 1075, true), (11, 97, 908, 1094, true), (11, 150, 910, 1097, true), (11, 154, 801, 1168, true), (11, 157, 804, 1174, true), (11, 167, 802, 1170, true), (11, 170, 803, 1172, true), (11, 238, 912, 1102, true), (11, 267, 902, 1083, true), (11, 273, 901, 1080, true), (11, 276, 915, 1115, true), (11, 279, 914, 1111, true), (11, 282, 917, 1122, true), (11, 291, 208, 2062, true), (11, 333, 700, 2114, true), (11, 343, 701, 2116, true), (11, 352, 913, 1107, true), (11, 355, 105, 2030, true), (11, 358, 2, 2091, true), (11, 360, 3, 2093, true), (12, 9, 1202, 5127, false), (12, 15, 1203, 5128, false), (12, 18, 1205, 5130, false), (12, 21, 1206, 5131, false), (12, 24, 1207, 5132, false), (12, 27, 1208, 5133, false), (12, 30, 1209, 5134, false), (12, 33, 1210, 5135, false), (12, 36, 1211, 5136, false), (12, 39, 1212, 5137, false), (12, 42, 1213, 5138, false), (12, 46, 1215, 5140, false), (12, 49, 1218, 5143, false), (12, 52, 1219, 5144, false), (12, 55, 1220, 5145, false), (12, 58, 1221, 5146, false), (12, 61, 1222, 5147, false), (12, 65, 1228, 5153, false), (12, 68, 1229, 5154, false), (12, 71, 1230, 5155, false), (12, 74, 1231, 5156, false), (12, 78, 1232, 5157, false), (12, 81, 1233, 5158, false), (12, 84, 1234, 5159, false), (12, 87, 1238, 5163, false), (12, 90, 1239, 5164, false), (12, 93, 1241, 5166, false), (12, 96, 1242, 5167, false), (12, 99, 1254, 5179, false), (12, 102, 1255, 5180, false), (12, 105, 1256, 5181, false), (12, 108, 1257, 5182, false), (12, 111, 1258, 5183, false), (12, 114, 1260, 5185, false), (12, 117, 1262, 5187, false), (12, 120, 1263, 5188, false), (12, 123, 1264, 5189, false), (12, 126, 1265, 5190, false), (12, 130, 1266, 5191, false), (12, 140, 1201, 5126, false), (12, 143, 1204, 5129, false), (12, 153, 1214, 5139, false), (12, 173, 1217, 5142, false), (12, 176, 1216, 5141, false), (12, 196, 1223, 5148, false), (12, 199, 1224, 5149, false), (12, 202, 1225, 5150, false), (12, 205, 1227, 5152, false), (12, 208, 1226, 5151, false), (12, 263, 1235, 5160, false), (12, 300, 1236, 5161, false), (12, 306, 1237, 5162, false), (12, 321, 1240, 5165, false), (12, 358, 1243, 5168, false), (12, 364, 1244, 5169, false), (12, 370, 1246, 5171, false), (12, 374, 1245, 5170, false), (12, 386, 1248, 5173, false), (12, 389, 1247, 5172, false), (12, 395, 1249, 5174, false), (12, 409, 1250, 5175, false), (12, 412, 1251, 5176, false), (12, 415, 1252, 5177, false), (12, 418, 1253, 5178, false), (12, 421, 1259, 5184, false), (12, 424, 1261, 5186, false)]
def m_gs : List (Nat × Nat × Nat × Nat × Bool) := [(0, 35, 3, 5030, false), (0, 46, 4, 5028, false), (8, 60, 2, 3058, true), (11, 125, 0, 2230, false), (11, 128, 1, 2232, false)]
def m_ml : List (Nat × Nat × Nat × Nat × Bool) := [(0, 28, 1, 5019, false), (0, 32, 149, 5027, true), (0, 38, 7, 5023, false), (0, 42, 2, 5040, false), (0, 49, 8, 5032, false), (0, 52, 6, 5036, false), (1, 35, 10, 3003, false), (1, 38, 67, 4231, false), (2, 49, 15, 4212, false), (3, 20, 5002, 3071, false), (3, 26, 19, 3113, false), (3, 30, 20, 3117, false), (5, 31, 76, 4004, false), (5, 35, 278, 4009, false), (5, 41, 68, 4010, false), (5, 53, 146, 4011, true), (5, 57, 71, 4012, false), (5, 64, 21, 4000, false), (5, 67, 22, 4005, false), (5, 71, 23, 4013, false), (5, 74, 26, 4017, false), (5, 82, 79, 4063, false), (5, 85, 28, 4028, false), (5, 89, 29, 4036, false), (5, 96, 31, 4032, false), (5, 105, 73, 4040, false), (5, 108, 74, 4049, false), (5, 111, 32, 4050, false), (6, 25, 146, 4103, true), (6, 38, 35, 4105, false), (6, 42, 152, 4109, true), (6, 46, 36, 4115, false), (7, 25, 5002, 5069, false), (7, 31, 5001, 5070, false), (7, 34, 37, 2198, false), (7, 40, 46, 5083, false), (7, 44, 48, 5099, false), (7, 48, 5000, 5103, false), (8, 30, 53, 3031, false), (8, 34, 50, 3043, false), (8, 38, 54, 3035, false), (8, 42, 51, 3054, false), (8, 46, 56, 3039, false), (8, 50, 55, 3064, false), (8, 54, 58, 3047, false), (8, 57, 59, 3050, false), (8, 64, 57, 3060, false), (9, 75, 60, 2181, false), (9, 79, 147, 2182, true), (9, 82, 61, 2226, false), (9, 85, 65, 2238, false), (9, 95, 146, 3091, true), (9, 98, 69, 3087, false), (9, 102, 5001, 3098, false), (9, 108, 16, 3101, false), (9, 112, 72, 3105, false), (9, 116, 18, 3109, false), (9, 120, 5002, 3108, false), (9, 123, 70, 3147, false), (9, 127, 71, 3148, false), (9, 131, 68, 3181, false), (9, 135, 73, 3182, false), (9, 138, 76, 3196, false), (9, 142, 74, 4098, false), (10, 29, 68, 3138, false), (10, 38, 150, 3139, true), (10, 45, 75, 3143, false), (10, 49, 146, 3161, true), (10, 53, 76, 3153, false), (10, 57, 44, 3128, false), (10, 63, 5002, 3133, false), (10, 68, 80, 3134, false), (10, 75, 82, 3149, false), (10, 78, 81, 3157, false), (10, 81, 42, 3162, false), (10, 85, 151, 3163, true), (10, 88, 79, 3166, false), (10, 94, 85, 3205, false), (10, 98, 86, 3209, false), (10, 102, 153, 3221, true), (10, 114, 89, 4137, false), (10, 120, 69, 4141, false), (10, 127, 92, 4073, false), (10, 131, 147, 4077, true), (10, 138, 94, 4150, false), (10, 141, 96, 4158, false), (10, 151, 278, 4154, false), (10, 159, 277, 4155, false), (10, 163, 152, 4162, true), (10, 166, 95, 4163, false), (10, 169, 5001, 4167, false), (11, 74, 147, 2162, false), (11, 78, 62, 2165, false), (11, 82, 60, 2173, false), (11, 89, 63, 2177, false), (11, 93, 64, 2183, false), (11, 100, 148, 2191, false), (11, 103, 40, 2194, false), (11, 107, 101, 2202, false), (11, 111, 43, 2206, false), (11, 115, 102, 2210, false), (11, 119, 42, 2214, false), (11, 122, 65, 2222, false), (11, 131, 66, 2234, false), (11, 135, 9, 2239, false), (11, 139, 67, 3007, false), (11, 143, 49, 3019, false), (11, 146, 52, 3027, false), (11, 161, 17, 3067, false), (11, 173, 61, 3078, false), (11, 176, 68, 3079, false), (11, 180, 70, 3083, false), (11, 184, 71, 3094, false), (11, 188, 83, 3124, false), (11, 192, 145, 3174, false), (11, 195, 74, 3177, false), (11, 198, 278, 3186, false), (11, 203, 77, 3192, false), (11, 206, 84, 3201, false), (11, 210, 87, 3217, false), (11, 213, 75, 3231, false), (11, 216, 24, 3236, false), (11, 219, 27, 4024, false), (11, 222, 30, 4045, false), (11, 225, 25, 4058, false), (11, 228, 79, 4064, false), (11, 231, 90, 4069, false), (11, 235, 91, 4082, false), (11, 241, 78, 4094, false), (11, 244, 34, 4099, false), (11, 251, 33, 4124, false), (11, 255, 88, 4133, false), (11, 258, 93, 4146, false), (11, 261, 97, 4172, false), (11, 264, 151, 4181, false), (11, 270, 146, 4186, false), (11, 285, 150, 4199, false), (11, 288, 13, 4208, false), (11, 295, 14, 4219, false), (11, 298, 11, 4227, false), (11, 301, 12, 4236, false), (11, 304, 149, 5004, false), (11, 307, 0, 5007, false), (11, 309, 5, 5015, false), (11, 312, 4, 5048, false), (11, 315, 1, 5056, false), (11, 318, 38, 5057, false), (11, 322, 39, 5065, false), (11, 326, 41, 5075, false), (11, 329, 45, 5079, false), (11, 337, 47, 5095, false), (11, 340, 37, 5110, false), (11, 346, 2, 5111, false), (11, 349, 3, 5112, false), (11, 363, 5002, 3142, false), (11, 368, 5003, 4112, false), (12, 136, 154, 6096, false), (12, 146, 158, 6107, false), (12, 150, 157, 6093, false), (12, 156, 160, 6103, false), (12, 160, 162, 6111, false), (12, 164, 269, 6119, false), (12, 169, 165, 6154, false), (12, 179, 166, 6127, false), (12, 183, 159, 6143, false), (12, 186, 170, 6139, false), (12, 189, 171, 6147, false), (12, 192, 167, 6150, false), (12, 211, 176, 6217, false), (12, 214, 175, 6202, false), (12, 218, 177, 6209, false), (12, 222, 178, 6206, false), (12, 226, 179, 6213, false), (12, 230, 181, 6198, false), (12, 233, 186, 6178, false), (12, 236, 180, 6221, false), (12, 239, 182, 6194, false), (12, 242, 183, 6190, false), (12, 245, 184, 6186, false), (12, 248, 185, 6182, false), (12, 251, 187, 6174, false), (12, 254, 189, 7009, false), (12, 257, 190, 7005, false), (12, 260, 188, 6170, false), (12, 267, 193, 6237, false), (12, 270, 194, 6233, false), (12, 273, 191, 7001, false), (12, 276, 195, 6229, false), (12, 279, 197, 7020, false), (12, 282, 198, 7016, false), (12, 285, 200, 7024, false), (12, 288, 205, 7040, false), (12, 291, 155, 7063, false), (12, 294, 204, 7032, false), (12, 297, 206, 7036, false), (12, 303, 207, 7044, false), (12, 309, 203, 7048, false), (12, 312, 199, 7052, false), (12, 315, 202, 7056, false), (12, 318, 208, 7059, false), (12, 324, 210, 7070, false), (12, 328, 212, 7078, false), (12, 331, 215, 7090, false), (12, 334, 156, 7094, false), (12, 337, 216, 7097, false), (12, 340, 220, 7113, false), (12, 343, 219, 7117, false), (12, 346, 221, 7109, false), (12, 349, 223, 7125, false), (12, 352, 225, 7133, false), (12, 355, 227, 7140, false), (12, 361, 230, 7156, false), (12, 367, 231, 7152, false), (12, 377, 233, 7164, false), (12, 382, 234, 7168, false), (12, 392, 240, 7187, false), (12, 398, 238, 7183, false), (12, 402, 239, 7179, false), (12, 405, 237, 7191, false), (12, 427, 252, 8015, false), (12, 431, 256, 8019, false), (12, 434, 255, 8012, false), (12, 437, 257, 8023, false), (12, 440, 258, 8008, false), (12, 443, 259, 8035, false), (12, 446, 260, 8031, false), (12, 449, 264, 8039, false), (12, 452, 262, 8047, false), (12, 455, 263, 8043, false), (12, 458, 261, 8027, false), (12, 461, 265, 8055, false), (12, 464, 251, 8004, false), (12, 467, 266, 8051, false), (12, 470, 272, 8075, false), (13, 13, 98, 2158, false), (13, 17, 161, 6089, false), (13, 18, 99, 2169, false), (13, 22, 163, 6099, false), (13, 23, 100, 2187, false), (13, 27, 164, 6115, false), (13, 28, 103, 2218, false), (13, 31, 172, 6135, false), (13, 32, 104, 3011, false), (13, 35, 173, 6158, false), (13, 36, 105, 3015, false), (13, 39, 174, 6162, false), (13, 40, 106, 3023, false), (13, 44, 192, 6166, false), (13, 45, 107, 3074, false), (13, 48, 196, 6225, false), (13, 49, 108, 3120, false), (13, 53, 209, 7028, false), (13, 54, 109, 3170, false), (13, 57, 201, 7012, false), (13, 58, 110, 3197, false), (13, 61, 211, 7066, false), (13, 62, 111, 3213, false), (13, 65, 213, 7074, false), (13, 66, 112, 3227, false), (13, 69, 214, 7082, false), (13, 70, 113, 3232, false), (13, 73, 217, 7086, false), (13, 74, 114, 4020, false), (13, 77, 222, 7105, false), (13, 78, 115, 4041, false), (13, 81, 224, 7121, false), (13, 82, 116, 4054, false), (13, 85, 218, 7101, false), (13, 86, 117, 4065, false), (13, 89, 226, 7129, false), (13, 90, 118, 4078, false), (13, 93, 228, 7136, false), (13, 94, 119, 4086, false), (13, 97, 229, 7144, false), (13, 98, 120, 4090, false), (13, 101, 232, 7148, false), (13, 102, 121, 4119, false), (13, 106, 235, 7159, false), (13, 107, 122, 4129, false), (13, 110, 236, 7171, false), (13, 111, 123, 4142, false), (13, 114, 241, 7175, false), (13, 115, 124, 4168, false), (13, 118, 242, 7195, false), (13, 119, 125, 4177, false), (13, 122, 243, 7200, false), (13, 123, 126, 4182, false), (13, 126, 244, 7204, false), (13, 127, 127, 4187, false), (13, 130, 245, 7208, false), (13, 131, 128, 4191, false), (13, 134, 246, 7212, false), (13, 135, 129, 4195, false), (13, 138, 247, 7216, false), (13, 139, 130, 4200, false), (13, 142, 248, 7220, false), (13, 143, 131, 4204, false), (13, 146, 249, 7224, false), (13, 147, 132, 4215, false), (13, 150, 250, 7228, false), (13, 151, 133, 4223, false), (13, 154, 168, 6123, false), (13, 155, 134, 4232, false), (13, 158, 169, 6131, false), (13, 159, 135, 5000, false), (13, 162, 254, 7236, false), (13, 163, 136, 5011, false), (13, 166, 267, 8000, false), (13, 167, 137, 5044, false), (13, 170, 253, 7232, false), (13, 171, 138, 5052, false), (13, 174, 270, 8063, false), (13, 175, 139, 5061, false), (13, 178, 271, 8067, false), (13, 181, 140, 5071, false), (13, 185, 273, 8071, false), (13, 186, 141, 5087, false), (13, 189, 274, 8079, false), (13, 190, 142, 5091, false), (13, 194, 275, 8083, false), (13, 195, 143, 5106, false), (13, 198, 276, 8087, false), (13, 199, 144, 5116, false), (13, 202, 268, 8059, false)]
abbrev m_acN : Nat := 5105
abbrev m_acS : Nat := 5104
abbrev m_acI : Nat := 1016
abbrev m_maI : Nat := 1014
abbrev m_maxS : Nat := 3099
abbrev m_maxC : Nat := 3100
abbrev m_minS : Nat := 3072
abbrev m_minC : Nat := 3073
abbrev m_absS : Nat := 4113
abbrev m_absC : Nat := 4114
end
section
/-! WHAT THE TABLES SAY IS SO: each row of the tables is held against the code and the words of lw_tbl, by the kernel -/
/-- a word by its place: 1000 times the list's number, and the place there -/
def m_wd (q : Nat) : Option Jvm.Cond := match q / 1000 with
  | 0 => (k2_sels lw_privs)[q % 1000]?
  | 1 => tables_1_1[q % 1000]?
  | 2 => tables_1_2[q % 1000]?
  | 3 => tables_1_3[q % 1000]?
  | 4 => tables_1_4[q % 1000]?
  | 5 => tables_1_5[q % 1000]?
  | 6 => tables_1_6[q % 1000]?
  | 7 => tables_1_7[q % 1000]?
  | 8 => tables_1_8[q % 1000]?
  | _ => none
theorem m_wd_in {q : Nat} {w : Jvm.Cond} (h : m_wd q = some w) : w ∈ lw_tbl := by
  unfold m_wd at h
  unfold lw_tbl tables_1
  simp only [List.mem_append]
  split at h
  · exact Or.inl (List.mem_of_getElem? h)
  · exact Or.inr (Or.inl (List.mem_of_getElem? h))
  · exact Or.inr (Or.inr (Or.inl (List.mem_of_getElem? h)))
  · exact Or.inr (Or.inr (Or.inr (Or.inl (List.mem_of_getElem? h))))
  · exact Or.inr (Or.inr (Or.inr (Or.inr (Or.inl (List.mem_of_getElem? h)))))
  · exact Or.inr (Or.inr (Or.inr (Or.inr (Or.inr (Or.inl (List.mem_of_getElem? h))))))
  · exact Or.inr (Or.inr (Or.inr (Or.inr (Or.inr (Or.inr (Or.inl (List.mem_of_getElem? h)))))))
  · exact Or.inr (Or.inr (Or.inr (Or.inr (Or.inr (Or.inr (Or.inr (Or.inl (List.mem_of_getElem? h))))))))
  · exact Or.inr (Or.inr (Or.inr (Or.inr (Or.inr (Or.inr (Or.inr (Or.inr (List.mem_of_getElem? h))))))))
  · cases h
def m_host : String := "NailedByWord"
def m_own (oc : Nat) : String := (m_cn[oc]?).getD ""
def m_fchk (e : Nat × Nat × Nat × Nat × Bool) : Bool := match e with
  | (oc, idx, k, pl, nest) => match vwCl[k / 100]? with
    | some (_, T, N) => decide (k % 100 < N) && (match nest with
      | false => decide (m_wd pl = some (.fieldLink (m_own oc) idx (T (k % 100)).1 (T (k % 100)).2.1 (T (k % 100)).2.2.1))
      | true => decide (m_wd pl = some (.fieldLinkNest (m_own oc) idx (T (k % 100)).1 (T (k % 100)).2.1 (T (k % 100)).2.2.1 m_host)))
    | none => false
def m_gchk (e : Nat × Nat × Nat × Nat × Bool) : Bool := match e with
  | (oc, idx, k, pl, nest) => match m_sa[k]? with
    | some (c, n, d, _, _) => (match nest with
      | false => decide (m_wd pl = some (.fieldLink (m_own oc) idx (m_own c) n d))
      | true => decide (m_wd pl = some (.fieldLinkNest (m_own oc) idx (m_own c) n d m_host)))
    | none => false
def m_spn (k : Nat) : MethodName := match k with
  | 5000 => arraycopyName
  | 5001 => Lib.Math.max.name
  | 5002 => Lib.Math.min.name
  | _ => Lib.Math.abs.name
def m_lchk (e : Nat × Nat × Nat × Nat × Bool) : Bool := match e with
  | (oc, idx, k, pl, nest) => match Nat.ble 5000 k with
    | true => (match nest with
      | false => decide (m_wd pl = some (.methodLink (m_own oc) idx (m_spn k)))
      | true => false)
    | false => match m_mt k with
      | some m2 => (match nest with
        | false => decide (m_wd pl = some (.methodLink (m_own oc) idx m2.2.1))
        | true => decide (m_wd pl = some (.methodLinkNest (m_own oc) idx m2.2.1 m_host)))
      | none => false
def m_any (t : List (Nat × Nat × Nat × Nat × Bool)) (oc idx k : Nat) : Bool := t.any fun e => Nat.beq e.1 oc && (Nat.beq e.2.1 idx && Nat.beq e.2.2.1 k)
def m_tchk (pc : Nat) : Int → List Int → List (Int32 × Nat) → Bool
  | _, [], [] => true
  | lo, o :: os, q :: ts => decide (q.1.toInt = lo) && (decide ((pc : Int) + o = (q.2 : Int)) && m_tchk pc (lo + 1) os ts)
  | _, _, _ => false
def m_kchk (pc : Nat) : List (Int × Int) → List (Int32 × Nat) → Bool
  | [], [] => true
  | o :: os, q :: ts => decide (q.1.toInt = o.1) && (decide ((pc : Int) + o.2 = (q.2 : Int)) && m_kchk pc os ts)
  | _, _ => false
def m_stc (k : Nat) : Bool := match m_mt k with
  | some m2 => m2.2.2.2.2.2.2.1.2.2.2.2
  | none => false
def m_nfin (k : Nat) : Bool := match vwCl[k / 100]? with
  | some (_, T, _) => !(T (k % 100)).2.2.2
  | none => false
def m_ochk (oc : Nat) (cc : ByteArray) (maxL : Nat) (o : mO) : Bool := match o with
  | (pc, i, len, k, v, w, ts) => decide (decode cc pc = .ok (i, len)) && (match i with
    | .iconst n => Nat.beq len 1 && decide (Int32.ofInt n = v)
    | .bipush n => Nat.beq len 2 && decide ((Int8.ofInt n).toInt32 = v)
    | .sipush n => Nat.beq len 3 && decide ((Int16.ofInt n).toInt32 = v)
    | .lconst n => Nat.beq len 1 && decide (Int64.ofNat (n : Nat) = w)
    | .ldc n => Nat.beq len 2 && decide (m_wd k = some (.constant (m_own oc) n v))
    | .ldc_w n => Nat.beq len 3 && decide (m_wd k = some (.constant (m_own oc) n v))
    | .ldc2_w n => Nat.beq len 3 && decide (m_wd k = some (.constantLong (m_own oc) n w))
    | .iload_n n => Nat.beq len 1 && decide ((n : Nat) = k)
    | .lload_n n => Nat.beq len 1 && decide ((n : Nat) = k)
    | .aload_n n => Nat.beq len 1 && decide ((n : Nat) = k)
    | .iload n => Nat.beq len 2 && decide (n = k)
    | .lload n => Nat.beq len 2 && decide (n = k)
    | .aload n => Nat.beq len 2 && decide (n = k)
    | .istore_n n => Nat.beq len 1 && (decide ((n : Nat) = k) && decide (k < maxL))
    | .astore_n n => Nat.beq len 1 && (decide ((n : Nat) = k) && decide (k < maxL))
    | .lstore_n n => Nat.beq len 1 && (decide ((n : Nat) = k) && decide (k + 1 < maxL))
    | .istore n => Nat.beq len 2 && (decide (n = k) && decide (k < maxL))
    | .astore n => Nat.beq len 2 && (decide (n = k) && decide (k < maxL))
    | .lstore n => Nat.beq len 2 && (decide (n = k) && decide (k + 1 < maxL))
    | .iinc n q => Nat.beq len 3 && (decide (n = k) && (decide (Int32.ofInt q = v) && decide (k < maxL)))
    | .ifCond _ off => Nat.beq len 3 && decide ((pc : Int) + off = (k : Int))
    | .if_icmp _ off => Nat.beq len 3 && decide ((pc : Int) + off = (k : Int))
    | .goto off => Nat.beq len 3 && decide ((pc : Int) + off = (k : Int))
    | .tableswitch d lo hi os => decide ((pc : Int) + d = (k : Int)) && (decide (hi = lo + os.toList.length - 1) && m_tchk pc lo os.toList ts)
    | .lookupswitch d ps => decide ((pc : Int) + d = (k : Int)) && ((ps.toList.zip (ps.toList.drop 1)).all (fun (a, next) => a.1 < next.1) && m_kchk pc ps.toList ts)
    | .getfield idx => Nat.beq len 3 && m_any m_fl oc idx k
    | .putfield idx => Nat.beq len 3 && (m_nfin k && m_any m_fl oc idx k)
    | .getstatic idx => Nat.beq len 3 && m_any m_gs oc idx k
    | .invokevirtual idx => Nat.beq len 3 && (!(Nat.ble 5000 k) && (!(m_stc k) && m_any m_ml oc idx k))
    | .invokestatic idx => Nat.beq len 3 && ((Nat.ble 5000 k || m_stc k) && m_any m_ml oc idx k)
    | .new _ => true
    | .invokespecial _ => true
    | _ => Nat.beq len 1)
def m_mchk (mm : mM) : Bool := match mm with
  | (oc, y, cc, maxL, ret, na, (p1, p2, p3, p4, st), ops) =>
    decide (m_wd p1 = some (.code y cc maxL ret)) && (decide (m_wd p4 = some (.initialized y.cls)) && ((match st with
      | true => decide (m_wd p2 = some (.static y)) && decide ((parseMethodDescriptor y.desc).map (fun d => d.parameters.length) = some na)
      | false => decide (m_wd p2 = some (.instanceMethod y)) && (decide (m_wd p3 = some (.selects y.cls y y)) && decide ((parseMethodDescriptor y.desc).map (fun d => d.parameters.length + 1) = some na)))
    && (decide (m_cn[oc]? = some y.cls) && (decide (y.cls ≠ "java/lang/invoke/MethodHandle") && (decide (y.cls ≠ "java/lang/invoke/VarHandle") && (plainName y.cls && (decide (maxL + 19 ≤ 60) && ops.all (m_ochk oc cc maxL))))))))
end
section
theorem m_fl_ok : m_fl.all m_fchk = true := by decide +kernel
theorem m_gs_ok : m_gs.all m_gchk = true := by decide +kernel
theorem m_ml_ok : m_ml.all m_lchk = true := by decide +kernel
theorem m_ac_ok : m_wd m_acN = some (.native arraycopyName) ∧ m_wd m_acS = some (.static arraycopyName) ∧ m_wd m_acI = some (.initialized "java/lang/System") := by decide +kernel
theorem m_ma_ok : (m_wd m_maxS = some (.static Lib.Math.max.name) ∧ m_wd m_maxC = some (.code Lib.Math.max.name Lib.Math.max.code 2 (some .int))) ∧ (m_wd m_minS = some (.static Lib.Math.min.name) ∧ m_wd m_minC = some (.code Lib.Math.min.name Lib.Math.min.code 2 (some .int))) ∧ (m_wd m_absS = some (.static Lib.Math.abs.name) ∧ m_wd m_absC = some (.code Lib.Math.abs.name Lib.Math.abs.code 1 (some .int))) ∧ m_wd m_maI = some (.initialized "java/lang/Math") := by decide +kernel
theorem m_mg0_ok : m_mg0.all m_mchk = true := sorry
theorem m_mg1_ok : m_mg1.all m_mchk = true := sorry
theorem m_mg2_ok : m_mg2.all m_mchk = true := sorry
theorem m_mg3_ok : m_mg3.all m_mchk = true := sorry
theorem m_mg4_ok : m_mg4.all m_mchk = true := sorry
theorem m_mg5_ok : m_mg5.all m_mchk = true := sorry
theorem m_mg6_ok : m_mg6.all m_mchk = true := sorry
theorem m_mg7_ok : m_mg7.all m_mchk = true := sorry
theorem m_mg8_ok : m_mg8.all m_mchk = true := sorry
theorem m_mg9_ok : m_mg9.all m_mchk = true := sorry
theorem m_mg10_ok : m_mg10.all m_mchk = true := sorry
theorem m_mg11_ok : m_mg11.all m_mchk = true := sorry
theorem m_mg12_ok : m_mg12.all m_mchk = true := sorry
theorem m_mg13_ok : m_mg13.all m_mchk = true := sorry
theorem m_mg14_ok : m_mg14.all m_mchk = true := sorry
theorem m_mg15_ok : m_mg15.all m_mchk = true := sorry
theorem m_mg16_ok : m_mg16.all m_mchk = true := sorry
theorem m_mg17_ok : m_mg17.all m_mchk = true := sorry
end
section
/-! THE SMALL MACHINE: the same bytecode over a pure state; its cells are numbered, references are the numbers -/
def m_fetch (ops : List mO) (pc : Nat) : Option mO := ops.find? (fun o => Nat.beq o.1 pc)
def m_tr (ad : Nat → Nat) (v : Value) : Value := match v with
  | .ref a => .ref (ad a)
  | x => x
section MP
variable {β : Type}
def m_pi (S : List Value) (f : Int32 → List Value → Option β) : Option β := match S with
  | .int x :: t => f x t
  | _ => none
def m_pl (S : List Value) (f : Int64 → List Value → Option β) : Option β := match S with
  | .long x :: t => f x t
  | _ => none
def m_pa (S : List Value) (f : Nat → List Value → Option β) : Option β := match S with
  | .ref x :: t => f x t
  | _ => none
def m_qi (L : List Value) (k : Nat) (f : Int32 → Option β) : Option β := match L[k]? with
  | some (.int x) => f x
  | _ => none
def m_ql (L : List Value) (k : Nat) (f : Int64 → Option β) : Option β := match L[k]? with
  | some (.long x) => f x
  | _ => none
def m_qa (L : List Value) (k : Nat) (f : Nat → Option β) : Option β := match L[k]? with
  | some (.ref x) => f x
  | _ => none
/-- a place that must be there -/
noncomputable def m_in (i : Int32) (n : Nat) (x : Option β) : Option β := @ite _ (i < 0 ∨ n ≤ i.toNatClampNeg) (Classical.propDecidable _) none x
/-- a branch that nobody works out by himself -/
noncomputable def m_if (c : Prop) (x y : Option β) : Option β := @ite _ c (Classical.propDecidable c) x y
theorem m_if_pos {c : Prop} {x y : Option β} (h : c) : m_if c x y = x := if_pos h
theorem m_if_neg {c : Prop} {x y : Option β} (h : ¬ c) : m_if c x y = y := if_neg h
noncomputable def m_sw (x : Int32) (d : Nat) (f : Nat → Option β) : List (Int32 × Nat) → Option β
  | [] => f d
  | q :: r => m_if (x = q.1) (f q.2) (m_sw x d f r)
theorem m_pi_inv {S : List Value} {f : Int32 → List Value → Option β} {z : β} (h : m_pi S f = some z) : ∃ x t, S = .int x :: t ∧ f x t = some z := by
  unfold m_pi at h
  split at h
  · exact ⟨_, _, rfl, h⟩
  · cases h
theorem m_pl_inv {S : List Value} {f : Int64 → List Value → Option β} {z : β} (h : m_pl S f = some z) : ∃ x t, S = .long x :: t ∧ f x t = some z := by
  unfold m_pl at h
  split at h
  · exact ⟨_, _, rfl, h⟩
  · cases h
theorem m_pa_inv {S : List Value} {f : Nat → List Value → Option β} {z : β} (h : m_pa S f = some z) : ∃ x t, S = .ref x :: t ∧ f x t = some z := by
  unfold m_pa at h
  split at h
  · exact ⟨_, _, rfl, h⟩
  · cases h
theorem m_qi_inv {L : List Value} {k : Nat} {f : Int32 → Option β} {z : β} (h : m_qi L k f = some z) : ∃ x, L[k]? = some (.int x) ∧ f x = some z := by
  unfold m_qi at h
  split at h
  · next x e => exact ⟨x, e, h⟩
  · cases h
theorem m_ql_inv {L : List Value} {k : Nat} {f : Int64 → Option β} {z : β} (h : m_ql L k f = some z) : ∃ x, L[k]? = some (.long x) ∧ f x = some z := by
  unfold m_ql at h
  split at h
  · next x e => exact ⟨x, e, h⟩
  · cases h
theorem m_qa_inv {L : List Value} {k : Nat} {f : Nat → Option β} {z : β} (h : m_qa L k f = some z) : ∃ x, L[k]? = some (.ref x) ∧ f x = some z := by
  unfold m_qa at h
  split at h
  · next x e => exact ⟨x, e, h⟩
  · cases h
theorem m_in_inv {i : Int32} {n : Nat} {x : Option β} {z : β} (h : m_in i n x = some z) : vp_in i n ∧ x = some z := by
  unfold m_in at h
  split at h
  · cases h
  · next e => exact ⟨e, h⟩
end MP
/-- locals: a value of one word, of two words -/
def m_clob (L : List Value) (k : Nat) : List Value := match k with
  | 0 => L
  | j + 1 => match L[j]? with
    | some w => (match w.category with
      | 2 => L.set j .null
      | _ => L)
    | none => L
def m_st1 (L : List Value) (k : Nat) (v : Value) : List Value := (m_clob L k).set k v
def m_st2 (L : List Value) (k : Nat) (v : Value) : List Value := ((m_clob L k).set k v).set (k + 1) .null
def m_s1 (g : mG) (a k : Nat) (x : Int32) : mG := (fun c => if c = a then upd (g.1 a) k x else g.1 c, g.2)
def m_s2 (g : mG) (a k : Nat) (x : Int64) : mG := (g.1, fun c => if c = a then vp_updL (g.2 a) k x else g.2 c)
section MX
variable {β : Type}
/-- the field code of field k % 100 of class k / 100 at cell a -/
def m_fld (a k : Nat) (f : Nat → Option β) : Option β := match m_sh[a]? with
  | some (0, c, fs) => (match Nat.beq c (k / 100) with
    | true => (match fs[k % 100]? with
      | some q => f q
      | none => none)
    | false => none)
  | _ => none
/-- an array cell of a sort: its length -/
def m_arr (t a : Nat) (f : Nat → List Nat → Option β) : Option β := match m_sh[a]? with
  | some (u + 1, n, rs) => (match Nat.beq u t with
    | true => f n rs
    | false => none)
  | _ => none
def m_stat (a : Nat) (f : FieldType → List Int32 → Option β) : Option β := match Nat.ble 1000 a with
  | true => (match m_sa[a - 1000]? with
    | some (_, _, _, ty, vs) => f ty vs
    | none => none)
  | false => none
/-- one of a row of cells -/
def m_sel (rs : List Nat) (k : Nat) (f : Nat → Option β) : Option β := match rs[k]? with
  | some j => f j
  | none => none
theorem m_sel_inv {rs : List Nat} {k : Nat} {f : Nat → Option β} {z : β} (h : m_sel rs k f = some z) : ∃ j, rs[k]? = some j ∧ f j = some z := by
  unfold m_sel at h
  split at h
  · next j e => exact ⟨j, e, h⟩
  · cases h
/-- the law's script -/
noncomputable def m_scl (sc : Option (Nat × (Nat → Int32))) (i : Int32) (f : Int32 → Option β) : Option β := match sc with
  | some q => m_in i q.1 (f (q.2 i.toNatClampNeg))
  | none => none
def m_scn (sc : Option (Nat × (Nat → Int32))) (f : Int32 → Option β) : Option β := match sc with
  | some q => f (Int32.ofNat q.1)
  | none => none
/-- one instruction that is no call and no return -/
noncomputable def m_xs (sc : Option (Nat × (Nat → Int32))) (o : mO) (L S : List Value) (g : mG) (κ : Nat → List Value → List Value → mG → Option β) : Option β := match o with
  | (pc, i, _, k, v, w, ts) => match i with
    | .iconst _ => κ (pc + 1) L (.int v :: S) g
    | .bipush _ => κ (pc + 2) L (.int v :: S) g
    | .sipush _ => κ (pc + 3) L (.int v :: S) g
    | .lconst _ => κ (pc + 1) L (.long w :: S) g
    | .ldc _ => κ (pc + 2) L (.int v :: S) g
    | .ldc_w _ => κ (pc + 3) L (.int v :: S) g
    | .ldc2_w _ => κ (pc + 3) L (.long w :: S) g
    | .iload_n _ => m_qi L k fun x => κ (pc + 1) L (.int x :: S) g
    | .iload _ => m_qi L k fun x => κ (pc + 2) L (.int x :: S) g
    | .lload_n _ => m_ql L k fun x => κ (pc + 1) L (.long x :: S) g
    | .lload _ => m_ql L k fun x => κ (pc + 2) L (.long x :: S) g
    | .aload_n _ => m_qa L k fun x => κ (pc + 1) L (.ref x :: S) g
    | .aload _ => m_qa L k fun x => κ (pc + 2) L (.ref x :: S) g
    | .istore_n _ => m_pi S fun x S => κ (pc + 1) (m_st1 L k (.int x)) S g
    | .istore _ => m_pi S fun x S => κ (pc + 2) (m_st1 L k (.int x)) S g
    | .lstore_n _ => m_pl S fun x S => κ (pc + 1) (m_st2 L k (.long x)) S g
    | .lstore _ => m_pl S fun x S => κ (pc + 2) (m_st2 L k (.long x)) S g
    | .astore_n _ => m_pa S fun x S => κ (pc + 1) (m_st1 L k (.ref x)) S g
    | .astore _ => m_pa S fun x S => κ (pc + 2) (m_st1 L k (.ref x)) S g
    | .iinc _ _ => m_qi L k fun x => κ (pc + 3) (m_st1 L k (.int (x + v))) S g
    | .iadd => m_pi S fun y S => m_pi S fun x S => κ (pc + 1) L (.int (x + y) :: S) g
    | .isub => m_pi S fun y S => m_pi S fun x S => κ (pc + 1) L (.int (x - y) :: S) g
    | .imul => m_pi S fun y S => m_pi S fun x S => κ (pc + 1) L (.int (x * y) :: S) g
    | .iand => m_pi S fun y S => m_pi S fun x S => κ (pc + 1) L (.int (x &&& y) :: S) g
    | .ior => m_pi S fun y S => m_pi S fun x S => κ (pc + 1) L (.int (x ||| y) :: S) g
    | .ixor => m_pi S fun y S => m_pi S fun x S => κ (pc + 1) L (.int (x ^^^ y) :: S) g
    | .ishl => m_pi S fun y S => m_pi S fun x S => κ (pc + 1) L (.int (x <<< (y &&& 31)) :: S) g
    | .ishr => m_pi S fun y S => m_pi S fun x S => κ (pc + 1) L (.int (x >>> (y &&& 31)) :: S) g
    | .iushr => m_pi S fun y S => m_pi S fun x S => κ (pc + 1) L (.int (x.toUInt32 >>> (y.toUInt32 &&& Int32.toUInt32 31)).toInt32 :: S) g
    | .idiv => m_pi S fun y S => m_pi S fun x S => if y = 0 then none else κ (pc + 1) L (.int (x / y) :: S) g
    | .irem => m_pi S fun y S => m_pi S fun x S => if y = 0 then none else κ (pc + 1) L (.int (x - x / y * y) :: S) g
    | .ineg => m_pi S fun x S => κ (pc + 1) L (.int (-x) :: S) g
    | .i2l => m_pi S fun x S => κ (pc + 1) L (.long x.toInt64 :: S) g
    | .i2b => m_pi S fun x S => κ (pc + 1) L (.int x.toInt8.toInt32 :: S) g
    | .i2s => m_pi S fun x S => κ (pc + 1) L (.int x.toInt16.toInt32 :: S) g
    | .l2i => m_pl S fun x S => κ (pc + 1) L (.int x.toInt32 :: S) g
    | .ladd => m_pl S fun y S => m_pl S fun x S => κ (pc + 1) L (.long (x + y) :: S) g
    | .lmul => m_pl S fun y S => m_pl S fun x S => κ (pc + 1) L (.long (x * y) :: S) g
    | .land => m_pl S fun y S => m_pl S fun x S => κ (pc + 1) L (.long (x &&& y) :: S) g
    | .lor => m_pl S fun y S => m_pl S fun x S => κ (pc + 1) L (.long (x ||| y) :: S) g
    | .ldiv => m_pl S fun y S => m_pl S fun x S => if y = 0 then none else κ (pc + 1) L (.long (x / y) :: S) g
    | .lrem => m_pl S fun y S => m_pl S fun x S => if y = 0 then none else κ (pc + 1) L (.long (x - x / y * y) :: S) g
    | .lshl => m_pi S fun y S => m_pl S fun x S => κ (pc + 1) L (.long (x <<< (y.toInt64 &&& 63)) :: S) g
    | .lcmp => m_pl S fun y S => m_pl S fun x S => κ (pc + 1) L (.int (lg_cmp x y) :: S) g
    | .dup => (match S with
      | x :: t => (match x.category with
        | 1 => κ (pc + 1) L (x :: x :: t) g
        | _ => none)
      | _ => none)
    | .pop => (match S with
      | x :: t => (match x.category with
        | 1 => κ (pc + 1) L t g
        | _ => none)
      | _ => none)
    | .dup2 => (match S with
      | x :: y :: t => (match x.category, y.category with
        | 1, 1 => κ (pc + 1) L (x :: y :: x :: y :: t) g
        | _, _ => none)
      | _ => none)
    | .ifCond .eq _ => m_pi S fun x S => m_if (x = 0) (κ k L S g) (κ (pc + 3) L S g)
    | .ifCond .ne _ => m_pi S fun x S => m_if (x = 0) (κ (pc + 3) L S g) (κ k L S g)
    | .ifCond .lt _ => m_pi S fun x S => m_if (x < 0) (κ k L S g) (κ (pc + 3) L S g)
    | .ifCond .ge _ => m_pi S fun x S => m_if (x < 0) (κ (pc + 3) L S g) (κ k L S g)
    | .ifCond .gt _ => m_pi S fun x S => m_if (0 < x) (κ k L S g) (κ (pc + 3) L S g)
    | .ifCond .le _ => m_pi S fun x S => m_if (0 < x) (κ (pc + 3) L S g) (κ k L S g)
    | .if_icmp .eq _ => m_pi S fun y S => m_pi S fun x S => m_if (x = y) (κ k L S g) (κ (pc + 3) L S g)
    | .if_icmp .ne _ => m_pi S fun y S => m_pi S fun x S => m_if (x = y) (κ (pc + 3) L S g) (κ k L S g)
    | .if_icmp .lt _ => m_pi S fun y S => m_pi S fun x S => m_if (x < y) (κ k L S g) (κ (pc + 3) L S g)
    | .if_icmp .ge _ => m_pi S fun y S => m_pi S fun x S => m_if (x < y) (κ (pc + 3) L S g) (κ k L S g)
    | .if_icmp .gt _ => m_pi S fun y S => m_pi S fun x S => m_if (y < x) (κ k L S g) (κ (pc + 3) L S g)
    | .if_icmp .le _ => m_pi S fun y S => m_pi S fun x S => m_if (y < x) (κ (pc + 3) L S g) (κ k L S g)
    | .goto _ => κ k L S g
    | .tableswitch _ _ _ _ => m_pi S fun x S => m_sw x k (fun t => κ t L S g) ts
    | .lookupswitch _ _ => m_pi S fun x S => m_sw x k (fun t => κ t L S g) ts
    | .getfield _ => m_pa S fun a S => m_fld a k fun q => (match q with
      | 0 => κ (pc + 3) L (.int (g.1 a (k % 100)) :: S) g
      | 1 => κ (pc + 3) L (.long (g.2 a (k % 100)) :: S) g
      | 2 => κ (pc + 3) L (.int (g.1 a (k % 100)) :: S) g
      | j + 3 => κ (pc + 3) L (.ref j :: S) g)
    | .putfield _ => (match S with
      | .int x :: t => m_pa t fun a t => m_fld a k fun q => (match q with
        | 0 => κ (pc + 3) L t (m_s1 g a (k % 100) x)
        | 2 => if x = 1 then κ (pc + 3) L t (m_s1 g a (k % 100) x) else none
        | _ => none)
      | .long x :: t => m_pa t fun a t => m_fld a k fun q => (match q with
        | 1 => κ (pc + 3) L t (m_s2 g a (k % 100) x)
        | _ => none)
      | _ => none)
    | .getstatic _ => κ (pc + 3) L (.ref (1000 + k) :: S) g
    | .iaload => m_pi S fun i S => m_pa S fun a S => (match m_sh[a]? with
      | some _ => m_arr 0 a fun n _ => m_in i n (κ (pc + 1) L (.int (g.1 a i.toNatClampNeg) :: S) g)
      | none => (match Nat.beq a 999 with
        | true => m_scl sc i fun x => κ (pc + 1) L (.int x :: S) g
        | false => m_stat a fun ty vs => (match ty with
          | .int => m_in i vs.length (κ (pc + 1) L (.int (vs.getD i.toNatClampNeg 0) :: S) g)
          | _ => none)))
    | .caload => m_pi S fun i S => m_pa S fun a S => m_stat a fun ty vs => (match ty with
      | .char => m_in i vs.length (κ (pc + 1) L (.int (vs.getD i.toNatClampNeg 0) :: S) g)
      | _ => none)
    | .baload => m_pi S fun i S => m_pa S fun a S => m_arr 1 a fun n _ => m_in i n (κ (pc + 1) L (.int (g.1 a i.toNatClampNeg) :: S) g)
    | .saload => m_pi S fun i S => m_pa S fun a S => m_arr 2 a fun n _ => m_in i n (κ (pc + 1) L (.int (g.1 a i.toNatClampNeg) :: S) g)
    | .laload => m_pi S fun i S => m_pa S fun a S => m_arr 3 a fun n _ => m_in i n (κ (pc + 1) L (.long (g.2 a i.toNatClampNeg) :: S) g)
    | .aaload => m_pi S fun i S => m_pa S fun a S => m_arr 4 a fun n rs => m_in i n (m_sel rs i.toNatClampNeg fun j => κ (pc + 1) L (.ref j :: S) g)
    | .iastore => m_pi S fun x S => m_pi S fun i S => m_pa S fun a S => m_arr 0 a fun n _ => m_in i n (κ (pc + 1) L S (m_s1 g a i.toNatClampNeg x))
    | .bastore => m_pi S fun x S => m_pi S fun i S => m_pa S fun a S => m_arr 1 a fun n _ => m_in i n (κ (pc + 1) L S (m_s1 g a i.toNatClampNeg (vp_nar .byte x)))
    | .sastore => m_pi S fun x S => m_pi S fun i S => m_pa S fun a S => m_arr 2 a fun n _ => m_in i n (κ (pc + 1) L S (m_s1 g a i.toNatClampNeg (vp_nar .short x)))
    | .lastore => m_pl S fun x S => m_pi S fun i S => m_pa S fun a S => m_arr 3 a fun n _ => m_in i n (κ (pc + 1) L S (m_s2 g a i.toNatClampNeg x))
    | .arraylength => m_pa S fun a S => (match m_sh[a]? with
      | some (_ + 1, n, _) => κ (pc + 1) L (.int (Int32.ofNat n) :: S) g
      | some (0, _, _) => none
      | none => (match Nat.beq a 999 with
        | true => m_scn sc fun x => κ (pc + 1) L (.int x :: S) g
        | false => none))
    | _ => none
end MX
def m_split : Nat → List Value → List Value → Option (List Value × List Value)
  | 0, acc, S => some (acc, S)
  | n + 1, acc, x :: S => m_split n (x :: acc) S
  | _ + 1, _, [] => none
def m_sl (vs : List Value) : List Value := match vs with
  | [] => []
  | v :: r => (match v.category with
    | 2 => v :: .null :: m_sl r
    | _ => v :: m_sl r)
def m_ent (n : Nat) (vs : List Value) : List Value := m_sl vs ++ List.replicate (n - (m_sl vs).length) .null
def m_cat (S : List Value) : Nat := (S.map fun v => v.category).sum
/-- the receiver is of the callee's class, the locals fit, the stack below is small -/
def m_okc (v : Bool) (m2 : mM) (as rest : List Value) : Bool := (Nat.ble (m_sl as).length m2.2.2.2.1 && Nat.ble (m_cat rest) 8) && (match v with
  | false => true
  | true => (match as with
    | .ref b :: _ => (match m_sh[b]? with
      | some (0, c, _) => Nat.beq c m2.1
      | _ => false)
    | _ => false))
def m_cp (g : mG) (a0 a sp dp n : Nat) : mG := (g.1, fun c => if c = a then va_cpy (g.2 a0) (g.2 a) sp dp n else g.2 c)
/-- longs moved from row to row -/
def m_copy {β : Type} (S : List Value) (g : mG) (κ : List Value → mG → Option β) : Option β :=
  m_pi S fun n S => m_pi S fun dp S => m_pa S fun a S => m_pi S fun sp S => m_pa S fun a0 S => m_arr 3 a0 fun n0 _ => m_arr 3 a fun n1 _ =>
    if sp < 0 ∨ dp < 0 ∨ n < 0 ∨ n0 < sp.toNatClampNeg + n.toNatClampNeg ∨ n1 < dp.toNatClampNeg + n.toNatClampNeg ∨ S ≠ [] then none
    else κ S (m_cp g a0 a sp.toNatClampNeg dp.toNatClampNeg n.toNatClampNeg)
/-- the JDK's own: arraycopy, max, min, abs -/
def m_spec {β : Type} (k : Nat) (S : List Value) (g : mG) (κ : List Value → mG → Option β) : Option β := match k with
  | 5000 => m_copy S g κ
  | 5001 => m_pi S fun y S => m_pi S fun x S => (match Nat.ble (m_cat S) 8 with
    | true => κ (.int (if x < y then y else x) :: S) g
    | false => none)
  | 5002 => m_pi S fun y S => m_pi S fun x S => (match Nat.ble (m_cat S) 8 with
    | true => κ (.int (if y < x then y else x) :: S) g
    | false => none)
  | _ => m_pi S fun x S => (match Nat.ble (m_cat S) 8 with
    | true => κ (.int (if 0 ≤ x then x else 0 - x) :: S) g
    | false => none)
/-- what a call gives, put on the stack -/
def m_psh (r : Option Value) (S : List Value) : List Value := match r with
  | none => S
  | some v => v :: S
def m_bnd (x : Option (Option Value × mG)) (f : Option Value → mG → Option (Option Value × mG)) : Option (Option Value × mG) := match x with
  | none => none
  | some q => f q.1 q.2
def m_call (v : Bool) (d k : Nat) (S : List Value) (g : mG) (run : Nat → mM → List Value → mG → Option (Option Value × mG)) (κ : List Value → mG → Option (Option Value × mG)) : Option (Option Value × mG) := match d with
  | 0 => none
  | d + 1 => match Nat.ble 5000 k with
    | true => m_spec k S g κ
    | false => match m_mt k with
      | none => none
      | some m2 => match m_split m2.2.2.2.2.2.1 [] S with
        | none => none
        | some (as, rest) => match m_okc v m2 as rest with
          | false => none
          | true => m_bnd (run d m2 as g) fun r g2 => κ (m_psh r rest) g2
def m_k (i : Instr) : Nat := match i with
  | .return_ => 1
  | .ireturn => 2
  | .lreturn => 3
  | .areturn => 4
  | .invokevirtual _ => 5
  | .invokestatic _ => 6
  | _ => 0
/-- n bounds the steps, d the calls that stand open -/
noncomputable def m_ex : Nat → Option (Nat × (Nat → Int32)) → Nat → mM → Nat → List Value → List Value → mG → Option (Option Value × mG)
  | 0, _, _, _, _, _, _, _ => none
  | n + 1, sc, d, mm, pc, L, S, g => match m_fetch mm.2.2.2.2.2.2.2 pc with
    | none => none
    | some o => match m_k o.2.1 with
      | 0 => m_xs sc o L S g (fun pc L S g => m_ex n sc d mm pc L S g)
      | 1 => (match S, mm.2.2.2.2.1 with
        | [], none => some (none, g)
        | _, _ => none)
      | 2 => (match S with
        | [.int x] => (match mm.2.2.2.2.1 with
          | some .int => some (some (.int x), g)
          | some .boolean => if x &&& 1 = x then some (some (.int x), g) else none
          | _ => none)
        | _ => none)
      | 3 => (match S with
        | [.long x] => (match mm.2.2.2.2.1 with
          | some .long => some (some (.long x), g)
          | _ => none)
        | _ => none)
      | 4 => (match S with
        | [.ref x] => (match mm.2.2.2.2.1 with
          | some (.object _) => some (some (.ref x), g)
          | _ => none)
        | _ => none)
      | 5 => m_call true d o.2.2.2.1 S g (fun d m2 as g => m_ex n none d m2 0 (m_ent m2.2.2.2.1 as) [] g) (fun S g => m_ex n sc d mm (pc + 3) L S g)
      | _ => m_call false d o.2.2.2.1 S g (fun d m2 as g => m_ex n none d m2 0 (m_ent m2.2.2.2.1 as) [] g) (fun S g => m_ex n sc d mm (pc + 3) L S g)
end
section
/-! SOUND (1): the pure state as a world of cells; locals; what the tables give -/
def m_fv (ad : Nat → Nat) (g : mG) (a k q : Nat) : Value := match q with
  | 0 => .int (g.1 a k)
  | 1 => .long (g.2 a k)
  | 2 => .int (g.1 a k)
  | j + 3 => .ref (ad j)
def m_fs (ad : Nat → Nat) (g : mG) (a : Nat) (fs : List Nat) : List Value := fs.mapIdx (fun k q => m_fv ad g a k q)
def m_e (ad : Nat → Nat) (cA : Nat → ClassId) (g : mG) (a : Nat) (q : mS) : va_E := match q with
  | (0, c, fs) => .inr (c, m_fs ad g a fs)
  | (4, n, _) => .inl (cA 3, n, .inr (.inl (g.2 a)))
  | (5, n, rs) => .inl (cA 4, n, .inr (.inr (.inr (.inr (fun k => (rs[k]?).map ad)))))
  | (t + 1, n, _) => .inl (cA t, n, .inl (g.1 a))
def m_w (ad : Nat → Nat) (cA : Nat → ClassId) (g : mG) : va_W := m_sh.mapIdx (fun a q => (ad a, m_e ad cA g a q))
theorem m_w_at {ad : Nat → Nat} {cA : Nat → ClassId} {g : mG} {a : Nat} {q : mS} (h : m_sh[a]? = some q) : (m_w ad cA g)[a]? = some (ad a, m_e ad cA g a q) := by
  unfold m_w
  rw [List.getElem?_mapIdx, h]
  rfl
theorem m_w_of {ad : Nat → Nat} {cA : Nat → ClassId} {g : mG} {a : Nat} {x : Nat × va_E} (h : (m_w ad cA g)[a]? = some x) : ∃ q, m_sh[a]? = some q ∧ x = (ad a, m_e ad cA g a q) := by
  unfold m_w at h
  rw [List.getElem?_mapIdx] at h
  cases hq : m_sh[a]? with
  | none => rw [hq] at h; cases h
  | some q => rw [hq] at h; exact ⟨q, rfl, (Option.some.inj h).symm⟩
theorem m_e_cong {ad : Nat → Nat} {cA : Nat → ClassId} {g g2 : mG} {a : Nat} {q : mS} (h1 : g2.1 a = g.1 a) (h2 : g2.2 a = g.2 a) : m_e ad cA g2 a q = m_e ad cA g a q := by
  unfold m_e m_fs m_fv
  rw [h1, h2]
theorem m_w_set {ad : Nat → Nat} {cA : Nat → ClassId} {g g2 : mG} {a : Nat} {q : mS} (h : m_sh[a]? = some q) (h1 : ∀ c, c ≠ a → g2.1 c = g.1 c) (h2 : ∀ c, c ≠ a → g2.2 c = g.2 c) : (m_w ad cA g).set a (ad a, m_e ad cA g2 a q) = m_w ad cA g2 := by
  apply List.ext_getElem?
  intro j
  by_cases hj : j = a
  · subst hj
    rw [m_w_at h, List.getElem?_set_self]
    exact (List.getElem?_eq_some_iff.mp (m_w_at h)).1
  · rw [List.getElem?_set_ne (fun e => hj e.symm)]
    unfold m_w
    rw [List.getElem?_mapIdx, List.getElem?_mapIdx]
    cases m_sh[j]? with
    | none => rfl
    | some q2 =>
      show some (ad j, m_e ad cA g j q2) = some (ad j, m_e ad cA g2 j q2)
      rw [m_e_cong (h1 j hj) (h2 j hj)]
def m_inj (ad : Nat → Nat) : Prop := ∀ i j, i < m_sh.length → j < m_sh.length → ad i = ad j → i = j
theorem m_lt {a : Nat} {q : mS} (h : m_sh[a]? = some q) : a < m_sh.length := (List.getElem?_eq_some_iff.mp h).1
theorem m_w_D {ad : Nat → Nat} {cA : Nat → ClassId} {g : mG} {A : Nat → Prop} (hi : m_inj ad) (hA : ∀ i, i < m_sh.length → A (ad i)) : va_D A (m_w ad cA g) := by
  refine ⟨fun i j p q h1 h2 e => ?_, fun k q h => ?_⟩
  · obtain ⟨x, hx, rfl⟩ := m_w_of h1
    obtain ⟨y, hy, rfl⟩ := m_w_of h2
    exact hi i j (m_lt hx) (m_lt hy) e
  · obtain ⟨x, hx, rfl⟩ := m_w_of h
    exact hA k (m_lt hx)
abbrev m_tys (cA : Nat → ClassId) : List (ClassId × FieldType) := [(cA 0, .int), (cA 1, .byte), (cA 2, .short), (cA 3, .long), (cA 4, .object "NailedByWord$Shelf")]
def m_isN (w : Jvm.Cond) : Bool := match w with
  | .fieldLinkNest _ _ _ _ _ _ => true
  | .methodLinkNest _ _ _ _ => true
  | _ => false
def m_K (D : va_G) (cA : Nat → ClassId) (ad : Nat → Nat) (A : Nat → Prop) (U : State) : Prop := va_K D vwCl (m_tys cA) U ∧ (∀ w ∈ lw_tbl, m_isN w = true → va_Nw w U) ∧
  ∀ (j c : Nat) (n d : String) (ty : FieldType) (vs : List Int32), m_sa[j]? = some (c, n, d, ty, vs) → va_Z (m_own c) n d (.ref (ad (1000 + j))) A U U.heap ∧ va_T ty (ad (1000 + j)) vs.length (fun k => .int (vs.getD k 0)) A U U.heap
theorem m_K.same {D : va_G} {cA : Nat → ClassId} {ad : Nat → Nat} {A : Nat → Prop} {u U : State} (h : m_K D cA ad A u) (hv : u.vm = U.vm) (hh : U.heap = u.heap) : m_K D cA ad A U := by
  have hal : u.vm.Alike U.vm := by rw [hv]; exact Vm.Alike.refl U.vm
  refine ⟨va_K.moved hal h.1, fun w hw hn => ?_, fun j c n d ty vs hj => ?_⟩
  · have h1 := h.2.1 w hw hn
    cases w <;> first | (simp [m_isN] at hn; done) | exact va_Nw.same rfl hv h1
  · rw [hh]
    exact ⟨(h.2.2 j c n d ty vs hj).1.moved hal, (h.2.2 j c n d ty vs hj).2.moved hal⟩
theorem m_K.warm {D : va_G} {cA : Nat → ClassId} {ad : Nat → Nat} {A B : Nat → Prop} {u U : State} (h : m_K D cA ad A u) (hW : u.WarmedH U.vm) (hq : ∀ a : Nat, a < u.heap.size → ¬ A a → U.heap[a]? = u.heap[a]?) (hB : ∀ q, B q → A q) : m_K D cA ad B U := by
  refine ⟨va_K.moved hW.alike h.1, fun w hw hn => ?_, fun j c n d ty vs hj => ?_⟩
  · have h1 := h.2.1 w hw hn
    cases w <;> first | (simp [m_isN] at hn; done) | exact va_Nw.warmF hW h1 | exact va_Nw.warmM hW h1
  · obtain ⟨h1, h2⟩ := h.2.2 j c n d ty vs hj
    exact ⟨((h1.moved hW.alike).kept hq).narrow hB, ((h2.moved hW.alike).kept hq).narrow hB⟩
/-! locals -/
def m_lv (ad : Nat → Nat) (ls : Array Slot) (n : Nat) (L : List Value) : Prop := ls.size = n ∧ L.length = n ∧ lv_wf ls ∧ ∀ (i : Nat) (v : Value), L[i]? = some v → v ≠ .null → ls[i]? = some (.val (m_tr ad v))
theorem m_tr_cat {ad : Nat → Nat} (v : Value) : (m_tr ad v).category = v.category := by cases v <;> rfl
def m_prs (ad : Nat → Nat) (L : List Value) : List (Nat × Value) := (L.mapIdx (fun i v => (i, v))).filterMap (fun q => if q.2 = .null then none else some (q.1, m_tr ad q.2))
theorem m_prs_in {ad : Nat → Nat} {L : List Value} {i : Nat} {v : Value} (h : L[i]? = some v) (hn : v ≠ .null) : (i, m_tr ad v) ∈ m_prs ad L := by
  unfold m_prs
  refine List.mem_filterMap.mpr ⟨(i, v), List.mem_of_getElem? (i := i) ?_, ?_⟩
  · rw [List.getElem?_mapIdx, h]; rfl
  · show (if v = .null then none else some (i, m_tr ad v)) = _
    rw [if_neg hn]
theorem m_prs_of {ad : Nat → Nat} {L : List Value} {q : Nat × Value} (h : q ∈ m_prs ad L) : ∃ v, L[q.1]? = some v ∧ v ≠ .null ∧ q.2 = m_tr ad v := by
  unfold m_prs at h
  obtain ⟨⟨i, v⟩, h1, h2⟩ := List.mem_filterMap.mp h
  obtain ⟨j, hj⟩ := List.getElem?_of_mem h1
  rw [List.getElem?_mapIdx] at hj
  cases hL : L[j]? with
  | none => rw [hL] at hj; cases hj
  | some v2 =>
    rw [hL] at hj
    have e : (j, v2) = (i, v) := Option.some.inj hj
    have e1 : j = i := congrArg Prod.fst e
    have e2 : v2 = v := congrArg Prod.snd e
    subst e1
    subst e2
    by_cases hn : v2 = .null
    · rw [if_pos hn] at h2; cases h2
    · rw [if_neg hn] at h2
      cases h2
      exact ⟨v2, hL, hn, rfl⟩
theorem m_lv.has {ad : Nat → Nat} {ls : Array Slot} {n : Nat} {L : List Value} (h : m_lv ad ls n L) : lv_has ls n (m_prs ad L) := by
  refine ⟨h.1, h.2.2.1, fun q hq => ?_⟩
  obtain ⟨v, h1, h2, h3⟩ := m_prs_of hq
  rw [h3]
  exact h.2.2.2 _ _ h1 h2
theorem m_lv.at {ad : Nat → Nat} {ls : Array Slot} {n : Nat} {L : List Value} (h : m_lv ad ls n L) {k : Nat} {v : Value} (hk : L[k]? = some v) (hn : v ≠ .null) : ls[k]? = some (.val (m_tr ad v)) := h.2.2.2 k v hk hn
theorem m_clob_len (L : List Value) (k : Nat) : (m_clob L k).length = L.length := by
  cases k with
  | zero => rfl
  | succ j =>
    unfold m_clob
    dsimp only
    split
    · split
      · exact List.length_set
      · rfl
    · rfl
theorem m_clob_at {L : List Value} {k i : Nat} {v : Value} (h : (m_clob L k)[i]? = some v) (hn : v ≠ .null) : L[i]? = some v ∧ ¬ (i + 1 = k ∧ v.category = 2) := by
  cases k with
  | zero => exact ⟨h, fun e => by omega⟩
  | succ j =>
    by_cases hij : i = j
    · subst hij
      unfold m_clob at h
      dsimp only at h
      cases hL : L[i]? with
      | none =>
        rw [hL] at h
        dsimp only at h
        rw [hL] at h
        cases h
      | some w =>
        rw [hL] at h
        dsimp only at h
        split at h
        · have hlt : i < L.length := (List.getElem?_eq_some_iff.mp hL).1
          rw [List.getElem?_set_self hlt] at h
          exact absurd (Option.some.inj h).symm hn
        · next hc =>
          rw [hL] at h
          cases h
          exact ⟨rfl, fun e => hc e.2⟩
    · have h2 : (m_clob L (j + 1))[i]? = L[i]? := by
        unfold m_clob
        dsimp only
        split
        · split
          · rw [List.getElem?_set_ne (fun e => hij e.symm)]
          · rfl
        · rfl
      rw [h2] at h
      exact ⟨h, fun e => by omega⟩
theorem m_st1_in {ad : Nat → Nat} {L : List Value} {k : Nat} {x : Value} {i : Nat} {v : Value} (h : (m_st1 L k x)[i]? = some v) (hn : v ≠ .null) : (i, m_tr ad v) ∈ ((k, m_tr ad x) :: (m_prs ad L).filter (fun q => !(q.1 == k) && !(q.1 + 1 == k && q.2.category == 2))) := by
  unfold m_st1 at h
  by_cases hik : i = k
  · subst hik
    have hlt : i < (m_clob L i).length := by
      have := (List.getElem?_eq_some_iff.mp h).1
      rwa [List.length_set] at this
    rw [List.getElem?_set_self hlt] at h
    cases h
    exact List.mem_cons_self
  · rw [List.getElem?_set_ne (fun e => hik e.symm)] at h
    obtain ⟨h1, h2⟩ := m_clob_at h hn
    refine List.mem_cons_of_mem _ (List.mem_filter.mpr ⟨m_prs_in h1 hn, ?_⟩)
    simp only [m_tr_cat]
    simp [hik]
    by_cases e : i + 1 = k
    · exact Or.inr (fun hc => h2 ⟨e, hc⟩)
    · exact Or.inl e
theorem m_st2_in {ad : Nat → Nat} {L : List Value} {k : Nat} {x : Value} {i : Nat} {v : Value} (h : (m_st2 L k x)[i]? = some v) (hn : v ≠ .null) : (i, m_tr ad v) ∈ ((k, m_tr ad x) :: (m_prs ad L).filter (fun q => !(q.1 == k) && (!(q.1 == k + 1) && !(q.1 + 1 == k && q.2.category == 2)))) := by
  unfold m_st2 at h
  by_cases hik : i = k + 1
  · subst hik
    have hlt : k + 1 < ((m_clob L k).set k x).length := by
      have := (List.getElem?_eq_some_iff.mp h).1
      rwa [List.length_set] at this
    rw [List.getElem?_set_self hlt] at h
    exact absurd (Option.some.inj h).symm hn
  · rw [List.getElem?_set_ne (fun e => hik e.symm)] at h
    by_cases hi : i = k
    · subst hi
      have hlt : i < (m_clob L i).length := by
        have := (List.getElem?_eq_some_iff.mp h).1
        rwa [List.length_set] at this
      rw [List.getElem?_set_self hlt] at h
      cases h
      exact List.mem_cons_self
    · rw [List.getElem?_set_ne (fun e => hi e.symm)] at h
      obtain ⟨h1, h2⟩ := m_clob_at h hn
      refine List.mem_cons_of_mem _ (List.mem_filter.mpr ⟨m_prs_in h1 hn, ?_⟩)
      simp only [m_tr_cat]
      simp [hi, hik]
      by_cases e : i + 1 = k
      · exact Or.inr (fun hc => h2 ⟨e, hc⟩)
      · exact Or.inl e
theorem m_lv.st1 {ad : Nat → Nat} {ls ls2 : Array Slot} {n k : Nat} {L : List Value} {x : Value} (h : m_lv ad ls n L) (h2 : lv_has ls2 n ((k, m_tr ad x) :: (m_prs ad L).filter (fun q => !(q.1 == k) && !(q.1 + 1 == k && q.2.category == 2)))) : m_lv ad ls2 n (m_st1 L k x) :=
  ⟨h2.1, by unfold m_st1; rw [List.length_set, m_clob_len]; exact h.2.1, h2.2.1, fun i v hi hn => h2.2.2 _ (m_st1_in hi hn)⟩
theorem m_lv.st2 {ad : Nat → Nat} {ls ls2 : Array Slot} {n k : Nat} {L : List Value} {x : Value} (h : m_lv ad ls n L) (h2 : lv_has ls2 n ((k, m_tr ad x) :: (m_prs ad L).filter (fun q => !(q.1 == k) && (!(q.1 == k + 1) && !(q.1 + 1 == k && q.2.category == 2))))) : m_lv ad ls2 n (m_st2 L k x) :=
  ⟨h2.1, by unfold m_st2; rw [List.length_set, List.length_set, m_clob_len]; exact h.2.1, h2.2.1, fun i v hi hn => h2.2.2 _ (m_st2_in hi hn)⟩
theorem m_sl_in {ad : Nat → Nat} : ∀ (vs : List Value) (b i : Nat) (v : Value), (m_sl vs)[i]? = some v → v ≠ .null → (b + i, m_tr ad v) ∈ lv_args b (vs.map (m_tr ad)) := by
  intro vs
  induction vs with
  | nil => intro b i v h; simp [m_sl] at h
  | cons x r ih =>
    intro b i v h hn
    unfold m_sl at h
    simp only [List.map_cons, lv_args, m_tr_cat]
    by_cases hc : x.category = 2
    · rw [hc] at h ⊢
      simp only [if_true]
      match i, h with
      | 0, h => cases h; exact List.mem_cons_self
      | 1, h => cases h; exact absurd rfl hn
      | i + 2, h =>
        have := ih (b + 2) i v h hn
        rw [show b + (i + 2) = b + 2 + i by omega]
        exact List.mem_cons_of_mem _ this
    · rw [if_neg hc]
      have h : (x :: m_sl r)[i]? = some v := by
        split at h
        · next e => exact absurd e hc
        · exact h
      match i, h with
      | 0, h => cases h; exact List.mem_cons_self
      | i + 1, h =>
        have := ih (b + 1) i v h hn
        rw [show b + (i + 1) = b + 1 + i by omega]
        exact List.mem_cons_of_mem _ this
theorem m_sl_len {ad : Nat → Nat} (vs : List Value) : (lg_sl (vs.map (m_tr ad))).length = (m_sl vs).length := by
  induction vs with
  | nil => rfl
  | cons x r ih =>
    unfold m_sl
    by_cases hc : x.category = 2
    · rw [hc]
      simp only [List.map_cons, lg_sl, List.flatMap_cons, m_tr_cat, hc, if_true, List.length_append, List.length_cons, List.length_nil]
      rw [lg_sl] at ih
      omega
    · split
      · next e => exact absurd e hc
      · simp only [List.map_cons, lg_sl, List.flatMap_cons, m_tr_cat, hc, if_false, List.length_append, List.length_cons, List.length_nil]
        rw [lg_sl] at ih
        omega
theorem m_lv.entry {ad : Nat → Nat} {vs : List Value} {n : Nat} (h : (m_sl vs).length ≤ n) : m_lv ad ((lg_sl (vs.map (m_tr ad)) ++ List.replicate (n - (lg_sl (vs.map (m_tr ad))).length) Slot.unset).toArray) n (m_ent n vs) := by
  have h1 := lv_entry (vs.map (m_tr ad)) (n := n) (by rw [m_sl_len]; exact h)
  refine ⟨h1.1, by unfold m_ent; simp; omega, h1.2.1, fun i v hi hn => h1.2.2 (i, m_tr ad v) ?_⟩
  unfold m_ent at hi
  by_cases hlt : i < (m_sl vs).length
  · rw [List.getElem?_append_left hlt] at hi
    have := m_sl_in (ad := ad) vs 0 i v hi hn
    rwa [Nat.zero_add] at this
  · rw [List.getElem?_append_right (by omega)] at hi
    exact absurd (List.eq_of_mem_replicate (List.mem_of_getElem? hi)) hn
end
section
/-! SOUND (2): one instruction -/
theorem m_fetch_inv {ops : List mO} {pc : Nat} {o : mO} (h : m_fetch ops pc = some o) : o ∈ ops ∧ o.1 = pc := by
  unfold m_fetch at h
  refine ⟨List.mem_of_find?_eq_some h, ?_⟩
  have := List.find?_some h
  exact Nat.eq_of_beq_eq_true this
theorem m_any_inv {t : List (Nat × Nat × Nat × Nat × Bool)} {f : Nat × Nat × Nat × Nat × Bool → Bool} (hf : t.all f = true) {oc idx k : Nat} (h : m_any t oc idx k = true) : ∃ pl nest, f (oc, idx, k, pl, nest) = true := by
  unfold m_any at h
  obtain ⟨⟨a, b, c, pl, nest⟩, hm, he⟩ := List.any_eq_true.mp h
  simp only [Bool.and_eq_true, Nat.beq_eq] at he
  obtain ⟨rfl, rfl, rfl⟩ := he
  exact ⟨pl, nest, List.all_eq_true.mp hf _ hm⟩
theorem m_fld_inv {β : Type} {a k : Nat} {f : Nat → Option β} {z : β} (h : m_fld a k f = some z) : ∃ fs q, m_sh[a]? = some (0, k / 100, fs) ∧ fs[k % 100]? = some q ∧ f q = some z := by
  unfold m_fld at h
  split at h
  · next c fs e =>
    split at h
    · next hb =>
      have hc : c = k / 100 := Nat.eq_of_beq_eq_true hb
      subst hc
      split at h
      · next q hq => exact ⟨fs, q, e, hq, h⟩
      · cases h
    · cases h
  · cases h
theorem m_arr_inv {β : Type} {t a : Nat} {f : Nat → List Nat → Option β} {z : β} (h : m_arr t a f = some z) : ∃ n rs, m_sh[a]? = some (t + 1, n, rs) ∧ f n rs = some z := by
  unfold m_arr at h
  split at h
  · next u n rs e =>
    split at h
    · next hb =>
      have hc : u = t := Nat.eq_of_beq_eq_true hb
      subst hc
      exact ⟨n, rs, e, h⟩
    · cases h
  · cases h
theorem m_stat_inv {β : Type} {a : Nat} {f : FieldType → List Int32 → Option β} {z : β} (h : m_stat a f = some z) : ∃ j c n d ty vs, a = 1000 + j ∧ m_sa[j]? = some (c, n, d, ty, vs) ∧ f ty vs = some z := by
  unfold m_stat at h
  split at h
  · next hb =>
    have hle : 1000 ≤ a := Nat.le_of_ble_eq_true hb
    split at h
    · next c n d ty vs e => exact ⟨a - 1000, c, n, d, ty, vs, by omega, e, h⟩
    · cases h
  · cases h
theorem m_sw_k {β : Type} {pc k : Nat} {d : Int} {x : Int32} {f : Nat → Option β} (hd : (pc : Int) + d = (k : Int)) : ∀ (ps : List (Int × Int)) (ts : List (Int32 × Nat)), m_kchk pc ps ts = true → ∃ t : Nat, m_sw x k f ts = f t ∧ (pc : Int) + Op.lookupswitch.offset ps d x.toInt = (t : Int) := by
  intro ps
  induction ps with
  | nil =>
    intro ts h
    cases ts with
    | nil => exact ⟨k, rfl, hd⟩
    | cons q r => simp [m_kchk] at h
  | cons o os ih =>
    intro ts h
    cases ts with
    | nil => simp [m_kchk] at h
    | cons q r =>
      obtain ⟨a, b⟩ := o
      simp only [m_kchk, Bool.and_eq_true, decide_eq_true_eq] at h
      obtain ⟨h1, h2, h3⟩ := h
      rw [Op.lookupswitch.offset_cons]
      unfold m_sw
      by_cases hx : x = q.1
      · rw [m_if_pos hx, if_pos (by rw [hx, h1])]
        exact ⟨q.2, rfl, h2⟩
      · rw [m_if_neg hx, if_neg (fun e => hx (Int32.toInt_inj.mp (by rw [h1, e])))]
        exact ih r h3
theorem m_sw_t {β : Type} {pc k : Nat} {x : Int32} {f : Nat → Option β} : ∀ (os : List Int) (lo : Int) (ts : List (Int32 × Nat)), m_tchk pc lo os ts = true → ((x.toInt < lo ∨ lo + os.length - 1 < x.toInt) ∧ m_sw x k f ts = f k) ∨ (¬ x.toInt < lo ∧ ¬ lo + os.length - 1 < x.toInt ∧ ∃ (off : Int) (t : Nat), os[(x.toInt - lo).toNat]? = some off ∧ m_sw x k f ts = f t ∧ (pc : Int) + off = (t : Int)) := by
  intro os
  induction os with
  | nil =>
    intro lo ts h
    cases ts with
    | nil =>
      refine Or.inl ⟨?_, rfl⟩
      simp only [List.length_nil]
      omega
    | cons q r => simp [m_tchk] at h
  | cons o os ih =>
    intro lo ts h
    cases ts with
    | nil => simp [m_tchk] at h
    | cons q r =>
      simp only [m_tchk, Bool.and_eq_true, decide_eq_true_eq] at h
      obtain ⟨h1, h2, h3⟩ := h
      unfold m_sw
      by_cases hx : x = q.1
      · have e : x.toInt = lo := by rw [hx, h1]
        refine Or.inr ⟨by omega, by simp only [List.length_cons]; omega, o, q.2, ?_, by rw [m_if_pos hx], h2⟩
        rw [e, Int.sub_self]
        rfl
      · have hne : x.toInt ≠ lo := fun e => hx (Int32.toInt_inj.mp (by rw [h1, e]))
        rw [m_if_neg hx]
        rcases ih (lo + 1) r h3 with ⟨h4, h5⟩ | ⟨h4, h5, off, t, h6, h7, h8⟩
        · refine Or.inl ⟨?_, h5⟩
          simp only [List.length_cons]
          omega
        · refine Or.inr ⟨by omega, by simp only [List.length_cons]; omega, off, t, ?_, h7, h8⟩
          rw [show (x.toInt - lo).toNat = (x.toInt - (lo + 1)).toNat + 1 by omega]
          exact h6
theorem m_fs_at {ad : Nat → Nat} {g : mG} {a k q : Nat} {fs : List Nat} (h : fs[k]? = some q) : (m_fs ad g a fs)[k]? = some (m_fv ad g a k q) := by
  unfold m_fs
  rw [List.getElem?_mapIdx, h]
  rfl
theorem m_fs_len {ad : Nat → Nat} {g : mG} {a : Nat} {fs : List Nat} : (m_fs ad g a fs).length = fs.length := by
  unfold m_fs
  rw [List.length_mapIdx]
theorem m_fs_set1 {ad : Nat → Nat} {g : mG} {a k q : Nat} {fs : List Nat} {x : Int32} (h : fs[k]? = some q) (hq : q = 0 ∨ q = 2) : (m_fs ad g a fs).set k (.int x) = m_fs ad (m_s1 g a k x) a fs := by
  apply List.ext_getElem?
  intro j
  have hlt : k < fs.length := (List.getElem?_eq_some_iff.mp h).1
  by_cases hj : j = k
  · subst hj
    rw [List.getElem?_set_self (by rw [m_fs_len]; exact hlt), m_fs_at h]
    rcases hq with rfl | rfl <;> simp [m_fv, m_s1, upd]
  · rw [List.getElem?_set_ne (fun e => hj e.symm)]
    cases hf : fs[j]? with
    | none => unfold m_fs; rw [List.getElem?_mapIdx, List.getElem?_mapIdx, hf]; rfl
    | some c =>
      rw [m_fs_at hf, m_fs_at hf]
      unfold m_fv
      split <;> simp [m_s1, upd, hj]
theorem m_fs_set2 {ad : Nat → Nat} {g : mG} {a k : Nat} {fs : List Nat} {x : Int64} (h : fs[k]? = some 1) : (m_fs ad g a fs).set k (.long x) = m_fs ad (m_s2 g a k x) a fs := by
  apply List.ext_getElem?
  intro j
  have hlt : k < fs.length := (List.getElem?_eq_some_iff.mp h).1
  by_cases hj : j = k
  · subst hj
    rw [List.getElem?_set_self (by rw [m_fs_len]; exact hlt), m_fs_at h]
    simp [m_fv, m_s2, vp_updL]
  · rw [List.getElem?_set_ne (fun e => hj e.symm)]
    cases hf : fs[j]? with
    | none => unfold m_fs; rw [List.getElem?_mapIdx, List.getElem?_mapIdx, hf]; rfl
    | some c =>
      rw [m_fs_at hf, m_fs_at hf]
      unfold m_fv
      split <;> simp [m_s2, vp_updL, hj]
theorem m_s1_o {g : mG} {a k : Nat} {x : Int32} : (∀ c, c ≠ a → (m_s1 g a k x).1 c = g.1 c) ∧ ∀ c, c ≠ a → (m_s1 g a k x).2 c = g.2 c := ⟨fun c h => by simp [m_s1, h], fun c h => rfl⟩
theorem m_s2_o {g : mG} {a k : Nat} {x : Int64} : (∀ c, c ≠ a → (m_s2 g a k x).1 c = g.1 c) ∧ ∀ c, c ≠ a → (m_s2 g a k x).2 c = g.2 c := ⟨fun c h => rfl, fun c h => by simp [m_s2, h]⟩
theorem m_s1_s {g : mG} {a k : Nat} {x : Int32} : (m_s1 g a k x).1 a = upd (g.1 a) k x := by simp [m_s1]
theorem m_s2_s {g : mG} {a k : Nat} {x : Int64} : (m_s2 g a k x).2 a = vp_updL (g.2 a) k x := by simp [m_s2]
/-- every class of the list: its fields' types, and that their names are apart -/
def m_tyOf (ci : Nat) : Nat → FieldType := match ci with
  | 0 => tyX0
  | 1 => tyX1
  | 2 => tyX2
  | 3 => tyX3
  | 4 => tyX4
  | 5 => tyX5
  | 6 => tyX6
  | 7 => tyX7
  | 8 => tyX8
  | 9 => tyX9
  | 10 => tyX10
  | 11 => tyX11
  | _ => tyX12
def m_clOk (ci : Nat) (q : vw_C) : Prop := (∀ w ∈ u_ws q.1 q.2.1 q.2.2, w ∈ lw_tbl ∧ goodWord w = true) ∧ (∀ k, k < q.2.2 → parseFieldDescriptor (q.2.1 k).2.2.1 = some (m_tyOf ci k)) ∧ ∀ a, a < q.2.2 → ∀ b, b < q.2.2 → a ≠ b → (q.2.1 a).2.1 ≠ (q.2.1 b).2.1
/-- the shape's sorts, and that its fields are of the classes' types -/
theorem m_sh_sort {a t n : Nat} {rs : List Nat} (h : m_sh[a]? = some (t + 1, n, rs)) : t = 0 ∨ t = 1 ∨ t = 2 ∨ t = 3 ∨ t = 4 := by
  have h1 : (m_sh.all fun q => Nat.ble q.1 5) = true := by decide +kernel
  have h2 := List.all_eq_true.mp h1 _ (List.mem_of_getElem? h)
  have h3 : t + 1 ≤ 5 := Nat.le_of_ble_eq_true h2
  omega
def m_tyc (ci k q : Nat) : Bool := match q with
  | 0 => decide (m_tyOf ci k = .int)
  | 1 => decide (m_tyOf ci k = .long)
  | 2 => decide (m_tyOf ci k = .boolean)
  | _ => true
theorem m_sh_ty {a k q : Nat} {fs : List Nat} {ci : Nat} (h : m_sh[a]? = some (0, ci, fs)) (hf : fs[k]? = some q) : (q = 0 → m_tyOf ci k = .int) ∧ (q = 1 → m_tyOf ci k = .long) ∧ (q = 2 → m_tyOf ci k = .boolean) := by
  have h1 : (m_sh.all fun x => match x with
    | (0, c, fs) => (fs.mapIdx (fun k q => m_tyc c k q)).all id
    | _ => true) = true := by decide +kernel
  have h2 := List.all_eq_true.mp h1 _ (List.mem_of_getElem? h)
  have h2 : (fs.mapIdx (fun k q => m_tyc ci k q)).all id = true := h2
  have h3 : (fs.mapIdx (fun k q => m_tyc ci k q))[k]? = some (m_tyc ci k q) := by rw [List.getElem?_mapIdx, hf]; rfl
  have h4 : m_tyc ci k q = true := List.all_eq_true.mp h2 _ (List.mem_of_getElem? h3)
  refine ⟨fun e => ?_, fun e => ?_, fun e => ?_⟩ <;> subst e <;> exact of_decide_eq_true h4
def m_gt : List Jvm.Cond := lw_tbl.filter goodWord
theorem m_gt_in {w : Jvm.Cond} (h : w ∈ m_gt) : w ∈ lw_tbl ∧ goodWord w = true := List.mem_filter.mp h
theorem m_gt_of {w : Jvm.Cond} (h : w ∈ lw_tbl) (h2 : goodWord w = true) : w ∈ m_gt := List.mem_filter.mpr ⟨h, h2⟩
theorem m_in0 {C : String} {T : u_T} {N : Nat} (h : (List.range N).all (fun k => decide (u_lay C T k ∈ lw_tbl) && goodWord (u_lay C T k)) = true) : ∀ w ∈ u_ws C T N, w ∈ lw_tbl ∧ goodWord w = true := by
  intro w hw
  unfold u_ws at hw
  obtain ⟨k, hk, rfl⟩ := List.mem_map.mp hw
  have h1 := List.all_eq_true.mp h k hk
  simp only [Bool.and_eq_true, decide_eq_true_eq] at h1
  exact h1
theorem m_cl_ok : ∀ (ci : Nat) (q : vw_C), vwCl[ci]? = some q → m_clOk ci q := by
  intro ci q h
  match ci, h with
  | 0, h => cases h; exact ⟨m_in0 (by decide +kernel), tyX0_ok, nmX0⟩
  | 1, h => cases h; exact ⟨m_in0 (by decide +kernel), tyX1_ok, nmX1⟩
  | 2, h => cases h; exact ⟨m_in0 (by decide +kernel), tyX2_ok, nmX2⟩
  | 3, h => cases h; exact ⟨m_in0 (by decide +kernel), tyX3_ok, nmX3⟩
  | 4, h => cases h; exact ⟨m_in0 (by decide +kernel), tyX4_ok, nmX4⟩
  | 5, h => cases h; exact ⟨m_in0 (by decide +kernel), tyX5_ok, nmX5⟩
  | 6, h => cases h; exact ⟨m_in0 (by decide +kernel), tyX6_ok, nmX6⟩
  | 7, h => cases h; exact ⟨m_in0 (by decide +kernel), tyX7_ok, nmX7⟩
  | 8, h => cases h; exact ⟨m_in0 (by decide +kernel), tyX8_ok, nmX8⟩
  | 9, h => cases h; exact ⟨m_in0 (by decide +kernel), tyX9_ok, nmX9⟩
  | 10, h => cases h; exact ⟨m_in0 (by decide +kernel), tyX10_ok, nmX10⟩
  | 11, h => cases h; exact ⟨m_in0 (by decide +kernel), tyX11_ok, nmX11⟩
  | 12, h => cases h; exact ⟨m_in0 (by decide +kernel), tyX12_ok, nmX12⟩
  | n + 13, h => cases h
theorem m_fchk_inv {oc idx k pl : Nat} {nest : Bool} (h : m_fchk (oc, idx, k, pl, nest) = true) : ∃ q : vw_C, vwCl[k / 100]? = some q ∧ k % 100 < q.2.2 ∧ ((Jvm.Cond.fieldLink (m_own oc) idx (q.2.1 (k % 100)).1 (q.2.1 (k % 100)).2.1 (q.2.1 (k % 100)).2.2.1) ∈ lw_tbl ∨ (Jvm.Cond.fieldLinkNest (m_own oc) idx (q.2.1 (k % 100)).1 (q.2.1 (k % 100)).2.1 (q.2.1 (k % 100)).2.2.1 m_host) ∈ lw_tbl) := by
  unfold m_fchk at h
  dsimp only at h
  cases hc : vwCl[k / 100]? with
  | none => rw [hc] at h; cases h
  | some q =>
    rw [hc] at h
    obtain ⟨C, T, N⟩ := q
    dsimp only at h
    rw [Bool.and_eq_true, decide_eq_true_eq] at h
    refine ⟨_, rfl, h.1, ?_⟩
    cases nest with
    | false => exact Or.inl (m_wd_in (of_decide_eq_true h.2))
    | true => exact Or.inr (m_wd_in (of_decide_eq_true h.2))
theorem m_gchk_inv {oc idx k pl : Nat} {nest : Bool} (h : m_gchk (oc, idx, k, pl, nest) = true) : ∃ c n d ty vs, m_sa[k]? = some (c, n, d, ty, vs) ∧ ((Jvm.Cond.fieldLink (m_own oc) idx (m_own c) n d) ∈ lw_tbl ∨ (Jvm.Cond.fieldLinkNest (m_own oc) idx (m_own c) n d m_host) ∈ lw_tbl) := by
  unfold m_gchk at h
  dsimp only at h
  cases hc : m_sa[k]? with
  | none => rw [hc] at h; cases h
  | some q =>
    rw [hc] at h
    obtain ⟨c, n, d, ty, vs⟩ := q
    dsimp only at h
    refine ⟨c, n, d, ty, vs, rfl, ?_⟩
    cases nest with
    | false => exact Or.inl (m_wd_in (of_decide_eq_true h))
    | true => exact Or.inr (m_wd_in (of_decide_eq_true h))
theorem m_nfin_inv {k : Nat} {q : vw_C} (hc : vwCl[k / 100]? = some q) (h : m_nfin k = true) : (q.2.1 (k % 100)).2.2.2 = false := by
  unfold m_nfin at h
  rw [hc] at h
  obtain ⟨C, T, N⟩ := q
  dsimp only at h ⊢
  rwa [Bool.not_eq_true'] at h
section MA
variable {β : Type} {p : Program} {l : Launch} {e : Env} {R : Room} {s : State} {m : MethodId} {args : Array Value} {below : List Frame} {meth : Method} {c : Code} {H : Heap} {locs : List Loc} {cells slots : Nat} {Q : State → Prop} {ls : Array Slot} {D : va_G} {cA : Nat → ClassId} {ad : Nat → Nat} {A : Nat → Prop} {oc : Nat} {cc : ByteArray} {maxL pc : Nat} {sc : Option (Nat × (Nat → Int32))} {L S : List Value} {g : mG} {z : β}
theorem m_iald_sound {a : Nat} {i : Int32} {f : Int32 → Option β} (hx : p.tables.exec = Jvm.exec) (hb : c.code = cc) (hK : m_K D cA ad A s) (hS : va_S A s.heap H locs) (hsc : ∀ q, sc = some q → va_X (ad 999) q.1 q.2 s s.heap ∧ ad 999 < s.heap.size ∧ ¬ A (ad 999)) (hs : m_sh[a]? = none) (hd : decode cc pc = .ok (.iaload, 1))
    (h : (match m_sh[a]? with
      | some _ => m_arr 0 a fun n _ => m_in i n (f (g.1 a i.toNatClampNeg))
      | none => (match Nat.beq a 999 with
        | true => m_scl sc i f
        | false => m_stat a fun ty vs => (match ty with
          | .int => m_in i vs.length (f (vs.getD i.toNatClampNeg 0))
          | _ => none))) = some z)
    (kk : ∀ x, f x = some z → W p l e R s m args below meth c H locs cells slots Q (F0 m (pc + 1) ls (.int x :: S.map (m_tr ad)))) : W p l e R s m args below meth c H locs cells slots Q (F0 m pc ls (.int i :: .ref (ad a) :: S.map (m_tr ad))) := by
  rw [hs] at h
  dsimp only at h
  split at h
  · next hb9 =>
    have ha : a = 999 := Nat.eq_of_beq_eq_true hb9
    subst ha
    cases sc with
    | some q =>
      obtain ⟨hin, h⟩ := m_in_inv h
      obtain ⟨h1, h2, h3⟩ := hsc q rfl
      exact va_sld hx hb h1 h2 h3 hS hin hd (kk _ h)
    | none => cases h
  · obtain ⟨j, c1, n1, d1, ty, vs, rfl, hs, h⟩ := m_stat_inv h
    cases ty with
    | int =>
      obtain ⟨hin, h⟩ := m_in_inv h
      exact va_ti hx hb (hK.2.2 j c1 n1 d1 _ vs hs).2 hS hin rfl hd (kk _ h)
    | _ => cases h
theorem m_alen_sound {a : Nat} {f : Int32 → Option β} (hx : p.tables.exec = Jvm.exec) (hb : c.code = cc) (hK : m_K D cA ad A s) (hP : va_P D vwCl (m_w ad cA g) H) (hS : va_S A s.heap H locs) (hsc : ∀ q, sc = some q → va_X (ad 999) q.1 q.2 s s.heap ∧ ad 999 < s.heap.size ∧ ¬ A (ad 999)) (hd : decode cc pc = .ok (.arraylength, 1))
    (h : (match m_sh[a]? with
      | some (_ + 1, n, _) => f (Int32.ofNat n)
      | some (0, _, _) => none
      | none => (match Nat.beq a 999 with
        | true => m_scn sc f
        | false => none)) = some z)
    (kk : ∀ x, f x = some z → W p l e R s m args below meth c H locs cells slots Q (F0 m (pc + 1) ls (.int x :: S.map (m_tr ad)))) : W p l e R s m args below meth c H locs cells slots Q (F0 m pc ls (.ref (ad a) :: S.map (m_tr ad))) := by
  split at h
  · next t n rs hs =>
    have h1 := m_w_at (ad := ad) (cA := cA) (g := g) hs
    have hlen := m_sh_sort hs
    rcases hlen with rfl | rfl | rfl | rfl | rfl
    · exact va_alen hx hb hK.1 hP a 0 h1 (ty := .int) rfl rfl hd (kk _ h)
    · exact va_alen hx hb hK.1 hP a 1 h1 (ty := .byte) rfl rfl hd (kk _ h)
    · exact va_alen hx hb hK.1 hP a 2 h1 (ty := .short) rfl rfl hd (kk _ h)
    · exact va_alen hx hb hK.1 hP a 3 h1 (ty := .long) rfl rfl hd (kk _ h)
    · exact va_alen hx hb hK.1 hP a 4 h1 (ty := .object "NailedByWord$Shelf") rfl rfl hd (kk _ h)
  · cases h
  · cases hb9 : Nat.beq a 999 with
    | false => rw [hb9] at h; cases h
    | true =>
      rw [hb9] at h
      have ha : a = 999 := Nat.eq_of_beq_eq_true hb9
      subst ha
      cases sc with
      | none => cases h
      | some q =>
        obtain ⟨h1, h2, h3⟩ := hsc q rfl
        exact va_slen hx hb h1 h2 h3 hS hd (kk _ h)
theorem m_put_sound {k idx : Nat} {C : String} {T : u_T} {N : Nat} {κ : Nat → List Value → List Value → mG → Option β} (hx : p.tables.exec = Jvm.exec) (hb : c.code = cc) (hown : s.vm.findClass (m_own oc) = some m.cls) (hts : ∀ w ∈ lw_tbl, goodWord w = true → w.before args s = true) (hK : m_K D cA ad A s) (hD : ∀ g, va_D A (m_w ad cA g))
    (hP : va_P D vwCl (m_w ad cA g) H) (hS : va_S A s.heap H locs) (hl : m_lv ad ls maxL L) (hc : vwCl[k / 100]? = some (C, T, N)) (hN : k % 100 < N) (hw : (Jvm.Cond.fieldLink (m_own oc) idx (T (k % 100)).1 (T (k % 100)).2.1 (T (k % 100)).2.2.1) ∈ lw_tbl ∨ (Jvm.Cond.fieldLinkNest (m_own oc) idx (T (k % 100)).1 (T (k % 100)).2.1 (T (k % 100)).2.2.1 m_host) ∈ lw_tbl) (hfin : (T (k % 100)).2.2.2 = false) (hd : decode cc pc = .ok (.putfield idx, 3))
    (h : (match S with
      | .int x :: t => m_pa t fun a t => m_fld a k fun q => (match q with
        | 0 => κ (pc + 3) L t (m_s1 g a (k % 100) x)
        | 2 => if x = 1 then κ (pc + 3) L t (m_s1 g a (k % 100) x) else none
        | _ => none)
      | .long x :: t => m_pa t fun a t => m_fld a k fun q => (match q with
        | 1 => κ (pc + 3) L t (m_s2 g a (k % 100) x)
        | _ => none)
      | _ => none) = some z)
    (kk : ∀ (pc : Nat) (L : List Value) (S : List Value) (g : mG), κ pc L S g = some z → ∀ (H : Heap) (locs : List Loc) (ls : Array Slot), va_P D vwCl (m_w ad cA g) H → va_S A s.heap H locs → m_lv ad ls maxL L → W p l e R s m args below meth c H locs cells slots Q (F0 m pc ls (S.map (m_tr ad)))) :
    W p l e R s m args below meth c H locs cells slots Q (F0 m pc ls (S.map (m_tr ad))) := by
  have hok := m_cl_ok _ _ hc
  have ht : ∀ w ∈ m_gt, w.before args s = true := fun w h9 => hts w (m_gt_in h9).1 (m_gt_in h9).2
  have hin : ∀ w ∈ u_ws C T N, w ∈ m_gt := fun w h9 => m_gt_of (hok.1 w h9).1 (hok.1 w h9).2
  have key : ∀ (a q : Nat) (fs : List Nat) (v : Value) (g2 : mG) (t : List Value), m_sh[a]? = some (0, k / 100, fs) → fs[k % 100]? = some q → (m_fs ad g a fs).set (k % 100) v = m_fs ad g2 a fs → (∀ c, c ≠ a → g2.1 c = g.1 c) → (∀ c, c ≠ a → g2.2 c = g.2 c) → narrow (m_tyOf (k / 100) (k % 100)) v = v → fits (m_tyOf (k / 100) (k % 100)) v = true → κ (pc + 3) L t g2 = some z → W p l e R s m args below meth c H locs cells slots Q (F0 m pc ls (v :: .ref (ad a) :: t.map (m_tr ad))) := by
    intro a q fs v g2 t hs hf he h1 h2 hn hfit hk
    have hlt : k % 100 < (m_fs ad g a fs).length := by rw [m_fs_len]; exact (List.getElem?_eq_some_iff.mp hf).1
    have go : ∀ (H1 : Heap) (locs1 : List Loc), va_P D vwCl ((m_w ad cA g).set a (ad a, .inr (k / 100, (m_fs ad g a fs).set (k % 100) v))) H1 → va_D A ((m_w ad cA g).set a (ad a, .inr (k / 100, (m_fs ad g a fs).set (k % 100) v))) → va_S A s.heap H1 locs1 → W p l e R s m args below meth c H1 locs1 cells slots Q (F0 m (pc + 3) ls (t.map (m_tr ad))) := by
      intro H1 locs1 hP1 hD1 hS1
      refine kk _ _ _ _ hk _ _ _ ?_ hS1 hl
      rw [← m_w_set hs h1 h2]
      rw [he] at hP1
      exact hP1
    rcases hw with hw | hw
    · exact va_put hx hb ht hin (m_tyOf (k / 100)) hok.2.1 hok.2.2 hown hK.1 hP (hD g) hS a (m_w_at hs) hc (k % 100) hN (hts _ hw rfl) (fun _ h9 => h9) hfin (hok.2.1 _ hN) hn hfit hlt hd go
    · exact va_putN hx hb ht hin (m_tyOf (k / 100)) hok.2.1 hok.2.2 hown hK.1 hP (hD g) hS a (m_w_at hs) hc (k % 100) hN (va_Nw.use rfl (hK.2.1 _ hw rfl)) (fun _ h9 => h9) hfin (hok.2.1 _ hN) hn hfit hlt hd go
  split at h
  · next x t =>
    obtain ⟨a, t, rfl, h⟩ := m_pa_inv h
    obtain ⟨fs, q, hs, hf, h⟩ := m_fld_inv h
    have hty := m_sh_ty hs hf
    split at h
    · refine key a 0 fs (.int x) (m_s1 g a (k % 100) x) t hs hf (m_fs_set1 hf (Or.inl rfl)) m_s1_o.1 m_s1_o.2 ?_ ?_ h
      · rw [hty.1 rfl]; rfl
      · rw [hty.1 rfl]; rfl
    · split at h
      · next hx1 =>
        refine key a 2 fs (.int x) (m_s1 g a (k % 100) x) t hs hf (m_fs_set1 hf (Or.inr rfl)) m_s1_o.1 m_s1_o.2 ?_ ?_ h
        · rw [hty.2.2 rfl, hx1]; rfl
        · rw [hty.2.2 rfl, hx1]; rfl
      · cases h
    · cases h
  · next x t =>
    obtain ⟨a, t, rfl, h⟩ := m_pa_inv h
    obtain ⟨fs, q, hs, hf, h⟩ := m_fld_inv h
    have hty := m_sh_ty hs hf
    split at h
    · refine key a 1 fs (.long x) (m_s2 g a (k % 100) x) t hs hf (m_fs_set2 hf) m_s2_o.1 m_s2_o.2 ?_ ?_ h
      · rw [hty.2.1 rfl]; rfl
      · rw [hty.2.1 rfl]; rfl
    · cases h
  · cases h
end MA
end
section
set_option maxHeartbeats 4000000 in
set_option maxRecDepth 100000 in
theorem m_xs_sound {β : Type} {p : Program} {l : Launch} {e : Env} {R : Room} {s : State} {m : MethodId} {args : Array Value} {below : List Frame} {meth : Method} {c : Code} {H : Heap} {locs : List Loc} {cells slots : Nat} {Q : State → Prop} {ls : Array Slot} {D : va_G} {cA : Nat → ClassId} {ad : Nat → Nat} {A : Nat → Prop} {oc : Nat} {cc : ByteArray} {maxL : Nat} {sc : Option (Nat × (Nat → Int32))} {o : mO} {L S : List Value} {g : mG} {κ : Nat → List Value → List Value → mG → Option β} {z : β}
    (hx : p.tables.exec = Jvm.exec) (hb : c.code = cc) (hown : s.vm.findClass (m_own oc) = some m.cls) (hts : ∀ w ∈ lw_tbl, goodWord w = true → w.before args s = true) (hK : m_K D cA ad A s) (hD : ∀ g, va_D A (m_w ad cA g)) (hsc : ∀ q, sc = some q → va_X (ad 999) q.1 q.2 s s.heap ∧ ad 999 < s.heap.size ∧ ¬ A (ad 999))
    (hch : m_ochk oc cc maxL o = true) (hP : va_P D vwCl (m_w ad cA g) H) (hS : va_S A s.heap H locs) (hl : m_lv ad ls maxL L) (h : m_xs sc o L S g κ = some z)
    (kk : ∀ (pc : Nat) (L : List Value) (S : List Value) (g : mG), κ pc L S g = some z → ∀ (H : Heap) (locs : List Loc) (ls : Array Slot), va_P D vwCl (m_w ad cA g) H → va_S A s.heap H locs → m_lv ad ls maxL L → W p l e R s m args below meth c H locs cells slots Q (F0 m pc ls (S.map (m_tr ad)))) :
    W p l e R s m args below meth c H locs cells slots Q (F0 m o.1 ls (S.map (m_tr ad))) := by
  obtain ⟨pc, i, len, k, v, w, ts⟩ := o
  show W p l e R s m args below meth c H locs cells slots Q (F0 m pc ls (S.map (m_tr ad)))
  cases i with
  | iconst n =>
    simp only [m_ochk, Bool.and_eq_true, decide_eq_true_eq, Nat.beq_eq] at hch
    obtain ⟨hd, rfl, hv⟩ := hch
    exact lv_iconst hx hb hd hv (kk _ _ _ _ h _ _ _ hP hS hl)
  | bipush n =>
    simp only [m_ochk, Bool.and_eq_true, decide_eq_true_eq, Nat.beq_eq] at hch
    obtain ⟨hd, rfl, hv⟩ := hch
    exact lv_bipush hx hb hd hv (kk _ _ _ _ h _ _ _ hP hS hl)
  | sipush n =>
    simp only [m_ochk, Bool.and_eq_true, decide_eq_true_eq, Nat.beq_eq] at hch
    obtain ⟨hd, rfl, hv⟩ := hch
    exact lv_sipush hx hb hd hv (kk _ _ _ _ h _ _ _ hP hS hl)
  | lconst n =>
    simp only [m_ochk, Bool.and_eq_true, decide_eq_true_eq, Nat.beq_eq] at hch
    obtain ⟨hd, rfl, hv⟩ := hch
    exact lv_lconst hx hb hd hv (kk _ _ _ _ h _ _ _ hP hS hl)
  | ldc n =>
    simp only [m_ochk, Bool.and_eq_true, decide_eq_true_eq, Nat.beq_eq] at hch
    obtain ⟨hd, rfl, hv⟩ := hch
    exact lv_ldc hx hb hown (hts _ (m_wd_in hv) rfl) hd (kk _ _ _ _ h _ _ _ hP hS hl)
  | ldc_w n =>
    simp only [m_ochk, Bool.and_eq_true, decide_eq_true_eq, Nat.beq_eq] at hch
    obtain ⟨hd, rfl, hv⟩ := hch
    exact lv_ldcw hx hb hown (hts _ (m_wd_in hv) rfl) hd (kk _ _ _ _ h _ _ _ hP hS hl)
  | ldc2_w n =>
    simp only [m_ochk, Bool.and_eq_true, decide_eq_true_eq, Nat.beq_eq] at hch
    obtain ⟨hd, rfl, hv⟩ := hch
    exact lv_ldc2 hx hb hown (hts _ (m_wd_in hv) rfl) hd (kk _ _ _ _ h _ _ _ hP hS hl)
  | iload_n n =>
    simp only [m_ochk, Bool.and_eq_true, decide_eq_true_eq, Nat.beq_eq] at hch
    obtain ⟨hd, rfl, hv⟩ := hch
    obtain ⟨x, hk, h⟩ := m_qi_inv h
    exact lv_iload_n hx hb hd hv (hl.at hk (fun e => by cases e)) (kk _ _ _ _ h _ _ _ hP hS hl)
  | iload n =>
    simp only [m_ochk, Bool.and_eq_true, decide_eq_true_eq, Nat.beq_eq] at hch
    obtain ⟨hd, rfl, rfl⟩ := hch
    obtain ⟨x, hk, h⟩ := m_qi_inv h
    exact lv_iload hx hb hd (hl.at hk (fun e => by cases e)) (kk _ _ _ _ h _ _ _ hP hS hl)
  | lload_n n =>
    simp only [m_ochk, Bool.and_eq_true, decide_eq_true_eq, Nat.beq_eq] at hch
    obtain ⟨hd, rfl, hv⟩ := hch
    obtain ⟨x, hk, h⟩ := m_ql_inv h
    exact lv_lload_n hx hb hd hv (hl.at hk (fun e => by cases e)) (kk _ _ _ _ h _ _ _ hP hS hl)
  | lload n =>
    simp only [m_ochk, Bool.and_eq_true, decide_eq_true_eq, Nat.beq_eq] at hch
    obtain ⟨hd, rfl, rfl⟩ := hch
    obtain ⟨x, hk, h⟩ := m_ql_inv h
    exact lv_lload hx hb hd (hl.at hk (fun e => by cases e)) (kk _ _ _ _ h _ _ _ hP hS hl)
  | aload_n n =>
    simp only [m_ochk, Bool.and_eq_true, decide_eq_true_eq, Nat.beq_eq] at hch
    obtain ⟨hd, rfl, hv⟩ := hch
    obtain ⟨x, hk, h⟩ := m_qa_inv h
    exact lv_aload_n hx hb hd hv (hl.at hk (fun e => by cases e)) (kk _ _ _ _ h _ _ _ hP hS hl)
  | aload n =>
    simp only [m_ochk, Bool.and_eq_true, decide_eq_true_eq, Nat.beq_eq] at hch
    obtain ⟨hd, rfl, rfl⟩ := hch
    obtain ⟨x, hk, h⟩ := m_qa_inv h
    exact lv_aload hx hb hd (hl.at hk (fun e => by cases e)) (kk _ _ _ _ h _ _ _ hP hS hl)
  | istore_n n =>
    simp only [m_ochk, Bool.and_eq_true, decide_eq_true_eq, Nat.beq_eq] at hch
    obtain ⟨hd, rfl, hv, hn⟩ := hch
    have h0 := m_pi_inv h
    clear h
    obtain ⟨x, S, rfl, h⟩ := h0
    exact lv_istore_n hx hb hd hv hl.has hn rfl (fun ls2 hl2 => kk _ _ _ _ h _ _ _ hP hS (hl.st1 hl2))
  | istore n =>
    simp only [m_ochk, Bool.and_eq_true, decide_eq_true_eq, Nat.beq_eq] at hch
    obtain ⟨hd, rfl, rfl, hn⟩ := hch
    have h0 := m_pi_inv h
    clear h
    obtain ⟨x, S, rfl, h⟩ := h0
    exact lv_istore hx hb hd hl.has hn rfl (fun ls2 hl2 => kk _ _ _ _ h _ _ _ hP hS (hl.st1 hl2))
  | lstore_n n =>
    simp only [m_ochk, Bool.and_eq_true, decide_eq_true_eq, Nat.beq_eq] at hch
    obtain ⟨hd, rfl, hv, hn⟩ := hch
    have h0 := m_pl_inv h
    clear h
    obtain ⟨x, S, rfl, h⟩ := h0
    exact lv_lstore_n hx hb hd hv hl.has hn rfl (fun ls2 hl2 => kk _ _ _ _ h _ _ _ hP hS (hl.st2 hl2))
  | lstore n =>
    simp only [m_ochk, Bool.and_eq_true, decide_eq_true_eq, Nat.beq_eq] at hch
    obtain ⟨hd, rfl, rfl, hn⟩ := hch
    have h0 := m_pl_inv h
    clear h
    obtain ⟨x, S, rfl, h⟩ := h0
    exact lv_lstore hx hb hd hl.has hn rfl (fun ls2 hl2 => kk _ _ _ _ h _ _ _ hP hS (hl.st2 hl2))
  | astore_n n =>
    simp only [m_ochk, Bool.and_eq_true, decide_eq_true_eq, Nat.beq_eq] at hch
    obtain ⟨hd, rfl, hv, hn⟩ := hch
    have h0 := m_pa_inv h
    clear h
    obtain ⟨x, S, rfl, h⟩ := h0
    exact lv_astore_n hx hb hd hv hl.has hn rfl (fun ls2 hl2 => kk _ _ _ _ h _ _ _ hP hS (hl.st1 hl2))
  | astore n =>
    simp only [m_ochk, Bool.and_eq_true, decide_eq_true_eq, Nat.beq_eq] at hch
    obtain ⟨hd, rfl, rfl, hn⟩ := hch
    have h0 := m_pa_inv h
    clear h
    obtain ⟨x, S, rfl, h⟩ := h0
    exact lv_astore hx hb hd hl.has hn rfl (fun ls2 hl2 => kk _ _ _ _ h _ _ _ hP hS (hl.st1 hl2))
  | iinc n q =>
    simp only [m_ochk, Bool.and_eq_true, decide_eq_true_eq, Nat.beq_eq] at hch
    obtain ⟨hd, rfl, rfl, rfl, hn⟩ := hch
    obtain ⟨x, hk, h⟩ := m_qi_inv h
    obtain ⟨j, hj⟩ := List.getElem?_of_mem (m_prs_in (ad := ad) hk (fun e => by cases e))
    exact lv_iinc hx hb hd hl.has (k := j) hj rfl hn rfl (fun ls2 hl2 => kk _ _ _ _ h _ _ _ hP hS (hl.st1 (x := .int _) hl2))
  | iadd =>
    simp only [m_ochk, Bool.and_eq_true, decide_eq_true_eq, Nat.beq_eq] at hch
    obtain ⟨hd, rfl⟩ := hch
    have h0 := m_pi_inv h
    clear h
    obtain ⟨y, S, rfl, h⟩ := h0
    have h0 := m_pi_inv h
    clear h
    obtain ⟨x, S, rfl, h⟩ := h0
    exact lv_iadd hx hb hd (kk _ _ _ _ h _ _ _ hP hS hl)
  | isub =>
    simp only [m_ochk, Bool.and_eq_true, decide_eq_true_eq, Nat.beq_eq] at hch
    obtain ⟨hd, rfl⟩ := hch
    have h0 := m_pi_inv h
    clear h
    obtain ⟨y, S, rfl, h⟩ := h0
    have h0 := m_pi_inv h
    clear h
    obtain ⟨x, S, rfl, h⟩ := h0
    exact lv_isub hx hb hd (kk _ _ _ _ h _ _ _ hP hS hl)
  | imul =>
    simp only [m_ochk, Bool.and_eq_true, decide_eq_true_eq, Nat.beq_eq] at hch
    obtain ⟨hd, rfl⟩ := hch
    have h0 := m_pi_inv h
    clear h
    obtain ⟨y, S, rfl, h⟩ := h0
    have h0 := m_pi_inv h
    clear h
    obtain ⟨x, S, rfl, h⟩ := h0
    exact lv_imul hx hb hd (kk _ _ _ _ h _ _ _ hP hS hl)
  | iand =>
    simp only [m_ochk, Bool.and_eq_true, decide_eq_true_eq, Nat.beq_eq] at hch
    obtain ⟨hd, rfl⟩ := hch
    have h0 := m_pi_inv h
    clear h
    obtain ⟨y, S, rfl, h⟩ := h0
    have h0 := m_pi_inv h
    clear h
    obtain ⟨x, S, rfl, h⟩ := h0
    exact lv_iand hx hb hd (kk _ _ _ _ h _ _ _ hP hS hl)
  | ior =>
    simp only [m_ochk, Bool.and_eq_true, decide_eq_true_eq, Nat.beq_eq] at hch
    obtain ⟨hd, rfl⟩ := hch
    have h0 := m_pi_inv h
    clear h
    obtain ⟨y, S, rfl, h⟩ := h0
    have h0 := m_pi_inv h
    clear h
    obtain ⟨x, S, rfl, h⟩ := h0
    exact lv_ior hx hb hd (kk _ _ _ _ h _ _ _ hP hS hl)
  | ixor =>
    simp only [m_ochk, Bool.and_eq_true, decide_eq_true_eq, Nat.beq_eq] at hch
    obtain ⟨hd, rfl⟩ := hch
    have h0 := m_pi_inv h
    clear h
    obtain ⟨y, S, rfl, h⟩ := h0
    have h0 := m_pi_inv h
    clear h
    obtain ⟨x, S, rfl, h⟩ := h0
    exact lv_ixor hx hb hd (kk _ _ _ _ h _ _ _ hP hS hl)
  | ishl =>
    simp only [m_ochk, Bool.and_eq_true, decide_eq_true_eq, Nat.beq_eq] at hch
    obtain ⟨hd, rfl⟩ := hch
    have h0 := m_pi_inv h
    clear h
    obtain ⟨y, S, rfl, h⟩ := h0
    have h0 := m_pi_inv h
    clear h
    obtain ⟨x, S, rfl, h⟩ := h0
    exact lv_ishl hx hb hd (kk _ _ _ _ h _ _ _ hP hS hl)
  | ishr =>
    simp only [m_ochk, Bool.and_eq_true, decide_eq_true_eq, Nat.beq_eq] at hch
    obtain ⟨hd, rfl⟩ := hch
    have h0 := m_pi_inv h
    clear h
    obtain ⟨y, S, rfl, h⟩ := h0
    have h0 := m_pi_inv h
    clear h
    obtain ⟨x, S, rfl, h⟩ := h0
    exact lv_ishr hx hb hd (kk _ _ _ _ h _ _ _ hP hS hl)
  | iushr =>
    simp only [m_ochk, Bool.and_eq_true, decide_eq_true_eq, Nat.beq_eq] at hch
    obtain ⟨hd, rfl⟩ := hch
    have h0 := m_pi_inv h
    clear h
    obtain ⟨y, S, rfl, h⟩ := h0
    have h0 := m_pi_inv h
    clear h
    obtain ⟨x, S, rfl, h⟩ := h0
    exact lv_iushr hx hb hd rfl (kk _ _ _ _ h _ _ _ hP hS hl)
  | ladd =>
    simp only [m_ochk, Bool.and_eq_true, decide_eq_true_eq, Nat.beq_eq] at hch
    obtain ⟨hd, rfl⟩ := hch
    have h0 := m_pl_inv h
    clear h
    obtain ⟨y, S, rfl, h⟩ := h0
    have h0 := m_pl_inv h
    clear h
    obtain ⟨x, S, rfl, h⟩ := h0
    exact lv_ladd hx hb hd (kk _ _ _ _ h _ _ _ hP hS hl)
  | lmul =>
    simp only [m_ochk, Bool.and_eq_true, decide_eq_true_eq, Nat.beq_eq] at hch
    obtain ⟨hd, rfl⟩ := hch
    have h0 := m_pl_inv h
    clear h
    obtain ⟨y, S, rfl, h⟩ := h0
    have h0 := m_pl_inv h
    clear h
    obtain ⟨x, S, rfl, h⟩ := h0
    exact lv_lmul hx hb hd (kk _ _ _ _ h _ _ _ hP hS hl)
  | land =>
    simp only [m_ochk, Bool.and_eq_true, decide_eq_true_eq, Nat.beq_eq] at hch
    obtain ⟨hd, rfl⟩ := hch
    have h0 := m_pl_inv h
    clear h
    obtain ⟨y, S, rfl, h⟩ := h0
    have h0 := m_pl_inv h
    clear h
    obtain ⟨x, S, rfl, h⟩ := h0
    exact lv_land hx hb hd (kk _ _ _ _ h _ _ _ hP hS hl)
  | lor =>
    simp only [m_ochk, Bool.and_eq_true, decide_eq_true_eq, Nat.beq_eq] at hch
    obtain ⟨hd, rfl⟩ := hch
    have h0 := m_pl_inv h
    clear h
    obtain ⟨y, S, rfl, h⟩ := h0
    have h0 := m_pl_inv h
    clear h
    obtain ⟨x, S, rfl, h⟩ := h0
    exact lv_lor hx hb hd (kk _ _ _ _ h _ _ _ hP hS hl)
  | idiv =>
    simp only [m_ochk, Bool.and_eq_true, decide_eq_true_eq, Nat.beq_eq] at hch
    obtain ⟨hd, rfl⟩ := hch
    have h0 := m_pi_inv h
    clear h
    obtain ⟨y, S, rfl, h⟩ := h0
    have h0 := m_pi_inv h
    clear h
    obtain ⟨x, S, rfl, h⟩ := h0
    by_cases hy : y = 0
    · rw [if_pos hy] at h; cases h
    · rw [if_neg hy] at h
      exact lv_idiv hx hb hd hy (kk _ _ _ _ h _ _ _ hP hS hl)
  | irem =>
    simp only [m_ochk, Bool.and_eq_true, decide_eq_true_eq, Nat.beq_eq] at hch
    obtain ⟨hd, rfl⟩ := hch
    have h0 := m_pi_inv h
    clear h
    obtain ⟨y, S, rfl, h⟩ := h0
    have h0 := m_pi_inv h
    clear h
    obtain ⟨x, S, rfl, h⟩ := h0
    by_cases hy : y = 0
    · rw [if_pos hy] at h; cases h
    · rw [if_neg hy] at h
      exact lv_irem hx hb hd hy (kk _ _ _ _ h _ _ _ hP hS hl)
  | ldiv =>
    simp only [m_ochk, Bool.and_eq_true, decide_eq_true_eq, Nat.beq_eq] at hch
    obtain ⟨hd, rfl⟩ := hch
    have h0 := m_pl_inv h
    clear h
    obtain ⟨y, S, rfl, h⟩ := h0
    have h0 := m_pl_inv h
    clear h
    obtain ⟨x, S, rfl, h⟩ := h0
    by_cases hy : y = 0
    · rw [if_pos hy] at h; cases h
    · rw [if_neg hy] at h
      exact lv_ldiv hx hb hd hy (kk _ _ _ _ h _ _ _ hP hS hl)
  | lrem =>
    simp only [m_ochk, Bool.and_eq_true, decide_eq_true_eq, Nat.beq_eq] at hch
    obtain ⟨hd, rfl⟩ := hch
    have h0 := m_pl_inv h
    clear h
    obtain ⟨y, S, rfl, h⟩ := h0
    have h0 := m_pl_inv h
    clear h
    obtain ⟨x, S, rfl, h⟩ := h0
    by_cases hy : y = 0
    · rw [if_pos hy] at h; cases h
    · rw [if_neg hy] at h
      exact lv_lrem hx hb hd hy (kk _ _ _ _ h _ _ _ hP hS hl)
  | ineg =>
    simp only [m_ochk, Bool.and_eq_true, decide_eq_true_eq, Nat.beq_eq] at hch
    obtain ⟨hd, rfl⟩ := hch
    have h0 := m_pi_inv h
    clear h
    obtain ⟨x, S, rfl, h⟩ := h0
    exact lv_ineg hx hb hd (kk _ _ _ _ h _ _ _ hP hS hl)
  | i2l =>
    simp only [m_ochk, Bool.and_eq_true, decide_eq_true_eq, Nat.beq_eq] at hch
    obtain ⟨hd, rfl⟩ := hch
    have h0 := m_pi_inv h
    clear h
    obtain ⟨x, S, rfl, h⟩ := h0
    exact lv_i2l hx hb hd rfl (kk _ _ _ _ h _ _ _ hP hS hl)
  | i2b =>
    simp only [m_ochk, Bool.and_eq_true, decide_eq_true_eq, Nat.beq_eq] at hch
    obtain ⟨hd, rfl⟩ := hch
    have h0 := m_pi_inv h
    clear h
    obtain ⟨x, S, rfl, h⟩ := h0
    exact lv_i2b hx hb hd rfl (kk _ _ _ _ h _ _ _ hP hS hl)
  | i2s =>
    simp only [m_ochk, Bool.and_eq_true, decide_eq_true_eq, Nat.beq_eq] at hch
    obtain ⟨hd, rfl⟩ := hch
    have h0 := m_pi_inv h
    clear h
    obtain ⟨x, S, rfl, h⟩ := h0
    exact lv_i2s hx hb hd rfl (kk _ _ _ _ h _ _ _ hP hS hl)
  | l2i =>
    simp only [m_ochk, Bool.and_eq_true, decide_eq_true_eq, Nat.beq_eq] at hch
    obtain ⟨hd, rfl⟩ := hch
    have h0 := m_pl_inv h
    clear h
    obtain ⟨x, S, rfl, h⟩ := h0
    exact lv_l2i hx hb hd rfl (kk _ _ _ _ h _ _ _ hP hS hl)
  | lshl =>
    simp only [m_ochk, Bool.and_eq_true, decide_eq_true_eq, Nat.beq_eq] at hch
    obtain ⟨hd, rfl⟩ := hch
    have h0 := m_pi_inv h
    clear h
    obtain ⟨y, S, rfl, h⟩ := h0
    have h0 := m_pl_inv h
    clear h
    obtain ⟨x, S, rfl, h⟩ := h0
    exact lv_lshl hx hb hd rfl (kk _ _ _ _ h _ _ _ hP hS hl)
  | lcmp =>
    simp only [m_ochk, Bool.and_eq_true, decide_eq_true_eq, Nat.beq_eq] at hch
    obtain ⟨hd, rfl⟩ := hch
    have h0 := m_pl_inv h
    clear h
    obtain ⟨y, S, rfl, h⟩ := h0
    have h0 := m_pl_inv h
    clear h
    obtain ⟨x, S, rfl, h⟩ := h0
    exact W.lcmp hx hb hd (kk _ _ _ _ h _ _ _ hP hS hl)
  | dup =>
    simp only [m_ochk, Bool.and_eq_true, decide_eq_true_eq, Nat.beq_eq] at hch
    obtain ⟨hd, rfl⟩ := hch
    cases S with
    | nil => cases h
    | cons x t =>
      rcases lv_cat x with hc | hc
      · replace h : (match x.category with | 1 => κ (pc + 1) L (x :: x :: t) g | _ => none) = some z := h
        rw [hc] at h
        exact lv_dup hx hb hd ((m_tr_cat x).trans hc) (kk _ _ _ _ h _ _ _ hP hS hl)
      · replace h : (match x.category with | 1 => κ (pc + 1) L (x :: x :: t) g | _ => none) = some z := h
        rw [hc] at h
        cases h
  | pop =>
    simp only [m_ochk, Bool.and_eq_true, decide_eq_true_eq, Nat.beq_eq] at hch
    obtain ⟨hd, rfl⟩ := hch
    cases S with
    | nil => cases h
    | cons x t =>
      rcases lv_cat x with hc | hc
      · replace h : (match x.category with | 1 => κ (pc + 1) L t g | _ => none) = some z := h
        rw [hc] at h
        exact lv_pop hx hb hd ((m_tr_cat x).trans hc) (kk _ _ _ _ h _ _ _ hP hS hl)
      · replace h : (match x.category with | 1 => κ (pc + 1) L t g | _ => none) = some z := h
        rw [hc] at h
        cases h
  | dup2 =>
    simp only [m_ochk, Bool.and_eq_true, decide_eq_true_eq, Nat.beq_eq] at hch
    obtain ⟨hd, rfl⟩ := hch
    match S, h with
    | [], h => cases h
    | [x], h => cases h
    | x :: y :: t, h =>
      replace h : (match x.category, y.category with | 1, 1 => κ (pc + 1) L (x :: y :: x :: y :: t) g | _, _ => none) = some z := h
      rcases lv_cat x with hc | hc
      · rcases lv_cat y with hc2 | hc2
        · rw [hc, hc2] at h
          exact lv_dup2_11 hx hb hd ((m_tr_cat x).trans hc) ((m_tr_cat y).trans hc2) (kk _ _ _ _ h _ _ _ hP hS hl)
        · rw [hc, hc2] at h; cases h
      · rw [hc] at h; cases h
  | ifCond cnd off =>
    simp only [m_ochk, Bool.and_eq_true, decide_eq_true_eq, Nat.beq_eq] at hch
    obtain ⟨hd, rfl, ht⟩ := hch
    cases cnd with
    | eq =>
      have h0 := m_pi_inv h
      clear h
      obtain ⟨x, S, rfl, h⟩ := h0
      exact lv_if_eq hx hb hd ht (fun hc => by rw [m_if_pos hc] at h; exact kk _ _ _ _ h _ _ _ hP hS hl) (fun hc => by rw [m_if_neg hc] at h; exact kk _ _ _ _ h _ _ _ hP hS hl)
    | ne =>
      have h0 := m_pi_inv h
      clear h
      obtain ⟨x, S, rfl, h⟩ := h0
      exact lv_if_ne hx hb hd ht (fun hc => by rw [m_if_neg hc] at h; exact kk _ _ _ _ h _ _ _ hP hS hl) (fun hc => by rw [m_if_pos hc] at h; exact kk _ _ _ _ h _ _ _ hP hS hl)
    | lt =>
      have h0 := m_pi_inv h
      clear h
      obtain ⟨x, S, rfl, h⟩ := h0
      exact lv_if_lt hx hb hd ht (fun hc => by rw [m_if_pos hc] at h; exact kk _ _ _ _ h _ _ _ hP hS hl) (fun hc => by rw [m_if_neg hc] at h; exact kk _ _ _ _ h _ _ _ hP hS hl)
    | ge =>
      have h0 := m_pi_inv h
      clear h
      obtain ⟨x, S, rfl, h⟩ := h0
      exact lv_if_ge hx hb hd ht (fun hc => by rw [m_if_neg (Int32.not_lt.mpr hc)] at h; exact kk _ _ _ _ h _ _ _ hP hS hl) (fun hc => by rw [m_if_pos (Int32.not_le.mp hc)] at h; exact kk _ _ _ _ h _ _ _ hP hS hl)
    | gt =>
      have h0 := m_pi_inv h
      clear h
      obtain ⟨x, S, rfl, h⟩ := h0
      exact lv_if_gt hx hb hd ht (fun hc => by rw [m_if_pos hc] at h; exact kk _ _ _ _ h _ _ _ hP hS hl) (fun hc => by rw [m_if_neg hc] at h; exact kk _ _ _ _ h _ _ _ hP hS hl)
    | le =>
      have h0 := m_pi_inv h
      clear h
      obtain ⟨x, S, rfl, h⟩ := h0
      exact lv_if_le hx hb hd ht (fun hc => by rw [m_if_neg (Int32.not_lt.mpr hc)] at h; exact kk _ _ _ _ h _ _ _ hP hS hl) (fun hc => by rw [m_if_pos (Int32.not_le.mp hc)] at h; exact kk _ _ _ _ h _ _ _ hP hS hl)
  | if_icmp cnd off =>
    simp only [m_ochk, Bool.and_eq_true, decide_eq_true_eq, Nat.beq_eq] at hch
    obtain ⟨hd, rfl, ht⟩ := hch
    cases cnd with
    | eq =>
      have h0 := m_pi_inv h
      clear h
      obtain ⟨y, S, rfl, h⟩ := h0
      have h0 := m_pi_inv h
      clear h
      obtain ⟨x, S, rfl, h⟩ := h0
      exact lv_icmp_eq hx hb hd ht (fun hc => by rw [m_if_pos hc] at h; exact kk _ _ _ _ h _ _ _ hP hS hl) (fun hc => by rw [m_if_neg hc] at h; exact kk _ _ _ _ h _ _ _ hP hS hl)
    | ne =>
      have h0 := m_pi_inv h
      clear h
      obtain ⟨y, S, rfl, h⟩ := h0
      have h0 := m_pi_inv h
      clear h
      obtain ⟨x, S, rfl, h⟩ := h0
      exact lv_icmp_ne hx hb hd ht (fun hc => by rw [m_if_neg hc] at h; exact kk _ _ _ _ h _ _ _ hP hS hl) (fun hc => by rw [m_if_pos hc] at h; exact kk _ _ _ _ h _ _ _ hP hS hl)
    | lt =>
      have h0 := m_pi_inv h
      clear h
      obtain ⟨y, S, rfl, h⟩ := h0
      have h0 := m_pi_inv h
      clear h
      obtain ⟨x, S, rfl, h⟩ := h0
      exact lv_icmp_lt hx hb hd ht (fun hc => by rw [m_if_pos hc] at h; exact kk _ _ _ _ h _ _ _ hP hS hl) (fun hc => by rw [m_if_neg hc] at h; exact kk _ _ _ _ h _ _ _ hP hS hl)
    | ge =>
      have h0 := m_pi_inv h
      clear h
      obtain ⟨y, S, rfl, h⟩ := h0
      have h0 := m_pi_inv h
      clear h
      obtain ⟨x, S, rfl, h⟩ := h0
      exact lv_icmp_ge hx hb hd ht (fun hc => by rw [m_if_neg (Int32.not_lt.mpr hc)] at h; exact kk _ _ _ _ h _ _ _ hP hS hl) (fun hc => by rw [m_if_pos (Int32.not_le.mp hc)] at h; exact kk _ _ _ _ h _ _ _ hP hS hl)
    | gt =>
      have h0 := m_pi_inv h
      clear h
      obtain ⟨y, S, rfl, h⟩ := h0
      have h0 := m_pi_inv h
      clear h
      obtain ⟨x, S, rfl, h⟩ := h0
      exact lv_icmp_gt hx hb hd ht (fun hc => by rw [m_if_pos hc] at h; exact kk _ _ _ _ h _ _ _ hP hS hl) (fun hc => by rw [m_if_neg hc] at h; exact kk _ _ _ _ h _ _ _ hP hS hl)
    | le =>
      have h0 := m_pi_inv h
      clear h
      obtain ⟨y, S, rfl, h⟩ := h0
      have h0 := m_pi_inv h
      clear h
      obtain ⟨x, S, rfl, h⟩ := h0
      exact lv_icmp_le hx hb hd ht (fun hc => by rw [m_if_neg (Int32.not_lt.mpr hc)] at h; exact kk _ _ _ _ h _ _ _ hP hS hl) (fun hc => by rw [m_if_pos (Int32.not_le.mp hc)] at h; exact kk _ _ _ _ h _ _ _ hP hS hl)
  | goto off =>
    simp only [m_ochk, Bool.and_eq_true, decide_eq_true_eq, Nat.beq_eq] at hch
    obtain ⟨hd, rfl, ht⟩ := hch
    exact lv_goto hx hb hd ht (kk _ _ _ _ h _ _ _ hP hS hl)
  | tableswitch d lo hi os =>
    simp only [m_ochk, Bool.and_eq_true, decide_eq_true_eq, Nat.beq_eq] at hch
    obtain ⟨hd, ht, hhi, hts2⟩ := hch
    have h0 := m_pi_inv h
    clear h
    obtain ⟨x, S, rfl, h⟩ := h0
    rcases m_sw_t (x := x) (k := k) (f := fun t => κ t L S g) os.toList lo ts hts2 with ⟨h1, h2⟩ | ⟨h1, h2, off, t, h3, h4, h5⟩
    · rw [h2] at h
      exact lv_tableOut hx hb hd (by rw [hhi]; exact h1) ht (kk _ _ _ _ h _ _ _ hP hS hl)
    · rw [h4] at h
      exact lv_tableIn hx hb hd h1 (by rw [hhi]; exact h2) (by rw [← Array.getElem?_toList]; exact h3) h5 (kk _ _ _ _ h _ _ _ hP hS hl)
  | lookupswitch d ps =>
    simp only [m_ochk, Bool.and_eq_true, decide_eq_true_eq, Nat.beq_eq] at hch
    obtain ⟨hd, ht, hso, hts2⟩ := hch
    have h0 := m_pi_inv h
    clear h
    obtain ⟨x, S, rfl, h⟩ := h0
    obtain ⟨t, h1, h2⟩ := m_sw_k (x := x) (f := fun t => κ t L S g) ht ps.toList ts hts2
    rw [h1] at h
    exact lv_lookup hx hb hd hso rfl h2 (kk _ _ _ _ h _ _ _ hP hS hl)
  | getfield idx =>
    simp only [m_ochk, Bool.and_eq_true, decide_eq_true_eq, Nat.beq_eq] at hch
    obtain ⟨hd, rfl, hv⟩ := hch
    have h0 := m_pa_inv h
    clear h
    obtain ⟨a, S, rfl, h⟩ := h0
    obtain ⟨fs, q, hs, hf, h⟩ := m_fld_inv h
    obtain ⟨pl, nest, hv⟩ := m_any_inv m_fl_ok hv
    obtain ⟨⟨C, T, N⟩, hc, hN, hw⟩ := m_fchk_inv hv
    have hok := m_cl_ok _ _ hc
    have hgo : W p l e R s m args below meth c H locs cells slots Q (F0 m (pc + 3) ls (m_fv ad g a (k % 100) q :: S.map (m_tr ad))) := by
      match q, h with
      | 0, h => exact kk _ _ _ _ h _ _ _ hP hS hl
      | 1, h => exact kk _ _ _ _ h _ _ _ hP hS hl
      | 2, h => exact kk _ _ _ _ h _ _ _ hP hS hl
      | j + 3, h => exact kk _ _ _ _ h _ _ _ hP hS hl
    rcases hw with hw | hw
    · exact va_get (v := m_fv ad g a (k % 100) q) hx hb (Ts := m_gt) (fun w h9 => hts w (m_gt_in h9).1 (m_gt_in h9).2) (fun w h9 => m_gt_of (hok.1 w h9).1 (hok.1 w h9).2) hown hK.1 hP a (m_w_at hs) hc (k % 100) hN (hts _ hw rfl) (fun _ h9 => h9) (m_fs_at hf) hd hgo
    · exact va_getN (v := m_fv ad g a (k % 100) q) hx hb (Ts := m_gt) (fun w h9 => hts w (m_gt_in h9).1 (m_gt_in h9).2) (fun w h9 => m_gt_of (hok.1 w h9).1 (hok.1 w h9).2) hown hK.1 hP a (m_w_at hs) hc (k % 100) hN (va_Nw.use rfl (hK.2.1 _ hw rfl)) (fun _ h9 => h9) (m_fs_at hf) hd hgo
  | putfield idx =>
    simp only [m_ochk, Bool.and_eq_true, decide_eq_true_eq, Nat.beq_eq] at hch
    obtain ⟨hd, rfl, hv2, hv⟩ := hch
    obtain ⟨pl, nest, hv⟩ := m_any_inv m_fl_ok hv
    obtain ⟨⟨C, T, N⟩, hc, hN, hw⟩ := m_fchk_inv hv
    exact m_put_sound hx hb hown hts hK hD hP hS hl hc hN hw (m_nfin_inv hc hv2) hd h kk
  | getstatic idx =>
    simp only [m_ochk, Bool.and_eq_true, decide_eq_true_eq, Nat.beq_eq] at hch
    obtain ⟨hd, rfl, hv⟩ := hch
    obtain ⟨pl, nest, hv⟩ := m_any_inv m_gs_ok hv
    obtain ⟨c1, n1, d1, ty, vs, hs, hw⟩ := m_gchk_inv hv
    rcases hw with hw | hw
    · exact va_gets hx hb (hK.2.2 k c1 n1 d1 ty vs hs).1 hS hown (hts _ hw rfl) (fun _ h9 => h9) hd (kk _ _ _ _ h _ _ _ hP hS hl)
    · exact va_getsN hx hb (hK.2.2 k c1 n1 d1 ty vs hs).1 hS hown (va_Nw.use rfl (hK.2.1 _ hw rfl)) (fun _ h9 => h9) hd (kk _ _ _ _ h _ _ _ hP hS hl)
  | iaload =>
    simp only [m_ochk, Bool.and_eq_true, decide_eq_true_eq, Nat.beq_eq] at hch
    obtain ⟨hd, rfl⟩ := hch
    have h0 := m_pi_inv h
    clear h
    obtain ⟨i, S, rfl, h⟩ := h0
    have h0 := m_pa_inv h
    clear h
    obtain ⟨a, S, rfl, h⟩ := h0
    cases hs : m_sh[a]? with
    | some q0 =>
      replace h : (match m_sh[a]? with | some _ => m_arr 0 a fun n _ => m_in i n (κ (pc + 1) L (.int (g.1 a i.toNatClampNeg) :: S) g) | none => _) = some z := h
      rw [hs] at h
      obtain ⟨n, rs, hs2, h⟩ := m_arr_inv h
      obtain ⟨hin, h⟩ := m_in_inv h
      exact va_iald hx hb hK.1 hP a 0 (m_w_at hs2) rfl hin hd (kk _ _ _ _ h _ _ _ hP hS hl)
    | none =>
      exact m_iald_sound (f := fun x => κ (pc + 1) L (.int x :: S) g) hx hb hK hS hsc hs hd h (fun x hx2 => kk (pc + 1) L (.int x :: S) g hx2 _ _ _ hP hS hl)
  | caload =>
    simp only [m_ochk, Bool.and_eq_true, decide_eq_true_eq, Nat.beq_eq] at hch
    obtain ⟨hd, rfl⟩ := hch
    have h0 := m_pi_inv h
    clear h
    obtain ⟨i, S, rfl, h⟩ := h0
    have h0 := m_pa_inv h
    clear h
    obtain ⟨a, S, rfl, h⟩ := h0
    have h0 := m_stat_inv h
    clear h
    obtain ⟨j, c1, n1, d1, ty, vs, rfl, hs, h⟩ := h0
    cases ty with
    | char =>
      obtain ⟨hin, h⟩ := m_in_inv h
      exact va_tc hx hb (hK.2.2 j c1 n1 d1 _ vs hs).2 hS hin rfl hd (kk _ _ _ _ h _ _ _ hP hS hl)
    | _ => cases h
  | baload =>
    simp only [m_ochk, Bool.and_eq_true, decide_eq_true_eq, Nat.beq_eq] at hch
    obtain ⟨hd, rfl⟩ := hch
    have h0 := m_pi_inv h
    clear h
    obtain ⟨i, S, rfl, h⟩ := h0
    have h0 := m_pa_inv h
    clear h
    obtain ⟨a, S, rfl, h⟩ := h0
    obtain ⟨n, rs, hs2, h⟩ := m_arr_inv h
    obtain ⟨hin, h⟩ := m_in_inv h
    exact va_bald hx hb hK.1 hP a 1 (m_w_at hs2) rfl hin hd (kk _ _ _ _ h _ _ _ hP hS hl)
  | saload =>
    simp only [m_ochk, Bool.and_eq_true, decide_eq_true_eq, Nat.beq_eq] at hch
    obtain ⟨hd, rfl⟩ := hch
    have h0 := m_pi_inv h
    clear h
    obtain ⟨i, S, rfl, h⟩ := h0
    have h0 := m_pa_inv h
    clear h
    obtain ⟨a, S, rfl, h⟩ := h0
    obtain ⟨n, rs, hs2, h⟩ := m_arr_inv h
    obtain ⟨hin, h⟩ := m_in_inv h
    exact va_sald hx hb hK.1 hP a 2 (m_w_at hs2) rfl hin hd (kk _ _ _ _ h _ _ _ hP hS hl)
  | laload =>
    simp only [m_ochk, Bool.and_eq_true, decide_eq_true_eq, Nat.beq_eq] at hch
    obtain ⟨hd, rfl⟩ := hch
    have h0 := m_pi_inv h
    clear h
    obtain ⟨i, S, rfl, h⟩ := h0
    have h0 := m_pa_inv h
    clear h
    obtain ⟨a, S, rfl, h⟩ := h0
    obtain ⟨n, rs, hs2, h⟩ := m_arr_inv h
    obtain ⟨hin, h⟩ := m_in_inv h
    exact va_lald hx hb hK.1 hP a 3 (m_w_at hs2) rfl hin hd (kk _ _ _ _ h _ _ _ hP hS hl)
  | aaload =>
    simp only [m_ochk, Bool.and_eq_true, decide_eq_true_eq, Nat.beq_eq] at hch
    obtain ⟨hd, rfl⟩ := hch
    have h0 := m_pi_inv h
    clear h
    obtain ⟨i, S, rfl, h⟩ := h0
    have h0 := m_pa_inv h
    clear h
    obtain ⟨a, S, rfl, h⟩ := h0
    obtain ⟨n, rs, hs2, h⟩ := m_arr_inv h
    obtain ⟨hin, h⟩ := m_in_inv h
    obtain ⟨j, hr, h⟩ := m_sel_inv h
    refine va_aldq hx hb hK.1 hP a 4 (m_w_at hs2) rfl hin hd ?_
    show W p l e R s m args below meth c H locs cells slots Q (F0 m (pc + 1) ls (va_rf ((rs[i.toNatClampNeg]?).map ad) :: S.map (m_tr ad)))
    rw [hr]
    exact kk _ _ _ _ h _ _ _ hP hS hl
  | iastore =>
    simp only [m_ochk, Bool.and_eq_true, decide_eq_true_eq, Nat.beq_eq] at hch
    obtain ⟨hd, rfl⟩ := hch
    have h0 := m_pi_inv h
    clear h
    obtain ⟨x, S, rfl, h⟩ := h0
    have h0 := m_pi_inv h
    clear h
    obtain ⟨i, S, rfl, h⟩ := h0
    have h0 := m_pa_inv h
    clear h
    obtain ⟨a, S, rfl, h⟩ := h0
    obtain ⟨n, rs, hs2, h⟩ := m_arr_inv h
    obtain ⟨hin, h⟩ := m_in_inv h
    refine va_iast hx hb hK.1 hP (hD g) hS a 0 (m_w_at hs2) rfl hin hd (fun H1 locs1 hP1 hD1 hS1 => kk _ _ _ _ h _ _ _ ?_ hS1 hl)
    rw [← m_w_set hs2 m_s1_o.1 m_s1_o.2]
    simp only [m_e, m_s1_s]
    exact hP1
  | bastore =>
    simp only [m_ochk, Bool.and_eq_true, decide_eq_true_eq, Nat.beq_eq] at hch
    obtain ⟨hd, rfl⟩ := hch
    have h0 := m_pi_inv h
    clear h
    obtain ⟨x, S, rfl, h⟩ := h0
    have h0 := m_pi_inv h
    clear h
    obtain ⟨i, S, rfl, h⟩ := h0
    have h0 := m_pa_inv h
    clear h
    obtain ⟨a, S, rfl, h⟩ := h0
    obtain ⟨n, rs, hs2, h⟩ := m_arr_inv h
    obtain ⟨hin, h⟩ := m_in_inv h
    refine va_bast hx hb hK.1 hP (hD g) hS a 1 (m_w_at hs2) rfl hin hd (fun H1 locs1 hP1 hD1 hS1 => kk _ _ _ _ h _ _ _ ?_ hS1 hl)
    rw [← m_w_set hs2 m_s1_o.1 m_s1_o.2]
    simp only [m_e, m_s1_s]
    exact hP1
  | sastore =>
    simp only [m_ochk, Bool.and_eq_true, decide_eq_true_eq, Nat.beq_eq] at hch
    obtain ⟨hd, rfl⟩ := hch
    have h0 := m_pi_inv h
    clear h
    obtain ⟨x, S, rfl, h⟩ := h0
    have h0 := m_pi_inv h
    clear h
    obtain ⟨i, S, rfl, h⟩ := h0
    have h0 := m_pa_inv h
    clear h
    obtain ⟨a, S, rfl, h⟩ := h0
    obtain ⟨n, rs, hs2, h⟩ := m_arr_inv h
    obtain ⟨hin, h⟩ := m_in_inv h
    refine va_sast hx hb hK.1 hP (hD g) hS a 2 (m_w_at hs2) rfl hin hd (fun H1 locs1 hP1 hD1 hS1 => kk _ _ _ _ h _ _ _ ?_ hS1 hl)
    rw [← m_w_set hs2 m_s1_o.1 m_s1_o.2]
    simp only [m_e, m_s1_s]
    exact hP1
  | lastore =>
    simp only [m_ochk, Bool.and_eq_true, decide_eq_true_eq, Nat.beq_eq] at hch
    obtain ⟨hd, rfl⟩ := hch
    have h0 := m_pl_inv h
    clear h
    obtain ⟨x, S, rfl, h⟩ := h0
    have h0 := m_pi_inv h
    clear h
    obtain ⟨i, S, rfl, h⟩ := h0
    have h0 := m_pa_inv h
    clear h
    obtain ⟨a, S, rfl, h⟩ := h0
    obtain ⟨n, rs, hs2, h⟩ := m_arr_inv h
    obtain ⟨hin, h⟩ := m_in_inv h
    refine va_last hx hb hK.1 hP (hD g) hS a 3 (m_w_at hs2) rfl hin hd (fun H1 locs1 hP1 hD1 hS1 => kk _ _ _ _ h _ _ _ ?_ hS1 hl)
    rw [← m_w_set hs2 m_s2_o.1 m_s2_o.2]
    simp only [m_e, m_s2_s]
    exact hP1
  | arraylength =>
    simp only [m_ochk, Bool.and_eq_true, decide_eq_true_eq, Nat.beq_eq] at hch
    obtain ⟨hd, rfl⟩ := hch
    have h0 := m_pa_inv h
    clear h
    obtain ⟨a, S, rfl, h⟩ := h0
    exact m_alen_sound (f := fun x => κ (pc + 1) L (.int x :: S) g) hx hb hK hP hS hsc hd h (fun x hx2 => kk (pc + 1) L (.int x :: S) g hx2 _ _ _ hP hS hl)
  | _ => cases h
end
section
/-! SOUND (3): calls, returns, the walk of any method, the contract -/
theorem m_split_inv : ∀ (n : Nat) (acc S as rest : List Value), m_split n acc S = some (as, rest) → ∃ P, P.length = n ∧ S = P.reverse ++ rest ∧ as = P ++ acc := by
  intro n
  induction n with
  | zero =>
    intro acc S as rest h
    unfold m_split at h
    cases h
    exact ⟨[], rfl, rfl, rfl⟩
  | succ n ih =>
    intro acc S as rest h
    cases S with
    | nil => unfold m_split at h; cases h
    | cons x S =>
      unfold m_split at h
      obtain ⟨P, h1, h2, h3⟩ := ih _ _ _ _ h
      refine ⟨P ++ [x], by simp [h1], by simp [h2], by simp [h3]⟩
theorem m_cat_tr {ad : Nat → Nat} (S : List Value) : ((S.map (m_tr ad)).map fun v => v.category).sum = m_cat S := by
  unfold m_cat
  rw [List.map_map]
  congr 1
  exact List.map_congr_left (fun v _ => m_tr_cat v)
def m_A (ad : Nat → Nat) (sz : Nat) : Nat → Prop := fun q => (∃ i, i < m_sh.length ∧ q = ad i) ∨ sz ≤ q
def m_ws (mm : mM) : List Jvm.Cond := .code mm.2.1 mm.2.2.1 mm.2.2.2.1 mm.2.2.2.2.1 :: m_gt
def m_rm (d : Nat) : Room := { frames := d, cells := 0, slots := 0, locals := 60 * d }
def m_Pc (D : va_G) (cA : Nat → ClassId) (ad : Nat → Nat) (g : mG) (sz : Nat) (as : List Value) : Array Value → State → Prop := va_Pc (as.map (m_tr ad)) (fun U => U.heap.size = sz ∧ va_P D vwCl (m_w ad cA g) U.heap ∧ m_K D cA ad (m_A ad sz) U)
def m_Qc (D : va_G) (cA : Nat → ClassId) (ad : Nat → Nat) (g : mG) (sz : Nat) (r : Option Value) : Array Value → State → Outcome → State → Prop := fun _ st oc t => oc = .returned (r.map (m_tr ad)) ∧ va_P D vwCl (m_w ad cA g) t.heap ∧ va_F (m_A ad sz) st t
/-- the facts of a method of the table -/
def m_Ok (mm : mM) : Prop := (Jvm.Cond.code mm.2.1 mm.2.2.1 mm.2.2.2.1 mm.2.2.2.2.1) ∈ lw_tbl ∧ (Jvm.Cond.initialized mm.2.1.cls) ∈ lw_tbl ∧
  ((mm.2.2.2.2.2.2.1.2.2.2.2 = true ∧ (Jvm.Cond.static mm.2.1) ∈ lw_tbl ∧ (parseMethodDescriptor mm.2.1.desc).map (fun d => d.parameters.length) = some mm.2.2.2.2.2.1) ∨ (mm.2.2.2.2.2.2.1.2.2.2.2 = false ∧ (Jvm.Cond.instanceMethod mm.2.1) ∈ lw_tbl ∧ (Jvm.Cond.selects mm.2.1.cls mm.2.1 mm.2.1) ∈ lw_tbl ∧ (parseMethodDescriptor mm.2.1.desc).map (fun d => d.parameters.length + 1) = some mm.2.2.2.2.2.1)) ∧
  m_cn[mm.1]? = some mm.2.1.cls ∧ mm.2.1.cls ≠ "java/lang/invoke/MethodHandle" ∧ mm.2.1.cls ≠ "java/lang/invoke/VarHandle" ∧ plainName mm.2.1.cls = true ∧ mm.2.2.2.1 + 19 ≤ 60 ∧ ∀ o ∈ mm.2.2.2.2.2.2.2, m_ochk mm.1 mm.2.2.1 mm.2.2.2.1 o = true
theorem m_mchk_inv {mm : mM} (h : m_mchk mm = true) : m_Ok mm := by
  obtain ⟨oc, y, cc, maxL, ret, na, ⟨p1, p2, p3, p4, st⟩, ops⟩ := mm
  unfold m_mchk at h
  dsimp only at h
  simp only [Bool.and_eq_true, decide_eq_true_eq] at h
  obtain ⟨h1, h2, h3, h4, h5, h6, h7, h8, h9⟩ := h
  refine ⟨m_wd_in h1, m_wd_in h2, ?_, h4, h5, h6, h7, h8, fun o ho => List.all_eq_true.mp h9 o ho⟩
  cases st with
  | true =>
    simp only [Bool.and_eq_true, decide_eq_true_eq] at h3
    exact Or.inl ⟨rfl, m_wd_in h3.1, h3.2⟩
  | false =>
    simp only [Bool.and_eq_true, decide_eq_true_eq] at h3
    exact Or.inr ⟨rfl, m_wd_in h3.1, m_wd_in h3.2.1, h3.2.2⟩
/-- what stands through a walk -/
def m_Cx (D : va_G) (cA : Nat → ClassId) (ad : Nat → Nat) (A : Nat → Prop) (sc : Option (Nat × (Nat → Int32))) (d : Nat) (mm : mM) (p : Program) (R : Room) (s : State) (m : MethodId) (args : Array Value) (c : Code) (cells slots : Nat) : Prop :=
  p.tables.exec = Jvm.exec ∧ c.code = mm.2.2.1 ∧ c.maxLocals = mm.2.2.2.1 ∧ s.vm.findClass (m_own mm.1) = some m.cls ∧ (∀ w ∈ lw_tbl, goodWord w = true → w.before args s = true) ∧ m_K D cA ad A s ∧ (∀ g, va_D A (m_w ad cA g)) ∧ (∀ q, sc = some q → va_X (ad 999) q.1 q.2 s s.heap ∧ ad 999 < s.heap.size ∧ ¬ A (ad 999)) ∧
  m_inj ad ∧ (∀ i, i < m_sh.length → A (ad i)) ∧ (∀ q, s.heap.size ≤ q → A q) ∧ d ≤ R.frames ∧ 60 * d ≤ R.locals ∧ cells ≤ R.cells ∧ slots ≤ R.slots ∧ ∀ o ∈ mm.2.2.2.2.2.2.2, m_ochk mm.1 mm.2.2.1 mm.2.2.2.1 o = true
def m_isR (i : Instr) : Prop := i = .return_ ∨ i = .ireturn ∨ i = .lreturn ∨ i = .areturn
/-- what may stand at a return: the value fits the method's result -/
def m_rOk (ret : Option FieldType) (i : Instr) (r : Option Value) : Prop := match i with
  | .return_ => r = none ∧ ret = none
  | .ireturn => ∃ x, r = some (.int x) ∧ (ret = some .int ∨ (ret = some .boolean ∧ x &&& 1 = x))
  | .lreturn => ∃ x, r = some (.long x) ∧ ret = some .long
  | .areturn => ∃ x n, r = some (.ref x) ∧ ret = some (.object n)
  | _ => False
def m_Wk (l : Launch) (n : Nat) : Prop := ∀ (sc : Option (Nat × (Nat → Int32))) (d : Nat) (mm : mM) (pc : Nat) (L S : List Value) (g : mG) (r : Option Value) (g2 : mG), m_ex n sc d mm pc L S g = some (r, g2) →
  ∀ (D : va_G) (cA : Nat → ClassId) (ad : Nat → Nat) (A : Nat → Prop) (p : Program) (e : Env) (R : Room) (s : State) (m : MethodId) (args : Array Value) (below : List Frame) (meth : Method) (c : Code) (cells slots : Nat) (Q : State → Prop), m_Cx D cA ad A sc d mm p R s m args c cells slots →
  (∀ (o : mO) (H : Heap) (locs : List Loc) (ls : Array Slot), o ∈ mm.2.2.2.2.2.2.2 → decode mm.2.2.1 o.1 = .ok (o.2.1, 1) → m_rOk mm.2.2.2.2.1 o.2.1 r → va_P D vwCl (m_w ad cA g2) H → va_S A s.heap H locs → W p l e R s m args below meth c H locs cells slots Q (F0 m o.1 ls (r.toList.map (m_tr ad)))) →
  ∀ (H : Heap) (locs : List Loc) (ls : Array Slot), va_P D vwCl (m_w ad cA g) H → va_S A s.heap H locs → m_lv ad ls mm.2.2.2.1 L → W p l e R s m args below meth c H locs cells slots Q (F0 m pc ls (S.map (m_tr ad)))
theorem m_met {l : Launch} {n : Nat} (IH : m_Wk l n) {mm : mM} (hok : m_Ok mm) {d : Nat} {as : List Value} {g g2 : mG} {r : Option Value} (hex : m_ex n none d mm 0 (m_ent mm.2.2.2.1 as) [] g = some (r, g2)) (hlen : (m_sl as).length ≤ mm.2.2.2.1) (D : va_G) (cA : Nat → ClassId) {ad : Nat → Nat} (hinj : m_inj ad) (sz : Nat) :
    Met l mm.2.1 (m_ws mm) (m_rm d) (m_Pc D cA ad g sz as) (m_Qc D cA ad g2 sz r) 0 0 (m_A ad sz) := by
  obtain ⟨hw1, hw2, hw3, hcn, hm1, hm2, hpn, hmx, hops⟩ := hok
  refine Met.ofW (cc := mm.2.2.1) (maxL := mm.2.2.2.1) (ret := mm.2.2.2.2.1) hpn rfl ?_
  intro p e s m args below meth c s₁ B hml hv
  obtain ⟨rfl, hsz, hP, hK⟩ := hv
  have hts := atoms_spec (ws := m_ws mm) B.pre
  have hown : s.vm.findClass (m_own mm.1) = some m.cls := by
    have h1 : m_own mm.1 = mm.2.1.cls := by unfold m_own; rw [hcn]; rfl
    rw [h1]
    exact findClass_of_methodNamed B.named
  have hlocks := B.notSynchronized
  subst hsz
  rw [lg_entry_eq]
  refine IH none d mm 0 _ [] g r g2 hex D cA ad (m_A ad s.heap.size) p e _ s m _ below meth c 0 0 _ ⟨B.exec, B.bytes, hml, hown, fun w hw hg => hts w (List.mem_cons_of_mem _ (m_gt_of hw hg)), hK, fun g => m_w_D hinj (fun i hi => Or.inl ⟨i, hi, rfl⟩), (fun q hq => by cases hq), hinj, fun i hi => Or.inl ⟨i, hi, rfl⟩, fun q hq => Or.inr hq, Nat.le_refl _, Nat.le_refl _, Nat.le_refl _, Nat.le_refl _, hops⟩ ?_ s.heap [] _ hP va_S.rf (m_lv.entry hlen)
  intro o H locs ls ho hd hr hP2 hS
  have post : ∀ t : State, t.heap = H → s.WarmedH t.vm → m_Qc D cA ad g2 s.heap.size r (as.map (m_tr ad)).toArray s (.returned (r.map (m_tr ad))) t := fun t ht _ => ⟨rfl, by rw [ht]; exact hP2, hS.F ht⟩
  obtain ⟨pc, i, len, k, v, w, ts⟩ := o
  dsimp only at hd hr
  have hrt := B.returns
  cases i with
  | return_ =>
    obtain ⟨rfl, hr⟩ := hr
    exact W.vret B.exec B.bytes (hrt.trans hr) post hS.2.2 hd
  | ireturn =>
    obtain ⟨x, rfl, hx⟩ := hr
    rcases hx with hx | ⟨hx, hx2⟩
    · exact W.iret B.exec B.bytes (hrt.trans hx) post hS.2.2 hd
    · exact W.zret B.exec B.bytes (hrt.trans hx) (by show Value.int (x &&& 1) = _; rw [hx2]) post hS.2.2 hd
  | lreturn =>
    obtain ⟨x, rfl, hx⟩ := hr
    exact W.lret B.exec B.bytes (hrt.trans hx) post hS.2.2 hd
  | areturn =>
    obtain ⟨x, n, rfl, hx⟩ := hr
    exact W.aret B.exec B.bytes (hrt.trans hx) (Or.inl ⟨n, rfl⟩) (Or.inr ⟨_, rfl⟩) post hS.2.2 hd
  | _ => exact hr.elim

theorem m_mt_in {k : Nat} {mm : mM} (h : m_mt k = some mm) : ∃ l ∈ m_mgs, mm ∈ l := by
  unfold m_mt at h
  split at h
  · next l e => exact ⟨l, List.mem_of_getElem? e, List.mem_of_getElem? h⟩
  · cases h
theorem m_all_ok {k : Nat} {mm : mM} (h : m_mt k = some mm) : m_Ok mm := by
  obtain ⟨l, hl, hm⟩ := m_mt_in h
  refine m_mchk_inv ?_
  unfold m_mgs at hl
  simp only [List.mem_cons, List.not_mem_nil, or_false] at hl
  rcases hl with rfl | rfl | rfl | rfl | rfl | rfl | rfl | rfl | rfl | rfl | rfl | rfl | rfl | rfl | rfl | rfl | rfl | rfl
  · exact List.all_eq_true.mp m_mg0_ok _ hm
  · exact List.all_eq_true.mp m_mg1_ok _ hm
  · exact List.all_eq_true.mp m_mg2_ok _ hm
  · exact List.all_eq_true.mp m_mg3_ok _ hm
  · exact List.all_eq_true.mp m_mg4_ok _ hm
  · exact List.all_eq_true.mp m_mg5_ok _ hm
  · exact List.all_eq_true.mp m_mg6_ok _ hm
  · exact List.all_eq_true.mp m_mg7_ok _ hm
  · exact List.all_eq_true.mp m_mg8_ok _ hm
  · exact List.all_eq_true.mp m_mg9_ok _ hm
  · exact List.all_eq_true.mp m_mg10_ok _ hm
  · exact List.all_eq_true.mp m_mg11_ok _ hm
  · exact List.all_eq_true.mp m_mg12_ok _ hm
  · exact List.all_eq_true.mp m_mg13_ok _ hm
  · exact List.all_eq_true.mp m_mg14_ok _ hm
  · exact List.all_eq_true.mp m_mg15_ok _ hm
  · exact List.all_eq_true.mp m_mg16_ok _ hm
  · exact List.all_eq_true.mp m_mg17_ok _ hm
theorem m_cn_vw {ci : Nat} {q : vw_C} (h : vwCl[ci]? = some q) : m_cn[ci]? = some q.1 := by
  match ci, h with
  | 0, h => cases h; rfl
  | 1, h => cases h; rfl
  | 2, h => cases h; rfl
  | 3, h => cases h; rfl
  | 4, h => cases h; rfl
  | 5, h => cases h; rfl
  | 6, h => cases h; rfl
  | 7, h => cases h; rfl
  | 8, h => cases h; rfl
  | 9, h => cases h; rfl
  | 10, h => cases h; rfl
  | 11, h => cases h; rfl
  | 12, h => cases h; rfl
  | n + 13, h => cases h
theorem m_sh_cl {a ci : Nat} {fs : List Nat} (h : m_sh[a]? = some (0, ci, fs)) : ∃ q, vwCl[ci]? = some q := by
  have h1 : (m_sh.all fun x => match x with
    | (0, c, _) => Nat.blt c 13
    | _ => true) = true := by decide +kernel
  have h2 : Nat.blt ci 13 = true := List.all_eq_true.mp h1 _ (List.mem_of_getElem? h)
  have h3 : ci < 13 := Nat.lt_of_lt_of_le (Nat.lt_succ_self ci) (Nat.le_of_ble_eq_true h2)
  exact ⟨_, List.getElem?_eq_getElem (l := vwCl) (i := ci) h3⟩
theorem m_lchk_inv {oc idx k pl : Nat} {nest : Bool} (h : m_lchk (oc, idx, k, pl, nest) = true) (hk : Nat.ble 5000 k = false) {m2 : mM} (hm : m_mt k = some m2) : (Jvm.Cond.methodLink (m_own oc) idx m2.2.1) ∈ lw_tbl ∨ (Jvm.Cond.methodLinkNest (m_own oc) idx m2.2.1 m_host) ∈ lw_tbl := by
  unfold m_lchk at h
  dsimp only at h
  rw [hk, hm] at h
  cases nest with
  | false => exact Or.inl (m_wd_in (of_decide_eq_true h))
  | true => exact Or.inr (m_wd_in (of_decide_eq_true h))
theorem m_lchk_ac {oc idx k pl : Nat} {nest : Bool} (h : m_lchk (oc, idx, k, pl, nest) = true) (hk : Nat.ble 5000 k = true) : (Jvm.Cond.methodLink (m_own oc) idx (m_spn k)) ∈ lw_tbl := by
  unfold m_lchk at h
  dsimp only at h
  rw [hk] at h
  cases nest with
  | false => exact m_wd_in (of_decide_eq_true h)
  | true => cases h
theorem m_good {w : Jvm.Cond} (h : w ∈ lw_tbl) (hg : goodWord w = true) : w ∈ m_gt ∧ ((w.onTables && w.keeps) = true ∨ ∃ ty, w = .arrayClass ty) := ⟨m_gt_of h hg, good_of_word hg⟩
theorem m_goodws {m2 : mM} (h : (Jvm.Cond.code m2.2.1 m2.2.2.1 m2.2.2.2.1 m2.2.2.2.2.1) ∈ lw_tbl) : GoodIn m_gt (m_ws m2) := by
  intro w hw
  rcases List.mem_cons.mp hw with rfl | hw
  · exact m_good h rfl
  · exact m_good (m_gt_in hw).1 (m_gt_in hw).2
section MC
variable {p : Program} {l : Launch} {e : Env} {R : Room} {s : State} {m : MethodId} {args : Array Value} {below : List Frame} {meth : Method} {c : Code} {H : Heap} {locs : List Loc} {cells slots : Nat} {Q : State → Prop} {ls : Array Slot} {D : va_G} {cA : Nat → ClassId} {ad : Nat → Nat} {A : Nat → Prop}
theorem m_callG {pc : Nat} {st0 rest : List Value} {g2 : mG} {r : Option Value} {a : Array Value} (hr : va_Run p l e R s m args below meth c H locs cells slots 0 0 (F0 m pc ls st0) rest (m_Qc D cA ad g2 H.size r a) (m_A ad H.size)) (hS : va_S A s.heap H locs) (hA : ∀ q, m_A ad H.size q → A q)
    (kk : ∀ (H1 : Heap) (locs1 : List Loc), va_P D vwCl (m_w ad cA g2) H1 → va_S A s.heap H1 locs1 → W p l e R s m args below meth c H1 locs1 cells slots Q (F0 m (pc + 3) ls ((r.map (m_tr ad)).toList ++ rest))) : W p l e R s m args below meth c H locs cells slots Q (F0 m pc ls st0) := by
  intro T hT X
  obtain ⟨v, st₀, t, T', L, h0, X', hL, e1, e2, ⟨hv, hP2, hz, hk⟩, st⟩ := hr T hT X
  cases hv
  rw [h0] at hz hk
  obtain ⟨t2, a1, b1⟩ := kk T'.heap (locs ++ L) (by rw [e1]; exact hP2)
    ⟨Nat.le_trans hS.1 (by rw [e1]; exact hz), fun q h1 h2 => by rw [e1, hk q (Nat.lt_of_lt_of_le h1 hS.1) (fun z => h2 (hA q z))]; exact hS.2.1 q h1 h2, fun q hq => by
      rcases List.mem_append.mp hq with h | h
      · exact hS.2.2 q h
      · exact hA _ (hL q h)⟩ T' rfl X'
  exact ⟨t2, st t2 a1, b1⟩
theorem m_blind {g : mG} {sz : Nat} {as : List Value} : FrameBlind (m_Pc D cA ad g sz as) := fun a U _ mk q => by
  obtain ⟨q0, q1, qP, qK⟩ := q
  exact ⟨q0, q1, qP, qK.same rfl rfl⟩
theorem m_preU {g : mG} {as : List Value} (hK : m_K D cA ad A s) (hP : va_P D vwCl (m_w ad cA g) H) (hS : va_S A s.heap H locs) (hA : ∀ q, m_A ad H.size q → A q) : ∀ U : State, U.heap = H → s.WarmedH U.vm → m_Pc D cA ad g H.size as (as.map (m_tr ad)).toArray U := by
  intro U hU hW
  exact ⟨rfl, by rw [hU], by rw [hU]; exact hP, hK.warm hW (fun a h1 h2 => by rw [hU]; exact hS.2.1 a h1 h2) hA⟩
end MC
set_option maxHeartbeats 4000000 in
theorem m_call_sound {l : Launch} {n : Nat} (IH : m_Wk l n) {p : Program} {e : Env} {R : Room} {s : State} {m : MethodId} {args : Array Value} {below : List Frame} {meth : Method} {c : Code} {H : Heap} {locs : List Loc} {cells slots : Nat} {Q : State → Prop} {ls : Array Slot} {D : va_G} {cA : Nat → ClassId} {ad : Nat → Nat} {A : Nat → Prop} {sc : Option (Nat × (Nat → Int32))} {d : Nat} {mm : mM} (C : m_Cx D cA ad A sc d mm p R s m args c cells slots)
    {pc k idx : Nat} {v : Bool} {S L : List Value} {g : mG} {z : Option Value × mG} {κ : List Value → mG → Option (Option Value × mG)} (hd : decode mm.2.2.1 pc = .ok (match v with
      | true => .invokevirtual idx
      | false => .invokestatic idx, 3)) (hml : m_any m_ml mm.1 idx k = true) (hv : match v with
      | true => Nat.ble 5000 k = false ∧ m_stc k = false
      | false => Nat.ble 5000 k = true ∨ m_stc k = true)
    (hP : va_P D vwCl (m_w ad cA g) H) (hS : va_S A s.heap H locs) (hl : m_lv ad ls mm.2.2.2.1 L) (h : m_call v d k S g (fun d m2 as g => m_ex n none d m2 0 (m_ent m2.2.2.2.1 as) [] g) κ = some z)
    (kk : ∀ (S : List Value) (g : mG), κ S g = some z → ∀ (H : Heap) (locs : List Loc), va_P D vwCl (m_w ad cA g) H → va_S A s.heap H locs → W p l e R s m args below meth c H locs cells slots Q (F0 m (pc + 3) ls (S.map (m_tr ad)))) :
    W p l e R s m args below meth c H locs cells slots Q (F0 m pc ls (S.map (m_tr ad))) := by
  obtain ⟨hx, hb, hmx, hown, hts, hK, hD, hsc, hinj, hAD, hA0, hfr, hlo, hce, hsl, hops⟩ := C
  obtain ⟨pl, nest, hml⟩ := m_any_inv m_ml_ok hml
  have hA : ∀ q, m_A ad H.size q → A q := by
    intro q hq
    rcases hq with ⟨i, hi, rfl⟩ | hq
    · exact hAD i hi
    · exact hA0 q (Nat.le_trans hS.1 hq)
  have ht : ∀ w ∈ m_gt, w.before args s = true := fun w h9 => hts w (m_gt_in h9).1 (m_gt_in h9).2
  cases d with
  | zero => cases h
  | succ d =>
  unfold m_call at h
  dsimp only at h
  cases hk : Nat.ble 5000 k with
  | true =>
    rw [hk] at h
    dsimp only at h
    cases v with
    | true => rw [hk] at hv; cases hv.1
    | false =>
    have hlink := m_lchk_ac hml hk
    unfold m_spec at h
    split at h
    · unfold m_copy at h
      have h0 := m_pi_inv h
      clear h
      obtain ⟨n1, S, rfl, h⟩ := h0
      have h0 := m_pi_inv h
      clear h
      obtain ⟨dp, S, rfl, h⟩ := h0
      have h0 := m_pa_inv h
      clear h
      obtain ⟨a, S, rfl, h⟩ := h0
      have h0 := m_pi_inv h
      clear h
      obtain ⟨sp, S, rfl, h⟩ := h0
      have h0 := m_pa_inv h
      clear h
      obtain ⟨a0, S, rfl, h⟩ := h0
      obtain ⟨n0, rs0, hs0, h⟩ := m_arr_inv h
      obtain ⟨n2, rs2, hs2, h⟩ := m_arr_inv h
      split at h
      · cases h
      · next hc =>
        simp only [not_or] at hc
        obtain ⟨c1, c2, c3, c4, c5, c6⟩ := hc
        have hSn : S = [] := Decidable.of_not_not c6
        subst hSn
        refine va_copyl (rest := []) hx hb (by rw [hmx]; exact hl.1.symm) hown (hts _ hlink rfl) (hts _ (m_wd_in m_ac_ok.1) rfl) (hts _ (m_wd_in m_ac_ok.2.1) rfl) (hts _ (m_wd_in m_ac_ok.2.2) rfl) hK.1 hP (hD g) hS a0 a 3 3 (ty := .long) (m_w_at hs0) (m_w_at hs2) rfl rfl rfl c1 c2 c3 (by omega) (by omega) (fun _ _ => rfl) (by omega) ?_ hd (fun H1 locs1 hP1 hD1 hS1 => ?_)
        · have e9 : nativeFrameWords "java/lang/System" "arraycopy" 5 = 7 := by decide +kernel
          rw [e9]
          simp only [List.map_nil, List.sum_nil]
          omega
        · refine kk [] _ h H1 locs1 ?_ hS1
          have e8 : m_e ad cA (m_cp g a0 a sp.toNatClampNeg dp.toNatClampNeg n1.toNatClampNeg) a (3 + 1, n2, rs2) = .inl (cA 3, n2, .inr (.inl (va_cpy (g.2 a0) (g.2 a) sp.toNatClampNeg dp.toNatClampNeg n1.toNatClampNeg))) := by
            show (Sum.inl (cA 3, n2, Sum.inr (Sum.inl (if a = a then va_cpy (g.2 a0) (g.2 a) sp.toNatClampNeg dp.toNatClampNeg n1.toNatClampNeg else g.2 a))) : va_E) = _
            rw [if_pos rfl]
          rw [← m_w_set (g := g) (g2 := m_cp g a0 a sp.toNatClampNeg dp.toNatClampNeg n1.toNatClampNeg) hs2 (fun c hc => rfl) (fun c hc => if_neg hc), e8]
          exact hP1
    · have h0 := m_pi_inv h
      clear h
      obtain ⟨y, S, rfl, h⟩ := h0
      have h0 := m_pi_inv h
      clear h
      obtain ⟨x, S, rfl, h⟩ := h0
      split at h
      · next hc8 =>
        have hc8 : m_cat S ≤ 8 := Nat.le_of_ble_eq_true hc8
        exact va_mmax (rest := S.map (m_tr ad)) hx hb (by rw [hmx]; exact hl.1.symm) hown (hts _ hlink rfl) (hts _ (m_wd_in m_ma_ok.1.1) rfl) (hts _ (m_wd_in m_ma_ok.2.2.2) rfl) (hts _ (m_wd_in m_ma_ok.1.2) rfl) (by omega) (by rw [m_cat_tr]; omega) hce hsl hd (kk _ _ h H locs hP hS)
      · cases h
    · have h0 := m_pi_inv h
      clear h
      obtain ⟨y, S, rfl, h⟩ := h0
      have h0 := m_pi_inv h
      clear h
      obtain ⟨x, S, rfl, h⟩ := h0
      split at h
      · next hc8 =>
        have hc8 : m_cat S ≤ 8 := Nat.le_of_ble_eq_true hc8
        exact va_mmin (rest := S.map (m_tr ad)) hx hb (by rw [hmx]; exact hl.1.symm) hown (hts _ hlink rfl) (hts _ (m_wd_in m_ma_ok.2.1.1) rfl) (hts _ (m_wd_in m_ma_ok.2.2.2) rfl) (hts _ (m_wd_in m_ma_ok.2.1.2) rfl) (by omega) (by rw [m_cat_tr]; omega) hce hsl hd (kk _ _ h H locs hP hS)
      · cases h
    · next n0 n1 n2 =>
      have h0 := m_pi_inv h
      clear h
      obtain ⟨x, S, rfl, h⟩ := h0
      have hsp : m_spn k = Lib.Math.abs.name := by
        unfold m_spn
        split
        · exact absurd rfl n0
        · exact absurd rfl n1
        · exact absurd rfl n2
        · rfl
      rw [hsp] at hlink
      split at h
      · next hc8 =>
        have hc8 : m_cat S ≤ 8 := Nat.le_of_ble_eq_true hc8
        exact va_mabs (rest := S.map (m_tr ad)) hx hb (by rw [hmx]; exact hl.1.symm) hown (hts _ hlink rfl) (hts _ (m_wd_in m_ma_ok.2.2.1.1) rfl) (hts _ (m_wd_in m_ma_ok.2.2.2) rfl) (hts _ (m_wd_in m_ma_ok.2.2.1.2) rfl) (by omega) (by rw [m_cat_tr]; omega) hce hsl hd (kk _ _ h H locs hP hS)
      · cases h
  | false =>
    rw [hk] at h
    dsimp only at h
    cases hm : m_mt k with
    | none => rw [hm] at h; cases h
    | some m2 =>
    rw [hm] at h
    dsimp only at h
    obtain ⟨hw1, hw2, hw3, hcn, hm1, hm2, hpn, hmx2, hops2⟩ := m_all_ok hm
    cases hsp : m_split m2.2.2.2.2.2.1 [] S with
    | none => rw [hsp] at h; cases h
    | some ar =>
    obtain ⟨as, rest⟩ := ar
    rw [hsp] at h
    dsimp only at h
    obtain ⟨P, hp1, hp2, hp3⟩ := m_split_inv _ _ _ _ _ hsp
    rw [List.append_nil] at hp3
    subst hp3
    subst hp2
    cases hokc : m_okc v m2 as rest with
    | false => rw [hokc] at h; cases h
    | true =>
    rw [hokc] at h
    dsimp only at h
    cases hrun : m_ex n none d m2 0 (m_ent m2.2.2.2.1 as) [] g with
    | none => rw [hrun] at h; simp [m_bnd] at h
    | some rg =>
    obtain ⟨r, g2⟩ := rg
    rw [hrun] at h
    have h : κ (m_psh r rest) g2 = some z := h
    unfold m_okc at hokc
    rw [Bool.and_eq_true, Bool.and_eq_true] at hokc
    obtain ⟨⟨hle, hc8⟩, hrcv⟩ := hokc
    have hle := Nat.le_of_ble_eq_true hle
    have hc8 : m_cat rest ≤ 8 := Nat.le_of_ble_eq_true hc8
    have hM := m_met IH (m_all_ok hm) hrun hle D cA hinj H.size
    have hstk : (as.reverse ++ rest).map (m_tr ad) = (as.map (m_tr ad)).reverse ++ rest.map (m_tr ad) := by rw [List.map_append, List.map_reverse]
    have hroom : (m_rm d).frames + 1 ≤ R.frames ∧ 8 + (m2.2.2.2.1 + 11) + (m_rm d).locals ≤ R.locals := by
      unfold m_rm
      dsimp only
      omega
    have hW8 : 2 * (F0 m pc ls ((as.reverse ++ rest).map (m_tr ad))).monitorRoom + ((rest.map (m_tr ad)).map fun v => v.category).sum ≤ 8 := lv_room (by rw [m_cat_tr]; exact hc8)
    have hsz : (F0 m pc ls ((as.reverse ++ rest).map (m_tr ad))).locals.size = mm.2.2.2.1 := hl.1
    have fin : ∀ (H1 : Heap) (locs1 : List Loc), va_P D vwCl (m_w ad cA g2) H1 → va_S A s.heap H1 locs1 → W p l e R s m args below meth c H1 locs1 cells slots Q (F0 m (pc + 3) ls ((r.map (m_tr ad)).toList ++ rest.map (m_tr ad))) := by
      intro H1 locs1 hP1 hS1
      have h9 := kk (m_psh r rest) g2 h H1 locs1 hP1 hS1
      cases r with
      | none => exact h9
      | some x => exact h9
    have hst := m_lchk_inv hml hk hm
    have hstc : m_stc k = m2.2.2.2.2.2.2.1.2.2.2.2 := by unfold m_stc; rw [hm]
    cases v with
    | true =>
      have hs0 : m2.2.2.2.2.2.2.1.2.2.2.2 = false := by rw [← hstc]; exact hv.2
      rcases hw3 with ⟨h9, -⟩ | ⟨-, hin, hsel, hpar⟩
      · rw [hs0] at h9; cases h9
      · have hsh : ∃ b t, as = .ref b :: t := by
          cases as with
          | nil => cases hrcv
          | cons x t => cases x with
            | ref b => exact ⟨b, t, rfl⟩
            | _ => cases hrcv
        obtain ⟨b, t, rfl⟩ := hsh
        dsimp only at hrcv
        cases hsb : m_sh[b]? with
        | none => rw [hsb] at hrcv; cases hrcv
        | some q0 =>
        obtain ⟨t0, ci, fs⟩ := q0
        rw [hsb] at hrcv
        cases t0 with
        | succ t0 => cases hrcv
        | zero =>
        have hci : ci = m2.1 := Nat.eq_of_beq_eq_true hrcv
        subst hci
        obtain ⟨q1, hq1⟩ := m_sh_cl hsb
        have hcl : q1.1 = m2.2.1.cls := Option.some.inj ((m_cn_vw hq1).symm.trans hcn)
        have hrec := va_recv hK.1 hP hq1 (m_w_at hsb)
        rw [hcl] at hrec
        have hn : (t.map (m_tr ad)).length = t.length := List.length_map ..
        have hpar2 : (parseMethodDescriptor m2.2.1.desc).map (fun d => d.parameters.length) = some t.length := by
          rw [← hp1] at hpar
          cases hpd : parseMethodDescriptor m2.2.1.desc with
          | none => rw [hpd] at hpar; cases hpar
          | some sg =>
            rw [hpd] at hpar
            have h8 : sg.parameters.length + 1 = t.length + 1 := Option.some.inj hpar
            exact congrArg some (Nat.succ.inj h8)
        have hstk2 : ((Value.ref b :: t).reverse ++ rest).map (m_tr ad) = (t.map (m_tr ad)).reverse ++ .ref (ad b) :: rest.map (m_tr ad) := by
          rw [hstk]
          simp [m_tr]
        rcases hst with hlk | hlk
        · exact m_callG (va_runV (Ts := m_gt) ⟨hx, hb, hmx, hown, ht⟩ hM (cwV t.length ht (fun w hw => by
            rcases List.mem_append.mp hw with hw | hw
            · simp only [List.mem_cons, List.not_mem_nil, or_false] at hw
              rcases hw with rfl | rfl | rfl | rfl
              · exact m_good hlk rfl
              · exact m_good hin rfl
              · exact m_good hsel rfl
              · exact m_good hw2 rfl
            · exact m_goodws hw1 w hw) rfl rfl rfl ⟨rfl, hm1, hm2, hpar2⟩ hroom) ⟨m_blind, hrec, m_preU hK hP hS hA⟩ rfl hn hsz hstk2 hW8 hd ⟨hce, hsl⟩) hS hA fin
        · exact m_callG (va_runVN (Ts := m_gt) ⟨hx, hb, hmx, hown, ht⟩ hM ⟨va_cnB t.length ht (m_goodws hw1) rfl rfl rfl (hK.2.1 _ hlk rfl) (hts _ hw2 rfl) ⟨hm1, hm2, hpar2⟩ hroom, hts _ hin rfl, hts _ hsel rfl⟩ ⟨m_blind, hrec, m_preU hK hP hS hA⟩ rfl hn hsz hstk2 hW8 hd ⟨hce, hsl⟩) hS hA fin
    | false =>
      have hs0 : m2.2.2.2.2.2.2.1.2.2.2.2 = true := by
        rw [← hstc]
        rcases hv with hv | hv
        · rw [hk] at hv; cases hv
        · exact hv
      rcases hw3 with ⟨-, hstt, hpar⟩ | ⟨h9, -⟩
      · have hn : (as.map (m_tr ad)).length = m2.2.2.2.2.2.1 := by rw [List.length_map]; exact hp1
        rcases hst with hlk | hlk
        · exact m_callG (va_runS (Ts := m_gt) ⟨hx, hb, hmx, hown, ht⟩ hM (va_cwS m2.2.2.2.2.2.1 ht (fun w hw => by
              rcases List.mem_append.mp hw with hw | hw
              · simp only [List.mem_cons, List.not_mem_nil, or_false] at hw
                rcases hw with rfl | rfl | rfl
                · exact m_good hlk rfl
                · exact m_good hstt rfl
                · exact m_good hw2 rfl
              · exact m_goodws hw1 w hw) rfl rfl rfl ⟨hm1, hm2, hpar⟩ hroom) ⟨m_blind, m_preU hK hP hS hA⟩ rfl hn hsz hstk hW8 hd ⟨hce, hsl⟩) hS hA fin
        · exact m_callG (va_runSN (Ts := m_gt) ⟨hx, hb, hmx, hown, ht⟩ hM ⟨va_cnB m2.2.2.2.2.2.1 ht (m_goodws hw1) rfl rfl rfl (hK.2.1 _ hlk rfl) (hts _ hw2 rfl) ⟨hm1, hm2, hpar⟩ hroom, hts _ hstt rfl, trivial⟩ ⟨m_blind, m_preU hK hP hS hA⟩ rfl hn hsz hstk hW8 hd ⟨hce, hsl⟩) hS hA fin
      · rw [hs0] at h9; cases h9
theorem m_k_5 {i : Instr} (h : m_k i = 5) : ∃ idx, i = .invokevirtual idx := by
  cases i <;> first | exact ⟨_, rfl⟩ | cases h
theorem m_k_6 {i : Instr} {n : Nat} (h : m_k i = n) (h0 : n ≠ 0) (h1 : n ≠ 1) (h2 : n ≠ 2) (h3 : n ≠ 3) (h4 : n ≠ 4) (h5 : n ≠ 5) : ∃ idx, i = .invokestatic idx := by
  subst h
  cases i <;> first | exact ⟨_, rfl⟩ | exact absurd rfl h0 | exact absurd rfl h1 | exact absurd rfl h2 | exact absurd rfl h3 | exact absurd rfl h4 | exact absurd rfl h5
theorem m_k_1 {i : Instr} (h : m_k i = 1) : i = .return_ := by
  cases i <;> first | rfl | cases h
theorem m_k_2 {i : Instr} (h : m_k i = 2) : i = .ireturn := by
  cases i <;> first | rfl | cases h
theorem m_k_3 {i : Instr} (h : m_k i = 3) : i = .lreturn := by
  cases i <;> first | rfl | cases h
theorem m_k_4 {i : Instr} (h : m_k i = 4) : i = .areturn := by
  cases i <;> first | rfl | cases h
end
section
/-! SOUND (4): the walk -/
set_option maxHeartbeats 4000000 in
theorem m_walk (l : Launch) : ∀ n, m_Wk l n := by
  intro n
  induction n with
  | zero =>
    intro sc d mm pc L S g r g2 h
    cases h
  | succ n IH =>
    intro sc d mm pc L S g r g2 h D cA ad A p e R s m args below meth c cells slots Q C hR H locs ls hP hS hl
    have C0 := C
    obtain ⟨hx, hb, hmx, hown, hts, hK, hD, hsc, hinj, hAD, hA0, hfr, hlo, hce, hsl, hops⟩ := C0
    unfold m_ex at h
    cases hf : m_fetch mm.2.2.2.2.2.2.2 pc with
    | none => rw [hf] at h; cases h
    | some o =>
    rw [hf] at h
    dsimp only at h
    obtain ⟨ho, rfl⟩ := m_fetch_inv hf
    have hch := hops o ho
    split at h
    · exact m_xs_sound hx hb hown hts hK hD hsc hch hP hS hl h (fun pc L S g h9 H locs ls hP hS hl => IH sc d mm pc L S g r g2 h9 D cA ad A p e R s m args below meth c cells slots Q C hR H locs ls hP hS hl)
    · next hk =>
      split at h
      · next hret =>
        cases h
        obtain ⟨pc, i, len, k, v, w, ts⟩ := o
        have hi := m_k_1 hk
        dsimp only at hi
        subst hi
        simp only [m_ochk, Bool.and_eq_true, decide_eq_true_eq, Nat.beq_eq] at hch
        obtain ⟨hd, rfl⟩ := hch
        exact hR _ H locs ls ho hd ⟨rfl, hret⟩ hP hS
      · cases h
    · next hk =>
      obtain ⟨pc, i, len, k, v, w, ts⟩ := o
      have hi := m_k_2 hk
      dsimp only at hi
      subst hi
      simp only [m_ochk, Bool.and_eq_true, decide_eq_true_eq, Nat.beq_eq] at hch
      obtain ⟨hd, rfl⟩ := hch
      split at h
      · split at h
        · next hret =>
          cases h
          exact hR _ H locs ls ho hd ⟨_, rfl, Or.inl hret⟩ hP hS
        · next hret =>
          split at h
          · next h1 =>
            cases h
            exact hR _ H locs ls ho hd ⟨_, rfl, Or.inr ⟨hret, h1⟩⟩ hP hS
          · cases h
        · cases h
      · cases h
    · next hk =>
      obtain ⟨pc, i, len, k, v, w, ts⟩ := o
      have hi := m_k_3 hk
      dsimp only at hi
      subst hi
      simp only [m_ochk, Bool.and_eq_true, decide_eq_true_eq, Nat.beq_eq] at hch
      obtain ⟨hd, rfl⟩ := hch
      split at h
      · split at h
        · next hret =>
          cases h
          exact hR _ H locs ls ho hd ⟨_, rfl, hret⟩ hP hS
        · cases h
      · cases h
    · next hk =>
      obtain ⟨pc, i, len, k, v, w, ts⟩ := o
      have hi := m_k_4 hk
      dsimp only at hi
      subst hi
      simp only [m_ochk, Bool.and_eq_true, decide_eq_true_eq, Nat.beq_eq] at hch
      obtain ⟨hd, rfl⟩ := hch
      split at h
      · split at h
        · next hret =>
          cases h
          exact hR _ H locs ls ho hd ⟨_, _, rfl, hret⟩ hP hS
        · cases h
      · cases h
    · next hk =>
      obtain ⟨pc, i, len, k, v, w, ts⟩ := o
      obtain ⟨idx, hi⟩ := m_k_5 hk
      dsimp only at hi
      subst hi
      simp only [m_ochk, Bool.and_eq_true, decide_eq_true_eq, Nat.beq_eq, Bool.not_eq_true'] at hch
      obtain ⟨hd, rfl, h1, h2, h3⟩ := hch
      exact m_call_sound (v := true) IH C hd h3 ⟨h1, h2⟩ hP hS hl h (fun S g h9 H locs hP hS => IH sc d mm _ L S g r g2 h9 D cA ad A p e R s m args below meth c cells slots Q C hR H locs ls hP hS hl)
    · next h0 h1 h2 h3 h4 h5 =>
      obtain ⟨pc, i, len, k, v, w, ts⟩ := o
      obtain ⟨idx, hi⟩ := m_k_6 rfl h0 h1 h2 h3 h4 h5
      dsimp only at hi
      subst hi
      simp only [m_ochk, Bool.and_eq_true, Bool.or_eq_true, decide_eq_true_eq, Nat.beq_eq] at hch
      obtain ⟨hd, rfl, h6, h7⟩ := hch
      refine m_call_sound (v := false) IH C hd h7 ?_ hP hS hl h (fun S g h9 H locs hP hS => IH sc d mm _ L S g r g2 h9 D cA ad A p e R s m args below meth c cells slots Q C hR H locs ls hP hS hl)
      rcases h6 with h6 | h6
      · exact Or.inl h6
      · exact Or.inr h6
end
section
/-! THE SMALL MACHINE WITHOUT FUEL: ev, and how it goes on -/
section MM
variable {β γ : Type} {P : Option γ → Prop}
theorem m_pi_par {S : List Value} {f : Int32 → List Value → Option β} {f2 : Int32 → List Value → Option γ} {z : β} (hf : ∀ x t, f x t = some z → P (f2 x t)) (h : m_pi S f = some z) : P (m_pi S f2) := by
  obtain ⟨x, t, rfl, h⟩ := m_pi_inv h
  exact hf x t h
theorem m_pl_par {S : List Value} {f : Int64 → List Value → Option β} {f2 : Int64 → List Value → Option γ} {z : β} (hf : ∀ x t, f x t = some z → P (f2 x t)) (h : m_pl S f = some z) : P (m_pl S f2) := by
  obtain ⟨x, t, rfl, h⟩ := m_pl_inv h
  exact hf x t h
theorem m_pa_par {S : List Value} {f : Nat → List Value → Option β} {f2 : Nat → List Value → Option γ} {z : β} (hf : ∀ x t, f x t = some z → P (f2 x t)) (h : m_pa S f = some z) : P (m_pa S f2) := by
  obtain ⟨x, t, rfl, h⟩ := m_pa_inv h
  exact hf x t h
theorem m_qi_par {L : List Value} {k : Nat} {f : Int32 → Option β} {f2 : Int32 → Option γ} {z : β} (hf : ∀ x, f x = some z → P (f2 x)) (h : m_qi L k f = some z) : P (m_qi L k f2) := by
  obtain ⟨x, e, h⟩ := m_qi_inv h
  unfold m_qi
  rw [e]
  exact hf x h
theorem m_ql_par {L : List Value} {k : Nat} {f : Int64 → Option β} {f2 : Int64 → Option γ} {z : β} (hf : ∀ x, f x = some z → P (f2 x)) (h : m_ql L k f = some z) : P (m_ql L k f2) := by
  obtain ⟨x, e, h⟩ := m_ql_inv h
  unfold m_ql
  rw [e]
  exact hf x h
theorem m_qa_par {L : List Value} {k : Nat} {f : Nat → Option β} {f2 : Nat → Option γ} {z : β} (hf : ∀ x, f x = some z → P (f2 x)) (h : m_qa L k f = some z) : P (m_qa L k f2) := by
  obtain ⟨x, e, h⟩ := m_qa_inv h
  unfold m_qa
  rw [e]
  exact hf x h
theorem m_in_par {i : Int32} {n : Nat} {x : Option β} {y : Option γ} {z : β} (hf : x = some z → P y) (h : m_in i n x = some z) : P (m_in i n y) := by
  unfold m_in at h ⊢
  split at h
  · cases h
  · next e => rw [if_neg e]; exact hf h
theorem m_ite_par {c : Prop} [Decidable c] {a b : Option β} {a2 b2 : Option γ} {z : β} (h1 : a = some z → P a2) (h2 : b = some z → P b2) (h : (if c then a else b) = some z) : P (if c then a2 else b2) := by
  split at h
  · next e => rw [if_pos e]; exact h1 h
  · next e => rw [if_neg e]; exact h2 h
theorem m_if_par {c : Prop} {a b : Option β} {a2 b2 : Option γ} {z : β} (h1 : a = some z → P a2) (h2 : b = some z → P b2) (h : m_if c a b = some z) : P (m_if c a2 b2) := by
  by_cases e : c
  · rw [m_if_pos e] at h ⊢; exact h1 h
  · rw [m_if_neg e] at h ⊢; exact h2 h
theorem m_sw_par {x : Int32} {d : Nat} {f : Nat → Option β} {f2 : Nat → Option γ} {z : β} (hf : ∀ t, f t = some z → P (f2 t)) : ∀ ts, m_sw x d f ts = some z → P (m_sw x d f2 ts) := by
  intro ts
  induction ts with
  | nil => exact hf d
  | cons q r ih =>
    unfold m_sw
    exact m_if_par (hf q.2) ih
theorem m_fld_par {a k : Nat} {f : Nat → Option β} {f2 : Nat → Option γ} {z : β} (hf : ∀ q, f q = some z → P (f2 q)) (h : m_fld a k f = some z) : P (m_fld a k f2) := by
  obtain ⟨fs, q, h1, h2, h⟩ := m_fld_inv h
  unfold m_fld
  rw [h1]
  show P (match Nat.beq (k / 100) (k / 100) with
    | true => (match fs[k % 100]? with
      | some q => f2 q
      | none => none)
    | false => none)
  rw [Nat.beq_refl, h2]
  exact hf q h
theorem m_arr_par {t a : Nat} {f : Nat → List Nat → Option β} {f2 : Nat → List Nat → Option γ} {z : β} (hf : ∀ n rs, f n rs = some z → P (f2 n rs)) (h : m_arr t a f = some z) : P (m_arr t a f2) := by
  obtain ⟨n, rs, h1, h⟩ := m_arr_inv h
  unfold m_arr
  rw [h1]
  show P (match Nat.beq t t with
    | true => f2 n rs
    | false => none)
  rw [Nat.beq_refl]
  exact hf n rs h
theorem m_stat_par {a : Nat} {f : FieldType → List Int32 → Option β} {f2 : FieldType → List Int32 → Option γ} {z : β} (hf : ∀ ty vs, f ty vs = some z → P (f2 ty vs)) (h : m_stat a f = some z) : P (m_stat a f2) := by
  unfold m_stat at h ⊢
  split at h
  · split at h
    · exact hf _ _ h
    · cases h
  · cases h
theorem m_sel_par {rs : List Nat} {k : Nat} {f : Nat → Option β} {f2 : Nat → Option γ} {z : β} (hf : ∀ j, f j = some z → P (f2 j)) (h : m_sel rs k f = some z) : P (m_sel rs k f2) := by
  obtain ⟨j, e, h⟩ := m_sel_inv h
  unfold m_sel
  rw [e]
  exact hf j h
theorem m_scl_par {sc : Option (Nat × (Nat → Int32))} {i : Int32} {f : Int32 → Option β} {f2 : Int32 → Option γ} {z : β} (hf : ∀ x, f x = some z → P (f2 x)) (h : m_scl sc i f = some z) : P (m_scl sc i f2) := by
  unfold m_scl at h ⊢
  cases sc with
  | none => cases h
  | some q => exact m_in_par (hf _) h
theorem m_scn_par {sc : Option (Nat × (Nat → Int32))} {f : Int32 → Option β} {f2 : Int32 → Option γ} {z : β} (hf : ∀ x, f x = some z → P (f2 x)) (h : m_scn sc f = some z) : P (m_scn sc f2) := by
  unfold m_scn at h ⊢
  cases sc with
  | none => cases h
  | some q => exact hf _ h
set_option maxHeartbeats 4000000 in
theorem m_xs_par {sc : Option (Nat × (Nat → Int32))} {o : mO} {L S : List Value} {g : mG} {κ : Nat → List Value → List Value → mG → Option β} {κ2 : Nat → List Value → List Value → mG → Option γ} {z : β} (hk : ∀ pc L S g, κ pc L S g = some z → P (κ2 pc L S g)) (h : m_xs sc o L S g κ = some z) : P (m_xs sc o L S g κ2) := by
  obtain ⟨pc, i, len, k, v, w, ts⟩ := o
  unfold m_xs at h ⊢
  dsimp only at h ⊢
  cases i
  case ifCond cnd off =>
    cases cnd <;> dsimp only at h ⊢ <;> refine m_pi_par (fun x t h => ?_) h <;> exact m_if_par (hk _ _ _ _) (hk _ _ _ _) h
  case if_icmp cnd off =>
    cases cnd <;> dsimp only at h ⊢ <;> refine m_pi_par (fun x t h => ?_) h <;> refine m_pi_par (fun x t h => ?_) h <;> exact m_if_par (hk _ _ _ _) (hk _ _ _ _) h
  case getfield idx =>
    refine m_pa_par (fun a t h => m_fld_par (fun q h => ?_) h) h
    match q, h with
    | 0, h => exact hk _ _ _ _ h
    | 1, h => exact hk _ _ _ _ h
    | 2, h => exact hk _ _ _ _ h
    | j + 3, h => exact hk _ _ _ _ h
  case putfield idx =>
    dsimp only at h ⊢
    split at h
    · refine m_pa_par (fun a t h => m_fld_par (fun q h => ?_) h) h
      match q, h with
      | 0, h => exact hk _ _ _ _ h
      | 1, h => cases h
      | 2, h => exact m_ite_par (hk _ _ _ _) (fun e => by cases e) h
      | j + 3, h => cases h
    · refine m_pa_par (fun a t h => m_fld_par (fun q h => ?_) h) h
      match q, h with
      | 0, h => cases h
      | 1, h => exact hk _ _ _ _ h
      | j + 2, h => cases h
    · cases h
  case iaload =>
    refine m_pi_par (fun i t h => m_pa_par (fun a t h => ?_) h) h
    split at h
    · next e => exact m_arr_par (fun n rs h => m_in_par (hk _ _ _ _) h) h
    · next e =>
      split at h
      · next e2 => exact m_scl_par (fun x h => hk _ _ _ _ h) h
      · next e2 =>
        refine m_stat_par (fun ty vs h => ?_) h
        cases ty <;> first | exact m_in_par (hk _ _ _ _) h | cases h
  case caload =>
    refine m_pi_par (fun i t h => m_pa_par (fun a t h => m_stat_par (fun ty vs h => ?_) h) h) h
    cases ty <;> first | exact m_in_par (hk _ _ _ _) h | cases h
  case aaload =>
    exact m_pi_par (fun i t h => m_pa_par (fun a t h => m_arr_par (fun n rs h => m_in_par (fun h => m_sel_par (fun j h => hk _ _ _ _ h) h) h) h) h) h
  case arraylength =>
    refine m_pa_par (fun a t h => ?_) h
    split at h
    · exact hk _ _ _ _ h
    · cases h
    · split at h
      · exact m_scn_par (fun x h => hk _ _ _ _ h) h
      · cases h
  case dup =>
    dsimp only at h ⊢
    cases S with
    | nil => cases h
    | cons x t =>
      dsimp only at h ⊢
      split at h
      · next e => exact hk _ _ _ _ h
      · cases h
  case pop =>
    dsimp only at h ⊢
    cases S with
    | nil => cases h
    | cons x t =>
      dsimp only at h ⊢
      split at h
      · next e => exact hk _ _ _ _ h
      · cases h
  case dup2 =>
    dsimp only at h ⊢
    match S, h with
    | [], h => cases h
    | [x], h => cases h
    | x :: y :: t, h =>
      dsimp only at h ⊢
      split at h
      · next e1 e2 => exact hk _ _ _ _ h
      · cases h
  all_goals first
    | exact hk _ _ _ _ h
    | exact m_qi_par (fun x h => hk _ _ _ _ h) h
    | exact m_ql_par (fun x h => hk _ _ _ _ h) h
    | exact m_qa_par (fun x h => hk _ _ _ _ h) h
    | exact m_pi_par (fun x t h => hk _ _ _ _ h) h
    | exact m_pl_par (fun x t h => hk _ _ _ _ h) h
    | exact m_pa_par (fun x t h => hk _ _ _ _ h) h
    | exact m_pi_par (fun x t h => m_pi_par (fun x t h => hk _ _ _ _ h) h) h
    | exact m_pl_par (fun x t h => m_pl_par (fun x t h => hk _ _ _ _ h) h) h
    | exact m_pi_par (fun x t h => m_pl_par (fun x t h => hk _ _ _ _ h) h) h
    | exact m_pi_par (fun x t h => m_pi_par (fun x t h => m_ite_par (fun e => by cases e) (hk _ _ _ _) h) h) h
    | exact m_pl_par (fun x t h => m_pl_par (fun x t h => m_ite_par (fun e => by cases e) (hk _ _ _ _) h) h) h
    | exact m_pi_par (fun x t h => m_sw_par (fun t h => hk _ _ _ _ h) _ h) h
    | exact m_pi_par (fun x t h => m_pa_par (fun a t h => m_arr_par (fun n rs h => m_in_par (hk _ _ _ _) h) h) h) h
    | exact m_pi_par (fun x t h => m_pi_par (fun x t h => m_pa_par (fun a t h => m_arr_par (fun n rs h => m_in_par (hk _ _ _ _) h) h) h) h) h
    | exact m_pl_par (fun x t h => m_pi_par (fun x t h => m_pa_par (fun a t h => m_arr_par (fun n rs h => m_in_par (hk _ _ _ _) h) h) h) h) h
    | cases h
end MM
theorem m_copy_par {β γ : Type} {P : Option γ → Prop} {S : List Value} {g : mG} {κ : List Value → mG → Option β} {κ2 : List Value → mG → Option γ} {z : β} (hk : ∀ S g, κ S g = some z → P (κ2 S g)) (h : m_copy S g κ = some z) : P (m_copy S g κ2) := by
  unfold m_copy at h ⊢
  exact m_pi_par (fun _ _ h => m_pi_par (fun _ _ h => m_pa_par (fun _ _ h => m_pi_par (fun _ _ h => m_pa_par (fun _ _ h => m_arr_par (fun _ _ h => m_arr_par (fun _ _ h => m_ite_par (fun e => by cases e) (hk _ _) h) h) h) h) h) h) h) h
theorem m_spec_par {β γ : Type} {P : Option γ → Prop} {k : Nat} {S : List Value} {g : mG} {κ : List Value → mG → Option β} {κ2 : List Value → mG → Option γ} {z : β} (hk : ∀ S g, κ S g = some z → P (κ2 S g)) (h : m_spec k S g κ = some z) : P (m_spec k S g κ2) := by
  unfold m_spec at h ⊢
  split at h
  · exact m_copy_par hk h
  · refine m_pi_par (fun _ _ h => m_pi_par (fun _ t h => ?_) h) h
    split at h
    · next e => exact hk _ _ h
    · cases h
  · refine m_pi_par (fun _ _ h => m_pi_par (fun _ t h => ?_) h) h
    split at h
    · next e => exact hk _ _ h
    · cases h
  · refine m_pi_par (fun _ t h => ?_) h
    split at h
    · next e => exact hk _ _ h
    · cases h
/-- an instruction goes on at one place -/
theorem m_xs_fac {β : Type} {sc : Option (Nat × (Nat → Int32))} {o : mO} {L S : List Value} {g : mG} {κ : Nat → List Value → List Value → mG → Option β} {z : β} (h : m_xs sc o L S g κ = some z) : ∃ pc L2 S2 g2, κ pc L2 S2 g2 = some z ∧ ∀ κ2 : Nat → List Value → List Value → mG → Option β, m_xs sc o L S g κ2 = κ2 pc L2 S2 g2 := by
  obtain ⟨pc, L2, S2, g2, h1, h2⟩ := m_xs_par (γ := Nat × List Value × List Value × mG) (P := fun x => ∃ pc L2 S2 g2, x = some (pc, L2, S2, g2) ∧ κ pc L2 S2 g2 = some z) (κ2 := fun pc L S g => some (pc, L, S, g)) (fun pc L S g h => ⟨pc, L, S, g, rfl, h⟩) h
  exact ⟨pc, L2, S2, g2, h2, fun κ2 => m_xs_par (P := fun x => x = κ2 pc L2 S2 g2) (κ2 := κ2) (fun pc3 L3 S3 g3 h3 => by cases h3; rfl) h1⟩
theorem m_spec_fac {β : Type} {k : Nat} {S : List Value} {g : mG} {κ : List Value → mG → Option β} {z : β} (h : m_spec k S g κ = some z) : ∃ S2 g2, κ S2 g2 = some z ∧ ∀ κ2 : List Value → mG → Option β, m_spec k S g κ2 = κ2 S2 g2 := by
  obtain ⟨S2, g2, h1, h2⟩ := m_spec_par (γ := List Value × mG) (P := fun x => ∃ S2 g2, x = some (S2, g2) ∧ κ S2 g2 = some z) (κ2 := fun S g => some (S, g)) (fun S g h => ⟨S, g, rfl, h⟩) h
  exact ⟨S2, g2, h2, fun κ2 => m_spec_par (P := fun x => x = κ2 S2 g2) (κ2 := κ2) (fun S3 g3 h3 => by cases h3; rfl) h1⟩
abbrev mRn : Type := Option (Nat × (Nat → Int32)) → Nat → mM → Nat → List Value → List Value → mG → Option (Option Value × mG)
/-- rows of runs that only grow, and what they come to -/
def m_up (r : Nat → mRn) : Prop := ∀ n sc d mm pc L S g z, r n sc d mm pc L S g = some z → ∀ k, r (n + k) sc d mm pc L S g = some z
def m_to (r : Nat → mRn) (r2 : mRn) : Prop := ∀ sc d mm pc L S g z, r2 sc d mm pc L S g = some z ↔ ∃ n, r n sc d mm pc L S g = some z
theorem m_call_fac {v : Bool} {d k : Nat} {S : List Value} {g : mG} {run : Nat → mM → List Value → mG → Option (Option Value × mG)} {κ : List Value → mG → Option (Option Value × mG)} {z : Option Value × mG} (h : m_call v d k S g run κ = some z) :
    (∃ S2 g2, κ S2 g2 = some z ∧ ∀ run2 κ2, m_call v d k S g run2 κ2 = κ2 S2 g2) ∨ (∃ (d2 : Nat) (m2 : mM) (as : List Value) (q : Option Value × mG) (S2 : Option Value → List Value), run d2 m2 as g = some q ∧ κ (S2 q.1) q.2 = some z ∧ ∀ run2 κ2, m_call v d k S g run2 κ2 = m_bnd (run2 d2 m2 as g) (fun r g2 => κ2 (S2 r) g2)) := by
  cases d with
  | zero => cases h
  | succ d =>
    unfold m_call at h ⊢
    dsimp only at h ⊢
    cases hk : Nat.ble 5000 k with
    | true =>
      rw [hk] at h
      obtain ⟨S2, g2, h1, h2⟩ := m_spec_fac h
      exact Or.inl ⟨S2, g2, h1, fun _ κ2 => h2 κ2⟩
    | false =>
      rw [hk] at h
      dsimp only at h ⊢
      cases hm : m_mt k with
      | none => rw [hm] at h; cases h
      | some m2 =>
        rw [hm] at h
        dsimp only at h ⊢
        cases hs : m_split m2.2.2.2.2.2.1 [] S with
        | none => rw [hs] at h; cases h
        | some ar =>
          obtain ⟨as, rest⟩ := ar
          rw [hs] at h
          dsimp only at h ⊢
          cases ho : m_okc v m2 as rest with
          | false => rw [ho] at h; cases h
          | true =>
            rw [ho] at h
            dsimp only at h ⊢
            cases hq : run d m2 as g with
            | none => rw [hq] at h; cases h
            | some q =>
              rw [hq] at h
              exact Or.inr ⟨d, m2, as, q, fun r => m_psh r rest, hq, h, fun _ _ => rfl⟩
noncomputable def m_gen (run : Nat → mM → List Value → mG → Option (Option Value × mG)) (κ : Nat → List Value → List Value → mG → Option (Option Value × mG)) (sc : Option (Nat × (Nat → Int32))) (d : Nat) (mm : mM) (pc : Nat) (L S : List Value) (g : mG) : Option (Option Value × mG) := match m_fetch mm.2.2.2.2.2.2.2 pc with
    | none => none
    | some o => match m_k o.2.1 with
      | 0 => m_xs sc o L S g κ
      | 1 => (match S, mm.2.2.2.2.1 with
        | [], none => some (none, g)
        | _, _ => none)
      | 2 => (match S with
        | [.int x] => (match mm.2.2.2.2.1 with
          | some .int => some (some (.int x), g)
          | some .boolean => if x &&& 1 = x then some (some (.int x), g) else none
          | _ => none)
        | _ => none)
      | 3 => (match S with
        | [.long x] => (match mm.2.2.2.2.1 with
          | some .long => some (some (.long x), g)
          | _ => none)
        | _ => none)
      | 4 => (match S with
        | [.ref x] => (match mm.2.2.2.2.1 with
          | some (.object _) => some (some (.ref x), g)
          | _ => none)
        | _ => none)
      | 5 => m_call true d o.2.2.2.1 S g run (fun S g => κ (pc + 3) L S g)
      | _ => m_call false d o.2.2.2.1 S g run (fun S g => κ (pc + 3) L S g)
noncomputable def m_body (rec : mRn) (sc : Option (Nat × (Nat → Int32))) (d : Nat) (mm : mM) (pc : Nat) (L S : List Value) (g : mG) : Option (Option Value × mG) := m_gen (fun d m2 as g => rec none d m2 0 (m_ent m2.2.2.2.1 as) [] g) (rec sc d mm) sc d mm pc L S g
theorem m_ex_body (n : Nat) (sc : Option (Nat × (Nat → Int32))) (d : Nat) (mm : mM) (pc : Nat) (L S : List Value) (g : mG) : m_ex (n + 1) sc d mm pc L S g = m_body (m_ex n) sc d mm pc L S g := rfl
/-- what the body gives needs its run at one or two places only: so far as another run gives the same there, its body gives the same -/
theorem m_body_fac {r1 : mRn} {sc : Option (Nat × (Nat → Int32))} {d : Nat} {mm : mM} {pc : Nat} {L S : List Value} {g : mG} {z : Option Value × mG} (h : m_body r1 sc d mm pc L S g = some z) :
    (∀ r2 : mRn, m_body r2 sc d mm pc L S g = some z) ∨ (∃ pc2 L2 S2 g2, r1 sc d mm pc2 L2 S2 g2 = some z ∧ ∀ r2 : mRn, r2 sc d mm pc2 L2 S2 g2 = some z → m_body r2 sc d mm pc L S g = some z) ∨
    (∃ d2 m2 L2 q pc2 S2, r1 none d2 m2 0 L2 [] g = some q ∧ r1 sc d mm pc2 L S2 q.2 = some z ∧ ∀ r2 : mRn, r2 none d2 m2 0 L2 [] g = some q → r2 sc d mm pc2 L S2 q.2 = some z → m_body r2 sc d mm pc L S g = some z) := by
  unfold m_body m_gen at h ⊢
  split at h
  · cases h
  · split at h
    · obtain ⟨pc2, L2, S2, g2, h1, h2⟩ := m_xs_fac h
      exact Or.inr (Or.inl ⟨pc2, L2, S2, g2, h1, fun r2 h3 => (h2 _).trans h3⟩)
    · exact Or.inl (fun _ => h)
    · exact Or.inl (fun _ => h)
    · exact Or.inl (fun _ => h)
    · exact Or.inl (fun _ => h)
    · rcases m_call_fac h with ⟨S2, g2, h1, h2⟩ | ⟨d2, m2, as, q, S2, h1, h2, h3⟩
      · exact Or.inr (Or.inl ⟨_, L, S2, g2, h1, fun r2 h3 => (h2 _ _).trans h3⟩)
      · refine Or.inr (Or.inr ⟨d2, m2, _, q, _, S2 q.1, h1, h2, fun r2 h4 h5 => ?_⟩)
        rw [h3]
        show m_bnd (r2 none d2 m2 0 (m_ent m2.2.2.2.1 as) [] g) _ = some z
        rw [h4]
        exact h5
    · rcases m_call_fac h with ⟨S2, g2, h1, h2⟩ | ⟨d2, m2, as, q, S2, h1, h2, h3⟩
      · exact Or.inr (Or.inl ⟨_, L, S2, g2, h1, fun r2 h3 => (h2 _ _).trans h3⟩)
      · refine Or.inr (Or.inr ⟨d2, m2, _, q, _, S2 q.1, h1, h2, fun r2 h4 h5 => ?_⟩)
        rw [h3]
        show m_bnd (r2 none d2 m2 0 (m_ent m2.2.2.2.1 as) [] g) _ = some z
        rw [h4]
        exact h5
theorem m_body_mono {r1 r2 : mRn} (ih : ∀ sc d mm pc L S g z, r1 sc d mm pc L S g = some z → r2 sc d mm pc L S g = some z) {sc : Option (Nat × (Nat → Int32))} {d : Nat} {mm : mM} {pc : Nat} {L S : List Value} {g : mG} {z : Option Value × mG} (h : m_body r1 sc d mm pc L S g = some z) : m_body r2 sc d mm pc L S g = some z := by
  rcases m_body_fac h with h1 | ⟨pc2, L2, S2, g2, h1, h2⟩ | ⟨d2, m2, L2, q, pc2, S2, h1, h2, h3⟩
  · exact h1 r2
  · exact h2 r2 (ih _ _ _ _ _ _ _ _ h1)
  · exact h3 r2 (ih _ _ _ _ _ _ _ _ h1) (ih _ _ _ _ _ _ _ _ h2)
theorem m_ex_succ : ∀ (n : Nat) (sc : Option (Nat × (Nat → Int32))) (d : Nat) (mm : mM) (pc : Nat) (L S : List Value) (g : mG) (z : Option Value × mG), m_ex n sc d mm pc L S g = some z → m_ex (n + 1) sc d mm pc L S g = some z := by
  intro n
  induction n with
  | zero => intro sc d mm pc L S g z h; cases h
  | succ n ih =>
    intro sc d mm pc L S g z h
    rw [m_ex_body] at h ⊢
    exact m_body_mono ih h
theorem m_ex_add {n : Nat} {sc : Option (Nat × (Nat → Int32))} {d : Nat} {mm : mM} {pc : Nat} {L S : List Value} {g : mG} {z : Option Value × mG} (h : m_ex n sc d mm pc L S g = some z) : ∀ k, m_ex (n + k) sc d mm pc L S g = some z := by
  intro k
  induction k with
  | zero => exact h
  | succ k ih => exact m_ex_succ _ _ _ _ _ _ _ _ _ ih
/-- what the small machine comes to from here -/
noncomputable def ev (sc : Option (Nat × (Nat → Int32))) (d : Nat) (mm : mM) (pc : Nat) (L S : List Value) (g : mG) : Option (Option Value × mG) := match Classical.propDecidable (∃ z, ∃ n, m_ex n sc d mm pc L S g = some z) with
  | .isTrue h => some (Classical.choose h)
  | .isFalse _ => none
theorem ev_of {n : Nat} {sc : Option (Nat × (Nat → Int32))} {d : Nat} {mm : mM} {pc : Nat} {L S : List Value} {g : mG} {z : Option Value × mG} (h : m_ex n sc d mm pc L S g = some z) : ev sc d mm pc L S g = some z := by
  unfold ev
  split
  · next h2 _ =>
    obtain ⟨n2, h3⟩ := Classical.choose_spec h2
    have h4 := m_ex_add h n2
    have h5 := m_ex_add h3 n
    rw [Nat.add_comm, h4] at h5
    rw [Option.some.inj h5]
  · next h2 _ => exact absurd ⟨z, n, h⟩ h2
theorem ev_inv {sc : Option (Nat × (Nat → Int32))} {d : Nat} {mm : mM} {pc : Nat} {L S : List Value} {g : mG} {z : Option Value × mG} (h : ev sc d mm pc L S g = some z) : ∃ n, m_ex n sc d mm pc L S g = some z := by
  unfold ev at h
  split at h
  · next h2 _ =>
    obtain ⟨n, h3⟩ := Classical.choose_spec h2
    cases h
    exact ⟨n, h3⟩
  · cases h
theorem ev_fix (sc : Option (Nat × (Nat → Int32))) (d : Nat) (mm : mM) (pc : Nat) (L S : List Value) (g : mG) : ev sc d mm pc L S g = m_body ev sc d mm pc L S g := by
  have h1 : ∀ z, ev sc d mm pc L S g = some z → m_body ev sc d mm pc L S g = some z := by
    intro z h
    obtain ⟨n, h⟩ := ev_inv h
    cases n with
    | zero => cases h
    | succ n =>
      rw [m_ex_body] at h
      exact m_body_mono (fun _ _ _ _ _ _ _ _ h => ev_of h) h
  have h2 : ∀ z, m_body ev sc d mm pc L S g = some z → ev sc d mm pc L S g = some z := by
    intro z h
    rcases m_body_fac h with h1 | ⟨pc2, L2, S2, g2, h1, h2⟩ | ⟨d2, m2, L2, q, pc2, S2, h1, h2, h3⟩
    · exact ev_of (n := 1) ((m_ex_body 0 sc d mm pc L S g).trans (h1 _))
    · obtain ⟨n, h1⟩ := ev_inv h1
      exact ev_of (n := n + 1) ((m_ex_body n sc d mm pc L S g).trans (h2 _ h1))
    · obtain ⟨n1, h1⟩ := ev_inv h1
      obtain ⟨n2, h2⟩ := ev_inv h2
      refine ev_of (n := n1 + n2 + 1) ((m_ex_body (n1 + n2) sc d mm pc L S g).trans (h3 _ (m_ex_add h1 n2) ?_))
      rw [Nat.add_comm]
      exact m_ex_add h2 n1
  cases h : m_body ev sc d mm pc L S g with
  | some z => exact h2 z h
  | none =>
    cases h3 : ev sc d mm pc L S g with
    | none => rfl
    | some z => rw [h1 z h3] at h; cases h
/-- a stretch of code: on to the next place of the list -/
noncomputable def m_seg (rec : mRn) (cuts : List Nat) (sc : Option (Nat × (Nat → Int32))) (d : Nat) (mm : mM) : Nat → Nat → List Value → List Value → mG → Option (Option Value × mG)
  | 0, pc, L, S, g => rec sc d mm pc L S g
  | k + 1, pc, L, S, g => m_gen (fun d m2 as g => rec none d m2 0 (m_ent m2.2.2.2.1 as) [] g) (fun pc2 L2 S2 g2 => match cuts.any (Nat.beq pc2) with
      | true => rec sc d mm pc2 L2 S2 g2
      | false => m_seg rec cuts sc d mm k pc2 L2 S2 g2) sc d mm pc L S g
theorem ev_seg (cuts : List Nat) (sc : Option (Nat × (Nat → Int32))) (d : Nat) (mm : mM) : ∀ (k pc : Nat) (L S : List Value) (g : mG), ev sc d mm pc L S g = m_seg ev cuts sc d mm k pc L S g := by
  intro k
  induction k with
  | zero => intro pc L S g; rfl
  | succ k ih =>
    intro pc L S g
    rw [ev_fix]
    show m_gen (fun d m2 as g => ev none d m2 0 (m_ent m2.2.2.2.1 as) [] g) (ev sc d mm) sc d mm pc L S g = m_gen (fun d m2 as g => ev none d m2 0 (m_ent m2.2.2.2.1 as) [] g) (fun pc2 L2 S2 g2 => match cuts.any (Nat.beq pc2) with
      | true => ev sc d mm pc2 L2 S2 g2
      | false => m_seg ev cuts sc d mm k pc2 L2 S2 g2) sc d mm pc L S g
    have e : (ev sc d mm) = (fun pc2 L2 S2 g2 => match cuts.any (Nat.beq pc2) with
      | true => ev sc d mm pc2 L2 S2 g2
      | false => m_seg ev cuts sc d mm k pc2 L2 S2 g2) := by
      funext pc2 L2 S2 g2
      split
      · rfl
      · exact ih pc2 L2 S2 g2
    rw [← e]
end
section
set_option maxRecDepth 20000 in
theorem t1 (d : Nat) (g : mG) (x2 x3 x4 : Int32) (S : List Value) : ev none d mm_X3_worth 95 [(.ref 0), (.ref 14), (.int x2), (.int x3), (.int x4)] S g = ev none d mm_X3_worth 96 [(.ref 0), (.ref 14), (.int x2), (.int x3), (.int x4)] (.int (-1 : Int32) :: S) g := (ev_seg [96] none d mm_X3_worth 1 95 _ _ g).trans rfl
set_option maxRecDepth 20000 in
theorem t2 (d : Nat) (g : mG) (x2 x3 x4 y : Int32) (S : List Value) : ev none d mm_X3_worth 98 [(.ref 0), (.ref 14), (.int x2), (.int x3), (.int x4)] (.int x4 :: .int y :: S) g = ev none d mm_X3_worth 99 [(.ref 0), (.ref 14), (.int x2), (.int x3), (.int x4)] (.int (y - x4) :: S) g := (ev_seg [99] none d mm_X3_worth 1 98 _ _ g).trans rfl
set_option maxRecDepth 20000 in
theorem t3 (d : Nat) (g : mG) (x2 x3 x4 y : Int32) (S : List Value) : ev none d mm_X3_worth 99 [(.ref 0), (.ref 14), (.int x2), (.int x3), (.int x4)] (.int y :: .ref 14 :: S) g = m_in y 6 (ev none d mm_X3_worth 100 [(.ref 0), (.ref 14), (.int x2), (.int x3), (.int x4)] (.int (g.1 14 (Int32.toNatClampNeg y)) :: S) g) := (ev_seg [100] none d mm_X3_worth 1 99 _ _ g).trans rfl
set_option maxRecDepth 20000 in
theorem t4 (d : Nat) (g : mG) (x2 x3 x4 : Int32) (S : List Value) : ev none d mm_X3_worth 95 [(.ref 0), (.ref 14), (.int x2), (.int x3), (.int x4)] S g = ev none d mm_X3_worth 99 [(.ref 0), (.ref 14), (.int x2), (.int x3), (.int x4)] (.int ((-1 : Int32) - x4) :: S) g := (ev_seg [99] none d mm_X3_worth 3 95 _ _ g).trans rfl
set_option maxRecDepth 20000 in
theorem t5 (d : Nat) (g : mG) (x2 x3 x4 : Int32) (S : List Value) : ev none d mm_X3_worth 95 [(.ref 0), (.ref 14), (.int x2), (.int x3), (.int x4)] (.ref 14 :: S) g = m_in ((-1 : Int32) - x4) 6 (ev none d mm_X3_worth 100 [(.ref 0), (.ref 14), (.int x2), (.int x3), (.int x4)] (.int (g.1 14 (Int32.toNatClampNeg ((-1 : Int32) - x4))) :: S) g) := (ev_seg [100] none d mm_X3_worth 4 95 _ _ g).trans rfl
end
